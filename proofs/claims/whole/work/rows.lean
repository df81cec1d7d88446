section
-- ===== PART A: goes FIRST, ahead of the names: the tables' words, and 'selects' of the private methods out of them =====
/-- a private method of a class that the tables say can be made, by its rows of tables_1 -/
def lw_okq (q : MethodName × Nat) : Prop := (q.1.cls ≠ "java/lang/invoke/MethodHandle" ∧ q.1.cls ≠ "java/lang/invoke/VarHandle") ∧ Cond.instantiable q.1.cls q.2 ∈ tables_1 ∧ Cond.privateMethod q.1 ∈ tables_1 ∧ Cond.instanceMethod q.1 ∈ tables_1
theorem lw_p0 : lw_okq (⟨"BidMosaic$Kinds", "hasRoom", "(II)Z"⟩, 3) := ⟨⟨by decide +kernel, by decide +kernel⟩, List.mem_of_getElem? (i := 31) (by decide +kernel), List.mem_of_getElem? (i := 184) (by decide +kernel), List.mem_of_getElem? (i := 185) (by decide +kernel)⟩
theorem lw_p1 : lw_okq (⟨"BidMosaic$Kinds", "numberOf", "(I)I"⟩, 3) := ⟨⟨by decide +kernel, by decide +kernel⟩, List.mem_of_getElem? (i := 31) (by decide +kernel), List.mem_of_getElem? (i := 188) (by decide +kernel), List.mem_of_getElem? (i := 189) (by decide +kernel)⟩
theorem lw_p2 : lw_okq (⟨"BidMosaic$Kinds", "has", "(I)Z"⟩, 3) := ⟨⟨by decide +kernel, by decide +kernel⟩, List.mem_of_getElem? (i := 31) (by decide +kernel), List.mem_of_getElem? (i := 192) (by decide +kernel), List.mem_of_getElem? (i := 193) (by decide +kernel)⟩
theorem lw_p3 : lw_okq (⟨"BidMosaic$Kinds", "slots", "()I"⟩, 3) := ⟨⟨by decide +kernel, by decide +kernel⟩, List.mem_of_getElem? (i := 31) (by decide +kernel), List.mem_of_getElem? (i := 196) (by decide +kernel), List.mem_of_getElem? (i := 197) (by decide +kernel)⟩
theorem lw_p4 : lw_okq (⟨"BidMosaic$Kinds", "firstSlot", "(I)I"⟩, 3) := ⟨⟨by decide +kernel, by decide +kernel⟩, List.mem_of_getElem? (i := 31) (by decide +kernel), List.mem_of_getElem? (i := 200) (by decide +kernel), List.mem_of_getElem? (i := 201) (by decide +kernel)⟩
theorem lw_p5 : lw_okq (⟨"BidMosaic$Kinds", "add", "(II)I"⟩, 3) := ⟨⟨by decide +kernel, by decide +kernel⟩, List.mem_of_getElem? (i := 31) (by decide +kernel), List.mem_of_getElem? (i := 204) (by decide +kernel), List.mem_of_getElem? (i := 205) (by decide +kernel)⟩
theorem lw_p6 : lw_okq (⟨"BidMosaic$Kinds", "takeOut", "(I)V"⟩, 3) := ⟨⟨by decide +kernel, by decide +kernel⟩, List.mem_of_getElem? (i := 31) (by decide +kernel), List.mem_of_getElem? (i := 213) (by decide +kernel), List.mem_of_getElem? (i := 214) (by decide +kernel)⟩
theorem lw_p7 : lw_okq (⟨"BidMosaic$Sale", "isDone", "()Z"⟩, 10) := ⟨⟨by decide +kernel, by decide +kernel⟩, List.mem_of_getElem? (i := 70) (by decide +kernel), List.mem_of_getElem? (i := 223) (by decide +kernel), List.mem_of_getElem? (i := 224) (by decide +kernel)⟩
theorem lw_p8 : lw_okq (⟨"BidMosaic$Picture", "cellsThatHave", "(I)I"⟩, 5) := ⟨⟨by decide +kernel, by decide +kernel⟩, List.mem_of_getElem? (i := 25) (by decide +kernel), List.mem_of_getElem? (i := 227) (by decide +kernel), List.mem_of_getElem? (i := 228) (by decide +kernel)⟩
theorem lw_p9 : lw_okq (⟨"BidMosaic$Picture", "kindOf", "(I)I"⟩, 5) := ⟨⟨by decide +kernel, by decide +kernel⟩, List.mem_of_getElem? (i := 25) (by decide +kernel), List.mem_of_getElem? (i := 231) (by decide +kernel), List.mem_of_getElem? (i := 232) (by decide +kernel)⟩
theorem lw_p10 : lw_okq (⟨"BidMosaic$Sale", "slotOf", "(I)I"⟩, 10) := ⟨⟨by decide +kernel, by decide +kernel⟩, List.mem_of_getElem? (i := 70) (by decide +kernel), List.mem_of_getElem? (i := 235) (by decide +kernel), List.mem_of_getElem? (i := 236) (by decide +kernel)⟩
theorem lw_p11 : lw_okq (⟨"BidMosaic$Kinds", "ofSlot", "(I)I"⟩, 3) := ⟨⟨by decide +kernel, by decide +kernel⟩, List.mem_of_getElem? (i := 31) (by decide +kernel), List.mem_of_getElem? (i := 242) (by decide +kernel), List.mem_of_getElem? (i := 243) (by decide +kernel)⟩
theorem lw_p12 : lw_okq (⟨"BidMosaic$Cells", "add", "(I)V"⟩, 2) := ⟨⟨by decide +kernel, by decide +kernel⟩, List.mem_of_getElem? (i := 53) (by decide +kernel), List.mem_of_getElem? (i := 254) (by decide +kernel), List.mem_of_getElem? (i := 255) (by decide +kernel)⟩
theorem lw_p13 : lw_okq (⟨"BidMosaic$Cells", "has", "(I)Z"⟩, 2) := ⟨⟨by decide +kernel, by decide +kernel⟩, List.mem_of_getElem? (i := 53) (by decide +kernel), List.mem_of_getElem? (i := 262) (by decide +kernel), List.mem_of_getElem? (i := 263) (by decide +kernel)⟩
theorem lw_p14 : lw_okq (⟨"BidMosaic$Cells", "takeOut", "(I)V"⟩, 2) := ⟨⟨by decide +kernel, by decide +kernel⟩, List.mem_of_getElem? (i := 53) (by decide +kernel), List.mem_of_getElem? (i := 270) (by decide +kernel), List.mem_of_getElem? (i := 271) (by decide +kernel)⟩
theorem lw_p15 : lw_okq (⟨"BidMosaic$Picture", "apart", "(II)I"⟩, 5) := ⟨⟨by decide +kernel, by decide +kernel⟩, List.mem_of_getElem? (i := 25) (by decide +kernel), List.mem_of_getElem? (i := 279) (by decide +kernel), List.mem_of_getElem? (i := 280) (by decide +kernel)⟩
def lw_privs_1 : List (MethodName × Nat) := [(⟨"BidMosaic$Kinds", "hasRoom", "(II)Z"⟩, 3), (⟨"BidMosaic$Kinds", "numberOf", "(I)I"⟩, 3), (⟨"BidMosaic$Kinds", "has", "(I)Z"⟩, 3), (⟨"BidMosaic$Kinds", "slots", "()I"⟩, 3), (⟨"BidMosaic$Kinds", "firstSlot", "(I)I"⟩, 3), (⟨"BidMosaic$Kinds", "add", "(II)I"⟩, 3), (⟨"BidMosaic$Kinds", "takeOut", "(I)V"⟩, 3), (⟨"BidMosaic$Sale", "isDone", "()Z"⟩, 10), (⟨"BidMosaic$Picture", "cellsThatHave", "(I)I"⟩, 5), (⟨"BidMosaic$Picture", "kindOf", "(I)I"⟩, 5), (⟨"BidMosaic$Sale", "slotOf", "(I)I"⟩, 10), (⟨"BidMosaic$Kinds", "ofSlot", "(I)I"⟩, 3), (⟨"BidMosaic$Cells", "add", "(I)V"⟩, 2), (⟨"BidMosaic$Cells", "has", "(I)Z"⟩, 2), (⟨"BidMosaic$Cells", "takeOut", "(I)V"⟩, 2), (⟨"BidMosaic$Picture", "apart", "(II)I"⟩, 5)]
theorem lw_r1 : ∀ q ∈ lw_privs_1, lw_okq q := List.forall_mem_cons.mpr ⟨lw_p0, List.forall_mem_cons.mpr ⟨lw_p1, List.forall_mem_cons.mpr ⟨lw_p2, List.forall_mem_cons.mpr ⟨lw_p3, List.forall_mem_cons.mpr ⟨lw_p4, List.forall_mem_cons.mpr ⟨lw_p5, List.forall_mem_cons.mpr ⟨lw_p6, List.forall_mem_cons.mpr ⟨lw_p7, List.forall_mem_cons.mpr ⟨lw_p8, List.forall_mem_cons.mpr ⟨lw_p9, List.forall_mem_cons.mpr ⟨lw_p10, List.forall_mem_cons.mpr ⟨lw_p11, List.forall_mem_cons.mpr ⟨lw_p12, List.forall_mem_cons.mpr ⟨lw_p13, List.forall_mem_cons.mpr ⟨lw_p14, List.forall_mem_cons.mpr ⟨lw_p15, fun _ h => absurd h List.not_mem_nil⟩⟩⟩⟩⟩⟩⟩⟩⟩⟩⟩⟩⟩⟩⟩⟩
theorem lw_p16 : lw_okq (⟨"BidMosaic$Bidding", "holdAuction", "()I"⟩, 4) := ⟨⟨by decide +kernel, by decide +kernel⟩, List.mem_of_getElem? (i := 19) (by decide +kernel), List.mem_of_getElem? (i := 296) (by decide +kernel), List.mem_of_getElem? (i := 297) (by decide +kernel)⟩
theorem lw_p17 : lw_okq (⟨"BidMosaic$Bidding", "readWorths", "()V"⟩, 4) := ⟨⟨by decide +kernel, by decide +kernel⟩, List.mem_of_getElem? (i := 19) (by decide +kernel), List.mem_of_getElem? (i := 300) (by decide +kernel), List.mem_of_getElem? (i := 301) (by decide +kernel)⟩
theorem lw_p18 : lw_okq (⟨"BidMosaic$Bidding", "worth", "(II)I"⟩, 4) := ⟨⟨by decide +kernel, by decide +kernel⟩, List.mem_of_getElem? (i := 19) (by decide +kernel), List.mem_of_getElem? (i := 309) (by decide +kernel), List.mem_of_getElem? (i := 310) (by decide +kernel)⟩
theorem lw_p19 : lw_okq (⟨"BidMosaic$Sale", "begin", "()V"⟩, 10) := ⟨⟨by decide +kernel, by decide +kernel⟩, List.mem_of_getElem? (i := 70) (by decide +kernel), List.mem_of_getElem? (i := 315) (by decide +kernel), List.mem_of_getElem? (i := 316) (by decide +kernel)⟩
theorem lw_p20 : lw_okq (⟨"BidMosaic$Picture", "greatestDifference", "()I"⟩, 5) := ⟨⟨by decide +kernel, by decide +kernel⟩, List.mem_of_getElem? (i := 25) (by decide +kernel), List.mem_of_getElem? (i := 319) (by decide +kernel), List.mem_of_getElem? (i := 320) (by decide +kernel)⟩
theorem lw_p21 : lw_okq (⟨"BidMosaic$Bidding", "auctionPhase", "(I)I"⟩, 4) := ⟨⟨by decide +kernel, by decide +kernel⟩, List.mem_of_getElem? (i := 19) (by decide +kernel), List.mem_of_getElem? (i := 328) (by decide +kernel), List.mem_of_getElem? (i := 329) (by decide +kernel)⟩
theorem lw_p22 : lw_okq (⟨"BidMosaic$Sale", "freeAll", "()V"⟩, 10) := ⟨⟨by decide +kernel, by decide +kernel⟩, List.mem_of_getElem? (i := 70) (by decide +kernel), List.mem_of_getElem? (i := 332) (by decide +kernel), List.mem_of_getElem? (i := 333) (by decide +kernel)⟩
theorem lw_p23 : lw_okq (⟨"BidMosaic$Bidding", "bidTillNoneIsFree", "(I)I"⟩, 4) := ⟨⟨by decide +kernel, by decide +kernel⟩, List.mem_of_getElem? (i := 19) (by decide +kernel), List.mem_of_getElem? (i := 336) (by decide +kernel), List.mem_of_getElem? (i := 337) (by decide +kernel)⟩
theorem lw_p24 : lw_okq (⟨"BidMosaic$Bidding", "leastFree", "()I"⟩, 4) := ⟨⟨by decide +kernel, by decide +kernel⟩, List.mem_of_getElem? (i := 19) (by decide +kernel), List.mem_of_getElem? (i := 341) (by decide +kernel), List.mem_of_getElem? (i := 342) (by decide +kernel)⟩
theorem lw_p25 : lw_okq (⟨"BidMosaic$Bidding", "makeBid", "(II)V"⟩, 4) := ⟨⟨by decide +kernel, by decide +kernel⟩, List.mem_of_getElem? (i := 19) (by decide +kernel), List.mem_of_getElem? (i := 345) (by decide +kernel), List.mem_of_getElem? (i := 346) (by decide +kernel)⟩
theorem lw_p26 : lw_okq (⟨"BidMosaic$Sale", "give", "(II)V"⟩, 10) := ⟨⟨by decide +kernel, by decide +kernel⟩, List.mem_of_getElem? (i := 70) (by decide +kernel), List.mem_of_getElem? (i := 350) (by decide +kernel), List.mem_of_getElem? (i := 351) (by decide +kernel)⟩
theorem lw_p27 : lw_okq (⟨"BidMosaic$Picture", "sumOfDifferences", "()I"⟩, 5) := ⟨⟨by decide +kernel, by decide +kernel⟩, List.mem_of_getElem? (i := 25) (by decide +kernel), List.mem_of_getElem? (i := 354) (by decide +kernel), List.mem_of_getElem? (i := 355) (by decide +kernel)⟩
theorem lw_p28 : lw_okq (⟨"BidMosaic$Sale", "notePhase", "(III)V"⟩, 10) := ⟨⟨by decide +kernel, by decide +kernel⟩, List.mem_of_getElem? (i := 70) (by decide +kernel), List.mem_of_getElem? (i := 358) (by decide +kernel), List.mem_of_getElem? (i := 359) (by decide +kernel)⟩
theorem lw_p29 : lw_okq (⟨"BidMosaic$Sale", "finish", "(I)V"⟩, 10) := ⟨⟨by decide +kernel, by decide +kernel⟩, List.mem_of_getElem? (i := 70) (by decide +kernel), List.mem_of_getElem? (i := 362) (by decide +kernel), List.mem_of_getElem? (i := 363) (by decide +kernel)⟩
theorem lw_p30 : lw_okq (⟨"BidMosaic$Bidding", "mend", "()I"⟩, 4) := ⟨⟨by decide +kernel, by decide +kernel⟩, List.mem_of_getElem? (i := 19) (by decide +kernel), List.mem_of_getElem? (i := 370) (by decide +kernel), List.mem_of_getElem? (i := 371) (by decide +kernel)⟩
theorem lw_p31 : lw_okq (⟨"BidMosaic$Bidding", "ownGain", "(I)I"⟩, 4) := ⟨⟨by decide +kernel, by decide +kernel⟩, List.mem_of_getElem? (i := 19) (by decide +kernel), List.mem_of_getElem? (i := 374) (by decide +kernel), List.mem_of_getElem? (i := 375) (by decide +kernel)⟩
def lw_privs_2 : List (MethodName × Nat) := [(⟨"BidMosaic$Bidding", "holdAuction", "()I"⟩, 4), (⟨"BidMosaic$Bidding", "readWorths", "()V"⟩, 4), (⟨"BidMosaic$Bidding", "worth", "(II)I"⟩, 4), (⟨"BidMosaic$Sale", "begin", "()V"⟩, 10), (⟨"BidMosaic$Picture", "greatestDifference", "()I"⟩, 5), (⟨"BidMosaic$Bidding", "auctionPhase", "(I)I"⟩, 4), (⟨"BidMosaic$Sale", "freeAll", "()V"⟩, 10), (⟨"BidMosaic$Bidding", "bidTillNoneIsFree", "(I)I"⟩, 4), (⟨"BidMosaic$Bidding", "leastFree", "()I"⟩, 4), (⟨"BidMosaic$Bidding", "makeBid", "(II)V"⟩, 4), (⟨"BidMosaic$Sale", "give", "(II)V"⟩, 10), (⟨"BidMosaic$Picture", "sumOfDifferences", "()I"⟩, 5), (⟨"BidMosaic$Sale", "notePhase", "(III)V"⟩, 10), (⟨"BidMosaic$Sale", "finish", "(I)V"⟩, 10), (⟨"BidMosaic$Bidding", "mend", "()I"⟩, 4), (⟨"BidMosaic$Bidding", "ownGain", "(I)I"⟩, 4)]
theorem lw_r2 : ∀ q ∈ lw_privs_2, lw_okq q := List.forall_mem_cons.mpr ⟨lw_p16, List.forall_mem_cons.mpr ⟨lw_p17, List.forall_mem_cons.mpr ⟨lw_p18, List.forall_mem_cons.mpr ⟨lw_p19, List.forall_mem_cons.mpr ⟨lw_p20, List.forall_mem_cons.mpr ⟨lw_p21, List.forall_mem_cons.mpr ⟨lw_p22, List.forall_mem_cons.mpr ⟨lw_p23, List.forall_mem_cons.mpr ⟨lw_p24, List.forall_mem_cons.mpr ⟨lw_p25, List.forall_mem_cons.mpr ⟨lw_p26, List.forall_mem_cons.mpr ⟨lw_p27, List.forall_mem_cons.mpr ⟨lw_p28, List.forall_mem_cons.mpr ⟨lw_p29, List.forall_mem_cons.mpr ⟨lw_p30, List.forall_mem_cons.mpr ⟨lw_p31, fun _ h => absurd h List.not_mem_nil⟩⟩⟩⟩⟩⟩⟩⟩⟩⟩⟩⟩⟩⟩⟩⟩
theorem lw_p32 : lw_okq (⟨"BidMosaic$Bidding", "gainOf", "(II)I"⟩, 4) := ⟨⟨by decide +kernel, by decide +kernel⟩, List.mem_of_getElem? (i := 19) (by decide +kernel), List.mem_of_getElem? (i := 379) (by decide +kernel), List.mem_of_getElem? (i := 380) (by decide +kernel)⟩
theorem lw_p33 : lw_okq (⟨"BidMosaic$Bidding", "greatestGain", "(I)I"⟩, 4) := ⟨⟨by decide +kernel, by decide +kernel⟩, List.mem_of_getElem? (i := 19) (by decide +kernel), List.mem_of_getElem? (i := 383) (by decide +kernel), List.mem_of_getElem? (i := 384) (by decide +kernel)⟩
theorem lw_p34 : lw_okq (⟨"BidMosaic$Sale", "setFree", "(I)V"⟩, 10) := ⟨⟨by decide +kernel, by decide +kernel⟩, List.mem_of_getElem? (i := 70) (by decide +kernel), List.mem_of_getElem? (i := 387) (by decide +kernel), List.mem_of_getElem? (i := 388) (by decide +kernel)⟩
theorem lw_p35 : lw_okq (⟨"BidMosaic$Sale", "hasPhase", "(I)Z"⟩, 10) := ⟨⟨by decide +kernel, by decide +kernel⟩, List.mem_of_getElem? (i := 70) (by decide +kernel), List.mem_of_getElem? (i := 395) (by decide +kernel), List.mem_of_getElem? (i := 396) (by decide +kernel)⟩
theorem lw_p36 : lw_okq (⟨"BidMosaic$Picture", "cellOf", "(I)I"⟩, 5) := ⟨⟨by decide +kernel, by decide +kernel⟩, List.mem_of_getElem? (i := 25) (by decide +kernel), List.mem_of_getElem? (i := 410) (by decide +kernel), List.mem_of_getElem? (i := 411) (by decide +kernel)⟩
theorem lw_p37 : lw_okq (⟨"BidMosaic$Picture", "copyFrom", "(LBidMosaic$Picture;)V"⟩, 5) := ⟨⟨by decide +kernel, by decide +kernel⟩, List.mem_of_getElem? (i := 25) (by decide +kernel), List.mem_of_getElem? (i := 435) (by decide +kernel), List.mem_of_getElem? (i := 436) (by decide +kernel)⟩
theorem lw_p38 : lw_okq (⟨"BidMosaic$Kinds", "copyFrom", "(LBidMosaic$Kinds;)V"⟩, 3) := ⟨⟨by decide +kernel, by decide +kernel⟩, List.mem_of_getElem? (i := 31) (by decide +kernel), List.mem_of_getElem? (i := 439) (by decide +kernel), List.mem_of_getElem? (i := 440) (by decide +kernel)⟩
theorem lw_p39 : lw_okq (⟨"BidMosaic$Cells", "copyFrom", "(LBidMosaic$Cells;)V"⟩, 2) := ⟨⟨by decide +kernel, by decide +kernel⟩, List.mem_of_getElem? (i := 53) (by decide +kernel), List.mem_of_getElem? (i := 446) (by decide +kernel), List.mem_of_getElem? (i := 447) (by decide +kernel)⟩
theorem lw_p40 : lw_okq (⟨"BidMosaic$Sale", "copyFrom", "(LBidMosaic$Sale;)V"⟩, 10) := ⟨⟨by decide +kernel, by decide +kernel⟩, List.mem_of_getElem? (i := 70) (by decide +kernel), List.mem_of_getElem? (i := 451) (by decide +kernel), List.mem_of_getElem? (i := 452) (by decide +kernel)⟩
theorem lw_p41 : lw_okq (⟨"BidMosaic", "toldOfCell", "(I)I"⟩, 3) := ⟨⟨by decide +kernel, by decide +kernel⟩, List.mem_of_getElem? (i := 11) (by decide +kernel), List.mem_of_getElem? (i := 464) (by decide +kernel), List.mem_of_getElem? (i := 465) (by decide +kernel)⟩
theorem lw_p42 : lw_okq (⟨"BidMosaicModel", "end", "()V"⟩, 15) := ⟨⟨by decide +kernel, by decide +kernel⟩, List.mem_of_getElem? (i := 468) (by decide +kernel), List.mem_of_getElem? (i := 528) (by decide +kernel), List.mem_of_getElem? (i := 529) (by decide +kernel)⟩
theorem lw_p43 : lw_okq (⟨"BidMosaicModel", "kindOf", "(I)I"⟩, 15) := ⟨⟨by decide +kernel, by decide +kernel⟩, List.mem_of_getElem? (i := 468) (by decide +kernel), List.mem_of_getElem? (i := 547) (by decide +kernel), List.mem_of_getElem? (i := 548) (by decide +kernel)⟩
theorem lw_p44 : lw_okq (⟨"BidMosaicModel", "kinds", "()I"⟩, 15) := ⟨⟨by decide +kernel, by decide +kernel⟩, List.mem_of_getElem? (i := 468) (by decide +kernel), List.mem_of_getElem? (i := 551) (by decide +kernel), List.mem_of_getElem? (i := 552) (by decide +kernel)⟩
theorem lw_p45 : lw_okq (⟨"BidMosaicModel", "stocks", "()I"⟩, 15) := ⟨⟨by decide +kernel, by decide +kernel⟩, List.mem_of_getElem? (i := 468) (by decide +kernel), List.mem_of_getElem? (i := 555) (by decide +kernel), List.mem_of_getElem? (i := 556) (by decide +kernel)⟩
theorem lw_p46 : lw_okq (⟨"BidMosaicModel", "firstSlot", "(I)I"⟩, 15) := ⟨⟨by decide +kernel, by decide +kernel⟩, List.mem_of_getElem? (i := 468) (by decide +kernel), List.mem_of_getElem? (i := 567) (by decide +kernel), List.mem_of_getElem? (i := 568) (by decide +kernel)⟩
theorem lw_p47 : lw_okq (⟨"BidMosaicModel", "having", "(I)I"⟩, 15) := ⟨⟨by decide +kernel, by decide +kernel⟩, List.mem_of_getElem? (i := 468) (by decide +kernel), List.mem_of_getElem? (i := 571) (by decide +kernel), List.mem_of_getElem? (i := 572) (by decide +kernel)⟩
def lw_privs_3 : List (MethodName × Nat) := [(⟨"BidMosaic$Bidding", "gainOf", "(II)I"⟩, 4), (⟨"BidMosaic$Bidding", "greatestGain", "(I)I"⟩, 4), (⟨"BidMosaic$Sale", "setFree", "(I)V"⟩, 10), (⟨"BidMosaic$Sale", "hasPhase", "(I)Z"⟩, 10), (⟨"BidMosaic$Picture", "cellOf", "(I)I"⟩, 5), (⟨"BidMosaic$Picture", "copyFrom", "(LBidMosaic$Picture;)V"⟩, 5), (⟨"BidMosaic$Kinds", "copyFrom", "(LBidMosaic$Kinds;)V"⟩, 3), (⟨"BidMosaic$Cells", "copyFrom", "(LBidMosaic$Cells;)V"⟩, 2), (⟨"BidMosaic$Sale", "copyFrom", "(LBidMosaic$Sale;)V"⟩, 10), (⟨"BidMosaic", "toldOfCell", "(I)I"⟩, 3), (⟨"BidMosaicModel", "end", "()V"⟩, 15), (⟨"BidMosaicModel", "kindOf", "(I)I"⟩, 15), (⟨"BidMosaicModel", "kinds", "()I"⟩, 15), (⟨"BidMosaicModel", "stocks", "()I"⟩, 15), (⟨"BidMosaicModel", "firstSlot", "(I)I"⟩, 15), (⟨"BidMosaicModel", "having", "(I)I"⟩, 15)]
theorem lw_r3 : ∀ q ∈ lw_privs_3, lw_okq q := List.forall_mem_cons.mpr ⟨lw_p32, List.forall_mem_cons.mpr ⟨lw_p33, List.forall_mem_cons.mpr ⟨lw_p34, List.forall_mem_cons.mpr ⟨lw_p35, List.forall_mem_cons.mpr ⟨lw_p36, List.forall_mem_cons.mpr ⟨lw_p37, List.forall_mem_cons.mpr ⟨lw_p38, List.forall_mem_cons.mpr ⟨lw_p39, List.forall_mem_cons.mpr ⟨lw_p40, List.forall_mem_cons.mpr ⟨lw_p41, List.forall_mem_cons.mpr ⟨lw_p42, List.forall_mem_cons.mpr ⟨lw_p43, List.forall_mem_cons.mpr ⟨lw_p44, List.forall_mem_cons.mpr ⟨lw_p45, List.forall_mem_cons.mpr ⟨lw_p46, List.forall_mem_cons.mpr ⟨lw_p47, fun _ h => absurd h List.not_mem_nil⟩⟩⟩⟩⟩⟩⟩⟩⟩⟩⟩⟩⟩⟩⟩⟩
theorem lw_p48 : lw_okq (⟨"BidMosaicModel", "cells", "()I"⟩, 15) := ⟨⟨by decide +kernel, by decide +kernel⟩, List.mem_of_getElem? (i := 468) (by decide +kernel), List.mem_of_getElem? (i := 575) (by decide +kernel), List.mem_of_getElem? (i := 576) (by decide +kernel)⟩
theorem lw_p49 : lw_okq (⟨"BidMosaicModel", "isDone", "()Z"⟩, 15) := ⟨⟨by decide +kernel, by decide +kernel⟩, List.mem_of_getElem? (i := 468) (by decide +kernel), List.mem_of_getElem? (i := 579) (by decide +kernel), List.mem_of_getElem? (i := 580) (by decide +kernel)⟩
theorem lw_p50 : lw_okq (⟨"BidMosaicModel", "isCell", "(I)Z"⟩, 15) := ⟨⟨by decide +kernel, by decide +kernel⟩, List.mem_of_getElem? (i := 468) (by decide +kernel), List.mem_of_getElem? (i := 595) (by decide +kernel), List.mem_of_getElem? (i := 596) (by decide +kernel)⟩
theorem lw_p51 : lw_okq (⟨"BidMosaicModel", "differenceOf", "(II)I"⟩, 15) := ⟨⟨by decide +kernel, by decide +kernel⟩, List.mem_of_getElem? (i := 468) (by decide +kernel), List.mem_of_getElem? (i := 607) (by decide +kernel), List.mem_of_getElem? (i := 608) (by decide +kernel)⟩
theorem lw_p52 : lw_okq (⟨"BidMosaicModel", "laySlots", "()V"⟩, 15) := ⟨⟨by decide +kernel, by decide +kernel⟩, List.mem_of_getElem? (i := 468) (by decide +kernel), List.mem_of_getElem? (i := 615) (by decide +kernel), List.mem_of_getElem? (i := 616) (by decide +kernel)⟩
theorem lw_p53 : lw_okq (⟨"BidMosaicModel", "greatest", "()I"⟩, 15) := ⟨⟨by decide +kernel, by decide +kernel⟩, List.mem_of_getElem? (i := 468) (by decide +kernel), List.mem_of_getElem? (i := 619) (by decide +kernel), List.mem_of_getElem? (i := 620) (by decide +kernel)⟩
theorem lw_p54 : lw_okq (⟨"BidMosaicModel", "freeAll", "()V"⟩, 15) := ⟨⟨by decide +kernel, by decide +kernel⟩, List.mem_of_getElem? (i := 468) (by decide +kernel), List.mem_of_getElem? (i := 626) (by decide +kernel), List.mem_of_getElem? (i := 627) (by decide +kernel)⟩
theorem lw_p55 : lw_okq (⟨"BidMosaicModel", "phaseOf", "(I)I"⟩, 15) := ⟨⟨by decide +kernel, by decide +kernel⟩, List.mem_of_getElem? (i := 468) (by decide +kernel), List.mem_of_getElem? (i := 630) (by decide +kernel), List.mem_of_getElem? (i := 631) (by decide +kernel)⟩
theorem lw_p56 : lw_okq (⟨"BidMosaicModel", "firstFree", "()I"⟩, 15) := ⟨⟨by decide +kernel, by decide +kernel⟩, List.mem_of_getElem? (i := 468) (by decide +kernel), List.mem_of_getElem? (i := 634) (by decide +kernel), List.mem_of_getElem? (i := 635) (by decide +kernel)⟩
theorem lw_p57 : lw_okq (⟨"BidMosaicModel", "bid", "(II)V"⟩, 15) := ⟨⟨by decide +kernel, by decide +kernel⟩, List.mem_of_getElem? (i := 468) (by decide +kernel), List.mem_of_getElem? (i := 638) (by decide +kernel), List.mem_of_getElem? (i := 639) (by decide +kernel)⟩
theorem lw_p58 : lw_okq (⟨"BidMosaicModel", "bestFor", "(II)I"⟩, 15) := ⟨⟨by decide +kernel, by decide +kernel⟩, List.mem_of_getElem? (i := 468) (by decide +kernel), List.mem_of_getElem? (i := 642) (by decide +kernel), List.mem_of_getElem? (i := 643) (by decide +kernel)⟩
theorem lw_p59 : lw_okq (⟨"BidMosaicModel", "gainOf", "(II)I"⟩, 15) := ⟨⟨by decide +kernel, by decide +kernel⟩, List.mem_of_getElem? (i := 468) (by decide +kernel), List.mem_of_getElem? (i := 646) (by decide +kernel), List.mem_of_getElem? (i := 647) (by decide +kernel)⟩
theorem lw_p60 : lw_okq (⟨"BidMosaicModel", "sumOf", "()I"⟩, 15) := ⟨⟨by decide +kernel, by decide +kernel⟩, List.mem_of_getElem? (i := 468) (by decide +kernel), List.mem_of_getElem? (i := 650) (by decide +kernel), List.mem_of_getElem? (i := 651) (by decide +kernel)⟩
theorem lw_p61 : lw_okq (⟨"BidMosaicModel", "isValid", "()Z"⟩, 15) := ⟨⟨by decide +kernel, by decide +kernel⟩, List.mem_of_getElem? (i := 468) (by decide +kernel), List.mem_of_getElem? (i := 658) (by decide +kernel), List.mem_of_getElem? (i := 659) (by decide +kernel)⟩
theorem lw_p62 : lw_okq (⟨"BidMosaicModel", "passAll", "()V"⟩, 15) := ⟨⟨by decide +kernel, by decide +kernel⟩, List.mem_of_getElem? (i := 468) (by decide +kernel), List.mem_of_getElem? (i := 689) (by decide +kernel), List.mem_of_getElem? (i := 690) (by decide +kernel)⟩
theorem lw_p63 : lw_okq (⟨"BidMosaicModel", "passRow", "([II)V"⟩, 15) := ⟨⟨by decide +kernel, by decide +kernel⟩, List.mem_of_getElem? (i := 468) (by decide +kernel), List.mem_of_getElem? (i := 693) (by decide +kernel), List.mem_of_getElem? (i := 694) (by decide +kernel)⟩
def lw_privs_4 : List (MethodName × Nat) := [(⟨"BidMosaicModel", "cells", "()I"⟩, 15), (⟨"BidMosaicModel", "isDone", "()Z"⟩, 15), (⟨"BidMosaicModel", "isCell", "(I)Z"⟩, 15), (⟨"BidMosaicModel", "differenceOf", "(II)I"⟩, 15), (⟨"BidMosaicModel", "laySlots", "()V"⟩, 15), (⟨"BidMosaicModel", "greatest", "()I"⟩, 15), (⟨"BidMosaicModel", "freeAll", "()V"⟩, 15), (⟨"BidMosaicModel", "phaseOf", "(I)I"⟩, 15), (⟨"BidMosaicModel", "firstFree", "()I"⟩, 15), (⟨"BidMosaicModel", "bid", "(II)V"⟩, 15), (⟨"BidMosaicModel", "bestFor", "(II)I"⟩, 15), (⟨"BidMosaicModel", "gainOf", "(II)I"⟩, 15), (⟨"BidMosaicModel", "sumOf", "()I"⟩, 15), (⟨"BidMosaicModel", "isValid", "()Z"⟩, 15), (⟨"BidMosaicModel", "passAll", "()V"⟩, 15), (⟨"BidMosaicModel", "passRow", "([II)V"⟩, 15)]
theorem lw_r4 : ∀ q ∈ lw_privs_4, lw_okq q := List.forall_mem_cons.mpr ⟨lw_p48, List.forall_mem_cons.mpr ⟨lw_p49, List.forall_mem_cons.mpr ⟨lw_p50, List.forall_mem_cons.mpr ⟨lw_p51, List.forall_mem_cons.mpr ⟨lw_p52, List.forall_mem_cons.mpr ⟨lw_p53, List.forall_mem_cons.mpr ⟨lw_p54, List.forall_mem_cons.mpr ⟨lw_p55, List.forall_mem_cons.mpr ⟨lw_p56, List.forall_mem_cons.mpr ⟨lw_p57, List.forall_mem_cons.mpr ⟨lw_p58, List.forall_mem_cons.mpr ⟨lw_p59, List.forall_mem_cons.mpr ⟨lw_p60, List.forall_mem_cons.mpr ⟨lw_p61, List.forall_mem_cons.mpr ⟨lw_p62, List.forall_mem_cons.mpr ⟨lw_p63, fun _ h => absurd h List.not_mem_nil⟩⟩⟩⟩⟩⟩⟩⟩⟩⟩⟩⟩⟩⟩⟩⟩
def lw_privs : List (MethodName × Nat) := lw_privs_1 ++ (lw_privs_2 ++ (lw_privs_3 ++ (lw_privs_4)))
def lw_tbl : List Cond := k2_sels lw_privs ++ tables_1
theorem lw_privs_ok : ∀ q ∈ lw_privs, lw_okq q := by
  show ∀ q ∈ lw_privs_1 ++ (lw_privs_2 ++ (lw_privs_3 ++ (lw_privs_4))), lw_okq q
  exact List.forall_mem_append.mpr ⟨lw_r1, List.forall_mem_append.mpr ⟨lw_r2, List.forall_mem_append.mpr ⟨lw_r3, lw_r4⟩⟩⟩
end
section
/-! ===== BEGIN words of one list among another's, by their places ===== -/
theorem goodIn_r {big : List Cond} (ws : List Cond) (ps : List Nat) (hp : ws = ps.filterMap (fun i => big[i]?)) (h : ws.all goodWord = true) : GoodIn big ws := by
  intro w hw
  have h1 := List.all_eq_true.mp h w hw
  rw [hp] at hw
  obtain ⟨i, -, hi⟩ := List.mem_filterMap.mp hw
  have hm : w ∈ big := by first | exact List.mem_of_getElem? hi | exact List.getElem?_mem hi
  exact ⟨hm, good_of_word h1⟩
theorem goodIn_app {big a b : List Cond} (ha : GoodIn big a) (hb : GoodIn big b) : GoodIn big (a ++ b) := fun w h => (List.mem_append.mp h).elim (ha w) (hb w)
theorem goodIn_ca {big a b : List Cond} {c : Cond} (ha : GoodIn big (c :: a)) (hb : GoodIn big b) : GoodIn big (c :: (a ++ b)) := fun w h => (List.mem_cons.mp h).elim (fun e => ha w (List.mem_cons.mpr (Or.inl e))) (fun h => (List.mem_append.mp h).elim (fun h => ha w (List.mem_cons.mpr (Or.inr h))) (hb w))
theorem goodIn_sub {big ws : List Cond} (hm : ∀ w ∈ ws, w ∈ big) (h : ws.all goodWord = true) : GoodIn big ws := fun w hw => ⟨hm w hw, good_of_word (List.all_eq_true.mp h w hw)⟩
/-! ===== END ===== -/

/-! ===== BEGIN printed: names, fields, word lists, decode rows ===== -/
def RX0 : String := "BidMosaic$Bidding"
def TX0 : u_T := fun k => match k with
  | 0 => ("BidMosaic$Bidding", "picture", "LBidMosaic$Picture;", true)
  | 1 => ("BidMosaic$Bidding", "sale", "LBidMosaic$Sale;", true)
  | 2 => ("BidMosaic$Bidding", "worths", "[I", true)
  | _ => ("BidMosaic$Bidding", "slots", "I", false)
def tyX0 : Nat → FieldType := fun k => match k with
  | 0 => .object "BidMosaic$Picture"
  | 1 => .object "BidMosaic$Sale"
  | 2 => .array .int
  | _ => .int
abbrev wsX00 : List Cond := u_ws RX0 TX0 4
theorem nmX0 : ∀ a, a < 4 → ∀ b, b < 4 → a ≠ b → (TX0 a).2.1 ≠ (TX0 b).2.1 := by decide +kernel
theorem tyX0_ok : ∀ k, k < 4 → parseFieldDescriptor (TX0 k).2.2.1 = some (tyX0 k) := by decide +kernel
abbrev cX0_init : ByteArray := prog_2_method_1_code
def yX0_init : MethodName := ⟨RX0, "<init>", "()V"⟩
abbrev cX0_readWorths : ByteArray := prog_2_method_2_code
def yX0_readWorths : MethodName := ⟨RX0, "readWorths", "()V"⟩
abbrev cX0_worth : ByteArray := prog_2_method_3_code
def yX0_worth : MethodName := ⟨RX0, "worth", "(II)I"⟩
abbrev cX0_holdAuction : ByteArray := prog_2_method_4_code
def yX0_holdAuction : MethodName := ⟨RX0, "holdAuction", "()I"⟩
abbrev cX0_auctionPhase : ByteArray := prog_2_method_5_code
def yX0_auctionPhase : MethodName := ⟨RX0, "auctionPhase", "(I)I"⟩
abbrev cX0_mend : ByteArray := prog_2_method_6_code
def yX0_mend : MethodName := ⟨RX0, "mend", "()I"⟩
abbrev cX0_bidTillNoneIsFree : ByteArray := prog_2_method_7_code
def yX0_bidTillNoneIsFree : MethodName := ⟨RX0, "bidTillNoneIsFree", "(I)I"⟩
abbrev cX0_leastFree : ByteArray := prog_2_method_8_code
def yX0_leastFree : MethodName := ⟨RX0, "leastFree", "()I"⟩
abbrev cX0_makeBid : ByteArray := prog_2_method_9_code
def yX0_makeBid : MethodName := ⟨RX0, "makeBid", "(II)V"⟩
abbrev cX0_gainOf : ByteArray := prog_2_method_10_code
def yX0_gainOf : MethodName := ⟨RX0, "gainOf", "(II)I"⟩
abbrev cX0_ownGain : ByteArray := prog_2_method_11_code
def yX0_ownGain : MethodName := ⟨RX0, "ownGain", "(I)I"⟩
abbrev cX0_greatestGain : ByteArray := prog_2_method_12_code
def yX0_greatestGain : MethodName := ⟨RX0, "greatestGain", "(I)I"⟩
def RX1 : String := "BidMosaic$Cells"
def TX1 : u_T := fun k => match k with
  | 0 => ("BidMosaic$Cells", "count", "I", false)
  | _ => ("BidMosaic$Cells", "dots", "[I", true)
def tyX1 : Nat → FieldType := fun k => match k with
  | 0 => .int
  | _ => .array .int
abbrev wsX10 : List Cond := u_ws RX1 TX1 2
theorem nmX1 : ∀ a, a < 2 → ∀ b, b < 2 → a ≠ b → (TX1 a).2.1 ≠ (TX1 b).2.1 := by decide +kernel
theorem tyX1_ok : ∀ k, k < 2 → parseFieldDescriptor (TX1 k).2.2.1 = some (tyX1 k) := by decide +kernel
abbrev cX1_init : ByteArray := prog_3_method_1_code
def yX1_init : MethodName := ⟨RX1, "<init>", "()V"⟩
abbrev cX1_has : ByteArray := prog_3_method_2_code
def yX1_has : MethodName := ⟨RX1, "has", "(I)Z"⟩
abbrev cX1_add : ByteArray := prog_3_method_3_code
def yX1_add : MethodName := ⟨RX1, "add", "(I)V"⟩
abbrev cX1_takeOut : ByteArray := prog_3_method_4_code
def yX1_takeOut : MethodName := ⟨RX1, "takeOut", "(I)V"⟩
abbrev cX1_copyFrom : ByteArray := prog_3_method_5_code
def yX1_copyFrom : MethodName := ⟨RX1, "copyFrom", "(LBidMosaic$Cells;)V"⟩
def RX2 : String := "BidMosaic$Kinds"
def TX2 : u_T := fun k => match k with
  | 0 => ("BidMosaic$Kinds", "count", "I", false)
  | 1 => ("BidMosaic$Kinds", "dots", "[I", true)
  | _ => ("BidMosaic$Kinds", "stocks", "[I", true)
def tyX2 : Nat → FieldType := fun k => match k with
  | 0 => .int
  | 1 => .array .int
  | _ => .array .int
abbrev wsX20 : List Cond := u_ws RX2 TX2 3
theorem nmX2 : ∀ a, a < 3 → ∀ b, b < 3 → a ≠ b → (TX2 a).2.1 ≠ (TX2 b).2.1 := by decide +kernel
theorem tyX2_ok : ∀ k, k < 3 → parseFieldDescriptor (TX2 k).2.2.1 = some (tyX2 k) := by decide +kernel
abbrev cX2_init : ByteArray := prog_4_method_1_code
def yX2_init : MethodName := ⟨RX2, "<init>", "()V"⟩
abbrev cX2_has : ByteArray := prog_4_method_2_code
def yX2_has : MethodName := ⟨RX2, "has", "(I)Z"⟩
abbrev cX2_numberOf : ByteArray := prog_4_method_3_code
def yX2_numberOf : MethodName := ⟨RX2, "numberOf", "(I)I"⟩
abbrev cX2_slots : ByteArray := prog_4_method_4_code
def yX2_slots : MethodName := ⟨RX2, "slots", "()I"⟩
abbrev cX2_firstSlot : ByteArray := prog_4_method_5_code
def yX2_firstSlot : MethodName := ⟨RX2, "firstSlot", "(I)I"⟩
abbrev cX2_ofSlot : ByteArray := prog_4_method_6_code
def yX2_ofSlot : MethodName := ⟨RX2, "ofSlot", "(I)I"⟩
abbrev cX2_hasRoom : ByteArray := prog_4_method_7_code
def yX2_hasRoom : MethodName := ⟨RX2, "hasRoom", "(II)Z"⟩
abbrev cX2_add : ByteArray := prog_4_method_8_code
def yX2_add : MethodName := ⟨RX2, "add", "(II)I"⟩
abbrev cX2_takeOut : ByteArray := prog_4_method_9_code
def yX2_takeOut : MethodName := ⟨RX2, "takeOut", "(I)V"⟩
abbrev cX2_copyFrom : ByteArray := prog_4_method_10_code
def yX2_copyFrom : MethodName := ⟨RX2, "copyFrom", "(LBidMosaic$Kinds;)V"⟩
def RX3 : String := "BidMosaic$Picture"
def TX3 : u_T := fun k => match k with
  | 0 => ("BidMosaic$Picture", "mode", "I", false)
  | 1 => ("BidMosaic$Picture", "shrink", "I", false)
  | 2 => ("BidMosaic$Picture", "kinds", "LBidMosaic$Kinds;", true)
  | 3 => ("BidMosaic$Picture", "cells", "LBidMosaic$Cells;", true)
  | _ => ("BidMosaic$Picture", "sale", "LBidMosaic$Sale;", true)
def tyX3 : Nat → FieldType := fun k => match k with
  | 0 => .int
  | 1 => .int
  | 2 => .object "BidMosaic$Kinds"
  | 3 => .object "BidMosaic$Cells"
  | _ => .object "BidMosaic$Sale"
abbrev wsX30 : List Cond := u_ws RX3 TX3 5
theorem nmX3 : ∀ a, a < 5 → ∀ b, b < 5 → a ≠ b → (TX3 a).2.1 ≠ (TX3 b).2.1 := by decide +kernel
theorem tyX3_ok : ∀ k, k < 5 → parseFieldDescriptor (TX3 k).2.2.1 = some (tyX3 k) := by decide +kernel
abbrev cX3_init : ByteArray := prog_5_method_1_code
def yX3_init : MethodName := ⟨RX3, "<init>", "()V"⟩
abbrev cX3_apart : ByteArray := prog_5_method_2_code
def yX3_apart : MethodName := ⟨RX3, "apart", "(II)I"⟩
abbrev cX3_greatestDifference : ByteArray := prog_5_method_3_code
def yX3_greatestDifference : MethodName := ⟨RX3, "greatestDifference", "()I"⟩
abbrev cX3_kindOf : ByteArray := prog_5_method_4_code
def yX3_kindOf : MethodName := ⟨RX3, "kindOf", "(I)I"⟩
abbrev cX3_cellOf : ByteArray := prog_5_method_5_code
def yX3_cellOf : MethodName := ⟨RX3, "cellOf", "(I)I"⟩
abbrev cX3_cellsThatHave : ByteArray := prog_5_method_6_code
def yX3_cellsThatHave : MethodName := ⟨RX3, "cellsThatHave", "(I)I"⟩
abbrev cX3_sumOfDifferences : ByteArray := prog_5_method_7_code
def yX3_sumOfDifferences : MethodName := ⟨RX3, "sumOfDifferences", "()I"⟩
abbrev cX3_copyFrom : ByteArray := prog_5_method_8_code
def yX3_copyFrom : MethodName := ⟨RX3, "copyFrom", "(LBidMosaic$Picture;)V"⟩
def RX4 : String := "BidMosaic$Sale"
def TX4 : u_T := fun k => match k with
  | 0 => ("BidMosaic$Sale", "valid", "Z", false)
  | 1 => ("BidMosaic$Sale", "content", "Z", false)
  | 2 => ("BidMosaic$Sale", "bids", "I", false)
  | 3 => ("BidMosaic$Sale", "phases", "I", false)
  | 4 => ("BidMosaic$Sale", "prices", "[I", true)
  | 5 => ("BidMosaic$Sale", "holders", "[I", true)
  | 6 => ("BidMosaic$Sale", "held", "[I", true)
  | 7 => ("BidMosaic$Sale", "steps", "[I", true)
  | 8 => ("BidMosaic$Sale", "phaseBids", "[I", true)
  | _ => ("BidMosaic$Sale", "phaseSums", "[I", true)
def tyX4 : Nat → FieldType := fun k => match k with
  | 0 => .boolean
  | 1 => .boolean
  | 2 => .int
  | 3 => .int
  | 4 => .array .int
  | 5 => .array .int
  | 6 => .array .int
  | 7 => .array .int
  | 8 => .array .int
  | _ => .array .int
abbrev wsX40 : List Cond := u_ws RX4 TX4 10
theorem nmX4 : ∀ a, a < 10 → ∀ b, b < 10 → a ≠ b → (TX4 a).2.1 ≠ (TX4 b).2.1 := by decide +kernel
theorem tyX4_ok : ∀ k, k < 10 → parseFieldDescriptor (TX4 k).2.2.1 = some (tyX4 k) := by decide +kernel
abbrev cX4_init : ByteArray := prog_6_method_1_code
def yX4_init : MethodName := ⟨RX4, "<init>", "()V"⟩
abbrev cX4_isDone : ByteArray := prog_6_method_2_code
def yX4_isDone : MethodName := ⟨RX4, "isDone", "()Z"⟩
abbrev cX4_hasPhase : ByteArray := prog_6_method_3_code
def yX4_hasPhase : MethodName := ⟨RX4, "hasPhase", "(I)Z"⟩
abbrev cX4_begin : ByteArray := prog_6_method_4_code
def yX4_begin : MethodName := ⟨RX4, "begin", "()V"⟩
abbrev cX4_finish : ByteArray := prog_6_method_5_code
def yX4_finish : MethodName := ⟨RX4, "finish", "(I)V"⟩
abbrev cX4_notePhase : ByteArray := prog_6_method_6_code
def yX4_notePhase : MethodName := ⟨RX4, "notePhase", "(III)V"⟩
abbrev cX4_freeAll : ByteArray := prog_6_method_7_code
def yX4_freeAll : MethodName := ⟨RX4, "freeAll", "()V"⟩
abbrev cX4_slotOf : ByteArray := prog_6_method_8_code
def yX4_slotOf : MethodName := ⟨RX4, "slotOf", "(I)I"⟩
abbrev cX4_setFree : ByteArray := prog_6_method_9_code
def yX4_setFree : MethodName := ⟨RX4, "setFree", "(I)V"⟩
abbrev cX4_give : ByteArray := prog_6_method_10_code
def yX4_give : MethodName := ⟨RX4, "give", "(II)V"⟩
abbrev cX4_isInRow : ByteArray := prog_6_method_11_code
def yX4_isInRow : MethodName := ⟨RX4, "isInRow", "(I)Z"⟩
abbrev cX4_copyFrom : ByteArray := prog_6_method_12_code
def yX4_copyFrom : MethodName := ⟨RX4, "copyFrom", "(LBidMosaic$Sale;)V"⟩
def RX5 : String := "BidMosaic"
def TX5 : u_T := fun k => match k with
  | 0 => ("BidMosaic", "bidding", "LBidMosaic$Bidding;", true)
  | 1 => ("BidMosaic", "now", "LBidMosaic$Picture;", true)
  | _ => ("BidMosaic", "images", "[LBidMosaic$Picture;", true)
def tyX5 : Nat → FieldType := fun k => match k with
  | 0 => .object "BidMosaic$Bidding"
  | 1 => .object "BidMosaic$Picture"
  | _ => .array (.object "BidMosaic$Picture")
abbrev wsX50 : List Cond := u_ws RX5 TX5 3
theorem nmX5 : ∀ a, a < 3 → ∀ b, b < 3 → a ≠ b → (TX5 a).2.1 ≠ (TX5 b).2.1 := by decide +kernel
theorem tyX5_ok : ∀ k, k < 3 → parseFieldDescriptor (TX5 k).2.2.1 = some (tyX5 k) := by decide +kernel
abbrev cX5_init : ByteArray := prog_1_method_1_code
def yX5_init : MethodName := ⟨RX5, "<init>", "()V"⟩
abbrev cX5_mode : ByteArray := prog_1_method_2_code
def yX5_mode : MethodName := ⟨RX5, "mode", "(I)I"⟩
abbrev cX5_shrink : ByteArray := prog_1_method_3_code
def yX5_shrink : MethodName := ⟨RX5, "shrink", "(I)I"⟩
abbrev cX5_stock : ByteArray := prog_1_method_4_code
def yX5_stock : MethodName := ⟨RX5, "stock", "(II)I"⟩
abbrev cX5_drop : ByteArray := prog_1_method_5_code
def yX5_drop : MethodName := ⟨RX5, "drop", "(I)I"⟩
abbrev cX5_kind : ByteArray := prog_1_method_6_code
def yX5_kind : MethodName := ⟨RX5, "kind", "(II)I"⟩
abbrev cX5_find : ByteArray := prog_1_method_7_code
def yX5_find : MethodName := ⟨RX5, "find", "(I)I"⟩
abbrev cX5_cell : ByteArray := prog_1_method_8_code
def yX5_cell : MethodName := ⟨RX5, "cell", "(I)I"⟩
abbrev cX5_change : ByteArray := prog_1_method_9_code
def yX5_change : MethodName := ⟨RX5, "change", "(II)I"⟩
abbrev cX5_remove : ByteArray := prog_1_method_10_code
def yX5_remove : MethodName := ⟨RX5, "remove", "(I)I"⟩
abbrev cX5_difference : ByteArray := prog_1_method_11_code
def yX5_difference : MethodName := ⟨RX5, "difference", "(II)I"⟩
abbrev cX5_auction : ByteArray := prog_1_method_12_code
def yX5_auction : MethodName := ⟨RX5, "auction", "()I"⟩
abbrev cX5_repair : ByteArray := prog_1_method_13_code
def yX5_repair : MethodName := ⟨RX5, "repair", "()I"⟩
abbrev cX5_phase : ByteArray := prog_1_method_14_code
def yX5_phase : MethodName := ⟨RX5, "phase", "(II)I"⟩
abbrev cX5_place : ByteArray := prog_1_method_15_code
def yX5_place : MethodName := ⟨RX5, "place", "(I)I"⟩
abbrev cX5_slot : ByteArray := prog_1_method_16_code
def yX5_slot : MethodName := ⟨RX5, "slot", "(II)I"⟩
abbrev cX5_gain : ByteArray := prog_1_method_17_code
def yX5_gain : MethodName := ⟨RX5, "gain", "(II)I"⟩
abbrev cX5_total : ByteArray := prog_1_method_18_code
def yX5_total : MethodName := ⟨RX5, "total", "()I"⟩
abbrev cX5_image : ByteArray := prog_1_method_19_code
def yX5_image : MethodName := ⟨RX5, "image", "(I)I"⟩
abbrev cX5_restore : ByteArray := prog_1_method_20_code
def yX5_restore : MethodName := ⟨RX5, "restore", "(I)I"⟩
abbrev cX5_told : ByteArray := prog_1_method_21_code
def yX5_told : MethodName := ⟨RX5, "told", "(I)I"⟩
abbrev cX5_toldOfCell : ByteArray := prog_1_method_22_code
def yX5_toldOfCell : MethodName := ⟨RX5, "toldOfCell", "(I)I"⟩
abbrev cX5_areDots : ByteArray := prog_1_method_23_code
def yX5_areDots : MethodName := ⟨RX5, "areDots", "(I)Z"⟩
abbrev cX5_dotsApart : ByteArray := prog_1_method_24_code
def yX5_dotsApart : MethodName := ⟨RX5, "dotsApart", "(III)I"⟩
def RX6 : String := "BidMosaicModel"
def TX6 : u_T := fun k => match k with
  | 0 => ("BidMosaicModel", "now", "[I", true)
  | 1 => ("BidMosaicModel", "kindDots", "[I", true)
  | 2 => ("BidMosaicModel", "kindStock", "[I", true)
  | 3 => ("BidMosaicModel", "cellDots", "[I", true)
  | 4 => ("BidMosaicModel", "price", "[I", true)
  | 5 => ("BidMosaicModel", "slotKind", "[I", true)
  | 6 => ("BidMosaicModel", "owner", "[I", true)
  | 7 => ("BidMosaicModel", "mine", "[I", true)
  | 8 => ("BidMosaicModel", "steps", "[I", true)
  | 9 => ("BidMosaicModel", "bids", "[I", true)
  | 10 => ("BidMosaicModel", "sums", "[I", true)
  | 11 => ("BidMosaicModel", "kept", "[I", true)
  | 12 => ("BidMosaicModel", "isKept", "[Z", true)
  | 13 => ("BidMosaicModel", "keptAt", "I", false)
  | _ => ("BidMosaicModel", "isWriting", "Z", false)
def tyX6 : Nat → FieldType := fun k => match k with
  | 0 => .array .int
  | 1 => .array .int
  | 2 => .array .int
  | 3 => .array .int
  | 4 => .array .int
  | 5 => .array .int
  | 6 => .array .int
  | 7 => .array .int
  | 8 => .array .int
  | 9 => .array .int
  | 10 => .array .int
  | 11 => .array .int
  | 12 => .array .boolean
  | 13 => .int
  | _ => .boolean
abbrev wsX60 : List Cond := u_ws RX6 TX6 15
theorem nmX6 : ∀ a, a < 15 → ∀ b, b < 15 → a ≠ b → (TX6 a).2.1 ≠ (TX6 b).2.1 := by decide +kernel
theorem tyX6_ok : ∀ k, k < 15 → parseFieldDescriptor (TX6 k).2.2.1 = some (tyX6 k) := by decide +kernel
abbrev cX6_init : ByteArray := prog_8_method_1_code
def yX6_init : MethodName := ⟨RX6, "<init>", "()V"⟩
abbrev cX6_in : ByteArray := prog_8_method_3_code
def yX6_in : MethodName := ⟨RX6, "in", "(JJJ)Z"⟩
abbrev cX6_isDots : ByteArray := prog_8_method_4_code
def yX6_isDots : MethodName := ⟨RX6, "isDots", "(I)Z"⟩
abbrev cX6_kinds : ByteArray := prog_8_method_5_code
def yX6_kinds : MethodName := ⟨RX6, "kinds", "()I"⟩
abbrev cX6_cells : ByteArray := prog_8_method_6_code
def yX6_cells : MethodName := ⟨RX6, "cells", "()I"⟩
abbrev cX6_isValid : ByteArray := prog_8_method_7_code
def yX6_isValid : MethodName := ⟨RX6, "isValid", "()Z"⟩
abbrev cX6_isDone : ByteArray := prog_8_method_8_code
def yX6_isDone : MethodName := ⟨RX6, "isDone", "()Z"⟩
abbrev cX6_end : ByteArray := prog_8_method_9_code
def yX6_end : MethodName := ⟨RX6, "end", "()V"⟩
abbrev cX6_mode : ByteArray := prog_8_method_10_code
def yX6_mode : MethodName := ⟨RX6, "mode", "(I)I"⟩
abbrev cX6_shrink : ByteArray := prog_8_method_11_code
def yX6_shrink : MethodName := ⟨RX6, "shrink", "(I)I"⟩
abbrev cX6_kindOf : ByteArray := prog_8_method_12_code
def yX6_kindOf : MethodName := ⟨RX6, "kindOf", "(I)I"⟩
abbrev cX6_stocks : ByteArray := prog_8_method_13_code
def yX6_stocks : MethodName := ⟨RX6, "stocks", "()I"⟩
abbrev cX6_stock : ByteArray := prog_8_method_14_code
def yX6_stock : MethodName := ⟨RX6, "stock", "(II)I"⟩
abbrev cX6_drop : ByteArray := prog_8_method_15_code
def yX6_drop : MethodName := ⟨RX6, "drop", "(I)I"⟩
abbrev cX6_firstSlot : ByteArray := prog_8_method_16_code
def yX6_firstSlot : MethodName := ⟨RX6, "firstSlot", "(I)I"⟩
abbrev cX6_having : ByteArray := prog_8_method_17_code
def yX6_having : MethodName := ⟨RX6, "having", "(I)I"⟩
abbrev cX6_kind : ByteArray := prog_8_method_18_code
def yX6_kind : MethodName := ⟨RX6, "kind", "(II)I"⟩
abbrev cX6_find : ByteArray := prog_8_method_19_code
def yX6_find : MethodName := ⟨RX6, "find", "(I)I"⟩
abbrev cX6_cell : ByteArray := prog_8_method_20_code
def yX6_cell : MethodName := ⟨RX6, "cell", "(I)I"⟩
abbrev cX6_isCell : ByteArray := prog_8_method_21_code
def yX6_isCell : MethodName := ⟨RX6, "isCell", "(I)Z"⟩
abbrev cX6_change : ByteArray := prog_8_method_22_code
def yX6_change : MethodName := ⟨RX6, "change", "(II)I"⟩
abbrev cX6_remove : ByteArray := prog_8_method_23_code
def yX6_remove : MethodName := ⟨RX6, "remove", "(I)I"⟩
abbrev cX6_differenceOf : ByteArray := prog_8_method_24_code
def yX6_differenceOf : MethodName := ⟨RX6, "differenceOf", "(II)I"⟩
abbrev cX6_difference : ByteArray := prog_8_method_25_code
def yX6_difference : MethodName := ⟨RX6, "difference", "(II)I"⟩
abbrev cX6_gainOf : ByteArray := prog_8_method_26_code
def yX6_gainOf : MethodName := ⟨RX6, "gainOf", "(II)I"⟩
abbrev cX6_bestFor : ByteArray := prog_8_method_27_code
def yX6_bestFor : MethodName := ⟨RX6, "bestFor", "(II)I"⟩
abbrev cX6_bid : ByteArray := prog_8_method_28_code
def yX6_bid : MethodName := ⟨RX6, "bid", "(II)V"⟩
abbrev cX6_firstFree : ByteArray := prog_8_method_29_code
def yX6_firstFree : MethodName := ⟨RX6, "firstFree", "()I"⟩
abbrev cX6_phaseOf : ByteArray := prog_8_method_30_code
def yX6_phaseOf : MethodName := ⟨RX6, "phaseOf", "(I)I"⟩
abbrev cX6_freeAll : ByteArray := prog_8_method_31_code
def yX6_freeAll : MethodName := ⟨RX6, "freeAll", "()V"⟩
abbrev cX6_sumOf : ByteArray := prog_8_method_32_code
def yX6_sumOf : MethodName := ⟨RX6, "sumOf", "()I"⟩
abbrev cX6_greatest : ByteArray := prog_8_method_33_code
def yX6_greatest : MethodName := ⟨RX6, "greatest", "()I"⟩
abbrev cX6_oneAtLeast : ByteArray := prog_8_method_34_code
def yX6_oneAtLeast : MethodName := ⟨RX6, "oneAtLeast", "(I)I"⟩
abbrev cX6_laySlots : ByteArray := prog_8_method_35_code
def yX6_laySlots : MethodName := ⟨RX6, "laySlots", "()V"⟩
abbrev cX6_auction : ByteArray := prog_8_method_36_code
def yX6_auction : MethodName := ⟨RX6, "auction", "()I"⟩
abbrev cX6_repair : ByteArray := prog_8_method_37_code
def yX6_repair : MethodName := ⟨RX6, "repair", "()I"⟩
abbrev cX6_phase : ByteArray := prog_8_method_38_code
def yX6_phase : MethodName := ⟨RX6, "phase", "(II)I"⟩
abbrev cX6_place : ByteArray := prog_8_method_39_code
def yX6_place : MethodName := ⟨RX6, "place", "(I)I"⟩
abbrev cX6_slot : ByteArray := prog_8_method_40_code
def yX6_slot : MethodName := ⟨RX6, "slot", "(II)I"⟩
abbrev cX6_gain : ByteArray := prog_8_method_41_code
def yX6_gain : MethodName := ⟨RX6, "gain", "(II)I"⟩
abbrev cX6_total : ByteArray := prog_8_method_42_code
def yX6_total : MethodName := ⟨RX6, "total", "()I"⟩
abbrev cX6_passRow : ByteArray := prog_8_method_43_code
def yX6_passRow : MethodName := ⟨RX6, "passRow", "([II)V"⟩
abbrev cX6_passAll : ByteArray := prog_8_method_44_code
def yX6_passAll : MethodName := ⟨RX6, "passAll", "()V"⟩
abbrev cX6_image : ByteArray := prog_8_method_45_code
def yX6_image : MethodName := ⟨RX6, "image", "(I)I"⟩
abbrev cX6_restore : ByteArray := prog_8_method_46_code
def yX6_restore : MethodName := ⟨RX6, "restore", "(I)I"⟩
abbrev cX6_told : ByteArray := prog_8_method_47_code
def yX6_told : MethodName := ⟨RX6, "told", "(I)I"⟩
def RJ9 : String := "java/lang/Math"
def TJ9 : u_T := fun k => match k with
  | _ => ("", "", "", false)
def tyJ9 : Nat → FieldType := fun k => match k with
  | _ => .int
abbrev wsJ90 : List Cond := u_ws RJ9 TJ9 0
theorem nmJ9 : ∀ a, a < 0 → ∀ b, b < 0 → a ≠ b → (TJ9 a).2.1 ≠ (TJ9 b).2.1 := by decide +kernel
theorem tyJ9_ok : ∀ k, k < 0 → parseFieldDescriptor (TJ9 k).2.2.1 = some (tyJ9 k) := by decide +kernel
abbrev cJ9_abs_0f7a4 : ByteArray := prog_9_method_59_code
def yJ9_abs_0f7a4 : MethodName := ⟨RJ9, "abs", "(I)I"⟩
abbrev cJ9_max_7cf53 : ByteArray := prog_9_method_65_code
def yJ9_max_7cf53 : MethodName := ⟨RJ9, "max", "(II)I"⟩
abbrev cJ9_min_7cf53 : ByteArray := prog_9_method_69_code
def yJ9_min_7cf53 : MethodName := ⟨RJ9, "min", "(II)I"⟩
def RJ10 : String := "java/lang/System"
def TJ10 : u_T := fun k => match k with
  | _ => ("", "", "", false)
def tyJ10 : Nat → FieldType := fun k => match k with
  | _ => .int
abbrev wsJ100 : List Cond := u_ws RJ10 TJ10 0
theorem nmJ10 : ∀ a, a < 0 → ∀ b, b < 0 → a ≠ b → (TJ10 a).2.1 ≠ (TJ10 b).2.1 := by decide +kernel
theorem tyJ10_ok : ∀ k, k < 0 → parseFieldDescriptor (TJ10 k).2.2.1 = some (tyJ10 k) := by decide +kernel
def RL : String := "BidMosaicLaw"
abbrev cL_law : ByteArray := code
def yL_law : MethodName := ⟨RL, "law", "([I)Z"⟩
def wsX2_init : List Cond := .code yX2_init cX2_init 1 none :: ([.methodLink RX2 3 objectInit, .instanceMethod objectInit, .code objectInit ⟨#[0xb1]⟩ 1 none, .arrayClass .int, .fieldLink RX2 9 "BidMosaic$Kinds" "dots" "[I", .fieldLink RX2 15 "BidMosaic$Kinds" "stocks" "[I"] ++ wsX20)
def wsX1_init : List Cond := .code yX1_init cX1_init 1 none :: ([.methodLink RX1 3 objectInit, .instanceMethod objectInit, .code objectInit ⟨#[0xb1]⟩ 1 none, .arrayClass .int, .fieldLink RX1 9 "BidMosaic$Cells" "dots" "[I"] ++ wsX10)
def wsX4_init : List Cond := .code yX4_init cX4_init 1 none :: ([.methodLink RX4 3 objectInit, .instanceMethod objectInit, .code objectInit ⟨#[0xb1]⟩ 1 none, .arrayClass .int, .fieldLink RX4 9 "BidMosaic$Sale" "prices" "[I", .fieldLink RX4 15 "BidMosaic$Sale" "holders" "[I", .fieldLink RX4 18 "BidMosaic$Sale" "held" "[I", .fieldLink RX4 21 "BidMosaic$Sale" "steps" "[I", .fieldLink RX4 24 "BidMosaic$Sale" "phaseBids" "[I", .fieldLink RX4 27 "BidMosaic$Sale" "phaseSums" "[I"] ++ wsX40)
def wsX3_init_r1 : List Cond := [Cond.methodLink RX3 3 objectInit, Cond.instanceMethod objectInit, Cond.code objectInit ⟨#[0xb1]⟩ 1 none, Cond.fieldLink RX3 9 "BidMosaic$Picture" "mode" "I", Cond.fieldLink RX3 15 "BidMosaic$Picture" "shrink" "I", Cond.classLink RX3 18 RX2, Cond.instantiable RX2 3, Cond.initialized RX2, Cond.fieldLink RX3 21 "BidMosaic$Picture" "kinds" "LBidMosaic$Kinds;", Cond.classLink RX3 25 RX1, Cond.instantiable RX1 2, Cond.initialized RX1, Cond.fieldLink RX3 28 "BidMosaic$Picture" "cells" "LBidMosaic$Cells;", Cond.classLink RX3 32 RX4, Cond.instantiable RX4 10, Cond.initialized RX4, Cond.fieldLink RX3 35 "BidMosaic$Picture" "sale" "LBidMosaic$Sale;", Cond.instanceMethod yX2_init, Cond.code yX2_init cX2_init 1 none, Cond.methodLink RX2 3 objectInit, Cond.arrayClass .int, Cond.fieldLink RX2 9 "BidMosaic$Kinds" "dots" "[I", Cond.fieldLink RX2 15 "BidMosaic$Kinds" "stocks" "[I", Cond.instanceMethod yX1_init]
def wsX3_init_r2 : List Cond := [Cond.code yX1_init cX1_init 1 none, Cond.methodLink RX1 3 objectInit, Cond.fieldLink RX1 9 "BidMosaic$Cells" "dots" "[I", Cond.instanceMethod yX4_init, Cond.code yX4_init cX4_init 1 none, Cond.methodLink RX4 3 objectInit, Cond.fieldLink RX4 9 "BidMosaic$Sale" "prices" "[I", Cond.fieldLink RX4 15 "BidMosaic$Sale" "holders" "[I", Cond.fieldLink RX4 18 "BidMosaic$Sale" "held" "[I", Cond.fieldLink RX4 21 "BidMosaic$Sale" "steps" "[I", Cond.fieldLink RX4 24 "BidMosaic$Sale" "phaseBids" "[I", Cond.fieldLink RX4 27 "BidMosaic$Sale" "phaseSums" "[I"]
def wsX3_init : List Cond := .code yX3_init cX3_init 1 none :: ((wsX3_init_r1 ++ wsX3_init_r2) ++ wsX30 ++ wsX20 ++ wsX10 ++ wsX40)
def wsX0_init_r1 : List Cond := [Cond.methodLink RX0 3 objectInit, Cond.instanceMethod objectInit, Cond.code objectInit ⟨#[0xb1]⟩ 1 none, Cond.classLink RX0 9 RX3, Cond.instantiable RX3 5, Cond.initialized RX3, Cond.fieldLink RX0 12 "BidMosaic$Bidding" "picture" "LBidMosaic$Picture;", Cond.fieldLink RX0 22 "BidMosaic$Bidding" "sale" "LBidMosaic$Sale;", Cond.arrayClass .int, Cond.fieldLink RX0 23 "BidMosaic$Bidding" "worths" "[I", Cond.instanceMethod yX3_init, Cond.code yX3_init cX3_init 1 none, Cond.methodLink RX3 3 objectInit, Cond.fieldLink RX3 9 "BidMosaic$Picture" "mode" "I", Cond.fieldLink RX3 15 "BidMosaic$Picture" "shrink" "I", Cond.classLink RX3 18 RX2, Cond.instantiable RX2 3, Cond.initialized RX2, Cond.fieldLink RX3 21 "BidMosaic$Picture" "kinds" "LBidMosaic$Kinds;", Cond.classLink RX3 25 RX1, Cond.instantiable RX1 2, Cond.initialized RX1, Cond.fieldLink RX3 28 "BidMosaic$Picture" "cells" "LBidMosaic$Cells;", Cond.classLink RX3 32 RX4]
def wsX0_init_r2 : List Cond := [Cond.instantiable RX4 10, Cond.initialized RX4, Cond.fieldLink RX3 35 "BidMosaic$Picture" "sale" "LBidMosaic$Sale;", Cond.instanceMethod yX2_init, Cond.code yX2_init cX2_init 1 none, Cond.methodLink RX2 3 objectInit, Cond.fieldLink RX2 9 "BidMosaic$Kinds" "dots" "[I", Cond.fieldLink RX2 15 "BidMosaic$Kinds" "stocks" "[I", Cond.instanceMethod yX1_init, Cond.code yX1_init cX1_init 1 none, Cond.methodLink RX1 3 objectInit, Cond.fieldLink RX1 9 "BidMosaic$Cells" "dots" "[I", Cond.instanceMethod yX4_init, Cond.code yX4_init cX4_init 1 none, Cond.methodLink RX4 3 objectInit, Cond.fieldLink RX4 9 "BidMosaic$Sale" "prices" "[I", Cond.fieldLink RX4 15 "BidMosaic$Sale" "holders" "[I", Cond.fieldLink RX4 18 "BidMosaic$Sale" "held" "[I", Cond.fieldLink RX4 21 "BidMosaic$Sale" "steps" "[I", Cond.fieldLink RX4 24 "BidMosaic$Sale" "phaseBids" "[I", Cond.fieldLink RX4 27 "BidMosaic$Sale" "phaseSums" "[I"]
def wsX0_init : List Cond := .code yX0_init cX0_init 1 none :: ((wsX0_init_r1 ++ wsX0_init_r2) ++ wsX30 ++ wsX00 ++ wsX20 ++ wsX10 ++ wsX40)
def wsX2_firstSlot : List Cond := .code yX2_firstSlot cX2_firstSlot 4 (some .int) :: ([.fieldLink RX2 15 "BidMosaic$Kinds" "stocks" "[I"] ++ wsX20)
def wsX2_slots : List Cond := .code yX2_slots cX2_slots 1 (some .int) :: ([.fieldLink RX2 18 "BidMosaic$Kinds" "count" "I", .methodLink RX2 22 yX2_firstSlot, .instanceMethod yX2_firstSlot, .selects RX2 yX2_firstSlot yX2_firstSlot, .initialized RX2, .code yX2_firstSlot cX2_firstSlot 4 (some .int), .fieldLink RX2 15 "BidMosaic$Kinds" "stocks" "[I"] ++ wsX20)
def wsX2_ofSlot : List Cond := .code yX2_ofSlot cX2_ofSlot 4 (some .int) :: ([.fieldLink RX2 18 "BidMosaic$Kinds" "count" "I", .fieldLink RX2 15 "BidMosaic$Kinds" "stocks" "[I"] ++ wsX20)
def wsX1_has : List Cond := .code yX1_has cX1_has 2 (some .boolean) :: ([.fieldLink RX1 15 "BidMosaic$Cells" "count" "I"] ++ wsX10)
def wsX2_has : List Cond := .code yX2_has cX2_has 2 (some .boolean) :: ([.fieldLink RX2 18 "BidMosaic$Kinds" "count" "I"] ++ wsX20)
def wsX5_dotsApart : List Cond := .code yX5_dotsApart cX5_dotsApart 8 (some .int) :: ([.methodLink RX5 179 Lib.Math.abs.name, .static Lib.Math.abs.name, .initialized "java/lang/Math", .code Lib.Math.abs.name Lib.Math.abs.code 1 (some .int)])
def wsX3_apart : List Cond := .code yX3_apart cX3_apart 3 (some .int) :: ([.fieldLink RX3 28 "BidMosaic$Picture" "cells" "LBidMosaic$Cells;", .fieldLink RX3 21 "BidMosaic$Picture" "kinds" "LBidMosaic$Kinds;", .fieldLink RX3 9 "BidMosaic$Picture" "mode" "I", .instanceMethod yX1_has, .initialized RX1, .selects RX1 yX1_has yX1_has, .code yX1_has cX1_has 2 (some .boolean), .fieldLink RX1 15 "BidMosaic$Cells" "count" "I", .instanceMethod yX2_has, .initialized RX2, .selects RX2 yX2_has yX2_has, .code yX2_has cX2_has 2 (some .boolean), .fieldLink RX2 18 "BidMosaic$Kinds" "count" "I", .static yX5_dotsApart, .initialized RX5, .code yX5_dotsApart cX5_dotsApart 8 (some .int), .methodLink RX5 179 Lib.Math.abs.name, .static Lib.Math.abs.name, .initialized "java/lang/Math", .code Lib.Math.abs.name Lib.Math.abs.code 1 (some .int)] ++ wsX30 ++ wsX10 ++ wsX20)
def wsX0_worth_r1 : List Cond := [Cond.fieldLink RX0 12 "BidMosaic$Bidding" "picture" "LBidMosaic$Picture;", Cond.fieldLink RX0 43 "BidMosaic$Bidding" "slots" "I", Cond.instanceMethod yX1_has, Cond.initialized RX1, Cond.selects RX1 yX1_has yX1_has, Cond.code yX1_has cX1_has 2 (some .boolean), Cond.fieldLink RX1 15 "BidMosaic$Cells" "count" "I", Cond.instanceMethod yX3_apart, Cond.initialized RX3, Cond.selects RX3 yX3_apart yX3_apart, Cond.code yX3_apart cX3_apart 3 (some .int), Cond.fieldLink RX3 28 "BidMosaic$Picture" "cells" "LBidMosaic$Cells;", Cond.fieldLink RX3 21 "BidMosaic$Picture" "kinds" "LBidMosaic$Kinds;", Cond.fieldLink RX3 9 "BidMosaic$Picture" "mode" "I", Cond.instanceMethod yX2_has, Cond.initialized RX2, Cond.selects RX2 yX2_has yX2_has, Cond.code yX2_has cX2_has 2 (some .boolean), Cond.fieldLink RX2 18 "BidMosaic$Kinds" "count" "I", Cond.static yX5_dotsApart, Cond.initialized RX5, Cond.code yX5_dotsApart cX5_dotsApart 8 (some .int), Cond.methodLink RX5 179 Lib.Math.abs.name, Cond.static Lib.Math.abs.name]
def wsX0_worth_r2 : List Cond := [Cond.initialized "java/lang/Math", Cond.code Lib.Math.abs.name Lib.Math.abs.code 1 (some .int)]
def wsX0_worth : List Cond := .code yX0_worth cX0_worth 4 (some .int) :: ((wsX0_worth_r1 ++ wsX0_worth_r2) ++ wsX00 ++ wsX30 ++ wsX10 ++ wsX20)
def wsX0_readWorths_r1 : List Cond := [Cond.fieldLink RX0 12 "BidMosaic$Bidding" "picture" "LBidMosaic$Picture;", Cond.methodLink RX0 37 Lib.Math.min.name, Cond.static Lib.Math.min.name, Cond.initialized "java/lang/Math", Cond.code Lib.Math.min.name Lib.Math.min.code 2 (some .int), Cond.fieldLink RX0 43 "BidMosaic$Bidding" "slots" "I", Cond.fieldLink RX0 23 "BidMosaic$Bidding" "worths" "[I", Cond.instanceMethod yX2_slots, Cond.initialized RX2, Cond.selects RX2 yX2_slots yX2_slots, Cond.code yX2_slots cX2_slots 1 (some .int), Cond.fieldLink RX2 18 "BidMosaic$Kinds" "count" "I", Cond.methodLink RX2 22 yX2_firstSlot, Cond.instanceMethod yX2_firstSlot, Cond.selects RX2 yX2_firstSlot yX2_firstSlot, Cond.code yX2_firstSlot cX2_firstSlot 4 (some .int), Cond.fieldLink RX2 15 "BidMosaic$Kinds" "stocks" "[I", Cond.instanceMethod yX2_ofSlot, Cond.selects RX2 yX2_ofSlot yX2_ofSlot, Cond.code yX2_ofSlot cX2_ofSlot 4 (some .int), Cond.methodLink RX0 50 yX0_worth, Cond.instanceMethod yX0_worth, Cond.selects RX0 yX0_worth yX0_worth, Cond.initialized RX0]
def wsX0_readWorths_r2 : List Cond := [Cond.code yX0_worth cX0_worth 4 (some .int), Cond.instanceMethod yX1_has, Cond.initialized RX1, Cond.selects RX1 yX1_has yX1_has, Cond.code yX1_has cX1_has 2 (some .boolean), Cond.fieldLink RX1 15 "BidMosaic$Cells" "count" "I", Cond.instanceMethod yX3_apart, Cond.initialized RX3, Cond.selects RX3 yX3_apart yX3_apart, Cond.code yX3_apart cX3_apart 3 (some .int), Cond.fieldLink RX3 28 "BidMosaic$Picture" "cells" "LBidMosaic$Cells;", Cond.fieldLink RX3 21 "BidMosaic$Picture" "kinds" "LBidMosaic$Kinds;", Cond.fieldLink RX3 9 "BidMosaic$Picture" "mode" "I", Cond.instanceMethod yX2_has, Cond.selects RX2 yX2_has yX2_has, Cond.code yX2_has cX2_has 2 (some .boolean), Cond.static yX5_dotsApart, Cond.initialized RX5, Cond.code yX5_dotsApart cX5_dotsApart 8 (some .int), Cond.methodLink RX5 179 Lib.Math.abs.name, Cond.static Lib.Math.abs.name, Cond.code Lib.Math.abs.name Lib.Math.abs.code 1 (some .int)]
def wsX0_readWorths : List Cond := .code yX0_readWorths cX0_readWorths 4 none :: ((wsX0_readWorths_r1 ++ wsX0_readWorths_r2) ++ wsX00 ++ wsX30 ++ wsX20 ++ wsX10)
def wsX4_begin : List Cond := .code yX4_begin cX4_begin 2 none :: ([.fieldLink RX4 37 "BidMosaic$Sale" "phases" "I", .fieldLink RX4 9 "BidMosaic$Sale" "prices" "[I"] ++ wsX40)
def wsX3_greatestDifference_r1 : List Cond := [Cond.fieldLink RX3 28 "BidMosaic$Picture" "cells" "LBidMosaic$Cells;", Cond.fieldLink RX3 21 "BidMosaic$Picture" "kinds" "LBidMosaic$Kinds;", Cond.methodLink RX3 61 Lib.Math.max.name, Cond.static Lib.Math.max.name, Cond.initialized "java/lang/Math", Cond.code Lib.Math.max.name Lib.Math.max.code 2 (some .int), Cond.methodLink RX3 57 yX3_apart, Cond.instanceMethod yX3_apart, Cond.selects RX3 yX3_apart yX3_apart, Cond.initialized RX3, Cond.code yX3_apart cX3_apart 3 (some .int), Cond.fieldLink RX3 9 "BidMosaic$Picture" "mode" "I", Cond.instanceMethod yX1_has, Cond.initialized RX1, Cond.selects RX1 yX1_has yX1_has, Cond.code yX1_has cX1_has 2 (some .boolean), Cond.fieldLink RX1 15 "BidMosaic$Cells" "count" "I", Cond.instanceMethod yX2_has, Cond.initialized RX2, Cond.selects RX2 yX2_has yX2_has, Cond.code yX2_has cX2_has 2 (some .boolean), Cond.fieldLink RX2 18 "BidMosaic$Kinds" "count" "I", Cond.static yX5_dotsApart, Cond.initialized RX5]
def wsX3_greatestDifference_r2 : List Cond := [Cond.code yX5_dotsApart cX5_dotsApart 8 (some .int), Cond.methodLink RX5 179 Lib.Math.abs.name, Cond.static Lib.Math.abs.name, Cond.code Lib.Math.abs.name Lib.Math.abs.code 1 (some .int)]
def wsX3_greatestDifference : List Cond := .code yX3_greatestDifference cX3_greatestDifference 4 (some .int) :: ((wsX3_greatestDifference_r1 ++ wsX3_greatestDifference_r2) ++ wsX30 ++ wsX10 ++ wsX20)
def wsX4_freeAll : List Cond := .code yX4_freeAll cX4_freeAll 2 none :: ([.fieldLink RX4 15 "BidMosaic$Sale" "holders" "[I", .fieldLink RX4 18 "BidMosaic$Sale" "held" "[I"] ++ wsX40)
def wsX0_leastFree : List Cond := .code yX0_leastFree cX0_leastFree 3 (some .int) :: ([.fieldLink RX0 22 "BidMosaic$Bidding" "sale" "LBidMosaic$Sale;", .fieldLink RX0 43 "BidMosaic$Bidding" "slots" "I"] ++ wsX00 ++ wsX40)
def wsX4_isInRow : List Cond := .code yX4_isInRow cX4_isInRow 1 (some .boolean) :: ([])
def wsX4_give : List Cond := .code yX4_give cX4_give 4 none :: ([.fieldLink RX4 15 "BidMosaic$Sale" "holders" "[I", .fieldLink RX4 18 "BidMosaic$Sale" "held" "[I", .methodLink RX4 44 yX4_isInRow, .static yX4_isInRow, .initialized RX4, .code yX4_isInRow cX4_isInRow 1 (some .boolean)] ++ wsX40)
def wsX0_makeBid : List Cond := .code yX0_makeBid cX0_makeBid 10 none :: ([.fieldLink RX0 43 "BidMosaic$Bidding" "slots" "I", .fieldLink RX0 22 "BidMosaic$Bidding" "sale" "LBidMosaic$Sale;", .fieldLink RX0 23 "BidMosaic$Bidding" "worths" "[I", .static yX4_isInRow, .initialized RX4, .code yX4_isInRow cX4_isInRow 1 (some .boolean), .instanceMethod yX4_give, .selects RX4 yX4_give yX4_give, .code yX4_give cX4_give 4 none, .fieldLink RX4 15 "BidMosaic$Sale" "holders" "[I", .fieldLink RX4 18 "BidMosaic$Sale" "held" "[I", .methodLink RX4 44 yX4_isInRow] ++ wsX00 ++ wsX40)
def wsX0_bidTillNoneIsFree : List Cond := .code yX0_bidTillNoneIsFree cX0_bidTillNoneIsFree 4 (some .int) :: ([.constant RX0 112 (1000000), .methodLink RX0 113 yX0_leastFree, .instanceMethod yX0_leastFree, .selects RX0 yX0_leastFree yX0_leastFree, .initialized RX0, .code yX0_leastFree cX0_leastFree 3 (some .int), .fieldLink RX0 22 "BidMosaic$Bidding" "sale" "LBidMosaic$Sale;", .fieldLink RX0 43 "BidMosaic$Bidding" "slots" "I", .methodLink RX0 116 yX0_makeBid, .instanceMethod yX0_makeBid, .selects RX0 yX0_makeBid yX0_makeBid, .code yX0_makeBid cX0_makeBid 10 none, .fieldLink RX0 23 "BidMosaic$Bidding" "worths" "[I", .static yX4_isInRow, .initialized RX4, .code yX4_isInRow cX4_isInRow 1 (some .boolean), .instanceMethod yX4_give, .selects RX4 yX4_give yX4_give, .code yX4_give cX4_give 4 none, .fieldLink RX4 15 "BidMosaic$Sale" "holders" "[I", .fieldLink RX4 18 "BidMosaic$Sale" "held" "[I", .methodLink RX4 44 yX4_isInRow] ++ wsX00 ++ wsX40)
def wsX4_slotOf : List Cond := .code yX4_slotOf cX4_slotOf 2 (some .int) :: ([.fieldLink RX4 18 "BidMosaic$Sale" "held" "[I", .methodLink RX4 44 yX4_isInRow, .static yX4_isInRow, .initialized RX4, .code yX4_isInRow cX4_isInRow 1 (some .boolean)] ++ wsX40)
def wsX3_kindOf : List Cond := .code yX3_kindOf cX3_kindOf 2 (some .int) :: ([.fieldLink RX3 21 "BidMosaic$Picture" "kinds" "LBidMosaic$Kinds;", .fieldLink RX3 35 "BidMosaic$Picture" "sale" "LBidMosaic$Sale;", .instanceMethod yX4_slotOf, .initialized RX4, .selects RX4 yX4_slotOf yX4_slotOf, .code yX4_slotOf cX4_slotOf 2 (some .int), .fieldLink RX4 18 "BidMosaic$Sale" "held" "[I", .methodLink RX4 44 yX4_isInRow, .static yX4_isInRow, .code yX4_isInRow cX4_isInRow 1 (some .boolean), .instanceMethod yX2_ofSlot, .initialized RX2, .selects RX2 yX2_ofSlot yX2_ofSlot, .code yX2_ofSlot cX2_ofSlot 4 (some .int), .fieldLink RX2 18 "BidMosaic$Kinds" "count" "I", .fieldLink RX2 15 "BidMosaic$Kinds" "stocks" "[I"] ++ wsX30 ++ wsX40 ++ wsX20)
def wsX3_sumOfDifferences_r1 : List Cond := [Cond.fieldLink RX3 28 "BidMosaic$Picture" "cells" "LBidMosaic$Cells;", Cond.methodLink RX3 79 yX3_kindOf, Cond.instanceMethod yX3_kindOf, Cond.selects RX3 yX3_kindOf yX3_kindOf, Cond.initialized RX3, Cond.code yX3_kindOf cX3_kindOf 2 (some .int), Cond.fieldLink RX3 21 "BidMosaic$Picture" "kinds" "LBidMosaic$Kinds;", Cond.fieldLink RX3 35 "BidMosaic$Picture" "sale" "LBidMosaic$Sale;", Cond.instanceMethod yX4_slotOf, Cond.initialized RX4, Cond.selects RX4 yX4_slotOf yX4_slotOf, Cond.code yX4_slotOf cX4_slotOf 2 (some .int), Cond.fieldLink RX4 18 "BidMosaic$Sale" "held" "[I", Cond.methodLink RX4 44 yX4_isInRow, Cond.static yX4_isInRow, Cond.code yX4_isInRow cX4_isInRow 1 (some .boolean), Cond.instanceMethod yX2_ofSlot, Cond.initialized RX2, Cond.selects RX2 yX2_ofSlot yX2_ofSlot, Cond.code yX2_ofSlot cX2_ofSlot 4 (some .int), Cond.fieldLink RX2 18 "BidMosaic$Kinds" "count" "I", Cond.fieldLink RX2 15 "BidMosaic$Kinds" "stocks" "[I", Cond.methodLink RX3 57 yX3_apart, Cond.instanceMethod yX3_apart]
def wsX3_sumOfDifferences_r2 : List Cond := [Cond.selects RX3 yX3_apart yX3_apart, Cond.code yX3_apart cX3_apart 3 (some .int), Cond.fieldLink RX3 9 "BidMosaic$Picture" "mode" "I", Cond.instanceMethod yX1_has, Cond.initialized RX1, Cond.selects RX1 yX1_has yX1_has, Cond.code yX1_has cX1_has 2 (some .boolean), Cond.fieldLink RX1 15 "BidMosaic$Cells" "count" "I", Cond.instanceMethod yX2_has, Cond.selects RX2 yX2_has yX2_has, Cond.code yX2_has cX2_has 2 (some .boolean), Cond.static yX5_dotsApart, Cond.initialized RX5, Cond.code yX5_dotsApart cX5_dotsApart 8 (some .int), Cond.methodLink RX5 179 Lib.Math.abs.name, Cond.static Lib.Math.abs.name, Cond.initialized "java/lang/Math", Cond.code Lib.Math.abs.name Lib.Math.abs.code 1 (some .int)]
def wsX3_sumOfDifferences : List Cond := .code yX3_sumOfDifferences cX3_sumOfDifferences 3 (some .int) :: ((wsX3_sumOfDifferences_r1 ++ wsX3_sumOfDifferences_r2) ++ wsX30 ++ wsX10 ++ wsX40 ++ wsX20)
def wsX4_notePhase : List Cond := .code yX4_notePhase cX4_notePhase 4 none :: ([.fieldLink RX4 37 "BidMosaic$Sale" "phases" "I", .fieldLink RX4 21 "BidMosaic$Sale" "steps" "[I", .fieldLink RX4 24 "BidMosaic$Sale" "phaseBids" "[I", .fieldLink RX4 27 "BidMosaic$Sale" "phaseSums" "[I"] ++ wsX40)
def wsX0_auctionPhase_r1 : List Cond := [Cond.fieldLink RX0 22 "BidMosaic$Bidding" "sale" "LBidMosaic$Sale;", Cond.fieldLink RX0 12 "BidMosaic$Bidding" "picture" "LBidMosaic$Picture;", Cond.instanceMethod yX4_freeAll, Cond.initialized RX4, Cond.selects RX4 yX4_freeAll yX4_freeAll, Cond.code yX4_freeAll cX4_freeAll 2 none, Cond.fieldLink RX4 15 "BidMosaic$Sale" "holders" "[I", Cond.fieldLink RX4 18 "BidMosaic$Sale" "held" "[I", Cond.methodLink RX0 93 yX0_bidTillNoneIsFree, Cond.instanceMethod yX0_bidTillNoneIsFree, Cond.selects RX0 yX0_bidTillNoneIsFree yX0_bidTillNoneIsFree, Cond.initialized RX0, Cond.code yX0_bidTillNoneIsFree cX0_bidTillNoneIsFree 4 (some .int), Cond.constant RX0 112 (1000000), Cond.methodLink RX0 113 yX0_leastFree, Cond.instanceMethod yX0_leastFree, Cond.selects RX0 yX0_leastFree yX0_leastFree, Cond.code yX0_leastFree cX0_leastFree 3 (some .int), Cond.fieldLink RX0 43 "BidMosaic$Bidding" "slots" "I", Cond.methodLink RX0 116 yX0_makeBid, Cond.instanceMethod yX0_makeBid, Cond.selects RX0 yX0_makeBid yX0_makeBid, Cond.code yX0_makeBid cX0_makeBid 10 none, Cond.fieldLink RX0 23 "BidMosaic$Bidding" "worths" "[I"]
def wsX0_auctionPhase_r2 : List Cond := [Cond.static yX4_isInRow, Cond.code yX4_isInRow cX4_isInRow 1 (some .boolean), Cond.instanceMethod yX4_give, Cond.selects RX4 yX4_give yX4_give, Cond.code yX4_give cX4_give 4 none, Cond.methodLink RX4 44 yX4_isInRow, Cond.instanceMethod yX3_sumOfDifferences, Cond.initialized RX3, Cond.selects RX3 yX3_sumOfDifferences yX3_sumOfDifferences, Cond.code yX3_sumOfDifferences cX3_sumOfDifferences 3 (some .int), Cond.fieldLink RX3 28 "BidMosaic$Picture" "cells" "LBidMosaic$Cells;", Cond.methodLink RX3 79 yX3_kindOf, Cond.instanceMethod yX3_kindOf, Cond.selects RX3 yX3_kindOf yX3_kindOf, Cond.code yX3_kindOf cX3_kindOf 2 (some .int), Cond.fieldLink RX3 21 "BidMosaic$Picture" "kinds" "LBidMosaic$Kinds;", Cond.fieldLink RX3 35 "BidMosaic$Picture" "sale" "LBidMosaic$Sale;", Cond.instanceMethod yX4_slotOf, Cond.selects RX4 yX4_slotOf yX4_slotOf, Cond.code yX4_slotOf cX4_slotOf 2 (some .int), Cond.instanceMethod yX2_ofSlot, Cond.initialized RX2, Cond.selects RX2 yX2_ofSlot yX2_ofSlot, Cond.code yX2_ofSlot cX2_ofSlot 4 (some .int)]
def wsX0_auctionPhase_r3 : List Cond := [Cond.fieldLink RX2 18 "BidMosaic$Kinds" "count" "I", Cond.fieldLink RX2 15 "BidMosaic$Kinds" "stocks" "[I", Cond.methodLink RX3 57 yX3_apart, Cond.instanceMethod yX3_apart, Cond.selects RX3 yX3_apart yX3_apart, Cond.code yX3_apart cX3_apart 3 (some .int), Cond.fieldLink RX3 9 "BidMosaic$Picture" "mode" "I", Cond.instanceMethod yX1_has, Cond.initialized RX1, Cond.selects RX1 yX1_has yX1_has, Cond.code yX1_has cX1_has 2 (some .boolean), Cond.fieldLink RX1 15 "BidMosaic$Cells" "count" "I", Cond.instanceMethod yX2_has, Cond.selects RX2 yX2_has yX2_has, Cond.code yX2_has cX2_has 2 (some .boolean), Cond.static yX5_dotsApart, Cond.initialized RX5, Cond.code yX5_dotsApart cX5_dotsApart 8 (some .int), Cond.methodLink RX5 179 Lib.Math.abs.name, Cond.static Lib.Math.abs.name, Cond.initialized "java/lang/Math", Cond.code Lib.Math.abs.name Lib.Math.abs.code 1 (some .int), Cond.instanceMethod yX4_notePhase, Cond.selects RX4 yX4_notePhase yX4_notePhase]
def wsX0_auctionPhase_r4 : List Cond := [Cond.code yX4_notePhase cX4_notePhase 4 none, Cond.fieldLink RX4 37 "BidMosaic$Sale" "phases" "I", Cond.fieldLink RX4 21 "BidMosaic$Sale" "steps" "[I", Cond.fieldLink RX4 24 "BidMosaic$Sale" "phaseBids" "[I", Cond.fieldLink RX4 27 "BidMosaic$Sale" "phaseSums" "[I"]
def wsX0_auctionPhase : List Cond := .code yX0_auctionPhase cX0_auctionPhase 3 (some .int) :: ((wsX0_auctionPhase_r1 ++ (wsX0_auctionPhase_r2 ++ (wsX0_auctionPhase_r3 ++ wsX0_auctionPhase_r4))) ++ wsX00 ++ wsX40 ++ wsX30 ++ wsX10 ++ wsX20)
def wsX4_finish : List Cond := .code yX4_finish cX4_finish 2 none :: ([.fieldLink RX4 41 "BidMosaic$Sale" "bids" "I", .fieldLink RX4 30 "BidMosaic$Sale" "valid" "Z", .fieldLink RX4 34 "BidMosaic$Sale" "content" "Z"] ++ wsX40)
def wsX0_holdAuction_r1 : List Cond := [Cond.fieldLink RX0 22 "BidMosaic$Bidding" "sale" "LBidMosaic$Sale;", Cond.fieldLink RX0 12 "BidMosaic$Bidding" "picture" "LBidMosaic$Picture;", Cond.fieldLink RX0 43 "BidMosaic$Bidding" "slots" "I", Cond.methodLink RX0 77 Lib.Math.max.name, Cond.static Lib.Math.max.name, Cond.initialized "java/lang/Math", Cond.code Lib.Math.max.name Lib.Math.max.code 2 (some .int), Cond.methodLink RX0 66 yX0_readWorths, Cond.instanceMethod yX0_readWorths, Cond.selects RX0 yX0_readWorths yX0_readWorths, Cond.initialized RX0, Cond.code yX0_readWorths cX0_readWorths 4 none, Cond.methodLink RX0 37 Lib.Math.min.name, Cond.static Lib.Math.min.name, Cond.code Lib.Math.min.name Lib.Math.min.code 2 (some .int), Cond.fieldLink RX0 23 "BidMosaic$Bidding" "worths" "[I", Cond.instanceMethod yX2_slots, Cond.initialized RX2, Cond.selects RX2 yX2_slots yX2_slots, Cond.code yX2_slots cX2_slots 1 (some .int), Cond.fieldLink RX2 18 "BidMosaic$Kinds" "count" "I", Cond.methodLink RX2 22 yX2_firstSlot, Cond.instanceMethod yX2_firstSlot, Cond.selects RX2 yX2_firstSlot yX2_firstSlot]
def wsX0_holdAuction_r2 : List Cond := [Cond.code yX2_firstSlot cX2_firstSlot 4 (some .int), Cond.fieldLink RX2 15 "BidMosaic$Kinds" "stocks" "[I", Cond.instanceMethod yX2_ofSlot, Cond.selects RX2 yX2_ofSlot yX2_ofSlot, Cond.code yX2_ofSlot cX2_ofSlot 4 (some .int), Cond.methodLink RX0 50 yX0_worth, Cond.instanceMethod yX0_worth, Cond.selects RX0 yX0_worth yX0_worth, Cond.code yX0_worth cX0_worth 4 (some .int), Cond.instanceMethod yX1_has, Cond.initialized RX1, Cond.selects RX1 yX1_has yX1_has, Cond.code yX1_has cX1_has 2 (some .boolean), Cond.fieldLink RX1 15 "BidMosaic$Cells" "count" "I", Cond.instanceMethod yX3_apart, Cond.initialized RX3, Cond.selects RX3 yX3_apart yX3_apart, Cond.code yX3_apart cX3_apart 3 (some .int), Cond.fieldLink RX3 28 "BidMosaic$Picture" "cells" "LBidMosaic$Cells;", Cond.fieldLink RX3 21 "BidMosaic$Picture" "kinds" "LBidMosaic$Kinds;", Cond.fieldLink RX3 9 "BidMosaic$Picture" "mode" "I", Cond.instanceMethod yX2_has, Cond.selects RX2 yX2_has yX2_has, Cond.code yX2_has cX2_has 2 (some .boolean)]
def wsX0_holdAuction_r3 : List Cond := [Cond.static yX5_dotsApart, Cond.initialized RX5, Cond.code yX5_dotsApart cX5_dotsApart 8 (some .int), Cond.methodLink RX5 179 Lib.Math.abs.name, Cond.static Lib.Math.abs.name, Cond.code Lib.Math.abs.name Lib.Math.abs.code 1 (some .int), Cond.instanceMethod yX4_begin, Cond.initialized RX4, Cond.selects RX4 yX4_begin yX4_begin, Cond.code yX4_begin cX4_begin 2 none, Cond.fieldLink RX4 37 "BidMosaic$Sale" "phases" "I", Cond.fieldLink RX4 9 "BidMosaic$Sale" "prices" "[I", Cond.instanceMethod yX3_greatestDifference, Cond.selects RX3 yX3_greatestDifference yX3_greatestDifference, Cond.code yX3_greatestDifference cX3_greatestDifference 4 (some .int), Cond.methodLink RX3 61 Lib.Math.max.name, Cond.methodLink RX3 57 yX3_apart, Cond.methodLink RX0 80 yX0_auctionPhase, Cond.instanceMethod yX0_auctionPhase, Cond.selects RX0 yX0_auctionPhase yX0_auctionPhase, Cond.code yX0_auctionPhase cX0_auctionPhase 3 (some .int), Cond.instanceMethod yX4_freeAll, Cond.selects RX4 yX4_freeAll yX4_freeAll, Cond.code yX4_freeAll cX4_freeAll 2 none]
def wsX0_holdAuction_r4 : List Cond := [Cond.fieldLink RX4 15 "BidMosaic$Sale" "holders" "[I", Cond.fieldLink RX4 18 "BidMosaic$Sale" "held" "[I", Cond.methodLink RX0 93 yX0_bidTillNoneIsFree, Cond.instanceMethod yX0_bidTillNoneIsFree, Cond.selects RX0 yX0_bidTillNoneIsFree yX0_bidTillNoneIsFree, Cond.code yX0_bidTillNoneIsFree cX0_bidTillNoneIsFree 4 (some .int), Cond.constant RX0 112 (1000000), Cond.methodLink RX0 113 yX0_leastFree, Cond.instanceMethod yX0_leastFree, Cond.selects RX0 yX0_leastFree yX0_leastFree, Cond.code yX0_leastFree cX0_leastFree 3 (some .int), Cond.methodLink RX0 116 yX0_makeBid, Cond.instanceMethod yX0_makeBid, Cond.selects RX0 yX0_makeBid yX0_makeBid, Cond.code yX0_makeBid cX0_makeBid 10 none, Cond.static yX4_isInRow, Cond.code yX4_isInRow cX4_isInRow 1 (some .boolean), Cond.instanceMethod yX4_give, Cond.selects RX4 yX4_give yX4_give, Cond.code yX4_give cX4_give 4 none, Cond.methodLink RX4 44 yX4_isInRow, Cond.instanceMethod yX3_sumOfDifferences, Cond.selects RX3 yX3_sumOfDifferences yX3_sumOfDifferences, Cond.code yX3_sumOfDifferences cX3_sumOfDifferences 3 (some .int)]
def wsX0_holdAuction_r5 : List Cond := [Cond.methodLink RX3 79 yX3_kindOf, Cond.instanceMethod yX3_kindOf, Cond.selects RX3 yX3_kindOf yX3_kindOf, Cond.code yX3_kindOf cX3_kindOf 2 (some .int), Cond.fieldLink RX3 35 "BidMosaic$Picture" "sale" "LBidMosaic$Sale;", Cond.instanceMethod yX4_slotOf, Cond.selects RX4 yX4_slotOf yX4_slotOf, Cond.code yX4_slotOf cX4_slotOf 2 (some .int), Cond.instanceMethod yX4_notePhase, Cond.selects RX4 yX4_notePhase yX4_notePhase, Cond.code yX4_notePhase cX4_notePhase 4 none, Cond.fieldLink RX4 21 "BidMosaic$Sale" "steps" "[I", Cond.fieldLink RX4 24 "BidMosaic$Sale" "phaseBids" "[I", Cond.fieldLink RX4 27 "BidMosaic$Sale" "phaseSums" "[I", Cond.instanceMethod yX4_finish, Cond.selects RX4 yX4_finish yX4_finish, Cond.code yX4_finish cX4_finish 2 none, Cond.fieldLink RX4 41 "BidMosaic$Sale" "bids" "I", Cond.fieldLink RX4 30 "BidMosaic$Sale" "valid" "Z", Cond.fieldLink RX4 34 "BidMosaic$Sale" "content" "Z"]
def wsX0_holdAuction : List Cond := .code yX0_holdAuction cX0_holdAuction 4 (some .int) :: ((wsX0_holdAuction_r1 ++ (wsX0_holdAuction_r2 ++ (wsX0_holdAuction_r3 ++ (wsX0_holdAuction_r4 ++ wsX0_holdAuction_r5)))) ++ wsX00 ++ wsX30 ++ wsX20 ++ wsX10 ++ wsX40)
def wsX0_gainOf : List Cond := .code yX0_gainOf cX0_gainOf 3 (some .int) :: ([.fieldLink RX0 23 "BidMosaic$Bidding" "worths" "[I", .fieldLink RX0 22 "BidMosaic$Bidding" "sale" "LBidMosaic$Sale;", .static yX4_isInRow, .initialized RX4, .code yX4_isInRow cX4_isInRow 1 (some .boolean)] ++ wsX00 ++ wsX40)
def wsX0_ownGain : List Cond := .code yX0_ownGain cX0_ownGain 2 (some .int) :: ([.fieldLink RX0 22 "BidMosaic$Bidding" "sale" "LBidMosaic$Sale;", .instanceMethod yX4_slotOf, .initialized RX4, .selects RX4 yX4_slotOf yX4_slotOf, .code yX4_slotOf cX4_slotOf 2 (some .int), .fieldLink RX4 18 "BidMosaic$Sale" "held" "[I", .methodLink RX4 44 yX4_isInRow, .static yX4_isInRow, .code yX4_isInRow cX4_isInRow 1 (some .boolean), .methodLink RX0 135 yX0_gainOf, .instanceMethod yX0_gainOf, .selects RX0 yX0_gainOf yX0_gainOf, .initialized RX0, .code yX0_gainOf cX0_gainOf 3 (some .int), .fieldLink RX0 23 "BidMosaic$Bidding" "worths" "[I"] ++ wsX00 ++ wsX40)
def wsX0_greatestGain : List Cond := .code yX0_greatestGain cX0_greatestGain 4 (some .int) :: ([.fieldLink RX0 43 "BidMosaic$Bidding" "slots" "I", .methodLink RX0 77 Lib.Math.max.name, .static Lib.Math.max.name, .initialized "java/lang/Math", .code Lib.Math.max.name Lib.Math.max.code 2 (some .int), .methodLink RX0 135 yX0_gainOf, .instanceMethod yX0_gainOf, .selects RX0 yX0_gainOf yX0_gainOf, .initialized RX0, .code yX0_gainOf cX0_gainOf 3 (some .int), .fieldLink RX0 23 "BidMosaic$Bidding" "worths" "[I", .fieldLink RX0 22 "BidMosaic$Bidding" "sale" "LBidMosaic$Sale;", .static yX4_isInRow, .initialized RX4, .code yX4_isInRow cX4_isInRow 1 (some .boolean)] ++ wsX00 ++ wsX40)
def wsX4_setFree : List Cond := .code yX4_setFree cX4_setFree 3 none :: ([.fieldLink RX4 18 "BidMosaic$Sale" "held" "[I", .fieldLink RX4 15 "BidMosaic$Sale" "holders" "[I", .methodLink RX4 44 yX4_isInRow, .static yX4_isInRow, .initialized RX4, .code yX4_isInRow cX4_isInRow 1 (some .boolean)] ++ wsX40)
def wsX0_mend_r1 : List Cond := [Cond.fieldLink RX0 43 "BidMosaic$Bidding" "slots" "I", Cond.fieldLink RX0 22 "BidMosaic$Bidding" "sale" "LBidMosaic$Sale;", Cond.methodLink RX0 66 yX0_readWorths, Cond.instanceMethod yX0_readWorths, Cond.selects RX0 yX0_readWorths yX0_readWorths, Cond.initialized RX0, Cond.code yX0_readWorths cX0_readWorths 4 none, Cond.fieldLink RX0 12 "BidMosaic$Bidding" "picture" "LBidMosaic$Picture;", Cond.methodLink RX0 37 Lib.Math.min.name, Cond.static Lib.Math.min.name, Cond.initialized "java/lang/Math", Cond.code Lib.Math.min.name Lib.Math.min.code 2 (some .int), Cond.fieldLink RX0 23 "BidMosaic$Bidding" "worths" "[I", Cond.instanceMethod yX2_slots, Cond.initialized RX2, Cond.selects RX2 yX2_slots yX2_slots, Cond.code yX2_slots cX2_slots 1 (some .int), Cond.fieldLink RX2 18 "BidMosaic$Kinds" "count" "I", Cond.methodLink RX2 22 yX2_firstSlot, Cond.instanceMethod yX2_firstSlot, Cond.selects RX2 yX2_firstSlot yX2_firstSlot, Cond.code yX2_firstSlot cX2_firstSlot 4 (some .int), Cond.fieldLink RX2 15 "BidMosaic$Kinds" "stocks" "[I", Cond.instanceMethod yX2_ofSlot]
def wsX0_mend_r2 : List Cond := [Cond.selects RX2 yX2_ofSlot yX2_ofSlot, Cond.code yX2_ofSlot cX2_ofSlot 4 (some .int), Cond.methodLink RX0 50 yX0_worth, Cond.instanceMethod yX0_worth, Cond.selects RX0 yX0_worth yX0_worth, Cond.code yX0_worth cX0_worth 4 (some .int), Cond.instanceMethod yX1_has, Cond.initialized RX1, Cond.selects RX1 yX1_has yX1_has, Cond.code yX1_has cX1_has 2 (some .boolean), Cond.fieldLink RX1 15 "BidMosaic$Cells" "count" "I", Cond.instanceMethod yX3_apart, Cond.initialized RX3, Cond.selects RX3 yX3_apart yX3_apart, Cond.code yX3_apart cX3_apart 3 (some .int), Cond.fieldLink RX3 28 "BidMosaic$Picture" "cells" "LBidMosaic$Cells;", Cond.fieldLink RX3 21 "BidMosaic$Picture" "kinds" "LBidMosaic$Kinds;", Cond.fieldLink RX3 9 "BidMosaic$Picture" "mode" "I", Cond.instanceMethod yX2_has, Cond.selects RX2 yX2_has yX2_has, Cond.code yX2_has cX2_has 2 (some .boolean), Cond.static yX5_dotsApart, Cond.initialized RX5, Cond.code yX5_dotsApart cX5_dotsApart 8 (some .int)]
def wsX0_mend_r3 : List Cond := [Cond.methodLink RX5 179 Lib.Math.abs.name, Cond.static Lib.Math.abs.name, Cond.code Lib.Math.abs.name Lib.Math.abs.code 1 (some .int), Cond.methodLink RX0 103 yX0_ownGain, Cond.instanceMethod yX0_ownGain, Cond.selects RX0 yX0_ownGain yX0_ownGain, Cond.code yX0_ownGain cX0_ownGain 2 (some .int), Cond.instanceMethod yX4_slotOf, Cond.initialized RX4, Cond.selects RX4 yX4_slotOf yX4_slotOf, Cond.code yX4_slotOf cX4_slotOf 2 (some .int), Cond.fieldLink RX4 18 "BidMosaic$Sale" "held" "[I", Cond.methodLink RX4 44 yX4_isInRow, Cond.static yX4_isInRow, Cond.code yX4_isInRow cX4_isInRow 1 (some .boolean), Cond.methodLink RX0 135 yX0_gainOf, Cond.instanceMethod yX0_gainOf, Cond.selects RX0 yX0_gainOf yX0_gainOf, Cond.code yX0_gainOf cX0_gainOf 3 (some .int), Cond.methodLink RX0 106 yX0_greatestGain, Cond.instanceMethod yX0_greatestGain, Cond.selects RX0 yX0_greatestGain yX0_greatestGain, Cond.code yX0_greatestGain cX0_greatestGain 4 (some .int), Cond.methodLink RX0 77 Lib.Math.max.name]
def wsX0_mend_r4 : List Cond := [Cond.static Lib.Math.max.name, Cond.code Lib.Math.max.name Lib.Math.max.code 2 (some .int), Cond.instanceMethod yX4_setFree, Cond.selects RX4 yX4_setFree yX4_setFree, Cond.code yX4_setFree cX4_setFree 3 none, Cond.fieldLink RX4 15 "BidMosaic$Sale" "holders" "[I", Cond.methodLink RX0 93 yX0_bidTillNoneIsFree, Cond.instanceMethod yX0_bidTillNoneIsFree, Cond.selects RX0 yX0_bidTillNoneIsFree yX0_bidTillNoneIsFree, Cond.code yX0_bidTillNoneIsFree cX0_bidTillNoneIsFree 4 (some .int), Cond.constant RX0 112 (1000000), Cond.methodLink RX0 113 yX0_leastFree, Cond.instanceMethod yX0_leastFree, Cond.selects RX0 yX0_leastFree yX0_leastFree, Cond.code yX0_leastFree cX0_leastFree 3 (some .int), Cond.methodLink RX0 116 yX0_makeBid, Cond.instanceMethod yX0_makeBid, Cond.selects RX0 yX0_makeBid yX0_makeBid, Cond.code yX0_makeBid cX0_makeBid 10 none, Cond.instanceMethod yX4_give, Cond.selects RX4 yX4_give yX4_give, Cond.code yX4_give cX4_give 4 none, Cond.instanceMethod yX4_finish, Cond.selects RX4 yX4_finish yX4_finish]
def wsX0_mend_r5 : List Cond := [Cond.code yX4_finish cX4_finish 2 none, Cond.fieldLink RX4 41 "BidMosaic$Sale" "bids" "I", Cond.fieldLink RX4 30 "BidMosaic$Sale" "valid" "Z", Cond.fieldLink RX4 34 "BidMosaic$Sale" "content" "Z"]
def wsX0_mend : List Cond := .code yX0_mend cX0_mend 2 (some .int) :: ((wsX0_mend_r1 ++ (wsX0_mend_r2 ++ (wsX0_mend_r3 ++ (wsX0_mend_r4 ++ wsX0_mend_r5)))) ++ wsX00 ++ wsX30 ++ wsX20 ++ wsX10 ++ wsX40)
def wsX1_add : List Cond := .code yX1_add cX1_add 2 none :: ([.fieldLink RX1 15 "BidMosaic$Cells" "count" "I", .fieldLink RX1 9 "BidMosaic$Cells" "dots" "[I"] ++ wsX10)
def wsX1_takeOut : List Cond := .code yX1_takeOut cX1_takeOut 3 none :: ([.fieldLink RX1 15 "BidMosaic$Cells" "count" "I", .fieldLink RX1 9 "BidMosaic$Cells" "dots" "[I", .methodLink RX1 19 yX1_has, .instanceMethod yX1_has, .selects RX1 yX1_has yX1_has, .initialized RX1, .code yX1_has cX1_has 2 (some .boolean)] ++ wsX10)
def wsX1_copyFrom : List Cond := .code yX1_copyFrom cX1_copyFrom 2 none :: ([.fieldLink RX1 15 "BidMosaic$Cells" "count" "I", .fieldLink RX1 9 "BidMosaic$Cells" "dots" "[I", .methodLink RX1 23 arraycopyName, .native arraycopyName, .static arraycopyName, .initialized "java/lang/System"] ++ wsX10)
def wsX2_numberOf : List Cond := .code yX2_numberOf cX2_numberOf 3 (some .int) :: ([.fieldLink RX2 18 "BidMosaic$Kinds" "count" "I", .fieldLink RX2 9 "BidMosaic$Kinds" "dots" "[I"] ++ wsX20)
def wsX2_hasRoom : List Cond := .code yX2_hasRoom cX2_hasRoom 5 (some .boolean) :: ([.fieldLink RX2 15 "BidMosaic$Kinds" "stocks" "[I", .fieldLink RX2 18 "BidMosaic$Kinds" "count" "I", .methodLink RX2 26 yX2_numberOf, .instanceMethod yX2_numberOf, .selects RX2 yX2_numberOf yX2_numberOf, .initialized RX2, .code yX2_numberOf cX2_numberOf 3 (some .int), .fieldLink RX2 9 "BidMosaic$Kinds" "dots" "[I", .methodLink RX2 29 yX2_has, .instanceMethod yX2_has, .selects RX2 yX2_has yX2_has, .code yX2_has cX2_has 2 (some .boolean), .methodLink RX2 33 yX2_slots, .instanceMethod yX2_slots, .selects RX2 yX2_slots yX2_slots, .code yX2_slots cX2_slots 1 (some .int), .methodLink RX2 22 yX2_firstSlot, .instanceMethod yX2_firstSlot, .selects RX2 yX2_firstSlot yX2_firstSlot, .code yX2_firstSlot cX2_firstSlot 4 (some .int)] ++ wsX20)
def wsX2_add : List Cond := .code yX2_add cX2_add 5 (some .int) :: ([.fieldLink RX2 18 "BidMosaic$Kinds" "count" "I", .fieldLink RX2 9 "BidMosaic$Kinds" "dots" "[I", .fieldLink RX2 15 "BidMosaic$Kinds" "stocks" "[I", .methodLink RX2 26 yX2_numberOf, .instanceMethod yX2_numberOf, .selects RX2 yX2_numberOf yX2_numberOf, .initialized RX2, .code yX2_numberOf cX2_numberOf 3 (some .int)] ++ wsX20)
def wsX2_takeOut : List Cond := .code yX2_takeOut cX2_takeOut 3 none :: ([.fieldLink RX2 18 "BidMosaic$Kinds" "count" "I", .fieldLink RX2 9 "BidMosaic$Kinds" "dots" "[I", .fieldLink RX2 15 "BidMosaic$Kinds" "stocks" "[I", .methodLink RX2 29 yX2_has, .instanceMethod yX2_has, .selects RX2 yX2_has yX2_has, .initialized RX2, .code yX2_has cX2_has 2 (some .boolean)] ++ wsX20)
def wsX2_copyFrom : List Cond := .code yX2_copyFrom cX2_copyFrom 2 none :: ([.fieldLink RX2 18 "BidMosaic$Kinds" "count" "I", .fieldLink RX2 9 "BidMosaic$Kinds" "dots" "[I", .methodLink RX2 37 arraycopyName, .native arraycopyName, .static arraycopyName, .initialized "java/lang/System", .fieldLink RX2 15 "BidMosaic$Kinds" "stocks" "[I"] ++ wsX20)
def wsX3_cellOf : List Cond := .code yX3_cellOf cX3_cellOf 3 (some .int) :: ([.fieldLink RX3 35 "BidMosaic$Picture" "sale" "LBidMosaic$Sale;", .fieldLink RX3 28 "BidMosaic$Picture" "cells" "LBidMosaic$Cells;", .static yX4_isInRow, .initialized RX4, .code yX4_isInRow cX4_isInRow 1 (some .boolean), .instanceMethod yX1_has, .initialized RX1, .selects RX1 yX1_has yX1_has, .code yX1_has cX1_has 2 (some .boolean), .fieldLink RX1 15 "BidMosaic$Cells" "count" "I"] ++ wsX30 ++ wsX40 ++ wsX10)
def wsX3_cellsThatHave : List Cond := .code yX3_cellsThatHave cX3_cellsThatHave 4 (some .int) :: ([.fieldLink RX3 28 "BidMosaic$Picture" "cells" "LBidMosaic$Cells;", .methodLink RX3 79 yX3_kindOf, .instanceMethod yX3_kindOf, .selects RX3 yX3_kindOf yX3_kindOf, .initialized RX3, .code yX3_kindOf cX3_kindOf 2 (some .int), .fieldLink RX3 21 "BidMosaic$Picture" "kinds" "LBidMosaic$Kinds;", .fieldLink RX3 35 "BidMosaic$Picture" "sale" "LBidMosaic$Sale;", .instanceMethod yX4_slotOf, .initialized RX4, .selects RX4 yX4_slotOf yX4_slotOf, .code yX4_slotOf cX4_slotOf 2 (some .int), .fieldLink RX4 18 "BidMosaic$Sale" "held" "[I", .methodLink RX4 44 yX4_isInRow, .static yX4_isInRow, .code yX4_isInRow cX4_isInRow 1 (some .boolean), .instanceMethod yX2_ofSlot, .initialized RX2, .selects RX2 yX2_ofSlot yX2_ofSlot, .code yX2_ofSlot cX2_ofSlot 4 (some .int), .fieldLink RX2 18 "BidMosaic$Kinds" "count" "I", .fieldLink RX2 15 "BidMosaic$Kinds" "stocks" "[I"] ++ wsX30 ++ wsX10 ++ wsX40 ++ wsX20)
def wsX4_copyFrom : List Cond := .code yX4_copyFrom cX4_copyFrom 2 none :: ([.fieldLink RX4 30 "BidMosaic$Sale" "valid" "Z", .fieldLink RX4 34 "BidMosaic$Sale" "content" "Z", .fieldLink RX4 41 "BidMosaic$Sale" "bids" "I", .fieldLink RX4 37 "BidMosaic$Sale" "phases" "I", .fieldLink RX4 9 "BidMosaic$Sale" "prices" "[I", .methodLink RX4 48 arraycopyName, .native arraycopyName, .static arraycopyName, .initialized "java/lang/System", .fieldLink RX4 15 "BidMosaic$Sale" "holders" "[I", .fieldLink RX4 18 "BidMosaic$Sale" "held" "[I", .fieldLink RX4 21 "BidMosaic$Sale" "steps" "[I", .fieldLink RX4 24 "BidMosaic$Sale" "phaseBids" "[I", .fieldLink RX4 27 "BidMosaic$Sale" "phaseSums" "[I"] ++ wsX40)
def wsX3_copyFrom_r1 : List Cond := [Cond.fieldLink RX3 9 "BidMosaic$Picture" "mode" "I", Cond.fieldLink RX3 15 "BidMosaic$Picture" "shrink" "I", Cond.fieldLink RX3 21 "BidMosaic$Picture" "kinds" "LBidMosaic$Kinds;", Cond.fieldLink RX3 28 "BidMosaic$Picture" "cells" "LBidMosaic$Cells;", Cond.fieldLink RX3 35 "BidMosaic$Picture" "sale" "LBidMosaic$Sale;", Cond.instanceMethod yX2_copyFrom, Cond.initialized RX2, Cond.selects RX2 yX2_copyFrom yX2_copyFrom, Cond.code yX2_copyFrom cX2_copyFrom 2 none, Cond.fieldLink RX2 18 "BidMosaic$Kinds" "count" "I", Cond.fieldLink RX2 9 "BidMosaic$Kinds" "dots" "[I", Cond.methodLink RX2 37 arraycopyName, Cond.native arraycopyName, Cond.static arraycopyName, Cond.initialized "java/lang/System", Cond.fieldLink RX2 15 "BidMosaic$Kinds" "stocks" "[I", Cond.instanceMethod yX1_copyFrom, Cond.initialized RX1, Cond.selects RX1 yX1_copyFrom yX1_copyFrom, Cond.code yX1_copyFrom cX1_copyFrom 2 none, Cond.fieldLink RX1 15 "BidMosaic$Cells" "count" "I", Cond.fieldLink RX1 9 "BidMosaic$Cells" "dots" "[I", Cond.methodLink RX1 23 arraycopyName, Cond.instanceMethod yX4_copyFrom]
def wsX3_copyFrom_r2 : List Cond := [Cond.initialized RX4, Cond.selects RX4 yX4_copyFrom yX4_copyFrom, Cond.code yX4_copyFrom cX4_copyFrom 2 none, Cond.fieldLink RX4 30 "BidMosaic$Sale" "valid" "Z", Cond.fieldLink RX4 34 "BidMosaic$Sale" "content" "Z", Cond.fieldLink RX4 41 "BidMosaic$Sale" "bids" "I", Cond.fieldLink RX4 37 "BidMosaic$Sale" "phases" "I", Cond.fieldLink RX4 9 "BidMosaic$Sale" "prices" "[I", Cond.methodLink RX4 48 arraycopyName, Cond.fieldLink RX4 15 "BidMosaic$Sale" "holders" "[I", Cond.fieldLink RX4 18 "BidMosaic$Sale" "held" "[I", Cond.fieldLink RX4 21 "BidMosaic$Sale" "steps" "[I", Cond.fieldLink RX4 24 "BidMosaic$Sale" "phaseBids" "[I", Cond.fieldLink RX4 27 "BidMosaic$Sale" "phaseSums" "[I"]
def wsX3_copyFrom : List Cond := .code yX3_copyFrom cX3_copyFrom 2 none :: ((wsX3_copyFrom_r1 ++ wsX3_copyFrom_r2) ++ wsX30 ++ wsX20 ++ wsX10 ++ wsX40)
def wsX4_isDone : List Cond := .code yX4_isDone cX4_isDone 1 (some .boolean) :: ([.fieldLink RX4 30 "BidMosaic$Sale" "valid" "Z", .fieldLink RX4 34 "BidMosaic$Sale" "content" "Z"] ++ wsX40)
def wsX4_hasPhase : List Cond := .code yX4_hasPhase cX4_hasPhase 2 (some .boolean) :: ([.fieldLink RX4 37 "BidMosaic$Sale" "phases" "I"] ++ wsX40)
def wsX5_init_r1 : List Cond := [Cond.methodLink RX5 1 objectInit, Cond.instanceMethod objectInit, Cond.code objectInit ⟨#[0xb1]⟩ 1 none, Cond.classLink RX5 7 RX0, Cond.instantiable RX0 4, Cond.initialized RX0, Cond.fieldLink RX5 10 "BidMosaic" "bidding" "LBidMosaic$Bidding;", Cond.fieldLink RX5 20 "BidMosaic" "now" "LBidMosaic$Picture;", Cond.classLink RX5 23 RX3, Cond.fieldLink RX5 25 "BidMosaic" "images" "[LBidMosaic$Picture;", Cond.instanceMethod yX0_init, Cond.code yX0_init cX0_init 1 none, Cond.methodLink RX0 3 objectInit, Cond.classLink RX0 9 RX3, Cond.instantiable RX3 5, Cond.initialized RX3, Cond.fieldLink RX0 12 "BidMosaic$Bidding" "picture" "LBidMosaic$Picture;", Cond.fieldLink RX0 22 "BidMosaic$Bidding" "sale" "LBidMosaic$Sale;", Cond.arrayClass .int, Cond.fieldLink RX0 23 "BidMosaic$Bidding" "worths" "[I", Cond.instanceMethod yX3_init, Cond.code yX3_init cX3_init 1 none, Cond.methodLink RX3 3 objectInit, Cond.fieldLink RX3 9 "BidMosaic$Picture" "mode" "I"]
def wsX5_init_r2 : List Cond := [Cond.fieldLink RX3 15 "BidMosaic$Picture" "shrink" "I", Cond.classLink RX3 18 RX2, Cond.instantiable RX2 3, Cond.initialized RX2, Cond.fieldLink RX3 21 "BidMosaic$Picture" "kinds" "LBidMosaic$Kinds;", Cond.classLink RX3 25 RX1, Cond.instantiable RX1 2, Cond.initialized RX1, Cond.fieldLink RX3 28 "BidMosaic$Picture" "cells" "LBidMosaic$Cells;", Cond.classLink RX3 32 RX4, Cond.instantiable RX4 10, Cond.initialized RX4, Cond.fieldLink RX3 35 "BidMosaic$Picture" "sale" "LBidMosaic$Sale;", Cond.instanceMethod yX2_init, Cond.code yX2_init cX2_init 1 none, Cond.methodLink RX2 3 objectInit, Cond.fieldLink RX2 9 "BidMosaic$Kinds" "dots" "[I", Cond.fieldLink RX2 15 "BidMosaic$Kinds" "stocks" "[I", Cond.instanceMethod yX1_init, Cond.code yX1_init cX1_init 1 none, Cond.methodLink RX1 3 objectInit, Cond.fieldLink RX1 9 "BidMosaic$Cells" "dots" "[I", Cond.instanceMethod yX4_init, Cond.code yX4_init cX4_init 1 none]
def wsX5_init_r3 : List Cond := [Cond.methodLink RX4 3 objectInit, Cond.fieldLink RX4 9 "BidMosaic$Sale" "prices" "[I", Cond.fieldLink RX4 15 "BidMosaic$Sale" "holders" "[I", Cond.fieldLink RX4 18 "BidMosaic$Sale" "held" "[I", Cond.fieldLink RX4 21 "BidMosaic$Sale" "steps" "[I", Cond.fieldLink RX4 24 "BidMosaic$Sale" "phaseBids" "[I", Cond.fieldLink RX4 27 "BidMosaic$Sale" "phaseSums" "[I"]
def wsX5_init : List Cond := .code yX5_init cX5_init 1 none :: ((wsX5_init_r1 ++ (wsX5_init_r2 ++ wsX5_init_r3)) ++ wsX00 ++ wsX50 ++ wsX30 ++ wsX20 ++ wsX10 ++ wsX40)
def wsX5_mode : List Cond := .code yX5_mode cX5_mode 3 (some .int) :: ([.fieldLink RX5 20 "BidMosaic" "now" "LBidMosaic$Picture;"] ++ wsX50 ++ wsX30 ++ wsX40)
def wsX5_shrink : List Cond := .code yX5_shrink cX5_shrink 3 (some .int) :: ([.fieldLink RX5 20 "BidMosaic" "now" "LBidMosaic$Picture;"] ++ wsX50 ++ wsX30)
def wsX5_areDots : List Cond := .code yX5_areDots cX5_areDots 1 (some .boolean) :: ([])
def wsX5_stock_r1 : List Cond := [Cond.fieldLink RX5 20 "BidMosaic" "now" "LBidMosaic$Picture;", Cond.methodLink RX5 46 yX5_areDots, Cond.static yX5_areDots, Cond.initialized RX5, Cond.code yX5_areDots cX5_areDots 1 (some .boolean), Cond.instanceMethod yX2_hasRoom, Cond.initialized RX2, Cond.selects RX2 yX2_hasRoom yX2_hasRoom, Cond.code yX2_hasRoom cX2_hasRoom 5 (some .boolean), Cond.fieldLink RX2 15 "BidMosaic$Kinds" "stocks" "[I", Cond.fieldLink RX2 18 "BidMosaic$Kinds" "count" "I", Cond.methodLink RX2 26 yX2_numberOf, Cond.instanceMethod yX2_numberOf, Cond.selects RX2 yX2_numberOf yX2_numberOf, Cond.code yX2_numberOf cX2_numberOf 3 (some .int), Cond.fieldLink RX2 9 "BidMosaic$Kinds" "dots" "[I", Cond.methodLink RX2 29 yX2_has, Cond.instanceMethod yX2_has, Cond.selects RX2 yX2_has yX2_has, Cond.code yX2_has cX2_has 2 (some .boolean), Cond.methodLink RX2 33 yX2_slots, Cond.instanceMethod yX2_slots, Cond.selects RX2 yX2_slots yX2_slots, Cond.code yX2_slots cX2_slots 1 (some .int)]
def wsX5_stock_r2 : List Cond := [Cond.methodLink RX2 22 yX2_firstSlot, Cond.instanceMethod yX2_firstSlot, Cond.selects RX2 yX2_firstSlot yX2_firstSlot, Cond.code yX2_firstSlot cX2_firstSlot 4 (some .int), Cond.instanceMethod yX2_add, Cond.selects RX2 yX2_add yX2_add, Cond.code yX2_add cX2_add 5 (some .int)]
def wsX5_stock : List Cond := .code yX5_stock cX5_stock 3 (some .int) :: ((wsX5_stock_r1 ++ wsX5_stock_r2) ++ wsX50 ++ wsX30 ++ wsX40 ++ wsX20)
def wsX5_drop : List Cond := .code yX5_drop cX5_drop 3 (some .int) :: ([.fieldLink RX5 20 "BidMosaic" "now" "LBidMosaic$Picture;", .methodLink RX5 46 yX5_areDots, .static yX5_areDots, .initialized RX5, .code yX5_areDots cX5_areDots 1 (some .boolean), .instanceMethod yX2_numberOf, .initialized RX2, .selects RX2 yX2_numberOf yX2_numberOf, .code yX2_numberOf cX2_numberOf 3 (some .int), .fieldLink RX2 18 "BidMosaic$Kinds" "count" "I", .fieldLink RX2 9 "BidMosaic$Kinds" "dots" "[I", .instanceMethod yX2_takeOut, .selects RX2 yX2_takeOut yX2_takeOut, .code yX2_takeOut cX2_takeOut 3 none, .fieldLink RX2 15 "BidMosaic$Kinds" "stocks" "[I", .methodLink RX2 29 yX2_has, .instanceMethod yX2_has, .selects RX2 yX2_has yX2_has, .code yX2_has cX2_has 2 (some .boolean)] ++ wsX50 ++ wsX30 ++ wsX40 ++ wsX20)
def wsX5_kind_r1 : List Cond := [Cond.fieldLink RX5 20 "BidMosaic" "now" "LBidMosaic$Picture;", Cond.instanceMethod yX2_has, Cond.initialized RX2, Cond.selects RX2 yX2_has yX2_has, Cond.code yX2_has cX2_has 2 (some .boolean), Cond.fieldLink RX2 18 "BidMosaic$Kinds" "count" "I", Cond.instanceMethod yX2_firstSlot, Cond.selects RX2 yX2_firstSlot yX2_firstSlot, Cond.code yX2_firstSlot cX2_firstSlot 4 (some .int), Cond.fieldLink RX2 15 "BidMosaic$Kinds" "stocks" "[I", Cond.instanceMethod yX4_isDone, Cond.initialized RX4, Cond.selects RX4 yX4_isDone yX4_isDone, Cond.code yX4_isDone cX4_isDone 1 (some .boolean), Cond.fieldLink RX4 30 "BidMosaic$Sale" "valid" "Z", Cond.fieldLink RX4 34 "BidMosaic$Sale" "content" "Z", Cond.instanceMethod yX3_cellsThatHave, Cond.initialized RX3, Cond.selects RX3 yX3_cellsThatHave yX3_cellsThatHave, Cond.code yX3_cellsThatHave cX3_cellsThatHave 4 (some .int), Cond.fieldLink RX3 28 "BidMosaic$Picture" "cells" "LBidMosaic$Cells;", Cond.methodLink RX3 79 yX3_kindOf, Cond.instanceMethod yX3_kindOf, Cond.selects RX3 yX3_kindOf yX3_kindOf]
def wsX5_kind_r2 : List Cond := [Cond.code yX3_kindOf cX3_kindOf 2 (some .int), Cond.fieldLink RX3 21 "BidMosaic$Picture" "kinds" "LBidMosaic$Kinds;", Cond.fieldLink RX3 35 "BidMosaic$Picture" "sale" "LBidMosaic$Sale;", Cond.instanceMethod yX4_slotOf, Cond.selects RX4 yX4_slotOf yX4_slotOf, Cond.code yX4_slotOf cX4_slotOf 2 (some .int), Cond.fieldLink RX4 18 "BidMosaic$Sale" "held" "[I", Cond.methodLink RX4 44 yX4_isInRow, Cond.static yX4_isInRow, Cond.code yX4_isInRow cX4_isInRow 1 (some .boolean), Cond.instanceMethod yX2_ofSlot, Cond.selects RX2 yX2_ofSlot yX2_ofSlot, Cond.code yX2_ofSlot cX2_ofSlot 4 (some .int)]
def wsX5_kind : List Cond := .code yX5_kind cX5_kind 3 (some .int) :: ((wsX5_kind_r1 ++ wsX5_kind_r2) ++ wsX50 ++ wsX30 ++ wsX20 ++ wsX40 ++ wsX10)
def wsX5_find : List Cond := .code yX5_find cX5_find 2 (some .int) :: ([.fieldLink RX5 20 "BidMosaic" "now" "LBidMosaic$Picture;", .methodLink RX5 46 yX5_areDots, .static yX5_areDots, .initialized RX5, .code yX5_areDots cX5_areDots 1 (some .boolean), .instanceMethod yX2_numberOf, .initialized RX2, .selects RX2 yX2_numberOf yX2_numberOf, .code yX2_numberOf cX2_numberOf 3 (some .int), .fieldLink RX2 18 "BidMosaic$Kinds" "count" "I", .fieldLink RX2 9 "BidMosaic$Kinds" "dots" "[I"] ++ wsX50 ++ wsX30 ++ wsX20)
def wsX5_cell : List Cond := .code yX5_cell cX5_cell 2 (some .int) :: ([.fieldLink RX5 20 "BidMosaic" "now" "LBidMosaic$Picture;", .methodLink RX5 46 yX5_areDots, .static yX5_areDots, .initialized RX5, .code yX5_areDots cX5_areDots 1 (some .boolean), .instanceMethod yX1_add, .initialized RX1, .selects RX1 yX1_add yX1_add, .code yX1_add cX1_add 2 none, .fieldLink RX1 15 "BidMosaic$Cells" "count" "I", .fieldLink RX1 9 "BidMosaic$Cells" "dots" "[I"] ++ wsX50 ++ wsX30 ++ wsX10 ++ wsX40)
def wsX5_change : List Cond := .code yX5_change cX5_change 4 (some .int) :: ([.fieldLink RX5 20 "BidMosaic" "now" "LBidMosaic$Picture;", .instanceMethod yX1_has, .initialized RX1, .selects RX1 yX1_has yX1_has, .code yX1_has cX1_has 2 (some .boolean), .fieldLink RX1 15 "BidMosaic$Cells" "count" "I", .methodLink RX5 46 yX5_areDots, .static yX5_areDots, .initialized RX5, .code yX5_areDots cX5_areDots 1 (some .boolean)] ++ wsX50 ++ wsX30 ++ wsX10 ++ wsX40)
def wsX5_remove : List Cond := .code yX5_remove cX5_remove 2 (some .int) :: ([.fieldLink RX5 20 "BidMosaic" "now" "LBidMosaic$Picture;", .instanceMethod yX1_has, .initialized RX1, .selects RX1 yX1_has yX1_has, .code yX1_has cX1_has 2 (some .boolean), .fieldLink RX1 15 "BidMosaic$Cells" "count" "I", .instanceMethod yX1_takeOut, .selects RX1 yX1_takeOut yX1_takeOut, .code yX1_takeOut cX1_takeOut 3 none, .fieldLink RX1 9 "BidMosaic$Cells" "dots" "[I", .methodLink RX1 19 yX1_has] ++ wsX50 ++ wsX30 ++ wsX40 ++ wsX10)
def wsX5_difference_r1 : List Cond := [Cond.fieldLink RX5 20 "BidMosaic" "now" "LBidMosaic$Picture;", Cond.instanceMethod yX1_has, Cond.initialized RX1, Cond.selects RX1 yX1_has yX1_has, Cond.code yX1_has cX1_has 2 (some .boolean), Cond.fieldLink RX1 15 "BidMosaic$Cells" "count" "I", Cond.instanceMethod yX2_has, Cond.initialized RX2, Cond.selects RX2 yX2_has yX2_has, Cond.code yX2_has cX2_has 2 (some .boolean), Cond.fieldLink RX2 18 "BidMosaic$Kinds" "count" "I", Cond.instanceMethod yX3_apart, Cond.initialized RX3, Cond.selects RX3 yX3_apart yX3_apart, Cond.code yX3_apart cX3_apart 3 (some .int), Cond.fieldLink RX3 28 "BidMosaic$Picture" "cells" "LBidMosaic$Cells;", Cond.fieldLink RX3 21 "BidMosaic$Picture" "kinds" "LBidMosaic$Kinds;", Cond.fieldLink RX3 9 "BidMosaic$Picture" "mode" "I", Cond.static yX5_dotsApart, Cond.initialized RX5, Cond.code yX5_dotsApart cX5_dotsApart 8 (some .int), Cond.methodLink RX5 179 Lib.Math.abs.name, Cond.static Lib.Math.abs.name, Cond.initialized "java/lang/Math"]
def wsX5_difference_r2 : List Cond := [Cond.code Lib.Math.abs.name Lib.Math.abs.code 1 (some .int)]
def wsX5_difference : List Cond := .code yX5_difference cX5_difference 3 (some .int) :: ((wsX5_difference_r1 ++ wsX5_difference_r2) ++ wsX50 ++ wsX30 ++ wsX10 ++ wsX20)
def wsX5_auction_r1 : List Cond := [Cond.fieldLink RX5 20 "BidMosaic" "now" "LBidMosaic$Picture;", Cond.fieldLink RX5 10 "BidMosaic" "bidding" "LBidMosaic$Bidding;", Cond.instanceMethod yX2_slots, Cond.initialized RX2, Cond.selects RX2 yX2_slots yX2_slots, Cond.code yX2_slots cX2_slots 1 (some .int), Cond.fieldLink RX2 18 "BidMosaic$Kinds" "count" "I", Cond.methodLink RX2 22 yX2_firstSlot, Cond.instanceMethod yX2_firstSlot, Cond.selects RX2 yX2_firstSlot yX2_firstSlot, Cond.code yX2_firstSlot cX2_firstSlot 4 (some .int), Cond.fieldLink RX2 15 "BidMosaic$Kinds" "stocks" "[I", Cond.instanceMethod yX0_holdAuction, Cond.initialized RX0, Cond.selects RX0 yX0_holdAuction yX0_holdAuction, Cond.code yX0_holdAuction cX0_holdAuction 4 (some .int), Cond.fieldLink RX0 22 "BidMosaic$Bidding" "sale" "LBidMosaic$Sale;", Cond.fieldLink RX0 12 "BidMosaic$Bidding" "picture" "LBidMosaic$Picture;", Cond.fieldLink RX0 43 "BidMosaic$Bidding" "slots" "I", Cond.methodLink RX0 77 Lib.Math.max.name, Cond.static Lib.Math.max.name, Cond.initialized "java/lang/Math", Cond.code Lib.Math.max.name Lib.Math.max.code 2 (some .int), Cond.methodLink RX0 66 yX0_readWorths]
def wsX5_auction_r2 : List Cond := [Cond.instanceMethod yX0_readWorths, Cond.selects RX0 yX0_readWorths yX0_readWorths, Cond.code yX0_readWorths cX0_readWorths 4 none, Cond.methodLink RX0 37 Lib.Math.min.name, Cond.static Lib.Math.min.name, Cond.code Lib.Math.min.name Lib.Math.min.code 2 (some .int), Cond.fieldLink RX0 23 "BidMosaic$Bidding" "worths" "[I", Cond.instanceMethod yX2_ofSlot, Cond.selects RX2 yX2_ofSlot yX2_ofSlot, Cond.code yX2_ofSlot cX2_ofSlot 4 (some .int), Cond.methodLink RX0 50 yX0_worth, Cond.instanceMethod yX0_worth, Cond.selects RX0 yX0_worth yX0_worth, Cond.code yX0_worth cX0_worth 4 (some .int), Cond.instanceMethod yX1_has, Cond.initialized RX1, Cond.selects RX1 yX1_has yX1_has, Cond.code yX1_has cX1_has 2 (some .boolean), Cond.fieldLink RX1 15 "BidMosaic$Cells" "count" "I", Cond.instanceMethod yX3_apart, Cond.initialized RX3, Cond.selects RX3 yX3_apart yX3_apart, Cond.code yX3_apart cX3_apart 3 (some .int), Cond.fieldLink RX3 28 "BidMosaic$Picture" "cells" "LBidMosaic$Cells;"]
def wsX5_auction_r3 : List Cond := [Cond.fieldLink RX3 21 "BidMosaic$Picture" "kinds" "LBidMosaic$Kinds;", Cond.fieldLink RX3 9 "BidMosaic$Picture" "mode" "I", Cond.instanceMethod yX2_has, Cond.selects RX2 yX2_has yX2_has, Cond.code yX2_has cX2_has 2 (some .boolean), Cond.static yX5_dotsApart, Cond.initialized RX5, Cond.code yX5_dotsApart cX5_dotsApart 8 (some .int), Cond.methodLink RX5 179 Lib.Math.abs.name, Cond.static Lib.Math.abs.name, Cond.code Lib.Math.abs.name Lib.Math.abs.code 1 (some .int), Cond.instanceMethod yX4_begin, Cond.initialized RX4, Cond.selects RX4 yX4_begin yX4_begin, Cond.code yX4_begin cX4_begin 2 none, Cond.fieldLink RX4 37 "BidMosaic$Sale" "phases" "I", Cond.fieldLink RX4 9 "BidMosaic$Sale" "prices" "[I", Cond.instanceMethod yX3_greatestDifference, Cond.selects RX3 yX3_greatestDifference yX3_greatestDifference, Cond.code yX3_greatestDifference cX3_greatestDifference 4 (some .int), Cond.methodLink RX3 61 Lib.Math.max.name, Cond.methodLink RX3 57 yX3_apart, Cond.methodLink RX0 80 yX0_auctionPhase, Cond.instanceMethod yX0_auctionPhase]
def wsX5_auction_r4 : List Cond := [Cond.selects RX0 yX0_auctionPhase yX0_auctionPhase, Cond.code yX0_auctionPhase cX0_auctionPhase 3 (some .int), Cond.instanceMethod yX4_freeAll, Cond.selects RX4 yX4_freeAll yX4_freeAll, Cond.code yX4_freeAll cX4_freeAll 2 none, Cond.fieldLink RX4 15 "BidMosaic$Sale" "holders" "[I", Cond.fieldLink RX4 18 "BidMosaic$Sale" "held" "[I", Cond.methodLink RX0 93 yX0_bidTillNoneIsFree, Cond.instanceMethod yX0_bidTillNoneIsFree, Cond.selects RX0 yX0_bidTillNoneIsFree yX0_bidTillNoneIsFree, Cond.code yX0_bidTillNoneIsFree cX0_bidTillNoneIsFree 4 (some .int), Cond.constant RX0 112 (1000000), Cond.methodLink RX0 113 yX0_leastFree, Cond.instanceMethod yX0_leastFree, Cond.selects RX0 yX0_leastFree yX0_leastFree, Cond.code yX0_leastFree cX0_leastFree 3 (some .int), Cond.methodLink RX0 116 yX0_makeBid, Cond.instanceMethod yX0_makeBid, Cond.selects RX0 yX0_makeBid yX0_makeBid, Cond.code yX0_makeBid cX0_makeBid 10 none, Cond.static yX4_isInRow, Cond.code yX4_isInRow cX4_isInRow 1 (some .boolean), Cond.instanceMethod yX4_give, Cond.selects RX4 yX4_give yX4_give]
def wsX5_auction_r5 : List Cond := [Cond.code yX4_give cX4_give 4 none, Cond.methodLink RX4 44 yX4_isInRow, Cond.instanceMethod yX3_sumOfDifferences, Cond.selects RX3 yX3_sumOfDifferences yX3_sumOfDifferences, Cond.code yX3_sumOfDifferences cX3_sumOfDifferences 3 (some .int), Cond.methodLink RX3 79 yX3_kindOf, Cond.instanceMethod yX3_kindOf, Cond.selects RX3 yX3_kindOf yX3_kindOf, Cond.code yX3_kindOf cX3_kindOf 2 (some .int), Cond.fieldLink RX3 35 "BidMosaic$Picture" "sale" "LBidMosaic$Sale;", Cond.instanceMethod yX4_slotOf, Cond.selects RX4 yX4_slotOf yX4_slotOf, Cond.code yX4_slotOf cX4_slotOf 2 (some .int), Cond.instanceMethod yX4_notePhase, Cond.selects RX4 yX4_notePhase yX4_notePhase, Cond.code yX4_notePhase cX4_notePhase 4 none, Cond.fieldLink RX4 21 "BidMosaic$Sale" "steps" "[I", Cond.fieldLink RX4 24 "BidMosaic$Sale" "phaseBids" "[I", Cond.fieldLink RX4 27 "BidMosaic$Sale" "phaseSums" "[I", Cond.instanceMethod yX4_finish, Cond.selects RX4 yX4_finish yX4_finish, Cond.code yX4_finish cX4_finish 2 none, Cond.fieldLink RX4 41 "BidMosaic$Sale" "bids" "I", Cond.fieldLink RX4 30 "BidMosaic$Sale" "valid" "Z"]
def wsX5_auction_r6 : List Cond := [Cond.fieldLink RX4 34 "BidMosaic$Sale" "content" "Z"]
def wsX5_auction : List Cond := .code yX5_auction cX5_auction 2 (some .int) :: ((wsX5_auction_r1 ++ (wsX5_auction_r2 ++ (wsX5_auction_r3 ++ (wsX5_auction_r4 ++ (wsX5_auction_r5 ++ wsX5_auction_r6))))) ++ wsX50 ++ wsX30 ++ wsX10 ++ wsX20 ++ wsX00 ++ wsX40)
def wsX5_repair_r1 : List Cond := [Cond.fieldLink RX5 20 "BidMosaic" "now" "LBidMosaic$Picture;", Cond.fieldLink RX5 10 "BidMosaic" "bidding" "LBidMosaic$Bidding;", Cond.instanceMethod yX0_mend, Cond.initialized RX0, Cond.selects RX0 yX0_mend yX0_mend, Cond.code yX0_mend cX0_mend 2 (some .int), Cond.fieldLink RX0 43 "BidMosaic$Bidding" "slots" "I", Cond.fieldLink RX0 22 "BidMosaic$Bidding" "sale" "LBidMosaic$Sale;", Cond.methodLink RX0 66 yX0_readWorths, Cond.instanceMethod yX0_readWorths, Cond.selects RX0 yX0_readWorths yX0_readWorths, Cond.code yX0_readWorths cX0_readWorths 4 none, Cond.fieldLink RX0 12 "BidMosaic$Bidding" "picture" "LBidMosaic$Picture;", Cond.methodLink RX0 37 Lib.Math.min.name, Cond.static Lib.Math.min.name, Cond.initialized "java/lang/Math", Cond.code Lib.Math.min.name Lib.Math.min.code 2 (some .int), Cond.fieldLink RX0 23 "BidMosaic$Bidding" "worths" "[I", Cond.instanceMethod yX2_slots, Cond.initialized RX2, Cond.selects RX2 yX2_slots yX2_slots, Cond.code yX2_slots cX2_slots 1 (some .int), Cond.fieldLink RX2 18 "BidMosaic$Kinds" "count" "I", Cond.methodLink RX2 22 yX2_firstSlot]
def wsX5_repair_r2 : List Cond := [Cond.instanceMethod yX2_firstSlot, Cond.selects RX2 yX2_firstSlot yX2_firstSlot, Cond.code yX2_firstSlot cX2_firstSlot 4 (some .int), Cond.fieldLink RX2 15 "BidMosaic$Kinds" "stocks" "[I", Cond.instanceMethod yX2_ofSlot, Cond.selects RX2 yX2_ofSlot yX2_ofSlot, Cond.code yX2_ofSlot cX2_ofSlot 4 (some .int), Cond.methodLink RX0 50 yX0_worth, Cond.instanceMethod yX0_worth, Cond.selects RX0 yX0_worth yX0_worth, Cond.code yX0_worth cX0_worth 4 (some .int), Cond.instanceMethod yX1_has, Cond.initialized RX1, Cond.selects RX1 yX1_has yX1_has, Cond.code yX1_has cX1_has 2 (some .boolean), Cond.fieldLink RX1 15 "BidMosaic$Cells" "count" "I", Cond.instanceMethod yX3_apart, Cond.initialized RX3, Cond.selects RX3 yX3_apart yX3_apart, Cond.code yX3_apart cX3_apart 3 (some .int), Cond.fieldLink RX3 28 "BidMosaic$Picture" "cells" "LBidMosaic$Cells;", Cond.fieldLink RX3 21 "BidMosaic$Picture" "kinds" "LBidMosaic$Kinds;", Cond.fieldLink RX3 9 "BidMosaic$Picture" "mode" "I", Cond.instanceMethod yX2_has]
def wsX5_repair_r3 : List Cond := [Cond.selects RX2 yX2_has yX2_has, Cond.code yX2_has cX2_has 2 (some .boolean), Cond.static yX5_dotsApart, Cond.initialized RX5, Cond.code yX5_dotsApart cX5_dotsApart 8 (some .int), Cond.methodLink RX5 179 Lib.Math.abs.name, Cond.static Lib.Math.abs.name, Cond.code Lib.Math.abs.name Lib.Math.abs.code 1 (some .int), Cond.methodLink RX0 103 yX0_ownGain, Cond.instanceMethod yX0_ownGain, Cond.selects RX0 yX0_ownGain yX0_ownGain, Cond.code yX0_ownGain cX0_ownGain 2 (some .int), Cond.instanceMethod yX4_slotOf, Cond.initialized RX4, Cond.selects RX4 yX4_slotOf yX4_slotOf, Cond.code yX4_slotOf cX4_slotOf 2 (some .int), Cond.fieldLink RX4 18 "BidMosaic$Sale" "held" "[I", Cond.methodLink RX4 44 yX4_isInRow, Cond.static yX4_isInRow, Cond.code yX4_isInRow cX4_isInRow 1 (some .boolean), Cond.methodLink RX0 135 yX0_gainOf, Cond.instanceMethod yX0_gainOf, Cond.selects RX0 yX0_gainOf yX0_gainOf, Cond.code yX0_gainOf cX0_gainOf 3 (some .int)]
def wsX5_repair_r4 : List Cond := [Cond.methodLink RX0 106 yX0_greatestGain, Cond.instanceMethod yX0_greatestGain, Cond.selects RX0 yX0_greatestGain yX0_greatestGain, Cond.code yX0_greatestGain cX0_greatestGain 4 (some .int), Cond.methodLink RX0 77 Lib.Math.max.name, Cond.static Lib.Math.max.name, Cond.code Lib.Math.max.name Lib.Math.max.code 2 (some .int), Cond.instanceMethod yX4_setFree, Cond.selects RX4 yX4_setFree yX4_setFree, Cond.code yX4_setFree cX4_setFree 3 none, Cond.fieldLink RX4 15 "BidMosaic$Sale" "holders" "[I", Cond.methodLink RX0 93 yX0_bidTillNoneIsFree, Cond.instanceMethod yX0_bidTillNoneIsFree, Cond.selects RX0 yX0_bidTillNoneIsFree yX0_bidTillNoneIsFree, Cond.code yX0_bidTillNoneIsFree cX0_bidTillNoneIsFree 4 (some .int), Cond.constant RX0 112 (1000000), Cond.methodLink RX0 113 yX0_leastFree, Cond.instanceMethod yX0_leastFree, Cond.selects RX0 yX0_leastFree yX0_leastFree, Cond.code yX0_leastFree cX0_leastFree 3 (some .int), Cond.methodLink RX0 116 yX0_makeBid, Cond.instanceMethod yX0_makeBid, Cond.selects RX0 yX0_makeBid yX0_makeBid, Cond.code yX0_makeBid cX0_makeBid 10 none]
def wsX5_repair_r5 : List Cond := [Cond.instanceMethod yX4_give, Cond.selects RX4 yX4_give yX4_give, Cond.code yX4_give cX4_give 4 none, Cond.instanceMethod yX4_finish, Cond.selects RX4 yX4_finish yX4_finish, Cond.code yX4_finish cX4_finish 2 none, Cond.fieldLink RX4 41 "BidMosaic$Sale" "bids" "I", Cond.fieldLink RX4 30 "BidMosaic$Sale" "valid" "Z", Cond.fieldLink RX4 34 "BidMosaic$Sale" "content" "Z"]
def wsX5_repair : List Cond := .code yX5_repair cX5_repair 1 (some .int) :: ((wsX5_repair_r1 ++ (wsX5_repair_r2 ++ (wsX5_repair_r3 ++ (wsX5_repair_r4 ++ wsX5_repair_r5)))) ++ wsX50 ++ wsX30 ++ wsX40 ++ wsX00 ++ wsX20 ++ wsX10)
def wsX5_phase : List Cond := .code yX5_phase cX5_phase 3 (some .int) :: ([.fieldLink RX5 20 "BidMosaic" "now" "LBidMosaic$Picture;", .instanceMethod yX4_hasPhase, .initialized RX4, .selects RX4 yX4_hasPhase yX4_hasPhase, .code yX4_hasPhase cX4_hasPhase 2 (some .boolean), .fieldLink RX4 37 "BidMosaic$Sale" "phases" "I"] ++ wsX50 ++ wsX30 ++ wsX40)
def wsX5_place_r1 : List Cond := [Cond.fieldLink RX5 20 "BidMosaic" "now" "LBidMosaic$Picture;", Cond.instanceMethod yX4_isDone, Cond.initialized RX4, Cond.selects RX4 yX4_isDone yX4_isDone, Cond.code yX4_isDone cX4_isDone 1 (some .boolean), Cond.fieldLink RX4 30 "BidMosaic$Sale" "valid" "Z", Cond.fieldLink RX4 34 "BidMosaic$Sale" "content" "Z", Cond.instanceMethod yX1_has, Cond.initialized RX1, Cond.selects RX1 yX1_has yX1_has, Cond.code yX1_has cX1_has 2 (some .boolean), Cond.fieldLink RX1 15 "BidMosaic$Cells" "count" "I", Cond.instanceMethod yX3_kindOf, Cond.initialized RX3, Cond.selects RX3 yX3_kindOf yX3_kindOf, Cond.code yX3_kindOf cX3_kindOf 2 (some .int), Cond.fieldLink RX3 21 "BidMosaic$Picture" "kinds" "LBidMosaic$Kinds;", Cond.fieldLink RX3 35 "BidMosaic$Picture" "sale" "LBidMosaic$Sale;", Cond.instanceMethod yX4_slotOf, Cond.selects RX4 yX4_slotOf yX4_slotOf, Cond.code yX4_slotOf cX4_slotOf 2 (some .int), Cond.fieldLink RX4 18 "BidMosaic$Sale" "held" "[I", Cond.methodLink RX4 44 yX4_isInRow, Cond.static yX4_isInRow]
def wsX5_place_r2 : List Cond := [Cond.code yX4_isInRow cX4_isInRow 1 (some .boolean), Cond.instanceMethod yX2_ofSlot, Cond.initialized RX2, Cond.selects RX2 yX2_ofSlot yX2_ofSlot, Cond.code yX2_ofSlot cX2_ofSlot 4 (some .int), Cond.fieldLink RX2 18 "BidMosaic$Kinds" "count" "I", Cond.fieldLink RX2 15 "BidMosaic$Kinds" "stocks" "[I"]
def wsX5_place : List Cond := .code yX5_place cX5_place 2 (some .int) :: ((wsX5_place_r1 ++ wsX5_place_r2) ++ wsX50 ++ wsX30 ++ wsX40 ++ wsX10 ++ wsX20)
def wsX5_slot_r1 : List Cond := [Cond.fieldLink RX5 20 "BidMosaic" "now" "LBidMosaic$Picture;", Cond.static yX4_isInRow, Cond.initialized RX4, Cond.code yX4_isInRow cX4_isInRow 1 (some .boolean), Cond.instanceMethod yX2_slots, Cond.initialized RX2, Cond.selects RX2 yX2_slots yX2_slots, Cond.code yX2_slots cX2_slots 1 (some .int), Cond.fieldLink RX2 18 "BidMosaic$Kinds" "count" "I", Cond.methodLink RX2 22 yX2_firstSlot, Cond.instanceMethod yX2_firstSlot, Cond.selects RX2 yX2_firstSlot yX2_firstSlot, Cond.code yX2_firstSlot cX2_firstSlot 4 (some .int), Cond.fieldLink RX2 15 "BidMosaic$Kinds" "stocks" "[I", Cond.instanceMethod yX2_ofSlot, Cond.selects RX2 yX2_ofSlot yX2_ofSlot, Cond.code yX2_ofSlot cX2_ofSlot 4 (some .int), Cond.instanceMethod yX3_cellOf, Cond.initialized RX3, Cond.selects RX3 yX3_cellOf yX3_cellOf, Cond.code yX3_cellOf cX3_cellOf 3 (some .int), Cond.fieldLink RX3 35 "BidMosaic$Picture" "sale" "LBidMosaic$Sale;", Cond.fieldLink RX3 28 "BidMosaic$Picture" "cells" "LBidMosaic$Cells;", Cond.instanceMethod yX1_has]
def wsX5_slot_r2 : List Cond := [Cond.initialized RX1, Cond.selects RX1 yX1_has yX1_has, Cond.code yX1_has cX1_has 2 (some .boolean), Cond.fieldLink RX1 15 "BidMosaic$Cells" "count" "I"]
def wsX5_slot : List Cond := .code yX5_slot cX5_slot 3 (some .int) :: ((wsX5_slot_r1 ++ wsX5_slot_r2) ++ wsX50 ++ wsX30 ++ wsX40 ++ wsX20 ++ wsX10)
def wsX5_gain_r1 : List Cond := [Cond.fieldLink RX5 20 "BidMosaic" "now" "LBidMosaic$Picture;", Cond.constant RX5 150 (-100000003), Cond.constant RX5 151 (-100000001), Cond.constant RX5 152 (-100000002), Cond.fieldLink RX5 10 "BidMosaic" "bidding" "LBidMosaic$Bidding;", Cond.instanceMethod yX1_has, Cond.initialized RX1, Cond.selects RX1 yX1_has yX1_has, Cond.code yX1_has cX1_has 2 (some .boolean), Cond.fieldLink RX1 15 "BidMosaic$Cells" "count" "I", Cond.instanceMethod yX0_readWorths, Cond.initialized RX0, Cond.selects RX0 yX0_readWorths yX0_readWorths, Cond.code yX0_readWorths cX0_readWorths 4 none, Cond.fieldLink RX0 12 "BidMosaic$Bidding" "picture" "LBidMosaic$Picture;", Cond.methodLink RX0 37 Lib.Math.min.name, Cond.static Lib.Math.min.name, Cond.initialized "java/lang/Math", Cond.code Lib.Math.min.name Lib.Math.min.code 2 (some .int), Cond.fieldLink RX0 43 "BidMosaic$Bidding" "slots" "I", Cond.fieldLink RX0 23 "BidMosaic$Bidding" "worths" "[I", Cond.instanceMethod yX2_slots, Cond.initialized RX2, Cond.selects RX2 yX2_slots yX2_slots]
def wsX5_gain_r2 : List Cond := [Cond.code yX2_slots cX2_slots 1 (some .int), Cond.fieldLink RX2 18 "BidMosaic$Kinds" "count" "I", Cond.methodLink RX2 22 yX2_firstSlot, Cond.instanceMethod yX2_firstSlot, Cond.selects RX2 yX2_firstSlot yX2_firstSlot, Cond.code yX2_firstSlot cX2_firstSlot 4 (some .int), Cond.fieldLink RX2 15 "BidMosaic$Kinds" "stocks" "[I", Cond.instanceMethod yX2_ofSlot, Cond.selects RX2 yX2_ofSlot yX2_ofSlot, Cond.code yX2_ofSlot cX2_ofSlot 4 (some .int), Cond.methodLink RX0 50 yX0_worth, Cond.instanceMethod yX0_worth, Cond.selects RX0 yX0_worth yX0_worth, Cond.code yX0_worth cX0_worth 4 (some .int), Cond.instanceMethod yX3_apart, Cond.initialized RX3, Cond.selects RX3 yX3_apart yX3_apart, Cond.code yX3_apart cX3_apart 3 (some .int), Cond.fieldLink RX3 28 "BidMosaic$Picture" "cells" "LBidMosaic$Cells;", Cond.fieldLink RX3 21 "BidMosaic$Picture" "kinds" "LBidMosaic$Kinds;", Cond.fieldLink RX3 9 "BidMosaic$Picture" "mode" "I", Cond.instanceMethod yX2_has, Cond.selects RX2 yX2_has yX2_has, Cond.code yX2_has cX2_has 2 (some .boolean)]
def wsX5_gain_r3 : List Cond := [Cond.static yX5_dotsApart, Cond.initialized RX5, Cond.code yX5_dotsApart cX5_dotsApart 8 (some .int), Cond.methodLink RX5 179 Lib.Math.abs.name, Cond.static Lib.Math.abs.name, Cond.code Lib.Math.abs.name Lib.Math.abs.code 1 (some .int), Cond.instanceMethod yX0_ownGain, Cond.selects RX0 yX0_ownGain yX0_ownGain, Cond.code yX0_ownGain cX0_ownGain 2 (some .int), Cond.fieldLink RX0 22 "BidMosaic$Bidding" "sale" "LBidMosaic$Sale;", Cond.instanceMethod yX4_slotOf, Cond.initialized RX4, Cond.selects RX4 yX4_slotOf yX4_slotOf, Cond.code yX4_slotOf cX4_slotOf 2 (some .int), Cond.fieldLink RX4 18 "BidMosaic$Sale" "held" "[I", Cond.methodLink RX4 44 yX4_isInRow, Cond.static yX4_isInRow, Cond.code yX4_isInRow cX4_isInRow 1 (some .boolean), Cond.methodLink RX0 135 yX0_gainOf, Cond.instanceMethod yX0_gainOf, Cond.selects RX0 yX0_gainOf yX0_gainOf, Cond.code yX0_gainOf cX0_gainOf 3 (some .int), Cond.instanceMethod yX0_greatestGain, Cond.selects RX0 yX0_greatestGain yX0_greatestGain]
def wsX5_gain_r4 : List Cond := [Cond.code yX0_greatestGain cX0_greatestGain 4 (some .int), Cond.methodLink RX0 77 Lib.Math.max.name, Cond.static Lib.Math.max.name, Cond.code Lib.Math.max.name Lib.Math.max.code 2 (some .int)]
def wsX5_gain : List Cond := .code yX5_gain cX5_gain 3 (some .int) :: ((wsX5_gain_r1 ++ (wsX5_gain_r2 ++ (wsX5_gain_r3 ++ wsX5_gain_r4))) ++ wsX50 ++ wsX30 ++ wsX40 ++ wsX10 ++ wsX00 ++ wsX20)
def wsX5_total_r1 : List Cond := [Cond.fieldLink RX5 20 "BidMosaic" "now" "LBidMosaic$Picture;", Cond.instanceMethod yX4_isDone, Cond.initialized RX4, Cond.selects RX4 yX4_isDone yX4_isDone, Cond.code yX4_isDone cX4_isDone 1 (some .boolean), Cond.fieldLink RX4 30 "BidMosaic$Sale" "valid" "Z", Cond.fieldLink RX4 34 "BidMosaic$Sale" "content" "Z", Cond.instanceMethod yX3_sumOfDifferences, Cond.initialized RX3, Cond.selects RX3 yX3_sumOfDifferences yX3_sumOfDifferences, Cond.code yX3_sumOfDifferences cX3_sumOfDifferences 3 (some .int), Cond.fieldLink RX3 28 "BidMosaic$Picture" "cells" "LBidMosaic$Cells;", Cond.methodLink RX3 79 yX3_kindOf, Cond.instanceMethod yX3_kindOf, Cond.selects RX3 yX3_kindOf yX3_kindOf, Cond.code yX3_kindOf cX3_kindOf 2 (some .int), Cond.fieldLink RX3 21 "BidMosaic$Picture" "kinds" "LBidMosaic$Kinds;", Cond.fieldLink RX3 35 "BidMosaic$Picture" "sale" "LBidMosaic$Sale;", Cond.instanceMethod yX4_slotOf, Cond.selects RX4 yX4_slotOf yX4_slotOf, Cond.code yX4_slotOf cX4_slotOf 2 (some .int), Cond.fieldLink RX4 18 "BidMosaic$Sale" "held" "[I", Cond.methodLink RX4 44 yX4_isInRow, Cond.static yX4_isInRow]
def wsX5_total_r2 : List Cond := [Cond.code yX4_isInRow cX4_isInRow 1 (some .boolean), Cond.instanceMethod yX2_ofSlot, Cond.initialized RX2, Cond.selects RX2 yX2_ofSlot yX2_ofSlot, Cond.code yX2_ofSlot cX2_ofSlot 4 (some .int), Cond.fieldLink RX2 18 "BidMosaic$Kinds" "count" "I", Cond.fieldLink RX2 15 "BidMosaic$Kinds" "stocks" "[I", Cond.methodLink RX3 57 yX3_apart, Cond.instanceMethod yX3_apart, Cond.selects RX3 yX3_apart yX3_apart, Cond.code yX3_apart cX3_apart 3 (some .int), Cond.fieldLink RX3 9 "BidMosaic$Picture" "mode" "I", Cond.instanceMethod yX1_has, Cond.initialized RX1, Cond.selects RX1 yX1_has yX1_has, Cond.code yX1_has cX1_has 2 (some .boolean), Cond.fieldLink RX1 15 "BidMosaic$Cells" "count" "I", Cond.instanceMethod yX2_has, Cond.selects RX2 yX2_has yX2_has, Cond.code yX2_has cX2_has 2 (some .boolean), Cond.static yX5_dotsApart, Cond.initialized RX5, Cond.code yX5_dotsApart cX5_dotsApart 8 (some .int), Cond.methodLink RX5 179 Lib.Math.abs.name]
def wsX5_total_r3 : List Cond := [Cond.static Lib.Math.abs.name, Cond.initialized "java/lang/Math", Cond.code Lib.Math.abs.name Lib.Math.abs.code 1 (some .int)]
def wsX5_total : List Cond := .code yX5_total cX5_total 1 (some .int) :: ((wsX5_total_r1 ++ (wsX5_total_r2 ++ wsX5_total_r3)) ++ wsX50 ++ wsX30 ++ wsX40 ++ wsX10 ++ wsX20)
def wsX5_image_r1 : List Cond := [Cond.fieldLink RX5 25 "BidMosaic" "images" "[LBidMosaic$Picture;", Cond.classLink RX5 23 RX3, Cond.instantiable RX3 5, Cond.initialized RX3, Cond.fieldLink RX5 20 "BidMosaic" "now" "LBidMosaic$Picture;", Cond.instanceMethod yX3_init, Cond.code yX3_init cX3_init 1 none, Cond.methodLink RX3 3 objectInit, Cond.instanceMethod objectInit, Cond.code objectInit ⟨#[0xb1]⟩ 1 none, Cond.fieldLink RX3 9 "BidMosaic$Picture" "mode" "I", Cond.fieldLink RX3 15 "BidMosaic$Picture" "shrink" "I", Cond.classLink RX3 18 RX2, Cond.instantiable RX2 3, Cond.initialized RX2, Cond.fieldLink RX3 21 "BidMosaic$Picture" "kinds" "LBidMosaic$Kinds;", Cond.classLink RX3 25 RX1, Cond.instantiable RX1 2, Cond.initialized RX1, Cond.fieldLink RX3 28 "BidMosaic$Picture" "cells" "LBidMosaic$Cells;", Cond.classLink RX3 32 RX4, Cond.instantiable RX4 10, Cond.initialized RX4, Cond.fieldLink RX3 35 "BidMosaic$Picture" "sale" "LBidMosaic$Sale;"]
def wsX5_image_r2 : List Cond := [Cond.instanceMethod yX2_init, Cond.code yX2_init cX2_init 1 none, Cond.methodLink RX2 3 objectInit, Cond.arrayClass .int, Cond.fieldLink RX2 9 "BidMosaic$Kinds" "dots" "[I", Cond.fieldLink RX2 15 "BidMosaic$Kinds" "stocks" "[I", Cond.instanceMethod yX1_init, Cond.code yX1_init cX1_init 1 none, Cond.methodLink RX1 3 objectInit, Cond.fieldLink RX1 9 "BidMosaic$Cells" "dots" "[I", Cond.instanceMethod yX4_init, Cond.code yX4_init cX4_init 1 none, Cond.methodLink RX4 3 objectInit, Cond.fieldLink RX4 9 "BidMosaic$Sale" "prices" "[I", Cond.fieldLink RX4 15 "BidMosaic$Sale" "holders" "[I", Cond.fieldLink RX4 18 "BidMosaic$Sale" "held" "[I", Cond.fieldLink RX4 21 "BidMosaic$Sale" "steps" "[I", Cond.fieldLink RX4 24 "BidMosaic$Sale" "phaseBids" "[I", Cond.fieldLink RX4 27 "BidMosaic$Sale" "phaseSums" "[I", Cond.instanceMethod yX3_copyFrom, Cond.selects RX3 yX3_copyFrom yX3_copyFrom, Cond.code yX3_copyFrom cX3_copyFrom 2 none, Cond.instanceMethod yX2_copyFrom, Cond.selects RX2 yX2_copyFrom yX2_copyFrom]
def wsX5_image_r3 : List Cond := [Cond.code yX2_copyFrom cX2_copyFrom 2 none, Cond.fieldLink RX2 18 "BidMosaic$Kinds" "count" "I", Cond.methodLink RX2 37 arraycopyName, Cond.native arraycopyName, Cond.static arraycopyName, Cond.initialized "java/lang/System", Cond.instanceMethod yX1_copyFrom, Cond.selects RX1 yX1_copyFrom yX1_copyFrom, Cond.code yX1_copyFrom cX1_copyFrom 2 none, Cond.fieldLink RX1 15 "BidMosaic$Cells" "count" "I", Cond.methodLink RX1 23 arraycopyName, Cond.instanceMethod yX4_copyFrom, Cond.selects RX4 yX4_copyFrom yX4_copyFrom, Cond.code yX4_copyFrom cX4_copyFrom 2 none, Cond.fieldLink RX4 30 "BidMosaic$Sale" "valid" "Z", Cond.fieldLink RX4 34 "BidMosaic$Sale" "content" "Z", Cond.fieldLink RX4 41 "BidMosaic$Sale" "bids" "I", Cond.fieldLink RX4 37 "BidMosaic$Sale" "phases" "I", Cond.methodLink RX4 48 arraycopyName]
def wsX5_image : List Cond := .code yX5_image cX5_image 2 (some .int) :: ((wsX5_image_r1 ++ (wsX5_image_r2 ++ wsX5_image_r3)) ++ wsX50 ++ wsX30 ++ wsX20 ++ wsX10 ++ wsX40)
def wsX5_restore_r1 : List Cond := [Cond.fieldLink RX5 25 "BidMosaic" "images" "[LBidMosaic$Picture;", Cond.fieldLink RX5 20 "BidMosaic" "now" "LBidMosaic$Picture;", Cond.instanceMethod yX3_copyFrom, Cond.initialized RX3, Cond.selects RX3 yX3_copyFrom yX3_copyFrom, Cond.code yX3_copyFrom cX3_copyFrom 2 none, Cond.fieldLink RX3 9 "BidMosaic$Picture" "mode" "I", Cond.fieldLink RX3 15 "BidMosaic$Picture" "shrink" "I", Cond.fieldLink RX3 21 "BidMosaic$Picture" "kinds" "LBidMosaic$Kinds;", Cond.fieldLink RX3 28 "BidMosaic$Picture" "cells" "LBidMosaic$Cells;", Cond.fieldLink RX3 35 "BidMosaic$Picture" "sale" "LBidMosaic$Sale;", Cond.instanceMethod yX2_copyFrom, Cond.initialized RX2, Cond.selects RX2 yX2_copyFrom yX2_copyFrom, Cond.code yX2_copyFrom cX2_copyFrom 2 none, Cond.fieldLink RX2 18 "BidMosaic$Kinds" "count" "I", Cond.fieldLink RX2 9 "BidMosaic$Kinds" "dots" "[I", Cond.methodLink RX2 37 arraycopyName, Cond.native arraycopyName, Cond.static arraycopyName, Cond.initialized "java/lang/System", Cond.fieldLink RX2 15 "BidMosaic$Kinds" "stocks" "[I", Cond.instanceMethod yX1_copyFrom, Cond.initialized RX1]
def wsX5_restore_r2 : List Cond := [Cond.selects RX1 yX1_copyFrom yX1_copyFrom, Cond.code yX1_copyFrom cX1_copyFrom 2 none, Cond.fieldLink RX1 15 "BidMosaic$Cells" "count" "I", Cond.fieldLink RX1 9 "BidMosaic$Cells" "dots" "[I", Cond.methodLink RX1 23 arraycopyName, Cond.instanceMethod yX4_copyFrom, Cond.initialized RX4, Cond.selects RX4 yX4_copyFrom yX4_copyFrom, Cond.code yX4_copyFrom cX4_copyFrom 2 none, Cond.fieldLink RX4 30 "BidMosaic$Sale" "valid" "Z", Cond.fieldLink RX4 34 "BidMosaic$Sale" "content" "Z", Cond.fieldLink RX4 41 "BidMosaic$Sale" "bids" "I", Cond.fieldLink RX4 37 "BidMosaic$Sale" "phases" "I", Cond.fieldLink RX4 9 "BidMosaic$Sale" "prices" "[I", Cond.methodLink RX4 48 arraycopyName, Cond.fieldLink RX4 15 "BidMosaic$Sale" "holders" "[I", Cond.fieldLink RX4 18 "BidMosaic$Sale" "held" "[I", Cond.fieldLink RX4 21 "BidMosaic$Sale" "steps" "[I", Cond.fieldLink RX4 24 "BidMosaic$Sale" "phaseBids" "[I", Cond.fieldLink RX4 27 "BidMosaic$Sale" "phaseSums" "[I"]
def wsX5_restore : List Cond := .code yX5_restore cX5_restore 2 (some .int) :: ((wsX5_restore_r1 ++ wsX5_restore_r2) ++ wsX50 ++ wsX30 ++ wsX20 ++ wsX10 ++ wsX40)
def wsX5_toldOfCell : List Cond := .code yX5_toldOfCell cX5_toldOfCell 2 (some .int) :: ([.fieldLink RX5 20 "BidMosaic" "now" "LBidMosaic$Picture;", .instanceMethod yX1_has, .initialized RX1, .selects RX1 yX1_has yX1_has, .code yX1_has cX1_has 2 (some .boolean), .fieldLink RX1 15 "BidMosaic$Cells" "count" "I"] ++ wsX50 ++ wsX30 ++ wsX10)
def wsX5_told_r1 : List Cond := [Cond.fieldLink RX5 20 "BidMosaic" "now" "LBidMosaic$Picture;", Cond.instanceMethod yX2_slots, Cond.initialized RX2, Cond.selects RX2 yX2_slots yX2_slots, Cond.code yX2_slots cX2_slots 1 (some .int), Cond.fieldLink RX2 18 "BidMosaic$Kinds" "count" "I", Cond.methodLink RX2 22 yX2_firstSlot, Cond.instanceMethod yX2_firstSlot, Cond.selects RX2 yX2_firstSlot yX2_firstSlot, Cond.code yX2_firstSlot cX2_firstSlot 4 (some .int), Cond.fieldLink RX2 15 "BidMosaic$Kinds" "stocks" "[I", Cond.instanceMethod yX4_isDone, Cond.initialized RX4, Cond.selects RX4 yX4_isDone yX4_isDone, Cond.code yX4_isDone cX4_isDone 1 (some .boolean), Cond.fieldLink RX4 30 "BidMosaic$Sale" "valid" "Z", Cond.fieldLink RX4 34 "BidMosaic$Sale" "content" "Z", Cond.methodLink RX5 176 yX5_toldOfCell, Cond.instanceMethod yX5_toldOfCell, Cond.selects RX5 yX5_toldOfCell yX5_toldOfCell, Cond.initialized RX5, Cond.code yX5_toldOfCell cX5_toldOfCell 2 (some .int), Cond.instanceMethod yX1_has, Cond.initialized RX1]
def wsX5_told_r2 : List Cond := [Cond.selects RX1 yX1_has yX1_has, Cond.code yX1_has cX1_has 2 (some .boolean), Cond.fieldLink RX1 15 "BidMosaic$Cells" "count" "I"]
def wsX5_told : List Cond := .code yX5_told cX5_told 2 (some .int) :: ((wsX5_told_r1 ++ wsX5_told_r2) ++ wsX50 ++ wsX30 ++ wsX20 ++ wsX10 ++ wsX40)
def wsX6_init : List Cond := .code yX6_init cX6_init 1 none :: ([.methodLink RX6 1 objectInit, .instanceMethod objectInit, .code objectInit ⟨#[0xb1]⟩ 1 none, .arrayClass .int, .fieldLink RX6 7 "BidMosaicModel" "now" "[I", .fieldLink RX6 13 "BidMosaicModel" "kindDots" "[I", .fieldLink RX6 16 "BidMosaicModel" "kindStock" "[I", .fieldLink RX6 19 "BidMosaicModel" "cellDots" "[I", .fieldLink RX6 22 "BidMosaicModel" "price" "[I", .fieldLink RX6 25 "BidMosaicModel" "slotKind" "[I", .fieldLink RX6 28 "BidMosaicModel" "owner" "[I", .fieldLink RX6 31 "BidMosaicModel" "mine" "[I", .fieldLink RX6 34 "BidMosaicModel" "steps" "[I", .fieldLink RX6 37 "BidMosaicModel" "bids" "[I", .fieldLink RX6 40 "BidMosaicModel" "sums" "[I", .fieldLink RX6 43 "BidMosaicModel" "kept" "[I", .arrayClass .boolean, .fieldLink RX6 46 "BidMosaicModel" "isKept" "[Z"] ++ wsX60)
def wsX6_in : List Cond := .code yX6_in cX6_in 6 (some .boolean) :: ([])
def wsX6_isDots : List Cond := .code yX6_isDots cX6_isDots 1 (some .boolean) :: ([.constantLong RX6 50 (9999), .methodLink RX6 52 yX6_in, .static yX6_in, .initialized RX6, .code yX6_in cX6_in 6 (some .boolean)])
def wsX6_kinds : List Cond := .code yX6_kinds cX6_kinds 1 (some .int) :: ([.fieldLink RX6 7 "BidMosaicModel" "now" "[I"] ++ wsX60)
def wsX6_cells : List Cond := .code yX6_cells cX6_cells 1 (some .int) :: ([.fieldLink RX6 7 "BidMosaicModel" "now" "[I"] ++ wsX60)
def wsX6_isValid : List Cond := .code yX6_isValid cX6_isValid 1 (some .boolean) :: ([.fieldLink RX6 7 "BidMosaicModel" "now" "[I"] ++ wsX60)
def wsX6_isDone : List Cond := .code yX6_isDone cX6_isDone 1 (some .boolean) :: ([.fieldLink RX6 7 "BidMosaicModel" "now" "[I"] ++ wsX60)
def wsX6_end : List Cond := .code yX6_end cX6_end 1 none :: ([.fieldLink RX6 7 "BidMosaicModel" "now" "[I"] ++ wsX60)
def wsX6_mode : List Cond := .code yX6_mode cX6_mode 3 (some .int) :: ([.fieldLink RX6 7 "BidMosaicModel" "now" "[I", .methodLink RX6 52 yX6_in, .static yX6_in, .initialized RX6, .code yX6_in cX6_in 6 (some .boolean), .methodLink RX6 56 yX6_end, .instanceMethod yX6_end, .selects RX6 yX6_end yX6_end, .code yX6_end cX6_end 1 none] ++ wsX60)
def wsX6_shrink : List Cond := .code yX6_shrink cX6_shrink 3 (some .int) :: ([.constantLong RX6 59 (2), .constantLong RX6 61 (9), .fieldLink RX6 7 "BidMosaicModel" "now" "[I", .methodLink RX6 52 yX6_in, .static yX6_in, .initialized RX6, .code yX6_in cX6_in 6 (some .boolean)] ++ wsX60)
def wsX6_kindOf : List Cond := .code yX6_kindOf cX6_kindOf 3 (some .int) :: ([.fieldLink RX6 13 "BidMosaicModel" "kindDots" "[I", .methodLink RX6 63 yX6_kinds, .instanceMethod yX6_kinds, .selects RX6 yX6_kinds yX6_kinds, .initialized RX6, .code yX6_kinds cX6_kinds 1 (some .int), .fieldLink RX6 7 "BidMosaicModel" "now" "[I"] ++ wsX60)
def wsX6_stocks : List Cond := .code yX6_stocks cX6_stocks 3 (some .int) :: ([.fieldLink RX6 16 "BidMosaicModel" "kindStock" "[I", .methodLink RX6 63 yX6_kinds, .instanceMethod yX6_kinds, .selects RX6 yX6_kinds yX6_kinds, .initialized RX6, .code yX6_kinds cX6_kinds 1 (some .int), .fieldLink RX6 7 "BidMosaicModel" "now" "[I"] ++ wsX60)
def wsX6_stock_r1 : List Cond := [Cond.constantLong RX6 71 (4), Cond.fieldLink RX6 16 "BidMosaicModel" "kindStock" "[I", Cond.fieldLink RX6 13 "BidMosaicModel" "kindDots" "[I", Cond.fieldLink RX6 7 "BidMosaicModel" "now" "[I", Cond.methodLink RX6 67 yX6_isDots, Cond.static yX6_isDots, Cond.initialized RX6, Cond.code yX6_isDots cX6_isDots 1 (some .boolean), Cond.constantLong RX6 50 (9999), Cond.methodLink RX6 52 yX6_in, Cond.static yX6_in, Cond.code yX6_in cX6_in 6 (some .boolean), Cond.methodLink RX6 73 yX6_kindOf, Cond.instanceMethod yX6_kindOf, Cond.selects RX6 yX6_kindOf yX6_kindOf, Cond.code yX6_kindOf cX6_kindOf 3 (some .int), Cond.methodLink RX6 63 yX6_kinds, Cond.instanceMethod yX6_kinds, Cond.selects RX6 yX6_kinds yX6_kinds, Cond.code yX6_kinds cX6_kinds 1 (some .int), Cond.methodLink RX6 77 yX6_stocks, Cond.instanceMethod yX6_stocks, Cond.selects RX6 yX6_stocks yX6_stocks, Cond.code yX6_stocks cX6_stocks 3 (some .int)]
def wsX6_stock_r2 : List Cond := [Cond.methodLink RX6 56 yX6_end, Cond.instanceMethod yX6_end, Cond.selects RX6 yX6_end yX6_end, Cond.code yX6_end cX6_end 1 none]
def wsX6_stock : List Cond := .code yX6_stock cX6_stock 5 (some .int) :: ((wsX6_stock_r1 ++ wsX6_stock_r2) ++ wsX60)
def wsX6_drop : List Cond := .code yX6_drop cX6_drop 4 (some .int) :: ([.fieldLink RX6 7 "BidMosaicModel" "now" "[I", .fieldLink RX6 13 "BidMosaicModel" "kindDots" "[I", .fieldLink RX6 16 "BidMosaicModel" "kindStock" "[I", .methodLink RX6 67 yX6_isDots, .static yX6_isDots, .initialized RX6, .code yX6_isDots cX6_isDots 1 (some .boolean), .constantLong RX6 50 (9999), .methodLink RX6 52 yX6_in, .static yX6_in, .code yX6_in cX6_in 6 (some .boolean), .methodLink RX6 73 yX6_kindOf, .instanceMethod yX6_kindOf, .selects RX6 yX6_kindOf yX6_kindOf, .code yX6_kindOf cX6_kindOf 3 (some .int), .methodLink RX6 63 yX6_kinds, .instanceMethod yX6_kinds, .selects RX6 yX6_kinds yX6_kinds, .code yX6_kinds cX6_kinds 1 (some .int), .methodLink RX6 56 yX6_end, .instanceMethod yX6_end, .selects RX6 yX6_end yX6_end, .code yX6_end cX6_end 1 none] ++ wsX60)
def wsX6_firstSlot : List Cond := .code yX6_firstSlot cX6_firstSlot 4 (some .int) :: ([.fieldLink RX6 16 "BidMosaicModel" "kindStock" "[I"] ++ wsX60)
def wsX6_having : List Cond := .code yX6_having cX6_having 4 (some .int) :: ([.fieldLink RX6 25 "BidMosaicModel" "slotKind" "[I", .fieldLink RX6 31 "BidMosaicModel" "mine" "[I", .methodLink RX6 80 yX6_cells, .instanceMethod yX6_cells, .selects RX6 yX6_cells yX6_cells, .initialized RX6, .code yX6_cells cX6_cells 1 (some .int), .fieldLink RX6 7 "BidMosaicModel" "now" "[I", .methodLink RX6 83 yX6_isDone, .instanceMethod yX6_isDone, .selects RX6 yX6_isDone yX6_isDone, .code yX6_isDone cX6_isDone 1 (some .boolean)] ++ wsX60)
def wsX6_kind_r1 : List Cond := [Cond.fieldLink RX6 13 "BidMosaicModel" "kindDots" "[I", Cond.fieldLink RX6 16 "BidMosaicModel" "kindStock" "[I", Cond.methodLink RX6 63 yX6_kinds, Cond.instanceMethod yX6_kinds, Cond.selects RX6 yX6_kinds yX6_kinds, Cond.initialized RX6, Cond.code yX6_kinds cX6_kinds 1 (some .int), Cond.fieldLink RX6 7 "BidMosaicModel" "now" "[I", Cond.methodLink RX6 52 yX6_in, Cond.static yX6_in, Cond.code yX6_in cX6_in 6 (some .boolean), Cond.methodLink RX6 87 yX6_firstSlot, Cond.instanceMethod yX6_firstSlot, Cond.selects RX6 yX6_firstSlot yX6_firstSlot, Cond.code yX6_firstSlot cX6_firstSlot 4 (some .int), Cond.methodLink RX6 90 yX6_having, Cond.instanceMethod yX6_having, Cond.selects RX6 yX6_having yX6_having, Cond.code yX6_having cX6_having 4 (some .int), Cond.fieldLink RX6 25 "BidMosaicModel" "slotKind" "[I", Cond.fieldLink RX6 31 "BidMosaicModel" "mine" "[I", Cond.methodLink RX6 80 yX6_cells, Cond.instanceMethod yX6_cells, Cond.selects RX6 yX6_cells yX6_cells]
def wsX6_kind_r2 : List Cond := [Cond.code yX6_cells cX6_cells 1 (some .int), Cond.methodLink RX6 83 yX6_isDone, Cond.instanceMethod yX6_isDone, Cond.selects RX6 yX6_isDone yX6_isDone, Cond.code yX6_isDone cX6_isDone 1 (some .boolean)]
def wsX6_kind : List Cond := .code yX6_kind cX6_kind 3 (some .int) :: ((wsX6_kind_r1 ++ wsX6_kind_r2) ++ wsX60)
def wsX6_find : List Cond := .code yX6_find cX6_find 2 (some .int) :: ([.methodLink RX6 67 yX6_isDots, .static yX6_isDots, .initialized RX6, .code yX6_isDots cX6_isDots 1 (some .boolean), .constantLong RX6 50 (9999), .methodLink RX6 52 yX6_in, .static yX6_in, .code yX6_in cX6_in 6 (some .boolean), .methodLink RX6 73 yX6_kindOf, .instanceMethod yX6_kindOf, .selects RX6 yX6_kindOf yX6_kindOf, .code yX6_kindOf cX6_kindOf 3 (some .int), .fieldLink RX6 13 "BidMosaicModel" "kindDots" "[I", .methodLink RX6 63 yX6_kinds, .instanceMethod yX6_kinds, .selects RX6 yX6_kinds yX6_kinds, .code yX6_kinds cX6_kinds 1 (some .int), .fieldLink RX6 7 "BidMosaicModel" "now" "[I"] ++ wsX60)
def wsX6_cell : List Cond := .code yX6_cell cX6_cell 2 (some .int) :: ([.fieldLink RX6 19 "BidMosaicModel" "cellDots" "[I", .fieldLink RX6 7 "BidMosaicModel" "now" "[I", .methodLink RX6 67 yX6_isDots, .static yX6_isDots, .initialized RX6, .code yX6_isDots cX6_isDots 1 (some .boolean), .constantLong RX6 50 (9999), .methodLink RX6 52 yX6_in, .static yX6_in, .code yX6_in cX6_in 6 (some .boolean), .methodLink RX6 80 yX6_cells, .instanceMethod yX6_cells, .selects RX6 yX6_cells yX6_cells, .code yX6_cells cX6_cells 1 (some .int), .methodLink RX6 56 yX6_end, .instanceMethod yX6_end, .selects RX6 yX6_end yX6_end, .code yX6_end cX6_end 1 none] ++ wsX60)
def wsX6_isCell : List Cond := .code yX6_isCell cX6_isCell 2 (some .boolean) :: ([.methodLink RX6 80 yX6_cells, .instanceMethod yX6_cells, .selects RX6 yX6_cells yX6_cells, .initialized RX6, .code yX6_cells cX6_cells 1 (some .int), .fieldLink RX6 7 "BidMosaicModel" "now" "[I", .methodLink RX6 52 yX6_in, .static yX6_in, .code yX6_in cX6_in 6 (some .boolean)] ++ wsX60)
def wsX6_change : List Cond := .code yX6_change cX6_change 4 (some .int) :: ([.fieldLink RX6 19 "BidMosaicModel" "cellDots" "[I", .fieldLink RX6 7 "BidMosaicModel" "now" "[I", .methodLink RX6 93 yX6_isCell, .instanceMethod yX6_isCell, .selects RX6 yX6_isCell yX6_isCell, .initialized RX6, .code yX6_isCell cX6_isCell 2 (some .boolean), .methodLink RX6 80 yX6_cells, .instanceMethod yX6_cells, .selects RX6 yX6_cells yX6_cells, .code yX6_cells cX6_cells 1 (some .int), .methodLink RX6 52 yX6_in, .static yX6_in, .code yX6_in cX6_in 6 (some .boolean), .methodLink RX6 67 yX6_isDots, .static yX6_isDots, .code yX6_isDots cX6_isDots 1 (some .boolean), .constantLong RX6 50 (9999)] ++ wsX60)
def wsX6_remove : List Cond := .code yX6_remove cX6_remove 3 (some .int) :: ([.fieldLink RX6 7 "BidMosaicModel" "now" "[I", .fieldLink RX6 19 "BidMosaicModel" "cellDots" "[I", .methodLink RX6 93 yX6_isCell, .instanceMethod yX6_isCell, .selects RX6 yX6_isCell yX6_isCell, .initialized RX6, .code yX6_isCell cX6_isCell 2 (some .boolean), .methodLink RX6 80 yX6_cells, .instanceMethod yX6_cells, .selects RX6 yX6_cells yX6_cells, .code yX6_cells cX6_cells 1 (some .int), .methodLink RX6 52 yX6_in, .static yX6_in, .code yX6_in cX6_in 6 (some .boolean), .methodLink RX6 56 yX6_end, .instanceMethod yX6_end, .selects RX6 yX6_end yX6_end, .code yX6_end cX6_end 1 none] ++ wsX60)
def wsX6_differenceOf : List Cond := .code yX6_differenceOf cX6_differenceOf 7 (some .int) :: ([.fieldLink RX6 7 "BidMosaicModel" "now" "[I"] ++ wsX60)
def wsX6_difference : List Cond := .code yX6_difference cX6_difference 3 (some .int) :: ([.fieldLink RX6 19 "BidMosaicModel" "cellDots" "[I", .fieldLink RX6 13 "BidMosaicModel" "kindDots" "[I", .methodLink RX6 93 yX6_isCell, .instanceMethod yX6_isCell, .selects RX6 yX6_isCell yX6_isCell, .initialized RX6, .code yX6_isCell cX6_isCell 2 (some .boolean), .methodLink RX6 80 yX6_cells, .instanceMethod yX6_cells, .selects RX6 yX6_cells yX6_cells, .code yX6_cells cX6_cells 1 (some .int), .fieldLink RX6 7 "BidMosaicModel" "now" "[I", .methodLink RX6 52 yX6_in, .static yX6_in, .code yX6_in cX6_in 6 (some .boolean), .methodLink RX6 63 yX6_kinds, .instanceMethod yX6_kinds, .selects RX6 yX6_kinds yX6_kinds, .code yX6_kinds cX6_kinds 1 (some .int), .methodLink RX6 96 yX6_differenceOf, .instanceMethod yX6_differenceOf, .selects RX6 yX6_differenceOf yX6_differenceOf, .code yX6_differenceOf cX6_differenceOf 7 (some .int)] ++ wsX60)
def wsX6_gainOf : List Cond := .code yX6_gainOf cX6_gainOf 4 (some .int) :: ([.fieldLink RX6 19 "BidMosaicModel" "cellDots" "[I", .fieldLink RX6 13 "BidMosaicModel" "kindDots" "[I", .fieldLink RX6 25 "BidMosaicModel" "slotKind" "[I", .fieldLink RX6 7 "BidMosaicModel" "now" "[I", .fieldLink RX6 22 "BidMosaicModel" "price" "[I", .methodLink RX6 80 yX6_cells, .instanceMethod yX6_cells, .selects RX6 yX6_cells yX6_cells, .initialized RX6, .code yX6_cells cX6_cells 1 (some .int), .methodLink RX6 96 yX6_differenceOf, .instanceMethod yX6_differenceOf, .selects RX6 yX6_differenceOf yX6_differenceOf, .code yX6_differenceOf cX6_differenceOf 7 (some .int)] ++ wsX60)
def wsX6_bestFor : List Cond := .code yX6_bestFor cX6_bestFor 5 (some .int) :: ([.fieldLink RX6 7 "BidMosaicModel" "now" "[I", .methodLink RX6 100 yX6_gainOf, .instanceMethod yX6_gainOf, .selects RX6 yX6_gainOf yX6_gainOf, .initialized RX6, .code yX6_gainOf cX6_gainOf 4 (some .int), .fieldLink RX6 19 "BidMosaicModel" "cellDots" "[I", .fieldLink RX6 13 "BidMosaicModel" "kindDots" "[I", .fieldLink RX6 25 "BidMosaicModel" "slotKind" "[I", .fieldLink RX6 22 "BidMosaicModel" "price" "[I", .methodLink RX6 80 yX6_cells, .instanceMethod yX6_cells, .selects RX6 yX6_cells yX6_cells, .code yX6_cells cX6_cells 1 (some .int), .methodLink RX6 96 yX6_differenceOf, .instanceMethod yX6_differenceOf, .selects RX6 yX6_differenceOf yX6_differenceOf, .code yX6_differenceOf cX6_differenceOf 7 (some .int)] ++ wsX60)
def wsX6_bid : List Cond := .code yX6_bid cX6_bid 6 none :: ([.fieldLink RX6 22 "BidMosaicModel" "price" "[I", .fieldLink RX6 28 "BidMosaicModel" "owner" "[I", .fieldLink RX6 31 "BidMosaicModel" "mine" "[I", .methodLink RX6 103 yX6_bestFor, .instanceMethod yX6_bestFor, .selects RX6 yX6_bestFor yX6_bestFor, .initialized RX6, .code yX6_bestFor cX6_bestFor 5 (some .int), .fieldLink RX6 7 "BidMosaicModel" "now" "[I", .methodLink RX6 100 yX6_gainOf, .instanceMethod yX6_gainOf, .selects RX6 yX6_gainOf yX6_gainOf, .code yX6_gainOf cX6_gainOf 4 (some .int), .fieldLink RX6 19 "BidMosaicModel" "cellDots" "[I", .fieldLink RX6 13 "BidMosaicModel" "kindDots" "[I", .fieldLink RX6 25 "BidMosaicModel" "slotKind" "[I", .methodLink RX6 80 yX6_cells, .instanceMethod yX6_cells, .selects RX6 yX6_cells yX6_cells, .code yX6_cells cX6_cells 1 (some .int), .methodLink RX6 96 yX6_differenceOf, .instanceMethod yX6_differenceOf, .selects RX6 yX6_differenceOf yX6_differenceOf, .code yX6_differenceOf cX6_differenceOf 7 (some .int)] ++ wsX60)
def wsX6_firstFree : List Cond := .code yX6_firstFree cX6_firstFree 2 (some .int) :: ([.fieldLink RX6 7 "BidMosaicModel" "now" "[I", .fieldLink RX6 31 "BidMosaicModel" "mine" "[I"] ++ wsX60)
def wsX6_phaseOf_r1 : List Cond := [Cond.methodLink RX6 106 yX6_firstFree, Cond.instanceMethod yX6_firstFree, Cond.selects RX6 yX6_firstFree yX6_firstFree, Cond.initialized RX6, Cond.code yX6_firstFree cX6_firstFree 2 (some .int), Cond.fieldLink RX6 7 "BidMosaicModel" "now" "[I", Cond.fieldLink RX6 31 "BidMosaicModel" "mine" "[I", Cond.methodLink RX6 109 yX6_bid, Cond.instanceMethod yX6_bid, Cond.selects RX6 yX6_bid yX6_bid, Cond.code yX6_bid cX6_bid 6 none, Cond.fieldLink RX6 22 "BidMosaicModel" "price" "[I", Cond.fieldLink RX6 28 "BidMosaicModel" "owner" "[I", Cond.methodLink RX6 103 yX6_bestFor, Cond.instanceMethod yX6_bestFor, Cond.selects RX6 yX6_bestFor yX6_bestFor, Cond.code yX6_bestFor cX6_bestFor 5 (some .int), Cond.methodLink RX6 100 yX6_gainOf, Cond.instanceMethod yX6_gainOf, Cond.selects RX6 yX6_gainOf yX6_gainOf, Cond.code yX6_gainOf cX6_gainOf 4 (some .int), Cond.fieldLink RX6 19 "BidMosaicModel" "cellDots" "[I", Cond.fieldLink RX6 13 "BidMosaicModel" "kindDots" "[I", Cond.fieldLink RX6 25 "BidMosaicModel" "slotKind" "[I"]
def wsX6_phaseOf_r2 : List Cond := [Cond.methodLink RX6 80 yX6_cells, Cond.instanceMethod yX6_cells, Cond.selects RX6 yX6_cells yX6_cells, Cond.code yX6_cells cX6_cells 1 (some .int), Cond.methodLink RX6 96 yX6_differenceOf, Cond.instanceMethod yX6_differenceOf, Cond.selects RX6 yX6_differenceOf yX6_differenceOf, Cond.code yX6_differenceOf cX6_differenceOf 7 (some .int)]
def wsX6_phaseOf : List Cond := .code yX6_phaseOf cX6_phaseOf 4 (some .int) :: ((wsX6_phaseOf_r1 ++ wsX6_phaseOf_r2) ++ wsX60)
def wsX6_freeAll : List Cond := .code yX6_freeAll cX6_freeAll 2 none :: ([.fieldLink RX6 28 "BidMosaicModel" "owner" "[I", .fieldLink RX6 31 "BidMosaicModel" "mine" "[I"] ++ wsX60)
def wsX6_sumOf : List Cond := .code yX6_sumOf cX6_sumOf 3 (some .int) :: ([.fieldLink RX6 19 "BidMosaicModel" "cellDots" "[I", .fieldLink RX6 13 "BidMosaicModel" "kindDots" "[I", .fieldLink RX6 25 "BidMosaicModel" "slotKind" "[I", .fieldLink RX6 31 "BidMosaicModel" "mine" "[I", .methodLink RX6 80 yX6_cells, .instanceMethod yX6_cells, .selects RX6 yX6_cells yX6_cells, .initialized RX6, .code yX6_cells cX6_cells 1 (some .int), .fieldLink RX6 7 "BidMosaicModel" "now" "[I", .methodLink RX6 96 yX6_differenceOf, .instanceMethod yX6_differenceOf, .selects RX6 yX6_differenceOf yX6_differenceOf, .code yX6_differenceOf cX6_differenceOf 7 (some .int)] ++ wsX60)
def wsX6_greatest : List Cond := .code yX6_greatest cX6_greatest 5 (some .int) :: ([.fieldLink RX6 19 "BidMosaicModel" "cellDots" "[I", .fieldLink RX6 13 "BidMosaicModel" "kindDots" "[I", .methodLink RX6 80 yX6_cells, .instanceMethod yX6_cells, .selects RX6 yX6_cells yX6_cells, .initialized RX6, .code yX6_cells cX6_cells 1 (some .int), .fieldLink RX6 7 "BidMosaicModel" "now" "[I", .methodLink RX6 63 yX6_kinds, .instanceMethod yX6_kinds, .selects RX6 yX6_kinds yX6_kinds, .code yX6_kinds cX6_kinds 1 (some .int), .methodLink RX6 96 yX6_differenceOf, .instanceMethod yX6_differenceOf, .selects RX6 yX6_differenceOf yX6_differenceOf, .code yX6_differenceOf cX6_differenceOf 7 (some .int)] ++ wsX60)
def wsX6_oneAtLeast : List Cond := .code yX6_oneAtLeast cX6_oneAtLeast 1 (some .int) :: ([])
def wsX6_laySlots : List Cond := .code yX6_laySlots cX6_laySlots 4 none :: ([.fieldLink RX6 16 "BidMosaicModel" "kindStock" "[I", .fieldLink RX6 25 "BidMosaicModel" "slotKind" "[I", .fieldLink RX6 7 "BidMosaicModel" "now" "[I", .fieldLink RX6 22 "BidMosaicModel" "price" "[I", .methodLink RX6 63 yX6_kinds, .instanceMethod yX6_kinds, .selects RX6 yX6_kinds yX6_kinds, .initialized RX6, .code yX6_kinds cX6_kinds 1 (some .int)] ++ wsX60)
def wsX6_auction_r1 : List Cond := [Cond.fieldLink RX6 7 "BidMosaicModel" "now" "[I", Cond.fieldLink RX6 34 "BidMosaicModel" "steps" "[I", Cond.fieldLink RX6 37 "BidMosaicModel" "bids" "[I", Cond.fieldLink RX6 40 "BidMosaicModel" "sums" "[I", Cond.methodLink RX6 77 yX6_stocks, Cond.instanceMethod yX6_stocks, Cond.selects RX6 yX6_stocks yX6_stocks, Cond.initialized RX6, Cond.code yX6_stocks cX6_stocks 3 (some .int), Cond.fieldLink RX6 16 "BidMosaicModel" "kindStock" "[I", Cond.methodLink RX6 63 yX6_kinds, Cond.instanceMethod yX6_kinds, Cond.selects RX6 yX6_kinds yX6_kinds, Cond.code yX6_kinds cX6_kinds 1 (some .int), Cond.methodLink RX6 80 yX6_cells, Cond.instanceMethod yX6_cells, Cond.selects RX6 yX6_cells yX6_cells, Cond.code yX6_cells cX6_cells 1 (some .int), Cond.methodLink RX6 113 yX6_laySlots, Cond.instanceMethod yX6_laySlots, Cond.selects RX6 yX6_laySlots yX6_laySlots, Cond.code yX6_laySlots cX6_laySlots 4 none, Cond.fieldLink RX6 25 "BidMosaicModel" "slotKind" "[I", Cond.fieldLink RX6 22 "BidMosaicModel" "price" "[I"]
def wsX6_auction_r2 : List Cond := [Cond.methodLink RX6 116 yX6_greatest, Cond.instanceMethod yX6_greatest, Cond.selects RX6 yX6_greatest yX6_greatest, Cond.code yX6_greatest cX6_greatest 5 (some .int), Cond.fieldLink RX6 19 "BidMosaicModel" "cellDots" "[I", Cond.fieldLink RX6 13 "BidMosaicModel" "kindDots" "[I", Cond.methodLink RX6 96 yX6_differenceOf, Cond.instanceMethod yX6_differenceOf, Cond.selects RX6 yX6_differenceOf yX6_differenceOf, Cond.code yX6_differenceOf cX6_differenceOf 7 (some .int), Cond.methodLink RX6 119 yX6_oneAtLeast, Cond.static yX6_oneAtLeast, Cond.code yX6_oneAtLeast cX6_oneAtLeast 1 (some .int), Cond.methodLink RX6 122 yX6_freeAll, Cond.instanceMethod yX6_freeAll, Cond.selects RX6 yX6_freeAll yX6_freeAll, Cond.code yX6_freeAll cX6_freeAll 2 none, Cond.fieldLink RX6 28 "BidMosaicModel" "owner" "[I", Cond.fieldLink RX6 31 "BidMosaicModel" "mine" "[I", Cond.methodLink RX6 125 yX6_phaseOf, Cond.instanceMethod yX6_phaseOf, Cond.selects RX6 yX6_phaseOf yX6_phaseOf, Cond.code yX6_phaseOf cX6_phaseOf 4 (some .int), Cond.methodLink RX6 106 yX6_firstFree]
def wsX6_auction_r3 : List Cond := [Cond.instanceMethod yX6_firstFree, Cond.selects RX6 yX6_firstFree yX6_firstFree, Cond.code yX6_firstFree cX6_firstFree 2 (some .int), Cond.methodLink RX6 109 yX6_bid, Cond.instanceMethod yX6_bid, Cond.selects RX6 yX6_bid yX6_bid, Cond.code yX6_bid cX6_bid 6 none, Cond.methodLink RX6 103 yX6_bestFor, Cond.instanceMethod yX6_bestFor, Cond.selects RX6 yX6_bestFor yX6_bestFor, Cond.code yX6_bestFor cX6_bestFor 5 (some .int), Cond.methodLink RX6 100 yX6_gainOf, Cond.instanceMethod yX6_gainOf, Cond.selects RX6 yX6_gainOf yX6_gainOf, Cond.code yX6_gainOf cX6_gainOf 4 (some .int), Cond.methodLink RX6 128 yX6_sumOf, Cond.instanceMethod yX6_sumOf, Cond.selects RX6 yX6_sumOf yX6_sumOf, Cond.code yX6_sumOf cX6_sumOf 3 (some .int)]
def wsX6_auction : List Cond := .code yX6_auction cX6_auction 3 (some .int) :: ((wsX6_auction_r1 ++ (wsX6_auction_r2 ++ wsX6_auction_r3)) ++ wsX60)
def wsX6_repair_r1 : List Cond := [Cond.fieldLink RX6 7 "BidMosaicModel" "now" "[I", Cond.fieldLink RX6 31 "BidMosaicModel" "mine" "[I", Cond.fieldLink RX6 28 "BidMosaicModel" "owner" "[I", Cond.methodLink RX6 131 yX6_isValid, Cond.instanceMethod yX6_isValid, Cond.selects RX6 yX6_isValid yX6_isValid, Cond.initialized RX6, Cond.code yX6_isValid cX6_isValid 1 (some .boolean), Cond.methodLink RX6 83 yX6_isDone, Cond.instanceMethod yX6_isDone, Cond.selects RX6 yX6_isDone yX6_isDone, Cond.code yX6_isDone cX6_isDone 1 (some .boolean), Cond.methodLink RX6 100 yX6_gainOf, Cond.instanceMethod yX6_gainOf, Cond.selects RX6 yX6_gainOf yX6_gainOf, Cond.code yX6_gainOf cX6_gainOf 4 (some .int), Cond.fieldLink RX6 19 "BidMosaicModel" "cellDots" "[I", Cond.fieldLink RX6 13 "BidMosaicModel" "kindDots" "[I", Cond.fieldLink RX6 25 "BidMosaicModel" "slotKind" "[I", Cond.fieldLink RX6 22 "BidMosaicModel" "price" "[I", Cond.methodLink RX6 80 yX6_cells, Cond.instanceMethod yX6_cells, Cond.selects RX6 yX6_cells yX6_cells, Cond.code yX6_cells cX6_cells 1 (some .int)]
def wsX6_repair_r2 : List Cond := [Cond.methodLink RX6 96 yX6_differenceOf, Cond.instanceMethod yX6_differenceOf, Cond.selects RX6 yX6_differenceOf yX6_differenceOf, Cond.code yX6_differenceOf cX6_differenceOf 7 (some .int), Cond.methodLink RX6 103 yX6_bestFor, Cond.instanceMethod yX6_bestFor, Cond.selects RX6 yX6_bestFor yX6_bestFor, Cond.code yX6_bestFor cX6_bestFor 5 (some .int), Cond.methodLink RX6 125 yX6_phaseOf, Cond.instanceMethod yX6_phaseOf, Cond.selects RX6 yX6_phaseOf yX6_phaseOf, Cond.code yX6_phaseOf cX6_phaseOf 4 (some .int), Cond.methodLink RX6 106 yX6_firstFree, Cond.instanceMethod yX6_firstFree, Cond.selects RX6 yX6_firstFree yX6_firstFree, Cond.code yX6_firstFree cX6_firstFree 2 (some .int), Cond.methodLink RX6 109 yX6_bid, Cond.instanceMethod yX6_bid, Cond.selects RX6 yX6_bid yX6_bid, Cond.code yX6_bid cX6_bid 6 none]
def wsX6_repair : List Cond := .code yX6_repair cX6_repair 2 (some .int) :: ((wsX6_repair_r1 ++ wsX6_repair_r2) ++ wsX60)
def wsX6_phase : List Cond := .code yX6_phase cX6_phase 3 (some .int) :: ([.fieldLink RX6 7 "BidMosaicModel" "now" "[I", .fieldLink RX6 34 "BidMosaicModel" "steps" "[I", .fieldLink RX6 37 "BidMosaicModel" "bids" "[I", .fieldLink RX6 40 "BidMosaicModel" "sums" "[I", .methodLink RX6 131 yX6_isValid, .instanceMethod yX6_isValid, .selects RX6 yX6_isValid yX6_isValid, .initialized RX6, .code yX6_isValid cX6_isValid 1 (some .boolean), .methodLink RX6 52 yX6_in, .static yX6_in, .code yX6_in cX6_in 6 (some .boolean)] ++ wsX60)
def wsX6_place : List Cond := .code yX6_place cX6_place 2 (some .int) :: ([.fieldLink RX6 25 "BidMosaicModel" "slotKind" "[I", .fieldLink RX6 31 "BidMosaicModel" "mine" "[I", .methodLink RX6 83 yX6_isDone, .instanceMethod yX6_isDone, .selects RX6 yX6_isDone yX6_isDone, .initialized RX6, .code yX6_isDone cX6_isDone 1 (some .boolean), .fieldLink RX6 7 "BidMosaicModel" "now" "[I", .methodLink RX6 93 yX6_isCell, .instanceMethod yX6_isCell, .selects RX6 yX6_isCell yX6_isCell, .code yX6_isCell cX6_isCell 2 (some .boolean), .methodLink RX6 80 yX6_cells, .instanceMethod yX6_cells, .selects RX6 yX6_cells yX6_cells, .code yX6_cells cX6_cells 1 (some .int), .methodLink RX6 52 yX6_in, .static yX6_in, .code yX6_in cX6_in 6 (some .boolean)] ++ wsX60)
def wsX6_slot : List Cond := .code yX6_slot cX6_slot 3 (some .int) :: ([.fieldLink RX6 7 "BidMosaicModel" "now" "[I", .fieldLink RX6 22 "BidMosaicModel" "price" "[I", .fieldLink RX6 25 "BidMosaicModel" "slotKind" "[I", .fieldLink RX6 28 "BidMosaicModel" "owner" "[I", .methodLink RX6 131 yX6_isValid, .instanceMethod yX6_isValid, .selects RX6 yX6_isValid yX6_isValid, .initialized RX6, .code yX6_isValid cX6_isValid 1 (some .boolean), .methodLink RX6 83 yX6_isDone, .instanceMethod yX6_isDone, .selects RX6 yX6_isDone yX6_isDone, .code yX6_isDone cX6_isDone 1 (some .boolean), .methodLink RX6 52 yX6_in, .static yX6_in, .code yX6_in cX6_in 6 (some .boolean), .methodLink RX6 80 yX6_cells, .instanceMethod yX6_cells, .selects RX6 yX6_cells yX6_cells, .code yX6_cells cX6_cells 1 (some .int)] ++ wsX60)
def wsX6_gain_r1 : List Cond := [Cond.constant RX6 134 (-100000003), Cond.constant RX6 135 (-100000001), Cond.constant RX6 136 (-100000002), Cond.fieldLink RX6 31 "BidMosaicModel" "mine" "[I", Cond.methodLink RX6 131 yX6_isValid, Cond.instanceMethod yX6_isValid, Cond.selects RX6 yX6_isValid yX6_isValid, Cond.initialized RX6, Cond.code yX6_isValid cX6_isValid 1 (some .boolean), Cond.fieldLink RX6 7 "BidMosaicModel" "now" "[I", Cond.methodLink RX6 83 yX6_isDone, Cond.instanceMethod yX6_isDone, Cond.selects RX6 yX6_isDone yX6_isDone, Cond.code yX6_isDone cX6_isDone 1 (some .boolean), Cond.methodLink RX6 93 yX6_isCell, Cond.instanceMethod yX6_isCell, Cond.selects RX6 yX6_isCell yX6_isCell, Cond.code yX6_isCell cX6_isCell 2 (some .boolean), Cond.methodLink RX6 80 yX6_cells, Cond.instanceMethod yX6_cells, Cond.selects RX6 yX6_cells yX6_cells, Cond.code yX6_cells cX6_cells 1 (some .int), Cond.methodLink RX6 52 yX6_in, Cond.static yX6_in]
def wsX6_gain_r2 : List Cond := [Cond.code yX6_in cX6_in 6 (some .boolean), Cond.methodLink RX6 103 yX6_bestFor, Cond.instanceMethod yX6_bestFor, Cond.selects RX6 yX6_bestFor yX6_bestFor, Cond.code yX6_bestFor cX6_bestFor 5 (some .int), Cond.methodLink RX6 100 yX6_gainOf, Cond.instanceMethod yX6_gainOf, Cond.selects RX6 yX6_gainOf yX6_gainOf, Cond.code yX6_gainOf cX6_gainOf 4 (some .int), Cond.fieldLink RX6 19 "BidMosaicModel" "cellDots" "[I", Cond.fieldLink RX6 13 "BidMosaicModel" "kindDots" "[I", Cond.fieldLink RX6 25 "BidMosaicModel" "slotKind" "[I", Cond.fieldLink RX6 22 "BidMosaicModel" "price" "[I", Cond.methodLink RX6 96 yX6_differenceOf, Cond.instanceMethod yX6_differenceOf, Cond.selects RX6 yX6_differenceOf yX6_differenceOf, Cond.code yX6_differenceOf cX6_differenceOf 7 (some .int)]
def wsX6_gain : List Cond := .code yX6_gain cX6_gain 3 (some .int) :: ((wsX6_gain_r1 ++ wsX6_gain_r2) ++ wsX60)
def wsX6_total : List Cond := .code yX6_total cX6_total 1 (some .int) :: ([.methodLink RX6 83 yX6_isDone, .instanceMethod yX6_isDone, .selects RX6 yX6_isDone yX6_isDone, .initialized RX6, .code yX6_isDone cX6_isDone 1 (some .boolean), .fieldLink RX6 7 "BidMosaicModel" "now" "[I", .methodLink RX6 128 yX6_sumOf, .instanceMethod yX6_sumOf, .selects RX6 yX6_sumOf yX6_sumOf, .code yX6_sumOf cX6_sumOf 3 (some .int), .fieldLink RX6 19 "BidMosaicModel" "cellDots" "[I", .fieldLink RX6 13 "BidMosaicModel" "kindDots" "[I", .fieldLink RX6 25 "BidMosaicModel" "slotKind" "[I", .fieldLink RX6 31 "BidMosaicModel" "mine" "[I", .methodLink RX6 80 yX6_cells, .instanceMethod yX6_cells, .selects RX6 yX6_cells yX6_cells, .code yX6_cells cX6_cells 1 (some .int), .methodLink RX6 96 yX6_differenceOf, .instanceMethod yX6_differenceOf, .selects RX6 yX6_differenceOf yX6_differenceOf, .code yX6_differenceOf cX6_differenceOf 7 (some .int)] ++ wsX60)
def wsX6_passRow : List Cond := .code yX6_passRow cX6_passRow 4 none :: ([.fieldLink RX6 137 "BidMosaicModel" "isWriting" "Z", .fieldLink RX6 43 "BidMosaicModel" "kept" "[I", .fieldLink RX6 141 "BidMosaicModel" "keptAt" "I"] ++ wsX60)
def wsX6_passAll : List Cond := .code yX6_passAll cX6_passAll 1 none :: ([.fieldLink RX6 7 "BidMosaicModel" "now" "[I", .fieldLink RX6 13 "BidMosaicModel" "kindDots" "[I", .fieldLink RX6 16 "BidMosaicModel" "kindStock" "[I", .fieldLink RX6 19 "BidMosaicModel" "cellDots" "[I", .fieldLink RX6 22 "BidMosaicModel" "price" "[I", .fieldLink RX6 25 "BidMosaicModel" "slotKind" "[I", .fieldLink RX6 28 "BidMosaicModel" "owner" "[I", .fieldLink RX6 31 "BidMosaicModel" "mine" "[I", .fieldLink RX6 34 "BidMosaicModel" "steps" "[I", .fieldLink RX6 37 "BidMosaicModel" "bids" "[I", .fieldLink RX6 40 "BidMosaicModel" "sums" "[I", .methodLink RX6 145 yX6_passRow, .instanceMethod yX6_passRow, .selects RX6 yX6_passRow yX6_passRow, .initialized RX6, .code yX6_passRow cX6_passRow 4 none, .fieldLink RX6 137 "BidMosaicModel" "isWriting" "Z", .fieldLink RX6 43 "BidMosaicModel" "kept" "[I", .fieldLink RX6 141 "BidMosaicModel" "keptAt" "I"] ++ wsX60)
def wsX6_image_r1 : List Cond := [Cond.fieldLink RX6 141 "BidMosaicModel" "keptAt" "I", Cond.fieldLink RX6 137 "BidMosaicModel" "isWriting" "Z", Cond.fieldLink RX6 46 "BidMosaicModel" "isKept" "[Z", Cond.methodLink RX6 52 yX6_in, Cond.static yX6_in, Cond.initialized RX6, Cond.code yX6_in cX6_in 6 (some .boolean), Cond.methodLink RX6 149 yX6_passAll, Cond.instanceMethod yX6_passAll, Cond.selects RX6 yX6_passAll yX6_passAll, Cond.code yX6_passAll cX6_passAll 1 none, Cond.fieldLink RX6 7 "BidMosaicModel" "now" "[I", Cond.fieldLink RX6 13 "BidMosaicModel" "kindDots" "[I", Cond.fieldLink RX6 16 "BidMosaicModel" "kindStock" "[I", Cond.fieldLink RX6 19 "BidMosaicModel" "cellDots" "[I", Cond.fieldLink RX6 22 "BidMosaicModel" "price" "[I", Cond.fieldLink RX6 25 "BidMosaicModel" "slotKind" "[I", Cond.fieldLink RX6 28 "BidMosaicModel" "owner" "[I", Cond.fieldLink RX6 31 "BidMosaicModel" "mine" "[I", Cond.fieldLink RX6 34 "BidMosaicModel" "steps" "[I", Cond.fieldLink RX6 37 "BidMosaicModel" "bids" "[I", Cond.fieldLink RX6 40 "BidMosaicModel" "sums" "[I", Cond.methodLink RX6 145 yX6_passRow, Cond.instanceMethod yX6_passRow]
def wsX6_image_r2 : List Cond := [Cond.selects RX6 yX6_passRow yX6_passRow, Cond.code yX6_passRow cX6_passRow 4 none, Cond.fieldLink RX6 43 "BidMosaicModel" "kept" "[I"]
def wsX6_image : List Cond := .code yX6_image cX6_image 2 (some .int) :: ((wsX6_image_r1 ++ wsX6_image_r2) ++ wsX60)
def wsX6_restore_r1 : List Cond := [Cond.fieldLink RX6 46 "BidMosaicModel" "isKept" "[Z", Cond.fieldLink RX6 141 "BidMosaicModel" "keptAt" "I", Cond.fieldLink RX6 137 "BidMosaicModel" "isWriting" "Z", Cond.methodLink RX6 52 yX6_in, Cond.static yX6_in, Cond.initialized RX6, Cond.code yX6_in cX6_in 6 (some .boolean), Cond.methodLink RX6 149 yX6_passAll, Cond.instanceMethod yX6_passAll, Cond.selects RX6 yX6_passAll yX6_passAll, Cond.code yX6_passAll cX6_passAll 1 none, Cond.fieldLink RX6 7 "BidMosaicModel" "now" "[I", Cond.fieldLink RX6 13 "BidMosaicModel" "kindDots" "[I", Cond.fieldLink RX6 16 "BidMosaicModel" "kindStock" "[I", Cond.fieldLink RX6 19 "BidMosaicModel" "cellDots" "[I", Cond.fieldLink RX6 22 "BidMosaicModel" "price" "[I", Cond.fieldLink RX6 25 "BidMosaicModel" "slotKind" "[I", Cond.fieldLink RX6 28 "BidMosaicModel" "owner" "[I", Cond.fieldLink RX6 31 "BidMosaicModel" "mine" "[I", Cond.fieldLink RX6 34 "BidMosaicModel" "steps" "[I", Cond.fieldLink RX6 37 "BidMosaicModel" "bids" "[I", Cond.fieldLink RX6 40 "BidMosaicModel" "sums" "[I", Cond.methodLink RX6 145 yX6_passRow, Cond.instanceMethod yX6_passRow]
def wsX6_restore_r2 : List Cond := [Cond.selects RX6 yX6_passRow yX6_passRow, Cond.code yX6_passRow cX6_passRow 4 none, Cond.fieldLink RX6 43 "BidMosaicModel" "kept" "[I"]
def wsX6_restore : List Cond := .code yX6_restore cX6_restore 2 (some .int) :: ((wsX6_restore_r1 ++ wsX6_restore_r2) ++ wsX60)
def wsX6_told : List Cond := .code yX6_told cX6_told 2 (some .int) :: ([.fieldLink RX6 19 "BidMosaicModel" "cellDots" "[I", .constantLong RX6 152 (8), .fieldLink RX6 7 "BidMosaicModel" "now" "[I", .methodLink RX6 93 yX6_isCell, .instanceMethod yX6_isCell, .selects RX6 yX6_isCell yX6_isCell, .initialized RX6, .code yX6_isCell cX6_isCell 2 (some .boolean), .methodLink RX6 80 yX6_cells, .instanceMethod yX6_cells, .selects RX6 yX6_cells yX6_cells, .code yX6_cells cX6_cells 1 (some .int), .methodLink RX6 52 yX6_in, .static yX6_in, .code yX6_in cX6_in 6 (some .boolean), .methodLink RX6 77 yX6_stocks, .instanceMethod yX6_stocks, .selects RX6 yX6_stocks yX6_stocks, .code yX6_stocks cX6_stocks 3 (some .int), .fieldLink RX6 16 "BidMosaicModel" "kindStock" "[I", .methodLink RX6 63 yX6_kinds, .instanceMethod yX6_kinds, .selects RX6 yX6_kinds yX6_kinds, .code yX6_kinds cX6_kinds 1 (some .int)] ++ wsX60)
def wsJ9_abs_0f7a4 : List Cond := .code yJ9_abs_0f7a4 cJ9_abs_0f7a4 1 (some .int) :: ([])
def wsJ9_max_7cf53 : List Cond := .code yJ9_max_7cf53 cJ9_max_7cf53 2 (some .int) :: ([])
def wsJ9_min_7cf53 : List Cond := .code yJ9_min_7cf53 cJ9_min_7cf53 2 (some .int) :: ([])
def wsL_law_r1 : List Cond := [Cond.classLink RL 7 RX5, Cond.instantiable RX5 3, Cond.initialized RX5, Cond.classLink RL 10 RX6, Cond.instantiable RX6 15, Cond.initialized RX6, Cond.methodLink RL 9 yX5_init, Cond.instanceMethod yX5_init, Cond.code yX5_init cX5_init 1 none, Cond.methodLink RX5 1 objectInit, Cond.instanceMethod objectInit, Cond.code objectInit ⟨#[0xb1]⟩ 1 none, Cond.classLink RX5 7 RX0, Cond.instantiable RX0 4, Cond.initialized RX0, Cond.fieldLink RX5 10 "BidMosaic" "bidding" "LBidMosaic$Bidding;", Cond.fieldLink RX5 20 "BidMosaic" "now" "LBidMosaic$Picture;", Cond.classLink RX5 23 RX3, Cond.fieldLink RX5 25 "BidMosaic" "images" "[LBidMosaic$Picture;", Cond.instanceMethod yX0_init, Cond.code yX0_init cX0_init 1 none, Cond.methodLink RX0 3 objectInit, Cond.classLink RX0 9 RX3, Cond.instantiable RX3 5]
def wsL_law_r2 : List Cond := [Cond.initialized RX3, Cond.fieldLink RX0 12 "BidMosaic$Bidding" "picture" "LBidMosaic$Picture;", Cond.fieldLink RX0 22 "BidMosaic$Bidding" "sale" "LBidMosaic$Sale;", Cond.arrayClass .int, Cond.fieldLink RX0 23 "BidMosaic$Bidding" "worths" "[I", Cond.instanceMethod yX3_init, Cond.code yX3_init cX3_init 1 none, Cond.methodLink RX3 3 objectInit, Cond.fieldLink RX3 9 "BidMosaic$Picture" "mode" "I", Cond.fieldLink RX3 15 "BidMosaic$Picture" "shrink" "I", Cond.classLink RX3 18 RX2, Cond.instantiable RX2 3, Cond.initialized RX2, Cond.fieldLink RX3 21 "BidMosaic$Picture" "kinds" "LBidMosaic$Kinds;", Cond.classLink RX3 25 RX1, Cond.instantiable RX1 2, Cond.initialized RX1, Cond.fieldLink RX3 28 "BidMosaic$Picture" "cells" "LBidMosaic$Cells;", Cond.classLink RX3 32 RX4, Cond.instantiable RX4 10, Cond.initialized RX4, Cond.fieldLink RX3 35 "BidMosaic$Picture" "sale" "LBidMosaic$Sale;", Cond.instanceMethod yX2_init, Cond.code yX2_init cX2_init 1 none]
def wsL_law_r3 : List Cond := [Cond.methodLink RX2 3 objectInit, Cond.fieldLink RX2 9 "BidMosaic$Kinds" "dots" "[I", Cond.fieldLink RX2 15 "BidMosaic$Kinds" "stocks" "[I", Cond.instanceMethod yX1_init, Cond.code yX1_init cX1_init 1 none, Cond.methodLink RX1 3 objectInit, Cond.fieldLink RX1 9 "BidMosaic$Cells" "dots" "[I", Cond.instanceMethod yX4_init, Cond.code yX4_init cX4_init 1 none, Cond.methodLink RX4 3 objectInit, Cond.fieldLink RX4 9 "BidMosaic$Sale" "prices" "[I", Cond.fieldLink RX4 15 "BidMosaic$Sale" "holders" "[I", Cond.fieldLink RX4 18 "BidMosaic$Sale" "held" "[I", Cond.fieldLink RX4 21 "BidMosaic$Sale" "steps" "[I", Cond.fieldLink RX4 24 "BidMosaic$Sale" "phaseBids" "[I", Cond.fieldLink RX4 27 "BidMosaic$Sale" "phaseSums" "[I", Cond.methodLink RL 12 yX6_init, Cond.instanceMethod yX6_init, Cond.code yX6_init cX6_init 1 none, Cond.methodLink RX6 1 objectInit, Cond.fieldLink RX6 7 "BidMosaicModel" "now" "[I", Cond.fieldLink RX6 13 "BidMosaicModel" "kindDots" "[I", Cond.fieldLink RX6 16 "BidMosaicModel" "kindStock" "[I", Cond.fieldLink RX6 19 "BidMosaicModel" "cellDots" "[I"]
def wsL_law_r4 : List Cond := [Cond.fieldLink RX6 22 "BidMosaicModel" "price" "[I", Cond.fieldLink RX6 25 "BidMosaicModel" "slotKind" "[I", Cond.fieldLink RX6 28 "BidMosaicModel" "owner" "[I", Cond.fieldLink RX6 31 "BidMosaicModel" "mine" "[I", Cond.fieldLink RX6 34 "BidMosaicModel" "steps" "[I", Cond.fieldLink RX6 37 "BidMosaicModel" "bids" "[I", Cond.fieldLink RX6 40 "BidMosaicModel" "sums" "[I", Cond.fieldLink RX6 43 "BidMosaicModel" "kept" "[I", Cond.arrayClass .boolean, Cond.fieldLink RX6 46 "BidMosaicModel" "isKept" "[Z", Cond.methodLink RL 13 yX5_mode, Cond.instanceMethod yX5_mode, Cond.selects RX5 yX5_mode yX5_mode, Cond.code yX5_mode cX5_mode 3 (some .int), Cond.methodLink RL 17 yX6_mode, Cond.instanceMethod yX6_mode, Cond.selects RX6 yX6_mode yX6_mode, Cond.code yX6_mode cX6_mode 3 (some .int), Cond.methodLink RX6 52 yX6_in, Cond.static yX6_in, Cond.code yX6_in cX6_in 6 (some .boolean), Cond.methodLink RX6 56 yX6_end, Cond.instanceMethod yX6_end, Cond.selects RX6 yX6_end yX6_end]
def wsL_law_r5 : List Cond := [Cond.code yX6_end cX6_end 1 none, Cond.methodLink RL 18 yX5_shrink, Cond.instanceMethod yX5_shrink, Cond.selects RX5 yX5_shrink yX5_shrink, Cond.code yX5_shrink cX5_shrink 3 (some .int), Cond.methodLink RL 21 yX6_shrink, Cond.instanceMethod yX6_shrink, Cond.selects RX6 yX6_shrink yX6_shrink, Cond.code yX6_shrink cX6_shrink 3 (some .int), Cond.constantLong RX6 59 (2), Cond.constantLong RX6 61 (9), Cond.methodLink RL 22 yX5_stock, Cond.instanceMethod yX5_stock, Cond.selects RX5 yX5_stock yX5_stock, Cond.code yX5_stock cX5_stock 3 (some .int), Cond.methodLink RX5 46 yX5_areDots, Cond.static yX5_areDots, Cond.code yX5_areDots cX5_areDots 1 (some .boolean), Cond.instanceMethod yX2_hasRoom, Cond.selects RX2 yX2_hasRoom yX2_hasRoom, Cond.code yX2_hasRoom cX2_hasRoom 5 (some .boolean), Cond.fieldLink RX2 18 "BidMosaic$Kinds" "count" "I", Cond.methodLink RX2 26 yX2_numberOf, Cond.instanceMethod yX2_numberOf]
def wsL_law_r6 : List Cond := [Cond.selects RX2 yX2_numberOf yX2_numberOf, Cond.code yX2_numberOf cX2_numberOf 3 (some .int), Cond.methodLink RX2 29 yX2_has, Cond.instanceMethod yX2_has, Cond.selects RX2 yX2_has yX2_has, Cond.code yX2_has cX2_has 2 (some .boolean), Cond.methodLink RX2 33 yX2_slots, Cond.instanceMethod yX2_slots, Cond.selects RX2 yX2_slots yX2_slots, Cond.code yX2_slots cX2_slots 1 (some .int), Cond.methodLink RX2 22 yX2_firstSlot, Cond.instanceMethod yX2_firstSlot, Cond.selects RX2 yX2_firstSlot yX2_firstSlot, Cond.code yX2_firstSlot cX2_firstSlot 4 (some .int), Cond.instanceMethod yX2_add, Cond.selects RX2 yX2_add yX2_add, Cond.code yX2_add cX2_add 5 (some .int), Cond.methodLink RL 26 yX6_stock, Cond.instanceMethod yX6_stock, Cond.selects RX6 yX6_stock yX6_stock, Cond.code yX6_stock cX6_stock 5 (some .int), Cond.constantLong RX6 71 (4), Cond.methodLink RX6 67 yX6_isDots, Cond.static yX6_isDots]
def wsL_law_r7 : List Cond := [Cond.code yX6_isDots cX6_isDots 1 (some .boolean), Cond.constantLong RX6 50 (9999), Cond.methodLink RX6 73 yX6_kindOf, Cond.instanceMethod yX6_kindOf, Cond.selects RX6 yX6_kindOf yX6_kindOf, Cond.code yX6_kindOf cX6_kindOf 3 (some .int), Cond.methodLink RX6 63 yX6_kinds, Cond.instanceMethod yX6_kinds, Cond.selects RX6 yX6_kinds yX6_kinds, Cond.code yX6_kinds cX6_kinds 1 (some .int), Cond.methodLink RX6 77 yX6_stocks, Cond.instanceMethod yX6_stocks, Cond.selects RX6 yX6_stocks yX6_stocks, Cond.code yX6_stocks cX6_stocks 3 (some .int), Cond.methodLink RL 27 yX5_drop, Cond.instanceMethod yX5_drop, Cond.selects RX5 yX5_drop yX5_drop, Cond.code yX5_drop cX5_drop 3 (some .int), Cond.instanceMethod yX2_takeOut, Cond.selects RX2 yX2_takeOut yX2_takeOut, Cond.code yX2_takeOut cX2_takeOut 3 none, Cond.methodLink RL 30 yX6_drop, Cond.instanceMethod yX6_drop, Cond.selects RX6 yX6_drop yX6_drop]
def wsL_law_r8 : List Cond := [Cond.code yX6_drop cX6_drop 4 (some .int), Cond.methodLink RL 31 yX5_kind, Cond.instanceMethod yX5_kind, Cond.selects RX5 yX5_kind yX5_kind, Cond.code yX5_kind cX5_kind 3 (some .int), Cond.instanceMethod yX4_isDone, Cond.selects RX4 yX4_isDone yX4_isDone, Cond.code yX4_isDone cX4_isDone 1 (some .boolean), Cond.fieldLink RX4 30 "BidMosaic$Sale" "valid" "Z", Cond.fieldLink RX4 34 "BidMosaic$Sale" "content" "Z", Cond.instanceMethod yX3_cellsThatHave, Cond.selects RX3 yX3_cellsThatHave yX3_cellsThatHave, Cond.code yX3_cellsThatHave cX3_cellsThatHave 4 (some .int), Cond.methodLink RX3 79 yX3_kindOf, Cond.instanceMethod yX3_kindOf, Cond.selects RX3 yX3_kindOf yX3_kindOf, Cond.code yX3_kindOf cX3_kindOf 2 (some .int), Cond.instanceMethod yX4_slotOf, Cond.selects RX4 yX4_slotOf yX4_slotOf, Cond.code yX4_slotOf cX4_slotOf 2 (some .int), Cond.methodLink RX4 44 yX4_isInRow, Cond.static yX4_isInRow, Cond.code yX4_isInRow cX4_isInRow 1 (some .boolean), Cond.instanceMethod yX2_ofSlot]
def wsL_law_r9 : List Cond := [Cond.selects RX2 yX2_ofSlot yX2_ofSlot, Cond.code yX2_ofSlot cX2_ofSlot 4 (some .int), Cond.methodLink RL 34 yX6_kind, Cond.instanceMethod yX6_kind, Cond.selects RX6 yX6_kind yX6_kind, Cond.code yX6_kind cX6_kind 3 (some .int), Cond.methodLink RX6 87 yX6_firstSlot, Cond.instanceMethod yX6_firstSlot, Cond.selects RX6 yX6_firstSlot yX6_firstSlot, Cond.code yX6_firstSlot cX6_firstSlot 4 (some .int), Cond.methodLink RX6 90 yX6_having, Cond.instanceMethod yX6_having, Cond.selects RX6 yX6_having yX6_having, Cond.code yX6_having cX6_having 4 (some .int), Cond.methodLink RX6 80 yX6_cells, Cond.instanceMethod yX6_cells, Cond.selects RX6 yX6_cells yX6_cells, Cond.code yX6_cells cX6_cells 1 (some .int), Cond.methodLink RX6 83 yX6_isDone, Cond.instanceMethod yX6_isDone, Cond.selects RX6 yX6_isDone yX6_isDone, Cond.code yX6_isDone cX6_isDone 1 (some .boolean), Cond.methodLink RL 35 yX5_find, Cond.instanceMethod yX5_find]
def wsL_law_r10 : List Cond := [Cond.selects RX5 yX5_find yX5_find, Cond.code yX5_find cX5_find 2 (some .int), Cond.methodLink RL 38 yX6_find, Cond.instanceMethod yX6_find, Cond.selects RX6 yX6_find yX6_find, Cond.code yX6_find cX6_find 2 (some .int), Cond.methodLink RL 39 yX5_cell, Cond.instanceMethod yX5_cell, Cond.selects RX5 yX5_cell yX5_cell, Cond.code yX5_cell cX5_cell 2 (some .int), Cond.instanceMethod yX1_add, Cond.selects RX1 yX1_add yX1_add, Cond.code yX1_add cX1_add 2 none, Cond.fieldLink RX1 15 "BidMosaic$Cells" "count" "I", Cond.methodLink RL 42 yX6_cell, Cond.instanceMethod yX6_cell, Cond.selects RX6 yX6_cell yX6_cell, Cond.code yX6_cell cX6_cell 2 (some .int), Cond.methodLink RL 43 yX5_change, Cond.instanceMethod yX5_change, Cond.selects RX5 yX5_change yX5_change, Cond.code yX5_change cX5_change 4 (some .int), Cond.instanceMethod yX1_has, Cond.selects RX1 yX1_has yX1_has]
def wsL_law_r11 : List Cond := [Cond.code yX1_has cX1_has 2 (some .boolean), Cond.methodLink RL 46 yX6_change, Cond.instanceMethod yX6_change, Cond.selects RX6 yX6_change yX6_change, Cond.code yX6_change cX6_change 4 (some .int), Cond.methodLink RX6 93 yX6_isCell, Cond.instanceMethod yX6_isCell, Cond.selects RX6 yX6_isCell yX6_isCell, Cond.code yX6_isCell cX6_isCell 2 (some .boolean), Cond.methodLink RL 47 yX5_remove, Cond.instanceMethod yX5_remove, Cond.selects RX5 yX5_remove yX5_remove, Cond.code yX5_remove cX5_remove 2 (some .int), Cond.instanceMethod yX1_takeOut, Cond.selects RX1 yX1_takeOut yX1_takeOut, Cond.code yX1_takeOut cX1_takeOut 3 none, Cond.methodLink RX1 19 yX1_has, Cond.methodLink RL 50 yX6_remove, Cond.instanceMethod yX6_remove, Cond.selects RX6 yX6_remove yX6_remove, Cond.code yX6_remove cX6_remove 3 (some .int), Cond.methodLink RL 51 yX5_difference, Cond.instanceMethod yX5_difference, Cond.selects RX5 yX5_difference yX5_difference]
def wsL_law_r12 : List Cond := [Cond.code yX5_difference cX5_difference 3 (some .int), Cond.instanceMethod yX3_apart, Cond.selects RX3 yX3_apart yX3_apart, Cond.code yX3_apart cX3_apart 3 (some .int), Cond.static yX5_dotsApart, Cond.code yX5_dotsApart cX5_dotsApart 8 (some .int), Cond.methodLink RX5 179 Lib.Math.abs.name, Cond.static Lib.Math.abs.name, Cond.initialized "java/lang/Math", Cond.code Lib.Math.abs.name Lib.Math.abs.code 1 (some .int), Cond.methodLink RL 54 yX6_difference, Cond.instanceMethod yX6_difference, Cond.selects RX6 yX6_difference yX6_difference, Cond.code yX6_difference cX6_difference 3 (some .int), Cond.methodLink RX6 96 yX6_differenceOf, Cond.instanceMethod yX6_differenceOf, Cond.selects RX6 yX6_differenceOf yX6_differenceOf, Cond.code yX6_differenceOf cX6_differenceOf 7 (some .int), Cond.methodLink RL 55 yX5_auction, Cond.instanceMethod yX5_auction, Cond.selects RX5 yX5_auction yX5_auction, Cond.code yX5_auction cX5_auction 2 (some .int), Cond.instanceMethod yX0_holdAuction, Cond.selects RX0 yX0_holdAuction yX0_holdAuction]
def wsL_law_r13 : List Cond := [Cond.code yX0_holdAuction cX0_holdAuction 4 (some .int), Cond.fieldLink RX0 43 "BidMosaic$Bidding" "slots" "I", Cond.methodLink RX0 77 Lib.Math.max.name, Cond.static Lib.Math.max.name, Cond.code Lib.Math.max.name Lib.Math.max.code 2 (some .int), Cond.methodLink RX0 66 yX0_readWorths, Cond.instanceMethod yX0_readWorths, Cond.selects RX0 yX0_readWorths yX0_readWorths, Cond.code yX0_readWorths cX0_readWorths 4 none, Cond.methodLink RX0 37 Lib.Math.min.name, Cond.static Lib.Math.min.name, Cond.code Lib.Math.min.name Lib.Math.min.code 2 (some .int), Cond.methodLink RX0 50 yX0_worth, Cond.instanceMethod yX0_worth, Cond.selects RX0 yX0_worth yX0_worth, Cond.code yX0_worth cX0_worth 4 (some .int), Cond.instanceMethod yX4_begin, Cond.selects RX4 yX4_begin yX4_begin, Cond.code yX4_begin cX4_begin 2 none, Cond.fieldLink RX4 37 "BidMosaic$Sale" "phases" "I", Cond.instanceMethod yX3_greatestDifference, Cond.selects RX3 yX3_greatestDifference yX3_greatestDifference, Cond.code yX3_greatestDifference cX3_greatestDifference 4 (some .int), Cond.methodLink RX3 61 Lib.Math.max.name]
def wsL_law_r14 : List Cond := [Cond.methodLink RX3 57 yX3_apart, Cond.methodLink RX0 80 yX0_auctionPhase, Cond.instanceMethod yX0_auctionPhase, Cond.selects RX0 yX0_auctionPhase yX0_auctionPhase, Cond.code yX0_auctionPhase cX0_auctionPhase 3 (some .int), Cond.instanceMethod yX4_freeAll, Cond.selects RX4 yX4_freeAll yX4_freeAll, Cond.code yX4_freeAll cX4_freeAll 2 none, Cond.methodLink RX0 93 yX0_bidTillNoneIsFree, Cond.instanceMethod yX0_bidTillNoneIsFree, Cond.selects RX0 yX0_bidTillNoneIsFree yX0_bidTillNoneIsFree, Cond.code yX0_bidTillNoneIsFree cX0_bidTillNoneIsFree 4 (some .int), Cond.constant RX0 112 (1000000), Cond.methodLink RX0 113 yX0_leastFree, Cond.instanceMethod yX0_leastFree, Cond.selects RX0 yX0_leastFree yX0_leastFree, Cond.code yX0_leastFree cX0_leastFree 3 (some .int), Cond.methodLink RX0 116 yX0_makeBid, Cond.instanceMethod yX0_makeBid, Cond.selects RX0 yX0_makeBid yX0_makeBid, Cond.code yX0_makeBid cX0_makeBid 10 none, Cond.instanceMethod yX4_give, Cond.selects RX4 yX4_give yX4_give, Cond.code yX4_give cX4_give 4 none]
def wsL_law_r15 : List Cond := [Cond.instanceMethod yX3_sumOfDifferences, Cond.selects RX3 yX3_sumOfDifferences yX3_sumOfDifferences, Cond.code yX3_sumOfDifferences cX3_sumOfDifferences 3 (some .int), Cond.instanceMethod yX4_notePhase, Cond.selects RX4 yX4_notePhase yX4_notePhase, Cond.code yX4_notePhase cX4_notePhase 4 none, Cond.instanceMethod yX4_finish, Cond.selects RX4 yX4_finish yX4_finish, Cond.code yX4_finish cX4_finish 2 none, Cond.fieldLink RX4 41 "BidMosaic$Sale" "bids" "I", Cond.methodLink RL 59 yX6_auction, Cond.instanceMethod yX6_auction, Cond.selects RX6 yX6_auction yX6_auction, Cond.code yX6_auction cX6_auction 3 (some .int), Cond.methodLink RX6 113 yX6_laySlots, Cond.instanceMethod yX6_laySlots, Cond.selects RX6 yX6_laySlots yX6_laySlots, Cond.code yX6_laySlots cX6_laySlots 4 none, Cond.methodLink RX6 116 yX6_greatest, Cond.instanceMethod yX6_greatest, Cond.selects RX6 yX6_greatest yX6_greatest, Cond.code yX6_greatest cX6_greatest 5 (some .int), Cond.methodLink RX6 119 yX6_oneAtLeast, Cond.static yX6_oneAtLeast]
def wsL_law_r16 : List Cond := [Cond.code yX6_oneAtLeast cX6_oneAtLeast 1 (some .int), Cond.methodLink RX6 122 yX6_freeAll, Cond.instanceMethod yX6_freeAll, Cond.selects RX6 yX6_freeAll yX6_freeAll, Cond.code yX6_freeAll cX6_freeAll 2 none, Cond.methodLink RX6 125 yX6_phaseOf, Cond.instanceMethod yX6_phaseOf, Cond.selects RX6 yX6_phaseOf yX6_phaseOf, Cond.code yX6_phaseOf cX6_phaseOf 4 (some .int), Cond.methodLink RX6 106 yX6_firstFree, Cond.instanceMethod yX6_firstFree, Cond.selects RX6 yX6_firstFree yX6_firstFree, Cond.code yX6_firstFree cX6_firstFree 2 (some .int), Cond.methodLink RX6 109 yX6_bid, Cond.instanceMethod yX6_bid, Cond.selects RX6 yX6_bid yX6_bid, Cond.code yX6_bid cX6_bid 6 none, Cond.methodLink RX6 103 yX6_bestFor, Cond.instanceMethod yX6_bestFor, Cond.selects RX6 yX6_bestFor yX6_bestFor, Cond.code yX6_bestFor cX6_bestFor 5 (some .int), Cond.methodLink RX6 100 yX6_gainOf, Cond.instanceMethod yX6_gainOf, Cond.selects RX6 yX6_gainOf yX6_gainOf]
def wsL_law_r17 : List Cond := [Cond.code yX6_gainOf cX6_gainOf 4 (some .int), Cond.methodLink RX6 128 yX6_sumOf, Cond.instanceMethod yX6_sumOf, Cond.selects RX6 yX6_sumOf yX6_sumOf, Cond.code yX6_sumOf cX6_sumOf 3 (some .int), Cond.methodLink RL 60 yX5_repair, Cond.instanceMethod yX5_repair, Cond.selects RX5 yX5_repair yX5_repair, Cond.code yX5_repair cX5_repair 1 (some .int), Cond.instanceMethod yX0_mend, Cond.selects RX0 yX0_mend yX0_mend, Cond.code yX0_mend cX0_mend 2 (some .int), Cond.methodLink RX0 103 yX0_ownGain, Cond.instanceMethod yX0_ownGain, Cond.selects RX0 yX0_ownGain yX0_ownGain, Cond.code yX0_ownGain cX0_ownGain 2 (some .int), Cond.methodLink RX0 135 yX0_gainOf, Cond.instanceMethod yX0_gainOf, Cond.selects RX0 yX0_gainOf yX0_gainOf, Cond.code yX0_gainOf cX0_gainOf 3 (some .int), Cond.methodLink RX0 106 yX0_greatestGain, Cond.instanceMethod yX0_greatestGain, Cond.selects RX0 yX0_greatestGain yX0_greatestGain, Cond.code yX0_greatestGain cX0_greatestGain 4 (some .int)]
def wsL_law_r18 : List Cond := [Cond.instanceMethod yX4_setFree, Cond.selects RX4 yX4_setFree yX4_setFree, Cond.code yX4_setFree cX4_setFree 3 none, Cond.methodLink RL 63 yX6_repair, Cond.instanceMethod yX6_repair, Cond.selects RX6 yX6_repair yX6_repair, Cond.code yX6_repair cX6_repair 2 (some .int), Cond.methodLink RX6 131 yX6_isValid, Cond.instanceMethod yX6_isValid, Cond.selects RX6 yX6_isValid yX6_isValid, Cond.code yX6_isValid cX6_isValid 1 (some .boolean), Cond.methodLink RL 64 yX5_phase, Cond.instanceMethod yX5_phase, Cond.selects RX5 yX5_phase yX5_phase, Cond.code yX5_phase cX5_phase 3 (some .int), Cond.instanceMethod yX4_hasPhase, Cond.selects RX4 yX4_hasPhase yX4_hasPhase, Cond.code yX4_hasPhase cX4_hasPhase 2 (some .boolean), Cond.methodLink RL 67 yX6_phase, Cond.instanceMethod yX6_phase, Cond.selects RX6 yX6_phase yX6_phase, Cond.code yX6_phase cX6_phase 3 (some .int), Cond.methodLink RL 68 yX5_place, Cond.instanceMethod yX5_place]
def wsL_law_r19 : List Cond := [Cond.selects RX5 yX5_place yX5_place, Cond.code yX5_place cX5_place 2 (some .int), Cond.methodLink RL 71 yX6_place, Cond.instanceMethod yX6_place, Cond.selects RX6 yX6_place yX6_place, Cond.code yX6_place cX6_place 2 (some .int), Cond.methodLink RL 72 yX5_slot, Cond.instanceMethod yX5_slot, Cond.selects RX5 yX5_slot yX5_slot, Cond.code yX5_slot cX5_slot 3 (some .int), Cond.instanceMethod yX3_cellOf, Cond.selects RX3 yX3_cellOf yX3_cellOf, Cond.code yX3_cellOf cX3_cellOf 3 (some .int), Cond.methodLink RL 75 yX6_slot, Cond.instanceMethod yX6_slot, Cond.selects RX6 yX6_slot yX6_slot, Cond.code yX6_slot cX6_slot 3 (some .int), Cond.methodLink RL 76 yX5_gain, Cond.instanceMethod yX5_gain, Cond.selects RX5 yX5_gain yX5_gain, Cond.code yX5_gain cX5_gain 3 (some .int), Cond.constant RX5 150 (-100000003), Cond.constant RX5 151 (-100000001), Cond.constant RX5 152 (-100000002)]
def wsL_law_r20 : List Cond := [Cond.methodLink RL 79 yX6_gain, Cond.instanceMethod yX6_gain, Cond.selects RX6 yX6_gain yX6_gain, Cond.code yX6_gain cX6_gain 3 (some .int), Cond.constant RX6 134 (-100000003), Cond.constant RX6 135 (-100000001), Cond.constant RX6 136 (-100000002), Cond.methodLink RL 80 yX5_total, Cond.instanceMethod yX5_total, Cond.selects RX5 yX5_total yX5_total, Cond.code yX5_total cX5_total 1 (some .int), Cond.methodLink RL 83 yX6_total, Cond.instanceMethod yX6_total, Cond.selects RX6 yX6_total yX6_total, Cond.code yX6_total cX6_total 1 (some .int), Cond.methodLink RL 84 yX5_image, Cond.instanceMethod yX5_image, Cond.selects RX5 yX5_image yX5_image, Cond.code yX5_image cX5_image 2 (some .int), Cond.instanceMethod yX3_copyFrom, Cond.selects RX3 yX3_copyFrom yX3_copyFrom, Cond.code yX3_copyFrom cX3_copyFrom 2 none, Cond.instanceMethod yX2_copyFrom, Cond.selects RX2 yX2_copyFrom yX2_copyFrom]
def wsL_law_r21 : List Cond := [Cond.code yX2_copyFrom cX2_copyFrom 2 none, Cond.methodLink RX2 37 arraycopyName, Cond.native arraycopyName, Cond.static arraycopyName, Cond.initialized "java/lang/System", Cond.instanceMethod yX1_copyFrom, Cond.selects RX1 yX1_copyFrom yX1_copyFrom, Cond.code yX1_copyFrom cX1_copyFrom 2 none, Cond.methodLink RX1 23 arraycopyName, Cond.instanceMethod yX4_copyFrom, Cond.selects RX4 yX4_copyFrom yX4_copyFrom, Cond.code yX4_copyFrom cX4_copyFrom 2 none, Cond.methodLink RX4 48 arraycopyName, Cond.methodLink RL 87 yX6_image, Cond.instanceMethod yX6_image, Cond.selects RX6 yX6_image yX6_image, Cond.code yX6_image cX6_image 2 (some .int), Cond.fieldLink RX6 141 "BidMosaicModel" "keptAt" "I", Cond.fieldLink RX6 137 "BidMosaicModel" "isWriting" "Z", Cond.methodLink RX6 149 yX6_passAll, Cond.instanceMethod yX6_passAll, Cond.selects RX6 yX6_passAll yX6_passAll, Cond.code yX6_passAll cX6_passAll 1 none, Cond.methodLink RX6 145 yX6_passRow]
def wsL_law_r22 : List Cond := [Cond.instanceMethod yX6_passRow, Cond.selects RX6 yX6_passRow yX6_passRow, Cond.code yX6_passRow cX6_passRow 4 none, Cond.methodLink RL 88 yX5_restore, Cond.instanceMethod yX5_restore, Cond.selects RX5 yX5_restore yX5_restore, Cond.code yX5_restore cX5_restore 2 (some .int), Cond.methodLink RL 91 yX6_restore, Cond.instanceMethod yX6_restore, Cond.selects RX6 yX6_restore yX6_restore, Cond.code yX6_restore cX6_restore 2 (some .int), Cond.methodLink RL 92 yX5_told, Cond.instanceMethod yX5_told, Cond.selects RX5 yX5_told yX5_told, Cond.code yX5_told cX5_told 2 (some .int), Cond.methodLink RX5 176 yX5_toldOfCell, Cond.instanceMethod yX5_toldOfCell, Cond.selects RX5 yX5_toldOfCell yX5_toldOfCell, Cond.code yX5_toldOfCell cX5_toldOfCell 2 (some .int), Cond.methodLink RL 95 yX6_told, Cond.instanceMethod yX6_told, Cond.selects RX6 yX6_told yX6_told, Cond.code yX6_told cX6_told 2 (some .int), Cond.constantLong RX6 152 (8)]
def wsL_law : List Cond := (wsL_law_r1 ++ (wsL_law_r2 ++ (wsL_law_r3 ++ (wsL_law_r4 ++ (wsL_law_r5 ++ (wsL_law_r6 ++ (wsL_law_r7 ++ (wsL_law_r8 ++ (wsL_law_r9 ++ (wsL_law_r10 ++ (wsL_law_r11 ++ (wsL_law_r12 ++ (wsL_law_r13 ++ (wsL_law_r14 ++ (wsL_law_r15 ++ (wsL_law_r16 ++ (wsL_law_r17 ++ (wsL_law_r18 ++ (wsL_law_r19 ++ (wsL_law_r20 ++ (wsL_law_r21 ++ wsL_law_r22))))))))))))))))))))) ++ wsX50 ++ wsX60 ++ wsX00 ++ wsX30 ++ wsX20 ++ wsX10 ++ wsX40 ++ ([] : List Cond)
theorem mem_ps {big ws : List Cond} (ps : List Nat) (hp : ps.map (fun i => big[i]?) = ws.map some) : ∀ w ∈ ws, w ∈ big := fun w hw => by
  have h1 : some w ∈ ps.map (fun i => big[i]?) := by rw [hp]; exact List.mem_map.mpr ⟨w, hw, rfl⟩
  obtain ⟨i, -, hi⟩ := List.mem_map.mp h1
  exact List.mem_of_getElem? hi
set_option maxRecDepth 100000 in
theorem wsL_law_r1_inl : ∀ w ∈ wsL_law_r1, w ∈ lw_tbl := mem_ps [74, 75, 65, 531, 532, 71, 76, 77, 78, 79, 80, 81, 82, 83, 66, 222, 223, 220, 224, 85, 86, 87, 88, 89] rfl
set_option maxRecDepth 100000 in
theorem wsL_law_r2_inl : ∀ w ∈ wsL_law_r2, w ∈ lw_tbl := mem_ps [67, 206, 208, 115, 209, 91, 92, 93, 181, 183, 94, 95, 68, 186, 116, 117, 69, 189, 133, 134, 70, 193, 97, 98] rfl
set_option maxRecDepth 100000 in
theorem wsL_law_r3_inl : ∀ w ∈ wsL_law_r3, w ∈ lw_tbl := mem_ps [99, 103, 106, 119, 120, 121, 125, 136, 137, 138, 147, 150, 152, 154, 156, 158, 533, 534, 535, 536, 537, 538, 539, 540] rfl
set_option maxRecDepth 100000 in
theorem wsL_law_r4_inl : ∀ w ∈ wsL_law_r4, w ∈ lw_tbl := mem_ps [541, 542, 543, 544, 545, 546, 547, 548, 583, 549, 232, 233, 234, 235, 584, 585, 586, 587, 588, 589, 590, 591, 593, 42] rfl
set_option maxRecDepth 100000 in
theorem wsL_law_r5_inl : ∀ w ∈ wsL_law_r5, w ∈ lw_tbl := mem_ps [594, 236, 237, 238, 239, 595, 596, 597, 598, 599, 600, 240, 241, 242, 243, 244, 245, 246, 249, 0, 250, 100, 251, 253] rfl
set_option maxRecDepth 100000 in
theorem wsL_law_r6_inl : ∀ w ∈ wsL_law_r6, w ∈ lw_tbl := mem_ps [1, 254, 255, 257, 2, 258, 259, 261, 3, 262, 263, 265, 4, 266, 269, 5, 270, 601, 602, 603, 604, 609, 605, 606] rfl
set_option maxRecDepth 100000 in
theorem wsL_law_r7_inl : ∀ w ∈ wsL_law_r7, w ∈ lw_tbl := mem_ps [607, 608, 610, 612, 43, 613, 614, 616, 44, 617, 618, 620, 45, 621, 271, 272, 273, 274, 278, 6, 279, 622, 623, 624] rfl
set_option maxRecDepth 100000 in
theorem wsL_law_r8_inl : ∀ w ∈ wsL_law_r8, w ∈ lw_tbl := mem_ps [625, 280, 281, 282, 283, 288, 7, 289, 139, 141, 292, 8, 293, 294, 296, 9, 297, 300, 10, 301, 302, 303, 304, 307] rfl
set_option maxRecDepth 100000 in
theorem wsL_law_r9_inl : ∀ w ∈ wsL_law_r9, w ∈ lw_tbl := mem_ps [11, 308, 626, 627, 628, 629, 630, 632, 46, 633, 634, 636, 47, 637, 638, 640, 48, 641, 642, 644, 49, 645, 309, 310] rfl
set_option maxRecDepth 100000 in
theorem wsL_law_r10_inl : ∀ w ∈ wsL_law_r10, w ∈ lw_tbl := mem_ps [311, 312, 646, 647, 648, 649, 313, 314, 315, 316, 319, 12, 320, 122, 650, 651, 652, 653, 321, 322, 323, 324, 327, 13] rfl
set_option maxRecDepth 100000 in
theorem wsL_law_r11_inl : ∀ w ∈ wsL_law_r11, w ∈ lw_tbl := mem_ps [328, 654, 655, 656, 657, 658, 660, 50, 661, 329, 330, 331, 332, 335, 14, 336, 337, 662, 663, 664, 665, 338, 339, 340] rfl
set_option maxRecDepth 100000 in
theorem wsL_law_r12_inl : ∀ w ∈ wsL_law_r12, w ∈ lw_tbl := mem_ps [341, 344, 15, 345, 349, 350, 351, 352, 72, 353, 666, 667, 668, 669, 670, 672, 51, 673, 354, 355, 356, 357, 361, 16] rfl
set_option maxRecDepth 100000 in
theorem wsL_law_r13_inl : ∀ w ∈ wsL_law_r13, w ∈ lw_tbl := mem_ps [362, 210, 390, 388, 389, 363, 365, 17, 366, 368, 369, 370, 372, 374, 18, 375, 380, 19, 381, 145, 384, 20, 385, 387] rfl
set_option maxRecDepth 100000 in
theorem wsL_law_r14_inl : ∀ w ∈ wsL_law_r14, w ∈ lw_tbl := mem_ps [386, 391, 393, 21, 394, 397, 22, 398, 399, 401, 23, 402, 403, 404, 406, 24, 407, 408, 410, 25, 411, 415, 26, 416] rfl
set_option maxRecDepth 100000 in
theorem wsL_law_r15_inl : ∀ w ∈ wsL_law_r15, w ∈ lw_tbl := mem_ps [419, 27, 420, 423, 28, 424, 427, 29, 428, 143, 674, 675, 676, 677, 678, 680, 52, 681, 682, 684, 53, 685, 686, 687] rfl
set_option maxRecDepth 100000 in
theorem wsL_law_r16_inl : ∀ w ∈ wsL_law_r16, w ∈ lw_tbl := mem_ps [688, 689, 691, 54, 692, 693, 695, 55, 696, 697, 699, 56, 700, 701, 703, 57, 704, 705, 707, 58, 708, 709, 711, 59] rfl
set_option maxRecDepth 100000 in
theorem wsL_law_r17_inl : ∀ w ∈ wsL_law_r17, w ∈ lw_tbl := mem_ps [712, 713, 715, 60, 716, 429, 430, 431, 432, 435, 30, 436, 437, 439, 31, 440, 442, 444, 32, 445, 446, 448, 33, 449] rfl
set_option maxRecDepth 100000 in
theorem wsL_law_r18_inl : ∀ w ∈ wsL_law_r18, w ∈ lw_tbl := mem_ps [452, 34, 453, 717, 718, 719, 720, 721, 723, 61, 724, 454, 455, 456, 457, 460, 35, 461, 725, 726, 727, 728, 462, 463] rfl
set_option maxRecDepth 100000 in
theorem wsL_law_r19_inl : ∀ w ∈ wsL_law_r19, w ∈ lw_tbl := mem_ps [464, 465, 729, 730, 731, 732, 467, 468, 469, 470, 475, 36, 476, 733, 734, 735, 736, 478, 479, 480, 481, 482, 483, 484] rfl
set_option maxRecDepth 100000 in
theorem wsL_law_r20_inl : ∀ w ∈ wsL_law_r20, w ∈ lw_tbl := mem_ps [737, 738, 739, 740, 741, 742, 743, 488, 489, 490, 491, 744, 745, 746, 747, 493, 494, 495, 496, 500, 37, 501, 504, 38] rfl
set_option maxRecDepth 100000 in
theorem wsL_law_r21_inl : ∀ w ∈ wsL_law_r21, w ∈ lw_tbl := mem_ps [505, 506, 508, 507, 73, 511, 39, 512, 513, 516, 40, 517, 518, 748, 749, 750, 751, 550, 551, 752, 754, 62, 755, 756] rfl
set_option maxRecDepth 100000 in
theorem wsL_law_r22_inl : ∀ w ∈ wsL_law_r22, w ∈ lw_tbl := mem_ps [758, 63, 759, 519, 520, 521, 522, 760, 761, 762, 763, 523, 524, 525, 526, 527, 529, 41, 530, 764, 765, 766, 767, 768] rfl
set_option maxRecDepth 100000 in
theorem wsX50_inl : ∀ w ∈ wsX50, w ∈ lw_tbl := mem_ps [225, 227, 229] rfl
set_option maxRecDepth 100000 in
theorem wsX60_inl : ∀ w ∈ wsX60, w ∈ lw_tbl := mem_ps [552, 554, 556, 558, 560, 562, 564, 566, 568, 570, 572, 574, 576, 578, 580] rfl
set_option maxRecDepth 100000 in
theorem wsX00_inl : ∀ w ∈ wsX00, w ∈ lw_tbl := mem_ps [211, 213, 215, 217] rfl
set_option maxRecDepth 100000 in
theorem wsX30_inl : ∀ w ∈ wsX30, w ∈ lw_tbl := mem_ps [195, 197, 199, 201, 203] rfl
set_option maxRecDepth 100000 in
theorem wsX20_inl : ∀ w ∈ wsX20, w ∈ lw_tbl := mem_ps [108, 110, 112] rfl
set_option maxRecDepth 100000 in
theorem wsX10_inl : ∀ w ∈ wsX10, w ∈ lw_tbl := mem_ps [128, 130] rfl
set_option maxRecDepth 100000 in
theorem wsX40_inl : ∀ w ∈ wsX40, w ∈ lw_tbl := mem_ps [160, 162, 164, 166, 168, 170, 172, 174, 176, 178] rfl
theorem wsL_law_in : ∀ w ∈ wsL_law, w ∈ lw_tbl := (List.forall_mem_append.mpr ⟨(List.forall_mem_append.mpr ⟨(List.forall_mem_append.mpr ⟨(List.forall_mem_append.mpr ⟨(List.forall_mem_append.mpr ⟨(List.forall_mem_append.mpr ⟨(List.forall_mem_append.mpr ⟨(List.forall_mem_append.mpr ⟨(List.forall_mem_append.mpr ⟨wsL_law_r1_inl, (List.forall_mem_append.mpr ⟨wsL_law_r2_inl, (List.forall_mem_append.mpr ⟨wsL_law_r3_inl, (List.forall_mem_append.mpr ⟨wsL_law_r4_inl, (List.forall_mem_append.mpr ⟨wsL_law_r5_inl, (List.forall_mem_append.mpr ⟨wsL_law_r6_inl, (List.forall_mem_append.mpr ⟨wsL_law_r7_inl, (List.forall_mem_append.mpr ⟨wsL_law_r8_inl, (List.forall_mem_append.mpr ⟨wsL_law_r9_inl, (List.forall_mem_append.mpr ⟨wsL_law_r10_inl, (List.forall_mem_append.mpr ⟨wsL_law_r11_inl, (List.forall_mem_append.mpr ⟨wsL_law_r12_inl, (List.forall_mem_append.mpr ⟨wsL_law_r13_inl, (List.forall_mem_append.mpr ⟨wsL_law_r14_inl, (List.forall_mem_append.mpr ⟨wsL_law_r15_inl, (List.forall_mem_append.mpr ⟨wsL_law_r16_inl, (List.forall_mem_append.mpr ⟨wsL_law_r17_inl, (List.forall_mem_append.mpr ⟨wsL_law_r18_inl, (List.forall_mem_append.mpr ⟨wsL_law_r19_inl, (List.forall_mem_append.mpr ⟨wsL_law_r20_inl, (List.forall_mem_append.mpr ⟨wsL_law_r21_inl, wsL_law_r22_inl⟩)⟩)⟩)⟩)⟩)⟩)⟩)⟩)⟩)⟩)⟩)⟩)⟩)⟩)⟩)⟩)⟩)⟩)⟩)⟩)⟩), wsX50_inl⟩), wsX60_inl⟩), wsX00_inl⟩), wsX30_inl⟩), wsX20_inl⟩), wsX10_inl⟩), wsX40_inl⟩), (fun w h => absurd h List.not_mem_nil)⟩)
end
section
theorem inlX0 : ∀ w ∈ wsX00, w ∈ wsL_law := fun _ h => List.mem_append_left _ (List.mem_append_left _ (List.mem_append_left _ (List.mem_append_left _ (List.mem_append_left _ (List.mem_append_right _ h)))))
theorem inX0 : ∀ w ∈ wsX00, w ∈ lw_tbl := fun w h => wsL_law_in w (inlX0 w h)
theorem inlX1 : ∀ w ∈ wsX10, w ∈ wsL_law := fun _ h => List.mem_append_left _ (List.mem_append_left _ (List.mem_append_right _ h))
theorem inX1 : ∀ w ∈ wsX10, w ∈ lw_tbl := fun w h => wsL_law_in w (inlX1 w h)
theorem inlX2 : ∀ w ∈ wsX20, w ∈ wsL_law := fun _ h => List.mem_append_left _ (List.mem_append_left _ (List.mem_append_left _ (List.mem_append_right _ h)))
theorem inX2 : ∀ w ∈ wsX20, w ∈ lw_tbl := fun w h => wsL_law_in w (inlX2 w h)
theorem inlX3 : ∀ w ∈ wsX30, w ∈ wsL_law := fun _ h => List.mem_append_left _ (List.mem_append_left _ (List.mem_append_left _ (List.mem_append_left _ (List.mem_append_right _ h))))
theorem inX3 : ∀ w ∈ wsX30, w ∈ lw_tbl := fun w h => wsL_law_in w (inlX3 w h)
theorem inlX4 : ∀ w ∈ wsX40, w ∈ wsL_law := fun _ h => List.mem_append_left _ (List.mem_append_right _ h)
theorem inX4 : ∀ w ∈ wsX40, w ∈ lw_tbl := fun w h => wsL_law_in w (inlX4 w h)
theorem inlX5 : ∀ w ∈ wsX50, w ∈ wsL_law := fun _ h => List.mem_append_left _ (List.mem_append_left _ (List.mem_append_left _ (List.mem_append_left _ (List.mem_append_left _ (List.mem_append_left _ (List.mem_append_left _ (List.mem_append_right _ h)))))))
theorem inX5 : ∀ w ∈ wsX50, w ∈ lw_tbl := fun w h => wsL_law_in w (inlX5 w h)
theorem inlX6 : ∀ w ∈ wsX60, w ∈ wsL_law := fun _ h => List.mem_append_left _ (List.mem_append_left _ (List.mem_append_left _ (List.mem_append_left _ (List.mem_append_left _ (List.mem_append_left _ (List.mem_append_right _ h))))))
theorem inX6 : ∀ w ∈ wsX60, w ∈ lw_tbl := fun w h => wsL_law_in w (inlX6 w h)
theorem inJ9 : ∀ w ∈ wsJ90, w ∈ lw_tbl := by decide +kernel
theorem inJ10 : ∀ w ∈ wsJ100, w ∈ lw_tbl := by decide +kernel
set_option maxRecDepth 20000 in
theorem ggX0_init_X3_init : GoodIn wsX0_init wsX3_init := goodIn_r _ [12, 13, 2, 3, 14, 15, 16, 17, 18, 19, 20, 21, 22, 23, 24, 25, 26, 27, 28, 29, 30, 9, 31, 32, 33, 34, 35, 36, 37, 38, 39, 40, 41, 42, 43, 44, 45, 46, 47, 48, 49, 50, 55, 56, 57, 58, 59, 60, 61, 62, 63, 64, 65, 66, 67, 68, 69] (by decide +kernel) (by decide +kernel)
set_option maxRecDepth 20000 in
theorem gX0_init_X3_init_n11 : GoodIn wsX0_init (wsX3_init) := ggX0_init_X3_init
theorem dX0_init_0 : decode cX0_init 0 = .ok (.aload_n 0, 1) := by decide +kernel
theorem dX0_init_1 : decode cX0_init 1 = .ok (.invokespecial 3, 3) := by decide +kernel
theorem dX0_init_4 : decode cX0_init 4 = .ok (.aload_n 0, 1) := by decide +kernel
theorem dX0_init_5 : decode cX0_init 5 = .ok (.new 9, 3) := by decide +kernel
theorem dX0_init_8 : decode cX0_init 8 = .ok (.dup, 1) := by decide +kernel
theorem dX0_init_9 : decode cX0_init 9 = .ok (.invokespecial 11, 3) := by decide +kernel
theorem dX0_init_12 : decode cX0_init 12 = .ok (.putfield 12, 3) := by decide +kernel
theorem dX0_init_15 : decode cX0_init 15 = .ok (.aload_n 0, 1) := by decide +kernel
theorem dX0_init_16 : decode cX0_init 16 = .ok (.aload_n 0, 1) := by decide +kernel
theorem dX0_init_17 : decode cX0_init 17 = .ok (.getfield 12, 3) := by decide +kernel
theorem dX0_init_20 : decode cX0_init 20 = .ok (.getfield 18, 3) := by decide +kernel
theorem dX0_init_23 : decode cX0_init 23 = .ok (.putfield 22, 3) := by decide +kernel
theorem dX0_init_26 : decode cX0_init 26 = .ok (.aload_n 0, 1) := by decide +kernel
theorem dX0_init_27 : decode cX0_init 27 = .ok (.sipush 256, 3) := by decide +kernel
theorem dX0_init_30 : decode cX0_init 30 = .ok (.newarray .int, 2) := by decide +kernel
theorem dX0_init_32 : decode cX0_init 32 = .ok (.putfield 23, 3) := by decide +kernel
theorem dX0_init_35 : decode cX0_init 35 = .ok (.return_, 1) := by decide +kernel
set_option maxRecDepth 20000 in
theorem ggX0_readWorths_X2_slots : GoodIn wsX0_readWorths wsX2_slots := goodIn_r _ [11, 12, 13, 14, 15, 9, 16, 17, 56, 57, 58] (by decide +kernel) (by decide +kernel)
set_option maxRecDepth 20000 in
theorem gX0_readWorths_X2_slots_n31 : GoodIn wsX0_readWorths (wsX2_slots) := ggX0_readWorths_X2_slots
set_option maxRecDepth 20000 in
theorem ggX0_readWorths_X2_ofSlot : GoodIn wsX0_readWorths wsX2_ofSlot := goodIn_r _ [20, 12, 17, 56, 57, 58] (by decide +kernel) (by decide +kernel)
set_option maxRecDepth 20000 in
theorem gX0_readWorths_X2_ofSlot_n46 : GoodIn wsX0_readWorths (wsX2_ofSlot) := ggX0_readWorths_X2_ofSlot
set_option maxRecDepth 20000 in
theorem ggX0_readWorths_X0_worth : GoodIn wsX0_readWorths wsX0_worth := goodIn_r _ [25, 1, 6, 26, 27, 28, 29, 30, 31, 32, 33, 34, 35, 36, 37, 38, 9, 39, 40, 12, 41, 42, 43, 44, 45, 4, 46, 47, 48, 49, 50, 51, 52, 53, 54, 55, 59, 60, 56, 57, 58] (by decide +kernel) (by decide +kernel)
set_option maxRecDepth 20000 in
theorem gX0_readWorths_X0_worth : GoodIn wsX0_readWorths (wsV RX0 50 RX0 yX0_worth wsX0_worth) := goodIn_app (goodIn_of _ (by decide +kernel)) ggX0_readWorths_X0_worth
theorem dX0_readWorths_0 : decode cX0_readWorths 0 = .ok (.aload_n 0, 1) := by decide +kernel
theorem dX0_readWorths_1 : decode cX0_readWorths 1 = .ok (.aload_n 0, 1) := by decide +kernel
theorem dX0_readWorths_2 : decode cX0_readWorths 2 = .ok (.getfield 12, 3) := by decide +kernel
theorem dX0_readWorths_5 : decode cX0_readWorths 5 = .ok (.getfield 27, 3) := by decide +kernel
theorem dX0_readWorths_8 : decode cX0_readWorths 8 = .ok (.invokevirtual 31, 3) := by decide +kernel
theorem dX0_readWorths_11 : decode cX0_readWorths 11 = .ok (.bipush 16, 2) := by decide +kernel
theorem dX0_readWorths_13 : decode cX0_readWorths 13 = .ok (.invokestatic 37, 3) := by decide +kernel
theorem dX0_readWorths_16 : decode cX0_readWorths 16 = .ok (.putfield 43, 3) := by decide +kernel
theorem dX0_readWorths_19 : decode cX0_readWorths 19 = .ok (.iconst 0, 1) := by decide +kernel
theorem dX0_readWorths_20 : decode cX0_readWorths 20 = .ok (.istore_n 1, 1) := by decide +kernel
theorem dX0_readWorths_21 : decode cX0_readWorths 21 = .ok (.iload_n 1, 1) := by decide +kernel
theorem dX0_readWorths_22 : decode cX0_readWorths 22 = .ok (.aload_n 0, 1) := by decide +kernel
theorem dX0_readWorths_23 : decode cX0_readWorths 23 = .ok (.getfield 43, 3) := by decide +kernel
theorem dX0_readWorths_26 : decode cX0_readWorths 26 = .ok (.if_icmp .ge 54, 3) := by decide +kernel
theorem dX0_readWorths_29 : decode cX0_readWorths 29 = .ok (.aload_n 0, 1) := by decide +kernel
theorem dX0_readWorths_30 : decode cX0_readWorths 30 = .ok (.getfield 12, 3) := by decide +kernel
theorem dX0_readWorths_33 : decode cX0_readWorths 33 = .ok (.getfield 27, 3) := by decide +kernel
theorem dX0_readWorths_36 : decode cX0_readWorths 36 = .ok (.iload_n 1, 1) := by decide +kernel
theorem dX0_readWorths_37 : decode cX0_readWorths 37 = .ok (.invokevirtual 46, 3) := by decide +kernel
theorem dX0_readWorths_40 : decode cX0_readWorths 40 = .ok (.istore_n 2, 1) := by decide +kernel
theorem dX0_readWorths_41 : decode cX0_readWorths 41 = .ok (.iconst 0, 1) := by decide +kernel
theorem dX0_readWorths_42 : decode cX0_readWorths 42 = .ok (.istore_n 3, 1) := by decide +kernel
theorem dX0_readWorths_43 : decode cX0_readWorths 43 = .ok (.iload_n 3, 1) := by decide +kernel
theorem dX0_readWorths_44 : decode cX0_readWorths 44 = .ok (.aload_n 0, 1) := by decide +kernel
theorem dX0_readWorths_45 : decode cX0_readWorths 45 = .ok (.getfield 43, 3) := by decide +kernel
theorem dX0_readWorths_48 : decode cX0_readWorths 48 = .ok (.if_icmp .ge 26, 3) := by decide +kernel
theorem dX0_readWorths_51 : decode cX0_readWorths 51 = .ok (.aload_n 0, 1) := by decide +kernel
theorem dX0_readWorths_52 : decode cX0_readWorths 52 = .ok (.getfield 23, 3) := by decide +kernel
theorem dX0_readWorths_55 : decode cX0_readWorths 55 = .ok (.iload_n 3, 1) := by decide +kernel
theorem dX0_readWorths_56 : decode cX0_readWorths 56 = .ok (.bipush 16, 2) := by decide +kernel
theorem dX0_readWorths_58 : decode cX0_readWorths 58 = .ok (.imul, 1) := by decide +kernel
theorem dX0_readWorths_59 : decode cX0_readWorths 59 = .ok (.iload_n 1, 1) := by decide +kernel
theorem dX0_readWorths_60 : decode cX0_readWorths 60 = .ok (.iadd, 1) := by decide +kernel
theorem dX0_readWorths_61 : decode cX0_readWorths 61 = .ok (.aload_n 0, 1) := by decide +kernel
theorem dX0_readWorths_62 : decode cX0_readWorths 62 = .ok (.iload_n 3, 1) := by decide +kernel
theorem dX0_readWorths_63 : decode cX0_readWorths 63 = .ok (.iload_n 2, 1) := by decide +kernel
theorem dX0_readWorths_64 : decode cX0_readWorths 64 = .ok (.invokevirtual 50, 3) := by decide +kernel
theorem dX0_readWorths_67 : decode cX0_readWorths 67 = .ok (.iastore, 1) := by decide +kernel
theorem dX0_readWorths_68 : decode cX0_readWorths 68 = .ok (.iinc 3 1, 3) := by decide +kernel
theorem dX0_readWorths_71 : decode cX0_readWorths 71 = .ok (.goto (-28), 3) := by decide +kernel
theorem dX0_readWorths_74 : decode cX0_readWorths 74 = .ok (.iinc 1 1, 3) := by decide +kernel
theorem dX0_readWorths_77 : decode cX0_readWorths 77 = .ok (.goto (-56), 3) := by decide +kernel
theorem dX0_readWorths_80 : decode cX0_readWorths 80 = .ok (.return_, 1) := by decide +kernel
set_option maxRecDepth 20000 in
theorem ggX0_worth_X1_has : GoodIn wsX0_worth wsX1_has := goodIn_r _ [6, 7, 36, 37] (by decide +kernel) (by decide +kernel)
set_option maxRecDepth 20000 in
theorem gX0_worth_X1_has_n57 : GoodIn wsX0_worth (wsX1_has) := ggX0_worth_X1_has
set_option maxRecDepth 20000 in
theorem ggX0_worth_X3_apart : GoodIn wsX0_worth wsX3_apart := goodIn_r _ [11, 12, 13, 14, 3, 4, 5, 6, 7, 15, 16, 17, 18, 19, 20, 21, 22, 23, 24, 25, 26, 31, 32, 33, 34, 35, 36, 37, 38, 39, 40] (by decide +kernel) (by decide +kernel)
set_option maxRecDepth 20000 in
theorem gX0_worth_X3_apart_n63 : GoodIn wsX0_worth (wsX3_apart) := ggX0_worth_X3_apart
theorem dX0_worth_0 : decode cX0_worth 0 = .ok (.aload_n 0, 1) := by decide +kernel
theorem dX0_worth_1 : decode cX0_worth 1 = .ok (.getfield 12, 3) := by decide +kernel
theorem dX0_worth_4 : decode cX0_worth 4 = .ok (.getfield 53, 3) := by decide +kernel
theorem dX0_worth_7 : decode cX0_worth 7 = .ok (.iload_n 1, 1) := by decide +kernel
theorem dX0_worth_8 : decode cX0_worth 8 = .ok (.invokevirtual 57, 3) := by decide +kernel
theorem dX0_worth_11 : decode cX0_worth 11 = .ok (.ifCond .ne 7, 3) := by decide +kernel
theorem dX0_worth_14 : decode cX0_worth 14 = .ok (.iconst 1, 1) := by decide +kernel
theorem dX0_worth_15 : decode cX0_worth 15 = .ok (.goto 4, 3) := by decide +kernel
theorem dX0_worth_18 : decode cX0_worth 18 = .ok (.iconst 0, 1) := by decide +kernel
theorem dX0_worth_19 : decode cX0_worth 19 = .ok (.istore_n 3, 1) := by decide +kernel
theorem dX0_worth_20 : decode cX0_worth 20 = .ok (.iload_n 3, 1) := by decide +kernel
theorem dX0_worth_21 : decode cX0_worth 21 = .ok (.ifCond .eq 7, 3) := by decide +kernel
theorem dX0_worth_24 : decode cX0_worth 24 = .ok (.iconst 0, 1) := by decide +kernel
theorem dX0_worth_25 : decode cX0_worth 25 = .ok (.goto 20, 3) := by decide +kernel
theorem dX0_worth_28 : decode cX0_worth 28 = .ok (.aload_n 0, 1) := by decide +kernel
theorem dX0_worth_29 : decode cX0_worth 29 = .ok (.getfield 12, 3) := by decide +kernel
theorem dX0_worth_32 : decode cX0_worth 32 = .ok (.iload_n 1, 1) := by decide +kernel
theorem dX0_worth_33 : decode cX0_worth 33 = .ok (.iload_n 2, 1) := by decide +kernel
theorem dX0_worth_34 : decode cX0_worth 34 = .ok (.invokevirtual 63, 3) := by decide +kernel
theorem dX0_worth_37 : decode cX0_worth 37 = .ok (.ineg, 1) := by decide +kernel
theorem dX0_worth_38 : decode cX0_worth 38 = .ok (.aload_n 0, 1) := by decide +kernel
theorem dX0_worth_39 : decode cX0_worth 39 = .ok (.getfield 43, 3) := by decide +kernel
theorem dX0_worth_42 : decode cX0_worth 42 = .ok (.iconst 1, 1) := by decide +kernel
theorem dX0_worth_43 : decode cX0_worth 43 = .ok (.iadd, 1) := by decide +kernel
theorem dX0_worth_44 : decode cX0_worth 44 = .ok (.imul, 1) := by decide +kernel
theorem dX0_worth_45 : decode cX0_worth 45 = .ok (.ireturn, 1) := by decide +kernel
set_option maxRecDepth 20000 in
theorem ggX0_holdAuction_X0_readWorths : GoodIn wsX0_holdAuction wsX0_readWorths := goodIn_r _ [12, 2, 13, 14, 6, 15, 3, 16, 17, 18, 19, 20, 21, 22, 23, 24, 25, 26, 27, 28, 29, 30, 31, 32, 11, 33, 34, 35, 36, 37, 38, 39, 40, 41, 42, 43, 44, 45, 46, 47, 48, 49, 50, 51, 52, 53, 54, 117, 118, 119, 120, 121, 122, 123, 124, 125, 126, 127, 128, 129, 130] (by decide +kernel) (by decide +kernel)
set_option maxRecDepth 20000 in
theorem gX0_holdAuction_X0_readWorths : GoodIn wsX0_holdAuction (wsV RX0 66 RX0 yX0_readWorths wsX0_readWorths) := goodIn_app (goodIn_of _ (by decide +kernel)) ggX0_holdAuction_X0_readWorths
set_option maxRecDepth 20000 in
theorem ggX0_holdAuction_X4_begin : GoodIn wsX0_holdAuction wsX4_begin := goodIn_r _ [58, 59, 60, 131, 132, 133, 134, 135, 136, 137, 138, 139, 140] (by decide +kernel) (by decide +kernel)
set_option maxRecDepth 20000 in
theorem gX0_holdAuction_X4_begin_n69 : GoodIn wsX0_holdAuction (wsX4_begin) := ggX0_holdAuction_X4_begin
set_option maxRecDepth 20000 in
theorem ggX0_holdAuction_X3_greatestDifference : GoodIn wsX0_holdAuction wsX3_greatestDifference := goodIn_r _ [63, 43, 44, 64, 5, 6, 7, 65, 39, 41, 40, 42, 45, 34, 35, 36, 37, 38, 46, 18, 47, 48, 21, 49, 50, 51, 52, 53, 54, 121, 122, 123, 124, 125, 129, 130, 126, 127, 128] (by decide +kernel) (by decide +kernel)
set_option maxRecDepth 20000 in
theorem gX0_holdAuction_X3_greatestDifference_n74 : GoodIn wsX0_holdAuction (wsX3_greatestDifference) := ggX0_holdAuction_X3_greatestDifference
set_option maxRecDepth 20000 in
theorem ggX0_holdAuction_X0_auctionPhase : GoodIn wsX0_holdAuction wsX0_auctionPhase := goodIn_r _ [69, 1, 2, 70, 56, 71, 72, 73, 74, 75, 76, 77, 11, 78, 79, 80, 81, 82, 83, 3, 84, 85, 86, 87, 16, 88, 89, 90, 91, 92, 93, 94, 40, 95, 96, 43, 97, 98, 99, 100, 44, 101, 102, 103, 104, 27, 18, 28, 29, 21, 26, 65, 39, 41, 42, 45, 34, 35, 36, 37, 38, 46, 47, 48, 49, 50, 51, 52, 53, 6, 54, 105, 106, 107, 59, 108, 109, 110, 117, 118, 119, 120, 131, 132, 133, 134, 135, 136, 137, 138, 139, 140, 121, 122, 123, 124, 125, 129, 130, 126, 127, 128] (by decide +kernel) (by decide +kernel)
set_option maxRecDepth 20000 in
theorem gX0_holdAuction_X0_auctionPhase : GoodIn wsX0_holdAuction (wsV RX0 80 RX0 yX0_auctionPhase wsX0_auctionPhase) := goodIn_app (goodIn_of _ (by decide +kernel)) ggX0_holdAuction_X0_auctionPhase
set_option maxRecDepth 20000 in
theorem ggX0_holdAuction_X4_finish : GoodIn wsX0_holdAuction wsX4_finish := goodIn_r _ [113, 114, 115, 116, 131, 132, 133, 134, 135, 136, 137, 138, 139, 140] (by decide +kernel) (by decide +kernel)
set_option maxRecDepth 20000 in
theorem gX0_holdAuction_X4_finish_n86 : GoodIn wsX0_holdAuction (wsX4_finish) := ggX0_holdAuction_X4_finish
theorem dX0_holdAuction_0 : decode cX0_holdAuction 0 = .ok (.aload_n 0, 1) := by decide +kernel
theorem dX0_holdAuction_1 : decode cX0_holdAuction 1 = .ok (.invokevirtual 66, 3) := by decide +kernel
theorem dX0_holdAuction_4 : decode cX0_holdAuction 4 = .ok (.aload_n 0, 1) := by decide +kernel
theorem dX0_holdAuction_5 : decode cX0_holdAuction 5 = .ok (.getfield 22, 3) := by decide +kernel
theorem dX0_holdAuction_8 : decode cX0_holdAuction 8 = .ok (.invokevirtual 69, 3) := by decide +kernel
theorem dX0_holdAuction_11 : decode cX0_holdAuction 11 = .ok (.iconst 1, 1) := by decide +kernel
theorem dX0_holdAuction_12 : decode cX0_holdAuction 12 = .ok (.aload_n 0, 1) := by decide +kernel
theorem dX0_holdAuction_13 : decode cX0_holdAuction 13 = .ok (.getfield 12, 3) := by decide +kernel
theorem dX0_holdAuction_16 : decode cX0_holdAuction 16 = .ok (.invokevirtual 74, 3) := by decide +kernel
theorem dX0_holdAuction_19 : decode cX0_holdAuction 19 = .ok (.aload_n 0, 1) := by decide +kernel
theorem dX0_holdAuction_20 : decode cX0_holdAuction 20 = .ok (.getfield 43, 3) := by decide +kernel
theorem dX0_holdAuction_23 : decode cX0_holdAuction 23 = .ok (.iconst 1, 1) := by decide +kernel
theorem dX0_holdAuction_24 : decode cX0_holdAuction 24 = .ok (.iadd, 1) := by decide +kernel
theorem dX0_holdAuction_25 : decode cX0_holdAuction 25 = .ok (.imul, 1) := by decide +kernel
theorem dX0_holdAuction_26 : decode cX0_holdAuction 26 = .ok (.iconst 4, 1) := by decide +kernel
theorem dX0_holdAuction_27 : decode cX0_holdAuction 27 = .ok (.idiv, 1) := by decide +kernel
theorem dX0_holdAuction_28 : decode cX0_holdAuction 28 = .ok (.invokestatic 77, 3) := by decide +kernel
theorem dX0_holdAuction_31 : decode cX0_holdAuction 31 = .ok (.istore_n 1, 1) := by decide +kernel
theorem dX0_holdAuction_32 : decode cX0_holdAuction 32 = .ok (.aload_n 0, 1) := by decide +kernel
theorem dX0_holdAuction_33 : decode cX0_holdAuction 33 = .ok (.iload_n 1, 1) := by decide +kernel
theorem dX0_holdAuction_34 : decode cX0_holdAuction 34 = .ok (.invokevirtual 80, 3) := by decide +kernel
theorem dX0_holdAuction_37 : decode cX0_holdAuction 37 = .ok (.istore_n 2, 1) := by decide +kernel
theorem dX0_holdAuction_38 : decode cX0_holdAuction 38 = .ok (.iconst 1, 1) := by decide +kernel
theorem dX0_holdAuction_39 : decode cX0_holdAuction 39 = .ok (.istore_n 3, 1) := by decide +kernel
theorem dX0_holdAuction_40 : decode cX0_holdAuction 40 = .ok (.iload_n 3, 1) := by decide +kernel
theorem dX0_holdAuction_41 : decode cX0_holdAuction 41 = .ok (.bipush 16, 2) := by decide +kernel
theorem dX0_holdAuction_43 : decode cX0_holdAuction 43 = .ok (.if_icmp .ge 40, 3) := by decide +kernel
theorem dX0_holdAuction_46 : decode cX0_holdAuction 46 = .ok (.iload_n 1, 1) := by decide +kernel
theorem dX0_holdAuction_47 : decode cX0_holdAuction 47 = .ok (.iconst 1, 1) := by decide +kernel
theorem dX0_holdAuction_48 : decode cX0_holdAuction 48 = .ok (.if_icmp .le 35, 3) := by decide +kernel
theorem dX0_holdAuction_51 : decode cX0_holdAuction 51 = .ok (.iconst 1, 1) := by decide +kernel
theorem dX0_holdAuction_52 : decode cX0_holdAuction 52 = .ok (.iload_n 1, 1) := by decide +kernel
theorem dX0_holdAuction_53 : decode cX0_holdAuction 53 = .ok (.iconst 2, 1) := by decide +kernel
theorem dX0_holdAuction_54 : decode cX0_holdAuction 54 = .ok (.aload_n 0, 1) := by decide +kernel
theorem dX0_holdAuction_55 : decode cX0_holdAuction 55 = .ok (.getfield 12, 3) := by decide +kernel
theorem dX0_holdAuction_58 : decode cX0_holdAuction 58 = .ok (.getfield 83, 3) := by decide +kernel
theorem dX0_holdAuction_61 : decode cX0_holdAuction 61 = .ok (.invokestatic 77, 3) := by decide +kernel
theorem dX0_holdAuction_64 : decode cX0_holdAuction 64 = .ok (.idiv, 1) := by decide +kernel
theorem dX0_holdAuction_65 : decode cX0_holdAuction 65 = .ok (.invokestatic 77, 3) := by decide +kernel
theorem dX0_holdAuction_68 : decode cX0_holdAuction 68 = .ok (.istore_n 1, 1) := by decide +kernel
theorem dX0_holdAuction_69 : decode cX0_holdAuction 69 = .ok (.iload_n 2, 1) := by decide +kernel
theorem dX0_holdAuction_70 : decode cX0_holdAuction 70 = .ok (.aload_n 0, 1) := by decide +kernel
theorem dX0_holdAuction_71 : decode cX0_holdAuction 71 = .ok (.iload_n 1, 1) := by decide +kernel
theorem dX0_holdAuction_72 : decode cX0_holdAuction 72 = .ok (.invokevirtual 80, 3) := by decide +kernel
theorem dX0_holdAuction_75 : decode cX0_holdAuction 75 = .ok (.iadd, 1) := by decide +kernel
theorem dX0_holdAuction_76 : decode cX0_holdAuction 76 = .ok (.istore_n 2, 1) := by decide +kernel
theorem dX0_holdAuction_77 : decode cX0_holdAuction 77 = .ok (.iinc 3 1, 3) := by decide +kernel
theorem dX0_holdAuction_80 : decode cX0_holdAuction 80 = .ok (.goto (-40), 3) := by decide +kernel
theorem dX0_holdAuction_83 : decode cX0_holdAuction 83 = .ok (.aload_n 0, 1) := by decide +kernel
theorem dX0_holdAuction_84 : decode cX0_holdAuction 84 = .ok (.getfield 22, 3) := by decide +kernel
theorem dX0_holdAuction_87 : decode cX0_holdAuction 87 = .ok (.iload_n 2, 1) := by decide +kernel
theorem dX0_holdAuction_88 : decode cX0_holdAuction 88 = .ok (.invokevirtual 86, 3) := by decide +kernel
theorem dX0_holdAuction_91 : decode cX0_holdAuction 91 = .ok (.iload_n 2, 1) := by decide +kernel
theorem dX0_holdAuction_92 : decode cX0_holdAuction 92 = .ok (.ireturn, 1) := by decide +kernel
set_option maxRecDepth 20000 in
theorem ggX0_auctionPhase_X4_freeAll : GoodIn wsX0_auctionPhase wsX4_freeAll := goodIn_r _ [6, 7, 8, 82, 83, 84, 85, 86, 87, 88, 89, 90, 91] (by decide +kernel) (by decide +kernel)
set_option maxRecDepth 20000 in
theorem gX0_auctionPhase_X4_freeAll_n90 : GoodIn wsX0_auctionPhase (wsX4_freeAll) := ggX0_auctionPhase_X4_freeAll
set_option maxRecDepth 20000 in
theorem ggX0_auctionPhase_X0_bidTillNoneIsFree : GoodIn wsX0_auctionPhase wsX0_bidTillNoneIsFree := goodIn_r _ [13, 14, 15, 16, 17, 12, 18, 1, 19, 20, 21, 22, 23, 24, 25, 4, 26, 27, 28, 29, 7, 8, 30, 78, 79, 80, 81, 82, 83, 84, 85, 86, 87, 88, 89, 90, 91] (by decide +kernel) (by decide +kernel)
set_option maxRecDepth 20000 in
theorem gX0_auctionPhase_X0_bidTillNoneIsFree : GoodIn wsX0_auctionPhase (wsV RX0 93 RX0 yX0_bidTillNoneIsFree wsX0_bidTillNoneIsFree) := goodIn_app (goodIn_of _ (by decide +kernel)) ggX0_auctionPhase_X0_bidTillNoneIsFree
set_option maxRecDepth 20000 in
theorem ggX0_auctionPhase_X3_sumOfDifferences : GoodIn wsX0_auctionPhase wsX3_sumOfDifferences := goodIn_r _ [34, 35, 36, 37, 38, 32, 39, 40, 41, 42, 4, 43, 44, 8, 30, 25, 26, 45, 46, 47, 48, 49, 50, 51, 52, 53, 54, 55, 56, 57, 58, 59, 60, 61, 62, 63, 64, 65, 66, 67, 68, 69, 70, 92, 93, 94, 95, 96, 97, 98, 82, 83, 84, 85, 86, 87, 88, 89, 90, 91, 99, 100, 101] (by decide +kernel) (by decide +kernel)
set_option maxRecDepth 20000 in
theorem gX0_auctionPhase_X3_sumOfDifferences_n96 : GoodIn wsX0_auctionPhase (wsX3_sumOfDifferences) := ggX0_auctionPhase_X3_sumOfDifferences
set_option maxRecDepth 20000 in
theorem ggX0_auctionPhase_X4_notePhase : GoodIn wsX0_auctionPhase wsX4_notePhase := goodIn_r _ [73, 74, 75, 76, 77, 82, 83, 84, 85, 86, 87, 88, 89, 90, 91] (by decide +kernel) (by decide +kernel)
set_option maxRecDepth 20000 in
theorem gX0_auctionPhase_X4_notePhase_n99 : GoodIn wsX0_auctionPhase (wsX4_notePhase) := ggX0_auctionPhase_X4_notePhase
theorem dX0_auctionPhase_0 : decode cX0_auctionPhase 0 = .ok (.aload_n 0, 1) := by decide +kernel
theorem dX0_auctionPhase_1 : decode cX0_auctionPhase 1 = .ok (.getfield 22, 3) := by decide +kernel
theorem dX0_auctionPhase_4 : decode cX0_auctionPhase 4 = .ok (.invokevirtual 90, 3) := by decide +kernel
theorem dX0_auctionPhase_7 : decode cX0_auctionPhase 7 = .ok (.aload_n 0, 1) := by decide +kernel
theorem dX0_auctionPhase_8 : decode cX0_auctionPhase 8 = .ok (.iload_n 1, 1) := by decide +kernel
theorem dX0_auctionPhase_9 : decode cX0_auctionPhase 9 = .ok (.invokevirtual 93, 3) := by decide +kernel
theorem dX0_auctionPhase_12 : decode cX0_auctionPhase 12 = .ok (.istore_n 2, 1) := by decide +kernel
theorem dX0_auctionPhase_13 : decode cX0_auctionPhase 13 = .ok (.aload_n 0, 1) := by decide +kernel
theorem dX0_auctionPhase_14 : decode cX0_auctionPhase 14 = .ok (.getfield 22, 3) := by decide +kernel
theorem dX0_auctionPhase_17 : decode cX0_auctionPhase 17 = .ok (.iload_n 1, 1) := by decide +kernel
theorem dX0_auctionPhase_18 : decode cX0_auctionPhase 18 = .ok (.iload_n 2, 1) := by decide +kernel
theorem dX0_auctionPhase_19 : decode cX0_auctionPhase 19 = .ok (.aload_n 0, 1) := by decide +kernel
theorem dX0_auctionPhase_20 : decode cX0_auctionPhase 20 = .ok (.getfield 12, 3) := by decide +kernel
theorem dX0_auctionPhase_23 : decode cX0_auctionPhase 23 = .ok (.invokevirtual 96, 3) := by decide +kernel
theorem dX0_auctionPhase_26 : decode cX0_auctionPhase 26 = .ok (.invokevirtual 99, 3) := by decide +kernel
theorem dX0_auctionPhase_29 : decode cX0_auctionPhase 29 = .ok (.iload_n 2, 1) := by decide +kernel
theorem dX0_auctionPhase_30 : decode cX0_auctionPhase 30 = .ok (.ireturn, 1) := by decide +kernel
set_option maxRecDepth 20000 in
theorem ggX0_mend_X0_readWorths : GoodIn wsX0_mend wsX0_readWorths := goodIn_r _ [7, 8, 9, 10, 11, 12, 1, 13, 14, 15, 16, 17, 18, 19, 20, 21, 22, 23, 24, 25, 26, 27, 28, 29, 6, 30, 31, 32, 33, 34, 35, 36, 37, 38, 39, 40, 41, 42, 43, 44, 45, 46, 47, 48, 49, 50, 51, 101, 102, 103, 104, 105, 106, 107, 108, 109, 110, 111, 112, 113, 114] (by decide +kernel) (by decide +kernel)
set_option maxRecDepth 20000 in
theorem gX0_mend_X0_readWorths : GoodIn wsX0_mend (wsV RX0 66 RX0 yX0_readWorths wsX0_readWorths) := goodIn_app (goodIn_of _ (by decide +kernel)) ggX0_mend_X0_readWorths
set_option maxRecDepth 20000 in
theorem ggX0_mend_X0_ownGain : GoodIn wsX0_mend wsX0_ownGain := goodIn_r _ [55, 2, 56, 57, 58, 59, 60, 61, 62, 63, 64, 65, 66, 6, 67, 13, 101, 102, 103, 104, 115, 116, 117, 118, 119, 120, 121, 122, 123, 124] (by decide +kernel) (by decide +kernel)
set_option maxRecDepth 20000 in
theorem gX0_mend_X0_ownGain : GoodIn wsX0_mend (wsV RX0 103 RX0 yX0_ownGain wsX0_ownGain) := goodIn_app (goodIn_of _ (by decide +kernel)) ggX0_mend_X0_ownGain
set_option maxRecDepth 20000 in
theorem ggX0_mend_X0_greatestGain : GoodIn wsX0_mend wsX0_greatestGain := goodIn_r _ [71, 1, 72, 73, 11, 74, 64, 65, 66, 6, 67, 13, 2, 62, 57, 63, 101, 102, 103, 104, 115, 116, 117, 118, 119, 120, 121, 122, 123, 124] (by decide +kernel) (by decide +kernel)
set_option maxRecDepth 20000 in
theorem gX0_mend_X0_greatestGain : GoodIn wsX0_mend (wsV RX0 106 RX0 yX0_greatestGain wsX0_greatestGain) := goodIn_app (goodIn_of _ (by decide +kernel)) ggX0_mend_X0_greatestGain
set_option maxRecDepth 20000 in
theorem ggX0_mend_X4_setFree : GoodIn wsX0_mend wsX4_setFree := goodIn_r _ [77, 60, 78, 61, 62, 57, 63, 115, 116, 117, 118, 119, 120, 121, 122, 123, 124] (by decide +kernel) (by decide +kernel)
set_option maxRecDepth 20000 in
theorem gX0_mend_X4_setFree_n109 : GoodIn wsX0_mend (wsX4_setFree) := ggX0_mend_X4_setFree
set_option maxRecDepth 20000 in
theorem ggX0_mend_X0_bidTillNoneIsFree : GoodIn wsX0_mend wsX0_bidTillNoneIsFree := goodIn_r _ [82, 83, 84, 85, 86, 6, 87, 2, 1, 88, 89, 90, 91, 13, 62, 57, 63, 92, 93, 94, 78, 60, 61, 101, 102, 103, 104, 115, 116, 117, 118, 119, 120, 121, 122, 123, 124] (by decide +kernel) (by decide +kernel)
set_option maxRecDepth 20000 in
theorem gX0_mend_X0_bidTillNoneIsFree : GoodIn wsX0_mend (wsV RX0 93 RX0 yX0_bidTillNoneIsFree wsX0_bidTillNoneIsFree) := goodIn_app (goodIn_of _ (by decide +kernel)) ggX0_mend_X0_bidTillNoneIsFree
set_option maxRecDepth 20000 in
theorem ggX0_mend_X4_finish : GoodIn wsX0_mend wsX4_finish := goodIn_r _ [97, 98, 99, 100, 115, 116, 117, 118, 119, 120, 121, 122, 123, 124] (by decide +kernel) (by decide +kernel)
set_option maxRecDepth 20000 in
theorem gX0_mend_X4_finish_n86 : GoodIn wsX0_mend (wsX4_finish) := ggX0_mend_X4_finish
theorem dX0_mend_0 : decode cX0_mend 0 = .ok (.aload_n 0, 1) := by decide +kernel
theorem dX0_mend_1 : decode cX0_mend 1 = .ok (.invokevirtual 66, 3) := by decide +kernel
theorem dX0_mend_4 : decode cX0_mend 4 = .ok (.iconst 0, 1) := by decide +kernel
theorem dX0_mend_5 : decode cX0_mend 5 = .ok (.istore_n 1, 1) := by decide +kernel
theorem dX0_mend_6 : decode cX0_mend 6 = .ok (.iload_n 1, 1) := by decide +kernel
theorem dX0_mend_7 : decode cX0_mend 7 = .ok (.aload_n 0, 1) := by decide +kernel
theorem dX0_mend_8 : decode cX0_mend 8 = .ok (.getfield 43, 3) := by decide +kernel
theorem dX0_mend_11 : decode cX0_mend 11 = .ok (.if_icmp .ge 32, 3) := by decide +kernel
theorem dX0_mend_14 : decode cX0_mend 14 = .ok (.aload_n 0, 1) := by decide +kernel
theorem dX0_mend_15 : decode cX0_mend 15 = .ok (.iload_n 1, 1) := by decide +kernel
theorem dX0_mend_16 : decode cX0_mend 16 = .ok (.invokevirtual 103, 3) := by decide +kernel
theorem dX0_mend_19 : decode cX0_mend 19 = .ok (.aload_n 0, 1) := by decide +kernel
theorem dX0_mend_20 : decode cX0_mend 20 = .ok (.iload_n 1, 1) := by decide +kernel
theorem dX0_mend_21 : decode cX0_mend 21 = .ok (.invokevirtual 106, 3) := by decide +kernel
theorem dX0_mend_24 : decode cX0_mend 24 = .ok (.iconst 1, 1) := by decide +kernel
theorem dX0_mend_25 : decode cX0_mend 25 = .ok (.isub, 1) := by decide +kernel
theorem dX0_mend_26 : decode cX0_mend 26 = .ok (.if_icmp .ge 11, 3) := by decide +kernel
theorem dX0_mend_29 : decode cX0_mend 29 = .ok (.aload_n 0, 1) := by decide +kernel
theorem dX0_mend_30 : decode cX0_mend 30 = .ok (.getfield 22, 3) := by decide +kernel
theorem dX0_mend_33 : decode cX0_mend 33 = .ok (.iload_n 1, 1) := by decide +kernel
theorem dX0_mend_34 : decode cX0_mend 34 = .ok (.invokevirtual 109, 3) := by decide +kernel
theorem dX0_mend_37 : decode cX0_mend 37 = .ok (.iinc 1 1, 3) := by decide +kernel
theorem dX0_mend_40 : decode cX0_mend 40 = .ok (.goto (-34), 3) := by decide +kernel
theorem dX0_mend_43 : decode cX0_mend 43 = .ok (.aload_n 0, 1) := by decide +kernel
theorem dX0_mend_44 : decode cX0_mend 44 = .ok (.iconst 1, 1) := by decide +kernel
theorem dX0_mend_45 : decode cX0_mend 45 = .ok (.invokevirtual 93, 3) := by decide +kernel
theorem dX0_mend_48 : decode cX0_mend 48 = .ok (.istore_n 1, 1) := by decide +kernel
theorem dX0_mend_49 : decode cX0_mend 49 = .ok (.aload_n 0, 1) := by decide +kernel
theorem dX0_mend_50 : decode cX0_mend 50 = .ok (.getfield 22, 3) := by decide +kernel
theorem dX0_mend_53 : decode cX0_mend 53 = .ok (.iload_n 1, 1) := by decide +kernel
theorem dX0_mend_54 : decode cX0_mend 54 = .ok (.invokevirtual 86, 3) := by decide +kernel
theorem dX0_mend_57 : decode cX0_mend 57 = .ok (.iload_n 1, 1) := by decide +kernel
theorem dX0_mend_58 : decode cX0_mend 58 = .ok (.ireturn, 1) := by decide +kernel
set_option maxRecDepth 20000 in
theorem ggX0_bidTillNoneIsFree_X0_leastFree : GoodIn wsX0_bidTillNoneIsFree wsX0_leastFree := goodIn_r _ [6, 7, 8, 23, 24, 25, 26, 27, 28, 29, 30, 31, 32, 33, 34, 35, 36] (by decide +kernel) (by decide +kernel)
set_option maxRecDepth 20000 in
theorem gX0_bidTillNoneIsFree_X0_leastFree : GoodIn wsX0_bidTillNoneIsFree (wsV RX0 113 RX0 yX0_leastFree wsX0_leastFree) := goodIn_app (goodIn_of _ (by decide +kernel)) ggX0_bidTillNoneIsFree_X0_leastFree
set_option maxRecDepth 20000 in
theorem ggX0_bidTillNoneIsFree_X0_makeBid : GoodIn wsX0_bidTillNoneIsFree wsX0_makeBid := goodIn_r _ [12, 8, 7, 13, 14, 15, 16, 17, 18, 19, 20, 21, 22, 23, 24, 25, 26, 27, 28, 29, 30, 31, 32, 33, 34, 35, 36] (by decide +kernel) (by decide +kernel)
set_option maxRecDepth 20000 in
theorem gX0_bidTillNoneIsFree_X0_makeBid : GoodIn wsX0_bidTillNoneIsFree (wsV RX0 116 RX0 yX0_makeBid wsX0_makeBid) := goodIn_app (goodIn_of _ (by decide +kernel)) ggX0_bidTillNoneIsFree_X0_makeBid
theorem dX0_bidTillNoneIsFree_0 : decode cX0_bidTillNoneIsFree 0 = .ok (.iconst 0, 1) := by decide +kernel
theorem dX0_bidTillNoneIsFree_1 : decode cX0_bidTillNoneIsFree 1 = .ok (.istore_n 2, 1) := by decide +kernel
theorem dX0_bidTillNoneIsFree_2 : decode cX0_bidTillNoneIsFree 2 = .ok (.iload_n 2, 1) := by decide +kernel
theorem dX0_bidTillNoneIsFree_3 : decode cX0_bidTillNoneIsFree 3 = .ok (.ldc 112, 2) := by decide +kernel
theorem dX0_bidTillNoneIsFree_5 : decode cX0_bidTillNoneIsFree 5 = .ok (.if_icmp .ge 28, 3) := by decide +kernel
theorem dX0_bidTillNoneIsFree_8 : decode cX0_bidTillNoneIsFree 8 = .ok (.aload_n 0, 1) := by decide +kernel
theorem dX0_bidTillNoneIsFree_9 : decode cX0_bidTillNoneIsFree 9 = .ok (.invokevirtual 113, 3) := by decide +kernel
theorem dX0_bidTillNoneIsFree_12 : decode cX0_bidTillNoneIsFree 12 = .ok (.istore_n 3, 1) := by decide +kernel
theorem dX0_bidTillNoneIsFree_13 : decode cX0_bidTillNoneIsFree 13 = .ok (.iload_n 3, 1) := by decide +kernel
theorem dX0_bidTillNoneIsFree_14 : decode cX0_bidTillNoneIsFree 14 = .ok (.bipush (-6), 2) := by decide +kernel
theorem dX0_bidTillNoneIsFree_16 : decode cX0_bidTillNoneIsFree 16 = .ok (.if_icmp .ne 5, 3) := by decide +kernel
theorem dX0_bidTillNoneIsFree_19 : decode cX0_bidTillNoneIsFree 19 = .ok (.iload_n 2, 1) := by decide +kernel
theorem dX0_bidTillNoneIsFree_20 : decode cX0_bidTillNoneIsFree 20 = .ok (.ireturn, 1) := by decide +kernel
theorem dX0_bidTillNoneIsFree_21 : decode cX0_bidTillNoneIsFree 21 = .ok (.aload_n 0, 1) := by decide +kernel
theorem dX0_bidTillNoneIsFree_22 : decode cX0_bidTillNoneIsFree 22 = .ok (.iload_n 3, 1) := by decide +kernel
theorem dX0_bidTillNoneIsFree_23 : decode cX0_bidTillNoneIsFree 23 = .ok (.iload_n 1, 1) := by decide +kernel
theorem dX0_bidTillNoneIsFree_24 : decode cX0_bidTillNoneIsFree 24 = .ok (.invokevirtual 116, 3) := by decide +kernel
theorem dX0_bidTillNoneIsFree_27 : decode cX0_bidTillNoneIsFree 27 = .ok (.iinc 2 1, 3) := by decide +kernel
theorem dX0_bidTillNoneIsFree_30 : decode cX0_bidTillNoneIsFree 30 = .ok (.goto (-28), 3) := by decide +kernel
theorem dX0_bidTillNoneIsFree_33 : decode cX0_bidTillNoneIsFree 33 = .ok (.ldc 112, 2) := by decide +kernel
theorem dX0_bidTillNoneIsFree_35 : decode cX0_bidTillNoneIsFree 35 = .ok (.ireturn, 1) := by decide +kernel
theorem dX0_leastFree_0 : decode cX0_leastFree 0 = .ok (.aload_n 0, 1) := by decide +kernel
theorem dX0_leastFree_1 : decode cX0_leastFree 1 = .ok (.getfield 22, 3) := by decide +kernel
theorem dX0_leastFree_4 : decode cX0_leastFree 4 = .ok (.getfield 120, 3) := by decide +kernel
theorem dX0_leastFree_7 : decode cX0_leastFree 7 = .ok (.astore_n 1, 1) := by decide +kernel
theorem dX0_leastFree_8 : decode cX0_leastFree 8 = .ok (.iconst 0, 1) := by decide +kernel
theorem dX0_leastFree_9 : decode cX0_leastFree 9 = .ok (.istore_n 2, 1) := by decide +kernel
theorem dX0_leastFree_10 : decode cX0_leastFree 10 = .ok (.iload_n 2, 1) := by decide +kernel
theorem dX0_leastFree_11 : decode cX0_leastFree 11 = .ok (.aload_n 0, 1) := by decide +kernel
theorem dX0_leastFree_12 : decode cX0_leastFree 12 = .ok (.getfield 43, 3) := by decide +kernel
theorem dX0_leastFree_15 : decode cX0_leastFree 15 = .ok (.if_icmp .ge 25, 3) := by decide +kernel
theorem dX0_leastFree_18 : decode cX0_leastFree 18 = .ok (.iload_n 2, 1) := by decide +kernel
theorem dX0_leastFree_19 : decode cX0_leastFree 19 = .ok (.aload_n 1, 1) := by decide +kernel
theorem dX0_leastFree_20 : decode cX0_leastFree 20 = .ok (.arraylength, 1) := by decide +kernel
theorem dX0_leastFree_21 : decode cX0_leastFree 21 = .ok (.if_icmp .ge 19, 3) := by decide +kernel
theorem dX0_leastFree_24 : decode cX0_leastFree 24 = .ok (.aload_n 1, 1) := by decide +kernel
theorem dX0_leastFree_25 : decode cX0_leastFree 25 = .ok (.iload_n 2, 1) := by decide +kernel
theorem dX0_leastFree_26 : decode cX0_leastFree 26 = .ok (.iaload, 1) := by decide +kernel
theorem dX0_leastFree_27 : decode cX0_leastFree 27 = .ok (.bipush (-6), 2) := by decide +kernel
theorem dX0_leastFree_29 : decode cX0_leastFree 29 = .ok (.if_icmp .ne 5, 3) := by decide +kernel
theorem dX0_leastFree_32 : decode cX0_leastFree 32 = .ok (.iload_n 2, 1) := by decide +kernel
theorem dX0_leastFree_33 : decode cX0_leastFree 33 = .ok (.ireturn, 1) := by decide +kernel
theorem dX0_leastFree_34 : decode cX0_leastFree 34 = .ok (.iinc 2 1, 3) := by decide +kernel
theorem dX0_leastFree_37 : decode cX0_leastFree 37 = .ok (.goto (-27), 3) := by decide +kernel
theorem dX0_leastFree_40 : decode cX0_leastFree 40 = .ok (.bipush (-6), 2) := by decide +kernel
theorem dX0_leastFree_42 : decode cX0_leastFree 42 = .ok (.ireturn, 1) := by decide +kernel
set_option maxRecDepth 20000 in
theorem ggX0_makeBid_X4_isInRow : GoodIn wsX0_makeBid wsX4_isInRow := goodIn_r _ [6] (by decide +kernel) (by decide +kernel)
set_option maxRecDepth 20000 in
theorem gX0_makeBid_X4_isInRow_n123 : GoodIn wsX0_makeBid (wsX4_isInRow) := ggX0_makeBid_X4_isInRow
set_option maxRecDepth 20000 in
theorem ggX0_makeBid_X4_give : GoodIn wsX0_makeBid wsX4_give := goodIn_r _ [9, 10, 11, 12, 4, 5, 6, 17, 18, 19, 20, 21, 22, 23, 24, 25, 26] (by decide +kernel) (by decide +kernel)
set_option maxRecDepth 20000 in
theorem gX0_makeBid_X4_give_n129 : GoodIn wsX0_makeBid (wsX4_give) := ggX0_makeBid_X4_give
theorem dX0_makeBid_0 : decode cX0_makeBid 0 = .ok (.iload_n 1, 1) := by decide +kernel
theorem dX0_makeBid_1 : decode cX0_makeBid 1 = .ok (.invokestatic 123, 3) := by decide +kernel
theorem dX0_makeBid_4 : decode cX0_makeBid 4 = .ok (.ifCond .eq 12, 3) := by decide +kernel
theorem dX0_makeBid_7 : decode cX0_makeBid 7 = .ok (.aload_n 0, 1) := by decide +kernel
theorem dX0_makeBid_8 : decode cX0_makeBid 8 = .ok (.getfield 43, 3) := by decide +kernel
theorem dX0_makeBid_11 : decode cX0_makeBid 11 = .ok (.bipush 16, 2) := by decide +kernel
theorem dX0_makeBid_13 : decode cX0_makeBid 13 = .ok (.if_icmp .le 4, 3) := by decide +kernel
theorem dX0_makeBid_16 : decode cX0_makeBid 16 = .ok (.return_, 1) := by decide +kernel
theorem dX0_makeBid_17 : decode cX0_makeBid 17 = .ok (.aload_n 0, 1) := by decide +kernel
theorem dX0_makeBid_18 : decode cX0_makeBid 18 = .ok (.getfield 22, 3) := by decide +kernel
theorem dX0_makeBid_21 : decode cX0_makeBid 21 = .ok (.getfield 126, 3) := by decide +kernel
theorem dX0_makeBid_24 : decode cX0_makeBid 24 = .ok (.astore_n 3, 1) := by decide +kernel
theorem dX0_makeBid_25 : decode cX0_makeBid 25 = .ok (.iload_n 1, 1) := by decide +kernel
theorem dX0_makeBid_26 : decode cX0_makeBid 26 = .ok (.bipush 16, 2) := by decide +kernel
theorem dX0_makeBid_28 : decode cX0_makeBid 28 = .ok (.imul, 1) := by decide +kernel
theorem dX0_makeBid_29 : decode cX0_makeBid 29 = .ok (.istore 4, 2) := by decide +kernel
theorem dX0_makeBid_31 : decode cX0_makeBid 31 = .ok (.iconst 0, 1) := by decide +kernel
theorem dX0_makeBid_32 : decode cX0_makeBid 32 = .ok (.istore 5, 2) := by decide +kernel
theorem dX0_makeBid_34 : decode cX0_makeBid 34 = .ok (.aload_n 0, 1) := by decide +kernel
theorem dX0_makeBid_35 : decode cX0_makeBid 35 = .ok (.getfield 23, 3) := by decide +kernel
theorem dX0_makeBid_38 : decode cX0_makeBid 38 = .ok (.iload 4, 2) := by decide +kernel
theorem dX0_makeBid_40 : decode cX0_makeBid 40 = .ok (.iaload, 1) := by decide +kernel
theorem dX0_makeBid_41 : decode cX0_makeBid 41 = .ok (.aload_n 3, 1) := by decide +kernel
theorem dX0_makeBid_42 : decode cX0_makeBid 42 = .ok (.iconst 0, 1) := by decide +kernel
theorem dX0_makeBid_43 : decode cX0_makeBid 43 = .ok (.iaload, 1) := by decide +kernel
theorem dX0_makeBid_44 : decode cX0_makeBid 44 = .ok (.isub, 1) := by decide +kernel
theorem dX0_makeBid_45 : decode cX0_makeBid 45 = .ok (.istore 6, 2) := by decide +kernel
theorem dX0_makeBid_47 : decode cX0_makeBid 47 = .ok (.iload 6, 2) := by decide +kernel
theorem dX0_makeBid_49 : decode cX0_makeBid 49 = .ok (.istore 7, 2) := by decide +kernel
theorem dX0_makeBid_51 : decode cX0_makeBid 51 = .ok (.iconst 1, 1) := by decide +kernel
theorem dX0_makeBid_52 : decode cX0_makeBid 52 = .ok (.istore 8, 2) := by decide +kernel
theorem dX0_makeBid_54 : decode cX0_makeBid 54 = .ok (.iload 8, 2) := by decide +kernel
theorem dX0_makeBid_56 : decode cX0_makeBid 56 = .ok (.aload_n 0, 1) := by decide +kernel
theorem dX0_makeBid_57 : decode cX0_makeBid 57 = .ok (.getfield 43, 3) := by decide +kernel
theorem dX0_makeBid_60 : decode cX0_makeBid 60 = .ok (.if_icmp .ge 65, 3) := by decide +kernel
theorem dX0_makeBid_63 : decode cX0_makeBid 63 = .ok (.aload_n 0, 1) := by decide +kernel
theorem dX0_makeBid_64 : decode cX0_makeBid 64 = .ok (.getfield 23, 3) := by decide +kernel
theorem dX0_makeBid_67 : decode cX0_makeBid 67 = .ok (.iload 4, 2) := by decide +kernel
theorem dX0_makeBid_69 : decode cX0_makeBid 69 = .ok (.iload 8, 2) := by decide +kernel
theorem dX0_makeBid_71 : decode cX0_makeBid 71 = .ok (.iadd, 1) := by decide +kernel
theorem dX0_makeBid_72 : decode cX0_makeBid 72 = .ok (.iaload, 1) := by decide +kernel
theorem dX0_makeBid_73 : decode cX0_makeBid 73 = .ok (.aload_n 3, 1) := by decide +kernel
theorem dX0_makeBid_74 : decode cX0_makeBid 74 = .ok (.iload 8, 2) := by decide +kernel
theorem dX0_makeBid_76 : decode cX0_makeBid 76 = .ok (.iaload, 1) := by decide +kernel
theorem dX0_makeBid_77 : decode cX0_makeBid 77 = .ok (.isub, 1) := by decide +kernel
theorem dX0_makeBid_78 : decode cX0_makeBid 78 = .ok (.istore 9, 2) := by decide +kernel
theorem dX0_makeBid_80 : decode cX0_makeBid 80 = .ok (.iload 9, 2) := by decide +kernel
theorem dX0_makeBid_82 : decode cX0_makeBid 82 = .ok (.iload 6, 2) := by decide +kernel
theorem dX0_makeBid_84 : decode cX0_makeBid 84 = .ok (.if_icmp .le 18, 3) := by decide +kernel
theorem dX0_makeBid_87 : decode cX0_makeBid 87 = .ok (.iload 6, 2) := by decide +kernel
theorem dX0_makeBid_89 : decode cX0_makeBid 89 = .ok (.istore 7, 2) := by decide +kernel
theorem dX0_makeBid_91 : decode cX0_makeBid 91 = .ok (.iload 9, 2) := by decide +kernel
theorem dX0_makeBid_93 : decode cX0_makeBid 93 = .ok (.istore 6, 2) := by decide +kernel
theorem dX0_makeBid_95 : decode cX0_makeBid 95 = .ok (.iload 8, 2) := by decide +kernel
theorem dX0_makeBid_97 : decode cX0_makeBid 97 = .ok (.istore 5, 2) := by decide +kernel
theorem dX0_makeBid_99 : decode cX0_makeBid 99 = .ok (.goto 20, 3) := by decide +kernel
theorem dX0_makeBid_102 : decode cX0_makeBid 102 = .ok (.iload 8, 2) := by decide +kernel
theorem dX0_makeBid_104 : decode cX0_makeBid 104 = .ok (.iconst 1, 1) := by decide +kernel
theorem dX0_makeBid_105 : decode cX0_makeBid 105 = .ok (.if_icmp .eq 10, 3) := by decide +kernel
theorem dX0_makeBid_108 : decode cX0_makeBid 108 = .ok (.iload 9, 2) := by decide +kernel
theorem dX0_makeBid_110 : decode cX0_makeBid 110 = .ok (.iload 7, 2) := by decide +kernel
theorem dX0_makeBid_112 : decode cX0_makeBid 112 = .ok (.if_icmp .le 7, 3) := by decide +kernel
theorem dX0_makeBid_115 : decode cX0_makeBid 115 = .ok (.iload 9, 2) := by decide +kernel
theorem dX0_makeBid_117 : decode cX0_makeBid 117 = .ok (.istore 7, 2) := by decide +kernel
theorem dX0_makeBid_119 : decode cX0_makeBid 119 = .ok (.iinc 8 1, 3) := by decide +kernel
theorem dX0_makeBid_122 : decode cX0_makeBid 122 = .ok (.goto (-68), 3) := by decide +kernel
theorem dX0_makeBid_125 : decode cX0_makeBid 125 = .ok (.aload_n 3, 1) := by decide +kernel
theorem dX0_makeBid_126 : decode cX0_makeBid 126 = .ok (.iload 5, 2) := by decide +kernel
theorem dX0_makeBid_128 : decode cX0_makeBid 128 = .ok (.dup2, 1) := by decide +kernel
theorem dX0_makeBid_129 : decode cX0_makeBid 129 = .ok (.iaload, 1) := by decide +kernel
theorem dX0_makeBid_130 : decode cX0_makeBid 130 = .ok (.iload 6, 2) := by decide +kernel
theorem dX0_makeBid_132 : decode cX0_makeBid 132 = .ok (.iload 7, 2) := by decide +kernel
theorem dX0_makeBid_134 : decode cX0_makeBid 134 = .ok (.isub, 1) := by decide +kernel
theorem dX0_makeBid_135 : decode cX0_makeBid 135 = .ok (.iload_n 2, 1) := by decide +kernel
theorem dX0_makeBid_136 : decode cX0_makeBid 136 = .ok (.iadd, 1) := by decide +kernel
theorem dX0_makeBid_137 : decode cX0_makeBid 137 = .ok (.iadd, 1) := by decide +kernel
theorem dX0_makeBid_138 : decode cX0_makeBid 138 = .ok (.iastore, 1) := by decide +kernel
theorem dX0_makeBid_139 : decode cX0_makeBid 139 = .ok (.aload_n 0, 1) := by decide +kernel
theorem dX0_makeBid_140 : decode cX0_makeBid 140 = .ok (.getfield 22, 3) := by decide +kernel
theorem dX0_makeBid_143 : decode cX0_makeBid 143 = .ok (.iload 5, 2) := by decide +kernel
theorem dX0_makeBid_145 : decode cX0_makeBid 145 = .ok (.iload_n 1, 1) := by decide +kernel
theorem dX0_makeBid_146 : decode cX0_makeBid 146 = .ok (.invokevirtual 129, 3) := by decide +kernel
theorem dX0_makeBid_149 : decode cX0_makeBid 149 = .ok (.return_, 1) := by decide +kernel
set_option maxRecDepth 20000 in
theorem ggX0_gainOf_X4_isInRow : GoodIn wsX0_gainOf wsX4_isInRow := goodIn_r _ [5] (by decide +kernel) (by decide +kernel)
set_option maxRecDepth 20000 in
theorem gX0_gainOf_X4_isInRow_n123 : GoodIn wsX0_gainOf (wsX4_isInRow) := ggX0_gainOf_X4_isInRow
theorem dX0_gainOf_0 : decode cX0_gainOf 0 = .ok (.iload_n 1, 1) := by decide +kernel
theorem dX0_gainOf_1 : decode cX0_gainOf 1 = .ok (.invokestatic 123, 3) := by decide +kernel
theorem dX0_gainOf_4 : decode cX0_gainOf 4 = .ok (.ifCond .eq 10, 3) := by decide +kernel
theorem dX0_gainOf_7 : decode cX0_gainOf 7 = .ok (.iload_n 2, 1) := by decide +kernel
theorem dX0_gainOf_8 : decode cX0_gainOf 8 = .ok (.invokestatic 123, 3) := by decide +kernel
theorem dX0_gainOf_11 : decode cX0_gainOf 11 = .ok (.ifCond .ne 5, 3) := by decide +kernel
theorem dX0_gainOf_14 : decode cX0_gainOf 14 = .ok (.iconst 0, 1) := by decide +kernel
theorem dX0_gainOf_15 : decode cX0_gainOf 15 = .ok (.ireturn, 1) := by decide +kernel
theorem dX0_gainOf_16 : decode cX0_gainOf 16 = .ok (.aload_n 0, 1) := by decide +kernel
theorem dX0_gainOf_17 : decode cX0_gainOf 17 = .ok (.getfield 23, 3) := by decide +kernel
theorem dX0_gainOf_20 : decode cX0_gainOf 20 = .ok (.iload_n 1, 1) := by decide +kernel
theorem dX0_gainOf_21 : decode cX0_gainOf 21 = .ok (.bipush 16, 2) := by decide +kernel
theorem dX0_gainOf_23 : decode cX0_gainOf 23 = .ok (.imul, 1) := by decide +kernel
theorem dX0_gainOf_24 : decode cX0_gainOf 24 = .ok (.iload_n 2, 1) := by decide +kernel
theorem dX0_gainOf_25 : decode cX0_gainOf 25 = .ok (.iadd, 1) := by decide +kernel
theorem dX0_gainOf_26 : decode cX0_gainOf 26 = .ok (.iaload, 1) := by decide +kernel
theorem dX0_gainOf_27 : decode cX0_gainOf 27 = .ok (.aload_n 0, 1) := by decide +kernel
theorem dX0_gainOf_28 : decode cX0_gainOf 28 = .ok (.getfield 22, 3) := by decide +kernel
theorem dX0_gainOf_31 : decode cX0_gainOf 31 = .ok (.getfield 126, 3) := by decide +kernel
theorem dX0_gainOf_34 : decode cX0_gainOf 34 = .ok (.iload_n 2, 1) := by decide +kernel
theorem dX0_gainOf_35 : decode cX0_gainOf 35 = .ok (.iaload, 1) := by decide +kernel
theorem dX0_gainOf_36 : decode cX0_gainOf 36 = .ok (.isub, 1) := by decide +kernel
theorem dX0_gainOf_37 : decode cX0_gainOf 37 = .ok (.ireturn, 1) := by decide +kernel
set_option maxRecDepth 20000 in
theorem ggX0_ownGain_X4_slotOf : GoodIn wsX0_ownGain wsX4_slotOf := goodIn_r _ [5, 6, 7, 8, 3, 9, 20, 21, 22, 23, 24, 25, 26, 27, 28, 29] (by decide +kernel) (by decide +kernel)
set_option maxRecDepth 20000 in
theorem gX0_ownGain_X4_slotOf_n132 : GoodIn wsX0_ownGain (wsX4_slotOf) := ggX0_ownGain_X4_slotOf
set_option maxRecDepth 20000 in
theorem ggX0_ownGain_X0_gainOf : GoodIn wsX0_ownGain wsX0_gainOf := goodIn_r _ [14, 15, 1, 8, 3, 9, 16, 17, 18, 19, 20, 21, 22, 23, 24, 25, 26, 27, 28, 29] (by decide +kernel) (by decide +kernel)
set_option maxRecDepth 20000 in
theorem gX0_ownGain_X0_gainOf : GoodIn wsX0_ownGain (wsV RX0 135 RX0 yX0_gainOf wsX0_gainOf) := goodIn_app (goodIn_of _ (by decide +kernel)) ggX0_ownGain_X0_gainOf
theorem dX0_ownGain_0 : decode cX0_ownGain 0 = .ok (.aload_n 0, 1) := by decide +kernel
theorem dX0_ownGain_1 : decode cX0_ownGain 1 = .ok (.iload_n 1, 1) := by decide +kernel
theorem dX0_ownGain_2 : decode cX0_ownGain 2 = .ok (.aload_n 0, 1) := by decide +kernel
theorem dX0_ownGain_3 : decode cX0_ownGain 3 = .ok (.getfield 22, 3) := by decide +kernel
theorem dX0_ownGain_6 : decode cX0_ownGain 6 = .ok (.iload_n 1, 1) := by decide +kernel
theorem dX0_ownGain_7 : decode cX0_ownGain 7 = .ok (.invokevirtual 132, 3) := by decide +kernel
theorem dX0_ownGain_10 : decode cX0_ownGain 10 = .ok (.invokevirtual 135, 3) := by decide +kernel
theorem dX0_ownGain_13 : decode cX0_ownGain 13 = .ok (.ireturn, 1) := by decide +kernel
set_option maxRecDepth 20000 in
theorem ggX0_greatestGain_X0_gainOf : GoodIn wsX0_greatestGain wsX0_gainOf := goodIn_r _ [10, 11, 12, 13, 14, 15, 16, 17, 18, 19, 20, 21, 22, 23, 24, 25, 26, 27, 28, 29] (by decide +kernel) (by decide +kernel)
set_option maxRecDepth 20000 in
theorem gX0_greatestGain_X0_gainOf : GoodIn wsX0_greatestGain (wsV RX0 135 RX0 yX0_gainOf wsX0_gainOf) := goodIn_app (goodIn_of _ (by decide +kernel)) ggX0_greatestGain_X0_gainOf
theorem dX0_greatestGain_0 : decode cX0_greatestGain 0 = .ok (.aload_n 0, 1) := by decide +kernel
theorem dX0_greatestGain_1 : decode cX0_greatestGain 1 = .ok (.iload_n 1, 1) := by decide +kernel
theorem dX0_greatestGain_2 : decode cX0_greatestGain 2 = .ok (.iconst 0, 1) := by decide +kernel
theorem dX0_greatestGain_3 : decode cX0_greatestGain 3 = .ok (.invokevirtual 135, 3) := by decide +kernel
theorem dX0_greatestGain_6 : decode cX0_greatestGain 6 = .ok (.istore_n 2, 1) := by decide +kernel
theorem dX0_greatestGain_7 : decode cX0_greatestGain 7 = .ok (.iconst 1, 1) := by decide +kernel
theorem dX0_greatestGain_8 : decode cX0_greatestGain 8 = .ok (.istore_n 3, 1) := by decide +kernel
theorem dX0_greatestGain_9 : decode cX0_greatestGain 9 = .ok (.iload_n 3, 1) := by decide +kernel
theorem dX0_greatestGain_10 : decode cX0_greatestGain 10 = .ok (.aload_n 0, 1) := by decide +kernel
theorem dX0_greatestGain_11 : decode cX0_greatestGain 11 = .ok (.getfield 43, 3) := by decide +kernel
theorem dX0_greatestGain_14 : decode cX0_greatestGain 14 = .ok (.if_icmp .ge 20, 3) := by decide +kernel
theorem dX0_greatestGain_17 : decode cX0_greatestGain 17 = .ok (.iload_n 2, 1) := by decide +kernel
theorem dX0_greatestGain_18 : decode cX0_greatestGain 18 = .ok (.aload_n 0, 1) := by decide +kernel
theorem dX0_greatestGain_19 : decode cX0_greatestGain 19 = .ok (.iload_n 1, 1) := by decide +kernel
theorem dX0_greatestGain_20 : decode cX0_greatestGain 20 = .ok (.iload_n 3, 1) := by decide +kernel
theorem dX0_greatestGain_21 : decode cX0_greatestGain 21 = .ok (.invokevirtual 135, 3) := by decide +kernel
theorem dX0_greatestGain_24 : decode cX0_greatestGain 24 = .ok (.invokestatic 77, 3) := by decide +kernel
theorem dX0_greatestGain_27 : decode cX0_greatestGain 27 = .ok (.istore_n 2, 1) := by decide +kernel
theorem dX0_greatestGain_28 : decode cX0_greatestGain 28 = .ok (.iinc 3 1, 3) := by decide +kernel
theorem dX0_greatestGain_31 : decode cX0_greatestGain 31 = .ok (.goto (-22), 3) := by decide +kernel
theorem dX0_greatestGain_34 : decode cX0_greatestGain 34 = .ok (.iload_n 2, 1) := by decide +kernel
theorem dX0_greatestGain_35 : decode cX0_greatestGain 35 = .ok (.ireturn, 1) := by decide +kernel
theorem dX1_init_0 : decode cX1_init 0 = .ok (.aload_n 0, 1) := by decide +kernel
theorem dX1_init_1 : decode cX1_init 1 = .ok (.invokespecial 3, 3) := by decide +kernel
theorem dX1_init_4 : decode cX1_init 4 = .ok (.aload_n 0, 1) := by decide +kernel
theorem dX1_init_5 : decode cX1_init 5 = .ok (.bipush 12, 2) := by decide +kernel
theorem dX1_init_7 : decode cX1_init 7 = .ok (.newarray .int, 2) := by decide +kernel
theorem dX1_init_9 : decode cX1_init 9 = .ok (.putfield 9, 3) := by decide +kernel
theorem dX1_init_12 : decode cX1_init 12 = .ok (.return_, 1) := by decide +kernel
theorem dX1_has_0 : decode cX1_has 0 = .ok (.iload_n 1, 1) := by decide +kernel
theorem dX1_has_1 : decode cX1_has 1 = .ok (.ifCond .lt 21, 3) := by decide +kernel
theorem dX1_has_4 : decode cX1_has 4 = .ok (.iload_n 1, 1) := by decide +kernel
theorem dX1_has_5 : decode cX1_has 5 = .ok (.aload_n 0, 1) := by decide +kernel
theorem dX1_has_6 : decode cX1_has 6 = .ok (.getfield 15, 3) := by decide +kernel
theorem dX1_has_9 : decode cX1_has 9 = .ok (.if_icmp .ge 13, 3) := by decide +kernel
theorem dX1_has_12 : decode cX1_has 12 = .ok (.iload_n 1, 1) := by decide +kernel
theorem dX1_has_13 : decode cX1_has 13 = .ok (.bipush 12, 2) := by decide +kernel
theorem dX1_has_15 : decode cX1_has 15 = .ok (.if_icmp .ge 7, 3) := by decide +kernel
theorem dX1_has_18 : decode cX1_has 18 = .ok (.iconst 1, 1) := by decide +kernel
theorem dX1_has_19 : decode cX1_has 19 = .ok (.goto 4, 3) := by decide +kernel
theorem dX1_has_22 : decode cX1_has 22 = .ok (.iconst 0, 1) := by decide +kernel
theorem dX1_has_23 : decode cX1_has 23 = .ok (.ireturn, 1) := by decide +kernel
theorem dX1_add_0 : decode cX1_add 0 = .ok (.aload_n 0, 1) := by decide +kernel
theorem dX1_add_1 : decode cX1_add 1 = .ok (.getfield 15, 3) := by decide +kernel
theorem dX1_add_4 : decode cX1_add 4 = .ok (.ifCond .lt 12, 3) := by decide +kernel
theorem dX1_add_7 : decode cX1_add 7 = .ok (.aload_n 0, 1) := by decide +kernel
theorem dX1_add_8 : decode cX1_add 8 = .ok (.getfield 15, 3) := by decide +kernel
theorem dX1_add_11 : decode cX1_add 11 = .ok (.bipush 12, 2) := by decide +kernel
theorem dX1_add_13 : decode cX1_add 13 = .ok (.if_icmp .lt 4, 3) := by decide +kernel
theorem dX1_add_16 : decode cX1_add 16 = .ok (.return_, 1) := by decide +kernel
theorem dX1_add_17 : decode cX1_add 17 = .ok (.aload_n 0, 1) := by decide +kernel
theorem dX1_add_18 : decode cX1_add 18 = .ok (.getfield 9, 3) := by decide +kernel
theorem dX1_add_21 : decode cX1_add 21 = .ok (.aload_n 0, 1) := by decide +kernel
theorem dX1_add_22 : decode cX1_add 22 = .ok (.getfield 15, 3) := by decide +kernel
theorem dX1_add_25 : decode cX1_add 25 = .ok (.iload_n 1, 1) := by decide +kernel
theorem dX1_add_26 : decode cX1_add 26 = .ok (.iastore, 1) := by decide +kernel
theorem dX1_add_27 : decode cX1_add 27 = .ok (.aload_n 0, 1) := by decide +kernel
theorem dX1_add_28 : decode cX1_add 28 = .ok (.dup, 1) := by decide +kernel
theorem dX1_add_29 : decode cX1_add 29 = .ok (.getfield 15, 3) := by decide +kernel
theorem dX1_add_32 : decode cX1_add 32 = .ok (.iconst 1, 1) := by decide +kernel
theorem dX1_add_33 : decode cX1_add 33 = .ok (.iadd, 1) := by decide +kernel
theorem dX1_add_34 : decode cX1_add 34 = .ok (.putfield 15, 3) := by decide +kernel
theorem dX1_add_37 : decode cX1_add 37 = .ok (.return_, 1) := by decide +kernel
set_option maxRecDepth 20000 in
theorem ggX1_takeOut_X1_has : GoodIn wsX1_takeOut wsX1_has := goodIn_r _ [7, 1, 8, 9] (by decide +kernel) (by decide +kernel)
set_option maxRecDepth 20000 in
theorem gX1_takeOut_X1_has : GoodIn wsX1_takeOut (wsV RX1 19 RX1 yX1_has wsX1_has) := goodIn_app (goodIn_of _ (by decide +kernel)) ggX1_takeOut_X1_has
theorem dX1_takeOut_0 : decode cX1_takeOut 0 = .ok (.aload_n 0, 1) := by decide +kernel
theorem dX1_takeOut_1 : decode cX1_takeOut 1 = .ok (.iload_n 1, 1) := by decide +kernel
theorem dX1_takeOut_2 : decode cX1_takeOut 2 = .ok (.invokevirtual 19, 3) := by decide +kernel
theorem dX1_takeOut_5 : decode cX1_takeOut 5 = .ok (.ifCond .ne 4, 3) := by decide +kernel
theorem dX1_takeOut_8 : decode cX1_takeOut 8 = .ok (.return_, 1) := by decide +kernel
theorem dX1_takeOut_9 : decode cX1_takeOut 9 = .ok (.aload_n 0, 1) := by decide +kernel
theorem dX1_takeOut_10 : decode cX1_takeOut 10 = .ok (.dup, 1) := by decide +kernel
theorem dX1_takeOut_11 : decode cX1_takeOut 11 = .ok (.getfield 15, 3) := by decide +kernel
theorem dX1_takeOut_14 : decode cX1_takeOut 14 = .ok (.iconst 1, 1) := by decide +kernel
theorem dX1_takeOut_15 : decode cX1_takeOut 15 = .ok (.isub, 1) := by decide +kernel
theorem dX1_takeOut_16 : decode cX1_takeOut 16 = .ok (.putfield 15, 3) := by decide +kernel
theorem dX1_takeOut_19 : decode cX1_takeOut 19 = .ok (.iload_n 1, 1) := by decide +kernel
theorem dX1_takeOut_20 : decode cX1_takeOut 20 = .ok (.istore_n 2, 1) := by decide +kernel
theorem dX1_takeOut_21 : decode cX1_takeOut 21 = .ok (.iload_n 2, 1) := by decide +kernel
theorem dX1_takeOut_22 : decode cX1_takeOut 22 = .ok (.aload_n 0, 1) := by decide +kernel
theorem dX1_takeOut_23 : decode cX1_takeOut 23 = .ok (.getfield 15, 3) := by decide +kernel
theorem dX1_takeOut_26 : decode cX1_takeOut 26 = .ok (.if_icmp .ge 31, 3) := by decide +kernel
theorem dX1_takeOut_29 : decode cX1_takeOut 29 = .ok (.iload_n 2, 1) := by decide +kernel
theorem dX1_takeOut_30 : decode cX1_takeOut 30 = .ok (.iconst 1, 1) := by decide +kernel
theorem dX1_takeOut_31 : decode cX1_takeOut 31 = .ok (.iadd, 1) := by decide +kernel
theorem dX1_takeOut_32 : decode cX1_takeOut 32 = .ok (.bipush 12, 2) := by decide +kernel
theorem dX1_takeOut_34 : decode cX1_takeOut 34 = .ok (.if_icmp .ge 23, 3) := by decide +kernel
theorem dX1_takeOut_37 : decode cX1_takeOut 37 = .ok (.aload_n 0, 1) := by decide +kernel
theorem dX1_takeOut_38 : decode cX1_takeOut 38 = .ok (.getfield 9, 3) := by decide +kernel
theorem dX1_takeOut_41 : decode cX1_takeOut 41 = .ok (.iload_n 2, 1) := by decide +kernel
theorem dX1_takeOut_42 : decode cX1_takeOut 42 = .ok (.aload_n 0, 1) := by decide +kernel
theorem dX1_takeOut_43 : decode cX1_takeOut 43 = .ok (.getfield 9, 3) := by decide +kernel
theorem dX1_takeOut_46 : decode cX1_takeOut 46 = .ok (.iload_n 2, 1) := by decide +kernel
theorem dX1_takeOut_47 : decode cX1_takeOut 47 = .ok (.iconst 1, 1) := by decide +kernel
theorem dX1_takeOut_48 : decode cX1_takeOut 48 = .ok (.iadd, 1) := by decide +kernel
theorem dX1_takeOut_49 : decode cX1_takeOut 49 = .ok (.iaload, 1) := by decide +kernel
theorem dX1_takeOut_50 : decode cX1_takeOut 50 = .ok (.iastore, 1) := by decide +kernel
theorem dX1_takeOut_51 : decode cX1_takeOut 51 = .ok (.iinc 2 1, 3) := by decide +kernel
theorem dX1_takeOut_54 : decode cX1_takeOut 54 = .ok (.goto (-33), 3) := by decide +kernel
theorem dX1_takeOut_57 : decode cX1_takeOut 57 = .ok (.return_, 1) := by decide +kernel
theorem dX1_copyFrom_0 : decode cX1_copyFrom 0 = .ok (.aload_n 0, 1) := by decide +kernel
theorem dX1_copyFrom_1 : decode cX1_copyFrom 1 = .ok (.aload_n 1, 1) := by decide +kernel
theorem dX1_copyFrom_2 : decode cX1_copyFrom 2 = .ok (.getfield 15, 3) := by decide +kernel
theorem dX1_copyFrom_5 : decode cX1_copyFrom 5 = .ok (.putfield 15, 3) := by decide +kernel
theorem dX1_copyFrom_8 : decode cX1_copyFrom 8 = .ok (.aload_n 1, 1) := by decide +kernel
theorem dX1_copyFrom_9 : decode cX1_copyFrom 9 = .ok (.getfield 9, 3) := by decide +kernel
theorem dX1_copyFrom_12 : decode cX1_copyFrom 12 = .ok (.iconst 0, 1) := by decide +kernel
theorem dX1_copyFrom_13 : decode cX1_copyFrom 13 = .ok (.aload_n 0, 1) := by decide +kernel
theorem dX1_copyFrom_14 : decode cX1_copyFrom 14 = .ok (.getfield 9, 3) := by decide +kernel
theorem dX1_copyFrom_17 : decode cX1_copyFrom 17 = .ok (.iconst 0, 1) := by decide +kernel
theorem dX1_copyFrom_18 : decode cX1_copyFrom 18 = .ok (.bipush 12, 2) := by decide +kernel
theorem dX1_copyFrom_20 : decode cX1_copyFrom 20 = .ok (.invokestatic 23, 3) := by decide +kernel
theorem dX1_copyFrom_23 : decode cX1_copyFrom 23 = .ok (.return_, 1) := by decide +kernel
theorem dX2_init_0 : decode cX2_init 0 = .ok (.aload_n 0, 1) := by decide +kernel
theorem dX2_init_1 : decode cX2_init 1 = .ok (.invokespecial 3, 3) := by decide +kernel
theorem dX2_init_4 : decode cX2_init 4 = .ok (.aload_n 0, 1) := by decide +kernel
theorem dX2_init_5 : decode cX2_init 5 = .ok (.bipush 8, 2) := by decide +kernel
theorem dX2_init_7 : decode cX2_init 7 = .ok (.newarray .int, 2) := by decide +kernel
theorem dX2_init_9 : decode cX2_init 9 = .ok (.putfield 9, 3) := by decide +kernel
theorem dX2_init_12 : decode cX2_init 12 = .ok (.aload_n 0, 1) := by decide +kernel
theorem dX2_init_13 : decode cX2_init 13 = .ok (.bipush 8, 2) := by decide +kernel
theorem dX2_init_15 : decode cX2_init 15 = .ok (.newarray .int, 2) := by decide +kernel
theorem dX2_init_17 : decode cX2_init 17 = .ok (.putfield 15, 3) := by decide +kernel
theorem dX2_init_20 : decode cX2_init 20 = .ok (.return_, 1) := by decide +kernel
theorem dX2_has_0 : decode cX2_has 0 = .ok (.iload_n 1, 1) := by decide +kernel
theorem dX2_has_1 : decode cX2_has 1 = .ok (.ifCond .lt 21, 3) := by decide +kernel
theorem dX2_has_4 : decode cX2_has 4 = .ok (.iload_n 1, 1) := by decide +kernel
theorem dX2_has_5 : decode cX2_has 5 = .ok (.aload_n 0, 1) := by decide +kernel
theorem dX2_has_6 : decode cX2_has 6 = .ok (.getfield 18, 3) := by decide +kernel
theorem dX2_has_9 : decode cX2_has 9 = .ok (.if_icmp .ge 13, 3) := by decide +kernel
theorem dX2_has_12 : decode cX2_has 12 = .ok (.iload_n 1, 1) := by decide +kernel
theorem dX2_has_13 : decode cX2_has 13 = .ok (.bipush 8, 2) := by decide +kernel
theorem dX2_has_15 : decode cX2_has 15 = .ok (.if_icmp .ge 7, 3) := by decide +kernel
theorem dX2_has_18 : decode cX2_has 18 = .ok (.iconst 1, 1) := by decide +kernel
theorem dX2_has_19 : decode cX2_has 19 = .ok (.goto 4, 3) := by decide +kernel
theorem dX2_has_22 : decode cX2_has 22 = .ok (.iconst 0, 1) := by decide +kernel
theorem dX2_has_23 : decode cX2_has 23 = .ok (.ireturn, 1) := by decide +kernel
theorem dX2_numberOf_0 : decode cX2_numberOf 0 = .ok (.iconst 0, 1) := by decide +kernel
theorem dX2_numberOf_1 : decode cX2_numberOf 1 = .ok (.istore_n 2, 1) := by decide +kernel
theorem dX2_numberOf_2 : decode cX2_numberOf 2 = .ok (.iload_n 2, 1) := by decide +kernel
theorem dX2_numberOf_3 : decode cX2_numberOf 3 = .ok (.aload_n 0, 1) := by decide +kernel
theorem dX2_numberOf_4 : decode cX2_numberOf 4 = .ok (.getfield 18, 3) := by decide +kernel
theorem dX2_numberOf_7 : decode cX2_numberOf 7 = .ok (.if_icmp .ge 27, 3) := by decide +kernel
theorem dX2_numberOf_10 : decode cX2_numberOf 10 = .ok (.iload_n 2, 1) := by decide +kernel
theorem dX2_numberOf_11 : decode cX2_numberOf 11 = .ok (.bipush 8, 2) := by decide +kernel
theorem dX2_numberOf_13 : decode cX2_numberOf 13 = .ok (.if_icmp .ge 21, 3) := by decide +kernel
theorem dX2_numberOf_16 : decode cX2_numberOf 16 = .ok (.aload_n 0, 1) := by decide +kernel
theorem dX2_numberOf_17 : decode cX2_numberOf 17 = .ok (.getfield 9, 3) := by decide +kernel
theorem dX2_numberOf_20 : decode cX2_numberOf 20 = .ok (.iload_n 2, 1) := by decide +kernel
theorem dX2_numberOf_21 : decode cX2_numberOf 21 = .ok (.iaload, 1) := by decide +kernel
theorem dX2_numberOf_22 : decode cX2_numberOf 22 = .ok (.iload_n 1, 1) := by decide +kernel
theorem dX2_numberOf_23 : decode cX2_numberOf 23 = .ok (.if_icmp .ne 5, 3) := by decide +kernel
theorem dX2_numberOf_26 : decode cX2_numberOf 26 = .ok (.iload_n 2, 1) := by decide +kernel
theorem dX2_numberOf_27 : decode cX2_numberOf 27 = .ok (.ireturn, 1) := by decide +kernel
theorem dX2_numberOf_28 : decode cX2_numberOf 28 = .ok (.iinc 2 1, 3) := by decide +kernel
theorem dX2_numberOf_31 : decode cX2_numberOf 31 = .ok (.goto (-29), 3) := by decide +kernel
theorem dX2_numberOf_34 : decode cX2_numberOf 34 = .ok (.bipush (-6), 2) := by decide +kernel
theorem dX2_numberOf_36 : decode cX2_numberOf 36 = .ok (.ireturn, 1) := by decide +kernel
set_option maxRecDepth 20000 in
theorem ggX2_slots_X2_firstSlot : GoodIn wsX2_slots wsX2_firstSlot := goodIn_r _ [6, 7, 8, 9, 10] (by decide +kernel) (by decide +kernel)
set_option maxRecDepth 20000 in
theorem gX2_slots_X2_firstSlot : GoodIn wsX2_slots (wsV RX2 22 RX2 yX2_firstSlot wsX2_firstSlot) := goodIn_app (goodIn_of _ (by decide +kernel)) ggX2_slots_X2_firstSlot
theorem dX2_slots_0 : decode cX2_slots 0 = .ok (.aload_n 0, 1) := by decide +kernel
theorem dX2_slots_1 : decode cX2_slots 1 = .ok (.aload_n 0, 1) := by decide +kernel
theorem dX2_slots_2 : decode cX2_slots 2 = .ok (.getfield 18, 3) := by decide +kernel
theorem dX2_slots_5 : decode cX2_slots 5 = .ok (.invokevirtual 22, 3) := by decide +kernel
theorem dX2_slots_8 : decode cX2_slots 8 = .ok (.ireturn, 1) := by decide +kernel
theorem dX2_firstSlot_0 : decode cX2_firstSlot 0 = .ok (.iconst 0, 1) := by decide +kernel
theorem dX2_firstSlot_1 : decode cX2_firstSlot 1 = .ok (.istore_n 2, 1) := by decide +kernel
theorem dX2_firstSlot_2 : decode cX2_firstSlot 2 = .ok (.iconst 0, 1) := by decide +kernel
theorem dX2_firstSlot_3 : decode cX2_firstSlot 3 = .ok (.istore_n 3, 1) := by decide +kernel
theorem dX2_firstSlot_4 : decode cX2_firstSlot 4 = .ok (.iload_n 3, 1) := by decide +kernel
theorem dX2_firstSlot_5 : decode cX2_firstSlot 5 = .ok (.iload_n 1, 1) := by decide +kernel
theorem dX2_firstSlot_6 : decode cX2_firstSlot 6 = .ok (.if_icmp .ge 24, 3) := by decide +kernel
theorem dX2_firstSlot_9 : decode cX2_firstSlot 9 = .ok (.iload_n 3, 1) := by decide +kernel
theorem dX2_firstSlot_10 : decode cX2_firstSlot 10 = .ok (.bipush 8, 2) := by decide +kernel
theorem dX2_firstSlot_12 : decode cX2_firstSlot 12 = .ok (.if_icmp .ge 18, 3) := by decide +kernel
theorem dX2_firstSlot_15 : decode cX2_firstSlot 15 = .ok (.iload_n 2, 1) := by decide +kernel
theorem dX2_firstSlot_16 : decode cX2_firstSlot 16 = .ok (.aload_n 0, 1) := by decide +kernel
theorem dX2_firstSlot_17 : decode cX2_firstSlot 17 = .ok (.getfield 15, 3) := by decide +kernel
theorem dX2_firstSlot_20 : decode cX2_firstSlot 20 = .ok (.iload_n 3, 1) := by decide +kernel
theorem dX2_firstSlot_21 : decode cX2_firstSlot 21 = .ok (.iaload, 1) := by decide +kernel
theorem dX2_firstSlot_22 : decode cX2_firstSlot 22 = .ok (.iadd, 1) := by decide +kernel
theorem dX2_firstSlot_23 : decode cX2_firstSlot 23 = .ok (.istore_n 2, 1) := by decide +kernel
theorem dX2_firstSlot_24 : decode cX2_firstSlot 24 = .ok (.iinc 3 1, 3) := by decide +kernel
theorem dX2_firstSlot_27 : decode cX2_firstSlot 27 = .ok (.goto (-23), 3) := by decide +kernel
theorem dX2_firstSlot_30 : decode cX2_firstSlot 30 = .ok (.iload_n 2, 1) := by decide +kernel
theorem dX2_firstSlot_31 : decode cX2_firstSlot 31 = .ok (.ireturn, 1) := by decide +kernel
theorem dX2_ofSlot_0 : decode cX2_ofSlot 0 = .ok (.iconst 0, 1) := by decide +kernel
theorem dX2_ofSlot_1 : decode cX2_ofSlot 1 = .ok (.istore_n 2, 1) := by decide +kernel
theorem dX2_ofSlot_2 : decode cX2_ofSlot 2 = .ok (.iconst 0, 1) := by decide +kernel
theorem dX2_ofSlot_3 : decode cX2_ofSlot 3 = .ok (.istore_n 3, 1) := by decide +kernel
theorem dX2_ofSlot_4 : decode cX2_ofSlot 4 = .ok (.iload_n 3, 1) := by decide +kernel
theorem dX2_ofSlot_5 : decode cX2_ofSlot 5 = .ok (.aload_n 0, 1) := by decide +kernel
theorem dX2_ofSlot_6 : decode cX2_ofSlot 6 = .ok (.getfield 18, 3) := by decide +kernel
theorem dX2_ofSlot_9 : decode cX2_ofSlot 9 = .ok (.if_icmp .ge 35, 3) := by decide +kernel
theorem dX2_ofSlot_12 : decode cX2_ofSlot 12 = .ok (.iload_n 3, 1) := by decide +kernel
theorem dX2_ofSlot_13 : decode cX2_ofSlot 13 = .ok (.bipush 8, 2) := by decide +kernel
theorem dX2_ofSlot_15 : decode cX2_ofSlot 15 = .ok (.if_icmp .ge 29, 3) := by decide +kernel
theorem dX2_ofSlot_18 : decode cX2_ofSlot 18 = .ok (.iload_n 2, 1) := by decide +kernel
theorem dX2_ofSlot_19 : decode cX2_ofSlot 19 = .ok (.aload_n 0, 1) := by decide +kernel
theorem dX2_ofSlot_20 : decode cX2_ofSlot 20 = .ok (.getfield 15, 3) := by decide +kernel
theorem dX2_ofSlot_23 : decode cX2_ofSlot 23 = .ok (.iload_n 3, 1) := by decide +kernel
theorem dX2_ofSlot_24 : decode cX2_ofSlot 24 = .ok (.iaload, 1) := by decide +kernel
theorem dX2_ofSlot_25 : decode cX2_ofSlot 25 = .ok (.iadd, 1) := by decide +kernel
theorem dX2_ofSlot_26 : decode cX2_ofSlot 26 = .ok (.istore_n 2, 1) := by decide +kernel
theorem dX2_ofSlot_27 : decode cX2_ofSlot 27 = .ok (.iload_n 1, 1) := by decide +kernel
theorem dX2_ofSlot_28 : decode cX2_ofSlot 28 = .ok (.ifCond .lt 10, 3) := by decide +kernel
theorem dX2_ofSlot_31 : decode cX2_ofSlot 31 = .ok (.iload_n 1, 1) := by decide +kernel
theorem dX2_ofSlot_32 : decode cX2_ofSlot 32 = .ok (.iload_n 2, 1) := by decide +kernel
theorem dX2_ofSlot_33 : decode cX2_ofSlot 33 = .ok (.if_icmp .ge 5, 3) := by decide +kernel
theorem dX2_ofSlot_36 : decode cX2_ofSlot 36 = .ok (.iload_n 3, 1) := by decide +kernel
theorem dX2_ofSlot_37 : decode cX2_ofSlot 37 = .ok (.ireturn, 1) := by decide +kernel
theorem dX2_ofSlot_38 : decode cX2_ofSlot 38 = .ok (.iinc 3 1, 3) := by decide +kernel
theorem dX2_ofSlot_41 : decode cX2_ofSlot 41 = .ok (.goto (-37), 3) := by decide +kernel
theorem dX2_ofSlot_44 : decode cX2_ofSlot 44 = .ok (.bipush (-6), 2) := by decide +kernel
theorem dX2_ofSlot_46 : decode cX2_ofSlot 46 = .ok (.ireturn, 1) := by decide +kernel
set_option maxRecDepth 20000 in
theorem ggX2_hasRoom_X2_numberOf : GoodIn wsX2_hasRoom wsX2_numberOf := goodIn_r _ [7, 2, 8, 21, 22, 23] (by decide +kernel) (by decide +kernel)
set_option maxRecDepth 20000 in
theorem gX2_hasRoom_X2_numberOf : GoodIn wsX2_hasRoom (wsV RX2 26 RX2 yX2_numberOf wsX2_numberOf) := goodIn_app (goodIn_of _ (by decide +kernel)) ggX2_hasRoom_X2_numberOf
set_option maxRecDepth 20000 in
theorem ggX2_hasRoom_X2_has : GoodIn wsX2_hasRoom wsX2_has := goodIn_r _ [12, 2, 21, 22, 23] (by decide +kernel) (by decide +kernel)
set_option maxRecDepth 20000 in
theorem gX2_hasRoom_X2_has : GoodIn wsX2_hasRoom (wsV RX2 29 RX2 yX2_has wsX2_has) := goodIn_app (goodIn_of _ (by decide +kernel)) ggX2_hasRoom_X2_has
set_option maxRecDepth 20000 in
theorem ggX2_hasRoom_X2_slots : GoodIn wsX2_hasRoom wsX2_slots := goodIn_r _ [16, 2, 17, 18, 19, 6, 20, 1, 21, 22, 23] (by decide +kernel) (by decide +kernel)
set_option maxRecDepth 20000 in
theorem gX2_hasRoom_X2_slots : GoodIn wsX2_hasRoom (wsV RX2 33 RX2 yX2_slots wsX2_slots) := goodIn_app (goodIn_of _ (by decide +kernel)) ggX2_hasRoom_X2_slots
theorem dX2_hasRoom_0 : decode cX2_hasRoom 0 = .ok (.aload_n 0, 1) := by decide +kernel
theorem dX2_hasRoom_1 : decode cX2_hasRoom 1 = .ok (.iload_n 1, 1) := by decide +kernel
theorem dX2_hasRoom_2 : decode cX2_hasRoom 2 = .ok (.invokevirtual 26, 3) := by decide +kernel
theorem dX2_hasRoom_5 : decode cX2_hasRoom 5 = .ok (.istore_n 3, 1) := by decide +kernel
theorem dX2_hasRoom_6 : decode cX2_hasRoom 6 = .ok (.aload_n 0, 1) := by decide +kernel
theorem dX2_hasRoom_7 : decode cX2_hasRoom 7 = .ok (.iload_n 3, 1) := by decide +kernel
theorem dX2_hasRoom_8 : decode cX2_hasRoom 8 = .ok (.invokevirtual 29, 3) := by decide +kernel
theorem dX2_hasRoom_11 : decode cX2_hasRoom 11 = .ok (.ifCond .eq 23, 3) := by decide +kernel
theorem dX2_hasRoom_14 : decode cX2_hasRoom 14 = .ok (.aload_n 0, 1) := by decide +kernel
theorem dX2_hasRoom_15 : decode cX2_hasRoom 15 = .ok (.getfield 15, 3) := by decide +kernel
theorem dX2_hasRoom_18 : decode cX2_hasRoom 18 = .ok (.iload_n 3, 1) := by decide +kernel
theorem dX2_hasRoom_19 : decode cX2_hasRoom 19 = .ok (.iaload, 1) := by decide +kernel
theorem dX2_hasRoom_20 : decode cX2_hasRoom 20 = .ok (.iload_n 2, 1) := by decide +kernel
theorem dX2_hasRoom_21 : decode cX2_hasRoom 21 = .ok (.iadd, 1) := by decide +kernel
theorem dX2_hasRoom_22 : decode cX2_hasRoom 22 = .ok (.iconst 4, 1) := by decide +kernel
theorem dX2_hasRoom_23 : decode cX2_hasRoom 23 = .ok (.if_icmp .gt 7, 3) := by decide +kernel
theorem dX2_hasRoom_26 : decode cX2_hasRoom 26 = .ok (.iconst 1, 1) := by decide +kernel
theorem dX2_hasRoom_27 : decode cX2_hasRoom 27 = .ok (.goto 21, 3) := by decide +kernel
theorem dX2_hasRoom_30 : decode cX2_hasRoom 30 = .ok (.iconst 0, 1) := by decide +kernel
theorem dX2_hasRoom_31 : decode cX2_hasRoom 31 = .ok (.goto 17, 3) := by decide +kernel
theorem dX2_hasRoom_34 : decode cX2_hasRoom 34 = .ok (.aload_n 0, 1) := by decide +kernel
theorem dX2_hasRoom_35 : decode cX2_hasRoom 35 = .ok (.getfield 18, 3) := by decide +kernel
theorem dX2_hasRoom_38 : decode cX2_hasRoom 38 = .ok (.bipush 8, 2) := by decide +kernel
theorem dX2_hasRoom_40 : decode cX2_hasRoom 40 = .ok (.if_icmp .ge 7, 3) := by decide +kernel
theorem dX2_hasRoom_43 : decode cX2_hasRoom 43 = .ok (.iconst 1, 1) := by decide +kernel
theorem dX2_hasRoom_44 : decode cX2_hasRoom 44 = .ok (.goto 4, 3) := by decide +kernel
theorem dX2_hasRoom_47 : decode cX2_hasRoom 47 = .ok (.iconst 0, 1) := by decide +kernel
theorem dX2_hasRoom_48 : decode cX2_hasRoom 48 = .ok (.istore 4, 2) := by decide +kernel
theorem dX2_hasRoom_50 : decode cX2_hasRoom 50 = .ok (.iload 4, 2) := by decide +kernel
theorem dX2_hasRoom_52 : decode cX2_hasRoom 52 = .ok (.ifCond .eq 18, 3) := by decide +kernel
theorem dX2_hasRoom_55 : decode cX2_hasRoom 55 = .ok (.aload_n 0, 1) := by decide +kernel
theorem dX2_hasRoom_56 : decode cX2_hasRoom 56 = .ok (.invokevirtual 33, 3) := by decide +kernel
theorem dX2_hasRoom_59 : decode cX2_hasRoom 59 = .ok (.iload_n 2, 1) := by decide +kernel
theorem dX2_hasRoom_60 : decode cX2_hasRoom 60 = .ok (.iadd, 1) := by decide +kernel
theorem dX2_hasRoom_61 : decode cX2_hasRoom 61 = .ok (.bipush 16, 2) := by decide +kernel
theorem dX2_hasRoom_63 : decode cX2_hasRoom 63 = .ok (.if_icmp .gt 7, 3) := by decide +kernel
theorem dX2_hasRoom_66 : decode cX2_hasRoom 66 = .ok (.iconst 1, 1) := by decide +kernel
theorem dX2_hasRoom_67 : decode cX2_hasRoom 67 = .ok (.goto 4, 3) := by decide +kernel
theorem dX2_hasRoom_70 : decode cX2_hasRoom 70 = .ok (.iconst 0, 1) := by decide +kernel
theorem dX2_hasRoom_71 : decode cX2_hasRoom 71 = .ok (.ireturn, 1) := by decide +kernel
set_option maxRecDepth 20000 in
theorem ggX2_add_X2_numberOf : GoodIn wsX2_add wsX2_numberOf := goodIn_r _ [8, 1, 2, 9, 10, 11] (by decide +kernel) (by decide +kernel)
set_option maxRecDepth 20000 in
theorem gX2_add_X2_numberOf : GoodIn wsX2_add (wsV RX2 26 RX2 yX2_numberOf wsX2_numberOf) := goodIn_app (goodIn_of _ (by decide +kernel)) ggX2_add_X2_numberOf
theorem dX2_add_0 : decode cX2_add 0 = .ok (.aload_n 0, 1) := by decide +kernel
theorem dX2_add_1 : decode cX2_add 1 = .ok (.iload_n 1, 1) := by decide +kernel
theorem dX2_add_2 : decode cX2_add 2 = .ok (.invokevirtual 26, 3) := by decide +kernel
theorem dX2_add_5 : decode cX2_add 5 = .ok (.istore_n 3, 1) := by decide +kernel
theorem dX2_add_6 : decode cX2_add 6 = .ok (.iload_n 3, 1) := by decide +kernel
theorem dX2_add_7 : decode cX2_add 7 = .ok (.bipush (-6), 2) := by decide +kernel
theorem dX2_add_9 : decode cX2_add 9 = .ok (.if_icmp .ne 10, 3) := by decide +kernel
theorem dX2_add_12 : decode cX2_add 12 = .ok (.aload_n 0, 1) := by decide +kernel
theorem dX2_add_13 : decode cX2_add 13 = .ok (.getfield 18, 3) := by decide +kernel
theorem dX2_add_16 : decode cX2_add 16 = .ok (.goto 4, 3) := by decide +kernel
theorem dX2_add_19 : decode cX2_add 19 = .ok (.iload_n 3, 1) := by decide +kernel
theorem dX2_add_20 : decode cX2_add 20 = .ok (.istore 4, 2) := by decide +kernel
theorem dX2_add_22 : decode cX2_add 22 = .ok (.iload 4, 2) := by decide +kernel
theorem dX2_add_24 : decode cX2_add 24 = .ok (.ifCond .lt 10, 3) := by decide +kernel
theorem dX2_add_27 : decode cX2_add 27 = .ok (.iload 4, 2) := by decide +kernel
theorem dX2_add_29 : decode cX2_add 29 = .ok (.bipush 8, 2) := by decide +kernel
theorem dX2_add_31 : decode cX2_add 31 = .ok (.if_icmp .lt 5, 3) := by decide +kernel
theorem dX2_add_34 : decode cX2_add 34 = .ok (.iconst 0, 1) := by decide +kernel
theorem dX2_add_35 : decode cX2_add 35 = .ok (.ireturn, 1) := by decide +kernel
theorem dX2_add_36 : decode cX2_add 36 = .ok (.iload 4, 2) := by decide +kernel
theorem dX2_add_38 : decode cX2_add 38 = .ok (.aload_n 0, 1) := by decide +kernel
theorem dX2_add_39 : decode cX2_add 39 = .ok (.getfield 18, 3) := by decide +kernel
theorem dX2_add_42 : decode cX2_add 42 = .ok (.if_icmp .ne 29, 3) := by decide +kernel
theorem dX2_add_45 : decode cX2_add 45 = .ok (.aload_n 0, 1) := by decide +kernel
theorem dX2_add_46 : decode cX2_add 46 = .ok (.getfield 9, 3) := by decide +kernel
theorem dX2_add_49 : decode cX2_add 49 = .ok (.iload 4, 2) := by decide +kernel
theorem dX2_add_51 : decode cX2_add 51 = .ok (.iload_n 1, 1) := by decide +kernel
theorem dX2_add_52 : decode cX2_add 52 = .ok (.iastore, 1) := by decide +kernel
theorem dX2_add_53 : decode cX2_add 53 = .ok (.aload_n 0, 1) := by decide +kernel
theorem dX2_add_54 : decode cX2_add 54 = .ok (.getfield 15, 3) := by decide +kernel
theorem dX2_add_57 : decode cX2_add 57 = .ok (.iload 4, 2) := by decide +kernel
theorem dX2_add_59 : decode cX2_add 59 = .ok (.iconst 0, 1) := by decide +kernel
theorem dX2_add_60 : decode cX2_add 60 = .ok (.iastore, 1) := by decide +kernel
theorem dX2_add_61 : decode cX2_add 61 = .ok (.aload_n 0, 1) := by decide +kernel
theorem dX2_add_62 : decode cX2_add 62 = .ok (.dup, 1) := by decide +kernel
theorem dX2_add_63 : decode cX2_add 63 = .ok (.getfield 18, 3) := by decide +kernel
theorem dX2_add_66 : decode cX2_add 66 = .ok (.iconst 1, 1) := by decide +kernel
theorem dX2_add_67 : decode cX2_add 67 = .ok (.iadd, 1) := by decide +kernel
theorem dX2_add_68 : decode cX2_add 68 = .ok (.putfield 18, 3) := by decide +kernel
theorem dX2_add_71 : decode cX2_add 71 = .ok (.aload_n 0, 1) := by decide +kernel
theorem dX2_add_72 : decode cX2_add 72 = .ok (.getfield 15, 3) := by decide +kernel
theorem dX2_add_75 : decode cX2_add 75 = .ok (.iload 4, 2) := by decide +kernel
theorem dX2_add_77 : decode cX2_add 77 = .ok (.dup2, 1) := by decide +kernel
theorem dX2_add_78 : decode cX2_add 78 = .ok (.iaload, 1) := by decide +kernel
theorem dX2_add_79 : decode cX2_add 79 = .ok (.iload_n 2, 1) := by decide +kernel
theorem dX2_add_80 : decode cX2_add 80 = .ok (.iadd, 1) := by decide +kernel
theorem dX2_add_81 : decode cX2_add 81 = .ok (.iastore, 1) := by decide +kernel
theorem dX2_add_82 : decode cX2_add 82 = .ok (.aload_n 0, 1) := by decide +kernel
theorem dX2_add_83 : decode cX2_add 83 = .ok (.getfield 15, 3) := by decide +kernel
theorem dX2_add_86 : decode cX2_add 86 = .ok (.iload 4, 2) := by decide +kernel
theorem dX2_add_88 : decode cX2_add 88 = .ok (.iaload, 1) := by decide +kernel
theorem dX2_add_89 : decode cX2_add 89 = .ok (.ireturn, 1) := by decide +kernel
set_option maxRecDepth 20000 in
theorem ggX2_takeOut_X2_has : GoodIn wsX2_takeOut wsX2_has := goodIn_r _ [8, 1, 9, 10, 11] (by decide +kernel) (by decide +kernel)
set_option maxRecDepth 20000 in
theorem gX2_takeOut_X2_has : GoodIn wsX2_takeOut (wsV RX2 29 RX2 yX2_has wsX2_has) := goodIn_app (goodIn_of _ (by decide +kernel)) ggX2_takeOut_X2_has
theorem dX2_takeOut_0 : decode cX2_takeOut 0 = .ok (.aload_n 0, 1) := by decide +kernel
theorem dX2_takeOut_1 : decode cX2_takeOut 1 = .ok (.iload_n 1, 1) := by decide +kernel
theorem dX2_takeOut_2 : decode cX2_takeOut 2 = .ok (.invokevirtual 29, 3) := by decide +kernel
theorem dX2_takeOut_5 : decode cX2_takeOut 5 = .ok (.ifCond .ne 4, 3) := by decide +kernel
theorem dX2_takeOut_8 : decode cX2_takeOut 8 = .ok (.return_, 1) := by decide +kernel
theorem dX2_takeOut_9 : decode cX2_takeOut 9 = .ok (.aload_n 0, 1) := by decide +kernel
theorem dX2_takeOut_10 : decode cX2_takeOut 10 = .ok (.dup, 1) := by decide +kernel
theorem dX2_takeOut_11 : decode cX2_takeOut 11 = .ok (.getfield 18, 3) := by decide +kernel
theorem dX2_takeOut_14 : decode cX2_takeOut 14 = .ok (.iconst 1, 1) := by decide +kernel
theorem dX2_takeOut_15 : decode cX2_takeOut 15 = .ok (.isub, 1) := by decide +kernel
theorem dX2_takeOut_16 : decode cX2_takeOut 16 = .ok (.putfield 18, 3) := by decide +kernel
theorem dX2_takeOut_19 : decode cX2_takeOut 19 = .ok (.iload_n 1, 1) := by decide +kernel
theorem dX2_takeOut_20 : decode cX2_takeOut 20 = .ok (.istore_n 2, 1) := by decide +kernel
theorem dX2_takeOut_21 : decode cX2_takeOut 21 = .ok (.iload_n 2, 1) := by decide +kernel
theorem dX2_takeOut_22 : decode cX2_takeOut 22 = .ok (.aload_n 0, 1) := by decide +kernel
theorem dX2_takeOut_23 : decode cX2_takeOut 23 = .ok (.getfield 18, 3) := by decide +kernel
theorem dX2_takeOut_26 : decode cX2_takeOut 26 = .ok (.if_icmp .ge 45, 3) := by decide +kernel
theorem dX2_takeOut_29 : decode cX2_takeOut 29 = .ok (.iload_n 2, 1) := by decide +kernel
theorem dX2_takeOut_30 : decode cX2_takeOut 30 = .ok (.iconst 1, 1) := by decide +kernel
theorem dX2_takeOut_31 : decode cX2_takeOut 31 = .ok (.iadd, 1) := by decide +kernel
theorem dX2_takeOut_32 : decode cX2_takeOut 32 = .ok (.bipush 8, 2) := by decide +kernel
theorem dX2_takeOut_34 : decode cX2_takeOut 34 = .ok (.if_icmp .ge 37, 3) := by decide +kernel
theorem dX2_takeOut_37 : decode cX2_takeOut 37 = .ok (.aload_n 0, 1) := by decide +kernel
theorem dX2_takeOut_38 : decode cX2_takeOut 38 = .ok (.getfield 9, 3) := by decide +kernel
theorem dX2_takeOut_41 : decode cX2_takeOut 41 = .ok (.iload_n 2, 1) := by decide +kernel
theorem dX2_takeOut_42 : decode cX2_takeOut 42 = .ok (.aload_n 0, 1) := by decide +kernel
theorem dX2_takeOut_43 : decode cX2_takeOut 43 = .ok (.getfield 9, 3) := by decide +kernel
theorem dX2_takeOut_46 : decode cX2_takeOut 46 = .ok (.iload_n 2, 1) := by decide +kernel
theorem dX2_takeOut_47 : decode cX2_takeOut 47 = .ok (.iconst 1, 1) := by decide +kernel
theorem dX2_takeOut_48 : decode cX2_takeOut 48 = .ok (.iadd, 1) := by decide +kernel
theorem dX2_takeOut_49 : decode cX2_takeOut 49 = .ok (.iaload, 1) := by decide +kernel
theorem dX2_takeOut_50 : decode cX2_takeOut 50 = .ok (.iastore, 1) := by decide +kernel
theorem dX2_takeOut_51 : decode cX2_takeOut 51 = .ok (.aload_n 0, 1) := by decide +kernel
theorem dX2_takeOut_52 : decode cX2_takeOut 52 = .ok (.getfield 15, 3) := by decide +kernel
theorem dX2_takeOut_55 : decode cX2_takeOut 55 = .ok (.iload_n 2, 1) := by decide +kernel
theorem dX2_takeOut_56 : decode cX2_takeOut 56 = .ok (.aload_n 0, 1) := by decide +kernel
theorem dX2_takeOut_57 : decode cX2_takeOut 57 = .ok (.getfield 15, 3) := by decide +kernel
theorem dX2_takeOut_60 : decode cX2_takeOut 60 = .ok (.iload_n 2, 1) := by decide +kernel
theorem dX2_takeOut_61 : decode cX2_takeOut 61 = .ok (.iconst 1, 1) := by decide +kernel
theorem dX2_takeOut_62 : decode cX2_takeOut 62 = .ok (.iadd, 1) := by decide +kernel
theorem dX2_takeOut_63 : decode cX2_takeOut 63 = .ok (.iaload, 1) := by decide +kernel
theorem dX2_takeOut_64 : decode cX2_takeOut 64 = .ok (.iastore, 1) := by decide +kernel
theorem dX2_takeOut_65 : decode cX2_takeOut 65 = .ok (.iinc 2 1, 3) := by decide +kernel
theorem dX2_takeOut_68 : decode cX2_takeOut 68 = .ok (.goto (-47), 3) := by decide +kernel
theorem dX2_takeOut_71 : decode cX2_takeOut 71 = .ok (.return_, 1) := by decide +kernel
theorem dX2_copyFrom_0 : decode cX2_copyFrom 0 = .ok (.aload_n 0, 1) := by decide +kernel
theorem dX2_copyFrom_1 : decode cX2_copyFrom 1 = .ok (.aload_n 1, 1) := by decide +kernel
theorem dX2_copyFrom_2 : decode cX2_copyFrom 2 = .ok (.getfield 18, 3) := by decide +kernel
theorem dX2_copyFrom_5 : decode cX2_copyFrom 5 = .ok (.putfield 18, 3) := by decide +kernel
theorem dX2_copyFrom_8 : decode cX2_copyFrom 8 = .ok (.aload_n 1, 1) := by decide +kernel
theorem dX2_copyFrom_9 : decode cX2_copyFrom 9 = .ok (.getfield 9, 3) := by decide +kernel
theorem dX2_copyFrom_12 : decode cX2_copyFrom 12 = .ok (.iconst 0, 1) := by decide +kernel
theorem dX2_copyFrom_13 : decode cX2_copyFrom 13 = .ok (.aload_n 0, 1) := by decide +kernel
theorem dX2_copyFrom_14 : decode cX2_copyFrom 14 = .ok (.getfield 9, 3) := by decide +kernel
theorem dX2_copyFrom_17 : decode cX2_copyFrom 17 = .ok (.iconst 0, 1) := by decide +kernel
theorem dX2_copyFrom_18 : decode cX2_copyFrom 18 = .ok (.bipush 8, 2) := by decide +kernel
theorem dX2_copyFrom_20 : decode cX2_copyFrom 20 = .ok (.invokestatic 37, 3) := by decide +kernel
theorem dX2_copyFrom_23 : decode cX2_copyFrom 23 = .ok (.aload_n 1, 1) := by decide +kernel
theorem dX2_copyFrom_24 : decode cX2_copyFrom 24 = .ok (.getfield 15, 3) := by decide +kernel
theorem dX2_copyFrom_27 : decode cX2_copyFrom 27 = .ok (.iconst 0, 1) := by decide +kernel
theorem dX2_copyFrom_28 : decode cX2_copyFrom 28 = .ok (.aload_n 0, 1) := by decide +kernel
theorem dX2_copyFrom_29 : decode cX2_copyFrom 29 = .ok (.getfield 15, 3) := by decide +kernel
theorem dX2_copyFrom_32 : decode cX2_copyFrom 32 = .ok (.iconst 0, 1) := by decide +kernel
theorem dX2_copyFrom_33 : decode cX2_copyFrom 33 = .ok (.bipush 8, 2) := by decide +kernel
theorem dX2_copyFrom_35 : decode cX2_copyFrom 35 = .ok (.invokestatic 37, 3) := by decide +kernel
theorem dX2_copyFrom_38 : decode cX2_copyFrom 38 = .ok (.return_, 1) := by decide +kernel
set_option maxRecDepth 20000 in
theorem ggX3_init_X2_init : GoodIn wsX3_init wsX2_init := goodIn_r _ [19, 20, 2, 3, 21, 22, 23, 42, 43, 44] (by decide +kernel) (by decide +kernel)
set_option maxRecDepth 20000 in
theorem gX3_init_X2_init_n20 : GoodIn wsX3_init (wsX2_init) := ggX3_init_X2_init
set_option maxRecDepth 20000 in
theorem ggX3_init_X1_init : GoodIn wsX3_init wsX1_init := goodIn_r _ [25, 26, 2, 3, 21, 27, 45, 46] (by decide +kernel) (by decide +kernel)
set_option maxRecDepth 20000 in
theorem gX3_init_X1_init_n27 : GoodIn wsX3_init (wsX1_init) := ggX3_init_X1_init
set_option maxRecDepth 20000 in
theorem ggX3_init_X4_init : GoodIn wsX3_init wsX4_init := goodIn_r _ [29, 30, 2, 3, 21, 31, 32, 33, 34, 35, 36, 47, 48, 49, 50, 51, 52, 53, 54, 55, 56] (by decide +kernel) (by decide +kernel)
set_option maxRecDepth 20000 in
theorem gX3_init_X4_init_n34 : GoodIn wsX3_init (wsX4_init) := ggX3_init_X4_init
theorem dX3_init_0 : decode cX3_init 0 = .ok (.aload_n 0, 1) := by decide +kernel
theorem dX3_init_1 : decode cX3_init 1 = .ok (.invokespecial 3, 3) := by decide +kernel
theorem dX3_init_4 : decode cX3_init 4 = .ok (.aload_n 0, 1) := by decide +kernel
theorem dX3_init_5 : decode cX3_init 5 = .ok (.iconst 0, 1) := by decide +kernel
theorem dX3_init_6 : decode cX3_init 6 = .ok (.putfield 9, 3) := by decide +kernel
theorem dX3_init_9 : decode cX3_init 9 = .ok (.aload_n 0, 1) := by decide +kernel
theorem dX3_init_10 : decode cX3_init 10 = .ok (.iconst 4, 1) := by decide +kernel
theorem dX3_init_11 : decode cX3_init 11 = .ok (.putfield 15, 3) := by decide +kernel
theorem dX3_init_14 : decode cX3_init 14 = .ok (.aload_n 0, 1) := by decide +kernel
theorem dX3_init_15 : decode cX3_init 15 = .ok (.new 18, 3) := by decide +kernel
theorem dX3_init_18 : decode cX3_init 18 = .ok (.dup, 1) := by decide +kernel
theorem dX3_init_19 : decode cX3_init 19 = .ok (.invokespecial 20, 3) := by decide +kernel
theorem dX3_init_22 : decode cX3_init 22 = .ok (.putfield 21, 3) := by decide +kernel
theorem dX3_init_25 : decode cX3_init 25 = .ok (.aload_n 0, 1) := by decide +kernel
theorem dX3_init_26 : decode cX3_init 26 = .ok (.new 25, 3) := by decide +kernel
theorem dX3_init_29 : decode cX3_init 29 = .ok (.dup, 1) := by decide +kernel
theorem dX3_init_30 : decode cX3_init 30 = .ok (.invokespecial 27, 3) := by decide +kernel
theorem dX3_init_33 : decode cX3_init 33 = .ok (.putfield 28, 3) := by decide +kernel
theorem dX3_init_36 : decode cX3_init 36 = .ok (.aload_n 0, 1) := by decide +kernel
theorem dX3_init_37 : decode cX3_init 37 = .ok (.new 32, 3) := by decide +kernel
theorem dX3_init_40 : decode cX3_init 40 = .ok (.dup, 1) := by decide +kernel
theorem dX3_init_41 : decode cX3_init 41 = .ok (.invokespecial 34, 3) := by decide +kernel
theorem dX3_init_44 : decode cX3_init 44 = .ok (.putfield 35, 3) := by decide +kernel
theorem dX3_init_47 : decode cX3_init 47 = .ok (.return_, 1) := by decide +kernel
set_option maxRecDepth 20000 in
theorem ggX3_apart_X1_has : GoodIn wsX3_apart wsX1_has := goodIn_r _ [7, 8, 26, 27] (by decide +kernel) (by decide +kernel)
set_option maxRecDepth 20000 in
theorem gX3_apart_X1_has_n39 : GoodIn wsX3_apart (wsX1_has) := ggX3_apart_X1_has
set_option maxRecDepth 20000 in
theorem ggX3_apart_X2_has : GoodIn wsX3_apart wsX2_has := goodIn_r _ [12, 13, 28, 29, 30] (by decide +kernel) (by decide +kernel)
set_option maxRecDepth 20000 in
theorem gX3_apart_X2_has_n43 : GoodIn wsX3_apart (wsX2_has) := ggX3_apart_X2_has
set_option maxRecDepth 20000 in
theorem ggX3_apart_X5_dotsApart : GoodIn wsX3_apart wsX5_dotsApart := goodIn_r _ [16, 17, 18, 19, 20] (by decide +kernel) (by decide +kernel)
set_option maxRecDepth 20000 in
theorem gX3_apart_X5_dotsApart_n49 : GoodIn wsX3_apart (wsX5_dotsApart) := ggX3_apart_X5_dotsApart
theorem dX3_apart_0 : decode cX3_apart 0 = .ok (.aload_n 0, 1) := by decide +kernel
theorem dX3_apart_1 : decode cX3_apart 1 = .ok (.getfield 28, 3) := by decide +kernel
theorem dX3_apart_4 : decode cX3_apart 4 = .ok (.iload_n 1, 1) := by decide +kernel
theorem dX3_apart_5 : decode cX3_apart 5 = .ok (.invokevirtual 39, 3) := by decide +kernel
theorem dX3_apart_8 : decode cX3_apart 8 = .ok (.ifCond .eq 14, 3) := by decide +kernel
theorem dX3_apart_11 : decode cX3_apart 11 = .ok (.aload_n 0, 1) := by decide +kernel
theorem dX3_apart_12 : decode cX3_apart 12 = .ok (.getfield 21, 3) := by decide +kernel
theorem dX3_apart_15 : decode cX3_apart 15 = .ok (.iload_n 2, 1) := by decide +kernel
theorem dX3_apart_16 : decode cX3_apart 16 = .ok (.invokevirtual 43, 3) := by decide +kernel
theorem dX3_apart_19 : decode cX3_apart 19 = .ok (.ifCond .ne 5, 3) := by decide +kernel
theorem dX3_apart_22 : decode cX3_apart 22 = .ok (.iconst 0, 1) := by decide +kernel
theorem dX3_apart_23 : decode cX3_apart 23 = .ok (.ireturn, 1) := by decide +kernel
theorem dX3_apart_24 : decode cX3_apart 24 = .ok (.aload_n 0, 1) := by decide +kernel
theorem dX3_apart_25 : decode cX3_apart 25 = .ok (.getfield 28, 3) := by decide +kernel
theorem dX3_apart_28 : decode cX3_apart 28 = .ok (.getfield 44, 3) := by decide +kernel
theorem dX3_apart_31 : decode cX3_apart 31 = .ok (.iload_n 1, 1) := by decide +kernel
theorem dX3_apart_32 : decode cX3_apart 32 = .ok (.iaload, 1) := by decide +kernel
theorem dX3_apart_33 : decode cX3_apart 33 = .ok (.aload_n 0, 1) := by decide +kernel
theorem dX3_apart_34 : decode cX3_apart 34 = .ok (.getfield 21, 3) := by decide +kernel
theorem dX3_apart_37 : decode cX3_apart 37 = .ok (.getfield 48, 3) := by decide +kernel
theorem dX3_apart_40 : decode cX3_apart 40 = .ok (.iload_n 2, 1) := by decide +kernel
theorem dX3_apart_41 : decode cX3_apart 41 = .ok (.iaload, 1) := by decide +kernel
theorem dX3_apart_42 : decode cX3_apart 42 = .ok (.aload_n 0, 1) := by decide +kernel
theorem dX3_apart_43 : decode cX3_apart 43 = .ok (.getfield 9, 3) := by decide +kernel
theorem dX3_apart_46 : decode cX3_apart 46 = .ok (.invokestatic 49, 3) := by decide +kernel
theorem dX3_apart_49 : decode cX3_apart 49 = .ok (.ireturn, 1) := by decide +kernel
set_option maxRecDepth 20000 in
theorem ggX3_greatestDifference_X3_apart : GoodIn wsX3_greatestDifference wsX3_apart := goodIn_r _ [11, 1, 2, 12, 13, 14, 15, 16, 17, 18, 19, 20, 21, 22, 23, 24, 25, 26, 27, 5, 28, 29, 30, 31, 32, 33, 34, 35, 36, 37, 38] (by decide +kernel) (by decide +kernel)
set_option maxRecDepth 20000 in
theorem gX3_greatestDifference_X3_apart : GoodIn wsX3_greatestDifference (wsV RX3 57 RX3 yX3_apart wsX3_apart) := goodIn_app (goodIn_of _ (by decide +kernel)) ggX3_greatestDifference_X3_apart
theorem dX3_greatestDifference_0 : decode cX3_greatestDifference 0 = .ok (.iconst 0, 1) := by decide +kernel
theorem dX3_greatestDifference_1 : decode cX3_greatestDifference 1 = .ok (.istore_n 1, 1) := by decide +kernel
theorem dX3_greatestDifference_2 : decode cX3_greatestDifference 2 = .ok (.iconst 0, 1) := by decide +kernel
theorem dX3_greatestDifference_3 : decode cX3_greatestDifference 3 = .ok (.istore_n 2, 1) := by decide +kernel
theorem dX3_greatestDifference_4 : decode cX3_greatestDifference 4 = .ok (.iload_n 2, 1) := by decide +kernel
theorem dX3_greatestDifference_5 : decode cX3_greatestDifference 5 = .ok (.aload_n 0, 1) := by decide +kernel
theorem dX3_greatestDifference_6 : decode cX3_greatestDifference 6 = .ok (.getfield 28, 3) := by decide +kernel
theorem dX3_greatestDifference_9 : decode cX3_greatestDifference 9 = .ok (.getfield 53, 3) := by decide +kernel
theorem dX3_greatestDifference_12 : decode cX3_greatestDifference 12 = .ok (.if_icmp .ge 39, 3) := by decide +kernel
theorem dX3_greatestDifference_15 : decode cX3_greatestDifference 15 = .ok (.iconst 0, 1) := by decide +kernel
theorem dX3_greatestDifference_16 : decode cX3_greatestDifference 16 = .ok (.istore_n 3, 1) := by decide +kernel
theorem dX3_greatestDifference_17 : decode cX3_greatestDifference 17 = .ok (.iload_n 3, 1) := by decide +kernel
theorem dX3_greatestDifference_18 : decode cX3_greatestDifference 18 = .ok (.aload_n 0, 1) := by decide +kernel
theorem dX3_greatestDifference_19 : decode cX3_greatestDifference 19 = .ok (.getfield 21, 3) := by decide +kernel
theorem dX3_greatestDifference_22 : decode cX3_greatestDifference 22 = .ok (.getfield 56, 3) := by decide +kernel
theorem dX3_greatestDifference_25 : decode cX3_greatestDifference 25 = .ok (.if_icmp .ge 20, 3) := by decide +kernel
theorem dX3_greatestDifference_28 : decode cX3_greatestDifference 28 = .ok (.iload_n 1, 1) := by decide +kernel
theorem dX3_greatestDifference_29 : decode cX3_greatestDifference 29 = .ok (.aload_n 0, 1) := by decide +kernel
theorem dX3_greatestDifference_30 : decode cX3_greatestDifference 30 = .ok (.iload_n 2, 1) := by decide +kernel
theorem dX3_greatestDifference_31 : decode cX3_greatestDifference 31 = .ok (.iload_n 3, 1) := by decide +kernel
theorem dX3_greatestDifference_32 : decode cX3_greatestDifference 32 = .ok (.invokevirtual 57, 3) := by decide +kernel
theorem dX3_greatestDifference_35 : decode cX3_greatestDifference 35 = .ok (.invokestatic 61, 3) := by decide +kernel
theorem dX3_greatestDifference_38 : decode cX3_greatestDifference 38 = .ok (.istore_n 1, 1) := by decide +kernel
theorem dX3_greatestDifference_39 : decode cX3_greatestDifference 39 = .ok (.iinc 3 1, 3) := by decide +kernel
theorem dX3_greatestDifference_42 : decode cX3_greatestDifference 42 = .ok (.goto (-25), 3) := by decide +kernel
theorem dX3_greatestDifference_45 : decode cX3_greatestDifference 45 = .ok (.iinc 2 1, 3) := by decide +kernel
theorem dX3_greatestDifference_48 : decode cX3_greatestDifference 48 = .ok (.goto (-44), 3) := by decide +kernel
theorem dX3_greatestDifference_51 : decode cX3_greatestDifference 51 = .ok (.iload_n 1, 1) := by decide +kernel
theorem dX3_greatestDifference_52 : decode cX3_greatestDifference 52 = .ok (.ireturn, 1) := by decide +kernel
set_option maxRecDepth 20000 in
theorem ggX3_kindOf_X4_slotOf : GoodIn wsX3_kindOf wsX4_slotOf := goodIn_r _ [6, 7, 8, 9, 4, 10, 22, 23, 24, 25, 26, 27, 28, 29, 30, 31] (by decide +kernel) (by decide +kernel)
set_option maxRecDepth 20000 in
theorem gX3_kindOf_X4_slotOf_n66 : GoodIn wsX3_kindOf (wsX4_slotOf) := ggX3_kindOf_X4_slotOf
set_option maxRecDepth 20000 in
theorem ggX3_kindOf_X2_ofSlot : GoodIn wsX3_kindOf wsX2_ofSlot := goodIn_r _ [14, 15, 16, 32, 33, 34] (by decide +kernel) (by decide +kernel)
set_option maxRecDepth 20000 in
theorem gX3_kindOf_X2_ofSlot_n70 : GoodIn wsX3_kindOf (wsX2_ofSlot) := ggX3_kindOf_X2_ofSlot
theorem dX3_kindOf_0 : decode cX3_kindOf 0 = .ok (.aload_n 0, 1) := by decide +kernel
theorem dX3_kindOf_1 : decode cX3_kindOf 1 = .ok (.getfield 21, 3) := by decide +kernel
theorem dX3_kindOf_4 : decode cX3_kindOf 4 = .ok (.aload_n 0, 1) := by decide +kernel
theorem dX3_kindOf_5 : decode cX3_kindOf 5 = .ok (.getfield 35, 3) := by decide +kernel
theorem dX3_kindOf_8 : decode cX3_kindOf 8 = .ok (.iload_n 1, 1) := by decide +kernel
theorem dX3_kindOf_9 : decode cX3_kindOf 9 = .ok (.invokevirtual 66, 3) := by decide +kernel
theorem dX3_kindOf_12 : decode cX3_kindOf 12 = .ok (.invokevirtual 70, 3) := by decide +kernel
theorem dX3_kindOf_15 : decode cX3_kindOf 15 = .ok (.ireturn, 1) := by decide +kernel
set_option maxRecDepth 20000 in
theorem ggX3_cellOf_X4_isInRow : GoodIn wsX3_cellOf wsX4_isInRow := goodIn_r _ [5] (by decide +kernel) (by decide +kernel)
set_option maxRecDepth 20000 in
theorem gX3_cellOf_X4_isInRow_n73 : GoodIn wsX3_cellOf (wsX4_isInRow) := ggX3_cellOf_X4_isInRow
set_option maxRecDepth 20000 in
theorem ggX3_cellOf_X1_has : GoodIn wsX3_cellOf wsX1_has := goodIn_r _ [9, 10, 26, 27] (by decide +kernel) (by decide +kernel)
set_option maxRecDepth 20000 in
theorem gX3_cellOf_X1_has_n39 : GoodIn wsX3_cellOf (wsX1_has) := ggX3_cellOf_X1_has
theorem dX3_cellOf_0 : decode cX3_cellOf 0 = .ok (.iload_n 1, 1) := by decide +kernel
theorem dX3_cellOf_1 : decode cX3_cellOf 1 = .ok (.invokestatic 73, 3) := by decide +kernel
theorem dX3_cellOf_4 : decode cX3_cellOf 4 = .ok (.ifCond .ne 6, 3) := by decide +kernel
theorem dX3_cellOf_7 : decode cX3_cellOf 7 = .ok (.bipush (-6), 2) := by decide +kernel
theorem dX3_cellOf_9 : decode cX3_cellOf 9 = .ok (.ireturn, 1) := by decide +kernel
theorem dX3_cellOf_10 : decode cX3_cellOf 10 = .ok (.aload_n 0, 1) := by decide +kernel
theorem dX3_cellOf_11 : decode cX3_cellOf 11 = .ok (.getfield 35, 3) := by decide +kernel
theorem dX3_cellOf_14 : decode cX3_cellOf 14 = .ok (.getfield 76, 3) := by decide +kernel
theorem dX3_cellOf_17 : decode cX3_cellOf 17 = .ok (.iload_n 1, 1) := by decide +kernel
theorem dX3_cellOf_18 : decode cX3_cellOf 18 = .ok (.iaload, 1) := by decide +kernel
theorem dX3_cellOf_19 : decode cX3_cellOf 19 = .ok (.istore_n 2, 1) := by decide +kernel
theorem dX3_cellOf_20 : decode cX3_cellOf 20 = .ok (.aload_n 0, 1) := by decide +kernel
theorem dX3_cellOf_21 : decode cX3_cellOf 21 = .ok (.getfield 28, 3) := by decide +kernel
theorem dX3_cellOf_24 : decode cX3_cellOf 24 = .ok (.iload_n 2, 1) := by decide +kernel
theorem dX3_cellOf_25 : decode cX3_cellOf 25 = .ok (.invokevirtual 39, 3) := by decide +kernel
theorem dX3_cellOf_28 : decode cX3_cellOf 28 = .ok (.ifCond .eq 7, 3) := by decide +kernel
theorem dX3_cellOf_31 : decode cX3_cellOf 31 = .ok (.iload_n 2, 1) := by decide +kernel
theorem dX3_cellOf_32 : decode cX3_cellOf 32 = .ok (.goto 5, 3) := by decide +kernel
theorem dX3_cellOf_35 : decode cX3_cellOf 35 = .ok (.bipush (-6), 2) := by decide +kernel
theorem dX3_cellOf_37 : decode cX3_cellOf 37 = .ok (.ireturn, 1) := by decide +kernel
set_option maxRecDepth 20000 in
theorem ggX3_cellsThatHave_X3_kindOf : GoodIn wsX3_cellsThatHave wsX3_kindOf := goodIn_r _ [6, 7, 8, 9, 10, 11, 12, 13, 14, 15, 16, 17, 18, 19, 20, 21, 22, 23, 24, 25, 26, 27, 30, 31, 32, 33, 34, 35, 36, 37, 38, 39, 40, 41, 42] (by decide +kernel) (by decide +kernel)
set_option maxRecDepth 20000 in
theorem gX3_cellsThatHave_X3_kindOf : GoodIn wsX3_cellsThatHave (wsV RX3 79 RX3 yX3_kindOf wsX3_kindOf) := goodIn_app (goodIn_of _ (by decide +kernel)) ggX3_cellsThatHave_X3_kindOf
theorem dX3_cellsThatHave_0 : decode cX3_cellsThatHave 0 = .ok (.iconst 0, 1) := by decide +kernel
theorem dX3_cellsThatHave_1 : decode cX3_cellsThatHave 1 = .ok (.istore_n 2, 1) := by decide +kernel
theorem dX3_cellsThatHave_2 : decode cX3_cellsThatHave 2 = .ok (.iconst 0, 1) := by decide +kernel
theorem dX3_cellsThatHave_3 : decode cX3_cellsThatHave 3 = .ok (.istore_n 3, 1) := by decide +kernel
theorem dX3_cellsThatHave_4 : decode cX3_cellsThatHave 4 = .ok (.iload_n 3, 1) := by decide +kernel
theorem dX3_cellsThatHave_5 : decode cX3_cellsThatHave 5 = .ok (.aload_n 0, 1) := by decide +kernel
theorem dX3_cellsThatHave_6 : decode cX3_cellsThatHave 6 = .ok (.getfield 28, 3) := by decide +kernel
theorem dX3_cellsThatHave_9 : decode cX3_cellsThatHave 9 = .ok (.getfield 53, 3) := by decide +kernel
theorem dX3_cellsThatHave_12 : decode cX3_cellsThatHave 12 = .ok (.if_icmp .ge 21, 3) := by decide +kernel
theorem dX3_cellsThatHave_15 : decode cX3_cellsThatHave 15 = .ok (.aload_n 0, 1) := by decide +kernel
theorem dX3_cellsThatHave_16 : decode cX3_cellsThatHave 16 = .ok (.iload_n 3, 1) := by decide +kernel
theorem dX3_cellsThatHave_17 : decode cX3_cellsThatHave 17 = .ok (.invokevirtual 79, 3) := by decide +kernel
theorem dX3_cellsThatHave_20 : decode cX3_cellsThatHave 20 = .ok (.iload_n 1, 1) := by decide +kernel
theorem dX3_cellsThatHave_21 : decode cX3_cellsThatHave 21 = .ok (.if_icmp .ne 6, 3) := by decide +kernel
theorem dX3_cellsThatHave_24 : decode cX3_cellsThatHave 24 = .ok (.iinc 2 1, 3) := by decide +kernel
theorem dX3_cellsThatHave_27 : decode cX3_cellsThatHave 27 = .ok (.iinc 3 1, 3) := by decide +kernel
theorem dX3_cellsThatHave_30 : decode cX3_cellsThatHave 30 = .ok (.goto (-26), 3) := by decide +kernel
theorem dX3_cellsThatHave_33 : decode cX3_cellsThatHave 33 = .ok (.iload_n 2, 1) := by decide +kernel
theorem dX3_cellsThatHave_34 : decode cX3_cellsThatHave 34 = .ok (.ireturn, 1) := by decide +kernel
set_option maxRecDepth 20000 in
theorem ggX3_sumOfDifferences_X3_kindOf : GoodIn wsX3_sumOfDifferences wsX3_kindOf := goodIn_r _ [6, 7, 8, 9, 10, 11, 12, 13, 14, 15, 16, 17, 18, 19, 20, 21, 22, 43, 44, 45, 46, 47, 50, 51, 52, 53, 54, 55, 56, 57, 58, 59, 60, 61, 62] (by decide +kernel) (by decide +kernel)
set_option maxRecDepth 20000 in
theorem gX3_sumOfDifferences_X3_kindOf : GoodIn wsX3_sumOfDifferences (wsV RX3 79 RX3 yX3_kindOf wsX3_kindOf) := goodIn_app (goodIn_of _ (by decide +kernel)) ggX3_sumOfDifferences_X3_kindOf
set_option maxRecDepth 20000 in
theorem ggX3_sumOfDifferences_X3_apart : GoodIn wsX3_sumOfDifferences wsX3_apart := goodIn_r _ [26, 1, 7, 27, 28, 29, 30, 31, 32, 33, 18, 34, 35, 21, 36, 37, 38, 39, 40, 41, 42, 43, 44, 45, 46, 47, 48, 49, 60, 61, 62] (by decide +kernel) (by decide +kernel)
set_option maxRecDepth 20000 in
theorem gX3_sumOfDifferences_X3_apart : GoodIn wsX3_sumOfDifferences (wsV RX3 57 RX3 yX3_apart wsX3_apart) := goodIn_app (goodIn_of _ (by decide +kernel)) ggX3_sumOfDifferences_X3_apart
theorem dX3_sumOfDifferences_0 : decode cX3_sumOfDifferences 0 = .ok (.iconst 0, 1) := by decide +kernel
theorem dX3_sumOfDifferences_1 : decode cX3_sumOfDifferences 1 = .ok (.istore_n 1, 1) := by decide +kernel
theorem dX3_sumOfDifferences_2 : decode cX3_sumOfDifferences 2 = .ok (.iconst 0, 1) := by decide +kernel
theorem dX3_sumOfDifferences_3 : decode cX3_sumOfDifferences 3 = .ok (.istore_n 2, 1) := by decide +kernel
theorem dX3_sumOfDifferences_4 : decode cX3_sumOfDifferences 4 = .ok (.iload_n 2, 1) := by decide +kernel
theorem dX3_sumOfDifferences_5 : decode cX3_sumOfDifferences 5 = .ok (.aload_n 0, 1) := by decide +kernel
theorem dX3_sumOfDifferences_6 : decode cX3_sumOfDifferences 6 = .ok (.getfield 28, 3) := by decide +kernel
theorem dX3_sumOfDifferences_9 : decode cX3_sumOfDifferences 9 = .ok (.getfield 53, 3) := by decide +kernel
theorem dX3_sumOfDifferences_12 : decode cX3_sumOfDifferences 12 = .ok (.if_icmp .ge 22, 3) := by decide +kernel
theorem dX3_sumOfDifferences_15 : decode cX3_sumOfDifferences 15 = .ok (.iload_n 1, 1) := by decide +kernel
theorem dX3_sumOfDifferences_16 : decode cX3_sumOfDifferences 16 = .ok (.aload_n 0, 1) := by decide +kernel
theorem dX3_sumOfDifferences_17 : decode cX3_sumOfDifferences 17 = .ok (.iload_n 2, 1) := by decide +kernel
theorem dX3_sumOfDifferences_18 : decode cX3_sumOfDifferences 18 = .ok (.aload_n 0, 1) := by decide +kernel
theorem dX3_sumOfDifferences_19 : decode cX3_sumOfDifferences 19 = .ok (.iload_n 2, 1) := by decide +kernel
theorem dX3_sumOfDifferences_20 : decode cX3_sumOfDifferences 20 = .ok (.invokevirtual 79, 3) := by decide +kernel
theorem dX3_sumOfDifferences_23 : decode cX3_sumOfDifferences 23 = .ok (.invokevirtual 57, 3) := by decide +kernel
theorem dX3_sumOfDifferences_26 : decode cX3_sumOfDifferences 26 = .ok (.iadd, 1) := by decide +kernel
theorem dX3_sumOfDifferences_27 : decode cX3_sumOfDifferences 27 = .ok (.istore_n 1, 1) := by decide +kernel
theorem dX3_sumOfDifferences_28 : decode cX3_sumOfDifferences 28 = .ok (.iinc 2 1, 3) := by decide +kernel
theorem dX3_sumOfDifferences_31 : decode cX3_sumOfDifferences 31 = .ok (.goto (-27), 3) := by decide +kernel
theorem dX3_sumOfDifferences_34 : decode cX3_sumOfDifferences 34 = .ok (.iload_n 1, 1) := by decide +kernel
theorem dX3_sumOfDifferences_35 : decode cX3_sumOfDifferences 35 = .ok (.ireturn, 1) := by decide +kernel
set_option maxRecDepth 20000 in
theorem ggX3_copyFrom_X2_copyFrom : GoodIn wsX3_copyFrom wsX2_copyFrom := goodIn_r _ [9, 10, 11, 12, 13, 14, 15, 16, 44, 45, 46] (by decide +kernel) (by decide +kernel)
set_option maxRecDepth 20000 in
theorem gX3_copyFrom_X2_copyFrom_n82 : GoodIn wsX3_copyFrom (wsX2_copyFrom) := ggX3_copyFrom_X2_copyFrom
set_option maxRecDepth 20000 in
theorem ggX3_copyFrom_X1_copyFrom : GoodIn wsX3_copyFrom wsX1_copyFrom := goodIn_r _ [20, 21, 22, 23, 13, 14, 15, 47, 48] (by decide +kernel) (by decide +kernel)
set_option maxRecDepth 20000 in
theorem gX3_copyFrom_X1_copyFrom_n86 : GoodIn wsX3_copyFrom (wsX1_copyFrom) := ggX3_copyFrom_X1_copyFrom
set_option maxRecDepth 20000 in
theorem ggX3_copyFrom_X4_copyFrom : GoodIn wsX3_copyFrom wsX4_copyFrom := goodIn_r _ [27, 28, 29, 30, 31, 32, 33, 13, 14, 15, 34, 35, 36, 37, 38, 49, 50, 51, 52, 53, 54, 55, 56, 57, 58] (by decide +kernel) (by decide +kernel)
set_option maxRecDepth 20000 in
theorem gX3_copyFrom_X4_copyFrom_n89 : GoodIn wsX3_copyFrom (wsX4_copyFrom) := ggX3_copyFrom_X4_copyFrom
theorem dX3_copyFrom_0 : decode cX3_copyFrom 0 = .ok (.aload_n 0, 1) := by decide +kernel
theorem dX3_copyFrom_1 : decode cX3_copyFrom 1 = .ok (.aload_n 1, 1) := by decide +kernel
theorem dX3_copyFrom_2 : decode cX3_copyFrom 2 = .ok (.getfield 9, 3) := by decide +kernel
theorem dX3_copyFrom_5 : decode cX3_copyFrom 5 = .ok (.putfield 9, 3) := by decide +kernel
theorem dX3_copyFrom_8 : decode cX3_copyFrom 8 = .ok (.aload_n 0, 1) := by decide +kernel
theorem dX3_copyFrom_9 : decode cX3_copyFrom 9 = .ok (.aload_n 1, 1) := by decide +kernel
theorem dX3_copyFrom_10 : decode cX3_copyFrom 10 = .ok (.getfield 15, 3) := by decide +kernel
theorem dX3_copyFrom_13 : decode cX3_copyFrom 13 = .ok (.putfield 15, 3) := by decide +kernel
theorem dX3_copyFrom_16 : decode cX3_copyFrom 16 = .ok (.aload_n 0, 1) := by decide +kernel
theorem dX3_copyFrom_17 : decode cX3_copyFrom 17 = .ok (.getfield 21, 3) := by decide +kernel
theorem dX3_copyFrom_20 : decode cX3_copyFrom 20 = .ok (.aload_n 1, 1) := by decide +kernel
theorem dX3_copyFrom_21 : decode cX3_copyFrom 21 = .ok (.getfield 21, 3) := by decide +kernel
theorem dX3_copyFrom_24 : decode cX3_copyFrom 24 = .ok (.invokevirtual 82, 3) := by decide +kernel
theorem dX3_copyFrom_27 : decode cX3_copyFrom 27 = .ok (.aload_n 0, 1) := by decide +kernel
theorem dX3_copyFrom_28 : decode cX3_copyFrom 28 = .ok (.getfield 28, 3) := by decide +kernel
theorem dX3_copyFrom_31 : decode cX3_copyFrom 31 = .ok (.aload_n 1, 1) := by decide +kernel
theorem dX3_copyFrom_32 : decode cX3_copyFrom 32 = .ok (.getfield 28, 3) := by decide +kernel
theorem dX3_copyFrom_35 : decode cX3_copyFrom 35 = .ok (.invokevirtual 86, 3) := by decide +kernel
theorem dX3_copyFrom_38 : decode cX3_copyFrom 38 = .ok (.aload_n 0, 1) := by decide +kernel
theorem dX3_copyFrom_39 : decode cX3_copyFrom 39 = .ok (.getfield 35, 3) := by decide +kernel
theorem dX3_copyFrom_42 : decode cX3_copyFrom 42 = .ok (.aload_n 1, 1) := by decide +kernel
theorem dX3_copyFrom_43 : decode cX3_copyFrom 43 = .ok (.getfield 35, 3) := by decide +kernel
theorem dX3_copyFrom_46 : decode cX3_copyFrom 46 = .ok (.invokevirtual 89, 3) := by decide +kernel
theorem dX3_copyFrom_49 : decode cX3_copyFrom 49 = .ok (.return_, 1) := by decide +kernel
theorem dX4_init_0 : decode cX4_init 0 = .ok (.aload_n 0, 1) := by decide +kernel
theorem dX4_init_1 : decode cX4_init 1 = .ok (.invokespecial 3, 3) := by decide +kernel
theorem dX4_init_4 : decode cX4_init 4 = .ok (.aload_n 0, 1) := by decide +kernel
theorem dX4_init_5 : decode cX4_init 5 = .ok (.bipush 16, 2) := by decide +kernel
theorem dX4_init_7 : decode cX4_init 7 = .ok (.newarray .int, 2) := by decide +kernel
theorem dX4_init_9 : decode cX4_init 9 = .ok (.putfield 9, 3) := by decide +kernel
theorem dX4_init_12 : decode cX4_init 12 = .ok (.aload_n 0, 1) := by decide +kernel
theorem dX4_init_13 : decode cX4_init 13 = .ok (.bipush 16, 2) := by decide +kernel
theorem dX4_init_15 : decode cX4_init 15 = .ok (.newarray .int, 2) := by decide +kernel
theorem dX4_init_17 : decode cX4_init 17 = .ok (.putfield 15, 3) := by decide +kernel
theorem dX4_init_20 : decode cX4_init 20 = .ok (.aload_n 0, 1) := by decide +kernel
theorem dX4_init_21 : decode cX4_init 21 = .ok (.bipush 16, 2) := by decide +kernel
theorem dX4_init_23 : decode cX4_init 23 = .ok (.newarray .int, 2) := by decide +kernel
theorem dX4_init_25 : decode cX4_init 25 = .ok (.putfield 18, 3) := by decide +kernel
theorem dX4_init_28 : decode cX4_init 28 = .ok (.aload_n 0, 1) := by decide +kernel
theorem dX4_init_29 : decode cX4_init 29 = .ok (.bipush 16, 2) := by decide +kernel
theorem dX4_init_31 : decode cX4_init 31 = .ok (.newarray .int, 2) := by decide +kernel
theorem dX4_init_33 : decode cX4_init 33 = .ok (.putfield 21, 3) := by decide +kernel
theorem dX4_init_36 : decode cX4_init 36 = .ok (.aload_n 0, 1) := by decide +kernel
theorem dX4_init_37 : decode cX4_init 37 = .ok (.bipush 16, 2) := by decide +kernel
theorem dX4_init_39 : decode cX4_init 39 = .ok (.newarray .int, 2) := by decide +kernel
theorem dX4_init_41 : decode cX4_init 41 = .ok (.putfield 24, 3) := by decide +kernel
theorem dX4_init_44 : decode cX4_init 44 = .ok (.aload_n 0, 1) := by decide +kernel
theorem dX4_init_45 : decode cX4_init 45 = .ok (.bipush 16, 2) := by decide +kernel
theorem dX4_init_47 : decode cX4_init 47 = .ok (.newarray .int, 2) := by decide +kernel
theorem dX4_init_49 : decode cX4_init 49 = .ok (.putfield 27, 3) := by decide +kernel
theorem dX4_init_52 : decode cX4_init 52 = .ok (.return_, 1) := by decide +kernel
theorem dX4_isDone_0 : decode cX4_isDone 0 = .ok (.aload_n 0, 1) := by decide +kernel
theorem dX4_isDone_1 : decode cX4_isDone 1 = .ok (.getfield 30, 3) := by decide +kernel
theorem dX4_isDone_4 : decode cX4_isDone 4 = .ok (.ifCond .eq 14, 3) := by decide +kernel
theorem dX4_isDone_7 : decode cX4_isDone 7 = .ok (.aload_n 0, 1) := by decide +kernel
theorem dX4_isDone_8 : decode cX4_isDone 8 = .ok (.getfield 34, 3) := by decide +kernel
theorem dX4_isDone_11 : decode cX4_isDone 11 = .ok (.ifCond .eq 7, 3) := by decide +kernel
theorem dX4_isDone_14 : decode cX4_isDone 14 = .ok (.iconst 1, 1) := by decide +kernel
theorem dX4_isDone_15 : decode cX4_isDone 15 = .ok (.goto 4, 3) := by decide +kernel
theorem dX4_isDone_18 : decode cX4_isDone 18 = .ok (.iconst 0, 1) := by decide +kernel
theorem dX4_isDone_19 : decode cX4_isDone 19 = .ok (.ireturn, 1) := by decide +kernel
theorem dX4_hasPhase_0 : decode cX4_hasPhase 0 = .ok (.iload_n 1, 1) := by decide +kernel
theorem dX4_hasPhase_1 : decode cX4_hasPhase 1 = .ok (.ifCond .lt 21, 3) := by decide +kernel
theorem dX4_hasPhase_4 : decode cX4_hasPhase 4 = .ok (.iload_n 1, 1) := by decide +kernel
theorem dX4_hasPhase_5 : decode cX4_hasPhase 5 = .ok (.aload_n 0, 1) := by decide +kernel
theorem dX4_hasPhase_6 : decode cX4_hasPhase 6 = .ok (.getfield 37, 3) := by decide +kernel
theorem dX4_hasPhase_9 : decode cX4_hasPhase 9 = .ok (.if_icmp .ge 13, 3) := by decide +kernel
theorem dX4_hasPhase_12 : decode cX4_hasPhase 12 = .ok (.iload_n 1, 1) := by decide +kernel
theorem dX4_hasPhase_13 : decode cX4_hasPhase 13 = .ok (.bipush 16, 2) := by decide +kernel
theorem dX4_hasPhase_15 : decode cX4_hasPhase 15 = .ok (.if_icmp .ge 7, 3) := by decide +kernel
theorem dX4_hasPhase_18 : decode cX4_hasPhase 18 = .ok (.iconst 1, 1) := by decide +kernel
theorem dX4_hasPhase_19 : decode cX4_hasPhase 19 = .ok (.goto 4, 3) := by decide +kernel
theorem dX4_hasPhase_22 : decode cX4_hasPhase 22 = .ok (.iconst 0, 1) := by decide +kernel
theorem dX4_hasPhase_23 : decode cX4_hasPhase 23 = .ok (.ireturn, 1) := by decide +kernel
theorem dX4_begin_0 : decode cX4_begin 0 = .ok (.aload_n 0, 1) := by decide +kernel
theorem dX4_begin_1 : decode cX4_begin 1 = .ok (.iconst 0, 1) := by decide +kernel
theorem dX4_begin_2 : decode cX4_begin 2 = .ok (.putfield 37, 3) := by decide +kernel
theorem dX4_begin_5 : decode cX4_begin 5 = .ok (.iconst 0, 1) := by decide +kernel
theorem dX4_begin_6 : decode cX4_begin 6 = .ok (.istore_n 1, 1) := by decide +kernel
theorem dX4_begin_7 : decode cX4_begin 7 = .ok (.iload_n 1, 1) := by decide +kernel
theorem dX4_begin_8 : decode cX4_begin 8 = .ok (.bipush 16, 2) := by decide +kernel
theorem dX4_begin_10 : decode cX4_begin 10 = .ok (.if_icmp .ge 16, 3) := by decide +kernel
theorem dX4_begin_13 : decode cX4_begin 13 = .ok (.aload_n 0, 1) := by decide +kernel
theorem dX4_begin_14 : decode cX4_begin 14 = .ok (.getfield 9, 3) := by decide +kernel
theorem dX4_begin_17 : decode cX4_begin 17 = .ok (.iload_n 1, 1) := by decide +kernel
theorem dX4_begin_18 : decode cX4_begin 18 = .ok (.iconst 0, 1) := by decide +kernel
theorem dX4_begin_19 : decode cX4_begin 19 = .ok (.iastore, 1) := by decide +kernel
theorem dX4_begin_20 : decode cX4_begin 20 = .ok (.iinc 1 1, 3) := by decide +kernel
theorem dX4_begin_23 : decode cX4_begin 23 = .ok (.goto (-16), 3) := by decide +kernel
theorem dX4_begin_26 : decode cX4_begin 26 = .ok (.return_, 1) := by decide +kernel
theorem dX4_finish_0 : decode cX4_finish 0 = .ok (.aload_n 0, 1) := by decide +kernel
theorem dX4_finish_1 : decode cX4_finish 1 = .ok (.iload_n 1, 1) := by decide +kernel
theorem dX4_finish_2 : decode cX4_finish 2 = .ok (.putfield 41, 3) := by decide +kernel
theorem dX4_finish_5 : decode cX4_finish 5 = .ok (.aload_n 0, 1) := by decide +kernel
theorem dX4_finish_6 : decode cX4_finish 6 = .ok (.iconst 1, 1) := by decide +kernel
theorem dX4_finish_7 : decode cX4_finish 7 = .ok (.putfield 30, 3) := by decide +kernel
theorem dX4_finish_10 : decode cX4_finish 10 = .ok (.aload_n 0, 1) := by decide +kernel
theorem dX4_finish_11 : decode cX4_finish 11 = .ok (.iconst 1, 1) := by decide +kernel
theorem dX4_finish_12 : decode cX4_finish 12 = .ok (.putfield 34, 3) := by decide +kernel
theorem dX4_finish_15 : decode cX4_finish 15 = .ok (.return_, 1) := by decide +kernel
theorem dX4_notePhase_0 : decode cX4_notePhase 0 = .ok (.aload_n 0, 1) := by decide +kernel
theorem dX4_notePhase_1 : decode cX4_notePhase 1 = .ok (.getfield 37, 3) := by decide +kernel
theorem dX4_notePhase_4 : decode cX4_notePhase 4 = .ok (.ifCond .lt 12, 3) := by decide +kernel
theorem dX4_notePhase_7 : decode cX4_notePhase 7 = .ok (.aload_n 0, 1) := by decide +kernel
theorem dX4_notePhase_8 : decode cX4_notePhase 8 = .ok (.getfield 37, 3) := by decide +kernel
theorem dX4_notePhase_11 : decode cX4_notePhase 11 = .ok (.bipush 16, 2) := by decide +kernel
theorem dX4_notePhase_13 : decode cX4_notePhase 13 = .ok (.if_icmp .lt 4, 3) := by decide +kernel
theorem dX4_notePhase_16 : decode cX4_notePhase 16 = .ok (.return_, 1) := by decide +kernel
theorem dX4_notePhase_17 : decode cX4_notePhase 17 = .ok (.aload_n 0, 1) := by decide +kernel
theorem dX4_notePhase_18 : decode cX4_notePhase 18 = .ok (.getfield 21, 3) := by decide +kernel
theorem dX4_notePhase_21 : decode cX4_notePhase 21 = .ok (.aload_n 0, 1) := by decide +kernel
theorem dX4_notePhase_22 : decode cX4_notePhase 22 = .ok (.getfield 37, 3) := by decide +kernel
theorem dX4_notePhase_25 : decode cX4_notePhase 25 = .ok (.iload_n 1, 1) := by decide +kernel
theorem dX4_notePhase_26 : decode cX4_notePhase 26 = .ok (.iastore, 1) := by decide +kernel
theorem dX4_notePhase_27 : decode cX4_notePhase 27 = .ok (.aload_n 0, 1) := by decide +kernel
theorem dX4_notePhase_28 : decode cX4_notePhase 28 = .ok (.getfield 24, 3) := by decide +kernel
theorem dX4_notePhase_31 : decode cX4_notePhase 31 = .ok (.aload_n 0, 1) := by decide +kernel
theorem dX4_notePhase_32 : decode cX4_notePhase 32 = .ok (.getfield 37, 3) := by decide +kernel
theorem dX4_notePhase_35 : decode cX4_notePhase 35 = .ok (.iload_n 2, 1) := by decide +kernel
theorem dX4_notePhase_36 : decode cX4_notePhase 36 = .ok (.iastore, 1) := by decide +kernel
theorem dX4_notePhase_37 : decode cX4_notePhase 37 = .ok (.aload_n 0, 1) := by decide +kernel
theorem dX4_notePhase_38 : decode cX4_notePhase 38 = .ok (.getfield 27, 3) := by decide +kernel
theorem dX4_notePhase_41 : decode cX4_notePhase 41 = .ok (.aload_n 0, 1) := by decide +kernel
theorem dX4_notePhase_42 : decode cX4_notePhase 42 = .ok (.getfield 37, 3) := by decide +kernel
theorem dX4_notePhase_45 : decode cX4_notePhase 45 = .ok (.iload_n 3, 1) := by decide +kernel
theorem dX4_notePhase_46 : decode cX4_notePhase 46 = .ok (.iastore, 1) := by decide +kernel
theorem dX4_notePhase_47 : decode cX4_notePhase 47 = .ok (.aload_n 0, 1) := by decide +kernel
theorem dX4_notePhase_48 : decode cX4_notePhase 48 = .ok (.dup, 1) := by decide +kernel
theorem dX4_notePhase_49 : decode cX4_notePhase 49 = .ok (.getfield 37, 3) := by decide +kernel
theorem dX4_notePhase_52 : decode cX4_notePhase 52 = .ok (.iconst 1, 1) := by decide +kernel
theorem dX4_notePhase_53 : decode cX4_notePhase 53 = .ok (.iadd, 1) := by decide +kernel
theorem dX4_notePhase_54 : decode cX4_notePhase 54 = .ok (.putfield 37, 3) := by decide +kernel
theorem dX4_notePhase_57 : decode cX4_notePhase 57 = .ok (.return_, 1) := by decide +kernel
theorem dX4_freeAll_0 : decode cX4_freeAll 0 = .ok (.iconst 0, 1) := by decide +kernel
theorem dX4_freeAll_1 : decode cX4_freeAll 1 = .ok (.istore_n 1, 1) := by decide +kernel
theorem dX4_freeAll_2 : decode cX4_freeAll 2 = .ok (.iload_n 1, 1) := by decide +kernel
theorem dX4_freeAll_3 : decode cX4_freeAll 3 = .ok (.bipush 16, 2) := by decide +kernel
theorem dX4_freeAll_5 : decode cX4_freeAll 5 = .ok (.if_icmp .ge 25, 3) := by decide +kernel
theorem dX4_freeAll_8 : decode cX4_freeAll 8 = .ok (.aload_n 0, 1) := by decide +kernel
theorem dX4_freeAll_9 : decode cX4_freeAll 9 = .ok (.getfield 15, 3) := by decide +kernel
theorem dX4_freeAll_12 : decode cX4_freeAll 12 = .ok (.iload_n 1, 1) := by decide +kernel
theorem dX4_freeAll_13 : decode cX4_freeAll 13 = .ok (.bipush (-6), 2) := by decide +kernel
theorem dX4_freeAll_15 : decode cX4_freeAll 15 = .ok (.iastore, 1) := by decide +kernel
theorem dX4_freeAll_16 : decode cX4_freeAll 16 = .ok (.aload_n 0, 1) := by decide +kernel
theorem dX4_freeAll_17 : decode cX4_freeAll 17 = .ok (.getfield 18, 3) := by decide +kernel
theorem dX4_freeAll_20 : decode cX4_freeAll 20 = .ok (.iload_n 1, 1) := by decide +kernel
theorem dX4_freeAll_21 : decode cX4_freeAll 21 = .ok (.bipush (-6), 2) := by decide +kernel
theorem dX4_freeAll_23 : decode cX4_freeAll 23 = .ok (.iastore, 1) := by decide +kernel
theorem dX4_freeAll_24 : decode cX4_freeAll 24 = .ok (.iinc 1 1, 3) := by decide +kernel
theorem dX4_freeAll_27 : decode cX4_freeAll 27 = .ok (.goto (-25), 3) := by decide +kernel
theorem dX4_freeAll_30 : decode cX4_freeAll 30 = .ok (.return_, 1) := by decide +kernel
set_option maxRecDepth 20000 in
theorem ggX4_slotOf_X4_isInRow : GoodIn wsX4_slotOf wsX4_isInRow := goodIn_r _ [5] (by decide +kernel) (by decide +kernel)
set_option maxRecDepth 20000 in
theorem gX4_slotOf_X4_isInRow : GoodIn wsX4_slotOf (va_wsS RX4 44 yX4_isInRow wsX4_isInRow) := goodIn_app (goodIn_of _ (by decide +kernel)) ggX4_slotOf_X4_isInRow
theorem dX4_slotOf_0 : decode cX4_slotOf 0 = .ok (.iload_n 1, 1) := by decide +kernel
theorem dX4_slotOf_1 : decode cX4_slotOf 1 = .ok (.invokestatic 44, 3) := by decide +kernel
theorem dX4_slotOf_4 : decode cX4_slotOf 4 = .ok (.ifCond .eq 12, 3) := by decide +kernel
theorem dX4_slotOf_7 : decode cX4_slotOf 7 = .ok (.aload_n 0, 1) := by decide +kernel
theorem dX4_slotOf_8 : decode cX4_slotOf 8 = .ok (.getfield 18, 3) := by decide +kernel
theorem dX4_slotOf_11 : decode cX4_slotOf 11 = .ok (.iload_n 1, 1) := by decide +kernel
theorem dX4_slotOf_12 : decode cX4_slotOf 12 = .ok (.iaload, 1) := by decide +kernel
theorem dX4_slotOf_13 : decode cX4_slotOf 13 = .ok (.goto 5, 3) := by decide +kernel
theorem dX4_slotOf_16 : decode cX4_slotOf 16 = .ok (.bipush (-6), 2) := by decide +kernel
theorem dX4_slotOf_18 : decode cX4_slotOf 18 = .ok (.ireturn, 1) := by decide +kernel
set_option maxRecDepth 20000 in
theorem ggX4_setFree_X4_isInRow : GoodIn wsX4_setFree wsX4_isInRow := goodIn_r _ [6] (by decide +kernel) (by decide +kernel)
set_option maxRecDepth 20000 in
theorem gX4_setFree_X4_isInRow : GoodIn wsX4_setFree (va_wsS RX4 44 yX4_isInRow wsX4_isInRow) := goodIn_app (goodIn_of _ (by decide +kernel)) ggX4_setFree_X4_isInRow
theorem dX4_setFree_0 : decode cX4_setFree 0 = .ok (.iload_n 1, 1) := by decide +kernel
theorem dX4_setFree_1 : decode cX4_setFree 1 = .ok (.invokestatic 44, 3) := by decide +kernel
theorem dX4_setFree_4 : decode cX4_setFree 4 = .ok (.ifCond .ne 4, 3) := by decide +kernel
theorem dX4_setFree_7 : decode cX4_setFree 7 = .ok (.return_, 1) := by decide +kernel
theorem dX4_setFree_8 : decode cX4_setFree 8 = .ok (.aload_n 0, 1) := by decide +kernel
theorem dX4_setFree_9 : decode cX4_setFree 9 = .ok (.getfield 18, 3) := by decide +kernel
theorem dX4_setFree_12 : decode cX4_setFree 12 = .ok (.iload_n 1, 1) := by decide +kernel
theorem dX4_setFree_13 : decode cX4_setFree 13 = .ok (.iaload, 1) := by decide +kernel
theorem dX4_setFree_14 : decode cX4_setFree 14 = .ok (.istore_n 2, 1) := by decide +kernel
theorem dX4_setFree_15 : decode cX4_setFree 15 = .ok (.iload_n 2, 1) := by decide +kernel
theorem dX4_setFree_16 : decode cX4_setFree 16 = .ok (.invokestatic 44, 3) := by decide +kernel
theorem dX4_setFree_19 : decode cX4_setFree 19 = .ok (.ifCond .eq 11, 3) := by decide +kernel
theorem dX4_setFree_22 : decode cX4_setFree 22 = .ok (.aload_n 0, 1) := by decide +kernel
theorem dX4_setFree_23 : decode cX4_setFree 23 = .ok (.getfield 15, 3) := by decide +kernel
theorem dX4_setFree_26 : decode cX4_setFree 26 = .ok (.iload_n 2, 1) := by decide +kernel
theorem dX4_setFree_27 : decode cX4_setFree 27 = .ok (.bipush (-6), 2) := by decide +kernel
theorem dX4_setFree_29 : decode cX4_setFree 29 = .ok (.iastore, 1) := by decide +kernel
theorem dX4_setFree_30 : decode cX4_setFree 30 = .ok (.aload_n 0, 1) := by decide +kernel
theorem dX4_setFree_31 : decode cX4_setFree 31 = .ok (.getfield 18, 3) := by decide +kernel
theorem dX4_setFree_34 : decode cX4_setFree 34 = .ok (.iload_n 1, 1) := by decide +kernel
theorem dX4_setFree_35 : decode cX4_setFree 35 = .ok (.bipush (-6), 2) := by decide +kernel
theorem dX4_setFree_37 : decode cX4_setFree 37 = .ok (.iastore, 1) := by decide +kernel
theorem dX4_setFree_38 : decode cX4_setFree 38 = .ok (.return_, 1) := by decide +kernel
set_option maxRecDepth 20000 in
theorem ggX4_give_X4_isInRow : GoodIn wsX4_give wsX4_isInRow := goodIn_r _ [6] (by decide +kernel) (by decide +kernel)
set_option maxRecDepth 20000 in
theorem gX4_give_X4_isInRow : GoodIn wsX4_give (va_wsS RX4 44 yX4_isInRow wsX4_isInRow) := goodIn_app (goodIn_of _ (by decide +kernel)) ggX4_give_X4_isInRow
theorem dX4_give_0 : decode cX4_give 0 = .ok (.iload_n 1, 1) := by decide +kernel
theorem dX4_give_1 : decode cX4_give 1 = .ok (.invokestatic 44, 3) := by decide +kernel
theorem dX4_give_4 : decode cX4_give 4 = .ok (.ifCond .eq 10, 3) := by decide +kernel
theorem dX4_give_7 : decode cX4_give 7 = .ok (.iload_n 2, 1) := by decide +kernel
theorem dX4_give_8 : decode cX4_give 8 = .ok (.invokestatic 44, 3) := by decide +kernel
theorem dX4_give_11 : decode cX4_give 11 = .ok (.ifCond .ne 4, 3) := by decide +kernel
theorem dX4_give_14 : decode cX4_give 14 = .ok (.return_, 1) := by decide +kernel
theorem dX4_give_15 : decode cX4_give 15 = .ok (.aload_n 0, 1) := by decide +kernel
theorem dX4_give_16 : decode cX4_give 16 = .ok (.getfield 15, 3) := by decide +kernel
theorem dX4_give_19 : decode cX4_give 19 = .ok (.iload_n 1, 1) := by decide +kernel
theorem dX4_give_20 : decode cX4_give 20 = .ok (.iaload, 1) := by decide +kernel
theorem dX4_give_21 : decode cX4_give 21 = .ok (.istore_n 3, 1) := by decide +kernel
theorem dX4_give_22 : decode cX4_give 22 = .ok (.iload_n 3, 1) := by decide +kernel
theorem dX4_give_23 : decode cX4_give 23 = .ok (.invokestatic 44, 3) := by decide +kernel
theorem dX4_give_26 : decode cX4_give 26 = .ok (.ifCond .eq 11, 3) := by decide +kernel
theorem dX4_give_29 : decode cX4_give 29 = .ok (.aload_n 0, 1) := by decide +kernel
theorem dX4_give_30 : decode cX4_give 30 = .ok (.getfield 18, 3) := by decide +kernel
theorem dX4_give_33 : decode cX4_give 33 = .ok (.iload_n 3, 1) := by decide +kernel
theorem dX4_give_34 : decode cX4_give 34 = .ok (.bipush (-6), 2) := by decide +kernel
theorem dX4_give_36 : decode cX4_give 36 = .ok (.iastore, 1) := by decide +kernel
theorem dX4_give_37 : decode cX4_give 37 = .ok (.aload_n 0, 1) := by decide +kernel
theorem dX4_give_38 : decode cX4_give 38 = .ok (.getfield 15, 3) := by decide +kernel
theorem dX4_give_41 : decode cX4_give 41 = .ok (.iload_n 1, 1) := by decide +kernel
theorem dX4_give_42 : decode cX4_give 42 = .ok (.iload_n 2, 1) := by decide +kernel
theorem dX4_give_43 : decode cX4_give 43 = .ok (.iastore, 1) := by decide +kernel
theorem dX4_give_44 : decode cX4_give 44 = .ok (.aload_n 0, 1) := by decide +kernel
theorem dX4_give_45 : decode cX4_give 45 = .ok (.getfield 18, 3) := by decide +kernel
theorem dX4_give_48 : decode cX4_give 48 = .ok (.iload_n 2, 1) := by decide +kernel
theorem dX4_give_49 : decode cX4_give 49 = .ok (.iload_n 1, 1) := by decide +kernel
theorem dX4_give_50 : decode cX4_give 50 = .ok (.iastore, 1) := by decide +kernel
theorem dX4_give_51 : decode cX4_give 51 = .ok (.return_, 1) := by decide +kernel
theorem dX4_isInRow_0 : decode cX4_isInRow 0 = .ok (.iload_n 0, 1) := by decide +kernel
theorem dX4_isInRow_1 : decode cX4_isInRow 1 = .ok (.ifCond .lt 13, 3) := by decide +kernel
theorem dX4_isInRow_4 : decode cX4_isInRow 4 = .ok (.iload_n 0, 1) := by decide +kernel
theorem dX4_isInRow_5 : decode cX4_isInRow 5 = .ok (.bipush 16, 2) := by decide +kernel
theorem dX4_isInRow_7 : decode cX4_isInRow 7 = .ok (.if_icmp .ge 7, 3) := by decide +kernel
theorem dX4_isInRow_10 : decode cX4_isInRow 10 = .ok (.iconst 1, 1) := by decide +kernel
theorem dX4_isInRow_11 : decode cX4_isInRow 11 = .ok (.goto 4, 3) := by decide +kernel
theorem dX4_isInRow_14 : decode cX4_isInRow 14 = .ok (.iconst 0, 1) := by decide +kernel
theorem dX4_isInRow_15 : decode cX4_isInRow 15 = .ok (.ireturn, 1) := by decide +kernel
theorem dX4_copyFrom_0 : decode cX4_copyFrom 0 = .ok (.aload_n 0, 1) := by decide +kernel
theorem dX4_copyFrom_1 : decode cX4_copyFrom 1 = .ok (.aload_n 1, 1) := by decide +kernel
theorem dX4_copyFrom_2 : decode cX4_copyFrom 2 = .ok (.getfield 30, 3) := by decide +kernel
theorem dX4_copyFrom_5 : decode cX4_copyFrom 5 = .ok (.putfield 30, 3) := by decide +kernel
theorem dX4_copyFrom_8 : decode cX4_copyFrom 8 = .ok (.aload_n 0, 1) := by decide +kernel
theorem dX4_copyFrom_9 : decode cX4_copyFrom 9 = .ok (.aload_n 1, 1) := by decide +kernel
theorem dX4_copyFrom_10 : decode cX4_copyFrom 10 = .ok (.getfield 34, 3) := by decide +kernel
theorem dX4_copyFrom_13 : decode cX4_copyFrom 13 = .ok (.putfield 34, 3) := by decide +kernel
theorem dX4_copyFrom_16 : decode cX4_copyFrom 16 = .ok (.aload_n 0, 1) := by decide +kernel
theorem dX4_copyFrom_17 : decode cX4_copyFrom 17 = .ok (.aload_n 1, 1) := by decide +kernel
theorem dX4_copyFrom_18 : decode cX4_copyFrom 18 = .ok (.getfield 41, 3) := by decide +kernel
theorem dX4_copyFrom_21 : decode cX4_copyFrom 21 = .ok (.putfield 41, 3) := by decide +kernel
theorem dX4_copyFrom_24 : decode cX4_copyFrom 24 = .ok (.aload_n 0, 1) := by decide +kernel
theorem dX4_copyFrom_25 : decode cX4_copyFrom 25 = .ok (.aload_n 1, 1) := by decide +kernel
theorem dX4_copyFrom_26 : decode cX4_copyFrom 26 = .ok (.getfield 37, 3) := by decide +kernel
theorem dX4_copyFrom_29 : decode cX4_copyFrom 29 = .ok (.putfield 37, 3) := by decide +kernel
theorem dX4_copyFrom_32 : decode cX4_copyFrom 32 = .ok (.aload_n 1, 1) := by decide +kernel
theorem dX4_copyFrom_33 : decode cX4_copyFrom 33 = .ok (.getfield 9, 3) := by decide +kernel
theorem dX4_copyFrom_36 : decode cX4_copyFrom 36 = .ok (.iconst 0, 1) := by decide +kernel
theorem dX4_copyFrom_37 : decode cX4_copyFrom 37 = .ok (.aload_n 0, 1) := by decide +kernel
theorem dX4_copyFrom_38 : decode cX4_copyFrom 38 = .ok (.getfield 9, 3) := by decide +kernel
theorem dX4_copyFrom_41 : decode cX4_copyFrom 41 = .ok (.iconst 0, 1) := by decide +kernel
theorem dX4_copyFrom_42 : decode cX4_copyFrom 42 = .ok (.bipush 16, 2) := by decide +kernel
theorem dX4_copyFrom_44 : decode cX4_copyFrom 44 = .ok (.invokestatic 48, 3) := by decide +kernel
theorem dX4_copyFrom_47 : decode cX4_copyFrom 47 = .ok (.aload_n 1, 1) := by decide +kernel
theorem dX4_copyFrom_48 : decode cX4_copyFrom 48 = .ok (.getfield 15, 3) := by decide +kernel
theorem dX4_copyFrom_51 : decode cX4_copyFrom 51 = .ok (.iconst 0, 1) := by decide +kernel
theorem dX4_copyFrom_52 : decode cX4_copyFrom 52 = .ok (.aload_n 0, 1) := by decide +kernel
theorem dX4_copyFrom_53 : decode cX4_copyFrom 53 = .ok (.getfield 15, 3) := by decide +kernel
theorem dX4_copyFrom_56 : decode cX4_copyFrom 56 = .ok (.iconst 0, 1) := by decide +kernel
theorem dX4_copyFrom_57 : decode cX4_copyFrom 57 = .ok (.bipush 16, 2) := by decide +kernel
theorem dX4_copyFrom_59 : decode cX4_copyFrom 59 = .ok (.invokestatic 48, 3) := by decide +kernel
theorem dX4_copyFrom_62 : decode cX4_copyFrom 62 = .ok (.aload_n 1, 1) := by decide +kernel
theorem dX4_copyFrom_63 : decode cX4_copyFrom 63 = .ok (.getfield 18, 3) := by decide +kernel
theorem dX4_copyFrom_66 : decode cX4_copyFrom 66 = .ok (.iconst 0, 1) := by decide +kernel
theorem dX4_copyFrom_67 : decode cX4_copyFrom 67 = .ok (.aload_n 0, 1) := by decide +kernel
theorem dX4_copyFrom_68 : decode cX4_copyFrom 68 = .ok (.getfield 18, 3) := by decide +kernel
theorem dX4_copyFrom_71 : decode cX4_copyFrom 71 = .ok (.iconst 0, 1) := by decide +kernel
theorem dX4_copyFrom_72 : decode cX4_copyFrom 72 = .ok (.bipush 16, 2) := by decide +kernel
theorem dX4_copyFrom_74 : decode cX4_copyFrom 74 = .ok (.invokestatic 48, 3) := by decide +kernel
theorem dX4_copyFrom_77 : decode cX4_copyFrom 77 = .ok (.aload_n 1, 1) := by decide +kernel
theorem dX4_copyFrom_78 : decode cX4_copyFrom 78 = .ok (.getfield 21, 3) := by decide +kernel
theorem dX4_copyFrom_81 : decode cX4_copyFrom 81 = .ok (.iconst 0, 1) := by decide +kernel
theorem dX4_copyFrom_82 : decode cX4_copyFrom 82 = .ok (.aload_n 0, 1) := by decide +kernel
theorem dX4_copyFrom_83 : decode cX4_copyFrom 83 = .ok (.getfield 21, 3) := by decide +kernel
theorem dX4_copyFrom_86 : decode cX4_copyFrom 86 = .ok (.iconst 0, 1) := by decide +kernel
theorem dX4_copyFrom_87 : decode cX4_copyFrom 87 = .ok (.bipush 16, 2) := by decide +kernel
theorem dX4_copyFrom_89 : decode cX4_copyFrom 89 = .ok (.invokestatic 48, 3) := by decide +kernel
theorem dX4_copyFrom_92 : decode cX4_copyFrom 92 = .ok (.aload_n 1, 1) := by decide +kernel
theorem dX4_copyFrom_93 : decode cX4_copyFrom 93 = .ok (.getfield 24, 3) := by decide +kernel
theorem dX4_copyFrom_96 : decode cX4_copyFrom 96 = .ok (.iconst 0, 1) := by decide +kernel
theorem dX4_copyFrom_97 : decode cX4_copyFrom 97 = .ok (.aload_n 0, 1) := by decide +kernel
theorem dX4_copyFrom_98 : decode cX4_copyFrom 98 = .ok (.getfield 24, 3) := by decide +kernel
theorem dX4_copyFrom_101 : decode cX4_copyFrom 101 = .ok (.iconst 0, 1) := by decide +kernel
theorem dX4_copyFrom_102 : decode cX4_copyFrom 102 = .ok (.bipush 16, 2) := by decide +kernel
theorem dX4_copyFrom_104 : decode cX4_copyFrom 104 = .ok (.invokestatic 48, 3) := by decide +kernel
theorem dX4_copyFrom_107 : decode cX4_copyFrom 107 = .ok (.aload_n 1, 1) := by decide +kernel
theorem dX4_copyFrom_108 : decode cX4_copyFrom 108 = .ok (.getfield 27, 3) := by decide +kernel
theorem dX4_copyFrom_111 : decode cX4_copyFrom 111 = .ok (.iconst 0, 1) := by decide +kernel
theorem dX4_copyFrom_112 : decode cX4_copyFrom 112 = .ok (.aload_n 0, 1) := by decide +kernel
theorem dX4_copyFrom_113 : decode cX4_copyFrom 113 = .ok (.getfield 27, 3) := by decide +kernel
theorem dX4_copyFrom_116 : decode cX4_copyFrom 116 = .ok (.iconst 0, 1) := by decide +kernel
theorem dX4_copyFrom_117 : decode cX4_copyFrom 117 = .ok (.bipush 16, 2) := by decide +kernel
theorem dX4_copyFrom_119 : decode cX4_copyFrom 119 = .ok (.invokestatic 48, 3) := by decide +kernel
theorem dX4_copyFrom_122 : decode cX4_copyFrom 122 = .ok (.return_, 1) := by decide +kernel
end
section
set_option maxRecDepth 20000 in
theorem ggX5_init_X0_init : GoodIn wsX5_init wsX0_init := goodIn_r _ [12, 13, 2, 3, 14, 15, 16, 17, 18, 19, 20, 21, 22, 23, 24, 25, 26, 27, 28, 29, 30, 31, 32, 33, 34, 35, 36, 37, 38, 39, 40, 41, 42, 43, 44, 45, 46, 47, 48, 49, 50, 51, 52, 53, 54, 55, 63, 64, 65, 66, 67, 56, 57, 58, 59, 68, 69, 70, 71, 72, 73, 74, 75, 76, 77, 78, 79, 80, 81, 82] (by decide +kernel) (by decide +kernel)
set_option maxRecDepth 20000 in
theorem gX5_init_X0_init_n9 : GoodIn wsX5_init (wsX0_init) := ggX5_init_X0_init
theorem dX5_init_0 : decode cX5_init 0 = .ok (.aload_n 0, 1) := by decide +kernel
theorem dX5_init_1 : decode cX5_init 1 = .ok (.invokespecial 1, 3) := by decide +kernel
theorem dX5_init_4 : decode cX5_init 4 = .ok (.aload_n 0, 1) := by decide +kernel
theorem dX5_init_5 : decode cX5_init 5 = .ok (.new 7, 3) := by decide +kernel
theorem dX5_init_8 : decode cX5_init 8 = .ok (.dup, 1) := by decide +kernel
theorem dX5_init_9 : decode cX5_init 9 = .ok (.invokespecial 9, 3) := by decide +kernel
theorem dX5_init_12 : decode cX5_init 12 = .ok (.putfield 10, 3) := by decide +kernel
theorem dX5_init_15 : decode cX5_init 15 = .ok (.aload_n 0, 1) := by decide +kernel
theorem dX5_init_16 : decode cX5_init 16 = .ok (.aload_n 0, 1) := by decide +kernel
theorem dX5_init_17 : decode cX5_init 17 = .ok (.getfield 10, 3) := by decide +kernel
theorem dX5_init_20 : decode cX5_init 20 = .ok (.getfield 16, 3) := by decide +kernel
theorem dX5_init_23 : decode cX5_init 23 = .ok (.putfield 20, 3) := by decide +kernel
theorem dX5_init_26 : decode cX5_init 26 = .ok (.aload_n 0, 1) := by decide +kernel
theorem dX5_init_27 : decode cX5_init 27 = .ok (.iconst 2, 1) := by decide +kernel
theorem dX5_init_28 : decode cX5_init 28 = .ok (.anewarray 23, 3) := by decide +kernel
theorem dX5_init_31 : decode cX5_init 31 = .ok (.putfield 25, 3) := by decide +kernel
theorem dX5_init_34 : decode cX5_init 34 = .ok (.return_, 1) := by decide +kernel
theorem dX5_mode_0 : decode cX5_mode 0 = .ok (.iload_n 1, 1) := by decide +kernel
theorem dX5_mode_1 : decode cX5_mode 1 = .ok (.ifCond .eq 11, 3) := by decide +kernel
theorem dX5_mode_4 : decode cX5_mode 4 = .ok (.iload_n 1, 1) := by decide +kernel
theorem dX5_mode_5 : decode cX5_mode 5 = .ok (.iconst 1, 1) := by decide +kernel
theorem dX5_mode_6 : decode cX5_mode 6 = .ok (.if_icmp .eq 6, 3) := by decide +kernel
theorem dX5_mode_9 : decode cX5_mode 9 = .ok (.bipush (-2), 2) := by decide +kernel
theorem dX5_mode_11 : decode cX5_mode 11 = .ok (.ireturn, 1) := by decide +kernel
theorem dX5_mode_12 : decode cX5_mode 12 = .ok (.aload_n 0, 1) := by decide +kernel
theorem dX5_mode_13 : decode cX5_mode 13 = .ok (.getfield 20, 3) := by decide +kernel
theorem dX5_mode_16 : decode cX5_mode 16 = .ok (.getfield 29, 3) := by decide +kernel
theorem dX5_mode_19 : decode cX5_mode 19 = .ok (.istore_n 2, 1) := by decide +kernel
theorem dX5_mode_20 : decode cX5_mode 20 = .ok (.iload_n 1, 1) := by decide +kernel
theorem dX5_mode_21 : decode cX5_mode 21 = .ok (.iload_n 2, 1) := by decide +kernel
theorem dX5_mode_22 : decode cX5_mode 22 = .ok (.if_icmp .eq 22, 3) := by decide +kernel
theorem dX5_mode_25 : decode cX5_mode 25 = .ok (.aload_n 0, 1) := by decide +kernel
theorem dX5_mode_26 : decode cX5_mode 26 = .ok (.getfield 20, 3) := by decide +kernel
theorem dX5_mode_29 : decode cX5_mode 29 = .ok (.iload_n 1, 1) := by decide +kernel
theorem dX5_mode_30 : decode cX5_mode 30 = .ok (.putfield 29, 3) := by decide +kernel
theorem dX5_mode_33 : decode cX5_mode 33 = .ok (.aload_n 0, 1) := by decide +kernel
theorem dX5_mode_34 : decode cX5_mode 34 = .ok (.getfield 20, 3) := by decide +kernel
theorem dX5_mode_37 : decode cX5_mode 37 = .ok (.getfield 33, 3) := by decide +kernel
theorem dX5_mode_40 : decode cX5_mode 40 = .ok (.iconst 0, 1) := by decide +kernel
theorem dX5_mode_41 : decode cX5_mode 41 = .ok (.putfield 37, 3) := by decide +kernel
theorem dX5_mode_44 : decode cX5_mode 44 = .ok (.iload_n 2, 1) := by decide +kernel
theorem dX5_mode_45 : decode cX5_mode 45 = .ok (.ireturn, 1) := by decide +kernel
theorem dX5_shrink_0 : decode cX5_shrink 0 = .ok (.iload_n 1, 1) := by decide +kernel
theorem dX5_shrink_1 : decode cX5_shrink 1 = .ok (.iconst 2, 1) := by decide +kernel
theorem dX5_shrink_2 : decode cX5_shrink 2 = .ok (.if_icmp .lt 9, 3) := by decide +kernel
theorem dX5_shrink_5 : decode cX5_shrink 5 = .ok (.iload_n 1, 1) := by decide +kernel
theorem dX5_shrink_6 : decode cX5_shrink 6 = .ok (.bipush 9, 2) := by decide +kernel
theorem dX5_shrink_8 : decode cX5_shrink 8 = .ok (.if_icmp .le 6, 3) := by decide +kernel
theorem dX5_shrink_11 : decode cX5_shrink 11 = .ok (.bipush (-2), 2) := by decide +kernel
theorem dX5_shrink_13 : decode cX5_shrink 13 = .ok (.ireturn, 1) := by decide +kernel
theorem dX5_shrink_14 : decode cX5_shrink 14 = .ok (.aload_n 0, 1) := by decide +kernel
theorem dX5_shrink_15 : decode cX5_shrink 15 = .ok (.getfield 20, 3) := by decide +kernel
theorem dX5_shrink_18 : decode cX5_shrink 18 = .ok (.getfield 43, 3) := by decide +kernel
theorem dX5_shrink_21 : decode cX5_shrink 21 = .ok (.istore_n 2, 1) := by decide +kernel
theorem dX5_shrink_22 : decode cX5_shrink 22 = .ok (.aload_n 0, 1) := by decide +kernel
theorem dX5_shrink_23 : decode cX5_shrink 23 = .ok (.getfield 20, 3) := by decide +kernel
theorem dX5_shrink_26 : decode cX5_shrink 26 = .ok (.iload_n 1, 1) := by decide +kernel
theorem dX5_shrink_27 : decode cX5_shrink 27 = .ok (.putfield 43, 3) := by decide +kernel
theorem dX5_shrink_30 : decode cX5_shrink 30 = .ok (.iload_n 2, 1) := by decide +kernel
theorem dX5_shrink_31 : decode cX5_shrink 31 = .ok (.ireturn, 1) := by decide +kernel
set_option maxRecDepth 20000 in
theorem ggX5_stock_X5_areDots : GoodIn wsX5_stock wsX5_areDots := goodIn_r _ [5] (by decide +kernel) (by decide +kernel)
set_option maxRecDepth 20000 in
theorem gX5_stock_X5_areDots : GoodIn wsX5_stock (va_wsS RX5 46 yX5_areDots wsX5_areDots) := goodIn_app (goodIn_of _ (by decide +kernel)) ggX5_stock_X5_areDots
set_option maxRecDepth 20000 in
theorem ggX5_stock_X2_hasRoom : GoodIn wsX5_stock wsX2_hasRoom := goodIn_r _ [9, 10, 11, 12, 13, 14, 7, 15, 16, 17, 18, 19, 20, 21, 22, 23, 24, 25, 26, 27, 28, 50, 51, 52] (by decide +kernel) (by decide +kernel)
set_option maxRecDepth 20000 in
theorem gX5_stock_X2_hasRoom_n54 : GoodIn wsX5_stock (wsX2_hasRoom) := ggX5_stock_X2_hasRoom
set_option maxRecDepth 20000 in
theorem ggX5_stock_X2_add : GoodIn wsX5_stock wsX2_add := goodIn_r _ [31, 11, 16, 10, 12, 13, 14, 7, 15, 50, 51, 52] (by decide +kernel) (by decide +kernel)
set_option maxRecDepth 20000 in
theorem gX5_stock_X2_add_n60 : GoodIn wsX5_stock (wsX2_add) := ggX5_stock_X2_add
theorem dX5_stock_0 : decode cX5_stock 0 = .ok (.iload_n 1, 1) := by decide +kernel
theorem dX5_stock_1 : decode cX5_stock 1 = .ok (.invokestatic 46, 3) := by decide +kernel
theorem dX5_stock_4 : decode cX5_stock 4 = .ok (.ifCond .eq 13, 3) := by decide +kernel
theorem dX5_stock_7 : decode cX5_stock 7 = .ok (.iload_n 2, 1) := by decide +kernel
theorem dX5_stock_8 : decode cX5_stock 8 = .ok (.iconst 1, 1) := by decide +kernel
theorem dX5_stock_9 : decode cX5_stock 9 = .ok (.if_icmp .lt 8, 3) := by decide +kernel
theorem dX5_stock_12 : decode cX5_stock 12 = .ok (.iload_n 2, 1) := by decide +kernel
theorem dX5_stock_13 : decode cX5_stock 13 = .ok (.iconst 4, 1) := by decide +kernel
theorem dX5_stock_14 : decode cX5_stock 14 = .ok (.if_icmp .le 6, 3) := by decide +kernel
theorem dX5_stock_17 : decode cX5_stock 17 = .ok (.bipush (-2), 2) := by decide +kernel
theorem dX5_stock_19 : decode cX5_stock 19 = .ok (.ireturn, 1) := by decide +kernel
theorem dX5_stock_20 : decode cX5_stock 20 = .ok (.aload_n 0, 1) := by decide +kernel
theorem dX5_stock_21 : decode cX5_stock 21 = .ok (.getfield 20, 3) := by decide +kernel
theorem dX5_stock_24 : decode cX5_stock 24 = .ok (.getfield 50, 3) := by decide +kernel
theorem dX5_stock_27 : decode cX5_stock 27 = .ok (.iload_n 1, 1) := by decide +kernel
theorem dX5_stock_28 : decode cX5_stock 28 = .ok (.iload_n 2, 1) := by decide +kernel
theorem dX5_stock_29 : decode cX5_stock 29 = .ok (.invokevirtual 54, 3) := by decide +kernel
theorem dX5_stock_32 : decode cX5_stock 32 = .ok (.ifCond .ne 6, 3) := by decide +kernel
theorem dX5_stock_35 : decode cX5_stock 35 = .ok (.bipush (-4), 2) := by decide +kernel
theorem dX5_stock_37 : decode cX5_stock 37 = .ok (.ireturn, 1) := by decide +kernel
theorem dX5_stock_38 : decode cX5_stock 38 = .ok (.aload_n 0, 1) := by decide +kernel
theorem dX5_stock_39 : decode cX5_stock 39 = .ok (.getfield 20, 3) := by decide +kernel
theorem dX5_stock_42 : decode cX5_stock 42 = .ok (.getfield 33, 3) := by decide +kernel
theorem dX5_stock_45 : decode cX5_stock 45 = .ok (.iconst 0, 1) := by decide +kernel
theorem dX5_stock_46 : decode cX5_stock 46 = .ok (.putfield 37, 3) := by decide +kernel
theorem dX5_stock_49 : decode cX5_stock 49 = .ok (.aload_n 0, 1) := by decide +kernel
theorem dX5_stock_50 : decode cX5_stock 50 = .ok (.getfield 20, 3) := by decide +kernel
theorem dX5_stock_53 : decode cX5_stock 53 = .ok (.getfield 50, 3) := by decide +kernel
theorem dX5_stock_56 : decode cX5_stock 56 = .ok (.iload_n 1, 1) := by decide +kernel
theorem dX5_stock_57 : decode cX5_stock 57 = .ok (.iload_n 2, 1) := by decide +kernel
theorem dX5_stock_58 : decode cX5_stock 58 = .ok (.invokevirtual 60, 3) := by decide +kernel
theorem dX5_stock_61 : decode cX5_stock 61 = .ok (.ireturn, 1) := by decide +kernel
set_option maxRecDepth 20000 in
theorem ggX5_drop_X5_areDots : GoodIn wsX5_drop wsX5_areDots := goodIn_r _ [5] (by decide +kernel) (by decide +kernel)
set_option maxRecDepth 20000 in
theorem gX5_drop_X5_areDots : GoodIn wsX5_drop (va_wsS RX5 46 yX5_areDots wsX5_areDots) := goodIn_app (goodIn_of _ (by decide +kernel)) ggX5_drop_X5_areDots
set_option maxRecDepth 20000 in
theorem ggX5_drop_X2_numberOf : GoodIn wsX5_drop wsX2_numberOf := goodIn_r _ [9, 10, 11, 38, 39, 40] (by decide +kernel) (by decide +kernel)
set_option maxRecDepth 20000 in
theorem gX5_drop_X2_numberOf_n64 : GoodIn wsX5_drop (wsX2_numberOf) := ggX5_drop_X2_numberOf
set_option maxRecDepth 20000 in
theorem ggX5_drop_X2_takeOut : GoodIn wsX5_drop wsX2_takeOut := goodIn_r _ [14, 10, 11, 15, 16, 17, 18, 7, 19, 38, 39, 40] (by decide +kernel) (by decide +kernel)
set_option maxRecDepth 20000 in
theorem gX5_drop_X2_takeOut_n68 : GoodIn wsX5_drop (wsX2_takeOut) := ggX5_drop_X2_takeOut
theorem dX5_drop_0 : decode cX5_drop 0 = .ok (.iload_n 1, 1) := by decide +kernel
theorem dX5_drop_1 : decode cX5_drop 1 = .ok (.invokestatic 46, 3) := by decide +kernel
theorem dX5_drop_4 : decode cX5_drop 4 = .ok (.ifCond .ne 6, 3) := by decide +kernel
theorem dX5_drop_7 : decode cX5_drop 7 = .ok (.bipush (-2), 2) := by decide +kernel
theorem dX5_drop_9 : decode cX5_drop 9 = .ok (.ireturn, 1) := by decide +kernel
theorem dX5_drop_10 : decode cX5_drop 10 = .ok (.aload_n 0, 1) := by decide +kernel
theorem dX5_drop_11 : decode cX5_drop 11 = .ok (.getfield 20, 3) := by decide +kernel
theorem dX5_drop_14 : decode cX5_drop 14 = .ok (.getfield 50, 3) := by decide +kernel
theorem dX5_drop_17 : decode cX5_drop 17 = .ok (.iload_n 1, 1) := by decide +kernel
theorem dX5_drop_18 : decode cX5_drop 18 = .ok (.invokevirtual 64, 3) := by decide +kernel
theorem dX5_drop_21 : decode cX5_drop 21 = .ok (.istore_n 2, 1) := by decide +kernel
theorem dX5_drop_22 : decode cX5_drop 22 = .ok (.iload_n 2, 1) := by decide +kernel
theorem dX5_drop_23 : decode cX5_drop 23 = .ok (.bipush (-6), 2) := by decide +kernel
theorem dX5_drop_25 : decode cX5_drop 25 = .ok (.if_icmp .ne 6, 3) := by decide +kernel
theorem dX5_drop_28 : decode cX5_drop 28 = .ok (.bipush (-5), 2) := by decide +kernel
theorem dX5_drop_30 : decode cX5_drop 30 = .ok (.ireturn, 1) := by decide +kernel
theorem dX5_drop_31 : decode cX5_drop 31 = .ok (.aload_n 0, 1) := by decide +kernel
theorem dX5_drop_32 : decode cX5_drop 32 = .ok (.getfield 20, 3) := by decide +kernel
theorem dX5_drop_35 : decode cX5_drop 35 = .ok (.getfield 33, 3) := by decide +kernel
theorem dX5_drop_38 : decode cX5_drop 38 = .ok (.iconst 0, 1) := by decide +kernel
theorem dX5_drop_39 : decode cX5_drop 39 = .ok (.putfield 37, 3) := by decide +kernel
theorem dX5_drop_42 : decode cX5_drop 42 = .ok (.aload_n 0, 1) := by decide +kernel
theorem dX5_drop_43 : decode cX5_drop 43 = .ok (.getfield 20, 3) := by decide +kernel
theorem dX5_drop_46 : decode cX5_drop 46 = .ok (.getfield 50, 3) := by decide +kernel
theorem dX5_drop_49 : decode cX5_drop 49 = .ok (.iload_n 2, 1) := by decide +kernel
theorem dX5_drop_50 : decode cX5_drop 50 = .ok (.invokevirtual 68, 3) := by decide +kernel
theorem dX5_drop_53 : decode cX5_drop 53 = .ok (.aload_n 0, 1) := by decide +kernel
theorem dX5_drop_54 : decode cX5_drop 54 = .ok (.getfield 20, 3) := by decide +kernel
theorem dX5_drop_57 : decode cX5_drop 57 = .ok (.getfield 50, 3) := by decide +kernel
theorem dX5_drop_60 : decode cX5_drop 60 = .ok (.getfield 72, 3) := by decide +kernel
theorem dX5_drop_63 : decode cX5_drop 63 = .ok (.ireturn, 1) := by decide +kernel
set_option maxRecDepth 20000 in
theorem ggX5_kind_X2_has : GoodIn wsX5_kind wsX2_has := goodIn_r _ [5, 6, 46, 47, 48] (by decide +kernel) (by decide +kernel)
set_option maxRecDepth 20000 in
theorem gX5_kind_X2_has_n75 : GoodIn wsX5_kind (wsX2_has) := ggX5_kind_X2_has
set_option maxRecDepth 20000 in
theorem ggX5_kind_X2_firstSlot : GoodIn wsX5_kind wsX2_firstSlot := goodIn_r _ [9, 10, 46, 47, 48] (by decide +kernel) (by decide +kernel)
set_option maxRecDepth 20000 in
theorem gX5_kind_X2_firstSlot_n85 : GoodIn wsX5_kind (wsX2_firstSlot) := ggX5_kind_X2_firstSlot
set_option maxRecDepth 20000 in
theorem ggX5_kind_X4_isDone : GoodIn wsX5_kind wsX4_isDone := goodIn_r _ [14, 15, 16, 49, 50, 51, 52, 53, 54, 55, 56, 57, 58] (by decide +kernel) (by decide +kernel)
set_option maxRecDepth 20000 in
theorem gX5_kind_X4_isDone_n88 : GoodIn wsX5_kind (wsX4_isDone) := ggX5_kind_X4_isDone
set_option maxRecDepth 20000 in
theorem ggX5_kind_X3_cellsThatHave : GoodIn wsX5_kind wsX3_cellsThatHave := goodIn_r _ [20, 21, 22, 23, 24, 18, 25, 26, 27, 28, 12, 29, 30, 31, 32, 33, 34, 35, 3, 36, 37, 6, 10, 41, 42, 43, 44, 45, 59, 60, 49, 50, 51, 52, 53, 54, 55, 56, 57, 58, 46, 47, 48] (by decide +kernel) (by decide +kernel)
set_option maxRecDepth 20000 in
theorem gX5_kind_X3_cellsThatHave_n92 : GoodIn wsX5_kind (wsX3_cellsThatHave) := ggX5_kind_X3_cellsThatHave
theorem dX5_kind_0 : decode cX5_kind 0 = .ok (.aload_n 0, 1) := by decide +kernel
theorem dX5_kind_1 : decode cX5_kind 1 = .ok (.getfield 20, 3) := by decide +kernel
theorem dX5_kind_4 : decode cX5_kind 4 = .ok (.getfield 50, 3) := by decide +kernel
theorem dX5_kind_7 : decode cX5_kind 7 = .ok (.iload_n 1, 1) := by decide +kernel
theorem dX5_kind_8 : decode cX5_kind 8 = .ok (.invokevirtual 75, 3) := by decide +kernel
theorem dX5_kind_11 : decode cX5_kind 11 = .ok (.ifCond .ne 5, 3) := by decide +kernel
theorem dX5_kind_14 : decode cX5_kind 14 = .ok (.iconst (-1), 1) := by decide +kernel
theorem dX5_kind_15 : decode cX5_kind 15 = .ok (.ireturn, 1) := by decide +kernel
theorem dX5_kind_16 : decode cX5_kind 16 = .ok (.iload_n 2, 1) := by decide +kernel
theorem dX5_kind_17 : decode cX5_kind 17 = .ok (.tableswitch 95 0 3 #[31, 44, 57, 69], 31) := by decide +kernel
theorem dX5_kind_48 : decode cX5_kind 48 = .ok (.aload_n 0, 1) := by decide +kernel
theorem dX5_kind_49 : decode cX5_kind 49 = .ok (.getfield 20, 3) := by decide +kernel
theorem dX5_kind_52 : decode cX5_kind 52 = .ok (.getfield 50, 3) := by decide +kernel
theorem dX5_kind_55 : decode cX5_kind 55 = .ok (.getfield 78, 3) := by decide +kernel
theorem dX5_kind_58 : decode cX5_kind 58 = .ok (.iload_n 1, 1) := by decide +kernel
theorem dX5_kind_59 : decode cX5_kind 59 = .ok (.iaload, 1) := by decide +kernel
theorem dX5_kind_60 : decode cX5_kind 60 = .ok (.ireturn, 1) := by decide +kernel
theorem dX5_kind_61 : decode cX5_kind 61 = .ok (.aload_n 0, 1) := by decide +kernel
theorem dX5_kind_62 : decode cX5_kind 62 = .ok (.getfield 20, 3) := by decide +kernel
theorem dX5_kind_65 : decode cX5_kind 65 = .ok (.getfield 50, 3) := by decide +kernel
theorem dX5_kind_68 : decode cX5_kind 68 = .ok (.getfield 82, 3) := by decide +kernel
theorem dX5_kind_71 : decode cX5_kind 71 = .ok (.iload_n 1, 1) := by decide +kernel
theorem dX5_kind_72 : decode cX5_kind 72 = .ok (.iaload, 1) := by decide +kernel
theorem dX5_kind_73 : decode cX5_kind 73 = .ok (.ireturn, 1) := by decide +kernel
theorem dX5_kind_74 : decode cX5_kind 74 = .ok (.aload_n 0, 1) := by decide +kernel
theorem dX5_kind_75 : decode cX5_kind 75 = .ok (.getfield 20, 3) := by decide +kernel
theorem dX5_kind_78 : decode cX5_kind 78 = .ok (.getfield 50, 3) := by decide +kernel
theorem dX5_kind_81 : decode cX5_kind 81 = .ok (.iload_n 1, 1) := by decide +kernel
theorem dX5_kind_82 : decode cX5_kind 82 = .ok (.invokevirtual 85, 3) := by decide +kernel
theorem dX5_kind_85 : decode cX5_kind 85 = .ok (.ireturn, 1) := by decide +kernel
theorem dX5_kind_86 : decode cX5_kind 86 = .ok (.aload_n 0, 1) := by decide +kernel
theorem dX5_kind_87 : decode cX5_kind 87 = .ok (.getfield 20, 3) := by decide +kernel
theorem dX5_kind_90 : decode cX5_kind 90 = .ok (.getfield 33, 3) := by decide +kernel
theorem dX5_kind_93 : decode cX5_kind 93 = .ok (.invokevirtual 88, 3) := by decide +kernel
theorem dX5_kind_96 : decode cX5_kind 96 = .ok (.ifCond .eq 14, 3) := by decide +kernel
theorem dX5_kind_99 : decode cX5_kind 99 = .ok (.aload_n 0, 1) := by decide +kernel
theorem dX5_kind_100 : decode cX5_kind 100 = .ok (.getfield 20, 3) := by decide +kernel
theorem dX5_kind_103 : decode cX5_kind 103 = .ok (.iload_n 1, 1) := by decide +kernel
theorem dX5_kind_104 : decode cX5_kind 104 = .ok (.invokevirtual 92, 3) := by decide +kernel
theorem dX5_kind_107 : decode cX5_kind 107 = .ok (.goto 4, 3) := by decide +kernel
theorem dX5_kind_110 : decode cX5_kind 110 = .ok (.iconst 0, 1) := by decide +kernel
theorem dX5_kind_111 : decode cX5_kind 111 = .ok (.ireturn, 1) := by decide +kernel
theorem dX5_kind_112 : decode cX5_kind 112 = .ok (.bipush (-2), 2) := by decide +kernel
theorem dX5_kind_114 : decode cX5_kind 114 = .ok (.ireturn, 1) := by decide +kernel
set_option maxRecDepth 20000 in
theorem ggX5_find_X5_areDots : GoodIn wsX5_find wsX5_areDots := goodIn_r _ [5] (by decide +kernel) (by decide +kernel)
set_option maxRecDepth 20000 in
theorem gX5_find_X5_areDots : GoodIn wsX5_find (va_wsS RX5 46 yX5_areDots wsX5_areDots) := goodIn_app (goodIn_of _ (by decide +kernel)) ggX5_find_X5_areDots
set_option maxRecDepth 20000 in
theorem ggX5_find_X2_numberOf : GoodIn wsX5_find wsX2_numberOf := goodIn_r _ [9, 10, 11, 20, 21, 22] (by decide +kernel) (by decide +kernel)
set_option maxRecDepth 20000 in
theorem gX5_find_X2_numberOf_n64 : GoodIn wsX5_find (wsX2_numberOf) := ggX5_find_X2_numberOf
theorem dX5_find_0 : decode cX5_find 0 = .ok (.iload_n 1, 1) := by decide +kernel
theorem dX5_find_1 : decode cX5_find 1 = .ok (.invokestatic 46, 3) := by decide +kernel
theorem dX5_find_4 : decode cX5_find 4 = .ok (.ifCond .eq 17, 3) := by decide +kernel
theorem dX5_find_7 : decode cX5_find 7 = .ok (.aload_n 0, 1) := by decide +kernel
theorem dX5_find_8 : decode cX5_find 8 = .ok (.getfield 20, 3) := by decide +kernel
theorem dX5_find_11 : decode cX5_find 11 = .ok (.getfield 50, 3) := by decide +kernel
theorem dX5_find_14 : decode cX5_find 14 = .ok (.iload_n 1, 1) := by decide +kernel
theorem dX5_find_15 : decode cX5_find 15 = .ok (.invokevirtual 64, 3) := by decide +kernel
theorem dX5_find_18 : decode cX5_find 18 = .ok (.goto 5, 3) := by decide +kernel
theorem dX5_find_21 : decode cX5_find 21 = .ok (.bipush (-2), 2) := by decide +kernel
theorem dX5_find_23 : decode cX5_find 23 = .ok (.ireturn, 1) := by decide +kernel
set_option maxRecDepth 20000 in
theorem ggX5_cell_X5_areDots : GoodIn wsX5_cell wsX5_areDots := goodIn_r _ [5] (by decide +kernel) (by decide +kernel)
set_option maxRecDepth 20000 in
theorem gX5_cell_X5_areDots : GoodIn wsX5_cell (va_wsS RX5 46 yX5_areDots wsX5_areDots) := goodIn_app (goodIn_of _ (by decide +kernel)) ggX5_cell_X5_areDots
set_option maxRecDepth 20000 in
theorem ggX5_cell_X1_add : GoodIn wsX5_cell wsX1_add := goodIn_r _ [9, 10, 11, 20, 21] (by decide +kernel) (by decide +kernel)
set_option maxRecDepth 20000 in
theorem gX5_cell_X1_add_n102 : GoodIn wsX5_cell (wsX1_add) := ggX5_cell_X1_add
theorem dX5_cell_0 : decode cX5_cell 0 = .ok (.iload_n 1, 1) := by decide +kernel
theorem dX5_cell_1 : decode cX5_cell 1 = .ok (.invokestatic 46, 3) := by decide +kernel
theorem dX5_cell_4 : decode cX5_cell 4 = .ok (.ifCond .ne 6, 3) := by decide +kernel
theorem dX5_cell_7 : decode cX5_cell 7 = .ok (.bipush (-2), 2) := by decide +kernel
theorem dX5_cell_9 : decode cX5_cell 9 = .ok (.ireturn, 1) := by decide +kernel
theorem dX5_cell_10 : decode cX5_cell 10 = .ok (.aload_n 0, 1) := by decide +kernel
theorem dX5_cell_11 : decode cX5_cell 11 = .ok (.getfield 20, 3) := by decide +kernel
theorem dX5_cell_14 : decode cX5_cell 14 = .ok (.getfield 95, 3) := by decide +kernel
theorem dX5_cell_17 : decode cX5_cell 17 = .ok (.getfield 99, 3) := by decide +kernel
theorem dX5_cell_20 : decode cX5_cell 20 = .ok (.bipush 12, 2) := by decide +kernel
theorem dX5_cell_22 : decode cX5_cell 22 = .ok (.if_icmp .lt 6, 3) := by decide +kernel
theorem dX5_cell_25 : decode cX5_cell 25 = .ok (.bipush (-4), 2) := by decide +kernel
theorem dX5_cell_27 : decode cX5_cell 27 = .ok (.ireturn, 1) := by decide +kernel
theorem dX5_cell_28 : decode cX5_cell 28 = .ok (.aload_n 0, 1) := by decide +kernel
theorem dX5_cell_29 : decode cX5_cell 29 = .ok (.getfield 20, 3) := by decide +kernel
theorem dX5_cell_32 : decode cX5_cell 32 = .ok (.getfield 33, 3) := by decide +kernel
theorem dX5_cell_35 : decode cX5_cell 35 = .ok (.iconst 0, 1) := by decide +kernel
theorem dX5_cell_36 : decode cX5_cell 36 = .ok (.putfield 37, 3) := by decide +kernel
theorem dX5_cell_39 : decode cX5_cell 39 = .ok (.aload_n 0, 1) := by decide +kernel
theorem dX5_cell_40 : decode cX5_cell 40 = .ok (.getfield 20, 3) := by decide +kernel
theorem dX5_cell_43 : decode cX5_cell 43 = .ok (.getfield 95, 3) := by decide +kernel
theorem dX5_cell_46 : decode cX5_cell 46 = .ok (.iload_n 1, 1) := by decide +kernel
theorem dX5_cell_47 : decode cX5_cell 47 = .ok (.invokevirtual 102, 3) := by decide +kernel
theorem dX5_cell_50 : decode cX5_cell 50 = .ok (.aload_n 0, 1) := by decide +kernel
theorem dX5_cell_51 : decode cX5_cell 51 = .ok (.getfield 20, 3) := by decide +kernel
theorem dX5_cell_54 : decode cX5_cell 54 = .ok (.getfield 95, 3) := by decide +kernel
theorem dX5_cell_57 : decode cX5_cell 57 = .ok (.getfield 99, 3) := by decide +kernel
theorem dX5_cell_60 : decode cX5_cell 60 = .ok (.ireturn, 1) := by decide +kernel
set_option maxRecDepth 20000 in
theorem ggX5_change_X1_has : GoodIn wsX5_change wsX1_has := goodIn_r _ [5, 6, 19, 20] (by decide +kernel) (by decide +kernel)
set_option maxRecDepth 20000 in
theorem gX5_change_X1_has_n104 : GoodIn wsX5_change (wsX1_has) := ggX5_change_X1_has
set_option maxRecDepth 20000 in
theorem ggX5_change_X5_areDots : GoodIn wsX5_change wsX5_areDots := goodIn_r _ [10] (by decide +kernel) (by decide +kernel)
set_option maxRecDepth 20000 in
theorem gX5_change_X5_areDots : GoodIn wsX5_change (va_wsS RX5 46 yX5_areDots wsX5_areDots) := goodIn_app (goodIn_of _ (by decide +kernel)) ggX5_change_X5_areDots
theorem dX5_change_0 : decode cX5_change 0 = .ok (.aload_n 0, 1) := by decide +kernel
theorem dX5_change_1 : decode cX5_change 1 = .ok (.getfield 20, 3) := by decide +kernel
theorem dX5_change_4 : decode cX5_change 4 = .ok (.getfield 95, 3) := by decide +kernel
theorem dX5_change_7 : decode cX5_change 7 = .ok (.iload_n 1, 1) := by decide +kernel
theorem dX5_change_8 : decode cX5_change 8 = .ok (.invokevirtual 104, 3) := by decide +kernel
theorem dX5_change_11 : decode cX5_change 11 = .ok (.ifCond .ne 5, 3) := by decide +kernel
theorem dX5_change_14 : decode cX5_change 14 = .ok (.iconst (-1), 1) := by decide +kernel
theorem dX5_change_15 : decode cX5_change 15 = .ok (.ireturn, 1) := by decide +kernel
theorem dX5_change_16 : decode cX5_change 16 = .ok (.iload_n 2, 1) := by decide +kernel
theorem dX5_change_17 : decode cX5_change 17 = .ok (.invokestatic 46, 3) := by decide +kernel
theorem dX5_change_20 : decode cX5_change 20 = .ok (.ifCond .ne 6, 3) := by decide +kernel
theorem dX5_change_23 : decode cX5_change 23 = .ok (.bipush (-2), 2) := by decide +kernel
theorem dX5_change_25 : decode cX5_change 25 = .ok (.ireturn, 1) := by decide +kernel
theorem dX5_change_26 : decode cX5_change 26 = .ok (.aload_n 0, 1) := by decide +kernel
theorem dX5_change_27 : decode cX5_change 27 = .ok (.getfield 20, 3) := by decide +kernel
theorem dX5_change_30 : decode cX5_change 30 = .ok (.getfield 95, 3) := by decide +kernel
theorem dX5_change_33 : decode cX5_change 33 = .ok (.getfield 105, 3) := by decide +kernel
theorem dX5_change_36 : decode cX5_change 36 = .ok (.iload_n 1, 1) := by decide +kernel
theorem dX5_change_37 : decode cX5_change 37 = .ok (.iaload, 1) := by decide +kernel
theorem dX5_change_38 : decode cX5_change 38 = .ok (.istore_n 3, 1) := by decide +kernel
theorem dX5_change_39 : decode cX5_change 39 = .ok (.iload_n 2, 1) := by decide +kernel
theorem dX5_change_40 : decode cX5_change 40 = .ok (.iload_n 3, 1) := by decide +kernel
theorem dX5_change_41 : decode cX5_change 41 = .ok (.if_icmp .eq 27, 3) := by decide +kernel
theorem dX5_change_44 : decode cX5_change 44 = .ok (.aload_n 0, 1) := by decide +kernel
theorem dX5_change_45 : decode cX5_change 45 = .ok (.getfield 20, 3) := by decide +kernel
theorem dX5_change_48 : decode cX5_change 48 = .ok (.getfield 95, 3) := by decide +kernel
theorem dX5_change_51 : decode cX5_change 51 = .ok (.getfield 105, 3) := by decide +kernel
theorem dX5_change_54 : decode cX5_change 54 = .ok (.iload_n 1, 1) := by decide +kernel
theorem dX5_change_55 : decode cX5_change 55 = .ok (.iload_n 2, 1) := by decide +kernel
theorem dX5_change_56 : decode cX5_change 56 = .ok (.iastore, 1) := by decide +kernel
theorem dX5_change_57 : decode cX5_change 57 = .ok (.aload_n 0, 1) := by decide +kernel
theorem dX5_change_58 : decode cX5_change 58 = .ok (.getfield 20, 3) := by decide +kernel
theorem dX5_change_61 : decode cX5_change 61 = .ok (.getfield 33, 3) := by decide +kernel
theorem dX5_change_64 : decode cX5_change 64 = .ok (.iconst 0, 1) := by decide +kernel
theorem dX5_change_65 : decode cX5_change 65 = .ok (.putfield 106, 3) := by decide +kernel
theorem dX5_change_68 : decode cX5_change 68 = .ok (.iload_n 3, 1) := by decide +kernel
theorem dX5_change_69 : decode cX5_change 69 = .ok (.ireturn, 1) := by decide +kernel
set_option maxRecDepth 20000 in
theorem ggX5_remove_X1_has : GoodIn wsX5_remove wsX1_has := goodIn_r _ [5, 6, 30, 31] (by decide +kernel) (by decide +kernel)
set_option maxRecDepth 20000 in
theorem gX5_remove_X1_has_n104 : GoodIn wsX5_remove (wsX1_has) := ggX5_remove_X1_has
set_option maxRecDepth 20000 in
theorem ggX5_remove_X1_takeOut : GoodIn wsX5_remove wsX1_takeOut := goodIn_r _ [9, 6, 10, 11, 2, 4, 3, 5, 30, 31] (by decide +kernel) (by decide +kernel)
set_option maxRecDepth 20000 in
theorem gX5_remove_X1_takeOut_n109 : GoodIn wsX5_remove (wsX1_takeOut) := ggX5_remove_X1_takeOut
theorem dX5_remove_0 : decode cX5_remove 0 = .ok (.aload_n 0, 1) := by decide +kernel
theorem dX5_remove_1 : decode cX5_remove 1 = .ok (.getfield 20, 3) := by decide +kernel
theorem dX5_remove_4 : decode cX5_remove 4 = .ok (.getfield 95, 3) := by decide +kernel
theorem dX5_remove_7 : decode cX5_remove 7 = .ok (.iload_n 1, 1) := by decide +kernel
theorem dX5_remove_8 : decode cX5_remove 8 = .ok (.invokevirtual 104, 3) := by decide +kernel
theorem dX5_remove_11 : decode cX5_remove 11 = .ok (.ifCond .ne 5, 3) := by decide +kernel
theorem dX5_remove_14 : decode cX5_remove 14 = .ok (.iconst (-1), 1) := by decide +kernel
theorem dX5_remove_15 : decode cX5_remove 15 = .ok (.ireturn, 1) := by decide +kernel
theorem dX5_remove_16 : decode cX5_remove 16 = .ok (.aload_n 0, 1) := by decide +kernel
theorem dX5_remove_17 : decode cX5_remove 17 = .ok (.getfield 20, 3) := by decide +kernel
theorem dX5_remove_20 : decode cX5_remove 20 = .ok (.getfield 33, 3) := by decide +kernel
theorem dX5_remove_23 : decode cX5_remove 23 = .ok (.iconst 0, 1) := by decide +kernel
theorem dX5_remove_24 : decode cX5_remove 24 = .ok (.putfield 37, 3) := by decide +kernel
theorem dX5_remove_27 : decode cX5_remove 27 = .ok (.aload_n 0, 1) := by decide +kernel
theorem dX5_remove_28 : decode cX5_remove 28 = .ok (.getfield 20, 3) := by decide +kernel
theorem dX5_remove_31 : decode cX5_remove 31 = .ok (.getfield 95, 3) := by decide +kernel
theorem dX5_remove_34 : decode cX5_remove 34 = .ok (.iload_n 1, 1) := by decide +kernel
theorem dX5_remove_35 : decode cX5_remove 35 = .ok (.invokevirtual 109, 3) := by decide +kernel
theorem dX5_remove_38 : decode cX5_remove 38 = .ok (.aload_n 0, 1) := by decide +kernel
theorem dX5_remove_39 : decode cX5_remove 39 = .ok (.getfield 20, 3) := by decide +kernel
theorem dX5_remove_42 : decode cX5_remove 42 = .ok (.getfield 95, 3) := by decide +kernel
theorem dX5_remove_45 : decode cX5_remove 45 = .ok (.getfield 99, 3) := by decide +kernel
theorem dX5_remove_48 : decode cX5_remove 48 = .ok (.ireturn, 1) := by decide +kernel
set_option maxRecDepth 20000 in
theorem ggX5_difference_X1_has : GoodIn wsX5_difference wsX1_has := goodIn_r _ [5, 6, 34, 35] (by decide +kernel) (by decide +kernel)
set_option maxRecDepth 20000 in
theorem gX5_difference_X1_has_n104 : GoodIn wsX5_difference (wsX1_has) := ggX5_difference_X1_has
set_option maxRecDepth 20000 in
theorem ggX5_difference_X2_has : GoodIn wsX5_difference wsX2_has := goodIn_r _ [10, 11, 36, 37, 38] (by decide +kernel) (by decide +kernel)
set_option maxRecDepth 20000 in
theorem gX5_difference_X2_has_n75 : GoodIn wsX5_difference (wsX2_has) := ggX5_difference_X2_has
set_option maxRecDepth 20000 in
theorem ggX5_difference_X3_apart : GoodIn wsX5_difference wsX3_apart := goodIn_r _ [15, 16, 17, 18, 2, 3, 4, 5, 6, 7, 8, 9, 10, 11, 19, 20, 21, 22, 23, 24, 25, 29, 30, 31, 32, 33, 34, 35, 36, 37, 38] (by decide +kernel) (by decide +kernel)
set_option maxRecDepth 20000 in
theorem gX5_difference_X3_apart_n110 : GoodIn wsX5_difference (wsX3_apart) := ggX5_difference_X3_apart
theorem dX5_difference_0 : decode cX5_difference 0 = .ok (.aload_n 0, 1) := by decide +kernel
theorem dX5_difference_1 : decode cX5_difference 1 = .ok (.getfield 20, 3) := by decide +kernel
theorem dX5_difference_4 : decode cX5_difference 4 = .ok (.getfield 95, 3) := by decide +kernel
theorem dX5_difference_7 : decode cX5_difference 7 = .ok (.iload_n 1, 1) := by decide +kernel
theorem dX5_difference_8 : decode cX5_difference 8 = .ok (.invokevirtual 104, 3) := by decide +kernel
theorem dX5_difference_11 : decode cX5_difference 11 = .ok (.ifCond .eq 17, 3) := by decide +kernel
theorem dX5_difference_14 : decode cX5_difference 14 = .ok (.aload_n 0, 1) := by decide +kernel
theorem dX5_difference_15 : decode cX5_difference 15 = .ok (.getfield 20, 3) := by decide +kernel
theorem dX5_difference_18 : decode cX5_difference 18 = .ok (.getfield 50, 3) := by decide +kernel
theorem dX5_difference_21 : decode cX5_difference 21 = .ok (.iload_n 2, 1) := by decide +kernel
theorem dX5_difference_22 : decode cX5_difference 22 = .ok (.invokevirtual 75, 3) := by decide +kernel
theorem dX5_difference_25 : decode cX5_difference 25 = .ok (.ifCond .ne 5, 3) := by decide +kernel
theorem dX5_difference_28 : decode cX5_difference 28 = .ok (.iconst (-1), 1) := by decide +kernel
theorem dX5_difference_29 : decode cX5_difference 29 = .ok (.ireturn, 1) := by decide +kernel
theorem dX5_difference_30 : decode cX5_difference 30 = .ok (.aload_n 0, 1) := by decide +kernel
theorem dX5_difference_31 : decode cX5_difference 31 = .ok (.getfield 20, 3) := by decide +kernel
theorem dX5_difference_34 : decode cX5_difference 34 = .ok (.iload_n 1, 1) := by decide +kernel
theorem dX5_difference_35 : decode cX5_difference 35 = .ok (.iload_n 2, 1) := by decide +kernel
theorem dX5_difference_36 : decode cX5_difference 36 = .ok (.invokevirtual 110, 3) := by decide +kernel
theorem dX5_difference_39 : decode cX5_difference 39 = .ok (.ireturn, 1) := by decide +kernel
set_option maxRecDepth 20000 in
theorem ggX5_auction_X2_slots : GoodIn wsX5_auction wsX2_slots := goodIn_r _ [6, 7, 8, 9, 10, 4, 11, 12, 132, 133, 134] (by decide +kernel) (by decide +kernel)
set_option maxRecDepth 20000 in
theorem gX5_auction_X2_slots_n113 : GoodIn wsX5_auction (wsX2_slots) := ggX5_auction_X2_slots
set_option maxRecDepth 20000 in
theorem ggX5_auction_X0_holdAuction : GoodIn wsX5_auction wsX0_holdAuction := goodIn_r _ [16, 17, 18, 19, 20, 21, 22, 23, 24, 25, 26, 14, 27, 28, 29, 30, 31, 3, 4, 5, 6, 7, 8, 9, 10, 11, 12, 32, 33, 34, 35, 36, 37, 38, 39, 40, 41, 42, 43, 44, 45, 46, 47, 48, 49, 50, 51, 52, 53, 54, 55, 56, 57, 58, 59, 60, 61, 62, 63, 64, 65, 66, 67, 68, 69, 70, 71, 72, 73, 74, 75, 76, 77, 78, 79, 80, 81, 82, 83, 84, 85, 86, 87, 88, 89, 90, 91, 92, 93, 94, 95, 96, 97, 98, 99, 100, 101, 102, 103, 104, 105, 106, 107, 108, 109, 110, 111, 112, 113, 114, 115, 116, 117, 118, 119, 120, 121, 135, 136, 137, 138, 125, 126, 127, 128, 129, 132, 133, 134, 130, 131, 139, 140, 141, 142, 143, 144, 145, 146, 147, 148] (by decide +kernel) (by decide +kernel)
set_option maxRecDepth 20000 in
theorem gX5_auction_X0_holdAuction_n117 : GoodIn wsX5_auction (wsX0_holdAuction) := ggX5_auction_X0_holdAuction
theorem dX5_auction_0 : decode cX5_auction 0 = .ok (.aload_n 0, 1) := by decide +kernel
theorem dX5_auction_1 : decode cX5_auction 1 = .ok (.getfield 20, 3) := by decide +kernel
theorem dX5_auction_4 : decode cX5_auction 4 = .ok (.getfield 50, 3) := by decide +kernel
theorem dX5_auction_7 : decode cX5_auction 7 = .ok (.invokevirtual 113, 3) := by decide +kernel
theorem dX5_auction_10 : decode cX5_auction 10 = .ok (.istore_n 1, 1) := by decide +kernel
theorem dX5_auction_11 : decode cX5_auction 11 = .ok (.iload_n 1, 1) := by decide +kernel
theorem dX5_auction_12 : decode cX5_auction 12 = .ok (.ifCond .eq 17, 3) := by decide +kernel
theorem dX5_auction_15 : decode cX5_auction 15 = .ok (.iload_n 1, 1) := by decide +kernel
theorem dX5_auction_16 : decode cX5_auction 16 = .ok (.aload_n 0, 1) := by decide +kernel
theorem dX5_auction_17 : decode cX5_auction 17 = .ok (.getfield 20, 3) := by decide +kernel
theorem dX5_auction_20 : decode cX5_auction 20 = .ok (.getfield 95, 3) := by decide +kernel
theorem dX5_auction_23 : decode cX5_auction 23 = .ok (.getfield 99, 3) := by decide +kernel
theorem dX5_auction_26 : decode cX5_auction 26 = .ok (.if_icmp .ge 6, 3) := by decide +kernel
theorem dX5_auction_29 : decode cX5_auction 29 = .ok (.bipush (-5), 2) := by decide +kernel
theorem dX5_auction_31 : decode cX5_auction 31 = .ok (.ireturn, 1) := by decide +kernel
theorem dX5_auction_32 : decode cX5_auction 32 = .ok (.aload_n 0, 1) := by decide +kernel
theorem dX5_auction_33 : decode cX5_auction 33 = .ok (.getfield 10, 3) := by decide +kernel
theorem dX5_auction_36 : decode cX5_auction 36 = .ok (.invokevirtual 117, 3) := by decide +kernel
theorem dX5_auction_39 : decode cX5_auction 39 = .ok (.ireturn, 1) := by decide +kernel
set_option maxRecDepth 20000 in
theorem ggX5_repair_X0_mend : GoodIn wsX5_repair wsX0_mend := goodIn_r _ [6, 7, 8, 9, 10, 11, 4, 12, 13, 14, 15, 16, 17, 18, 19, 20, 21, 22, 23, 24, 25, 26, 27, 28, 29, 30, 31, 32, 33, 34, 35, 36, 37, 38, 39, 40, 41, 42, 43, 44, 45, 46, 47, 48, 49, 50, 51, 52, 53, 54, 55, 56, 57, 58, 59, 60, 61, 62, 63, 64, 65, 66, 67, 68, 69, 70, 71, 72, 73, 74, 75, 76, 77, 78, 79, 80, 81, 82, 83, 84, 85, 86, 87, 88, 89, 90, 91, 92, 93, 94, 95, 96, 97, 98, 99, 100, 101, 102, 103, 104, 105, 124, 125, 126, 127, 109, 110, 111, 112, 113, 128, 129, 130, 131, 132, 114, 115, 116, 117, 118, 119, 120, 121, 122, 123] (by decide +kernel) (by decide +kernel)
set_option maxRecDepth 20000 in
theorem gX5_repair_X0_mend_n120 : GoodIn wsX5_repair (wsX0_mend) := ggX5_repair_X0_mend
theorem dX5_repair_0 : decode cX5_repair 0 = .ok (.aload_n 0, 1) := by decide +kernel
theorem dX5_repair_1 : decode cX5_repair 1 = .ok (.getfield 20, 3) := by decide +kernel
theorem dX5_repair_4 : decode cX5_repair 4 = .ok (.getfield 33, 3) := by decide +kernel
theorem dX5_repair_7 : decode cX5_repair 7 = .ok (.getfield 37, 3) := by decide +kernel
theorem dX5_repair_10 : decode cX5_repair 10 = .ok (.ifCond .ne 6, 3) := by decide +kernel
theorem dX5_repair_13 : decode cX5_repair 13 = .ok (.bipush (-3), 2) := by decide +kernel
theorem dX5_repair_15 : decode cX5_repair 15 = .ok (.ireturn, 1) := by decide +kernel
theorem dX5_repair_16 : decode cX5_repair 16 = .ok (.aload_n 0, 1) := by decide +kernel
theorem dX5_repair_17 : decode cX5_repair 17 = .ok (.getfield 20, 3) := by decide +kernel
theorem dX5_repair_20 : decode cX5_repair 20 = .ok (.getfield 33, 3) := by decide +kernel
theorem dX5_repair_23 : decode cX5_repair 23 = .ok (.getfield 106, 3) := by decide +kernel
theorem dX5_repair_26 : decode cX5_repair 26 = .ok (.ifCond .eq 7, 3) := by decide +kernel
theorem dX5_repair_29 : decode cX5_repair 29 = .ok (.iconst 0, 1) := by decide +kernel
theorem dX5_repair_30 : decode cX5_repair 30 = .ok (.goto 10, 3) := by decide +kernel
theorem dX5_repair_33 : decode cX5_repair 33 = .ok (.aload_n 0, 1) := by decide +kernel
theorem dX5_repair_34 : decode cX5_repair 34 = .ok (.getfield 10, 3) := by decide +kernel
theorem dX5_repair_37 : decode cX5_repair 37 = .ok (.invokevirtual 120, 3) := by decide +kernel
theorem dX5_repair_40 : decode cX5_repair 40 = .ok (.ireturn, 1) := by decide +kernel
set_option maxRecDepth 20000 in
theorem ggX5_phase_X4_hasPhase : GoodIn wsX5_phase wsX4_hasPhase := goodIn_r _ [5, 6, 15, 16, 17, 18, 19, 20, 21, 22, 23, 24] (by decide +kernel) (by decide +kernel)
set_option maxRecDepth 20000 in
theorem gX5_phase_X4_hasPhase_n123 : GoodIn wsX5_phase (wsX4_hasPhase) := ggX5_phase_X4_hasPhase
theorem dX5_phase_0 : decode cX5_phase 0 = .ok (.aload_n 0, 1) := by decide +kernel
theorem dX5_phase_1 : decode cX5_phase 1 = .ok (.getfield 20, 3) := by decide +kernel
theorem dX5_phase_4 : decode cX5_phase 4 = .ok (.getfield 33, 3) := by decide +kernel
theorem dX5_phase_7 : decode cX5_phase 7 = .ok (.getfield 37, 3) := by decide +kernel
theorem dX5_phase_10 : decode cX5_phase 10 = .ok (.ifCond .ne 6, 3) := by decide +kernel
theorem dX5_phase_13 : decode cX5_phase 13 = .ok (.bipush (-3), 2) := by decide +kernel
theorem dX5_phase_15 : decode cX5_phase 15 = .ok (.ireturn, 1) := by decide +kernel
theorem dX5_phase_16 : decode cX5_phase 16 = .ok (.aload_n 0, 1) := by decide +kernel
theorem dX5_phase_17 : decode cX5_phase 17 = .ok (.getfield 20, 3) := by decide +kernel
theorem dX5_phase_20 : decode cX5_phase 20 = .ok (.getfield 33, 3) := by decide +kernel
theorem dX5_phase_23 : decode cX5_phase 23 = .ok (.iload_n 1, 1) := by decide +kernel
theorem dX5_phase_24 : decode cX5_phase 24 = .ok (.invokevirtual 123, 3) := by decide +kernel
theorem dX5_phase_27 : decode cX5_phase 27 = .ok (.ifCond .ne 5, 3) := by decide +kernel
theorem dX5_phase_30 : decode cX5_phase 30 = .ok (.iconst (-1), 1) := by decide +kernel
theorem dX5_phase_31 : decode cX5_phase 31 = .ok (.ireturn, 1) := by decide +kernel
theorem dX5_phase_32 : decode cX5_phase 32 = .ok (.iload_n 2, 1) := by decide +kernel
theorem dX5_phase_33 : decode cX5_phase 33 = .ok (.tableswitch 66 0 2 #[27, 40, 53], 27) := by decide +kernel
theorem dX5_phase_60 : decode cX5_phase 60 = .ok (.aload_n 0, 1) := by decide +kernel
theorem dX5_phase_61 : decode cX5_phase 61 = .ok (.getfield 20, 3) := by decide +kernel
theorem dX5_phase_64 : decode cX5_phase 64 = .ok (.getfield 33, 3) := by decide +kernel
theorem dX5_phase_67 : decode cX5_phase 67 = .ok (.getfield 126, 3) := by decide +kernel
theorem dX5_phase_70 : decode cX5_phase 70 = .ok (.iload_n 1, 1) := by decide +kernel
theorem dX5_phase_71 : decode cX5_phase 71 = .ok (.iaload, 1) := by decide +kernel
theorem dX5_phase_72 : decode cX5_phase 72 = .ok (.ireturn, 1) := by decide +kernel
theorem dX5_phase_73 : decode cX5_phase 73 = .ok (.aload_n 0, 1) := by decide +kernel
theorem dX5_phase_74 : decode cX5_phase 74 = .ok (.getfield 20, 3) := by decide +kernel
theorem dX5_phase_77 : decode cX5_phase 77 = .ok (.getfield 33, 3) := by decide +kernel
theorem dX5_phase_80 : decode cX5_phase 80 = .ok (.getfield 129, 3) := by decide +kernel
theorem dX5_phase_83 : decode cX5_phase 83 = .ok (.iload_n 1, 1) := by decide +kernel
theorem dX5_phase_84 : decode cX5_phase 84 = .ok (.iaload, 1) := by decide +kernel
theorem dX5_phase_85 : decode cX5_phase 85 = .ok (.ireturn, 1) := by decide +kernel
theorem dX5_phase_86 : decode cX5_phase 86 = .ok (.aload_n 0, 1) := by decide +kernel
theorem dX5_phase_87 : decode cX5_phase 87 = .ok (.getfield 20, 3) := by decide +kernel
theorem dX5_phase_90 : decode cX5_phase 90 = .ok (.getfield 33, 3) := by decide +kernel
theorem dX5_phase_93 : decode cX5_phase 93 = .ok (.getfield 132, 3) := by decide +kernel
theorem dX5_phase_96 : decode cX5_phase 96 = .ok (.iload_n 1, 1) := by decide +kernel
theorem dX5_phase_97 : decode cX5_phase 97 = .ok (.iaload, 1) := by decide +kernel
theorem dX5_phase_98 : decode cX5_phase 98 = .ok (.ireturn, 1) := by decide +kernel
theorem dX5_phase_99 : decode cX5_phase 99 = .ok (.bipush (-2), 2) := by decide +kernel
theorem dX5_phase_101 : decode cX5_phase 101 = .ok (.ireturn, 1) := by decide +kernel
set_option maxRecDepth 20000 in
theorem ggX5_place_X4_isDone : GoodIn wsX5_place wsX4_isDone := goodIn_r _ [5, 6, 7, 40, 41, 42, 43, 44, 45, 46, 47, 48, 49] (by decide +kernel) (by decide +kernel)
set_option maxRecDepth 20000 in
theorem gX5_place_X4_isDone_n88 : GoodIn wsX5_place (wsX4_isDone) := ggX5_place_X4_isDone
set_option maxRecDepth 20000 in
theorem ggX5_place_X1_has : GoodIn wsX5_place wsX1_has := goodIn_r _ [11, 12, 50, 51] (by decide +kernel) (by decide +kernel)
set_option maxRecDepth 20000 in
theorem gX5_place_X1_has_n104 : GoodIn wsX5_place (wsX1_has) := ggX5_place_X1_has
set_option maxRecDepth 20000 in
theorem ggX5_place_X3_kindOf : GoodIn wsX5_place wsX3_kindOf := goodIn_r _ [16, 17, 18, 19, 3, 20, 21, 22, 23, 24, 25, 26, 27, 28, 29, 30, 31, 35, 36, 37, 38, 39, 40, 41, 42, 43, 44, 45, 46, 47, 48, 49, 52, 53, 54] (by decide +kernel) (by decide +kernel)
set_option maxRecDepth 20000 in
theorem gX5_place_X3_kindOf_n135 : GoodIn wsX5_place (wsX3_kindOf) := ggX5_place_X3_kindOf
theorem dX5_place_0 : decode cX5_place 0 = .ok (.aload_n 0, 1) := by decide +kernel
theorem dX5_place_1 : decode cX5_place 1 = .ok (.getfield 20, 3) := by decide +kernel
theorem dX5_place_4 : decode cX5_place 4 = .ok (.getfield 33, 3) := by decide +kernel
theorem dX5_place_7 : decode cX5_place 7 = .ok (.invokevirtual 88, 3) := by decide +kernel
theorem dX5_place_10 : decode cX5_place 10 = .ok (.ifCond .ne 6, 3) := by decide +kernel
theorem dX5_place_13 : decode cX5_place 13 = .ok (.bipush (-3), 2) := by decide +kernel
theorem dX5_place_15 : decode cX5_place 15 = .ok (.ireturn, 1) := by decide +kernel
theorem dX5_place_16 : decode cX5_place 16 = .ok (.aload_n 0, 1) := by decide +kernel
theorem dX5_place_17 : decode cX5_place 17 = .ok (.getfield 20, 3) := by decide +kernel
theorem dX5_place_20 : decode cX5_place 20 = .ok (.getfield 95, 3) := by decide +kernel
theorem dX5_place_23 : decode cX5_place 23 = .ok (.iload_n 1, 1) := by decide +kernel
theorem dX5_place_24 : decode cX5_place 24 = .ok (.invokevirtual 104, 3) := by decide +kernel
theorem dX5_place_27 : decode cX5_place 27 = .ok (.ifCond .ne 5, 3) := by decide +kernel
theorem dX5_place_30 : decode cX5_place 30 = .ok (.iconst (-1), 1) := by decide +kernel
theorem dX5_place_31 : decode cX5_place 31 = .ok (.ireturn, 1) := by decide +kernel
theorem dX5_place_32 : decode cX5_place 32 = .ok (.aload_n 0, 1) := by decide +kernel
theorem dX5_place_33 : decode cX5_place 33 = .ok (.getfield 20, 3) := by decide +kernel
theorem dX5_place_36 : decode cX5_place 36 = .ok (.iload_n 1, 1) := by decide +kernel
theorem dX5_place_37 : decode cX5_place 37 = .ok (.invokevirtual 135, 3) := by decide +kernel
theorem dX5_place_40 : decode cX5_place 40 = .ok (.ireturn, 1) := by decide +kernel
set_option maxRecDepth 20000 in
theorem ggX5_slot_X4_isInRow : GoodIn wsX5_slot wsX4_isInRow := goodIn_r _ [4] (by decide +kernel) (by decide +kernel)
set_option maxRecDepth 20000 in
theorem gX5_slot_X4_isInRow_n138 : GoodIn wsX5_slot (wsX4_isInRow) := ggX5_slot_X4_isInRow
set_option maxRecDepth 20000 in
theorem ggX5_slot_X2_slots : GoodIn wsX5_slot wsX2_slots := goodIn_r _ [8, 9, 10, 11, 12, 6, 13, 14, 47, 48, 49] (by decide +kernel) (by decide +kernel)
set_option maxRecDepth 20000 in
theorem gX5_slot_X2_slots_n113 : GoodIn wsX5_slot (wsX2_slots) := ggX5_slot_X2_slots
set_option maxRecDepth 20000 in
theorem ggX5_slot_X2_ofSlot : GoodIn wsX5_slot wsX2_ofSlot := goodIn_r _ [17, 9, 14, 47, 48, 49] (by decide +kernel) (by decide +kernel)
set_option maxRecDepth 20000 in
theorem gX5_slot_X2_ofSlot_n144 : GoodIn wsX5_slot (wsX2_ofSlot) := ggX5_slot_X2_ofSlot
set_option maxRecDepth 20000 in
theorem ggX5_slot_X3_cellOf : GoodIn wsX5_slot wsX3_cellOf := goodIn_r _ [21, 22, 23, 2, 3, 4, 24, 25, 26, 27, 28, 32, 33, 34, 35, 36, 37, 38, 39, 40, 41, 42, 43, 44, 45, 46, 50, 51] (by decide +kernel) (by decide +kernel)
set_option maxRecDepth 20000 in
theorem gX5_slot_X3_cellOf_n147 : GoodIn wsX5_slot (wsX3_cellOf) := ggX5_slot_X3_cellOf
theorem dX5_slot_0 : decode cX5_slot 0 = .ok (.aload_n 0, 1) := by decide +kernel
theorem dX5_slot_1 : decode cX5_slot 1 = .ok (.getfield 20, 3) := by decide +kernel
theorem dX5_slot_4 : decode cX5_slot 4 = .ok (.getfield 33, 3) := by decide +kernel
theorem dX5_slot_7 : decode cX5_slot 7 = .ok (.getfield 37, 3) := by decide +kernel
theorem dX5_slot_10 : decode cX5_slot 10 = .ok (.ifCond .eq 21, 3) := by decide +kernel
theorem dX5_slot_13 : decode cX5_slot 13 = .ok (.iload_n 2, 1) := by decide +kernel
theorem dX5_slot_14 : decode cX5_slot 14 = .ok (.iconst 2, 1) := by decide +kernel
theorem dX5_slot_15 : decode cX5_slot 15 = .ok (.if_icmp .ne 19, 3) := by decide +kernel
theorem dX5_slot_18 : decode cX5_slot 18 = .ok (.aload_n 0, 1) := by decide +kernel
theorem dX5_slot_19 : decode cX5_slot 19 = .ok (.getfield 20, 3) := by decide +kernel
theorem dX5_slot_22 : decode cX5_slot 22 = .ok (.getfield 33, 3) := by decide +kernel
theorem dX5_slot_25 : decode cX5_slot 25 = .ok (.getfield 106, 3) := by decide +kernel
theorem dX5_slot_28 : decode cX5_slot 28 = .ok (.ifCond .ne 6, 3) := by decide +kernel
theorem dX5_slot_31 : decode cX5_slot 31 = .ok (.bipush (-3), 2) := by decide +kernel
theorem dX5_slot_33 : decode cX5_slot 33 = .ok (.ireturn, 1) := by decide +kernel
theorem dX5_slot_34 : decode cX5_slot 34 = .ok (.iload_n 1, 1) := by decide +kernel
theorem dX5_slot_35 : decode cX5_slot 35 = .ok (.invokestatic 138, 3) := by decide +kernel
theorem dX5_slot_38 : decode cX5_slot 38 = .ok (.ifCond .eq 17, 3) := by decide +kernel
theorem dX5_slot_41 : decode cX5_slot 41 = .ok (.iload_n 1, 1) := by decide +kernel
theorem dX5_slot_42 : decode cX5_slot 42 = .ok (.aload_n 0, 1) := by decide +kernel
theorem dX5_slot_43 : decode cX5_slot 43 = .ok (.getfield 20, 3) := by decide +kernel
theorem dX5_slot_46 : decode cX5_slot 46 = .ok (.getfield 50, 3) := by decide +kernel
theorem dX5_slot_49 : decode cX5_slot 49 = .ok (.invokevirtual 113, 3) := by decide +kernel
theorem dX5_slot_52 : decode cX5_slot 52 = .ok (.if_icmp .lt 5, 3) := by decide +kernel
theorem dX5_slot_55 : decode cX5_slot 55 = .ok (.iconst (-1), 1) := by decide +kernel
theorem dX5_slot_56 : decode cX5_slot 56 = .ok (.ireturn, 1) := by decide +kernel
theorem dX5_slot_57 : decode cX5_slot 57 = .ok (.iload_n 2, 1) := by decide +kernel
theorem dX5_slot_58 : decode cX5_slot 58 = .ok (.tableswitch 60 0 2 #[26, 39, 51], 26) := by decide +kernel
theorem dX5_slot_84 : decode cX5_slot 84 = .ok (.aload_n 0, 1) := by decide +kernel
theorem dX5_slot_85 : decode cX5_slot 85 = .ok (.getfield 20, 3) := by decide +kernel
theorem dX5_slot_88 : decode cX5_slot 88 = .ok (.getfield 33, 3) := by decide +kernel
theorem dX5_slot_91 : decode cX5_slot 91 = .ok (.getfield 141, 3) := by decide +kernel
theorem dX5_slot_94 : decode cX5_slot 94 = .ok (.iload_n 1, 1) := by decide +kernel
theorem dX5_slot_95 : decode cX5_slot 95 = .ok (.iaload, 1) := by decide +kernel
theorem dX5_slot_96 : decode cX5_slot 96 = .ok (.ireturn, 1) := by decide +kernel
theorem dX5_slot_97 : decode cX5_slot 97 = .ok (.aload_n 0, 1) := by decide +kernel
theorem dX5_slot_98 : decode cX5_slot 98 = .ok (.getfield 20, 3) := by decide +kernel
theorem dX5_slot_101 : decode cX5_slot 101 = .ok (.getfield 50, 3) := by decide +kernel
theorem dX5_slot_104 : decode cX5_slot 104 = .ok (.iload_n 1, 1) := by decide +kernel
theorem dX5_slot_105 : decode cX5_slot 105 = .ok (.invokevirtual 144, 3) := by decide +kernel
theorem dX5_slot_108 : decode cX5_slot 108 = .ok (.ireturn, 1) := by decide +kernel
theorem dX5_slot_109 : decode cX5_slot 109 = .ok (.aload_n 0, 1) := by decide +kernel
theorem dX5_slot_110 : decode cX5_slot 110 = .ok (.getfield 20, 3) := by decide +kernel
theorem dX5_slot_113 : decode cX5_slot 113 = .ok (.iload_n 1, 1) := by decide +kernel
theorem dX5_slot_114 : decode cX5_slot 114 = .ok (.invokevirtual 147, 3) := by decide +kernel
theorem dX5_slot_117 : decode cX5_slot 117 = .ok (.ireturn, 1) := by decide +kernel
theorem dX5_slot_118 : decode cX5_slot 118 = .ok (.bipush (-2), 2) := by decide +kernel
theorem dX5_slot_120 : decode cX5_slot 120 = .ok (.ireturn, 1) := by decide +kernel
set_option maxRecDepth 20000 in
theorem ggX5_gain_X1_has : GoodIn wsX5_gain wsX1_has := goodIn_r _ [9, 10, 95, 96] (by decide +kernel) (by decide +kernel)
set_option maxRecDepth 20000 in
theorem gX5_gain_X1_has_n104 : GoodIn wsX5_gain (wsX1_has) := ggX5_gain_X1_has
set_option maxRecDepth 20000 in
theorem ggX5_gain_X0_readWorths : GoodIn wsX5_gain wsX0_readWorths := goodIn_r _ [14, 15, 16, 17, 18, 19, 20, 21, 22, 23, 24, 25, 26, 27, 28, 29, 30, 31, 32, 33, 34, 35, 36, 37, 12, 38, 6, 7, 8, 9, 10, 39, 40, 41, 42, 43, 44, 45, 46, 47, 48, 49, 50, 51, 52, 53, 54, 97, 98, 99, 100, 80, 81, 82, 83, 84, 101, 102, 103, 95, 96] (by decide +kernel) (by decide +kernel)
set_option maxRecDepth 20000 in
theorem gX5_gain_X0_readWorths_n153 : GoodIn wsX5_gain (wsX0_readWorths) := ggX5_gain_X0_readWorths
set_option maxRecDepth 20000 in
theorem ggX5_gain_X0_ownGain : GoodIn wsX5_gain wsX0_ownGain := goodIn_r _ [57, 58, 59, 60, 61, 62, 63, 64, 65, 66, 67, 68, 69, 12, 70, 21, 97, 98, 99, 100, 85, 86, 87, 88, 89, 90, 91, 92, 93, 94] (by decide +kernel) (by decide +kernel)
set_option maxRecDepth 20000 in
theorem gX5_gain_X0_ownGain_n156 : GoodIn wsX5_gain (wsX0_ownGain) := ggX5_gain_X0_ownGain
set_option maxRecDepth 20000 in
theorem ggX5_gain_X0_greatestGain : GoodIn wsX5_gain wsX0_greatestGain := goodIn_r _ [73, 20, 74, 75, 18, 76, 67, 68, 69, 12, 70, 21, 58, 65, 60, 66, 97, 98, 99, 100, 85, 86, 87, 88, 89, 90, 91, 92, 93, 94] (by decide +kernel) (by decide +kernel)
set_option maxRecDepth 20000 in
theorem gX5_gain_X0_greatestGain_n159 : GoodIn wsX5_gain (wsX0_greatestGain) := ggX5_gain_X0_greatestGain
theorem dX5_gain_0 : decode cX5_gain 0 = .ok (.aload_n 0, 1) := by decide +kernel
theorem dX5_gain_1 : decode cX5_gain 1 = .ok (.getfield 20, 3) := by decide +kernel
theorem dX5_gain_4 : decode cX5_gain 4 = .ok (.getfield 33, 3) := by decide +kernel
theorem dX5_gain_7 : decode cX5_gain 7 = .ok (.getfield 37, 3) := by decide +kernel
theorem dX5_gain_10 : decode cX5_gain 10 = .ok (.ifCond .eq 20, 3) := by decide +kernel
theorem dX5_gain_13 : decode cX5_gain 13 = .ok (.iload_n 2, 1) := by decide +kernel
theorem dX5_gain_14 : decode cX5_gain 14 = .ok (.ifCond .ne 19, 3) := by decide +kernel
theorem dX5_gain_17 : decode cX5_gain 17 = .ok (.aload_n 0, 1) := by decide +kernel
theorem dX5_gain_18 : decode cX5_gain 18 = .ok (.getfield 20, 3) := by decide +kernel
theorem dX5_gain_21 : decode cX5_gain 21 = .ok (.getfield 33, 3) := by decide +kernel
theorem dX5_gain_24 : decode cX5_gain 24 = .ok (.getfield 106, 3) := by decide +kernel
theorem dX5_gain_27 : decode cX5_gain 27 = .ok (.ifCond .ne 6, 3) := by decide +kernel
theorem dX5_gain_30 : decode cX5_gain 30 = .ok (.ldc 150, 2) := by decide +kernel
theorem dX5_gain_32 : decode cX5_gain 32 = .ok (.ireturn, 1) := by decide +kernel
theorem dX5_gain_33 : decode cX5_gain 33 = .ok (.aload_n 0, 1) := by decide +kernel
theorem dX5_gain_34 : decode cX5_gain 34 = .ok (.getfield 20, 3) := by decide +kernel
theorem dX5_gain_37 : decode cX5_gain 37 = .ok (.getfield 95, 3) := by decide +kernel
theorem dX5_gain_40 : decode cX5_gain 40 = .ok (.iload_n 1, 1) := by decide +kernel
theorem dX5_gain_41 : decode cX5_gain 41 = .ok (.invokevirtual 104, 3) := by decide +kernel
theorem dX5_gain_44 : decode cX5_gain 44 = .ok (.ifCond .ne 6, 3) := by decide +kernel
theorem dX5_gain_47 : decode cX5_gain 47 = .ok (.ldc 151, 2) := by decide +kernel
theorem dX5_gain_49 : decode cX5_gain 49 = .ok (.ireturn, 1) := by decide +kernel
theorem dX5_gain_50 : decode cX5_gain 50 = .ok (.iload_n 2, 1) := by decide +kernel
theorem dX5_gain_51 : decode cX5_gain 51 = .ok (.ifCond .eq 11, 3) := by decide +kernel
theorem dX5_gain_54 : decode cX5_gain 54 = .ok (.iload_n 2, 1) := by decide +kernel
theorem dX5_gain_55 : decode cX5_gain 55 = .ok (.iconst 1, 1) := by decide +kernel
theorem dX5_gain_56 : decode cX5_gain 56 = .ok (.if_icmp .eq 6, 3) := by decide +kernel
theorem dX5_gain_59 : decode cX5_gain 59 = .ok (.ldc 152, 2) := by decide +kernel
theorem dX5_gain_61 : decode cX5_gain 61 = .ok (.ireturn, 1) := by decide +kernel
theorem dX5_gain_62 : decode cX5_gain 62 = .ok (.aload_n 0, 1) := by decide +kernel
theorem dX5_gain_63 : decode cX5_gain 63 = .ok (.getfield 10, 3) := by decide +kernel
theorem dX5_gain_66 : decode cX5_gain 66 = .ok (.invokevirtual 153, 3) := by decide +kernel
theorem dX5_gain_69 : decode cX5_gain 69 = .ok (.iload_n 2, 1) := by decide +kernel
theorem dX5_gain_70 : decode cX5_gain 70 = .ok (.ifCond .ne 14, 3) := by decide +kernel
theorem dX5_gain_73 : decode cX5_gain 73 = .ok (.aload_n 0, 1) := by decide +kernel
theorem dX5_gain_74 : decode cX5_gain 74 = .ok (.getfield 10, 3) := by decide +kernel
theorem dX5_gain_77 : decode cX5_gain 77 = .ok (.iload_n 1, 1) := by decide +kernel
theorem dX5_gain_78 : decode cX5_gain 78 = .ok (.invokevirtual 156, 3) := by decide +kernel
theorem dX5_gain_81 : decode cX5_gain 81 = .ok (.goto 11, 3) := by decide +kernel
theorem dX5_gain_84 : decode cX5_gain 84 = .ok (.aload_n 0, 1) := by decide +kernel
theorem dX5_gain_85 : decode cX5_gain 85 = .ok (.getfield 10, 3) := by decide +kernel
theorem dX5_gain_88 : decode cX5_gain 88 = .ok (.iload_n 1, 1) := by decide +kernel
theorem dX5_gain_89 : decode cX5_gain 89 = .ok (.invokevirtual 159, 3) := by decide +kernel
theorem dX5_gain_92 : decode cX5_gain 92 = .ok (.ireturn, 1) := by decide +kernel
set_option maxRecDepth 20000 in
theorem ggX5_total_X4_isDone : GoodIn wsX5_total wsX4_isDone := goodIn_r _ [5, 6, 7, 60, 61, 62, 63, 64, 65, 66, 67, 68, 69] (by decide +kernel) (by decide +kernel)
set_option maxRecDepth 20000 in
theorem gX5_total_X4_isDone_n88 : GoodIn wsX5_total (wsX4_isDone) := ggX5_total_X4_isDone
set_option maxRecDepth 20000 in
theorem ggX5_total_X3_sumOfDifferences : GoodIn wsX5_total wsX3_sumOfDifferences := goodIn_r _ [11, 12, 13, 14, 15, 9, 16, 17, 18, 19, 3, 20, 21, 22, 23, 24, 25, 26, 27, 28, 29, 30, 31, 32, 33, 34, 35, 36, 37, 38, 39, 40, 41, 42, 43, 44, 45, 46, 47, 48, 49, 50, 51, 55, 56, 57, 58, 59, 70, 71, 60, 61, 62, 63, 64, 65, 66, 67, 68, 69, 72, 73, 74] (by decide +kernel) (by decide +kernel)
set_option maxRecDepth 20000 in
theorem gX5_total_X3_sumOfDifferences_n162 : GoodIn wsX5_total (wsX3_sumOfDifferences) := ggX5_total_X3_sumOfDifferences
theorem dX5_total_0 : decode cX5_total 0 = .ok (.aload_n 0, 1) := by decide +kernel
theorem dX5_total_1 : decode cX5_total 1 = .ok (.getfield 20, 3) := by decide +kernel
theorem dX5_total_4 : decode cX5_total 4 = .ok (.getfield 33, 3) := by decide +kernel
theorem dX5_total_7 : decode cX5_total 7 = .ok (.invokevirtual 88, 3) := by decide +kernel
theorem dX5_total_10 : decode cX5_total 10 = .ok (.ifCond .eq 13, 3) := by decide +kernel
theorem dX5_total_13 : decode cX5_total 13 = .ok (.aload_n 0, 1) := by decide +kernel
theorem dX5_total_14 : decode cX5_total 14 = .ok (.getfield 20, 3) := by decide +kernel
theorem dX5_total_17 : decode cX5_total 17 = .ok (.invokevirtual 162, 3) := by decide +kernel
theorem dX5_total_20 : decode cX5_total 20 = .ok (.goto 5, 3) := by decide +kernel
theorem dX5_total_23 : decode cX5_total 23 = .ok (.bipush (-3), 2) := by decide +kernel
theorem dX5_total_25 : decode cX5_total 25 = .ok (.ireturn, 1) := by decide +kernel
set_option maxRecDepth 20000 in
theorem ggX5_image_X3_init : GoodIn wsX5_image wsX3_init := goodIn_r _ [7, 8, 9, 10, 11, 12, 13, 14, 15, 16, 17, 18, 19, 20, 21, 22, 23, 24, 25, 26, 27, 28, 29, 30, 31, 32, 33, 34, 35, 36, 37, 38, 39, 40, 41, 42, 43, 71, 72, 73, 74, 75, 76, 77, 78, 79, 80, 81, 82, 83, 84, 85, 86, 87, 88, 89, 90] (by decide +kernel) (by decide +kernel)
set_option maxRecDepth 20000 in
theorem gX5_image_X3_init_n165 : GoodIn wsX5_image (wsX3_init) := ggX5_image_X3_init
set_option maxRecDepth 20000 in
theorem ggX5_image_X3_copyFrom : GoodIn wsX5_image wsX3_copyFrom := goodIn_r _ [46, 11, 12, 16, 20, 24, 47, 15, 48, 49, 50, 29, 51, 52, 53, 54, 30, 55, 19, 56, 57, 58, 34, 59, 60, 23, 61, 62, 63, 64, 65, 66, 38, 67, 39, 40, 41, 42, 43, 71, 72, 73, 74, 75, 76, 77, 78, 79, 80, 81, 82, 83, 84, 85, 86, 87, 88, 89, 90] (by decide +kernel) (by decide +kernel)
set_option maxRecDepth 20000 in
theorem gX5_image_X3_copyFrom_n166 : GoodIn wsX5_image (wsX3_copyFrom) := ggX5_image_X3_copyFrom
theorem dX5_image_0 : decode cX5_image 0 = .ok (.iload_n 1, 1) := by decide +kernel
theorem dX5_image_1 : decode cX5_image 1 = .ok (.ifCond .lt 8, 3) := by decide +kernel
theorem dX5_image_4 : decode cX5_image 4 = .ok (.iload_n 1, 1) := by decide +kernel
theorem dX5_image_5 : decode cX5_image 5 = .ok (.iconst 2, 1) := by decide +kernel
theorem dX5_image_6 : decode cX5_image 6 = .ok (.if_icmp .lt 6, 3) := by decide +kernel
theorem dX5_image_9 : decode cX5_image 9 = .ok (.bipush (-2), 2) := by decide +kernel
theorem dX5_image_11 : decode cX5_image 11 = .ok (.ireturn, 1) := by decide +kernel
theorem dX5_image_12 : decode cX5_image 12 = .ok (.aload_n 0, 1) := by decide +kernel
theorem dX5_image_13 : decode cX5_image 13 = .ok (.getfield 25, 3) := by decide +kernel
theorem dX5_image_16 : decode cX5_image 16 = .ok (.iload_n 1, 1) := by decide +kernel
theorem dX5_image_17 : decode cX5_image 17 = .ok (.aaload, 1) := by decide +kernel
theorem dX5_image_18 : decode cX5_image 18 = .ok (.ifnonnull 16, 3) := by decide +kernel
theorem dX5_image_21 : decode cX5_image 21 = .ok (.aload_n 0, 1) := by decide +kernel
theorem dX5_image_22 : decode cX5_image 22 = .ok (.getfield 25, 3) := by decide +kernel
theorem dX5_image_25 : decode cX5_image 25 = .ok (.iload_n 1, 1) := by decide +kernel
theorem dX5_image_26 : decode cX5_image 26 = .ok (.new 23, 3) := by decide +kernel
theorem dX5_image_29 : decode cX5_image 29 = .ok (.dup, 1) := by decide +kernel
theorem dX5_image_30 : decode cX5_image 30 = .ok (.invokespecial 165, 3) := by decide +kernel
theorem dX5_image_33 : decode cX5_image 33 = .ok (.aastore, 1) := by decide +kernel
theorem dX5_image_34 : decode cX5_image 34 = .ok (.aload_n 0, 1) := by decide +kernel
theorem dX5_image_35 : decode cX5_image 35 = .ok (.getfield 25, 3) := by decide +kernel
theorem dX5_image_38 : decode cX5_image 38 = .ok (.iload_n 1, 1) := by decide +kernel
theorem dX5_image_39 : decode cX5_image 39 = .ok (.aaload, 1) := by decide +kernel
theorem dX5_image_40 : decode cX5_image 40 = .ok (.aload_n 0, 1) := by decide +kernel
theorem dX5_image_41 : decode cX5_image 41 = .ok (.getfield 20, 3) := by decide +kernel
theorem dX5_image_44 : decode cX5_image 44 = .ok (.invokevirtual 166, 3) := by decide +kernel
theorem dX5_image_47 : decode cX5_image 47 = .ok (.iconst 1, 1) := by decide +kernel
theorem dX5_image_48 : decode cX5_image 48 = .ok (.ireturn, 1) := by decide +kernel
set_option maxRecDepth 20000 in
theorem ggX5_restore_X3_copyFrom : GoodIn wsX5_restore wsX3_copyFrom := goodIn_r _ [6, 7, 8, 9, 10, 11, 12, 13, 14, 15, 16, 17, 18, 19, 20, 21, 22, 23, 24, 25, 26, 27, 28, 29, 30, 31, 32, 33, 34, 35, 36, 37, 38, 39, 40, 41, 42, 43, 44, 48, 49, 50, 51, 52, 53, 54, 55, 56, 57, 58, 59, 60, 61, 62, 63, 64, 65, 66, 67] (by decide +kernel) (by decide +kernel)
set_option maxRecDepth 20000 in
theorem gX5_restore_X3_copyFrom_n166 : GoodIn wsX5_restore (wsX3_copyFrom) := ggX5_restore_X3_copyFrom
theorem dX5_restore_0 : decode cX5_restore 0 = .ok (.iload_n 1, 1) := by decide +kernel
theorem dX5_restore_1 : decode cX5_restore 1 = .ok (.ifCond .lt 8, 3) := by decide +kernel
theorem dX5_restore_4 : decode cX5_restore 4 = .ok (.iload_n 1, 1) := by decide +kernel
theorem dX5_restore_5 : decode cX5_restore 5 = .ok (.iconst 2, 1) := by decide +kernel
theorem dX5_restore_6 : decode cX5_restore 6 = .ok (.if_icmp .lt 6, 3) := by decide +kernel
theorem dX5_restore_9 : decode cX5_restore 9 = .ok (.bipush (-2), 2) := by decide +kernel
theorem dX5_restore_11 : decode cX5_restore 11 = .ok (.ireturn, 1) := by decide +kernel
theorem dX5_restore_12 : decode cX5_restore 12 = .ok (.aload_n 0, 1) := by decide +kernel
theorem dX5_restore_13 : decode cX5_restore 13 = .ok (.getfield 25, 3) := by decide +kernel
theorem dX5_restore_16 : decode cX5_restore 16 = .ok (.iload_n 1, 1) := by decide +kernel
theorem dX5_restore_17 : decode cX5_restore 17 = .ok (.aaload, 1) := by decide +kernel
theorem dX5_restore_18 : decode cX5_restore 18 = .ok (.ifnonnull 6, 3) := by decide +kernel
theorem dX5_restore_21 : decode cX5_restore 21 = .ok (.bipush (-3), 2) := by decide +kernel
theorem dX5_restore_23 : decode cX5_restore 23 = .ok (.ireturn, 1) := by decide +kernel
theorem dX5_restore_24 : decode cX5_restore 24 = .ok (.aload_n 0, 1) := by decide +kernel
theorem dX5_restore_25 : decode cX5_restore 25 = .ok (.getfield 20, 3) := by decide +kernel
theorem dX5_restore_28 : decode cX5_restore 28 = .ok (.aload_n 0, 1) := by decide +kernel
theorem dX5_restore_29 : decode cX5_restore 29 = .ok (.getfield 25, 3) := by decide +kernel
theorem dX5_restore_32 : decode cX5_restore 32 = .ok (.iload_n 1, 1) := by decide +kernel
theorem dX5_restore_33 : decode cX5_restore 33 = .ok (.aaload, 1) := by decide +kernel
theorem dX5_restore_34 : decode cX5_restore 34 = .ok (.invokevirtual 166, 3) := by decide +kernel
theorem dX5_restore_37 : decode cX5_restore 37 = .ok (.iconst 1, 1) := by decide +kernel
theorem dX5_restore_38 : decode cX5_restore 38 = .ok (.ireturn, 1) := by decide +kernel
set_option maxRecDepth 20000 in
theorem ggX5_told_X2_slots : GoodIn wsX5_told wsX2_slots := goodIn_r _ [5, 6, 7, 8, 9, 3, 10, 11, 36, 37, 38] (by decide +kernel) (by decide +kernel)
set_option maxRecDepth 20000 in
theorem gX5_told_X2_slots_n113 : GoodIn wsX5_told (wsX2_slots) := ggX5_told_X2_slots
set_option maxRecDepth 20000 in
theorem ggX5_told_X4_isDone : GoodIn wsX5_told wsX4_isDone := goodIn_r _ [15, 16, 17, 41, 42, 43, 44, 45, 46, 47, 48, 49, 50] (by decide +kernel) (by decide +kernel)
set_option maxRecDepth 20000 in
theorem gX5_told_X4_isDone_n88 : GoodIn wsX5_told (wsX4_isDone) := ggX5_told_X4_isDone
set_option maxRecDepth 20000 in
theorem ggX5_told_X5_toldOfCell : GoodIn wsX5_told wsX5_toldOfCell := goodIn_r _ [22, 1, 23, 24, 25, 26, 27, 28, 29, 30, 31, 32, 33, 34, 35, 39, 40] (by decide +kernel) (by decide +kernel)
set_option maxRecDepth 20000 in
theorem gX5_told_X5_toldOfCell : GoodIn wsX5_told (wsV RX5 176 RX5 yX5_toldOfCell wsX5_toldOfCell) := goodIn_app (goodIn_of _ (by decide +kernel)) ggX5_told_X5_toldOfCell
theorem dX5_told_0 : decode cX5_told 0 = .ok (.iload_n 1, 1) := by decide +kernel
theorem dX5_told_1 : decode cX5_told 1 = .ok (.tableswitch 194 0 8 #[51, 59, 67, 78, 89, 100, 119, 138, 166], 51) := by decide +kernel
theorem dX5_told_52 : decode cX5_told 52 = .ok (.aload_n 0, 1) := by decide +kernel
theorem dX5_told_53 : decode cX5_told 53 = .ok (.getfield 20, 3) := by decide +kernel
theorem dX5_told_56 : decode cX5_told 56 = .ok (.getfield 29, 3) := by decide +kernel
theorem dX5_told_59 : decode cX5_told 59 = .ok (.ireturn, 1) := by decide +kernel
theorem dX5_told_60 : decode cX5_told 60 = .ok (.aload_n 0, 1) := by decide +kernel
theorem dX5_told_61 : decode cX5_told 61 = .ok (.getfield 20, 3) := by decide +kernel
theorem dX5_told_64 : decode cX5_told 64 = .ok (.getfield 43, 3) := by decide +kernel
theorem dX5_told_67 : decode cX5_told 67 = .ok (.ireturn, 1) := by decide +kernel
theorem dX5_told_68 : decode cX5_told 68 = .ok (.aload_n 0, 1) := by decide +kernel
theorem dX5_told_69 : decode cX5_told 69 = .ok (.getfield 20, 3) := by decide +kernel
theorem dX5_told_72 : decode cX5_told 72 = .ok (.getfield 50, 3) := by decide +kernel
theorem dX5_told_75 : decode cX5_told 75 = .ok (.getfield 72, 3) := by decide +kernel
theorem dX5_told_78 : decode cX5_told 78 = .ok (.ireturn, 1) := by decide +kernel
theorem dX5_told_79 : decode cX5_told 79 = .ok (.aload_n 0, 1) := by decide +kernel
theorem dX5_told_80 : decode cX5_told 80 = .ok (.getfield 20, 3) := by decide +kernel
theorem dX5_told_83 : decode cX5_told 83 = .ok (.getfield 95, 3) := by decide +kernel
theorem dX5_told_86 : decode cX5_told 86 = .ok (.getfield 99, 3) := by decide +kernel
theorem dX5_told_89 : decode cX5_told 89 = .ok (.ireturn, 1) := by decide +kernel
theorem dX5_told_90 : decode cX5_told 90 = .ok (.aload_n 0, 1) := by decide +kernel
theorem dX5_told_91 : decode cX5_told 91 = .ok (.getfield 20, 3) := by decide +kernel
theorem dX5_told_94 : decode cX5_told 94 = .ok (.getfield 50, 3) := by decide +kernel
theorem dX5_told_97 : decode cX5_told 97 = .ok (.invokevirtual 113, 3) := by decide +kernel
theorem dX5_told_100 : decode cX5_told 100 = .ok (.ireturn, 1) := by decide +kernel
theorem dX5_told_101 : decode cX5_told 101 = .ok (.aload_n 0, 1) := by decide +kernel
theorem dX5_told_102 : decode cX5_told 102 = .ok (.getfield 20, 3) := by decide +kernel
theorem dX5_told_105 : decode cX5_told 105 = .ok (.getfield 33, 3) := by decide +kernel
theorem dX5_told_108 : decode cX5_told 108 = .ok (.getfield 37, 3) := by decide +kernel
theorem dX5_told_111 : decode cX5_told 111 = .ok (.ifCond .eq 7, 3) := by decide +kernel
theorem dX5_told_114 : decode cX5_told 114 = .ok (.iconst 1, 1) := by decide +kernel
theorem dX5_told_115 : decode cX5_told 115 = .ok (.goto 4, 3) := by decide +kernel
theorem dX5_told_118 : decode cX5_told 118 = .ok (.iconst 0, 1) := by decide +kernel
theorem dX5_told_119 : decode cX5_told 119 = .ok (.ireturn, 1) := by decide +kernel
theorem dX5_told_120 : decode cX5_told 120 = .ok (.aload_n 0, 1) := by decide +kernel
theorem dX5_told_121 : decode cX5_told 121 = .ok (.getfield 20, 3) := by decide +kernel
theorem dX5_told_124 : decode cX5_told 124 = .ok (.getfield 33, 3) := by decide +kernel
theorem dX5_told_127 : decode cX5_told 127 = .ok (.invokevirtual 88, 3) := by decide +kernel
theorem dX5_told_130 : decode cX5_told 130 = .ok (.ifCond .eq 7, 3) := by decide +kernel
theorem dX5_told_133 : decode cX5_told 133 = .ok (.iconst 1, 1) := by decide +kernel
theorem dX5_told_134 : decode cX5_told 134 = .ok (.goto 4, 3) := by decide +kernel
theorem dX5_told_137 : decode cX5_told 137 = .ok (.iconst 0, 1) := by decide +kernel
theorem dX5_told_138 : decode cX5_told 138 = .ok (.ireturn, 1) := by decide +kernel
theorem dX5_told_139 : decode cX5_told 139 = .ok (.aload_n 0, 1) := by decide +kernel
theorem dX5_told_140 : decode cX5_told 140 = .ok (.getfield 20, 3) := by decide +kernel
theorem dX5_told_143 : decode cX5_told 143 = .ok (.getfield 33, 3) := by decide +kernel
theorem dX5_told_146 : decode cX5_told 146 = .ok (.getfield 37, 3) := by decide +kernel
theorem dX5_told_149 : decode cX5_told 149 = .ok (.ifCond .eq 16, 3) := by decide +kernel
theorem dX5_told_152 : decode cX5_told 152 = .ok (.aload_n 0, 1) := by decide +kernel
theorem dX5_told_153 : decode cX5_told 153 = .ok (.getfield 20, 3) := by decide +kernel
theorem dX5_told_156 : decode cX5_told 156 = .ok (.getfield 33, 3) := by decide +kernel
theorem dX5_told_159 : decode cX5_told 159 = .ok (.getfield 170, 3) := by decide +kernel
theorem dX5_told_162 : decode cX5_told 162 = .ok (.goto 4, 3) := by decide +kernel
theorem dX5_told_165 : decode cX5_told 165 = .ok (.iconst 0, 1) := by decide +kernel
theorem dX5_told_166 : decode cX5_told 166 = .ok (.ireturn, 1) := by decide +kernel
theorem dX5_told_167 : decode cX5_told 167 = .ok (.aload_n 0, 1) := by decide +kernel
theorem dX5_told_168 : decode cX5_told 168 = .ok (.getfield 20, 3) := by decide +kernel
theorem dX5_told_171 : decode cX5_told 171 = .ok (.getfield 33, 3) := by decide +kernel
theorem dX5_told_174 : decode cX5_told 174 = .ok (.getfield 37, 3) := by decide +kernel
theorem dX5_told_177 : decode cX5_told 177 = .ok (.ifCond .eq 16, 3) := by decide +kernel
theorem dX5_told_180 : decode cX5_told 180 = .ok (.aload_n 0, 1) := by decide +kernel
theorem dX5_told_181 : decode cX5_told 181 = .ok (.getfield 20, 3) := by decide +kernel
theorem dX5_told_184 : decode cX5_told 184 = .ok (.getfield 33, 3) := by decide +kernel
theorem dX5_told_187 : decode cX5_told 187 = .ok (.getfield 173, 3) := by decide +kernel
theorem dX5_told_190 : decode cX5_told 190 = .ok (.goto 4, 3) := by decide +kernel
theorem dX5_told_193 : decode cX5_told 193 = .ok (.iconst 0, 1) := by decide +kernel
theorem dX5_told_194 : decode cX5_told 194 = .ok (.ireturn, 1) := by decide +kernel
theorem dX5_told_195 : decode cX5_told 195 = .ok (.aload_n 0, 1) := by decide +kernel
theorem dX5_told_196 : decode cX5_told 196 = .ok (.iload_n 1, 1) := by decide +kernel
theorem dX5_told_197 : decode cX5_told 197 = .ok (.invokevirtual 176, 3) := by decide +kernel
theorem dX5_told_200 : decode cX5_told 200 = .ok (.ireturn, 1) := by decide +kernel
set_option maxRecDepth 20000 in
theorem ggX5_toldOfCell_X1_has : GoodIn wsX5_toldOfCell wsX1_has := goodIn_r _ [5, 6, 15, 16] (by decide +kernel) (by decide +kernel)
set_option maxRecDepth 20000 in
theorem gX5_toldOfCell_X1_has_n104 : GoodIn wsX5_toldOfCell (wsX1_has) := ggX5_toldOfCell_X1_has
theorem dX5_toldOfCell_0 : decode cX5_toldOfCell 0 = .ok (.iload_n 1, 1) := by decide +kernel
theorem dX5_toldOfCell_1 : decode cX5_toldOfCell 1 = .ok (.bipush 100, 2) := by decide +kernel
theorem dX5_toldOfCell_3 : decode cX5_toldOfCell 3 = .ok (.if_icmp .lt 20, 3) := by decide +kernel
theorem dX5_toldOfCell_6 : decode cX5_toldOfCell 6 = .ok (.aload_n 0, 1) := by decide +kernel
theorem dX5_toldOfCell_7 : decode cX5_toldOfCell 7 = .ok (.getfield 20, 3) := by decide +kernel
theorem dX5_toldOfCell_10 : decode cX5_toldOfCell 10 = .ok (.getfield 95, 3) := by decide +kernel
theorem dX5_toldOfCell_13 : decode cX5_toldOfCell 13 = .ok (.iload_n 1, 1) := by decide +kernel
theorem dX5_toldOfCell_14 : decode cX5_toldOfCell 14 = .ok (.bipush 100, 2) := by decide +kernel
theorem dX5_toldOfCell_16 : decode cX5_toldOfCell 16 = .ok (.isub, 1) := by decide +kernel
theorem dX5_toldOfCell_17 : decode cX5_toldOfCell 17 = .ok (.invokevirtual 104, 3) := by decide +kernel
theorem dX5_toldOfCell_20 : decode cX5_toldOfCell 20 = .ok (.ifCond .ne 6, 3) := by decide +kernel
theorem dX5_toldOfCell_23 : decode cX5_toldOfCell 23 = .ok (.bipush (-2), 2) := by decide +kernel
theorem dX5_toldOfCell_25 : decode cX5_toldOfCell 25 = .ok (.ireturn, 1) := by decide +kernel
theorem dX5_toldOfCell_26 : decode cX5_toldOfCell 26 = .ok (.aload_n 0, 1) := by decide +kernel
theorem dX5_toldOfCell_27 : decode cX5_toldOfCell 27 = .ok (.getfield 20, 3) := by decide +kernel
theorem dX5_toldOfCell_30 : decode cX5_toldOfCell 30 = .ok (.getfield 95, 3) := by decide +kernel
theorem dX5_toldOfCell_33 : decode cX5_toldOfCell 33 = .ok (.getfield 105, 3) := by decide +kernel
theorem dX5_toldOfCell_36 : decode cX5_toldOfCell 36 = .ok (.iload_n 1, 1) := by decide +kernel
theorem dX5_toldOfCell_37 : decode cX5_toldOfCell 37 = .ok (.bipush 100, 2) := by decide +kernel
theorem dX5_toldOfCell_39 : decode cX5_toldOfCell 39 = .ok (.isub, 1) := by decide +kernel
theorem dX5_toldOfCell_40 : decode cX5_toldOfCell 40 = .ok (.iaload, 1) := by decide +kernel
theorem dX5_toldOfCell_41 : decode cX5_toldOfCell 41 = .ok (.ireturn, 1) := by decide +kernel
theorem dX5_areDots_0 : decode cX5_areDots 0 = .ok (.iload_n 0, 1) := by decide +kernel
theorem dX5_areDots_1 : decode cX5_areDots 1 = .ok (.ifCond .lt 14, 3) := by decide +kernel
theorem dX5_areDots_4 : decode cX5_areDots 4 = .ok (.iload_n 0, 1) := by decide +kernel
theorem dX5_areDots_5 : decode cX5_areDots 5 = .ok (.sipush 9999, 3) := by decide +kernel
theorem dX5_areDots_8 : decode cX5_areDots 8 = .ok (.if_icmp .gt 7, 3) := by decide +kernel
theorem dX5_areDots_11 : decode cX5_areDots 11 = .ok (.iconst 1, 1) := by decide +kernel
theorem dX5_areDots_12 : decode cX5_areDots 12 = .ok (.goto 4, 3) := by decide +kernel
theorem dX5_areDots_15 : decode cX5_areDots 15 = .ok (.iconst 0, 1) := by decide +kernel
theorem dX5_areDots_16 : decode cX5_areDots 16 = .ok (.ireturn, 1) := by decide +kernel
theorem dX5_dotsApart_0 : decode cX5_dotsApart 0 = .ok (.iconst 0, 1) := by decide +kernel
theorem dX5_dotsApart_1 : decode cX5_dotsApart 1 = .ok (.istore_n 3, 1) := by decide +kernel
theorem dX5_dotsApart_2 : decode cX5_dotsApart 2 = .ok (.iload_n 0, 1) := by decide +kernel
theorem dX5_dotsApart_3 : decode cX5_dotsApart 3 = .ok (.istore 4, 2) := by decide +kernel
theorem dX5_dotsApart_5 : decode cX5_dotsApart 5 = .ok (.iload_n 1, 1) := by decide +kernel
theorem dX5_dotsApart_6 : decode cX5_dotsApart 6 = .ok (.istore 5, 2) := by decide +kernel
theorem dX5_dotsApart_8 : decode cX5_dotsApart 8 = .ok (.iconst 0, 1) := by decide +kernel
theorem dX5_dotsApart_9 : decode cX5_dotsApart 9 = .ok (.istore 6, 2) := by decide +kernel
theorem dX5_dotsApart_11 : decode cX5_dotsApart 11 = .ok (.iload 6, 2) := by decide +kernel
theorem dX5_dotsApart_13 : decode cX5_dotsApart 13 = .ok (.iconst 4, 1) := by decide +kernel
theorem dX5_dotsApart_14 : decode cX5_dotsApart 14 = .ok (.if_icmp .ge 57, 3) := by decide +kernel
theorem dX5_dotsApart_17 : decode cX5_dotsApart 17 = .ok (.iload 4, 2) := by decide +kernel
theorem dX5_dotsApart_19 : decode cX5_dotsApart 19 = .ok (.bipush 10, 2) := by decide +kernel
theorem dX5_dotsApart_21 : decode cX5_dotsApart 21 = .ok (.irem, 1) := by decide +kernel
theorem dX5_dotsApart_22 : decode cX5_dotsApart 22 = .ok (.iload 5, 2) := by decide +kernel
theorem dX5_dotsApart_24 : decode cX5_dotsApart 24 = .ok (.bipush 10, 2) := by decide +kernel
theorem dX5_dotsApart_26 : decode cX5_dotsApart 26 = .ok (.irem, 1) := by decide +kernel
theorem dX5_dotsApart_27 : decode cX5_dotsApart 27 = .ok (.isub, 1) := by decide +kernel
theorem dX5_dotsApart_28 : decode cX5_dotsApart 28 = .ok (.invokestatic 179, 3) := by decide +kernel
theorem dX5_dotsApart_31 : decode cX5_dotsApart 31 = .ok (.istore 7, 2) := by decide +kernel
theorem dX5_dotsApart_33 : decode cX5_dotsApart 33 = .ok (.iload_n 3, 1) := by decide +kernel
theorem dX5_dotsApart_34 : decode cX5_dotsApart 34 = .ok (.iload_n 2, 1) := by decide +kernel
theorem dX5_dotsApart_35 : decode cX5_dotsApart 35 = .ok (.iconst 1, 1) := by decide +kernel
theorem dX5_dotsApart_36 : decode cX5_dotsApart 36 = .ok (.if_icmp .ne 11, 3) := by decide +kernel
theorem dX5_dotsApart_39 : decode cX5_dotsApart 39 = .ok (.iload 7, 2) := by decide +kernel
theorem dX5_dotsApart_41 : decode cX5_dotsApart 41 = .ok (.iload 7, 2) := by decide +kernel
theorem dX5_dotsApart_43 : decode cX5_dotsApart 43 = .ok (.imul, 1) := by decide +kernel
theorem dX5_dotsApart_44 : decode cX5_dotsApart 44 = .ok (.goto 5, 3) := by decide +kernel
theorem dX5_dotsApart_47 : decode cX5_dotsApart 47 = .ok (.iload 7, 2) := by decide +kernel
theorem dX5_dotsApart_49 : decode cX5_dotsApart 49 = .ok (.iadd, 1) := by decide +kernel
theorem dX5_dotsApart_50 : decode cX5_dotsApart 50 = .ok (.istore_n 3, 1) := by decide +kernel
theorem dX5_dotsApart_51 : decode cX5_dotsApart 51 = .ok (.iload 4, 2) := by decide +kernel
theorem dX5_dotsApart_53 : decode cX5_dotsApart 53 = .ok (.bipush 10, 2) := by decide +kernel
theorem dX5_dotsApart_55 : decode cX5_dotsApart 55 = .ok (.idiv, 1) := by decide +kernel
theorem dX5_dotsApart_56 : decode cX5_dotsApart 56 = .ok (.istore 4, 2) := by decide +kernel
theorem dX5_dotsApart_58 : decode cX5_dotsApart 58 = .ok (.iload 5, 2) := by decide +kernel
theorem dX5_dotsApart_60 : decode cX5_dotsApart 60 = .ok (.bipush 10, 2) := by decide +kernel
theorem dX5_dotsApart_62 : decode cX5_dotsApart 62 = .ok (.idiv, 1) := by decide +kernel
theorem dX5_dotsApart_63 : decode cX5_dotsApart 63 = .ok (.istore 5, 2) := by decide +kernel
theorem dX5_dotsApart_65 : decode cX5_dotsApart 65 = .ok (.iinc 6 1, 3) := by decide +kernel
theorem dX5_dotsApart_68 : decode cX5_dotsApart 68 = .ok (.goto (-57), 3) := by decide +kernel
theorem dX5_dotsApart_71 : decode cX5_dotsApart 71 = .ok (.iload_n 3, 1) := by decide +kernel
theorem dX5_dotsApart_72 : decode cX5_dotsApart 72 = .ok (.ireturn, 1) := by decide +kernel
end
section
theorem dX6_init_0 : decode cX6_init 0 = .ok (.aload_n 0, 1) := by decide +kernel
theorem dX6_init_1 : decode cX6_init 1 = .ok (.invokespecial 1, 3) := by decide +kernel
theorem dX6_init_4 : decode cX6_init 4 = .ok (.aload_n 0, 1) := by decide +kernel
theorem dX6_init_5 : decode cX6_init 5 = .ok (.bipush 9, 2) := by decide +kernel
theorem dX6_init_7 : decode cX6_init 7 = .ok (.newarray .int, 2) := by decide +kernel
theorem dX6_init_9 : decode cX6_init 9 = .ok (.putfield 7, 3) := by decide +kernel
theorem dX6_init_12 : decode cX6_init 12 = .ok (.aload_n 0, 1) := by decide +kernel
theorem dX6_init_13 : decode cX6_init 13 = .ok (.bipush 8, 2) := by decide +kernel
theorem dX6_init_15 : decode cX6_init 15 = .ok (.newarray .int, 2) := by decide +kernel
theorem dX6_init_17 : decode cX6_init 17 = .ok (.putfield 13, 3) := by decide +kernel
theorem dX6_init_20 : decode cX6_init 20 = .ok (.aload_n 0, 1) := by decide +kernel
theorem dX6_init_21 : decode cX6_init 21 = .ok (.bipush 8, 2) := by decide +kernel
theorem dX6_init_23 : decode cX6_init 23 = .ok (.newarray .int, 2) := by decide +kernel
theorem dX6_init_25 : decode cX6_init 25 = .ok (.putfield 16, 3) := by decide +kernel
theorem dX6_init_28 : decode cX6_init 28 = .ok (.aload_n 0, 1) := by decide +kernel
theorem dX6_init_29 : decode cX6_init 29 = .ok (.bipush 12, 2) := by decide +kernel
theorem dX6_init_31 : decode cX6_init 31 = .ok (.newarray .int, 2) := by decide +kernel
theorem dX6_init_33 : decode cX6_init 33 = .ok (.putfield 19, 3) := by decide +kernel
theorem dX6_init_36 : decode cX6_init 36 = .ok (.aload_n 0, 1) := by decide +kernel
theorem dX6_init_37 : decode cX6_init 37 = .ok (.bipush 16, 2) := by decide +kernel
theorem dX6_init_39 : decode cX6_init 39 = .ok (.newarray .int, 2) := by decide +kernel
theorem dX6_init_41 : decode cX6_init 41 = .ok (.putfield 22, 3) := by decide +kernel
theorem dX6_init_44 : decode cX6_init 44 = .ok (.aload_n 0, 1) := by decide +kernel
theorem dX6_init_45 : decode cX6_init 45 = .ok (.bipush 16, 2) := by decide +kernel
theorem dX6_init_47 : decode cX6_init 47 = .ok (.newarray .int, 2) := by decide +kernel
theorem dX6_init_49 : decode cX6_init 49 = .ok (.putfield 25, 3) := by decide +kernel
theorem dX6_init_52 : decode cX6_init 52 = .ok (.aload_n 0, 1) := by decide +kernel
theorem dX6_init_53 : decode cX6_init 53 = .ok (.bipush 16, 2) := by decide +kernel
theorem dX6_init_55 : decode cX6_init 55 = .ok (.newarray .int, 2) := by decide +kernel
theorem dX6_init_57 : decode cX6_init 57 = .ok (.putfield 28, 3) := by decide +kernel
theorem dX6_init_60 : decode cX6_init 60 = .ok (.aload_n 0, 1) := by decide +kernel
theorem dX6_init_61 : decode cX6_init 61 = .ok (.bipush 16, 2) := by decide +kernel
theorem dX6_init_63 : decode cX6_init 63 = .ok (.newarray .int, 2) := by decide +kernel
theorem dX6_init_65 : decode cX6_init 65 = .ok (.putfield 31, 3) := by decide +kernel
theorem dX6_init_68 : decode cX6_init 68 = .ok (.aload_n 0, 1) := by decide +kernel
theorem dX6_init_69 : decode cX6_init 69 = .ok (.bipush 16, 2) := by decide +kernel
theorem dX6_init_71 : decode cX6_init 71 = .ok (.newarray .int, 2) := by decide +kernel
theorem dX6_init_73 : decode cX6_init 73 = .ok (.putfield 34, 3) := by decide +kernel
theorem dX6_init_76 : decode cX6_init 76 = .ok (.aload_n 0, 1) := by decide +kernel
theorem dX6_init_77 : decode cX6_init 77 = .ok (.bipush 16, 2) := by decide +kernel
theorem dX6_init_79 : decode cX6_init 79 = .ok (.newarray .int, 2) := by decide +kernel
theorem dX6_init_81 : decode cX6_init 81 = .ok (.putfield 37, 3) := by decide +kernel
theorem dX6_init_84 : decode cX6_init 84 = .ok (.aload_n 0, 1) := by decide +kernel
theorem dX6_init_85 : decode cX6_init 85 = .ok (.bipush 16, 2) := by decide +kernel
theorem dX6_init_87 : decode cX6_init 87 = .ok (.newarray .int, 2) := by decide +kernel
theorem dX6_init_89 : decode cX6_init 89 = .ok (.putfield 40, 3) := by decide +kernel
theorem dX6_init_92 : decode cX6_init 92 = .ok (.aload_n 0, 1) := by decide +kernel
theorem dX6_init_93 : decode cX6_init 93 = .ok (.sipush 298, 3) := by decide +kernel
theorem dX6_init_96 : decode cX6_init 96 = .ok (.newarray .int, 2) := by decide +kernel
theorem dX6_init_98 : decode cX6_init 98 = .ok (.putfield 43, 3) := by decide +kernel
theorem dX6_init_101 : decode cX6_init 101 = .ok (.aload_n 0, 1) := by decide +kernel
theorem dX6_init_102 : decode cX6_init 102 = .ok (.iconst 2, 1) := by decide +kernel
theorem dX6_init_103 : decode cX6_init 103 = .ok (.newarray .boolean, 2) := by decide +kernel
theorem dX6_init_105 : decode cX6_init 105 = .ok (.putfield 46, 3) := by decide +kernel
theorem dX6_init_108 : decode cX6_init 108 = .ok (.aload_n 0, 1) := by decide +kernel
theorem dX6_init_109 : decode cX6_init 109 = .ok (.getfield 7, 3) := by decide +kernel
theorem dX6_init_112 : decode cX6_init 112 = .ok (.iconst 1, 1) := by decide +kernel
theorem dX6_init_113 : decode cX6_init 113 = .ok (.iconst 4, 1) := by decide +kernel
theorem dX6_init_114 : decode cX6_init 114 = .ok (.iastore, 1) := by decide +kernel
theorem dX6_init_115 : decode cX6_init 115 = .ok (.return_, 1) := by decide +kernel
theorem dX6_in_0 : decode cX6_in 0 = .ok (.lload_n 0, 1) := by decide +kernel
theorem dX6_in_1 : decode cX6_in 1 = .ok (.lload_n 2, 1) := by decide +kernel
theorem dX6_in_2 : decode cX6_in 2 = .ok (.lcmp, 1) := by decide +kernel
theorem dX6_in_3 : decode cX6_in 3 = .ok (.ifCond .lt 14, 3) := by decide +kernel
theorem dX6_in_6 : decode cX6_in 6 = .ok (.lload_n 0, 1) := by decide +kernel
theorem dX6_in_7 : decode cX6_in 7 = .ok (.lload 4, 2) := by decide +kernel
theorem dX6_in_9 : decode cX6_in 9 = .ok (.lcmp, 1) := by decide +kernel
theorem dX6_in_10 : decode cX6_in 10 = .ok (.ifCond .gt 7, 3) := by decide +kernel
theorem dX6_in_13 : decode cX6_in 13 = .ok (.iconst 1, 1) := by decide +kernel
theorem dX6_in_14 : decode cX6_in 14 = .ok (.goto 4, 3) := by decide +kernel
theorem dX6_in_17 : decode cX6_in 17 = .ok (.iconst 0, 1) := by decide +kernel
theorem dX6_in_18 : decode cX6_in 18 = .ok (.ireturn, 1) := by decide +kernel
set_option maxRecDepth 20000 in
theorem ggX6_isDots_X6_in : GoodIn wsX6_isDots wsX6_in := goodIn_r _ [5] (by decide +kernel) (by decide +kernel)
set_option maxRecDepth 20000 in
theorem gX6_isDots_X6_in : GoodIn wsX6_isDots (va_wsS RX6 52 yX6_in wsX6_in) := goodIn_app (goodIn_of _ (by decide +kernel)) ggX6_isDots_X6_in
theorem dX6_isDots_0 : decode cX6_isDots 0 = .ok (.iload_n 0, 1) := by decide +kernel
theorem dX6_isDots_1 : decode cX6_isDots 1 = .ok (.i2l, 1) := by decide +kernel
theorem dX6_isDots_2 : decode cX6_isDots 2 = .ok (.lconst 0, 1) := by decide +kernel
theorem dX6_isDots_3 : decode cX6_isDots 3 = .ok (.ldc2_w 50, 3) := by decide +kernel
theorem dX6_isDots_6 : decode cX6_isDots 6 = .ok (.invokestatic 52, 3) := by decide +kernel
theorem dX6_isDots_9 : decode cX6_isDots 9 = .ok (.ireturn, 1) := by decide +kernel
theorem dX6_kinds_0 : decode cX6_kinds 0 = .ok (.aload_n 0, 1) := by decide +kernel
theorem dX6_kinds_1 : decode cX6_kinds 1 = .ok (.getfield 7, 3) := by decide +kernel
theorem dX6_kinds_4 : decode cX6_kinds 4 = .ok (.iconst 2, 1) := by decide +kernel
theorem dX6_kinds_5 : decode cX6_kinds 5 = .ok (.iaload, 1) := by decide +kernel
theorem dX6_kinds_6 : decode cX6_kinds 6 = .ok (.ireturn, 1) := by decide +kernel
theorem dX6_cells_0 : decode cX6_cells 0 = .ok (.aload_n 0, 1) := by decide +kernel
theorem dX6_cells_1 : decode cX6_cells 1 = .ok (.getfield 7, 3) := by decide +kernel
theorem dX6_cells_4 : decode cX6_cells 4 = .ok (.iconst 3, 1) := by decide +kernel
theorem dX6_cells_5 : decode cX6_cells 5 = .ok (.iaload, 1) := by decide +kernel
theorem dX6_cells_6 : decode cX6_cells 6 = .ok (.ireturn, 1) := by decide +kernel
theorem dX6_isValid_0 : decode cX6_isValid 0 = .ok (.aload_n 0, 1) := by decide +kernel
theorem dX6_isValid_1 : decode cX6_isValid 1 = .ok (.getfield 7, 3) := by decide +kernel
theorem dX6_isValid_4 : decode cX6_isValid 4 = .ok (.iconst 5, 1) := by decide +kernel
theorem dX6_isValid_5 : decode cX6_isValid 5 = .ok (.iaload, 1) := by decide +kernel
theorem dX6_isValid_6 : decode cX6_isValid 6 = .ok (.iconst 1, 1) := by decide +kernel
theorem dX6_isValid_7 : decode cX6_isValid 7 = .ok (.if_icmp .ne 7, 3) := by decide +kernel
theorem dX6_isValid_10 : decode cX6_isValid 10 = .ok (.iconst 1, 1) := by decide +kernel
theorem dX6_isValid_11 : decode cX6_isValid 11 = .ok (.goto 4, 3) := by decide +kernel
theorem dX6_isValid_14 : decode cX6_isValid 14 = .ok (.iconst 0, 1) := by decide +kernel
theorem dX6_isValid_15 : decode cX6_isValid 15 = .ok (.ireturn, 1) := by decide +kernel
theorem dX6_isDone_0 : decode cX6_isDone 0 = .ok (.aload_n 0, 1) := by decide +kernel
theorem dX6_isDone_1 : decode cX6_isDone 1 = .ok (.getfield 7, 3) := by decide +kernel
theorem dX6_isDone_4 : decode cX6_isDone 4 = .ok (.iconst 5, 1) := by decide +kernel
theorem dX6_isDone_5 : decode cX6_isDone 5 = .ok (.iaload, 1) := by decide +kernel
theorem dX6_isDone_6 : decode cX6_isDone 6 = .ok (.iconst 1, 1) := by decide +kernel
theorem dX6_isDone_7 : decode cX6_isDone 7 = .ok (.if_icmp .ne 18, 3) := by decide +kernel
theorem dX6_isDone_10 : decode cX6_isDone 10 = .ok (.aload_n 0, 1) := by decide +kernel
theorem dX6_isDone_11 : decode cX6_isDone 11 = .ok (.getfield 7, 3) := by decide +kernel
theorem dX6_isDone_14 : decode cX6_isDone 14 = .ok (.bipush 6, 2) := by decide +kernel
theorem dX6_isDone_16 : decode cX6_isDone 16 = .ok (.iaload, 1) := by decide +kernel
theorem dX6_isDone_17 : decode cX6_isDone 17 = .ok (.iconst 1, 1) := by decide +kernel
theorem dX6_isDone_18 : decode cX6_isDone 18 = .ok (.if_icmp .ne 7, 3) := by decide +kernel
theorem dX6_isDone_21 : decode cX6_isDone 21 = .ok (.iconst 1, 1) := by decide +kernel
theorem dX6_isDone_22 : decode cX6_isDone 22 = .ok (.goto 4, 3) := by decide +kernel
theorem dX6_isDone_25 : decode cX6_isDone 25 = .ok (.iconst 0, 1) := by decide +kernel
theorem dX6_isDone_26 : decode cX6_isDone 26 = .ok (.ireturn, 1) := by decide +kernel
theorem dX6_end_0 : decode cX6_end 0 = .ok (.aload_n 0, 1) := by decide +kernel
theorem dX6_end_1 : decode cX6_end 1 = .ok (.getfield 7, 3) := by decide +kernel
theorem dX6_end_4 : decode cX6_end 4 = .ok (.iconst 5, 1) := by decide +kernel
theorem dX6_end_5 : decode cX6_end 5 = .ok (.iconst 0, 1) := by decide +kernel
theorem dX6_end_6 : decode cX6_end 6 = .ok (.iastore, 1) := by decide +kernel
theorem dX6_end_7 : decode cX6_end 7 = .ok (.aload_n 0, 1) := by decide +kernel
theorem dX6_end_8 : decode cX6_end 8 = .ok (.getfield 7, 3) := by decide +kernel
theorem dX6_end_11 : decode cX6_end 11 = .ok (.bipush 6, 2) := by decide +kernel
theorem dX6_end_13 : decode cX6_end 13 = .ok (.iconst 0, 1) := by decide +kernel
theorem dX6_end_14 : decode cX6_end 14 = .ok (.iastore, 1) := by decide +kernel
theorem dX6_end_15 : decode cX6_end 15 = .ok (.aload_n 0, 1) := by decide +kernel
theorem dX6_end_16 : decode cX6_end 16 = .ok (.getfield 7, 3) := by decide +kernel
theorem dX6_end_19 : decode cX6_end 19 = .ok (.bipush 7, 2) := by decide +kernel
theorem dX6_end_21 : decode cX6_end 21 = .ok (.iconst 0, 1) := by decide +kernel
theorem dX6_end_22 : decode cX6_end 22 = .ok (.iastore, 1) := by decide +kernel
theorem dX6_end_23 : decode cX6_end 23 = .ok (.aload_n 0, 1) := by decide +kernel
theorem dX6_end_24 : decode cX6_end 24 = .ok (.getfield 7, 3) := by decide +kernel
theorem dX6_end_27 : decode cX6_end 27 = .ok (.bipush 8, 2) := by decide +kernel
theorem dX6_end_29 : decode cX6_end 29 = .ok (.iconst 0, 1) := by decide +kernel
theorem dX6_end_30 : decode cX6_end 30 = .ok (.iastore, 1) := by decide +kernel
theorem dX6_end_31 : decode cX6_end 31 = .ok (.return_, 1) := by decide +kernel
set_option maxRecDepth 20000 in
theorem ggX6_mode_X6_in : GoodIn wsX6_mode wsX6_in := goodIn_r _ [5] (by decide +kernel) (by decide +kernel)
set_option maxRecDepth 20000 in
theorem gX6_mode_X6_in : GoodIn wsX6_mode (va_wsS RX6 52 yX6_in wsX6_in) := goodIn_app (goodIn_of _ (by decide +kernel)) ggX6_mode_X6_in
set_option maxRecDepth 20000 in
theorem ggX6_mode_X6_end : GoodIn wsX6_mode wsX6_end := goodIn_r _ [9, 1, 10, 11, 12, 13, 14, 15, 16, 17, 18, 19, 20, 21, 22, 23, 24] (by decide +kernel) (by decide +kernel)
set_option maxRecDepth 20000 in
theorem gX6_mode_X6_end : GoodIn wsX6_mode (wsV RX6 56 RX6 yX6_end wsX6_end) := goodIn_app (goodIn_of _ (by decide +kernel)) ggX6_mode_X6_end
theorem dX6_mode_0 : decode cX6_mode 0 = .ok (.iload_n 1, 1) := by decide +kernel
theorem dX6_mode_1 : decode cX6_mode 1 = .ok (.i2l, 1) := by decide +kernel
theorem dX6_mode_2 : decode cX6_mode 2 = .ok (.lconst 0, 1) := by decide +kernel
theorem dX6_mode_3 : decode cX6_mode 3 = .ok (.lconst 1, 1) := by decide +kernel
theorem dX6_mode_4 : decode cX6_mode 4 = .ok (.invokestatic 52, 3) := by decide +kernel
theorem dX6_mode_7 : decode cX6_mode 7 = .ok (.ifCond .ne 6, 3) := by decide +kernel
theorem dX6_mode_10 : decode cX6_mode 10 = .ok (.bipush (-2), 2) := by decide +kernel
theorem dX6_mode_12 : decode cX6_mode 12 = .ok (.ireturn, 1) := by decide +kernel
theorem dX6_mode_13 : decode cX6_mode 13 = .ok (.aload_n 0, 1) := by decide +kernel
theorem dX6_mode_14 : decode cX6_mode 14 = .ok (.getfield 7, 3) := by decide +kernel
theorem dX6_mode_17 : decode cX6_mode 17 = .ok (.iconst 0, 1) := by decide +kernel
theorem dX6_mode_18 : decode cX6_mode 18 = .ok (.iaload, 1) := by decide +kernel
theorem dX6_mode_19 : decode cX6_mode 19 = .ok (.istore_n 2, 1) := by decide +kernel
theorem dX6_mode_20 : decode cX6_mode 20 = .ok (.aload_n 0, 1) := by decide +kernel
theorem dX6_mode_21 : decode cX6_mode 21 = .ok (.getfield 7, 3) := by decide +kernel
theorem dX6_mode_24 : decode cX6_mode 24 = .ok (.iconst 0, 1) := by decide +kernel
theorem dX6_mode_25 : decode cX6_mode 25 = .ok (.iload_n 1, 1) := by decide +kernel
theorem dX6_mode_26 : decode cX6_mode 26 = .ok (.iastore, 1) := by decide +kernel
theorem dX6_mode_27 : decode cX6_mode 27 = .ok (.iload_n 1, 1) := by decide +kernel
theorem dX6_mode_28 : decode cX6_mode 28 = .ok (.iload_n 2, 1) := by decide +kernel
theorem dX6_mode_29 : decode cX6_mode 29 = .ok (.if_icmp .eq 7, 3) := by decide +kernel
theorem dX6_mode_32 : decode cX6_mode 32 = .ok (.aload_n 0, 1) := by decide +kernel
theorem dX6_mode_33 : decode cX6_mode 33 = .ok (.invokevirtual 56, 3) := by decide +kernel
theorem dX6_mode_36 : decode cX6_mode 36 = .ok (.iload_n 2, 1) := by decide +kernel
theorem dX6_mode_37 : decode cX6_mode 37 = .ok (.ireturn, 1) := by decide +kernel
set_option maxRecDepth 20000 in
theorem ggX6_shrink_X6_in : GoodIn wsX6_shrink wsX6_in := goodIn_r _ [7] (by decide +kernel) (by decide +kernel)
set_option maxRecDepth 20000 in
theorem gX6_shrink_X6_in : GoodIn wsX6_shrink (va_wsS RX6 52 yX6_in wsX6_in) := goodIn_app (goodIn_of _ (by decide +kernel)) ggX6_shrink_X6_in
theorem dX6_shrink_0 : decode cX6_shrink 0 = .ok (.iload_n 1, 1) := by decide +kernel
theorem dX6_shrink_1 : decode cX6_shrink 1 = .ok (.i2l, 1) := by decide +kernel
theorem dX6_shrink_2 : decode cX6_shrink 2 = .ok (.ldc2_w 59, 3) := by decide +kernel
theorem dX6_shrink_5 : decode cX6_shrink 5 = .ok (.ldc2_w 61, 3) := by decide +kernel
theorem dX6_shrink_8 : decode cX6_shrink 8 = .ok (.invokestatic 52, 3) := by decide +kernel
theorem dX6_shrink_11 : decode cX6_shrink 11 = .ok (.ifCond .ne 6, 3) := by decide +kernel
theorem dX6_shrink_14 : decode cX6_shrink 14 = .ok (.bipush (-2), 2) := by decide +kernel
theorem dX6_shrink_16 : decode cX6_shrink 16 = .ok (.ireturn, 1) := by decide +kernel
theorem dX6_shrink_17 : decode cX6_shrink 17 = .ok (.aload_n 0, 1) := by decide +kernel
theorem dX6_shrink_18 : decode cX6_shrink 18 = .ok (.getfield 7, 3) := by decide +kernel
theorem dX6_shrink_21 : decode cX6_shrink 21 = .ok (.iconst 1, 1) := by decide +kernel
theorem dX6_shrink_22 : decode cX6_shrink 22 = .ok (.iaload, 1) := by decide +kernel
theorem dX6_shrink_23 : decode cX6_shrink 23 = .ok (.istore_n 2, 1) := by decide +kernel
theorem dX6_shrink_24 : decode cX6_shrink 24 = .ok (.aload_n 0, 1) := by decide +kernel
theorem dX6_shrink_25 : decode cX6_shrink 25 = .ok (.getfield 7, 3) := by decide +kernel
theorem dX6_shrink_28 : decode cX6_shrink 28 = .ok (.iconst 1, 1) := by decide +kernel
theorem dX6_shrink_29 : decode cX6_shrink 29 = .ok (.iload_n 1, 1) := by decide +kernel
theorem dX6_shrink_30 : decode cX6_shrink 30 = .ok (.iastore, 1) := by decide +kernel
theorem dX6_shrink_31 : decode cX6_shrink 31 = .ok (.iload_n 2, 1) := by decide +kernel
theorem dX6_shrink_32 : decode cX6_shrink 32 = .ok (.ireturn, 1) := by decide +kernel
set_option maxRecDepth 20000 in
theorem ggX6_kindOf_X6_kinds : GoodIn wsX6_kindOf wsX6_kinds := goodIn_r _ [6, 7, 8, 9, 10, 11, 12, 13, 14, 15, 16, 17, 18, 19, 20, 21, 22] (by decide +kernel) (by decide +kernel)
set_option maxRecDepth 20000 in
theorem gX6_kindOf_X6_kinds : GoodIn wsX6_kindOf (wsV RX6 63 RX6 yX6_kinds wsX6_kinds) := goodIn_app (goodIn_of _ (by decide +kernel)) ggX6_kindOf_X6_kinds
theorem dX6_kindOf_0 : decode cX6_kindOf 0 = .ok (.iconst 0, 1) := by decide +kernel
theorem dX6_kindOf_1 : decode cX6_kindOf 1 = .ok (.istore_n 2, 1) := by decide +kernel
theorem dX6_kindOf_2 : decode cX6_kindOf 2 = .ok (.iload_n 2, 1) := by decide +kernel
theorem dX6_kindOf_3 : decode cX6_kindOf 3 = .ok (.aload_n 0, 1) := by decide +kernel
theorem dX6_kindOf_4 : decode cX6_kindOf 4 = .ok (.invokevirtual 63, 3) := by decide +kernel
theorem dX6_kindOf_7 : decode cX6_kindOf 7 = .ok (.if_icmp .ge 21, 3) := by decide +kernel
theorem dX6_kindOf_10 : decode cX6_kindOf 10 = .ok (.aload_n 0, 1) := by decide +kernel
theorem dX6_kindOf_11 : decode cX6_kindOf 11 = .ok (.getfield 13, 3) := by decide +kernel
theorem dX6_kindOf_14 : decode cX6_kindOf 14 = .ok (.iload_n 2, 1) := by decide +kernel
theorem dX6_kindOf_15 : decode cX6_kindOf 15 = .ok (.iaload, 1) := by decide +kernel
theorem dX6_kindOf_16 : decode cX6_kindOf 16 = .ok (.iload_n 1, 1) := by decide +kernel
theorem dX6_kindOf_17 : decode cX6_kindOf 17 = .ok (.if_icmp .ne 5, 3) := by decide +kernel
theorem dX6_kindOf_20 : decode cX6_kindOf 20 = .ok (.iload_n 2, 1) := by decide +kernel
theorem dX6_kindOf_21 : decode cX6_kindOf 21 = .ok (.ireturn, 1) := by decide +kernel
theorem dX6_kindOf_22 : decode cX6_kindOf 22 = .ok (.iinc 2 1, 3) := by decide +kernel
theorem dX6_kindOf_25 : decode cX6_kindOf 25 = .ok (.goto (-23), 3) := by decide +kernel
theorem dX6_kindOf_28 : decode cX6_kindOf 28 = .ok (.bipush (-6), 2) := by decide +kernel
theorem dX6_kindOf_30 : decode cX6_kindOf 30 = .ok (.ireturn, 1) := by decide +kernel
set_option maxRecDepth 20000 in
theorem ggX6_stocks_X6_kinds : GoodIn wsX6_stocks wsX6_kinds := goodIn_r _ [6, 7, 8, 9, 10, 11, 12, 13, 14, 15, 16, 17, 18, 19, 20, 21, 22] (by decide +kernel) (by decide +kernel)
set_option maxRecDepth 20000 in
theorem gX6_stocks_X6_kinds : GoodIn wsX6_stocks (wsV RX6 63 RX6 yX6_kinds wsX6_kinds) := goodIn_app (goodIn_of _ (by decide +kernel)) ggX6_stocks_X6_kinds
theorem dX6_stocks_0 : decode cX6_stocks 0 = .ok (.iconst 0, 1) := by decide +kernel
theorem dX6_stocks_1 : decode cX6_stocks 1 = .ok (.istore_n 1, 1) := by decide +kernel
theorem dX6_stocks_2 : decode cX6_stocks 2 = .ok (.iconst 0, 1) := by decide +kernel
theorem dX6_stocks_3 : decode cX6_stocks 3 = .ok (.istore_n 2, 1) := by decide +kernel
theorem dX6_stocks_4 : decode cX6_stocks 4 = .ok (.iload_n 2, 1) := by decide +kernel
theorem dX6_stocks_5 : decode cX6_stocks 5 = .ok (.aload_n 0, 1) := by decide +kernel
theorem dX6_stocks_6 : decode cX6_stocks 6 = .ok (.invokevirtual 63, 3) := by decide +kernel
theorem dX6_stocks_9 : decode cX6_stocks 9 = .ok (.if_icmp .ge 18, 3) := by decide +kernel
theorem dX6_stocks_12 : decode cX6_stocks 12 = .ok (.iload_n 1, 1) := by decide +kernel
theorem dX6_stocks_13 : decode cX6_stocks 13 = .ok (.aload_n 0, 1) := by decide +kernel
theorem dX6_stocks_14 : decode cX6_stocks 14 = .ok (.getfield 16, 3) := by decide +kernel
theorem dX6_stocks_17 : decode cX6_stocks 17 = .ok (.iload_n 2, 1) := by decide +kernel
theorem dX6_stocks_18 : decode cX6_stocks 18 = .ok (.iaload, 1) := by decide +kernel
theorem dX6_stocks_19 : decode cX6_stocks 19 = .ok (.iadd, 1) := by decide +kernel
theorem dX6_stocks_20 : decode cX6_stocks 20 = .ok (.istore_n 1, 1) := by decide +kernel
theorem dX6_stocks_21 : decode cX6_stocks 21 = .ok (.iinc 2 1, 3) := by decide +kernel
theorem dX6_stocks_24 : decode cX6_stocks 24 = .ok (.goto (-20), 3) := by decide +kernel
theorem dX6_stocks_27 : decode cX6_stocks 27 = .ok (.iload_n 1, 1) := by decide +kernel
theorem dX6_stocks_28 : decode cX6_stocks 28 = .ok (.ireturn, 1) := by decide +kernel
set_option maxRecDepth 20000 in
theorem ggX6_stock_X6_isDots : GoodIn wsX6_stock wsX6_isDots := goodIn_r _ [8, 9, 10, 11, 7, 12] (by decide +kernel) (by decide +kernel)
set_option maxRecDepth 20000 in
theorem gX6_stock_X6_isDots : GoodIn wsX6_stock (va_wsS RX6 67 yX6_isDots wsX6_isDots) := goodIn_app (goodIn_of _ (by decide +kernel)) ggX6_stock_X6_isDots
set_option maxRecDepth 20000 in
theorem ggX6_stock_X6_in : GoodIn wsX6_stock wsX6_in := goodIn_r _ [12] (by decide +kernel) (by decide +kernel)
set_option maxRecDepth 20000 in
theorem gX6_stock_X6_in : GoodIn wsX6_stock (va_wsS RX6 52 yX6_in wsX6_in) := goodIn_app (goodIn_of _ (by decide +kernel)) ggX6_stock_X6_in
set_option maxRecDepth 20000 in
theorem ggX6_stock_X6_kindOf : GoodIn wsX6_stock wsX6_kindOf := goodIn_r _ [16, 3, 17, 18, 19, 7, 20, 4, 29, 30, 31, 32, 33, 34, 35, 36, 37, 38, 39, 40, 41, 42, 43] (by decide +kernel) (by decide +kernel)
set_option maxRecDepth 20000 in
theorem gX6_stock_X6_kindOf : GoodIn wsX6_stock (wsV RX6 73 RX6 yX6_kindOf wsX6_kindOf) := goodIn_app (goodIn_of _ (by decide +kernel)) ggX6_stock_X6_kindOf
set_option maxRecDepth 20000 in
theorem ggX6_stock_X6_kinds : GoodIn wsX6_stock wsX6_kinds := goodIn_r _ [20, 4, 29, 30, 31, 32, 33, 34, 35, 36, 37, 38, 39, 40, 41, 42, 43] (by decide +kernel) (by decide +kernel)
set_option maxRecDepth 20000 in
theorem gX6_stock_X6_kinds : GoodIn wsX6_stock (wsV RX6 63 RX6 yX6_kinds wsX6_kinds) := goodIn_app (goodIn_of _ (by decide +kernel)) ggX6_stock_X6_kinds
set_option maxRecDepth 20000 in
theorem ggX6_stock_X6_stocks : GoodIn wsX6_stock wsX6_stocks := goodIn_r _ [24, 2, 17, 18, 19, 7, 20, 4, 29, 30, 31, 32, 33, 34, 35, 36, 37, 38, 39, 40, 41, 42, 43] (by decide +kernel) (by decide +kernel)
set_option maxRecDepth 20000 in
theorem gX6_stock_X6_stocks : GoodIn wsX6_stock (wsV RX6 77 RX6 yX6_stocks wsX6_stocks) := goodIn_app (goodIn_of _ (by decide +kernel)) ggX6_stock_X6_stocks
set_option maxRecDepth 20000 in
theorem ggX6_stock_X6_end : GoodIn wsX6_stock wsX6_end := goodIn_r _ [28, 4, 29, 30, 31, 32, 33, 34, 35, 36, 37, 38, 39, 40, 41, 42, 43] (by decide +kernel) (by decide +kernel)
set_option maxRecDepth 20000 in
theorem gX6_stock_X6_end : GoodIn wsX6_stock (wsV RX6 56 RX6 yX6_end wsX6_end) := goodIn_app (goodIn_of _ (by decide +kernel)) ggX6_stock_X6_end
theorem dX6_stock_0 : decode cX6_stock 0 = .ok (.iload_n 1, 1) := by decide +kernel
theorem dX6_stock_1 : decode cX6_stock 1 = .ok (.invokestatic 67, 3) := by decide +kernel
theorem dX6_stock_4 : decode cX6_stock 4 = .ok (.ifCond .eq 15, 3) := by decide +kernel
theorem dX6_stock_7 : decode cX6_stock 7 = .ok (.iload_n 2, 1) := by decide +kernel
theorem dX6_stock_8 : decode cX6_stock 8 = .ok (.i2l, 1) := by decide +kernel
theorem dX6_stock_9 : decode cX6_stock 9 = .ok (.lconst 1, 1) := by decide +kernel
theorem dX6_stock_10 : decode cX6_stock 10 = .ok (.ldc2_w 71, 3) := by decide +kernel
theorem dX6_stock_13 : decode cX6_stock 13 = .ok (.invokestatic 52, 3) := by decide +kernel
theorem dX6_stock_16 : decode cX6_stock 16 = .ok (.ifCond .ne 6, 3) := by decide +kernel
theorem dX6_stock_19 : decode cX6_stock 19 = .ok (.bipush (-2), 2) := by decide +kernel
theorem dX6_stock_21 : decode cX6_stock 21 = .ok (.ireturn, 1) := by decide +kernel
theorem dX6_stock_22 : decode cX6_stock 22 = .ok (.aload_n 0, 1) := by decide +kernel
theorem dX6_stock_23 : decode cX6_stock 23 = .ok (.iload_n 1, 1) := by decide +kernel
theorem dX6_stock_24 : decode cX6_stock 24 = .ok (.invokevirtual 73, 3) := by decide +kernel
theorem dX6_stock_27 : decode cX6_stock 27 = .ok (.istore_n 3, 1) := by decide +kernel
theorem dX6_stock_28 : decode cX6_stock 28 = .ok (.iload_n 3, 1) := by decide +kernel
theorem dX6_stock_29 : decode cX6_stock 29 = .ok (.ifCond .ge 7, 3) := by decide +kernel
theorem dX6_stock_32 : decode cX6_stock 32 = .ok (.iconst 0, 1) := by decide +kernel
theorem dX6_stock_33 : decode cX6_stock 33 = .ok (.goto 9, 3) := by decide +kernel
theorem dX6_stock_36 : decode cX6_stock 36 = .ok (.aload_n 0, 1) := by decide +kernel
theorem dX6_stock_37 : decode cX6_stock 37 = .ok (.getfield 16, 3) := by decide +kernel
theorem dX6_stock_40 : decode cX6_stock 40 = .ok (.iload_n 3, 1) := by decide +kernel
theorem dX6_stock_41 : decode cX6_stock 41 = .ok (.iaload, 1) := by decide +kernel
theorem dX6_stock_42 : decode cX6_stock 42 = .ok (.istore 4, 2) := by decide +kernel
theorem dX6_stock_44 : decode cX6_stock 44 = .ok (.iload_n 3, 1) := by decide +kernel
theorem dX6_stock_45 : decode cX6_stock 45 = .ok (.ifCond .ge 12, 3) := by decide +kernel
theorem dX6_stock_48 : decode cX6_stock 48 = .ok (.aload_n 0, 1) := by decide +kernel
theorem dX6_stock_49 : decode cX6_stock 49 = .ok (.invokevirtual 63, 3) := by decide +kernel
theorem dX6_stock_52 : decode cX6_stock 52 = .ok (.bipush 8, 2) := by decide +kernel
theorem dX6_stock_54 : decode cX6_stock 54 = .ok (.if_icmp .eq 22, 3) := by decide +kernel
theorem dX6_stock_57 : decode cX6_stock 57 = .ok (.iload 4, 2) := by decide +kernel
theorem dX6_stock_59 : decode cX6_stock 59 = .ok (.iload_n 2, 1) := by decide +kernel
theorem dX6_stock_60 : decode cX6_stock 60 = .ok (.iadd, 1) := by decide +kernel
theorem dX6_stock_61 : decode cX6_stock 61 = .ok (.iconst 4, 1) := by decide +kernel
theorem dX6_stock_62 : decode cX6_stock 62 = .ok (.if_icmp .gt 14, 3) := by decide +kernel
theorem dX6_stock_65 : decode cX6_stock 65 = .ok (.aload_n 0, 1) := by decide +kernel
theorem dX6_stock_66 : decode cX6_stock 66 = .ok (.invokevirtual 77, 3) := by decide +kernel
theorem dX6_stock_69 : decode cX6_stock 69 = .ok (.iload_n 2, 1) := by decide +kernel
theorem dX6_stock_70 : decode cX6_stock 70 = .ok (.iadd, 1) := by decide +kernel
theorem dX6_stock_71 : decode cX6_stock 71 = .ok (.bipush 16, 2) := by decide +kernel
theorem dX6_stock_73 : decode cX6_stock 73 = .ok (.if_icmp .le 6, 3) := by decide +kernel
theorem dX6_stock_76 : decode cX6_stock 76 = .ok (.bipush (-4), 2) := by decide +kernel
theorem dX6_stock_78 : decode cX6_stock 78 = .ok (.ireturn, 1) := by decide +kernel
theorem dX6_stock_79 : decode cX6_stock 79 = .ok (.iload_n 3, 1) := by decide +kernel
theorem dX6_stock_80 : decode cX6_stock 80 = .ok (.ifCond .ge 25, 3) := by decide +kernel
theorem dX6_stock_83 : decode cX6_stock 83 = .ok (.aload_n 0, 1) := by decide +kernel
theorem dX6_stock_84 : decode cX6_stock 84 = .ok (.invokevirtual 63, 3) := by decide +kernel
theorem dX6_stock_87 : decode cX6_stock 87 = .ok (.istore_n 3, 1) := by decide +kernel
theorem dX6_stock_88 : decode cX6_stock 88 = .ok (.aload_n 0, 1) := by decide +kernel
theorem dX6_stock_89 : decode cX6_stock 89 = .ok (.getfield 13, 3) := by decide +kernel
theorem dX6_stock_92 : decode cX6_stock 92 = .ok (.iload_n 3, 1) := by decide +kernel
theorem dX6_stock_93 : decode cX6_stock 93 = .ok (.iload_n 1, 1) := by decide +kernel
theorem dX6_stock_94 : decode cX6_stock 94 = .ok (.iastore, 1) := by decide +kernel
theorem dX6_stock_95 : decode cX6_stock 95 = .ok (.aload_n 0, 1) := by decide +kernel
theorem dX6_stock_96 : decode cX6_stock 96 = .ok (.getfield 7, 3) := by decide +kernel
theorem dX6_stock_99 : decode cX6_stock 99 = .ok (.iconst 2, 1) := by decide +kernel
theorem dX6_stock_100 : decode cX6_stock 100 = .ok (.dup2, 1) := by decide +kernel
theorem dX6_stock_101 : decode cX6_stock 101 = .ok (.iaload, 1) := by decide +kernel
theorem dX6_stock_102 : decode cX6_stock 102 = .ok (.iconst 1, 1) := by decide +kernel
theorem dX6_stock_103 : decode cX6_stock 103 = .ok (.iadd, 1) := by decide +kernel
theorem dX6_stock_104 : decode cX6_stock 104 = .ok (.iastore, 1) := by decide +kernel
theorem dX6_stock_105 : decode cX6_stock 105 = .ok (.aload_n 0, 1) := by decide +kernel
theorem dX6_stock_106 : decode cX6_stock 106 = .ok (.getfield 16, 3) := by decide +kernel
theorem dX6_stock_109 : decode cX6_stock 109 = .ok (.iload_n 3, 1) := by decide +kernel
theorem dX6_stock_110 : decode cX6_stock 110 = .ok (.iload 4, 2) := by decide +kernel
theorem dX6_stock_112 : decode cX6_stock 112 = .ok (.iload_n 2, 1) := by decide +kernel
theorem dX6_stock_113 : decode cX6_stock 113 = .ok (.iadd, 1) := by decide +kernel
theorem dX6_stock_114 : decode cX6_stock 114 = .ok (.iastore, 1) := by decide +kernel
theorem dX6_stock_115 : decode cX6_stock 115 = .ok (.aload_n 0, 1) := by decide +kernel
theorem dX6_stock_116 : decode cX6_stock 116 = .ok (.invokevirtual 56, 3) := by decide +kernel
theorem dX6_stock_119 : decode cX6_stock 119 = .ok (.iload 4, 2) := by decide +kernel
theorem dX6_stock_121 : decode cX6_stock 121 = .ok (.iload_n 2, 1) := by decide +kernel
theorem dX6_stock_122 : decode cX6_stock 122 = .ok (.iadd, 1) := by decide +kernel
theorem dX6_stock_123 : decode cX6_stock 123 = .ok (.ireturn, 1) := by decide +kernel
set_option maxRecDepth 20000 in
theorem ggX6_drop_X6_isDots : GoodIn wsX6_drop wsX6_isDots := goodIn_r _ [7, 8, 9, 10, 6, 11] (by decide +kernel) (by decide +kernel)
set_option maxRecDepth 20000 in
theorem gX6_drop_X6_isDots : GoodIn wsX6_drop (va_wsS RX6 67 yX6_isDots wsX6_isDots) := goodIn_app (goodIn_of _ (by decide +kernel)) ggX6_drop_X6_isDots
set_option maxRecDepth 20000 in
theorem ggX6_drop_X6_kindOf : GoodIn wsX6_drop wsX6_kindOf := goodIn_r _ [15, 2, 16, 17, 18, 6, 19, 1, 24, 25, 26, 27, 28, 29, 30, 31, 32, 33, 34, 35, 36, 37, 38] (by decide +kernel) (by decide +kernel)
set_option maxRecDepth 20000 in
theorem gX6_drop_X6_kindOf : GoodIn wsX6_drop (wsV RX6 73 RX6 yX6_kindOf wsX6_kindOf) := goodIn_app (goodIn_of _ (by decide +kernel)) ggX6_drop_X6_kindOf
set_option maxRecDepth 20000 in
theorem ggX6_drop_X6_kinds : GoodIn wsX6_drop wsX6_kinds := goodIn_r _ [19, 1, 24, 25, 26, 27, 28, 29, 30, 31, 32, 33, 34, 35, 36, 37, 38] (by decide +kernel) (by decide +kernel)
set_option maxRecDepth 20000 in
theorem gX6_drop_X6_kinds : GoodIn wsX6_drop (wsV RX6 63 RX6 yX6_kinds wsX6_kinds) := goodIn_app (goodIn_of _ (by decide +kernel)) ggX6_drop_X6_kinds
set_option maxRecDepth 20000 in
theorem ggX6_drop_X6_end : GoodIn wsX6_drop wsX6_end := goodIn_r _ [23, 1, 24, 25, 26, 27, 28, 29, 30, 31, 32, 33, 34, 35, 36, 37, 38] (by decide +kernel) (by decide +kernel)
set_option maxRecDepth 20000 in
theorem gX6_drop_X6_end : GoodIn wsX6_drop (wsV RX6 56 RX6 yX6_end wsX6_end) := goodIn_app (goodIn_of _ (by decide +kernel)) ggX6_drop_X6_end
theorem dX6_drop_0 : decode cX6_drop 0 = .ok (.iload_n 1, 1) := by decide +kernel
theorem dX6_drop_1 : decode cX6_drop 1 = .ok (.invokestatic 67, 3) := by decide +kernel
theorem dX6_drop_4 : decode cX6_drop 4 = .ok (.ifCond .ne 6, 3) := by decide +kernel
theorem dX6_drop_7 : decode cX6_drop 7 = .ok (.bipush (-2), 2) := by decide +kernel
theorem dX6_drop_9 : decode cX6_drop 9 = .ok (.ireturn, 1) := by decide +kernel
theorem dX6_drop_10 : decode cX6_drop 10 = .ok (.aload_n 0, 1) := by decide +kernel
theorem dX6_drop_11 : decode cX6_drop 11 = .ok (.iload_n 1, 1) := by decide +kernel
theorem dX6_drop_12 : decode cX6_drop 12 = .ok (.invokevirtual 73, 3) := by decide +kernel
theorem dX6_drop_15 : decode cX6_drop 15 = .ok (.istore_n 2, 1) := by decide +kernel
theorem dX6_drop_16 : decode cX6_drop 16 = .ok (.iload_n 2, 1) := by decide +kernel
theorem dX6_drop_17 : decode cX6_drop 17 = .ok (.ifCond .ge 6, 3) := by decide +kernel
theorem dX6_drop_20 : decode cX6_drop 20 = .ok (.bipush (-5), 2) := by decide +kernel
theorem dX6_drop_22 : decode cX6_drop 22 = .ok (.ireturn, 1) := by decide +kernel
theorem dX6_drop_23 : decode cX6_drop 23 = .ok (.aload_n 0, 1) := by decide +kernel
theorem dX6_drop_24 : decode cX6_drop 24 = .ok (.getfield 7, 3) := by decide +kernel
theorem dX6_drop_27 : decode cX6_drop 27 = .ok (.iconst 2, 1) := by decide +kernel
theorem dX6_drop_28 : decode cX6_drop 28 = .ok (.dup2, 1) := by decide +kernel
theorem dX6_drop_29 : decode cX6_drop 29 = .ok (.iaload, 1) := by decide +kernel
theorem dX6_drop_30 : decode cX6_drop 30 = .ok (.iconst 1, 1) := by decide +kernel
theorem dX6_drop_31 : decode cX6_drop 31 = .ok (.isub, 1) := by decide +kernel
theorem dX6_drop_32 : decode cX6_drop 32 = .ok (.iastore, 1) := by decide +kernel
theorem dX6_drop_33 : decode cX6_drop 33 = .ok (.iload_n 2, 1) := by decide +kernel
theorem dX6_drop_34 : decode cX6_drop 34 = .ok (.istore_n 3, 1) := by decide +kernel
theorem dX6_drop_35 : decode cX6_drop 35 = .ok (.iload_n 3, 1) := by decide +kernel
theorem dX6_drop_36 : decode cX6_drop 36 = .ok (.aload_n 0, 1) := by decide +kernel
theorem dX6_drop_37 : decode cX6_drop 37 = .ok (.invokevirtual 63, 3) := by decide +kernel
theorem dX6_drop_40 : decode cX6_drop 40 = .ok (.if_icmp .ge 37, 3) := by decide +kernel
theorem dX6_drop_43 : decode cX6_drop 43 = .ok (.aload_n 0, 1) := by decide +kernel
theorem dX6_drop_44 : decode cX6_drop 44 = .ok (.getfield 13, 3) := by decide +kernel
theorem dX6_drop_47 : decode cX6_drop 47 = .ok (.iload_n 3, 1) := by decide +kernel
theorem dX6_drop_48 : decode cX6_drop 48 = .ok (.aload_n 0, 1) := by decide +kernel
theorem dX6_drop_49 : decode cX6_drop 49 = .ok (.getfield 13, 3) := by decide +kernel
theorem dX6_drop_52 : decode cX6_drop 52 = .ok (.iload_n 3, 1) := by decide +kernel
theorem dX6_drop_53 : decode cX6_drop 53 = .ok (.iconst 1, 1) := by decide +kernel
theorem dX6_drop_54 : decode cX6_drop 54 = .ok (.iadd, 1) := by decide +kernel
theorem dX6_drop_55 : decode cX6_drop 55 = .ok (.iaload, 1) := by decide +kernel
theorem dX6_drop_56 : decode cX6_drop 56 = .ok (.iastore, 1) := by decide +kernel
theorem dX6_drop_57 : decode cX6_drop 57 = .ok (.aload_n 0, 1) := by decide +kernel
theorem dX6_drop_58 : decode cX6_drop 58 = .ok (.getfield 16, 3) := by decide +kernel
theorem dX6_drop_61 : decode cX6_drop 61 = .ok (.iload_n 3, 1) := by decide +kernel
theorem dX6_drop_62 : decode cX6_drop 62 = .ok (.aload_n 0, 1) := by decide +kernel
theorem dX6_drop_63 : decode cX6_drop 63 = .ok (.getfield 16, 3) := by decide +kernel
theorem dX6_drop_66 : decode cX6_drop 66 = .ok (.iload_n 3, 1) := by decide +kernel
theorem dX6_drop_67 : decode cX6_drop 67 = .ok (.iconst 1, 1) := by decide +kernel
theorem dX6_drop_68 : decode cX6_drop 68 = .ok (.iadd, 1) := by decide +kernel
theorem dX6_drop_69 : decode cX6_drop 69 = .ok (.iaload, 1) := by decide +kernel
theorem dX6_drop_70 : decode cX6_drop 70 = .ok (.iastore, 1) := by decide +kernel
theorem dX6_drop_71 : decode cX6_drop 71 = .ok (.iinc 3 1, 3) := by decide +kernel
theorem dX6_drop_74 : decode cX6_drop 74 = .ok (.goto (-39), 3) := by decide +kernel
theorem dX6_drop_77 : decode cX6_drop 77 = .ok (.aload_n 0, 1) := by decide +kernel
theorem dX6_drop_78 : decode cX6_drop 78 = .ok (.invokevirtual 56, 3) := by decide +kernel
theorem dX6_drop_81 : decode cX6_drop 81 = .ok (.aload_n 0, 1) := by decide +kernel
theorem dX6_drop_82 : decode cX6_drop 82 = .ok (.invokevirtual 63, 3) := by decide +kernel
theorem dX6_drop_85 : decode cX6_drop 85 = .ok (.ireturn, 1) := by decide +kernel
theorem dX6_firstSlot_0 : decode cX6_firstSlot 0 = .ok (.iconst 0, 1) := by decide +kernel
theorem dX6_firstSlot_1 : decode cX6_firstSlot 1 = .ok (.istore_n 2, 1) := by decide +kernel
theorem dX6_firstSlot_2 : decode cX6_firstSlot 2 = .ok (.iconst 0, 1) := by decide +kernel
theorem dX6_firstSlot_3 : decode cX6_firstSlot 3 = .ok (.istore_n 3, 1) := by decide +kernel
theorem dX6_firstSlot_4 : decode cX6_firstSlot 4 = .ok (.iload_n 3, 1) := by decide +kernel
theorem dX6_firstSlot_5 : decode cX6_firstSlot 5 = .ok (.iload_n 1, 1) := by decide +kernel
theorem dX6_firstSlot_6 : decode cX6_firstSlot 6 = .ok (.if_icmp .ge 18, 3) := by decide +kernel
theorem dX6_firstSlot_9 : decode cX6_firstSlot 9 = .ok (.iload_n 2, 1) := by decide +kernel
theorem dX6_firstSlot_10 : decode cX6_firstSlot 10 = .ok (.aload_n 0, 1) := by decide +kernel
theorem dX6_firstSlot_11 : decode cX6_firstSlot 11 = .ok (.getfield 16, 3) := by decide +kernel
theorem dX6_firstSlot_14 : decode cX6_firstSlot 14 = .ok (.iload_n 3, 1) := by decide +kernel
theorem dX6_firstSlot_15 : decode cX6_firstSlot 15 = .ok (.iaload, 1) := by decide +kernel
theorem dX6_firstSlot_16 : decode cX6_firstSlot 16 = .ok (.iadd, 1) := by decide +kernel
theorem dX6_firstSlot_17 : decode cX6_firstSlot 17 = .ok (.istore_n 2, 1) := by decide +kernel
theorem dX6_firstSlot_18 : decode cX6_firstSlot 18 = .ok (.iinc 3 1, 3) := by decide +kernel
theorem dX6_firstSlot_21 : decode cX6_firstSlot 21 = .ok (.goto (-17), 3) := by decide +kernel
theorem dX6_firstSlot_24 : decode cX6_firstSlot 24 = .ok (.iload_n 2, 1) := by decide +kernel
theorem dX6_firstSlot_25 : decode cX6_firstSlot 25 = .ok (.ireturn, 1) := by decide +kernel
set_option maxRecDepth 20000 in
theorem ggX6_having_X6_cells : GoodIn wsX6_having wsX6_cells := goodIn_r _ [7, 8, 13, 14, 15, 16, 17, 18, 19, 20, 21, 22, 23, 24, 25, 26, 27] (by decide +kernel) (by decide +kernel)
set_option maxRecDepth 20000 in
theorem gX6_having_X6_cells : GoodIn wsX6_having (wsV RX6 80 RX6 yX6_cells wsX6_cells) := goodIn_app (goodIn_of _ (by decide +kernel)) ggX6_having_X6_cells
set_option maxRecDepth 20000 in
theorem ggX6_having_X6_isDone : GoodIn wsX6_having wsX6_isDone := goodIn_r _ [12, 8, 13, 14, 15, 16, 17, 18, 19, 20, 21, 22, 23, 24, 25, 26, 27] (by decide +kernel) (by decide +kernel)
set_option maxRecDepth 20000 in
theorem gX6_having_X6_isDone : GoodIn wsX6_having (wsV RX6 83 RX6 yX6_isDone wsX6_isDone) := goodIn_app (goodIn_of _ (by decide +kernel)) ggX6_having_X6_isDone
theorem dX6_having_0 : decode cX6_having 0 = .ok (.iconst 0, 1) := by decide +kernel
theorem dX6_having_1 : decode cX6_having 1 = .ok (.istore_n 2, 1) := by decide +kernel
theorem dX6_having_2 : decode cX6_having 2 = .ok (.iconst 0, 1) := by decide +kernel
theorem dX6_having_3 : decode cX6_having 3 = .ok (.istore_n 3, 1) := by decide +kernel
theorem dX6_having_4 : decode cX6_having 4 = .ok (.iload_n 3, 1) := by decide +kernel
theorem dX6_having_5 : decode cX6_having 5 = .ok (.aload_n 0, 1) := by decide +kernel
theorem dX6_having_6 : decode cX6_having 6 = .ok (.invokevirtual 80, 3) := by decide +kernel
theorem dX6_having_9 : decode cX6_having 9 = .ok (.if_icmp .ge 39, 3) := by decide +kernel
theorem dX6_having_12 : decode cX6_having 12 = .ok (.aload_n 0, 1) := by decide +kernel
theorem dX6_having_13 : decode cX6_having 13 = .ok (.invokevirtual 83, 3) := by decide +kernel
theorem dX6_having_16 : decode cX6_having 16 = .ok (.ifCond .eq 32, 3) := by decide +kernel
theorem dX6_having_19 : decode cX6_having 19 = .ok (.iload_n 2, 1) := by decide +kernel
theorem dX6_having_20 : decode cX6_having 20 = .ok (.aload_n 0, 1) := by decide +kernel
theorem dX6_having_21 : decode cX6_having 21 = .ok (.getfield 25, 3) := by decide +kernel
theorem dX6_having_24 : decode cX6_having 24 = .ok (.aload_n 0, 1) := by decide +kernel
theorem dX6_having_25 : decode cX6_having 25 = .ok (.getfield 31, 3) := by decide +kernel
theorem dX6_having_28 : decode cX6_having 28 = .ok (.iload_n 3, 1) := by decide +kernel
theorem dX6_having_29 : decode cX6_having 29 = .ok (.iaload, 1) := by decide +kernel
theorem dX6_having_30 : decode cX6_having 30 = .ok (.iaload, 1) := by decide +kernel
theorem dX6_having_31 : decode cX6_having 31 = .ok (.iload_n 1, 1) := by decide +kernel
theorem dX6_having_32 : decode cX6_having 32 = .ok (.if_icmp .ne 7, 3) := by decide +kernel
theorem dX6_having_35 : decode cX6_having 35 = .ok (.iconst 1, 1) := by decide +kernel
theorem dX6_having_36 : decode cX6_having 36 = .ok (.goto 4, 3) := by decide +kernel
theorem dX6_having_39 : decode cX6_having 39 = .ok (.iconst 0, 1) := by decide +kernel
theorem dX6_having_40 : decode cX6_having 40 = .ok (.iadd, 1) := by decide +kernel
theorem dX6_having_41 : decode cX6_having 41 = .ok (.istore_n 2, 1) := by decide +kernel
theorem dX6_having_42 : decode cX6_having 42 = .ok (.iinc 3 1, 3) := by decide +kernel
theorem dX6_having_45 : decode cX6_having 45 = .ok (.goto (-41), 3) := by decide +kernel
theorem dX6_having_48 : decode cX6_having 48 = .ok (.iload_n 2, 1) := by decide +kernel
theorem dX6_having_49 : decode cX6_having 49 = .ok (.ireturn, 1) := by decide +kernel
set_option maxRecDepth 20000 in
theorem ggX6_kind_X6_kinds : GoodIn wsX6_kind wsX6_kinds := goodIn_r _ [7, 8, 30, 31, 32, 33, 34, 35, 36, 37, 38, 39, 40, 41, 42, 43, 44] (by decide +kernel) (by decide +kernel)
set_option maxRecDepth 20000 in
theorem gX6_kind_X6_kinds : GoodIn wsX6_kind (wsV RX6 63 RX6 yX6_kinds wsX6_kinds) := goodIn_app (goodIn_of _ (by decide +kernel)) ggX6_kind_X6_kinds
set_option maxRecDepth 20000 in
theorem ggX6_kind_X6_in : GoodIn wsX6_kind wsX6_in := goodIn_r _ [11] (by decide +kernel) (by decide +kernel)
set_option maxRecDepth 20000 in
theorem gX6_kind_X6_in : GoodIn wsX6_kind (va_wsS RX6 52 yX6_in wsX6_in) := goodIn_app (goodIn_of _ (by decide +kernel)) ggX6_kind_X6_in
set_option maxRecDepth 20000 in
theorem ggX6_kind_X6_firstSlot : GoodIn wsX6_kind wsX6_firstSlot := goodIn_r _ [15, 2, 30, 31, 32, 33, 34, 35, 36, 37, 38, 39, 40, 41, 42, 43, 44] (by decide +kernel) (by decide +kernel)
set_option maxRecDepth 20000 in
theorem gX6_kind_X6_firstSlot : GoodIn wsX6_kind (wsV RX6 87 RX6 yX6_firstSlot wsX6_firstSlot) := goodIn_app (goodIn_of _ (by decide +kernel)) ggX6_kind_X6_firstSlot
set_option maxRecDepth 20000 in
theorem ggX6_kind_X6_having : GoodIn wsX6_kind wsX6_having := goodIn_r _ [19, 20, 21, 22, 23, 24, 6, 25, 8, 26, 27, 28, 29, 30, 31, 32, 33, 34, 35, 36, 37, 38, 39, 40, 41, 42, 43, 44] (by decide +kernel) (by decide +kernel)
set_option maxRecDepth 20000 in
theorem gX6_kind_X6_having : GoodIn wsX6_kind (wsV RX6 90 RX6 yX6_having wsX6_having) := goodIn_app (goodIn_of _ (by decide +kernel)) ggX6_kind_X6_having
theorem dX6_kind_0 : decode cX6_kind 0 = .ok (.iload_n 1, 1) := by decide +kernel
theorem dX6_kind_1 : decode cX6_kind 1 = .ok (.i2l, 1) := by decide +kernel
theorem dX6_kind_2 : decode cX6_kind 2 = .ok (.lconst 0, 1) := by decide +kernel
theorem dX6_kind_3 : decode cX6_kind 3 = .ok (.aload_n 0, 1) := by decide +kernel
theorem dX6_kind_4 : decode cX6_kind 4 = .ok (.invokevirtual 63, 3) := by decide +kernel
theorem dX6_kind_7 : decode cX6_kind 7 = .ok (.iconst 1, 1) := by decide +kernel
theorem dX6_kind_8 : decode cX6_kind 8 = .ok (.isub, 1) := by decide +kernel
theorem dX6_kind_9 : decode cX6_kind 9 = .ok (.i2l, 1) := by decide +kernel
theorem dX6_kind_10 : decode cX6_kind 10 = .ok (.invokestatic 52, 3) := by decide +kernel
theorem dX6_kind_13 : decode cX6_kind 13 = .ok (.ifCond .ne 5, 3) := by decide +kernel
theorem dX6_kind_16 : decode cX6_kind 16 = .ok (.iconst (-1), 1) := by decide +kernel
theorem dX6_kind_17 : decode cX6_kind 17 = .ok (.ireturn, 1) := by decide +kernel
theorem dX6_kind_18 : decode cX6_kind 18 = .ok (.iload_n 2, 1) := by decide +kernel
theorem dX6_kind_19 : decode cX6_kind 19 = .ok (.tableswitch 55 0 3 #[29, 36, 43, 49], 29) := by decide +kernel
theorem dX6_kind_48 : decode cX6_kind 48 = .ok (.aload_n 0, 1) := by decide +kernel
theorem dX6_kind_49 : decode cX6_kind 49 = .ok (.getfield 13, 3) := by decide +kernel
theorem dX6_kind_52 : decode cX6_kind 52 = .ok (.iload_n 1, 1) := by decide +kernel
theorem dX6_kind_53 : decode cX6_kind 53 = .ok (.iaload, 1) := by decide +kernel
theorem dX6_kind_54 : decode cX6_kind 54 = .ok (.ireturn, 1) := by decide +kernel
theorem dX6_kind_55 : decode cX6_kind 55 = .ok (.aload_n 0, 1) := by decide +kernel
theorem dX6_kind_56 : decode cX6_kind 56 = .ok (.getfield 16, 3) := by decide +kernel
theorem dX6_kind_59 : decode cX6_kind 59 = .ok (.iload_n 1, 1) := by decide +kernel
theorem dX6_kind_60 : decode cX6_kind 60 = .ok (.iaload, 1) := by decide +kernel
theorem dX6_kind_61 : decode cX6_kind 61 = .ok (.ireturn, 1) := by decide +kernel
theorem dX6_kind_62 : decode cX6_kind 62 = .ok (.aload_n 0, 1) := by decide +kernel
theorem dX6_kind_63 : decode cX6_kind 63 = .ok (.iload_n 1, 1) := by decide +kernel
theorem dX6_kind_64 : decode cX6_kind 64 = .ok (.invokevirtual 87, 3) := by decide +kernel
theorem dX6_kind_67 : decode cX6_kind 67 = .ok (.ireturn, 1) := by decide +kernel
theorem dX6_kind_68 : decode cX6_kind 68 = .ok (.aload_n 0, 1) := by decide +kernel
theorem dX6_kind_69 : decode cX6_kind 69 = .ok (.iload_n 1, 1) := by decide +kernel
theorem dX6_kind_70 : decode cX6_kind 70 = .ok (.invokevirtual 90, 3) := by decide +kernel
theorem dX6_kind_73 : decode cX6_kind 73 = .ok (.ireturn, 1) := by decide +kernel
theorem dX6_kind_74 : decode cX6_kind 74 = .ok (.bipush (-2), 2) := by decide +kernel
theorem dX6_kind_76 : decode cX6_kind 76 = .ok (.ireturn, 1) := by decide +kernel
set_option maxRecDepth 20000 in
theorem ggX6_find_X6_isDots : GoodIn wsX6_find wsX6_isDots := goodIn_r _ [4, 5, 6, 7, 3, 8] (by decide +kernel) (by decide +kernel)
set_option maxRecDepth 20000 in
theorem gX6_find_X6_isDots : GoodIn wsX6_find (va_wsS RX6 67 yX6_isDots wsX6_isDots) := goodIn_app (goodIn_of _ (by decide +kernel)) ggX6_find_X6_isDots
set_option maxRecDepth 20000 in
theorem ggX6_find_X6_kindOf : GoodIn wsX6_find wsX6_kindOf := goodIn_r _ [12, 13, 14, 15, 16, 3, 17, 18, 19, 20, 21, 22, 23, 24, 25, 26, 27, 28, 29, 30, 31, 32, 33] (by decide +kernel) (by decide +kernel)
set_option maxRecDepth 20000 in
theorem gX6_find_X6_kindOf : GoodIn wsX6_find (wsV RX6 73 RX6 yX6_kindOf wsX6_kindOf) := goodIn_app (goodIn_of _ (by decide +kernel)) ggX6_find_X6_kindOf
theorem dX6_find_0 : decode cX6_find 0 = .ok (.iload_n 1, 1) := by decide +kernel
theorem dX6_find_1 : decode cX6_find 1 = .ok (.invokestatic 67, 3) := by decide +kernel
theorem dX6_find_4 : decode cX6_find 4 = .ok (.ifCond .eq 11, 3) := by decide +kernel
theorem dX6_find_7 : decode cX6_find 7 = .ok (.aload_n 0, 1) := by decide +kernel
theorem dX6_find_8 : decode cX6_find 8 = .ok (.iload_n 1, 1) := by decide +kernel
theorem dX6_find_9 : decode cX6_find 9 = .ok (.invokevirtual 73, 3) := by decide +kernel
theorem dX6_find_12 : decode cX6_find 12 = .ok (.goto 5, 3) := by decide +kernel
theorem dX6_find_15 : decode cX6_find 15 = .ok (.bipush (-2), 2) := by decide +kernel
theorem dX6_find_17 : decode cX6_find 17 = .ok (.ireturn, 1) := by decide +kernel
set_option maxRecDepth 20000 in
theorem ggX6_cell_X6_isDots : GoodIn wsX6_cell wsX6_isDots := goodIn_r _ [6, 7, 8, 9, 5, 10] (by decide +kernel) (by decide +kernel)
set_option maxRecDepth 20000 in
theorem gX6_cell_X6_isDots : GoodIn wsX6_cell (va_wsS RX6 67 yX6_isDots wsX6_isDots) := goodIn_app (goodIn_of _ (by decide +kernel)) ggX6_cell_X6_isDots
set_option maxRecDepth 20000 in
theorem ggX6_cell_X6_cells : GoodIn wsX6_cell wsX6_cells := goodIn_r _ [14, 2, 19, 20, 21, 22, 23, 24, 25, 26, 27, 28, 29, 30, 31, 32, 33] (by decide +kernel) (by decide +kernel)
set_option maxRecDepth 20000 in
theorem gX6_cell_X6_cells : GoodIn wsX6_cell (wsV RX6 80 RX6 yX6_cells wsX6_cells) := goodIn_app (goodIn_of _ (by decide +kernel)) ggX6_cell_X6_cells
set_option maxRecDepth 20000 in
theorem ggX6_cell_X6_end : GoodIn wsX6_cell wsX6_end := goodIn_r _ [18, 2, 19, 20, 21, 22, 23, 24, 25, 26, 27, 28, 29, 30, 31, 32, 33] (by decide +kernel) (by decide +kernel)
set_option maxRecDepth 20000 in
theorem gX6_cell_X6_end : GoodIn wsX6_cell (wsV RX6 56 RX6 yX6_end wsX6_end) := goodIn_app (goodIn_of _ (by decide +kernel)) ggX6_cell_X6_end
theorem dX6_cell_0 : decode cX6_cell 0 = .ok (.iload_n 1, 1) := by decide +kernel
theorem dX6_cell_1 : decode cX6_cell 1 = .ok (.invokestatic 67, 3) := by decide +kernel
theorem dX6_cell_4 : decode cX6_cell 4 = .ok (.ifCond .ne 6, 3) := by decide +kernel
theorem dX6_cell_7 : decode cX6_cell 7 = .ok (.bipush (-2), 2) := by decide +kernel
theorem dX6_cell_9 : decode cX6_cell 9 = .ok (.ireturn, 1) := by decide +kernel
theorem dX6_cell_10 : decode cX6_cell 10 = .ok (.aload_n 0, 1) := by decide +kernel
theorem dX6_cell_11 : decode cX6_cell 11 = .ok (.invokevirtual 80, 3) := by decide +kernel
theorem dX6_cell_14 : decode cX6_cell 14 = .ok (.bipush 12, 2) := by decide +kernel
theorem dX6_cell_16 : decode cX6_cell 16 = .ok (.if_icmp .ne 6, 3) := by decide +kernel
theorem dX6_cell_19 : decode cX6_cell 19 = .ok (.bipush (-4), 2) := by decide +kernel
theorem dX6_cell_21 : decode cX6_cell 21 = .ok (.ireturn, 1) := by decide +kernel
theorem dX6_cell_22 : decode cX6_cell 22 = .ok (.aload_n 0, 1) := by decide +kernel
theorem dX6_cell_23 : decode cX6_cell 23 = .ok (.getfield 19, 3) := by decide +kernel
theorem dX6_cell_26 : decode cX6_cell 26 = .ok (.aload_n 0, 1) := by decide +kernel
theorem dX6_cell_27 : decode cX6_cell 27 = .ok (.invokevirtual 80, 3) := by decide +kernel
theorem dX6_cell_30 : decode cX6_cell 30 = .ok (.iload_n 1, 1) := by decide +kernel
theorem dX6_cell_31 : decode cX6_cell 31 = .ok (.iastore, 1) := by decide +kernel
theorem dX6_cell_32 : decode cX6_cell 32 = .ok (.aload_n 0, 1) := by decide +kernel
theorem dX6_cell_33 : decode cX6_cell 33 = .ok (.getfield 7, 3) := by decide +kernel
theorem dX6_cell_36 : decode cX6_cell 36 = .ok (.iconst 3, 1) := by decide +kernel
theorem dX6_cell_37 : decode cX6_cell 37 = .ok (.dup2, 1) := by decide +kernel
theorem dX6_cell_38 : decode cX6_cell 38 = .ok (.iaload, 1) := by decide +kernel
theorem dX6_cell_39 : decode cX6_cell 39 = .ok (.iconst 1, 1) := by decide +kernel
theorem dX6_cell_40 : decode cX6_cell 40 = .ok (.iadd, 1) := by decide +kernel
theorem dX6_cell_41 : decode cX6_cell 41 = .ok (.iastore, 1) := by decide +kernel
theorem dX6_cell_42 : decode cX6_cell 42 = .ok (.aload_n 0, 1) := by decide +kernel
theorem dX6_cell_43 : decode cX6_cell 43 = .ok (.invokevirtual 56, 3) := by decide +kernel
theorem dX6_cell_46 : decode cX6_cell 46 = .ok (.aload_n 0, 1) := by decide +kernel
theorem dX6_cell_47 : decode cX6_cell 47 = .ok (.invokevirtual 80, 3) := by decide +kernel
theorem dX6_cell_50 : decode cX6_cell 50 = .ok (.ireturn, 1) := by decide +kernel
set_option maxRecDepth 20000 in
theorem ggX6_isCell_X6_cells : GoodIn wsX6_isCell wsX6_cells := goodIn_r _ [5, 6, 10, 11, 12, 13, 14, 15, 16, 17, 18, 19, 20, 21, 22, 23, 24] (by decide +kernel) (by decide +kernel)
set_option maxRecDepth 20000 in
theorem gX6_isCell_X6_cells : GoodIn wsX6_isCell (wsV RX6 80 RX6 yX6_cells wsX6_cells) := goodIn_app (goodIn_of _ (by decide +kernel)) ggX6_isCell_X6_cells
set_option maxRecDepth 20000 in
theorem ggX6_isCell_X6_in : GoodIn wsX6_isCell wsX6_in := goodIn_r _ [9] (by decide +kernel) (by decide +kernel)
set_option maxRecDepth 20000 in
theorem gX6_isCell_X6_in : GoodIn wsX6_isCell (va_wsS RX6 52 yX6_in wsX6_in) := goodIn_app (goodIn_of _ (by decide +kernel)) ggX6_isCell_X6_in
theorem dX6_isCell_0 : decode cX6_isCell 0 = .ok (.iload_n 1, 1) := by decide +kernel
theorem dX6_isCell_1 : decode cX6_isCell 1 = .ok (.i2l, 1) := by decide +kernel
theorem dX6_isCell_2 : decode cX6_isCell 2 = .ok (.lconst 0, 1) := by decide +kernel
theorem dX6_isCell_3 : decode cX6_isCell 3 = .ok (.aload_n 0, 1) := by decide +kernel
theorem dX6_isCell_4 : decode cX6_isCell 4 = .ok (.invokevirtual 80, 3) := by decide +kernel
theorem dX6_isCell_7 : decode cX6_isCell 7 = .ok (.iconst 1, 1) := by decide +kernel
theorem dX6_isCell_8 : decode cX6_isCell 8 = .ok (.isub, 1) := by decide +kernel
theorem dX6_isCell_9 : decode cX6_isCell 9 = .ok (.i2l, 1) := by decide +kernel
theorem dX6_isCell_10 : decode cX6_isCell 10 = .ok (.invokestatic 52, 3) := by decide +kernel
theorem dX6_isCell_13 : decode cX6_isCell 13 = .ok (.ireturn, 1) := by decide +kernel
set_option maxRecDepth 20000 in
theorem ggX6_change_X6_isCell : GoodIn wsX6_change wsX6_isCell := goodIn_r _ [7, 8, 9, 10, 6, 11, 2, 12, 13, 14, 19, 20, 21, 22, 23, 24, 25, 26, 27, 28, 29, 30, 31, 32, 33] (by decide +kernel) (by decide +kernel)
set_option maxRecDepth 20000 in
theorem gX6_change_X6_isCell : GoodIn wsX6_change (wsV RX6 93 RX6 yX6_isCell wsX6_isCell) := goodIn_app (goodIn_of _ (by decide +kernel)) ggX6_change_X6_isCell
set_option maxRecDepth 20000 in
theorem ggX6_change_X6_isDots : GoodIn wsX6_change wsX6_isDots := goodIn_r _ [17, 18, 12, 13, 6, 14] (by decide +kernel) (by decide +kernel)
set_option maxRecDepth 20000 in
theorem gX6_change_X6_isDots : GoodIn wsX6_change (va_wsS RX6 67 yX6_isDots wsX6_isDots) := goodIn_app (goodIn_of _ (by decide +kernel)) ggX6_change_X6_isDots
theorem dX6_change_0 : decode cX6_change 0 = .ok (.aload_n 0, 1) := by decide +kernel
theorem dX6_change_1 : decode cX6_change 1 = .ok (.iload_n 1, 1) := by decide +kernel
theorem dX6_change_2 : decode cX6_change 2 = .ok (.invokevirtual 93, 3) := by decide +kernel
theorem dX6_change_5 : decode cX6_change 5 = .ok (.ifCond .ne 5, 3) := by decide +kernel
theorem dX6_change_8 : decode cX6_change 8 = .ok (.iconst (-1), 1) := by decide +kernel
theorem dX6_change_9 : decode cX6_change 9 = .ok (.ireturn, 1) := by decide +kernel
theorem dX6_change_10 : decode cX6_change 10 = .ok (.iload_n 2, 1) := by decide +kernel
theorem dX6_change_11 : decode cX6_change 11 = .ok (.invokestatic 67, 3) := by decide +kernel
theorem dX6_change_14 : decode cX6_change 14 = .ok (.ifCond .ne 6, 3) := by decide +kernel
theorem dX6_change_17 : decode cX6_change 17 = .ok (.bipush (-2), 2) := by decide +kernel
theorem dX6_change_19 : decode cX6_change 19 = .ok (.ireturn, 1) := by decide +kernel
theorem dX6_change_20 : decode cX6_change 20 = .ok (.aload_n 0, 1) := by decide +kernel
theorem dX6_change_21 : decode cX6_change 21 = .ok (.getfield 19, 3) := by decide +kernel
theorem dX6_change_24 : decode cX6_change 24 = .ok (.iload_n 1, 1) := by decide +kernel
theorem dX6_change_25 : decode cX6_change 25 = .ok (.iaload, 1) := by decide +kernel
theorem dX6_change_26 : decode cX6_change 26 = .ok (.istore_n 3, 1) := by decide +kernel
theorem dX6_change_27 : decode cX6_change 27 = .ok (.aload_n 0, 1) := by decide +kernel
theorem dX6_change_28 : decode cX6_change 28 = .ok (.getfield 19, 3) := by decide +kernel
theorem dX6_change_31 : decode cX6_change 31 = .ok (.iload_n 1, 1) := by decide +kernel
theorem dX6_change_32 : decode cX6_change 32 = .ok (.iload_n 2, 1) := by decide +kernel
theorem dX6_change_33 : decode cX6_change 33 = .ok (.iastore, 1) := by decide +kernel
theorem dX6_change_34 : decode cX6_change 34 = .ok (.aload_n 0, 1) := by decide +kernel
theorem dX6_change_35 : decode cX6_change 35 = .ok (.getfield 7, 3) := by decide +kernel
theorem dX6_change_38 : decode cX6_change 38 = .ok (.bipush 6, 2) := by decide +kernel
theorem dX6_change_40 : decode cX6_change 40 = .ok (.iload_n 2, 1) := by decide +kernel
theorem dX6_change_41 : decode cX6_change 41 = .ok (.iload_n 3, 1) := by decide +kernel
theorem dX6_change_42 : decode cX6_change 42 = .ok (.if_icmp .ne 13, 3) := by decide +kernel
theorem dX6_change_45 : decode cX6_change 45 = .ok (.aload_n 0, 1) := by decide +kernel
theorem dX6_change_46 : decode cX6_change 46 = .ok (.getfield 7, 3) := by decide +kernel
theorem dX6_change_49 : decode cX6_change 49 = .ok (.bipush 6, 2) := by decide +kernel
theorem dX6_change_51 : decode cX6_change 51 = .ok (.iaload, 1) := by decide +kernel
theorem dX6_change_52 : decode cX6_change 52 = .ok (.goto 4, 3) := by decide +kernel
theorem dX6_change_55 : decode cX6_change 55 = .ok (.iconst 0, 1) := by decide +kernel
theorem dX6_change_56 : decode cX6_change 56 = .ok (.iastore, 1) := by decide +kernel
theorem dX6_change_57 : decode cX6_change 57 = .ok (.iload_n 3, 1) := by decide +kernel
theorem dX6_change_58 : decode cX6_change 58 = .ok (.ireturn, 1) := by decide +kernel
set_option maxRecDepth 20000 in
theorem ggX6_remove_X6_isCell : GoodIn wsX6_remove wsX6_isCell := goodIn_r _ [7, 8, 9, 10, 6, 11, 1, 12, 13, 14, 19, 20, 21, 22, 23, 24, 25, 26, 27, 28, 29, 30, 31, 32, 33] (by decide +kernel) (by decide +kernel)
set_option maxRecDepth 20000 in
theorem gX6_remove_X6_isCell : GoodIn wsX6_remove (wsV RX6 93 RX6 yX6_isCell wsX6_isCell) := goodIn_app (goodIn_of _ (by decide +kernel)) ggX6_remove_X6_isCell
set_option maxRecDepth 20000 in
theorem ggX6_remove_X6_cells : GoodIn wsX6_remove wsX6_cells := goodIn_r _ [11, 1, 19, 20, 21, 22, 23, 24, 25, 26, 27, 28, 29, 30, 31, 32, 33] (by decide +kernel) (by decide +kernel)
set_option maxRecDepth 20000 in
theorem gX6_remove_X6_cells : GoodIn wsX6_remove (wsV RX6 80 RX6 yX6_cells wsX6_cells) := goodIn_app (goodIn_of _ (by decide +kernel)) ggX6_remove_X6_cells
set_option maxRecDepth 20000 in
theorem ggX6_remove_X6_end : GoodIn wsX6_remove wsX6_end := goodIn_r _ [18, 1, 19, 20, 21, 22, 23, 24, 25, 26, 27, 28, 29, 30, 31, 32, 33] (by decide +kernel) (by decide +kernel)
set_option maxRecDepth 20000 in
theorem gX6_remove_X6_end : GoodIn wsX6_remove (wsV RX6 56 RX6 yX6_end wsX6_end) := goodIn_app (goodIn_of _ (by decide +kernel)) ggX6_remove_X6_end
theorem dX6_remove_0 : decode cX6_remove 0 = .ok (.aload_n 0, 1) := by decide +kernel
theorem dX6_remove_1 : decode cX6_remove 1 = .ok (.iload_n 1, 1) := by decide +kernel
theorem dX6_remove_2 : decode cX6_remove 2 = .ok (.invokevirtual 93, 3) := by decide +kernel
theorem dX6_remove_5 : decode cX6_remove 5 = .ok (.ifCond .ne 5, 3) := by decide +kernel
theorem dX6_remove_8 : decode cX6_remove 8 = .ok (.iconst (-1), 1) := by decide +kernel
theorem dX6_remove_9 : decode cX6_remove 9 = .ok (.ireturn, 1) := by decide +kernel
theorem dX6_remove_10 : decode cX6_remove 10 = .ok (.aload_n 0, 1) := by decide +kernel
theorem dX6_remove_11 : decode cX6_remove 11 = .ok (.getfield 7, 3) := by decide +kernel
theorem dX6_remove_14 : decode cX6_remove 14 = .ok (.iconst 3, 1) := by decide +kernel
theorem dX6_remove_15 : decode cX6_remove 15 = .ok (.dup2, 1) := by decide +kernel
theorem dX6_remove_16 : decode cX6_remove 16 = .ok (.iaload, 1) := by decide +kernel
theorem dX6_remove_17 : decode cX6_remove 17 = .ok (.iconst 1, 1) := by decide +kernel
theorem dX6_remove_18 : decode cX6_remove 18 = .ok (.isub, 1) := by decide +kernel
theorem dX6_remove_19 : decode cX6_remove 19 = .ok (.iastore, 1) := by decide +kernel
theorem dX6_remove_20 : decode cX6_remove 20 = .ok (.iload_n 1, 1) := by decide +kernel
theorem dX6_remove_21 : decode cX6_remove 21 = .ok (.istore_n 2, 1) := by decide +kernel
theorem dX6_remove_22 : decode cX6_remove 22 = .ok (.iload_n 2, 1) := by decide +kernel
theorem dX6_remove_23 : decode cX6_remove 23 = .ok (.aload_n 0, 1) := by decide +kernel
theorem dX6_remove_24 : decode cX6_remove 24 = .ok (.invokevirtual 80, 3) := by decide +kernel
theorem dX6_remove_27 : decode cX6_remove 27 = .ok (.if_icmp .ge 23, 3) := by decide +kernel
theorem dX6_remove_30 : decode cX6_remove 30 = .ok (.aload_n 0, 1) := by decide +kernel
theorem dX6_remove_31 : decode cX6_remove 31 = .ok (.getfield 19, 3) := by decide +kernel
theorem dX6_remove_34 : decode cX6_remove 34 = .ok (.iload_n 2, 1) := by decide +kernel
theorem dX6_remove_35 : decode cX6_remove 35 = .ok (.aload_n 0, 1) := by decide +kernel
theorem dX6_remove_36 : decode cX6_remove 36 = .ok (.getfield 19, 3) := by decide +kernel
theorem dX6_remove_39 : decode cX6_remove 39 = .ok (.iload_n 2, 1) := by decide +kernel
theorem dX6_remove_40 : decode cX6_remove 40 = .ok (.iconst 1, 1) := by decide +kernel
theorem dX6_remove_41 : decode cX6_remove 41 = .ok (.iadd, 1) := by decide +kernel
theorem dX6_remove_42 : decode cX6_remove 42 = .ok (.iaload, 1) := by decide +kernel
theorem dX6_remove_43 : decode cX6_remove 43 = .ok (.iastore, 1) := by decide +kernel
theorem dX6_remove_44 : decode cX6_remove 44 = .ok (.iinc 2 1, 3) := by decide +kernel
theorem dX6_remove_47 : decode cX6_remove 47 = .ok (.goto (-25), 3) := by decide +kernel
theorem dX6_remove_50 : decode cX6_remove 50 = .ok (.aload_n 0, 1) := by decide +kernel
theorem dX6_remove_51 : decode cX6_remove 51 = .ok (.invokevirtual 56, 3) := by decide +kernel
theorem dX6_remove_54 : decode cX6_remove 54 = .ok (.aload_n 0, 1) := by decide +kernel
theorem dX6_remove_55 : decode cX6_remove 55 = .ok (.invokevirtual 80, 3) := by decide +kernel
theorem dX6_remove_58 : decode cX6_remove 58 = .ok (.ireturn, 1) := by decide +kernel
theorem dX6_differenceOf_0 : decode cX6_differenceOf 0 = .ok (.iconst 0, 1) := by decide +kernel
theorem dX6_differenceOf_1 : decode cX6_differenceOf 1 = .ok (.istore_n 3, 1) := by decide +kernel
theorem dX6_differenceOf_2 : decode cX6_differenceOf 2 = .ok (.iconst 1, 1) := by decide +kernel
theorem dX6_differenceOf_3 : decode cX6_differenceOf 3 = .ok (.istore 4, 2) := by decide +kernel
theorem dX6_differenceOf_5 : decode cX6_differenceOf 5 = .ok (.iload 4, 2) := by decide +kernel
theorem dX6_differenceOf_7 : decode cX6_differenceOf 7 = .ok (.sipush 1000, 3) := by decide +kernel
theorem dX6_differenceOf_10 : decode cX6_differenceOf 10 = .ok (.if_icmp .gt 67, 3) := by decide +kernel
theorem dX6_differenceOf_13 : decode cX6_differenceOf 13 = .ok (.iload_n 1, 1) := by decide +kernel
theorem dX6_differenceOf_14 : decode cX6_differenceOf 14 = .ok (.iload 4, 2) := by decide +kernel
theorem dX6_differenceOf_16 : decode cX6_differenceOf 16 = .ok (.idiv, 1) := by decide +kernel
theorem dX6_differenceOf_17 : decode cX6_differenceOf 17 = .ok (.bipush 10, 2) := by decide +kernel
theorem dX6_differenceOf_19 : decode cX6_differenceOf 19 = .ok (.irem, 1) := by decide +kernel
theorem dX6_differenceOf_20 : decode cX6_differenceOf 20 = .ok (.iload_n 2, 1) := by decide +kernel
theorem dX6_differenceOf_21 : decode cX6_differenceOf 21 = .ok (.iload 4, 2) := by decide +kernel
theorem dX6_differenceOf_23 : decode cX6_differenceOf 23 = .ok (.idiv, 1) := by decide +kernel
theorem dX6_differenceOf_24 : decode cX6_differenceOf 24 = .ok (.bipush 10, 2) := by decide +kernel
theorem dX6_differenceOf_26 : decode cX6_differenceOf 26 = .ok (.irem, 1) := by decide +kernel
theorem dX6_differenceOf_27 : decode cX6_differenceOf 27 = .ok (.isub, 1) := by decide +kernel
theorem dX6_differenceOf_28 : decode cX6_differenceOf 28 = .ok (.istore 5, 2) := by decide +kernel
theorem dX6_differenceOf_30 : decode cX6_differenceOf 30 = .ok (.iload 5, 2) := by decide +kernel
theorem dX6_differenceOf_32 : decode cX6_differenceOf 32 = .ok (.ifCond .ge 9, 3) := by decide +kernel
theorem dX6_differenceOf_35 : decode cX6_differenceOf 35 = .ok (.iload 5, 2) := by decide +kernel
theorem dX6_differenceOf_37 : decode cX6_differenceOf 37 = .ok (.ineg, 1) := by decide +kernel
theorem dX6_differenceOf_38 : decode cX6_differenceOf 38 = .ok (.goto 5, 3) := by decide +kernel
theorem dX6_differenceOf_41 : decode cX6_differenceOf 41 = .ok (.iload 5, 2) := by decide +kernel
theorem dX6_differenceOf_43 : decode cX6_differenceOf 43 = .ok (.istore 6, 2) := by decide +kernel
theorem dX6_differenceOf_45 : decode cX6_differenceOf 45 = .ok (.iload_n 3, 1) := by decide +kernel
theorem dX6_differenceOf_46 : decode cX6_differenceOf 46 = .ok (.aload_n 0, 1) := by decide +kernel
theorem dX6_differenceOf_47 : decode cX6_differenceOf 47 = .ok (.getfield 7, 3) := by decide +kernel
theorem dX6_differenceOf_50 : decode cX6_differenceOf 50 = .ok (.iconst 0, 1) := by decide +kernel
theorem dX6_differenceOf_51 : decode cX6_differenceOf 51 = .ok (.iaload, 1) := by decide +kernel
theorem dX6_differenceOf_52 : decode cX6_differenceOf 52 = .ok (.ifCond .ne 8, 3) := by decide +kernel
theorem dX6_differenceOf_55 : decode cX6_differenceOf 55 = .ok (.iload 6, 2) := by decide +kernel
theorem dX6_differenceOf_57 : decode cX6_differenceOf 57 = .ok (.goto 8, 3) := by decide +kernel
theorem dX6_differenceOf_60 : decode cX6_differenceOf 60 = .ok (.iload 6, 2) := by decide +kernel
theorem dX6_differenceOf_62 : decode cX6_differenceOf 62 = .ok (.iload 6, 2) := by decide +kernel
theorem dX6_differenceOf_64 : decode cX6_differenceOf 64 = .ok (.imul, 1) := by decide +kernel
theorem dX6_differenceOf_65 : decode cX6_differenceOf 65 = .ok (.iadd, 1) := by decide +kernel
theorem dX6_differenceOf_66 : decode cX6_differenceOf 66 = .ok (.istore_n 3, 1) := by decide +kernel
theorem dX6_differenceOf_67 : decode cX6_differenceOf 67 = .ok (.iload 4, 2) := by decide +kernel
theorem dX6_differenceOf_69 : decode cX6_differenceOf 69 = .ok (.bipush 10, 2) := by decide +kernel
theorem dX6_differenceOf_71 : decode cX6_differenceOf 71 = .ok (.imul, 1) := by decide +kernel
theorem dX6_differenceOf_72 : decode cX6_differenceOf 72 = .ok (.istore 4, 2) := by decide +kernel
theorem dX6_differenceOf_74 : decode cX6_differenceOf 74 = .ok (.goto (-69), 3) := by decide +kernel
theorem dX6_differenceOf_77 : decode cX6_differenceOf 77 = .ok (.iload_n 3, 1) := by decide +kernel
theorem dX6_differenceOf_78 : decode cX6_differenceOf 78 = .ok (.ireturn, 1) := by decide +kernel
set_option maxRecDepth 20000 in
theorem ggX6_difference_X6_isCell : GoodIn wsX6_difference wsX6_isCell := goodIn_r _ [7, 8, 9, 10, 6, 11, 12, 13, 14, 15, 24, 25, 26, 27, 28, 29, 30, 31, 32, 33, 34, 35, 36, 37, 38] (by decide +kernel) (by decide +kernel)
set_option maxRecDepth 20000 in
theorem gX6_difference_X6_isCell : GoodIn wsX6_difference (wsV RX6 93 RX6 yX6_isCell wsX6_isCell) := goodIn_app (goodIn_of _ (by decide +kernel)) ggX6_difference_X6_isCell
set_option maxRecDepth 20000 in
theorem ggX6_difference_X6_kinds : GoodIn wsX6_difference wsX6_kinds := goodIn_r _ [19, 12, 24, 25, 26, 27, 28, 29, 30, 31, 32, 33, 34, 35, 36, 37, 38] (by decide +kernel) (by decide +kernel)
set_option maxRecDepth 20000 in
theorem gX6_difference_X6_kinds : GoodIn wsX6_difference (wsV RX6 63 RX6 yX6_kinds wsX6_kinds) := goodIn_app (goodIn_of _ (by decide +kernel)) ggX6_difference_X6_kinds
set_option maxRecDepth 20000 in
theorem ggX6_difference_X6_in : GoodIn wsX6_difference wsX6_in := goodIn_r _ [15] (by decide +kernel) (by decide +kernel)
set_option maxRecDepth 20000 in
theorem gX6_difference_X6_in : GoodIn wsX6_difference (va_wsS RX6 52 yX6_in wsX6_in) := goodIn_app (goodIn_of _ (by decide +kernel)) ggX6_difference_X6_in
set_option maxRecDepth 20000 in
theorem ggX6_difference_X6_differenceOf : GoodIn wsX6_difference wsX6_differenceOf := goodIn_r _ [23, 12, 24, 25, 26, 27, 28, 29, 30, 31, 32, 33, 34, 35, 36, 37, 38] (by decide +kernel) (by decide +kernel)
set_option maxRecDepth 20000 in
theorem gX6_difference_X6_differenceOf : GoodIn wsX6_difference (wsV RX6 96 RX6 yX6_differenceOf wsX6_differenceOf) := goodIn_app (goodIn_of _ (by decide +kernel)) ggX6_difference_X6_differenceOf
theorem dX6_difference_0 : decode cX6_difference 0 = .ok (.aload_n 0, 1) := by decide +kernel
theorem dX6_difference_1 : decode cX6_difference 1 = .ok (.iload_n 1, 1) := by decide +kernel
theorem dX6_difference_2 : decode cX6_difference 2 = .ok (.invokevirtual 93, 3) := by decide +kernel
theorem dX6_difference_5 : decode cX6_difference 5 = .ok (.ifCond .eq 38, 3) := by decide +kernel
theorem dX6_difference_8 : decode cX6_difference 8 = .ok (.iload_n 2, 1) := by decide +kernel
theorem dX6_difference_9 : decode cX6_difference 9 = .ok (.i2l, 1) := by decide +kernel
theorem dX6_difference_10 : decode cX6_difference 10 = .ok (.lconst 0, 1) := by decide +kernel
theorem dX6_difference_11 : decode cX6_difference 11 = .ok (.aload_n 0, 1) := by decide +kernel
theorem dX6_difference_12 : decode cX6_difference 12 = .ok (.invokevirtual 63, 3) := by decide +kernel
theorem dX6_difference_15 : decode cX6_difference 15 = .ok (.iconst 1, 1) := by decide +kernel
theorem dX6_difference_16 : decode cX6_difference 16 = .ok (.isub, 1) := by decide +kernel
theorem dX6_difference_17 : decode cX6_difference 17 = .ok (.i2l, 1) := by decide +kernel
theorem dX6_difference_18 : decode cX6_difference 18 = .ok (.invokestatic 52, 3) := by decide +kernel
theorem dX6_difference_21 : decode cX6_difference 21 = .ok (.ifCond .eq 22, 3) := by decide +kernel
theorem dX6_difference_24 : decode cX6_difference 24 = .ok (.aload_n 0, 1) := by decide +kernel
theorem dX6_difference_25 : decode cX6_difference 25 = .ok (.aload_n 0, 1) := by decide +kernel
theorem dX6_difference_26 : decode cX6_difference 26 = .ok (.getfield 19, 3) := by decide +kernel
theorem dX6_difference_29 : decode cX6_difference 29 = .ok (.iload_n 1, 1) := by decide +kernel
theorem dX6_difference_30 : decode cX6_difference 30 = .ok (.iaload, 1) := by decide +kernel
theorem dX6_difference_31 : decode cX6_difference 31 = .ok (.aload_n 0, 1) := by decide +kernel
theorem dX6_difference_32 : decode cX6_difference 32 = .ok (.getfield 13, 3) := by decide +kernel
theorem dX6_difference_35 : decode cX6_difference 35 = .ok (.iload_n 2, 1) := by decide +kernel
theorem dX6_difference_36 : decode cX6_difference 36 = .ok (.iaload, 1) := by decide +kernel
theorem dX6_difference_37 : decode cX6_difference 37 = .ok (.invokevirtual 96, 3) := by decide +kernel
theorem dX6_difference_40 : decode cX6_difference 40 = .ok (.goto 4, 3) := by decide +kernel
theorem dX6_difference_43 : decode cX6_difference 43 = .ok (.iconst (-1), 1) := by decide +kernel
theorem dX6_difference_44 : decode cX6_difference 44 = .ok (.ireturn, 1) := by decide +kernel
set_option maxRecDepth 20000 in
theorem ggX6_gainOf_X6_cells : GoodIn wsX6_gainOf wsX6_cells := goodIn_r _ [10, 4, 15, 16, 17, 18, 19, 20, 21, 22, 23, 24, 25, 26, 27, 28, 29] (by decide +kernel) (by decide +kernel)
set_option maxRecDepth 20000 in
theorem gX6_gainOf_X6_cells : GoodIn wsX6_gainOf (wsV RX6 80 RX6 yX6_cells wsX6_cells) := goodIn_app (goodIn_of _ (by decide +kernel)) ggX6_gainOf_X6_cells
set_option maxRecDepth 20000 in
theorem ggX6_gainOf_X6_differenceOf : GoodIn wsX6_gainOf wsX6_differenceOf := goodIn_r _ [14, 4, 15, 16, 17, 18, 19, 20, 21, 22, 23, 24, 25, 26, 27, 28, 29] (by decide +kernel) (by decide +kernel)
set_option maxRecDepth 20000 in
theorem gX6_gainOf_X6_differenceOf : GoodIn wsX6_gainOf (wsV RX6 96 RX6 yX6_differenceOf wsX6_differenceOf) := goodIn_app (goodIn_of _ (by decide +kernel)) ggX6_gainOf_X6_differenceOf
theorem dX6_gainOf_0 : decode cX6_gainOf 0 = .ok (.iload_n 1, 1) := by decide +kernel
theorem dX6_gainOf_1 : decode cX6_gainOf 1 = .ok (.aload_n 0, 1) := by decide +kernel
theorem dX6_gainOf_2 : decode cX6_gainOf 2 = .ok (.invokevirtual 80, 3) := by decide +kernel
theorem dX6_gainOf_5 : decode cX6_gainOf 5 = .ok (.if_icmp .ge 37, 3) := by decide +kernel
theorem dX6_gainOf_8 : decode cX6_gainOf 8 = .ok (.aload_n 0, 1) := by decide +kernel
theorem dX6_gainOf_9 : decode cX6_gainOf 9 = .ok (.aload_n 0, 1) := by decide +kernel
theorem dX6_gainOf_10 : decode cX6_gainOf 10 = .ok (.getfield 19, 3) := by decide +kernel
theorem dX6_gainOf_13 : decode cX6_gainOf 13 = .ok (.iload_n 1, 1) := by decide +kernel
theorem dX6_gainOf_14 : decode cX6_gainOf 14 = .ok (.iaload, 1) := by decide +kernel
theorem dX6_gainOf_15 : decode cX6_gainOf 15 = .ok (.aload_n 0, 1) := by decide +kernel
theorem dX6_gainOf_16 : decode cX6_gainOf 16 = .ok (.getfield 13, 3) := by decide +kernel
theorem dX6_gainOf_19 : decode cX6_gainOf 19 = .ok (.aload_n 0, 1) := by decide +kernel
theorem dX6_gainOf_20 : decode cX6_gainOf 20 = .ok (.getfield 25, 3) := by decide +kernel
theorem dX6_gainOf_23 : decode cX6_gainOf 23 = .ok (.iload_n 2, 1) := by decide +kernel
theorem dX6_gainOf_24 : decode cX6_gainOf 24 = .ok (.iaload, 1) := by decide +kernel
theorem dX6_gainOf_25 : decode cX6_gainOf 25 = .ok (.iaload, 1) := by decide +kernel
theorem dX6_gainOf_26 : decode cX6_gainOf 26 = .ok (.invokevirtual 96, 3) := by decide +kernel
theorem dX6_gainOf_29 : decode cX6_gainOf 29 = .ok (.ineg, 1) := by decide +kernel
theorem dX6_gainOf_30 : decode cX6_gainOf 30 = .ok (.aload_n 0, 1) := by decide +kernel
theorem dX6_gainOf_31 : decode cX6_gainOf 31 = .ok (.getfield 7, 3) := by decide +kernel
theorem dX6_gainOf_34 : decode cX6_gainOf 34 = .ok (.iconst 4, 1) := by decide +kernel
theorem dX6_gainOf_35 : decode cX6_gainOf 35 = .ok (.iaload, 1) := by decide +kernel
theorem dX6_gainOf_36 : decode cX6_gainOf 36 = .ok (.iconst 1, 1) := by decide +kernel
theorem dX6_gainOf_37 : decode cX6_gainOf 37 = .ok (.iadd, 1) := by decide +kernel
theorem dX6_gainOf_38 : decode cX6_gainOf 38 = .ok (.imul, 1) := by decide +kernel
theorem dX6_gainOf_39 : decode cX6_gainOf 39 = .ok (.goto 4, 3) := by decide +kernel
theorem dX6_gainOf_42 : decode cX6_gainOf 42 = .ok (.iconst 0, 1) := by decide +kernel
theorem dX6_gainOf_43 : decode cX6_gainOf 43 = .ok (.istore_n 3, 1) := by decide +kernel
theorem dX6_gainOf_44 : decode cX6_gainOf 44 = .ok (.iload_n 3, 1) := by decide +kernel
theorem dX6_gainOf_45 : decode cX6_gainOf 45 = .ok (.aload_n 0, 1) := by decide +kernel
theorem dX6_gainOf_46 : decode cX6_gainOf 46 = .ok (.getfield 22, 3) := by decide +kernel
theorem dX6_gainOf_49 : decode cX6_gainOf 49 = .ok (.iload_n 2, 1) := by decide +kernel
theorem dX6_gainOf_50 : decode cX6_gainOf 50 = .ok (.iaload, 1) := by decide +kernel
theorem dX6_gainOf_51 : decode cX6_gainOf 51 = .ok (.isub, 1) := by decide +kernel
theorem dX6_gainOf_52 : decode cX6_gainOf 52 = .ok (.ireturn, 1) := by decide +kernel
set_option maxRecDepth 20000 in
theorem ggX6_bestFor_X6_gainOf : GoodIn wsX6_bestFor wsX6_gainOf := goodIn_r _ [6, 7, 8, 9, 1, 10, 11, 12, 13, 5, 14, 15, 16, 17, 18, 19, 20, 21, 22, 23, 24, 25, 26, 27, 28, 29, 30, 31, 32, 33] (by decide +kernel) (by decide +kernel)
set_option maxRecDepth 20000 in
theorem gX6_bestFor_X6_gainOf : GoodIn wsX6_bestFor (wsV RX6 100 RX6 yX6_gainOf wsX6_gainOf) := goodIn_app (goodIn_of _ (by decide +kernel)) ggX6_bestFor_X6_gainOf
theorem dX6_bestFor_0 : decode cX6_bestFor 0 = .ok (.bipush (-6), 2) := by decide +kernel
theorem dX6_bestFor_2 : decode cX6_bestFor 2 = .ok (.istore_n 3, 1) := by decide +kernel
theorem dX6_bestFor_3 : decode cX6_bestFor 3 = .ok (.iconst 0, 1) := by decide +kernel
theorem dX6_bestFor_4 : decode cX6_bestFor 4 = .ok (.istore 4, 2) := by decide +kernel
theorem dX6_bestFor_6 : decode cX6_bestFor 6 = .ok (.iload 4, 2) := by decide +kernel
theorem dX6_bestFor_8 : decode cX6_bestFor 8 = .ok (.aload_n 0, 1) := by decide +kernel
theorem dX6_bestFor_9 : decode cX6_bestFor 9 = .ok (.getfield 7, 3) := by decide +kernel
theorem dX6_bestFor_12 : decode cX6_bestFor 12 = .ok (.iconst 4, 1) := by decide +kernel
theorem dX6_bestFor_13 : decode cX6_bestFor 13 = .ok (.iaload, 1) := by decide +kernel
theorem dX6_bestFor_14 : decode cX6_bestFor 14 = .ok (.if_icmp .ge 38, 3) := by decide +kernel
theorem dX6_bestFor_17 : decode cX6_bestFor 17 = .ok (.iload 4, 2) := by decide +kernel
theorem dX6_bestFor_19 : decode cX6_bestFor 19 = .ok (.iload_n 2, 1) := by decide +kernel
theorem dX6_bestFor_20 : decode cX6_bestFor 20 = .ok (.if_icmp .eq 26, 3) := by decide +kernel
theorem dX6_bestFor_23 : decode cX6_bestFor 23 = .ok (.iload_n 3, 1) := by decide +kernel
theorem dX6_bestFor_24 : decode cX6_bestFor 24 = .ok (.ifCond .lt 19, 3) := by decide +kernel
theorem dX6_bestFor_27 : decode cX6_bestFor 27 = .ok (.aload_n 0, 1) := by decide +kernel
theorem dX6_bestFor_28 : decode cX6_bestFor 28 = .ok (.iload_n 1, 1) := by decide +kernel
theorem dX6_bestFor_29 : decode cX6_bestFor 29 = .ok (.iload 4, 2) := by decide +kernel
theorem dX6_bestFor_31 : decode cX6_bestFor 31 = .ok (.invokevirtual 100, 3) := by decide +kernel
theorem dX6_bestFor_34 : decode cX6_bestFor 34 = .ok (.aload_n 0, 1) := by decide +kernel
theorem dX6_bestFor_35 : decode cX6_bestFor 35 = .ok (.iload_n 1, 1) := by decide +kernel
theorem dX6_bestFor_36 : decode cX6_bestFor 36 = .ok (.iload_n 3, 1) := by decide +kernel
theorem dX6_bestFor_37 : decode cX6_bestFor 37 = .ok (.invokevirtual 100, 3) := by decide +kernel
theorem dX6_bestFor_40 : decode cX6_bestFor 40 = .ok (.if_icmp .le 6, 3) := by decide +kernel
theorem dX6_bestFor_43 : decode cX6_bestFor 43 = .ok (.iload 4, 2) := by decide +kernel
theorem dX6_bestFor_45 : decode cX6_bestFor 45 = .ok (.istore_n 3, 1) := by decide +kernel
theorem dX6_bestFor_46 : decode cX6_bestFor 46 = .ok (.iinc 4 1, 3) := by decide +kernel
theorem dX6_bestFor_49 : decode cX6_bestFor 49 = .ok (.goto (-43), 3) := by decide +kernel
theorem dX6_bestFor_52 : decode cX6_bestFor 52 = .ok (.iload_n 3, 1) := by decide +kernel
theorem dX6_bestFor_53 : decode cX6_bestFor 53 = .ok (.ireturn, 1) := by decide +kernel
set_option maxRecDepth 20000 in
theorem ggX6_bid_X6_bestFor : GoodIn wsX6_bid wsX6_bestFor := goodIn_r _ [8, 9, 10, 11, 12, 7, 13, 14, 15, 16, 1, 17, 18, 19, 20, 21, 22, 23, 24, 25, 26, 27, 28, 29, 30, 31, 32, 33, 34, 35, 36, 37, 38, 39] (by decide +kernel) (by decide +kernel)
set_option maxRecDepth 20000 in
theorem gX6_bid_X6_bestFor : GoodIn wsX6_bid (wsV RX6 103 RX6 yX6_bestFor wsX6_bestFor) := goodIn_app (goodIn_of _ (by decide +kernel)) ggX6_bid_X6_bestFor
set_option maxRecDepth 20000 in
theorem ggX6_bid_X6_gainOf : GoodIn wsX6_bid wsX6_gainOf := goodIn_r _ [13, 14, 15, 16, 9, 1, 17, 18, 19, 7, 20, 21, 22, 23, 24, 25, 26, 27, 28, 29, 30, 31, 32, 33, 34, 35, 36, 37, 38, 39] (by decide +kernel) (by decide +kernel)
set_option maxRecDepth 20000 in
theorem gX6_bid_X6_gainOf : GoodIn wsX6_bid (wsV RX6 100 RX6 yX6_gainOf wsX6_gainOf) := goodIn_app (goodIn_of _ (by decide +kernel)) ggX6_bid_X6_gainOf
theorem dX6_bid_0 : decode cX6_bid 0 = .ok (.aload_n 0, 1) := by decide +kernel
theorem dX6_bid_1 : decode cX6_bid 1 = .ok (.iload_n 1, 1) := by decide +kernel
theorem dX6_bid_2 : decode cX6_bid 2 = .ok (.bipush (-6), 2) := by decide +kernel
theorem dX6_bid_4 : decode cX6_bid 4 = .ok (.invokevirtual 103, 3) := by decide +kernel
theorem dX6_bid_7 : decode cX6_bid 7 = .ok (.istore_n 3, 1) := by decide +kernel
theorem dX6_bid_8 : decode cX6_bid 8 = .ok (.aload_n 0, 1) := by decide +kernel
theorem dX6_bid_9 : decode cX6_bid 9 = .ok (.iload_n 1, 1) := by decide +kernel
theorem dX6_bid_10 : decode cX6_bid 10 = .ok (.iload_n 3, 1) := by decide +kernel
theorem dX6_bid_11 : decode cX6_bid 11 = .ok (.invokevirtual 103, 3) := by decide +kernel
theorem dX6_bid_14 : decode cX6_bid 14 = .ok (.istore 4, 2) := by decide +kernel
theorem dX6_bid_16 : decode cX6_bid 16 = .ok (.iload 4, 2) := by decide +kernel
theorem dX6_bid_18 : decode cX6_bid 18 = .ok (.ifCond .ge 7, 3) := by decide +kernel
theorem dX6_bid_21 : decode cX6_bid 21 = .ok (.iconst 0, 1) := by decide +kernel
theorem dX6_bid_22 : decode cX6_bid 22 = .ok (.goto 17, 3) := by decide +kernel
theorem dX6_bid_25 : decode cX6_bid 25 = .ok (.aload_n 0, 1) := by decide +kernel
theorem dX6_bid_26 : decode cX6_bid 26 = .ok (.iload_n 1, 1) := by decide +kernel
theorem dX6_bid_27 : decode cX6_bid 27 = .ok (.iload_n 3, 1) := by decide +kernel
theorem dX6_bid_28 : decode cX6_bid 28 = .ok (.invokevirtual 100, 3) := by decide +kernel
theorem dX6_bid_31 : decode cX6_bid 31 = .ok (.aload_n 0, 1) := by decide +kernel
theorem dX6_bid_32 : decode cX6_bid 32 = .ok (.iload_n 1, 1) := by decide +kernel
theorem dX6_bid_33 : decode cX6_bid 33 = .ok (.iload 4, 2) := by decide +kernel
theorem dX6_bid_35 : decode cX6_bid 35 = .ok (.invokevirtual 100, 3) := by decide +kernel
theorem dX6_bid_38 : decode cX6_bid 38 = .ok (.isub, 1) := by decide +kernel
theorem dX6_bid_39 : decode cX6_bid 39 = .ok (.istore 5, 2) := by decide +kernel
theorem dX6_bid_41 : decode cX6_bid 41 = .ok (.aload_n 0, 1) := by decide +kernel
theorem dX6_bid_42 : decode cX6_bid 42 = .ok (.getfield 22, 3) := by decide +kernel
theorem dX6_bid_45 : decode cX6_bid 45 = .ok (.iload_n 3, 1) := by decide +kernel
theorem dX6_bid_46 : decode cX6_bid 46 = .ok (.dup2, 1) := by decide +kernel
theorem dX6_bid_47 : decode cX6_bid 47 = .ok (.iaload, 1) := by decide +kernel
theorem dX6_bid_48 : decode cX6_bid 48 = .ok (.iload 5, 2) := by decide +kernel
theorem dX6_bid_50 : decode cX6_bid 50 = .ok (.iload_n 2, 1) := by decide +kernel
theorem dX6_bid_51 : decode cX6_bid 51 = .ok (.iadd, 1) := by decide +kernel
theorem dX6_bid_52 : decode cX6_bid 52 = .ok (.iadd, 1) := by decide +kernel
theorem dX6_bid_53 : decode cX6_bid 53 = .ok (.iastore, 1) := by decide +kernel
theorem dX6_bid_54 : decode cX6_bid 54 = .ok (.aload_n 0, 1) := by decide +kernel
theorem dX6_bid_55 : decode cX6_bid 55 = .ok (.getfield 28, 3) := by decide +kernel
theorem dX6_bid_58 : decode cX6_bid 58 = .ok (.iload_n 3, 1) := by decide +kernel
theorem dX6_bid_59 : decode cX6_bid 59 = .ok (.iaload, 1) := by decide +kernel
theorem dX6_bid_60 : decode cX6_bid 60 = .ok (.ifCond .lt 16, 3) := by decide +kernel
theorem dX6_bid_63 : decode cX6_bid 63 = .ok (.aload_n 0, 1) := by decide +kernel
theorem dX6_bid_64 : decode cX6_bid 64 = .ok (.getfield 31, 3) := by decide +kernel
theorem dX6_bid_67 : decode cX6_bid 67 = .ok (.aload_n 0, 1) := by decide +kernel
theorem dX6_bid_68 : decode cX6_bid 68 = .ok (.getfield 28, 3) := by decide +kernel
theorem dX6_bid_71 : decode cX6_bid 71 = .ok (.iload_n 3, 1) := by decide +kernel
theorem dX6_bid_72 : decode cX6_bid 72 = .ok (.iaload, 1) := by decide +kernel
theorem dX6_bid_73 : decode cX6_bid 73 = .ok (.bipush (-6), 2) := by decide +kernel
theorem dX6_bid_75 : decode cX6_bid 75 = .ok (.iastore, 1) := by decide +kernel
theorem dX6_bid_76 : decode cX6_bid 76 = .ok (.aload_n 0, 1) := by decide +kernel
theorem dX6_bid_77 : decode cX6_bid 77 = .ok (.getfield 28, 3) := by decide +kernel
theorem dX6_bid_80 : decode cX6_bid 80 = .ok (.iload_n 3, 1) := by decide +kernel
theorem dX6_bid_81 : decode cX6_bid 81 = .ok (.iload_n 1, 1) := by decide +kernel
theorem dX6_bid_82 : decode cX6_bid 82 = .ok (.iastore, 1) := by decide +kernel
theorem dX6_bid_83 : decode cX6_bid 83 = .ok (.aload_n 0, 1) := by decide +kernel
theorem dX6_bid_84 : decode cX6_bid 84 = .ok (.getfield 31, 3) := by decide +kernel
theorem dX6_bid_87 : decode cX6_bid 87 = .ok (.iload_n 1, 1) := by decide +kernel
theorem dX6_bid_88 : decode cX6_bid 88 = .ok (.iload_n 3, 1) := by decide +kernel
theorem dX6_bid_89 : decode cX6_bid 89 = .ok (.iastore, 1) := by decide +kernel
theorem dX6_bid_90 : decode cX6_bid 90 = .ok (.return_, 1) := by decide +kernel
theorem dX6_firstFree_0 : decode cX6_firstFree 0 = .ok (.iconst 0, 1) := by decide +kernel
theorem dX6_firstFree_1 : decode cX6_firstFree 1 = .ok (.istore_n 1, 1) := by decide +kernel
theorem dX6_firstFree_2 : decode cX6_firstFree 2 = .ok (.iload_n 1, 1) := by decide +kernel
theorem dX6_firstFree_3 : decode cX6_firstFree 3 = .ok (.aload_n 0, 1) := by decide +kernel
theorem dX6_firstFree_4 : decode cX6_firstFree 4 = .ok (.getfield 7, 3) := by decide +kernel
theorem dX6_firstFree_7 : decode cX6_firstFree 7 = .ok (.iconst 4, 1) := by decide +kernel
theorem dX6_firstFree_8 : decode cX6_firstFree 8 = .ok (.iaload, 1) := by decide +kernel
theorem dX6_firstFree_9 : decode cX6_firstFree 9 = .ok (.if_icmp .ge 20, 3) := by decide +kernel
theorem dX6_firstFree_12 : decode cX6_firstFree 12 = .ok (.aload_n 0, 1) := by decide +kernel
theorem dX6_firstFree_13 : decode cX6_firstFree 13 = .ok (.getfield 31, 3) := by decide +kernel
theorem dX6_firstFree_16 : decode cX6_firstFree 16 = .ok (.iload_n 1, 1) := by decide +kernel
theorem dX6_firstFree_17 : decode cX6_firstFree 17 = .ok (.iaload, 1) := by decide +kernel
theorem dX6_firstFree_18 : decode cX6_firstFree 18 = .ok (.ifCond .ge 5, 3) := by decide +kernel
theorem dX6_firstFree_21 : decode cX6_firstFree 21 = .ok (.iload_n 1, 1) := by decide +kernel
theorem dX6_firstFree_22 : decode cX6_firstFree 22 = .ok (.ireturn, 1) := by decide +kernel
theorem dX6_firstFree_23 : decode cX6_firstFree 23 = .ok (.iinc 1 1, 3) := by decide +kernel
theorem dX6_firstFree_26 : decode cX6_firstFree 26 = .ok (.goto (-24), 3) := by decide +kernel
theorem dX6_firstFree_29 : decode cX6_firstFree 29 = .ok (.bipush (-6), 2) := by decide +kernel
theorem dX6_firstFree_31 : decode cX6_firstFree 31 = .ok (.ireturn, 1) := by decide +kernel
set_option maxRecDepth 20000 in
theorem ggX6_phaseOf_X6_firstFree : GoodIn wsX6_phaseOf wsX6_firstFree := goodIn_r _ [5, 6, 7, 33, 34, 35, 36, 37, 38, 39, 40, 41, 42, 43, 44, 45, 46, 47] (by decide +kernel) (by decide +kernel)
set_option maxRecDepth 20000 in
theorem gX6_phaseOf_X6_firstFree : GoodIn wsX6_phaseOf (wsV RX6 106 RX6 yX6_firstFree wsX6_firstFree) := goodIn_app (goodIn_of _ (by decide +kernel)) ggX6_phaseOf_X6_firstFree
set_option maxRecDepth 20000 in
theorem ggX6_phaseOf_X6_bid : GoodIn wsX6_phaseOf wsX6_bid := goodIn_r _ [11, 12, 13, 7, 14, 15, 16, 4, 17, 6, 18, 19, 20, 21, 22, 23, 24, 25, 26, 27, 28, 29, 30, 31, 32, 33, 34, 35, 36, 37, 38, 39, 40, 41, 42, 43, 44, 45, 46, 47] (by decide +kernel) (by decide +kernel)
set_option maxRecDepth 20000 in
theorem gX6_phaseOf_X6_bid : GoodIn wsX6_phaseOf (wsV RX6 109 RX6 yX6_bid wsX6_bid) := goodIn_app (goodIn_of _ (by decide +kernel)) ggX6_phaseOf_X6_bid
theorem dX6_phaseOf_0 : decode cX6_phaseOf 0 = .ok (.iconst 0, 1) := by decide +kernel
theorem dX6_phaseOf_1 : decode cX6_phaseOf 1 = .ok (.istore_n 2, 1) := by decide +kernel
theorem dX6_phaseOf_2 : decode cX6_phaseOf 2 = .ok (.aload_n 0, 1) := by decide +kernel
theorem dX6_phaseOf_3 : decode cX6_phaseOf 3 = .ok (.invokevirtual 106, 3) := by decide +kernel
theorem dX6_phaseOf_6 : decode cX6_phaseOf 6 = .ok (.istore_n 3, 1) := by decide +kernel
theorem dX6_phaseOf_7 : decode cX6_phaseOf 7 = .ok (.iload_n 3, 1) := by decide +kernel
theorem dX6_phaseOf_8 : decode cX6_phaseOf 8 = .ok (.ifCond .lt 20, 3) := by decide +kernel
theorem dX6_phaseOf_11 : decode cX6_phaseOf 11 = .ok (.aload_n 0, 1) := by decide +kernel
theorem dX6_phaseOf_12 : decode cX6_phaseOf 12 = .ok (.iload_n 3, 1) := by decide +kernel
theorem dX6_phaseOf_13 : decode cX6_phaseOf 13 = .ok (.iload_n 1, 1) := by decide +kernel
theorem dX6_phaseOf_14 : decode cX6_phaseOf 14 = .ok (.invokevirtual 109, 3) := by decide +kernel
theorem dX6_phaseOf_17 : decode cX6_phaseOf 17 = .ok (.iinc 2 1, 3) := by decide +kernel
theorem dX6_phaseOf_20 : decode cX6_phaseOf 20 = .ok (.aload_n 0, 1) := by decide +kernel
theorem dX6_phaseOf_21 : decode cX6_phaseOf 21 = .ok (.invokevirtual 106, 3) := by decide +kernel
theorem dX6_phaseOf_24 : decode cX6_phaseOf 24 = .ok (.istore_n 3, 1) := by decide +kernel
theorem dX6_phaseOf_25 : decode cX6_phaseOf 25 = .ok (.goto (-18), 3) := by decide +kernel
theorem dX6_phaseOf_28 : decode cX6_phaseOf 28 = .ok (.iload_n 2, 1) := by decide +kernel
theorem dX6_phaseOf_29 : decode cX6_phaseOf 29 = .ok (.ireturn, 1) := by decide +kernel
theorem dX6_freeAll_0 : decode cX6_freeAll 0 = .ok (.iconst 0, 1) := by decide +kernel
theorem dX6_freeAll_1 : decode cX6_freeAll 1 = .ok (.istore_n 1, 1) := by decide +kernel
theorem dX6_freeAll_2 : decode cX6_freeAll 2 = .ok (.iload_n 1, 1) := by decide +kernel
theorem dX6_freeAll_3 : decode cX6_freeAll 3 = .ok (.bipush 16, 2) := by decide +kernel
theorem dX6_freeAll_5 : decode cX6_freeAll 5 = .ok (.if_icmp .ge 25, 3) := by decide +kernel
theorem dX6_freeAll_8 : decode cX6_freeAll 8 = .ok (.aload_n 0, 1) := by decide +kernel
theorem dX6_freeAll_9 : decode cX6_freeAll 9 = .ok (.getfield 28, 3) := by decide +kernel
theorem dX6_freeAll_12 : decode cX6_freeAll 12 = .ok (.iload_n 1, 1) := by decide +kernel
theorem dX6_freeAll_13 : decode cX6_freeAll 13 = .ok (.bipush (-6), 2) := by decide +kernel
theorem dX6_freeAll_15 : decode cX6_freeAll 15 = .ok (.iastore, 1) := by decide +kernel
theorem dX6_freeAll_16 : decode cX6_freeAll 16 = .ok (.aload_n 0, 1) := by decide +kernel
theorem dX6_freeAll_17 : decode cX6_freeAll 17 = .ok (.getfield 31, 3) := by decide +kernel
theorem dX6_freeAll_20 : decode cX6_freeAll 20 = .ok (.iload_n 1, 1) := by decide +kernel
theorem dX6_freeAll_21 : decode cX6_freeAll 21 = .ok (.bipush (-6), 2) := by decide +kernel
theorem dX6_freeAll_23 : decode cX6_freeAll 23 = .ok (.iastore, 1) := by decide +kernel
theorem dX6_freeAll_24 : decode cX6_freeAll 24 = .ok (.iinc 1 1, 3) := by decide +kernel
theorem dX6_freeAll_27 : decode cX6_freeAll 27 = .ok (.goto (-25), 3) := by decide +kernel
theorem dX6_freeAll_30 : decode cX6_freeAll 30 = .ok (.return_, 1) := by decide +kernel
set_option maxRecDepth 20000 in
theorem ggX6_sumOf_X6_cells : GoodIn wsX6_sumOf wsX6_cells := goodIn_r _ [9, 10, 15, 16, 17, 18, 19, 20, 21, 22, 23, 24, 25, 26, 27, 28, 29] (by decide +kernel) (by decide +kernel)
set_option maxRecDepth 20000 in
theorem gX6_sumOf_X6_cells : GoodIn wsX6_sumOf (wsV RX6 80 RX6 yX6_cells wsX6_cells) := goodIn_app (goodIn_of _ (by decide +kernel)) ggX6_sumOf_X6_cells
set_option maxRecDepth 20000 in
theorem ggX6_sumOf_X6_differenceOf : GoodIn wsX6_sumOf wsX6_differenceOf := goodIn_r _ [14, 10, 15, 16, 17, 18, 19, 20, 21, 22, 23, 24, 25, 26, 27, 28, 29] (by decide +kernel) (by decide +kernel)
set_option maxRecDepth 20000 in
theorem gX6_sumOf_X6_differenceOf : GoodIn wsX6_sumOf (wsV RX6 96 RX6 yX6_differenceOf wsX6_differenceOf) := goodIn_app (goodIn_of _ (by decide +kernel)) ggX6_sumOf_X6_differenceOf
theorem dX6_sumOf_0 : decode cX6_sumOf 0 = .ok (.iconst 0, 1) := by decide +kernel
theorem dX6_sumOf_1 : decode cX6_sumOf 1 = .ok (.istore_n 1, 1) := by decide +kernel
theorem dX6_sumOf_2 : decode cX6_sumOf 2 = .ok (.iconst 0, 1) := by decide +kernel
theorem dX6_sumOf_3 : decode cX6_sumOf 3 = .ok (.istore_n 2, 1) := by decide +kernel
theorem dX6_sumOf_4 : decode cX6_sumOf 4 = .ok (.iload_n 2, 1) := by decide +kernel
theorem dX6_sumOf_5 : decode cX6_sumOf 5 = .ok (.aload_n 0, 1) := by decide +kernel
theorem dX6_sumOf_6 : decode cX6_sumOf 6 = .ok (.invokevirtual 80, 3) := by decide +kernel
theorem dX6_sumOf_9 : decode cX6_sumOf 9 = .ok (.if_icmp .ge 38, 3) := by decide +kernel
theorem dX6_sumOf_12 : decode cX6_sumOf 12 = .ok (.iload_n 1, 1) := by decide +kernel
theorem dX6_sumOf_13 : decode cX6_sumOf 13 = .ok (.aload_n 0, 1) := by decide +kernel
theorem dX6_sumOf_14 : decode cX6_sumOf 14 = .ok (.aload_n 0, 1) := by decide +kernel
theorem dX6_sumOf_15 : decode cX6_sumOf 15 = .ok (.getfield 19, 3) := by decide +kernel
theorem dX6_sumOf_18 : decode cX6_sumOf 18 = .ok (.iload_n 2, 1) := by decide +kernel
theorem dX6_sumOf_19 : decode cX6_sumOf 19 = .ok (.iaload, 1) := by decide +kernel
theorem dX6_sumOf_20 : decode cX6_sumOf 20 = .ok (.aload_n 0, 1) := by decide +kernel
theorem dX6_sumOf_21 : decode cX6_sumOf 21 = .ok (.getfield 13, 3) := by decide +kernel
theorem dX6_sumOf_24 : decode cX6_sumOf 24 = .ok (.aload_n 0, 1) := by decide +kernel
theorem dX6_sumOf_25 : decode cX6_sumOf 25 = .ok (.getfield 25, 3) := by decide +kernel
theorem dX6_sumOf_28 : decode cX6_sumOf 28 = .ok (.aload_n 0, 1) := by decide +kernel
theorem dX6_sumOf_29 : decode cX6_sumOf 29 = .ok (.getfield 31, 3) := by decide +kernel
theorem dX6_sumOf_32 : decode cX6_sumOf 32 = .ok (.iload_n 2, 1) := by decide +kernel
theorem dX6_sumOf_33 : decode cX6_sumOf 33 = .ok (.iaload, 1) := by decide +kernel
theorem dX6_sumOf_34 : decode cX6_sumOf 34 = .ok (.iaload, 1) := by decide +kernel
theorem dX6_sumOf_35 : decode cX6_sumOf 35 = .ok (.iaload, 1) := by decide +kernel
theorem dX6_sumOf_36 : decode cX6_sumOf 36 = .ok (.invokevirtual 96, 3) := by decide +kernel
theorem dX6_sumOf_39 : decode cX6_sumOf 39 = .ok (.iadd, 1) := by decide +kernel
theorem dX6_sumOf_40 : decode cX6_sumOf 40 = .ok (.istore_n 1, 1) := by decide +kernel
theorem dX6_sumOf_41 : decode cX6_sumOf 41 = .ok (.iinc 2 1, 3) := by decide +kernel
theorem dX6_sumOf_44 : decode cX6_sumOf 44 = .ok (.goto (-40), 3) := by decide +kernel
theorem dX6_sumOf_47 : decode cX6_sumOf 47 = .ok (.iload_n 1, 1) := by decide +kernel
theorem dX6_sumOf_48 : decode cX6_sumOf 48 = .ok (.ireturn, 1) := by decide +kernel
set_option maxRecDepth 20000 in
theorem ggX6_greatest_X6_cells : GoodIn wsX6_greatest wsX6_cells := goodIn_r _ [7, 8, 17, 18, 19, 20, 21, 22, 23, 24, 25, 26, 27, 28, 29, 30, 31] (by decide +kernel) (by decide +kernel)
set_option maxRecDepth 20000 in
theorem gX6_greatest_X6_cells : GoodIn wsX6_greatest (wsV RX6 80 RX6 yX6_cells wsX6_cells) := goodIn_app (goodIn_of _ (by decide +kernel)) ggX6_greatest_X6_cells
set_option maxRecDepth 20000 in
theorem ggX6_greatest_X6_kinds : GoodIn wsX6_greatest wsX6_kinds := goodIn_r _ [12, 8, 17, 18, 19, 20, 21, 22, 23, 24, 25, 26, 27, 28, 29, 30, 31] (by decide +kernel) (by decide +kernel)
set_option maxRecDepth 20000 in
theorem gX6_greatest_X6_kinds : GoodIn wsX6_greatest (wsV RX6 63 RX6 yX6_kinds wsX6_kinds) := goodIn_app (goodIn_of _ (by decide +kernel)) ggX6_greatest_X6_kinds
set_option maxRecDepth 20000 in
theorem ggX6_greatest_X6_differenceOf : GoodIn wsX6_greatest wsX6_differenceOf := goodIn_r _ [16, 8, 17, 18, 19, 20, 21, 22, 23, 24, 25, 26, 27, 28, 29, 30, 31] (by decide +kernel) (by decide +kernel)
set_option maxRecDepth 20000 in
theorem gX6_greatest_X6_differenceOf : GoodIn wsX6_greatest (wsV RX6 96 RX6 yX6_differenceOf wsX6_differenceOf) := goodIn_app (goodIn_of _ (by decide +kernel)) ggX6_greatest_X6_differenceOf
theorem dX6_greatest_0 : decode cX6_greatest 0 = .ok (.iconst 0, 1) := by decide +kernel
theorem dX6_greatest_1 : decode cX6_greatest 1 = .ok (.istore_n 1, 1) := by decide +kernel
theorem dX6_greatest_2 : decode cX6_greatest 2 = .ok (.iconst 0, 1) := by decide +kernel
theorem dX6_greatest_3 : decode cX6_greatest 3 = .ok (.istore_n 2, 1) := by decide +kernel
theorem dX6_greatest_4 : decode cX6_greatest 4 = .ok (.iload_n 2, 1) := by decide +kernel
theorem dX6_greatest_5 : decode cX6_greatest 5 = .ok (.aload_n 0, 1) := by decide +kernel
theorem dX6_greatest_6 : decode cX6_greatest 6 = .ok (.invokevirtual 80, 3) := by decide +kernel
theorem dX6_greatest_9 : decode cX6_greatest 9 = .ok (.if_icmp .ge 56, 3) := by decide +kernel
theorem dX6_greatest_12 : decode cX6_greatest 12 = .ok (.iconst 0, 1) := by decide +kernel
theorem dX6_greatest_13 : decode cX6_greatest 13 = .ok (.istore_n 3, 1) := by decide +kernel
theorem dX6_greatest_14 : decode cX6_greatest 14 = .ok (.iload_n 3, 1) := by decide +kernel
theorem dX6_greatest_15 : decode cX6_greatest 15 = .ok (.aload_n 0, 1) := by decide +kernel
theorem dX6_greatest_16 : decode cX6_greatest 16 = .ok (.invokevirtual 63, 3) := by decide +kernel
theorem dX6_greatest_19 : decode cX6_greatest 19 = .ok (.if_icmp .ge 40, 3) := by decide +kernel
theorem dX6_greatest_22 : decode cX6_greatest 22 = .ok (.aload_n 0, 1) := by decide +kernel
theorem dX6_greatest_23 : decode cX6_greatest 23 = .ok (.aload_n 0, 1) := by decide +kernel
theorem dX6_greatest_24 : decode cX6_greatest 24 = .ok (.getfield 19, 3) := by decide +kernel
theorem dX6_greatest_27 : decode cX6_greatest 27 = .ok (.iload_n 2, 1) := by decide +kernel
theorem dX6_greatest_28 : decode cX6_greatest 28 = .ok (.iaload, 1) := by decide +kernel
theorem dX6_greatest_29 : decode cX6_greatest 29 = .ok (.aload_n 0, 1) := by decide +kernel
theorem dX6_greatest_30 : decode cX6_greatest 30 = .ok (.getfield 13, 3) := by decide +kernel
theorem dX6_greatest_33 : decode cX6_greatest 33 = .ok (.iload_n 3, 1) := by decide +kernel
theorem dX6_greatest_34 : decode cX6_greatest 34 = .ok (.iaload, 1) := by decide +kernel
theorem dX6_greatest_35 : decode cX6_greatest 35 = .ok (.invokevirtual 96, 3) := by decide +kernel
theorem dX6_greatest_38 : decode cX6_greatest 38 = .ok (.istore 4, 2) := by decide +kernel
theorem dX6_greatest_40 : decode cX6_greatest 40 = .ok (.iload 4, 2) := by decide +kernel
theorem dX6_greatest_42 : decode cX6_greatest 42 = .ok (.iload_n 1, 1) := by decide +kernel
theorem dX6_greatest_43 : decode cX6_greatest 43 = .ok (.if_icmp .le 8, 3) := by decide +kernel
theorem dX6_greatest_46 : decode cX6_greatest 46 = .ok (.iload 4, 2) := by decide +kernel
theorem dX6_greatest_48 : decode cX6_greatest 48 = .ok (.goto 4, 3) := by decide +kernel
theorem dX6_greatest_51 : decode cX6_greatest 51 = .ok (.iload_n 1, 1) := by decide +kernel
theorem dX6_greatest_52 : decode cX6_greatest 52 = .ok (.istore_n 1, 1) := by decide +kernel
theorem dX6_greatest_53 : decode cX6_greatest 53 = .ok (.iinc 3 1, 3) := by decide +kernel
theorem dX6_greatest_56 : decode cX6_greatest 56 = .ok (.goto (-42), 3) := by decide +kernel
theorem dX6_greatest_59 : decode cX6_greatest 59 = .ok (.iinc 2 1, 3) := by decide +kernel
theorem dX6_greatest_62 : decode cX6_greatest 62 = .ok (.goto (-58), 3) := by decide +kernel
theorem dX6_greatest_65 : decode cX6_greatest 65 = .ok (.iload_n 1, 1) := by decide +kernel
theorem dX6_greatest_66 : decode cX6_greatest 66 = .ok (.ireturn, 1) := by decide +kernel
theorem dX6_oneAtLeast_0 : decode cX6_oneAtLeast 0 = .ok (.iload_n 0, 1) := by decide +kernel
theorem dX6_oneAtLeast_1 : decode cX6_oneAtLeast 1 = .ok (.iconst 1, 1) := by decide +kernel
theorem dX6_oneAtLeast_2 : decode cX6_oneAtLeast 2 = .ok (.if_icmp .ge 7, 3) := by decide +kernel
theorem dX6_oneAtLeast_5 : decode cX6_oneAtLeast 5 = .ok (.iconst 1, 1) := by decide +kernel
theorem dX6_oneAtLeast_6 : decode cX6_oneAtLeast 6 = .ok (.goto 4, 3) := by decide +kernel
theorem dX6_oneAtLeast_9 : decode cX6_oneAtLeast 9 = .ok (.iload_n 0, 1) := by decide +kernel
theorem dX6_oneAtLeast_10 : decode cX6_oneAtLeast 10 = .ok (.ireturn, 1) := by decide +kernel
set_option maxRecDepth 20000 in
theorem ggX6_laySlots_X6_kinds : GoodIn wsX6_laySlots wsX6_kinds := goodIn_r _ [9, 3, 10, 11, 12, 13, 14, 15, 16, 17, 18, 19, 20, 21, 22, 23, 24] (by decide +kernel) (by decide +kernel)
set_option maxRecDepth 20000 in
theorem gX6_laySlots_X6_kinds : GoodIn wsX6_laySlots (wsV RX6 63 RX6 yX6_kinds wsX6_kinds) := goodIn_app (goodIn_of _ (by decide +kernel)) ggX6_laySlots_X6_kinds
theorem dX6_laySlots_0 : decode cX6_laySlots 0 = .ok (.iconst 0, 1) := by decide +kernel
theorem dX6_laySlots_1 : decode cX6_laySlots 1 = .ok (.istore_n 1, 1) := by decide +kernel
theorem dX6_laySlots_2 : decode cX6_laySlots 2 = .ok (.iconst 0, 1) := by decide +kernel
theorem dX6_laySlots_3 : decode cX6_laySlots 3 = .ok (.istore_n 2, 1) := by decide +kernel
theorem dX6_laySlots_4 : decode cX6_laySlots 4 = .ok (.iload_n 2, 1) := by decide +kernel
theorem dX6_laySlots_5 : decode cX6_laySlots 5 = .ok (.aload_n 0, 1) := by decide +kernel
theorem dX6_laySlots_6 : decode cX6_laySlots 6 = .ok (.invokevirtual 63, 3) := by decide +kernel
theorem dX6_laySlots_9 : decode cX6_laySlots 9 = .ok (.if_icmp .ge 37, 3) := by decide +kernel
theorem dX6_laySlots_12 : decode cX6_laySlots 12 = .ok (.iconst 0, 1) := by decide +kernel
theorem dX6_laySlots_13 : decode cX6_laySlots 13 = .ok (.istore_n 3, 1) := by decide +kernel
theorem dX6_laySlots_14 : decode cX6_laySlots 14 = .ok (.iload_n 3, 1) := by decide +kernel
theorem dX6_laySlots_15 : decode cX6_laySlots 15 = .ok (.aload_n 0, 1) := by decide +kernel
theorem dX6_laySlots_16 : decode cX6_laySlots 16 = .ok (.getfield 16, 3) := by decide +kernel
theorem dX6_laySlots_19 : decode cX6_laySlots 19 = .ok (.iload_n 2, 1) := by decide +kernel
theorem dX6_laySlots_20 : decode cX6_laySlots 20 = .ok (.iaload, 1) := by decide +kernel
theorem dX6_laySlots_21 : decode cX6_laySlots 21 = .ok (.if_icmp .ge 19, 3) := by decide +kernel
theorem dX6_laySlots_24 : decode cX6_laySlots 24 = .ok (.aload_n 0, 1) := by decide +kernel
theorem dX6_laySlots_25 : decode cX6_laySlots 25 = .ok (.getfield 25, 3) := by decide +kernel
theorem dX6_laySlots_28 : decode cX6_laySlots 28 = .ok (.iload_n 1, 1) := by decide +kernel
theorem dX6_laySlots_29 : decode cX6_laySlots 29 = .ok (.iload_n 2, 1) := by decide +kernel
theorem dX6_laySlots_30 : decode cX6_laySlots 30 = .ok (.iastore, 1) := by decide +kernel
theorem dX6_laySlots_31 : decode cX6_laySlots 31 = .ok (.iinc 1 1, 3) := by decide +kernel
theorem dX6_laySlots_34 : decode cX6_laySlots 34 = .ok (.iinc 3 1, 3) := by decide +kernel
theorem dX6_laySlots_37 : decode cX6_laySlots 37 = .ok (.goto (-23), 3) := by decide +kernel
theorem dX6_laySlots_40 : decode cX6_laySlots 40 = .ok (.iinc 2 1, 3) := by decide +kernel
theorem dX6_laySlots_43 : decode cX6_laySlots 43 = .ok (.goto (-39), 3) := by decide +kernel
theorem dX6_laySlots_46 : decode cX6_laySlots 46 = .ok (.aload_n 0, 1) := by decide +kernel
theorem dX6_laySlots_47 : decode cX6_laySlots 47 = .ok (.getfield 7, 3) := by decide +kernel
theorem dX6_laySlots_50 : decode cX6_laySlots 50 = .ok (.iconst 4, 1) := by decide +kernel
theorem dX6_laySlots_51 : decode cX6_laySlots 51 = .ok (.iload_n 1, 1) := by decide +kernel
theorem dX6_laySlots_52 : decode cX6_laySlots 52 = .ok (.iastore, 1) := by decide +kernel
theorem dX6_laySlots_53 : decode cX6_laySlots 53 = .ok (.iconst 0, 1) := by decide +kernel
theorem dX6_laySlots_54 : decode cX6_laySlots 54 = .ok (.istore_n 2, 1) := by decide +kernel
theorem dX6_laySlots_55 : decode cX6_laySlots 55 = .ok (.iload_n 2, 1) := by decide +kernel
theorem dX6_laySlots_56 : decode cX6_laySlots 56 = .ok (.bipush 16, 2) := by decide +kernel
theorem dX6_laySlots_58 : decode cX6_laySlots 58 = .ok (.if_icmp .ge 16, 3) := by decide +kernel
theorem dX6_laySlots_61 : decode cX6_laySlots 61 = .ok (.aload_n 0, 1) := by decide +kernel
theorem dX6_laySlots_62 : decode cX6_laySlots 62 = .ok (.getfield 22, 3) := by decide +kernel
theorem dX6_laySlots_65 : decode cX6_laySlots 65 = .ok (.iload_n 2, 1) := by decide +kernel
theorem dX6_laySlots_66 : decode cX6_laySlots 66 = .ok (.iconst 0, 1) := by decide +kernel
theorem dX6_laySlots_67 : decode cX6_laySlots 67 = .ok (.iastore, 1) := by decide +kernel
theorem dX6_laySlots_68 : decode cX6_laySlots 68 = .ok (.iinc 2 1, 3) := by decide +kernel
theorem dX6_laySlots_71 : decode cX6_laySlots 71 = .ok (.goto (-16), 3) := by decide +kernel
theorem dX6_laySlots_74 : decode cX6_laySlots 74 = .ok (.return_, 1) := by decide +kernel
set_option maxRecDepth 20000 in
theorem ggX6_auction_X6_stocks : GoodIn wsX6_auction wsX6_stocks := goodIn_r _ [9, 10, 11, 12, 13, 8, 14, 1, 68, 69, 70, 71, 72, 73, 74, 75, 76, 77, 78, 79, 80, 81, 82] (by decide +kernel) (by decide +kernel)
set_option maxRecDepth 20000 in
theorem gX6_auction_X6_stocks : GoodIn wsX6_auction (wsV RX6 77 RX6 yX6_stocks wsX6_stocks) := goodIn_app (goodIn_of _ (by decide +kernel)) ggX6_auction_X6_stocks
set_option maxRecDepth 20000 in
theorem ggX6_auction_X6_cells : GoodIn wsX6_auction wsX6_cells := goodIn_r _ [18, 1, 68, 69, 70, 71, 72, 73, 74, 75, 76, 77, 78, 79, 80, 81, 82] (by decide +kernel) (by decide +kernel)
set_option maxRecDepth 20000 in
theorem gX6_auction_X6_cells : GoodIn wsX6_auction (wsV RX6 80 RX6 yX6_cells wsX6_cells) := goodIn_app (goodIn_of _ (by decide +kernel)) ggX6_auction_X6_cells
set_option maxRecDepth 20000 in
theorem ggX6_auction_X6_laySlots : GoodIn wsX6_auction wsX6_laySlots := goodIn_r _ [22, 10, 23, 1, 24, 11, 12, 13, 8, 14, 68, 69, 70, 71, 72, 73, 74, 75, 76, 77, 78, 79, 80, 81, 82] (by decide +kernel) (by decide +kernel)
set_option maxRecDepth 20000 in
theorem gX6_auction_X6_laySlots : GoodIn wsX6_auction (wsV RX6 113 RX6 yX6_laySlots wsX6_laySlots) := goodIn_app (goodIn_of _ (by decide +kernel)) ggX6_auction_X6_laySlots
set_option maxRecDepth 20000 in
theorem ggX6_auction_X6_greatest : GoodIn wsX6_auction wsX6_greatest := goodIn_r _ [28, 29, 30, 15, 16, 17, 8, 18, 1, 11, 12, 13, 14, 31, 32, 33, 34, 68, 69, 70, 71, 72, 73, 74, 75, 76, 77, 78, 79, 80, 81, 82] (by decide +kernel) (by decide +kernel)
set_option maxRecDepth 20000 in
theorem gX6_auction_X6_greatest : GoodIn wsX6_auction (wsV RX6 116 RX6 yX6_greatest wsX6_greatest) := goodIn_app (goodIn_of _ (by decide +kernel)) ggX6_auction_X6_greatest
set_option maxRecDepth 20000 in
theorem ggX6_auction_X6_oneAtLeast : GoodIn wsX6_auction wsX6_oneAtLeast := goodIn_r _ [37] (by decide +kernel) (by decide +kernel)
set_option maxRecDepth 20000 in
theorem gX6_auction_X6_oneAtLeast : GoodIn wsX6_auction (va_wsS RX6 119 yX6_oneAtLeast wsX6_oneAtLeast) := goodIn_app (goodIn_of _ (by decide +kernel)) ggX6_auction_X6_oneAtLeast
set_option maxRecDepth 20000 in
theorem ggX6_auction_X6_freeAll : GoodIn wsX6_auction wsX6_freeAll := goodIn_r _ [41, 42, 43, 68, 69, 70, 71, 72, 73, 74, 75, 76, 77, 78, 79, 80, 81, 82] (by decide +kernel) (by decide +kernel)
set_option maxRecDepth 20000 in
theorem gX6_auction_X6_freeAll : GoodIn wsX6_auction (wsV RX6 122 RX6 yX6_freeAll wsX6_freeAll) := goodIn_app (goodIn_of _ (by decide +kernel)) ggX6_auction_X6_freeAll
set_option maxRecDepth 20000 in
theorem ggX6_auction_X6_phaseOf : GoodIn wsX6_auction wsX6_phaseOf := goodIn_r _ [47, 48, 49, 50, 8, 51, 1, 43, 52, 53, 54, 55, 24, 42, 56, 57, 58, 59, 60, 61, 62, 63, 29, 30, 23, 15, 16, 17, 18, 31, 32, 33, 34, 68, 69, 70, 71, 72, 73, 74, 75, 76, 77, 78, 79, 80, 81, 82] (by decide +kernel) (by decide +kernel)
set_option maxRecDepth 20000 in
theorem gX6_auction_X6_phaseOf : GoodIn wsX6_auction (wsV RX6 125 RX6 yX6_phaseOf wsX6_phaseOf) := goodIn_app (goodIn_of _ (by decide +kernel)) ggX6_auction_X6_phaseOf
set_option maxRecDepth 20000 in
theorem ggX6_auction_X6_sumOf : GoodIn wsX6_auction wsX6_sumOf := goodIn_r _ [67, 29, 30, 23, 43, 15, 16, 17, 8, 18, 1, 31, 32, 33, 34, 68, 69, 70, 71, 72, 73, 74, 75, 76, 77, 78, 79, 80, 81, 82] (by decide +kernel) (by decide +kernel)
set_option maxRecDepth 20000 in
theorem gX6_auction_X6_sumOf : GoodIn wsX6_auction (wsV RX6 128 RX6 yX6_sumOf wsX6_sumOf) := goodIn_app (goodIn_of _ (by decide +kernel)) ggX6_auction_X6_sumOf
theorem dX6_auction_0 : decode cX6_auction 0 = .ok (.aload_n 0, 1) := by decide +kernel
theorem dX6_auction_1 : decode cX6_auction 1 = .ok (.invokevirtual 77, 3) := by decide +kernel
theorem dX6_auction_4 : decode cX6_auction 4 = .ok (.ifCond .eq 14, 3) := by decide +kernel
theorem dX6_auction_7 : decode cX6_auction 7 = .ok (.aload_n 0, 1) := by decide +kernel
theorem dX6_auction_8 : decode cX6_auction 8 = .ok (.invokevirtual 77, 3) := by decide +kernel
theorem dX6_auction_11 : decode cX6_auction 11 = .ok (.aload_n 0, 1) := by decide +kernel
theorem dX6_auction_12 : decode cX6_auction 12 = .ok (.invokevirtual 80, 3) := by decide +kernel
theorem dX6_auction_15 : decode cX6_auction 15 = .ok (.if_icmp .ge 6, 3) := by decide +kernel
theorem dX6_auction_18 : decode cX6_auction 18 = .ok (.bipush (-5), 2) := by decide +kernel
theorem dX6_auction_20 : decode cX6_auction 20 = .ok (.ireturn, 1) := by decide +kernel
theorem dX6_auction_21 : decode cX6_auction 21 = .ok (.aload_n 0, 1) := by decide +kernel
theorem dX6_auction_22 : decode cX6_auction 22 = .ok (.invokevirtual 113, 3) := by decide +kernel
theorem dX6_auction_25 : decode cX6_auction 25 = .ok (.aload_n 0, 1) := by decide +kernel
theorem dX6_auction_26 : decode cX6_auction 26 = .ok (.getfield 7, 3) := by decide +kernel
theorem dX6_auction_29 : decode cX6_auction 29 = .ok (.bipush 7, 2) := by decide +kernel
theorem dX6_auction_31 : decode cX6_auction 31 = .ok (.iconst 0, 1) := by decide +kernel
theorem dX6_auction_32 : decode cX6_auction 32 = .ok (.iastore, 1) := by decide +kernel
theorem dX6_auction_33 : decode cX6_auction 33 = .ok (.aload_n 0, 1) := by decide +kernel
theorem dX6_auction_34 : decode cX6_auction 34 = .ok (.getfield 7, 3) := by decide +kernel
theorem dX6_auction_37 : decode cX6_auction 37 = .ok (.bipush 8, 2) := by decide +kernel
theorem dX6_auction_39 : decode cX6_auction 39 = .ok (.iconst 0, 1) := by decide +kernel
theorem dX6_auction_40 : decode cX6_auction 40 = .ok (.iastore, 1) := by decide +kernel
theorem dX6_auction_41 : decode cX6_auction 41 = .ok (.aload_n 0, 1) := by decide +kernel
theorem dX6_auction_42 : decode cX6_auction 42 = .ok (.invokevirtual 116, 3) := by decide +kernel
theorem dX6_auction_45 : decode cX6_auction 45 = .ok (.aload_n 0, 1) := by decide +kernel
theorem dX6_auction_46 : decode cX6_auction 46 = .ok (.getfield 7, 3) := by decide +kernel
theorem dX6_auction_49 : decode cX6_auction 49 = .ok (.iconst 4, 1) := by decide +kernel
theorem dX6_auction_50 : decode cX6_auction 50 = .ok (.iaload, 1) := by decide +kernel
theorem dX6_auction_51 : decode cX6_auction 51 = .ok (.iconst 1, 1) := by decide +kernel
theorem dX6_auction_52 : decode cX6_auction 52 = .ok (.iadd, 1) := by decide +kernel
theorem dX6_auction_53 : decode cX6_auction 53 = .ok (.imul, 1) := by decide +kernel
theorem dX6_auction_54 : decode cX6_auction 54 = .ok (.iconst 4, 1) := by decide +kernel
theorem dX6_auction_55 : decode cX6_auction 55 = .ok (.idiv, 1) := by decide +kernel
theorem dX6_auction_56 : decode cX6_auction 56 = .ok (.invokestatic 119, 3) := by decide +kernel
theorem dX6_auction_59 : decode cX6_auction 59 = .ok (.istore_n 1, 1) := by decide +kernel
theorem dX6_auction_60 : decode cX6_auction 60 = .ok (.iconst 1, 1) := by decide +kernel
theorem dX6_auction_61 : decode cX6_auction 61 = .ok (.istore_n 2, 1) := by decide +kernel
theorem dX6_auction_62 : decode cX6_auction 62 = .ok (.iload_n 2, 1) := by decide +kernel
theorem dX6_auction_63 : decode cX6_auction 63 = .ok (.ifCond .eq 112, 3) := by decide +kernel
theorem dX6_auction_66 : decode cX6_auction 66 = .ok (.aload_n 0, 1) := by decide +kernel
theorem dX6_auction_67 : decode cX6_auction 67 = .ok (.invokevirtual 122, 3) := by decide +kernel
theorem dX6_auction_70 : decode cX6_auction 70 = .ok (.aload_n 0, 1) := by decide +kernel
theorem dX6_auction_71 : decode cX6_auction 71 = .ok (.getfield 34, 3) := by decide +kernel
theorem dX6_auction_74 : decode cX6_auction 74 = .ok (.aload_n 0, 1) := by decide +kernel
theorem dX6_auction_75 : decode cX6_auction 75 = .ok (.getfield 7, 3) := by decide +kernel
theorem dX6_auction_78 : decode cX6_auction 78 = .ok (.bipush 7, 2) := by decide +kernel
theorem dX6_auction_80 : decode cX6_auction 80 = .ok (.iaload, 1) := by decide +kernel
theorem dX6_auction_81 : decode cX6_auction 81 = .ok (.iload_n 1, 1) := by decide +kernel
theorem dX6_auction_82 : decode cX6_auction 82 = .ok (.iastore, 1) := by decide +kernel
theorem dX6_auction_83 : decode cX6_auction 83 = .ok (.aload_n 0, 1) := by decide +kernel
theorem dX6_auction_84 : decode cX6_auction 84 = .ok (.getfield 37, 3) := by decide +kernel
theorem dX6_auction_87 : decode cX6_auction 87 = .ok (.aload_n 0, 1) := by decide +kernel
theorem dX6_auction_88 : decode cX6_auction 88 = .ok (.getfield 7, 3) := by decide +kernel
theorem dX6_auction_91 : decode cX6_auction 91 = .ok (.bipush 7, 2) := by decide +kernel
theorem dX6_auction_93 : decode cX6_auction 93 = .ok (.iaload, 1) := by decide +kernel
theorem dX6_auction_94 : decode cX6_auction 94 = .ok (.aload_n 0, 1) := by decide +kernel
theorem dX6_auction_95 : decode cX6_auction 95 = .ok (.iload_n 1, 1) := by decide +kernel
theorem dX6_auction_96 : decode cX6_auction 96 = .ok (.invokevirtual 125, 3) := by decide +kernel
theorem dX6_auction_99 : decode cX6_auction 99 = .ok (.iastore, 1) := by decide +kernel
theorem dX6_auction_100 : decode cX6_auction 100 = .ok (.aload_n 0, 1) := by decide +kernel
theorem dX6_auction_101 : decode cX6_auction 101 = .ok (.getfield 40, 3) := by decide +kernel
theorem dX6_auction_104 : decode cX6_auction 104 = .ok (.aload_n 0, 1) := by decide +kernel
theorem dX6_auction_105 : decode cX6_auction 105 = .ok (.getfield 7, 3) := by decide +kernel
theorem dX6_auction_108 : decode cX6_auction 108 = .ok (.bipush 7, 2) := by decide +kernel
theorem dX6_auction_110 : decode cX6_auction 110 = .ok (.iaload, 1) := by decide +kernel
theorem dX6_auction_111 : decode cX6_auction 111 = .ok (.aload_n 0, 1) := by decide +kernel
theorem dX6_auction_112 : decode cX6_auction 112 = .ok (.invokevirtual 128, 3) := by decide +kernel
theorem dX6_auction_115 : decode cX6_auction 115 = .ok (.iastore, 1) := by decide +kernel
theorem dX6_auction_116 : decode cX6_auction 116 = .ok (.aload_n 0, 1) := by decide +kernel
theorem dX6_auction_117 : decode cX6_auction 117 = .ok (.getfield 7, 3) := by decide +kernel
theorem dX6_auction_120 : decode cX6_auction 120 = .ok (.bipush 8, 2) := by decide +kernel
theorem dX6_auction_122 : decode cX6_auction 122 = .ok (.dup2, 1) := by decide +kernel
theorem dX6_auction_123 : decode cX6_auction 123 = .ok (.iaload, 1) := by decide +kernel
theorem dX6_auction_124 : decode cX6_auction 124 = .ok (.aload_n 0, 1) := by decide +kernel
theorem dX6_auction_125 : decode cX6_auction 125 = .ok (.getfield 37, 3) := by decide +kernel
theorem dX6_auction_128 : decode cX6_auction 128 = .ok (.aload_n 0, 1) := by decide +kernel
theorem dX6_auction_129 : decode cX6_auction 129 = .ok (.getfield 7, 3) := by decide +kernel
theorem dX6_auction_132 : decode cX6_auction 132 = .ok (.bipush 7, 2) := by decide +kernel
theorem dX6_auction_134 : decode cX6_auction 134 = .ok (.iaload, 1) := by decide +kernel
theorem dX6_auction_135 : decode cX6_auction 135 = .ok (.iaload, 1) := by decide +kernel
theorem dX6_auction_136 : decode cX6_auction 136 = .ok (.iadd, 1) := by decide +kernel
theorem dX6_auction_137 : decode cX6_auction 137 = .ok (.iastore, 1) := by decide +kernel
theorem dX6_auction_138 : decode cX6_auction 138 = .ok (.aload_n 0, 1) := by decide +kernel
theorem dX6_auction_139 : decode cX6_auction 139 = .ok (.getfield 7, 3) := by decide +kernel
theorem dX6_auction_142 : decode cX6_auction 142 = .ok (.bipush 7, 2) := by decide +kernel
theorem dX6_auction_144 : decode cX6_auction 144 = .ok (.dup2, 1) := by decide +kernel
theorem dX6_auction_145 : decode cX6_auction 145 = .ok (.iaload, 1) := by decide +kernel
theorem dX6_auction_146 : decode cX6_auction 146 = .ok (.iconst 1, 1) := by decide +kernel
theorem dX6_auction_147 : decode cX6_auction 147 = .ok (.iadd, 1) := by decide +kernel
theorem dX6_auction_148 : decode cX6_auction 148 = .ok (.iastore, 1) := by decide +kernel
theorem dX6_auction_149 : decode cX6_auction 149 = .ok (.iload_n 1, 1) := by decide +kernel
theorem dX6_auction_150 : decode cX6_auction 150 = .ok (.iconst 1, 1) := by decide +kernel
theorem dX6_auction_151 : decode cX6_auction 151 = .ok (.if_icmp .le 7, 3) := by decide +kernel
theorem dX6_auction_154 : decode cX6_auction 154 = .ok (.iconst 1, 1) := by decide +kernel
theorem dX6_auction_155 : decode cX6_auction 155 = .ok (.goto 4, 3) := by decide +kernel
theorem dX6_auction_158 : decode cX6_auction 158 = .ok (.iconst 0, 1) := by decide +kernel
theorem dX6_auction_159 : decode cX6_auction 159 = .ok (.istore_n 2, 1) := by decide +kernel
theorem dX6_auction_160 : decode cX6_auction 160 = .ok (.iload_n 1, 1) := by decide +kernel
theorem dX6_auction_161 : decode cX6_auction 161 = .ok (.aload_n 0, 1) := by decide +kernel
theorem dX6_auction_162 : decode cX6_auction 162 = .ok (.getfield 7, 3) := by decide +kernel
theorem dX6_auction_165 : decode cX6_auction 165 = .ok (.iconst 1, 1) := by decide +kernel
theorem dX6_auction_166 : decode cX6_auction 166 = .ok (.iaload, 1) := by decide +kernel
theorem dX6_auction_167 : decode cX6_auction 167 = .ok (.idiv, 1) := by decide +kernel
theorem dX6_auction_168 : decode cX6_auction 168 = .ok (.invokestatic 119, 3) := by decide +kernel
theorem dX6_auction_171 : decode cX6_auction 171 = .ok (.istore_n 1, 1) := by decide +kernel
theorem dX6_auction_172 : decode cX6_auction 172 = .ok (.goto (-110), 3) := by decide +kernel
theorem dX6_auction_175 : decode cX6_auction 175 = .ok (.aload_n 0, 1) := by decide +kernel
theorem dX6_auction_176 : decode cX6_auction 176 = .ok (.getfield 7, 3) := by decide +kernel
theorem dX6_auction_179 : decode cX6_auction 179 = .ok (.iconst 5, 1) := by decide +kernel
theorem dX6_auction_180 : decode cX6_auction 180 = .ok (.iconst 1, 1) := by decide +kernel
theorem dX6_auction_181 : decode cX6_auction 181 = .ok (.iastore, 1) := by decide +kernel
theorem dX6_auction_182 : decode cX6_auction 182 = .ok (.aload_n 0, 1) := by decide +kernel
theorem dX6_auction_183 : decode cX6_auction 183 = .ok (.getfield 7, 3) := by decide +kernel
theorem dX6_auction_186 : decode cX6_auction 186 = .ok (.bipush 6, 2) := by decide +kernel
theorem dX6_auction_188 : decode cX6_auction 188 = .ok (.iconst 1, 1) := by decide +kernel
theorem dX6_auction_189 : decode cX6_auction 189 = .ok (.iastore, 1) := by decide +kernel
theorem dX6_auction_190 : decode cX6_auction 190 = .ok (.aload_n 0, 1) := by decide +kernel
theorem dX6_auction_191 : decode cX6_auction 191 = .ok (.getfield 7, 3) := by decide +kernel
theorem dX6_auction_194 : decode cX6_auction 194 = .ok (.bipush 8, 2) := by decide +kernel
theorem dX6_auction_196 : decode cX6_auction 196 = .ok (.iaload, 1) := by decide +kernel
theorem dX6_auction_197 : decode cX6_auction 197 = .ok (.ireturn, 1) := by decide +kernel
set_option maxRecDepth 20000 in
theorem ggX6_repair_X6_isValid : GoodIn wsX6_repair wsX6_isValid := goodIn_r _ [8, 1, 45, 46, 47, 48, 49, 50, 51, 52, 53, 54, 55, 56, 57, 58, 59] (by decide +kernel) (by decide +kernel)
set_option maxRecDepth 20000 in
theorem gX6_repair_X6_isValid : GoodIn wsX6_repair (wsV RX6 131 RX6 yX6_isValid wsX6_isValid) := goodIn_app (goodIn_of _ (by decide +kernel)) ggX6_repair_X6_isValid
set_option maxRecDepth 20000 in
theorem ggX6_repair_X6_isDone : GoodIn wsX6_repair wsX6_isDone := goodIn_r _ [12, 1, 45, 46, 47, 48, 49, 50, 51, 52, 53, 54, 55, 56, 57, 58, 59] (by decide +kernel) (by decide +kernel)
set_option maxRecDepth 20000 in
theorem gX6_repair_X6_isDone : GoodIn wsX6_repair (wsV RX6 83 RX6 yX6_isDone wsX6_isDone) := goodIn_app (goodIn_of _ (by decide +kernel)) ggX6_repair_X6_isDone
set_option maxRecDepth 20000 in
theorem ggX6_repair_X6_gainOf : GoodIn wsX6_repair wsX6_gainOf := goodIn_r _ [16, 17, 18, 19, 1, 20, 21, 22, 23, 7, 24, 25, 26, 27, 28, 45, 46, 47, 48, 49, 50, 51, 52, 53, 54, 55, 56, 57, 58, 59] (by decide +kernel) (by decide +kernel)
set_option maxRecDepth 20000 in
theorem gX6_repair_X6_gainOf : GoodIn wsX6_repair (wsV RX6 100 RX6 yX6_gainOf wsX6_gainOf) := goodIn_app (goodIn_of _ (by decide +kernel)) ggX6_repair_X6_gainOf
set_option maxRecDepth 20000 in
theorem ggX6_repair_X6_bestFor : GoodIn wsX6_repair wsX6_bestFor := goodIn_r _ [32, 1, 13, 14, 15, 7, 16, 17, 18, 19, 20, 21, 22, 23, 24, 25, 26, 27, 28, 45, 46, 47, 48, 49, 50, 51, 52, 53, 54, 55, 56, 57, 58, 59] (by decide +kernel) (by decide +kernel)
set_option maxRecDepth 20000 in
theorem gX6_repair_X6_bestFor : GoodIn wsX6_repair (wsV RX6 103 RX6 yX6_bestFor wsX6_bestFor) := goodIn_app (goodIn_of _ (by decide +kernel)) ggX6_repair_X6_bestFor
set_option maxRecDepth 20000 in
theorem ggX6_repair_X6_phaseOf : GoodIn wsX6_repair wsX6_phaseOf := goodIn_r _ [36, 37, 38, 39, 7, 40, 1, 2, 41, 42, 43, 44, 20, 3, 29, 30, 31, 32, 13, 14, 15, 16, 17, 18, 19, 21, 22, 23, 24, 25, 26, 27, 28, 45, 46, 47, 48, 49, 50, 51, 52, 53, 54, 55, 56, 57, 58, 59] (by decide +kernel) (by decide +kernel)
set_option maxRecDepth 20000 in
theorem gX6_repair_X6_phaseOf : GoodIn wsX6_repair (wsV RX6 125 RX6 yX6_phaseOf wsX6_phaseOf) := goodIn_app (goodIn_of _ (by decide +kernel)) ggX6_repair_X6_phaseOf
theorem dX6_repair_0 : decode cX6_repair 0 = .ok (.aload_n 0, 1) := by decide +kernel
theorem dX6_repair_1 : decode cX6_repair 1 = .ok (.invokevirtual 131, 3) := by decide +kernel
theorem dX6_repair_4 : decode cX6_repair 4 = .ok (.ifCond .ne 6, 3) := by decide +kernel
theorem dX6_repair_7 : decode cX6_repair 7 = .ok (.bipush (-3), 2) := by decide +kernel
theorem dX6_repair_9 : decode cX6_repair 9 = .ok (.ireturn, 1) := by decide +kernel
theorem dX6_repair_10 : decode cX6_repair 10 = .ok (.aload_n 0, 1) := by decide +kernel
theorem dX6_repair_11 : decode cX6_repair 11 = .ok (.invokevirtual 83, 3) := by decide +kernel
theorem dX6_repair_14 : decode cX6_repair 14 = .ok (.ifCond .eq 5, 3) := by decide +kernel
theorem dX6_repair_17 : decode cX6_repair 17 = .ok (.iconst 0, 1) := by decide +kernel
theorem dX6_repair_18 : decode cX6_repair 18 = .ok (.ireturn, 1) := by decide +kernel
theorem dX6_repair_19 : decode cX6_repair 19 = .ok (.iconst 0, 1) := by decide +kernel
theorem dX6_repair_20 : decode cX6_repair 20 = .ok (.istore_n 1, 1) := by decide +kernel
theorem dX6_repair_21 : decode cX6_repair 21 = .ok (.iload_n 1, 1) := by decide +kernel
theorem dX6_repair_22 : decode cX6_repair 22 = .ok (.aload_n 0, 1) := by decide +kernel
theorem dX6_repair_23 : decode cX6_repair 23 = .ok (.getfield 7, 3) := by decide +kernel
theorem dX6_repair_26 : decode cX6_repair 26 = .ok (.iconst 4, 1) := by decide +kernel
theorem dX6_repair_27 : decode cX6_repair 27 = .ok (.iaload, 1) := by decide +kernel
theorem dX6_repair_28 : decode cX6_repair 28 = .ok (.if_icmp .ge 58, 3) := by decide +kernel
theorem dX6_repair_31 : decode cX6_repair 31 = .ok (.aload_n 0, 1) := by decide +kernel
theorem dX6_repair_32 : decode cX6_repair 32 = .ok (.iload_n 1, 1) := by decide +kernel
theorem dX6_repair_33 : decode cX6_repair 33 = .ok (.aload_n 0, 1) := by decide +kernel
theorem dX6_repair_34 : decode cX6_repair 34 = .ok (.getfield 31, 3) := by decide +kernel
theorem dX6_repair_37 : decode cX6_repair 37 = .ok (.iload_n 1, 1) := by decide +kernel
theorem dX6_repair_38 : decode cX6_repair 38 = .ok (.iaload, 1) := by decide +kernel
theorem dX6_repair_39 : decode cX6_repair 39 = .ok (.invokevirtual 100, 3) := by decide +kernel
theorem dX6_repair_42 : decode cX6_repair 42 = .ok (.aload_n 0, 1) := by decide +kernel
theorem dX6_repair_43 : decode cX6_repair 43 = .ok (.iload_n 1, 1) := by decide +kernel
theorem dX6_repair_44 : decode cX6_repair 44 = .ok (.aload_n 0, 1) := by decide +kernel
theorem dX6_repair_45 : decode cX6_repair 45 = .ok (.iload_n 1, 1) := by decide +kernel
theorem dX6_repair_46 : decode cX6_repair 46 = .ok (.bipush (-6), 2) := by decide +kernel
theorem dX6_repair_48 : decode cX6_repair 48 = .ok (.invokevirtual 103, 3) := by decide +kernel
theorem dX6_repair_51 : decode cX6_repair 51 = .ok (.invokevirtual 100, 3) := by decide +kernel
theorem dX6_repair_54 : decode cX6_repair 54 = .ok (.iconst 1, 1) := by decide +kernel
theorem dX6_repair_55 : decode cX6_repair 55 = .ok (.isub, 1) := by decide +kernel
theorem dX6_repair_56 : decode cX6_repair 56 = .ok (.if_icmp .ge 24, 3) := by decide +kernel
theorem dX6_repair_59 : decode cX6_repair 59 = .ok (.aload_n 0, 1) := by decide +kernel
theorem dX6_repair_60 : decode cX6_repair 60 = .ok (.getfield 28, 3) := by decide +kernel
theorem dX6_repair_63 : decode cX6_repair 63 = .ok (.aload_n 0, 1) := by decide +kernel
theorem dX6_repair_64 : decode cX6_repair 64 = .ok (.getfield 31, 3) := by decide +kernel
theorem dX6_repair_67 : decode cX6_repair 67 = .ok (.iload_n 1, 1) := by decide +kernel
theorem dX6_repair_68 : decode cX6_repair 68 = .ok (.iaload, 1) := by decide +kernel
theorem dX6_repair_69 : decode cX6_repair 69 = .ok (.bipush (-6), 2) := by decide +kernel
theorem dX6_repair_71 : decode cX6_repair 71 = .ok (.iastore, 1) := by decide +kernel
theorem dX6_repair_72 : decode cX6_repair 72 = .ok (.aload_n 0, 1) := by decide +kernel
theorem dX6_repair_73 : decode cX6_repair 73 = .ok (.getfield 31, 3) := by decide +kernel
theorem dX6_repair_76 : decode cX6_repair 76 = .ok (.iload_n 1, 1) := by decide +kernel
theorem dX6_repair_77 : decode cX6_repair 77 = .ok (.bipush (-6), 2) := by decide +kernel
theorem dX6_repair_79 : decode cX6_repair 79 = .ok (.iastore, 1) := by decide +kernel
theorem dX6_repair_80 : decode cX6_repair 80 = .ok (.iinc 1 1, 3) := by decide +kernel
theorem dX6_repair_83 : decode cX6_repair 83 = .ok (.goto (-62), 3) := by decide +kernel
theorem dX6_repair_86 : decode cX6_repair 86 = .ok (.aload_n 0, 1) := by decide +kernel
theorem dX6_repair_87 : decode cX6_repair 87 = .ok (.getfield 7, 3) := by decide +kernel
theorem dX6_repair_90 : decode cX6_repair 90 = .ok (.bipush 8, 2) := by decide +kernel
theorem dX6_repair_92 : decode cX6_repair 92 = .ok (.aload_n 0, 1) := by decide +kernel
theorem dX6_repair_93 : decode cX6_repair 93 = .ok (.iconst 1, 1) := by decide +kernel
theorem dX6_repair_94 : decode cX6_repair 94 = .ok (.invokevirtual 125, 3) := by decide +kernel
theorem dX6_repair_97 : decode cX6_repair 97 = .ok (.iastore, 1) := by decide +kernel
theorem dX6_repair_98 : decode cX6_repair 98 = .ok (.aload_n 0, 1) := by decide +kernel
theorem dX6_repair_99 : decode cX6_repair 99 = .ok (.getfield 7, 3) := by decide +kernel
theorem dX6_repair_102 : decode cX6_repair 102 = .ok (.bipush 6, 2) := by decide +kernel
theorem dX6_repair_104 : decode cX6_repair 104 = .ok (.iconst 1, 1) := by decide +kernel
theorem dX6_repair_105 : decode cX6_repair 105 = .ok (.iastore, 1) := by decide +kernel
theorem dX6_repair_106 : decode cX6_repair 106 = .ok (.aload_n 0, 1) := by decide +kernel
theorem dX6_repair_107 : decode cX6_repair 107 = .ok (.getfield 7, 3) := by decide +kernel
theorem dX6_repair_110 : decode cX6_repair 110 = .ok (.bipush 8, 2) := by decide +kernel
theorem dX6_repair_112 : decode cX6_repair 112 = .ok (.iaload, 1) := by decide +kernel
theorem dX6_repair_113 : decode cX6_repair 113 = .ok (.ireturn, 1) := by decide +kernel
set_option maxRecDepth 20000 in
theorem ggX6_phase_X6_isValid : GoodIn wsX6_phase wsX6_isValid := goodIn_r _ [9, 1, 13, 14, 15, 16, 17, 18, 19, 20, 21, 22, 23, 24, 25, 26, 27] (by decide +kernel) (by decide +kernel)
set_option maxRecDepth 20000 in
theorem gX6_phase_X6_isValid : GoodIn wsX6_phase (wsV RX6 131 RX6 yX6_isValid wsX6_isValid) := goodIn_app (goodIn_of _ (by decide +kernel)) ggX6_phase_X6_isValid
set_option maxRecDepth 20000 in
theorem ggX6_phase_X6_in : GoodIn wsX6_phase wsX6_in := goodIn_r _ [12] (by decide +kernel) (by decide +kernel)
set_option maxRecDepth 20000 in
theorem gX6_phase_X6_in : GoodIn wsX6_phase (va_wsS RX6 52 yX6_in wsX6_in) := goodIn_app (goodIn_of _ (by decide +kernel)) ggX6_phase_X6_in
theorem dX6_phase_0 : decode cX6_phase 0 = .ok (.aload_n 0, 1) := by decide +kernel
theorem dX6_phase_1 : decode cX6_phase 1 = .ok (.invokevirtual 131, 3) := by decide +kernel
theorem dX6_phase_4 : decode cX6_phase 4 = .ok (.ifCond .ne 6, 3) := by decide +kernel
theorem dX6_phase_7 : decode cX6_phase 7 = .ok (.bipush (-3), 2) := by decide +kernel
theorem dX6_phase_9 : decode cX6_phase 9 = .ok (.ireturn, 1) := by decide +kernel
theorem dX6_phase_10 : decode cX6_phase 10 = .ok (.iload_n 1, 1) := by decide +kernel
theorem dX6_phase_11 : decode cX6_phase 11 = .ok (.i2l, 1) := by decide +kernel
theorem dX6_phase_12 : decode cX6_phase 12 = .ok (.lconst 0, 1) := by decide +kernel
theorem dX6_phase_13 : decode cX6_phase 13 = .ok (.aload_n 0, 1) := by decide +kernel
theorem dX6_phase_14 : decode cX6_phase 14 = .ok (.getfield 7, 3) := by decide +kernel
theorem dX6_phase_17 : decode cX6_phase 17 = .ok (.bipush 7, 2) := by decide +kernel
theorem dX6_phase_19 : decode cX6_phase 19 = .ok (.iaload, 1) := by decide +kernel
theorem dX6_phase_20 : decode cX6_phase 20 = .ok (.iconst 1, 1) := by decide +kernel
theorem dX6_phase_21 : decode cX6_phase 21 = .ok (.isub, 1) := by decide +kernel
theorem dX6_phase_22 : decode cX6_phase 22 = .ok (.i2l, 1) := by decide +kernel
theorem dX6_phase_23 : decode cX6_phase 23 = .ok (.invokestatic 52, 3) := by decide +kernel
theorem dX6_phase_26 : decode cX6_phase 26 = .ok (.ifCond .ne 5, 3) := by decide +kernel
theorem dX6_phase_29 : decode cX6_phase 29 = .ok (.iconst (-1), 1) := by decide +kernel
theorem dX6_phase_30 : decode cX6_phase 30 = .ok (.ireturn, 1) := by decide +kernel
theorem dX6_phase_31 : decode cX6_phase 31 = .ok (.iload_n 2, 1) := by decide +kernel
theorem dX6_phase_32 : decode cX6_phase 32 = .ok (.ifCond .ne 12, 3) := by decide +kernel
theorem dX6_phase_35 : decode cX6_phase 35 = .ok (.aload_n 0, 1) := by decide +kernel
theorem dX6_phase_36 : decode cX6_phase 36 = .ok (.getfield 34, 3) := by decide +kernel
theorem dX6_phase_39 : decode cX6_phase 39 = .ok (.iload_n 1, 1) := by decide +kernel
theorem dX6_phase_40 : decode cX6_phase 40 = .ok (.iaload, 1) := by decide +kernel
theorem dX6_phase_41 : decode cX6_phase 41 = .ok (.goto 33, 3) := by decide +kernel
theorem dX6_phase_44 : decode cX6_phase 44 = .ok (.iload_n 2, 1) := by decide +kernel
theorem dX6_phase_45 : decode cX6_phase 45 = .ok (.iconst 1, 1) := by decide +kernel
theorem dX6_phase_46 : decode cX6_phase 46 = .ok (.if_icmp .ne 12, 3) := by decide +kernel
theorem dX6_phase_49 : decode cX6_phase 49 = .ok (.aload_n 0, 1) := by decide +kernel
theorem dX6_phase_50 : decode cX6_phase 50 = .ok (.getfield 37, 3) := by decide +kernel
theorem dX6_phase_53 : decode cX6_phase 53 = .ok (.iload_n 1, 1) := by decide +kernel
theorem dX6_phase_54 : decode cX6_phase 54 = .ok (.iaload, 1) := by decide +kernel
theorem dX6_phase_55 : decode cX6_phase 55 = .ok (.goto 19, 3) := by decide +kernel
theorem dX6_phase_58 : decode cX6_phase 58 = .ok (.iload_n 2, 1) := by decide +kernel
theorem dX6_phase_59 : decode cX6_phase 59 = .ok (.iconst 2, 1) := by decide +kernel
theorem dX6_phase_60 : decode cX6_phase 60 = .ok (.if_icmp .ne 12, 3) := by decide +kernel
theorem dX6_phase_63 : decode cX6_phase 63 = .ok (.aload_n 0, 1) := by decide +kernel
theorem dX6_phase_64 : decode cX6_phase 64 = .ok (.getfield 40, 3) := by decide +kernel
theorem dX6_phase_67 : decode cX6_phase 67 = .ok (.iload_n 1, 1) := by decide +kernel
theorem dX6_phase_68 : decode cX6_phase 68 = .ok (.iaload, 1) := by decide +kernel
theorem dX6_phase_69 : decode cX6_phase 69 = .ok (.goto 5, 3) := by decide +kernel
theorem dX6_phase_72 : decode cX6_phase 72 = .ok (.bipush (-2), 2) := by decide +kernel
theorem dX6_phase_74 : decode cX6_phase 74 = .ok (.ireturn, 1) := by decide +kernel
set_option maxRecDepth 20000 in
theorem ggX6_place_X6_isDone : GoodIn wsX6_place wsX6_isDone := goodIn_r _ [7, 8, 20, 21, 22, 23, 24, 25, 26, 27, 28, 29, 30, 31, 32, 33, 34] (by decide +kernel) (by decide +kernel)
set_option maxRecDepth 20000 in
theorem gX6_place_X6_isDone : GoodIn wsX6_place (wsV RX6 83 RX6 yX6_isDone wsX6_isDone) := goodIn_app (goodIn_of _ (by decide +kernel)) ggX6_place_X6_isDone
set_option maxRecDepth 20000 in
theorem ggX6_place_X6_isCell : GoodIn wsX6_place wsX6_isCell := goodIn_r _ [12, 13, 14, 15, 6, 16, 8, 17, 18, 19, 20, 21, 22, 23, 24, 25, 26, 27, 28, 29, 30, 31, 32, 33, 34] (by decide +kernel) (by decide +kernel)
set_option maxRecDepth 20000 in
theorem gX6_place_X6_isCell : GoodIn wsX6_place (wsV RX6 93 RX6 yX6_isCell wsX6_isCell) := goodIn_app (goodIn_of _ (by decide +kernel)) ggX6_place_X6_isCell
theorem dX6_place_0 : decode cX6_place 0 = .ok (.aload_n 0, 1) := by decide +kernel
theorem dX6_place_1 : decode cX6_place 1 = .ok (.invokevirtual 83, 3) := by decide +kernel
theorem dX6_place_4 : decode cX6_place 4 = .ok (.ifCond .ne 6, 3) := by decide +kernel
theorem dX6_place_7 : decode cX6_place 7 = .ok (.bipush (-3), 2) := by decide +kernel
theorem dX6_place_9 : decode cX6_place 9 = .ok (.ireturn, 1) := by decide +kernel
theorem dX6_place_10 : decode cX6_place 10 = .ok (.aload_n 0, 1) := by decide +kernel
theorem dX6_place_11 : decode cX6_place 11 = .ok (.iload_n 1, 1) := by decide +kernel
theorem dX6_place_12 : decode cX6_place 12 = .ok (.invokevirtual 93, 3) := by decide +kernel
theorem dX6_place_15 : decode cX6_place 15 = .ok (.ifCond .eq 17, 3) := by decide +kernel
theorem dX6_place_18 : decode cX6_place 18 = .ok (.aload_n 0, 1) := by decide +kernel
theorem dX6_place_19 : decode cX6_place 19 = .ok (.getfield 25, 3) := by decide +kernel
theorem dX6_place_22 : decode cX6_place 22 = .ok (.aload_n 0, 1) := by decide +kernel
theorem dX6_place_23 : decode cX6_place 23 = .ok (.getfield 31, 3) := by decide +kernel
theorem dX6_place_26 : decode cX6_place 26 = .ok (.iload_n 1, 1) := by decide +kernel
theorem dX6_place_27 : decode cX6_place 27 = .ok (.iaload, 1) := by decide +kernel
theorem dX6_place_28 : decode cX6_place 28 = .ok (.iaload, 1) := by decide +kernel
theorem dX6_place_29 : decode cX6_place 29 = .ok (.goto 4, 3) := by decide +kernel
theorem dX6_place_32 : decode cX6_place 32 = .ok (.iconst (-1), 1) := by decide +kernel
theorem dX6_place_33 : decode cX6_place 33 = .ok (.ireturn, 1) := by decide +kernel
set_option maxRecDepth 20000 in
theorem ggX6_slot_X6_isValid : GoodIn wsX6_slot wsX6_isValid := goodIn_r _ [9, 1, 21, 22, 23, 24, 25, 26, 27, 28, 29, 30, 31, 32, 33, 34, 35] (by decide +kernel) (by decide +kernel)
set_option maxRecDepth 20000 in
theorem gX6_slot_X6_isValid : GoodIn wsX6_slot (wsV RX6 131 RX6 yX6_isValid wsX6_isValid) := goodIn_app (goodIn_of _ (by decide +kernel)) ggX6_slot_X6_isValid
set_option maxRecDepth 20000 in
theorem ggX6_slot_X6_isDone : GoodIn wsX6_slot wsX6_isDone := goodIn_r _ [13, 1, 21, 22, 23, 24, 25, 26, 27, 28, 29, 30, 31, 32, 33, 34, 35] (by decide +kernel) (by decide +kernel)
set_option maxRecDepth 20000 in
theorem gX6_slot_X6_isDone : GoodIn wsX6_slot (wsV RX6 83 RX6 yX6_isDone wsX6_isDone) := goodIn_app (goodIn_of _ (by decide +kernel)) ggX6_slot_X6_isDone
set_option maxRecDepth 20000 in
theorem ggX6_slot_X6_in : GoodIn wsX6_slot wsX6_in := goodIn_r _ [16] (by decide +kernel) (by decide +kernel)
set_option maxRecDepth 20000 in
theorem gX6_slot_X6_in : GoodIn wsX6_slot (va_wsS RX6 52 yX6_in wsX6_in) := goodIn_app (goodIn_of _ (by decide +kernel)) ggX6_slot_X6_in
set_option maxRecDepth 20000 in
theorem ggX6_slot_X6_cells : GoodIn wsX6_slot wsX6_cells := goodIn_r _ [20, 1, 21, 22, 23, 24, 25, 26, 27, 28, 29, 30, 31, 32, 33, 34, 35] (by decide +kernel) (by decide +kernel)
set_option maxRecDepth 20000 in
theorem gX6_slot_X6_cells : GoodIn wsX6_slot (wsV RX6 80 RX6 yX6_cells wsX6_cells) := goodIn_app (goodIn_of _ (by decide +kernel)) ggX6_slot_X6_cells
theorem dX6_slot_0 : decode cX6_slot 0 = .ok (.aload_n 0, 1) := by decide +kernel
theorem dX6_slot_1 : decode cX6_slot 1 = .ok (.invokevirtual 131, 3) := by decide +kernel
theorem dX6_slot_4 : decode cX6_slot 4 = .ok (.ifCond .eq 15, 3) := by decide +kernel
theorem dX6_slot_7 : decode cX6_slot 7 = .ok (.iload_n 2, 1) := by decide +kernel
theorem dX6_slot_8 : decode cX6_slot 8 = .ok (.iconst 2, 1) := by decide +kernel
theorem dX6_slot_9 : decode cX6_slot 9 = .ok (.if_icmp .ne 13, 3) := by decide +kernel
theorem dX6_slot_12 : decode cX6_slot 12 = .ok (.aload_n 0, 1) := by decide +kernel
theorem dX6_slot_13 : decode cX6_slot 13 = .ok (.invokevirtual 83, 3) := by decide +kernel
theorem dX6_slot_16 : decode cX6_slot 16 = .ok (.ifCond .ne 6, 3) := by decide +kernel
theorem dX6_slot_19 : decode cX6_slot 19 = .ok (.bipush (-3), 2) := by decide +kernel
theorem dX6_slot_21 : decode cX6_slot 21 = .ok (.ireturn, 1) := by decide +kernel
theorem dX6_slot_22 : decode cX6_slot 22 = .ok (.iload_n 1, 1) := by decide +kernel
theorem dX6_slot_23 : decode cX6_slot 23 = .ok (.i2l, 1) := by decide +kernel
theorem dX6_slot_24 : decode cX6_slot 24 = .ok (.lconst 0, 1) := by decide +kernel
theorem dX6_slot_25 : decode cX6_slot 25 = .ok (.aload_n 0, 1) := by decide +kernel
theorem dX6_slot_26 : decode cX6_slot 26 = .ok (.getfield 7, 3) := by decide +kernel
theorem dX6_slot_29 : decode cX6_slot 29 = .ok (.iconst 4, 1) := by decide +kernel
theorem dX6_slot_30 : decode cX6_slot 30 = .ok (.iaload, 1) := by decide +kernel
theorem dX6_slot_31 : decode cX6_slot 31 = .ok (.iconst 1, 1) := by decide +kernel
theorem dX6_slot_32 : decode cX6_slot 32 = .ok (.isub, 1) := by decide +kernel
theorem dX6_slot_33 : decode cX6_slot 33 = .ok (.i2l, 1) := by decide +kernel
theorem dX6_slot_34 : decode cX6_slot 34 = .ok (.invokestatic 52, 3) := by decide +kernel
theorem dX6_slot_37 : decode cX6_slot 37 = .ok (.ifCond .ne 5, 3) := by decide +kernel
theorem dX6_slot_40 : decode cX6_slot 40 = .ok (.iconst (-1), 1) := by decide +kernel
theorem dX6_slot_41 : decode cX6_slot 41 = .ok (.ireturn, 1) := by decide +kernel
theorem dX6_slot_42 : decode cX6_slot 42 = .ok (.iload_n 2, 1) := by decide +kernel
theorem dX6_slot_43 : decode cX6_slot 43 = .ok (.tableswitch 64 0 2 #[25, 32, 39], 25) := by decide +kernel
theorem dX6_slot_68 : decode cX6_slot 68 = .ok (.aload_n 0, 1) := by decide +kernel
theorem dX6_slot_69 : decode cX6_slot 69 = .ok (.getfield 22, 3) := by decide +kernel
theorem dX6_slot_72 : decode cX6_slot 72 = .ok (.iload_n 1, 1) := by decide +kernel
theorem dX6_slot_73 : decode cX6_slot 73 = .ok (.iaload, 1) := by decide +kernel
theorem dX6_slot_74 : decode cX6_slot 74 = .ok (.ireturn, 1) := by decide +kernel
theorem dX6_slot_75 : decode cX6_slot 75 = .ok (.aload_n 0, 1) := by decide +kernel
theorem dX6_slot_76 : decode cX6_slot 76 = .ok (.getfield 25, 3) := by decide +kernel
theorem dX6_slot_79 : decode cX6_slot 79 = .ok (.iload_n 1, 1) := by decide +kernel
theorem dX6_slot_80 : decode cX6_slot 80 = .ok (.iaload, 1) := by decide +kernel
theorem dX6_slot_81 : decode cX6_slot 81 = .ok (.ireturn, 1) := by decide +kernel
theorem dX6_slot_82 : decode cX6_slot 82 = .ok (.aload_n 0, 1) := by decide +kernel
theorem dX6_slot_83 : decode cX6_slot 83 = .ok (.getfield 28, 3) := by decide +kernel
theorem dX6_slot_86 : decode cX6_slot 86 = .ok (.iload_n 1, 1) := by decide +kernel
theorem dX6_slot_87 : decode cX6_slot 87 = .ok (.iaload, 1) := by decide +kernel
theorem dX6_slot_88 : decode cX6_slot 88 = .ok (.aload_n 0, 1) := by decide +kernel
theorem dX6_slot_89 : decode cX6_slot 89 = .ok (.invokevirtual 80, 3) := by decide +kernel
theorem dX6_slot_92 : decode cX6_slot 92 = .ok (.if_icmp .ge 12, 3) := by decide +kernel
theorem dX6_slot_95 : decode cX6_slot 95 = .ok (.aload_n 0, 1) := by decide +kernel
theorem dX6_slot_96 : decode cX6_slot 96 = .ok (.getfield 28, 3) := by decide +kernel
theorem dX6_slot_99 : decode cX6_slot 99 = .ok (.iload_n 1, 1) := by decide +kernel
theorem dX6_slot_100 : decode cX6_slot 100 = .ok (.iaload, 1) := by decide +kernel
theorem dX6_slot_101 : decode cX6_slot 101 = .ok (.goto 5, 3) := by decide +kernel
theorem dX6_slot_104 : decode cX6_slot 104 = .ok (.bipush (-6), 2) := by decide +kernel
theorem dX6_slot_106 : decode cX6_slot 106 = .ok (.ireturn, 1) := by decide +kernel
theorem dX6_slot_107 : decode cX6_slot 107 = .ok (.bipush (-2), 2) := by decide +kernel
theorem dX6_slot_109 : decode cX6_slot 109 = .ok (.ireturn, 1) := by decide +kernel
set_option maxRecDepth 20000 in
theorem ggX6_gain_X6_isValid : GoodIn wsX6_gain wsX6_isValid := goodIn_r _ [9, 10, 42, 43, 44, 45, 46, 47, 48, 49, 50, 51, 52, 53, 54, 55, 56] (by decide +kernel) (by decide +kernel)
set_option maxRecDepth 20000 in
theorem gX6_gain_X6_isValid : GoodIn wsX6_gain (wsV RX6 131 RX6 yX6_isValid wsX6_isValid) := goodIn_app (goodIn_of _ (by decide +kernel)) ggX6_gain_X6_isValid
set_option maxRecDepth 20000 in
theorem ggX6_gain_X6_isDone : GoodIn wsX6_gain wsX6_isDone := goodIn_r _ [14, 10, 42, 43, 44, 45, 46, 47, 48, 49, 50, 51, 52, 53, 54, 55, 56] (by decide +kernel) (by decide +kernel)
set_option maxRecDepth 20000 in
theorem gX6_gain_X6_isDone : GoodIn wsX6_gain (wsV RX6 83 RX6 yX6_isDone wsX6_isDone) := goodIn_app (goodIn_of _ (by decide +kernel)) ggX6_gain_X6_isDone
set_option maxRecDepth 20000 in
theorem ggX6_gain_X6_isCell : GoodIn wsX6_gain wsX6_isCell := goodIn_r _ [18, 19, 20, 21, 8, 22, 10, 23, 24, 25, 42, 43, 44, 45, 46, 47, 48, 49, 50, 51, 52, 53, 54, 55, 56] (by decide +kernel) (by decide +kernel)
set_option maxRecDepth 20000 in
theorem gX6_gain_X6_isCell : GoodIn wsX6_gain (wsV RX6 93 RX6 yX6_isCell wsX6_isCell) := goodIn_app (goodIn_of _ (by decide +kernel)) ggX6_gain_X6_isCell
set_option maxRecDepth 20000 in
theorem ggX6_gain_X6_in : GoodIn wsX6_gain wsX6_in := goodIn_r _ [25] (by decide +kernel) (by decide +kernel)
set_option maxRecDepth 20000 in
theorem gX6_gain_X6_in : GoodIn wsX6_gain (va_wsS RX6 52 yX6_in wsX6_in) := goodIn_app (goodIn_of _ (by decide +kernel)) ggX6_gain_X6_in
set_option maxRecDepth 20000 in
theorem ggX6_gain_X6_bestFor : GoodIn wsX6_gain wsX6_bestFor := goodIn_r _ [29, 10, 30, 31, 32, 8, 33, 34, 35, 36, 37, 19, 20, 21, 22, 38, 39, 40, 41, 42, 43, 44, 45, 46, 47, 48, 49, 50, 51, 52, 53, 54, 55, 56] (by decide +kernel) (by decide +kernel)
set_option maxRecDepth 20000 in
theorem gX6_gain_X6_bestFor : GoodIn wsX6_gain (wsV RX6 103 RX6 yX6_bestFor wsX6_bestFor) := goodIn_app (goodIn_of _ (by decide +kernel)) ggX6_gain_X6_bestFor
set_option maxRecDepth 20000 in
theorem ggX6_gain_X6_gainOf : GoodIn wsX6_gain wsX6_gainOf := goodIn_r _ [33, 34, 35, 36, 10, 37, 19, 20, 21, 8, 22, 38, 39, 40, 41, 42, 43, 44, 45, 46, 47, 48, 49, 50, 51, 52, 53, 54, 55, 56] (by decide +kernel) (by decide +kernel)
set_option maxRecDepth 20000 in
theorem gX6_gain_X6_gainOf : GoodIn wsX6_gain (wsV RX6 100 RX6 yX6_gainOf wsX6_gainOf) := goodIn_app (goodIn_of _ (by decide +kernel)) ggX6_gain_X6_gainOf
theorem dX6_gain_0 : decode cX6_gain 0 = .ok (.aload_n 0, 1) := by decide +kernel
theorem dX6_gain_1 : decode cX6_gain 1 = .ok (.invokevirtual 131, 3) := by decide +kernel
theorem dX6_gain_4 : decode cX6_gain 4 = .ok (.ifCond .eq 14, 3) := by decide +kernel
theorem dX6_gain_7 : decode cX6_gain 7 = .ok (.iload_n 2, 1) := by decide +kernel
theorem dX6_gain_8 : decode cX6_gain 8 = .ok (.ifCond .ne 13, 3) := by decide +kernel
theorem dX6_gain_11 : decode cX6_gain 11 = .ok (.aload_n 0, 1) := by decide +kernel
theorem dX6_gain_12 : decode cX6_gain 12 = .ok (.invokevirtual 83, 3) := by decide +kernel
theorem dX6_gain_15 : decode cX6_gain 15 = .ok (.ifCond .ne 6, 3) := by decide +kernel
theorem dX6_gain_18 : decode cX6_gain 18 = .ok (.ldc 134, 2) := by decide +kernel
theorem dX6_gain_20 : decode cX6_gain 20 = .ok (.ireturn, 1) := by decide +kernel
theorem dX6_gain_21 : decode cX6_gain 21 = .ok (.aload_n 0, 1) := by decide +kernel
theorem dX6_gain_22 : decode cX6_gain 22 = .ok (.iload_n 1, 1) := by decide +kernel
theorem dX6_gain_23 : decode cX6_gain 23 = .ok (.invokevirtual 93, 3) := by decide +kernel
theorem dX6_gain_26 : decode cX6_gain 26 = .ok (.ifCond .ne 6, 3) := by decide +kernel
theorem dX6_gain_29 : decode cX6_gain 29 = .ok (.ldc 135, 2) := by decide +kernel
theorem dX6_gain_31 : decode cX6_gain 31 = .ok (.ireturn, 1) := by decide +kernel
theorem dX6_gain_32 : decode cX6_gain 32 = .ok (.iload_n 2, 1) := by decide +kernel
theorem dX6_gain_33 : decode cX6_gain 33 = .ok (.i2l, 1) := by decide +kernel
theorem dX6_gain_34 : decode cX6_gain 34 = .ok (.lconst 0, 1) := by decide +kernel
theorem dX6_gain_35 : decode cX6_gain 35 = .ok (.lconst 1, 1) := by decide +kernel
theorem dX6_gain_36 : decode cX6_gain 36 = .ok (.invokestatic 52, 3) := by decide +kernel
theorem dX6_gain_39 : decode cX6_gain 39 = .ok (.ifCond .ne 6, 3) := by decide +kernel
theorem dX6_gain_42 : decode cX6_gain 42 = .ok (.ldc 136, 2) := by decide +kernel
theorem dX6_gain_44 : decode cX6_gain 44 = .ok (.ireturn, 1) := by decide +kernel
theorem dX6_gain_45 : decode cX6_gain 45 = .ok (.aload_n 0, 1) := by decide +kernel
theorem dX6_gain_46 : decode cX6_gain 46 = .ok (.iload_n 1, 1) := by decide +kernel
theorem dX6_gain_47 : decode cX6_gain 47 = .ok (.iload_n 2, 1) := by decide +kernel
theorem dX6_gain_48 : decode cX6_gain 48 = .ok (.ifCond .ne 12, 3) := by decide +kernel
theorem dX6_gain_51 : decode cX6_gain 51 = .ok (.aload_n 0, 1) := by decide +kernel
theorem dX6_gain_52 : decode cX6_gain 52 = .ok (.getfield 31, 3) := by decide +kernel
theorem dX6_gain_55 : decode cX6_gain 55 = .ok (.iload_n 1, 1) := by decide +kernel
theorem dX6_gain_56 : decode cX6_gain 56 = .ok (.iaload, 1) := by decide +kernel
theorem dX6_gain_57 : decode cX6_gain 57 = .ok (.goto 10, 3) := by decide +kernel
theorem dX6_gain_60 : decode cX6_gain 60 = .ok (.aload_n 0, 1) := by decide +kernel
theorem dX6_gain_61 : decode cX6_gain 61 = .ok (.iload_n 1, 1) := by decide +kernel
theorem dX6_gain_62 : decode cX6_gain 62 = .ok (.bipush (-6), 2) := by decide +kernel
theorem dX6_gain_64 : decode cX6_gain 64 = .ok (.invokevirtual 103, 3) := by decide +kernel
theorem dX6_gain_67 : decode cX6_gain 67 = .ok (.invokevirtual 100, 3) := by decide +kernel
theorem dX6_gain_70 : decode cX6_gain 70 = .ok (.ireturn, 1) := by decide +kernel
set_option maxRecDepth 20000 in
theorem ggX6_total_X6_isDone : GoodIn wsX6_total wsX6_isDone := goodIn_r _ [5, 6, 23, 24, 25, 26, 27, 28, 29, 30, 31, 32, 33, 34, 35, 36, 37] (by decide +kernel) (by decide +kernel)
set_option maxRecDepth 20000 in
theorem gX6_total_X6_isDone : GoodIn wsX6_total (wsV RX6 83 RX6 yX6_isDone wsX6_isDone) := goodIn_app (goodIn_of _ (by decide +kernel)) ggX6_total_X6_isDone
set_option maxRecDepth 20000 in
theorem ggX6_total_X6_sumOf : GoodIn wsX6_total wsX6_sumOf := goodIn_r _ [10, 11, 12, 13, 14, 15, 16, 17, 4, 18, 6, 19, 20, 21, 22, 23, 24, 25, 26, 27, 28, 29, 30, 31, 32, 33, 34, 35, 36, 37] (by decide +kernel) (by decide +kernel)
set_option maxRecDepth 20000 in
theorem gX6_total_X6_sumOf : GoodIn wsX6_total (wsV RX6 128 RX6 yX6_sumOf wsX6_sumOf) := goodIn_app (goodIn_of _ (by decide +kernel)) ggX6_total_X6_sumOf
theorem dX6_total_0 : decode cX6_total 0 = .ok (.aload_n 0, 1) := by decide +kernel
theorem dX6_total_1 : decode cX6_total 1 = .ok (.invokevirtual 83, 3) := by decide +kernel
theorem dX6_total_4 : decode cX6_total 4 = .ok (.ifCond .eq 10, 3) := by decide +kernel
theorem dX6_total_7 : decode cX6_total 7 = .ok (.aload_n 0, 1) := by decide +kernel
theorem dX6_total_8 : decode cX6_total 8 = .ok (.invokevirtual 128, 3) := by decide +kernel
theorem dX6_total_11 : decode cX6_total 11 = .ok (.goto 5, 3) := by decide +kernel
theorem dX6_total_14 : decode cX6_total 14 = .ok (.bipush (-3), 2) := by decide +kernel
theorem dX6_total_16 : decode cX6_total 16 = .ok (.ireturn, 1) := by decide +kernel
theorem dX6_passRow_0 : decode cX6_passRow 0 = .ok (.iconst 0, 1) := by decide +kernel
theorem dX6_passRow_1 : decode cX6_passRow 1 = .ok (.istore_n 3, 1) := by decide +kernel
theorem dX6_passRow_2 : decode cX6_passRow 2 = .ok (.iload_n 3, 1) := by decide +kernel
theorem dX6_passRow_3 : decode cX6_passRow 3 = .ok (.iload_n 2, 1) := by decide +kernel
theorem dX6_passRow_4 : decode cX6_passRow 4 = .ok (.if_icmp .ge 56, 3) := by decide +kernel
theorem dX6_passRow_7 : decode cX6_passRow 7 = .ok (.aload_n 1, 1) := by decide +kernel
theorem dX6_passRow_8 : decode cX6_passRow 8 = .ok (.iload_n 3, 1) := by decide +kernel
theorem dX6_passRow_9 : decode cX6_passRow 9 = .ok (.aload_n 0, 1) := by decide +kernel
theorem dX6_passRow_10 : decode cX6_passRow 10 = .ok (.getfield 137, 3) := by decide +kernel
theorem dX6_passRow_13 : decode cX6_passRow 13 = .ok (.ifCond .eq 9, 3) := by decide +kernel
theorem dX6_passRow_16 : decode cX6_passRow 16 = .ok (.aload_n 1, 1) := by decide +kernel
theorem dX6_passRow_17 : decode cX6_passRow 17 = .ok (.iload_n 3, 1) := by decide +kernel
theorem dX6_passRow_18 : decode cX6_passRow 18 = .ok (.iaload, 1) := by decide +kernel
theorem dX6_passRow_19 : decode cX6_passRow 19 = .ok (.goto 12, 3) := by decide +kernel
theorem dX6_passRow_22 : decode cX6_passRow 22 = .ok (.aload_n 0, 1) := by decide +kernel
theorem dX6_passRow_23 : decode cX6_passRow 23 = .ok (.getfield 43, 3) := by decide +kernel
theorem dX6_passRow_26 : decode cX6_passRow 26 = .ok (.aload_n 0, 1) := by decide +kernel
theorem dX6_passRow_27 : decode cX6_passRow 27 = .ok (.getfield 141, 3) := by decide +kernel
theorem dX6_passRow_30 : decode cX6_passRow 30 = .ok (.iaload, 1) := by decide +kernel
theorem dX6_passRow_31 : decode cX6_passRow 31 = .ok (.iastore, 1) := by decide +kernel
theorem dX6_passRow_32 : decode cX6_passRow 32 = .ok (.aload_n 0, 1) := by decide +kernel
theorem dX6_passRow_33 : decode cX6_passRow 33 = .ok (.getfield 43, 3) := by decide +kernel
theorem dX6_passRow_36 : decode cX6_passRow 36 = .ok (.aload_n 0, 1) := by decide +kernel
theorem dX6_passRow_37 : decode cX6_passRow 37 = .ok (.getfield 141, 3) := by decide +kernel
theorem dX6_passRow_40 : decode cX6_passRow 40 = .ok (.aload_n 1, 1) := by decide +kernel
theorem dX6_passRow_41 : decode cX6_passRow 41 = .ok (.iload_n 3, 1) := by decide +kernel
theorem dX6_passRow_42 : decode cX6_passRow 42 = .ok (.iaload, 1) := by decide +kernel
theorem dX6_passRow_43 : decode cX6_passRow 43 = .ok (.iastore, 1) := by decide +kernel
theorem dX6_passRow_44 : decode cX6_passRow 44 = .ok (.aload_n 0, 1) := by decide +kernel
theorem dX6_passRow_45 : decode cX6_passRow 45 = .ok (.dup, 1) := by decide +kernel
theorem dX6_passRow_46 : decode cX6_passRow 46 = .ok (.getfield 141, 3) := by decide +kernel
theorem dX6_passRow_49 : decode cX6_passRow 49 = .ok (.iconst 1, 1) := by decide +kernel
theorem dX6_passRow_50 : decode cX6_passRow 50 = .ok (.iadd, 1) := by decide +kernel
theorem dX6_passRow_51 : decode cX6_passRow 51 = .ok (.putfield 141, 3) := by decide +kernel
theorem dX6_passRow_54 : decode cX6_passRow 54 = .ok (.iinc 3 1, 3) := by decide +kernel
theorem dX6_passRow_57 : decode cX6_passRow 57 = .ok (.goto (-55), 3) := by decide +kernel
theorem dX6_passRow_60 : decode cX6_passRow 60 = .ok (.return_, 1) := by decide +kernel
set_option maxRecDepth 20000 in
theorem ggX6_passAll_X6_passRow : GoodIn wsX6_passAll wsX6_passRow := goodIn_r _ [16, 17, 18, 19, 20, 21, 22, 23, 24, 25, 26, 27, 28, 29, 30, 31, 32, 33, 34] (by decide +kernel) (by decide +kernel)
set_option maxRecDepth 20000 in
theorem gX6_passAll_X6_passRow : GoodIn wsX6_passAll (wsV RX6 145 RX6 yX6_passRow wsX6_passRow) := goodIn_app (goodIn_of _ (by decide +kernel)) ggX6_passAll_X6_passRow
theorem dX6_passAll_0 : decode cX6_passAll 0 = .ok (.aload_n 0, 1) := by decide +kernel
theorem dX6_passAll_1 : decode cX6_passAll 1 = .ok (.aload_n 0, 1) := by decide +kernel
theorem dX6_passAll_2 : decode cX6_passAll 2 = .ok (.getfield 7, 3) := by decide +kernel
theorem dX6_passAll_5 : decode cX6_passAll 5 = .ok (.bipush 9, 2) := by decide +kernel
theorem dX6_passAll_7 : decode cX6_passAll 7 = .ok (.invokevirtual 145, 3) := by decide +kernel
theorem dX6_passAll_10 : decode cX6_passAll 10 = .ok (.aload_n 0, 1) := by decide +kernel
theorem dX6_passAll_11 : decode cX6_passAll 11 = .ok (.aload_n 0, 1) := by decide +kernel
theorem dX6_passAll_12 : decode cX6_passAll 12 = .ok (.getfield 13, 3) := by decide +kernel
theorem dX6_passAll_15 : decode cX6_passAll 15 = .ok (.bipush 8, 2) := by decide +kernel
theorem dX6_passAll_17 : decode cX6_passAll 17 = .ok (.invokevirtual 145, 3) := by decide +kernel
theorem dX6_passAll_20 : decode cX6_passAll 20 = .ok (.aload_n 0, 1) := by decide +kernel
theorem dX6_passAll_21 : decode cX6_passAll 21 = .ok (.aload_n 0, 1) := by decide +kernel
theorem dX6_passAll_22 : decode cX6_passAll 22 = .ok (.getfield 16, 3) := by decide +kernel
theorem dX6_passAll_25 : decode cX6_passAll 25 = .ok (.bipush 8, 2) := by decide +kernel
theorem dX6_passAll_27 : decode cX6_passAll 27 = .ok (.invokevirtual 145, 3) := by decide +kernel
theorem dX6_passAll_30 : decode cX6_passAll 30 = .ok (.aload_n 0, 1) := by decide +kernel
theorem dX6_passAll_31 : decode cX6_passAll 31 = .ok (.aload_n 0, 1) := by decide +kernel
theorem dX6_passAll_32 : decode cX6_passAll 32 = .ok (.getfield 19, 3) := by decide +kernel
theorem dX6_passAll_35 : decode cX6_passAll 35 = .ok (.bipush 12, 2) := by decide +kernel
theorem dX6_passAll_37 : decode cX6_passAll 37 = .ok (.invokevirtual 145, 3) := by decide +kernel
theorem dX6_passAll_40 : decode cX6_passAll 40 = .ok (.aload_n 0, 1) := by decide +kernel
theorem dX6_passAll_41 : decode cX6_passAll 41 = .ok (.aload_n 0, 1) := by decide +kernel
theorem dX6_passAll_42 : decode cX6_passAll 42 = .ok (.getfield 22, 3) := by decide +kernel
theorem dX6_passAll_45 : decode cX6_passAll 45 = .ok (.bipush 16, 2) := by decide +kernel
theorem dX6_passAll_47 : decode cX6_passAll 47 = .ok (.invokevirtual 145, 3) := by decide +kernel
theorem dX6_passAll_50 : decode cX6_passAll 50 = .ok (.aload_n 0, 1) := by decide +kernel
theorem dX6_passAll_51 : decode cX6_passAll 51 = .ok (.aload_n 0, 1) := by decide +kernel
theorem dX6_passAll_52 : decode cX6_passAll 52 = .ok (.getfield 25, 3) := by decide +kernel
theorem dX6_passAll_55 : decode cX6_passAll 55 = .ok (.bipush 16, 2) := by decide +kernel
theorem dX6_passAll_57 : decode cX6_passAll 57 = .ok (.invokevirtual 145, 3) := by decide +kernel
theorem dX6_passAll_60 : decode cX6_passAll 60 = .ok (.aload_n 0, 1) := by decide +kernel
theorem dX6_passAll_61 : decode cX6_passAll 61 = .ok (.aload_n 0, 1) := by decide +kernel
theorem dX6_passAll_62 : decode cX6_passAll 62 = .ok (.getfield 28, 3) := by decide +kernel
theorem dX6_passAll_65 : decode cX6_passAll 65 = .ok (.bipush 16, 2) := by decide +kernel
theorem dX6_passAll_67 : decode cX6_passAll 67 = .ok (.invokevirtual 145, 3) := by decide +kernel
theorem dX6_passAll_70 : decode cX6_passAll 70 = .ok (.aload_n 0, 1) := by decide +kernel
theorem dX6_passAll_71 : decode cX6_passAll 71 = .ok (.aload_n 0, 1) := by decide +kernel
theorem dX6_passAll_72 : decode cX6_passAll 72 = .ok (.getfield 31, 3) := by decide +kernel
theorem dX6_passAll_75 : decode cX6_passAll 75 = .ok (.bipush 16, 2) := by decide +kernel
theorem dX6_passAll_77 : decode cX6_passAll 77 = .ok (.invokevirtual 145, 3) := by decide +kernel
theorem dX6_passAll_80 : decode cX6_passAll 80 = .ok (.aload_n 0, 1) := by decide +kernel
theorem dX6_passAll_81 : decode cX6_passAll 81 = .ok (.aload_n 0, 1) := by decide +kernel
theorem dX6_passAll_82 : decode cX6_passAll 82 = .ok (.getfield 34, 3) := by decide +kernel
theorem dX6_passAll_85 : decode cX6_passAll 85 = .ok (.bipush 16, 2) := by decide +kernel
theorem dX6_passAll_87 : decode cX6_passAll 87 = .ok (.invokevirtual 145, 3) := by decide +kernel
theorem dX6_passAll_90 : decode cX6_passAll 90 = .ok (.aload_n 0, 1) := by decide +kernel
theorem dX6_passAll_91 : decode cX6_passAll 91 = .ok (.aload_n 0, 1) := by decide +kernel
theorem dX6_passAll_92 : decode cX6_passAll 92 = .ok (.getfield 37, 3) := by decide +kernel
theorem dX6_passAll_95 : decode cX6_passAll 95 = .ok (.bipush 16, 2) := by decide +kernel
theorem dX6_passAll_97 : decode cX6_passAll 97 = .ok (.invokevirtual 145, 3) := by decide +kernel
theorem dX6_passAll_100 : decode cX6_passAll 100 = .ok (.aload_n 0, 1) := by decide +kernel
theorem dX6_passAll_101 : decode cX6_passAll 101 = .ok (.aload_n 0, 1) := by decide +kernel
theorem dX6_passAll_102 : decode cX6_passAll 102 = .ok (.getfield 40, 3) := by decide +kernel
theorem dX6_passAll_105 : decode cX6_passAll 105 = .ok (.bipush 16, 2) := by decide +kernel
theorem dX6_passAll_107 : decode cX6_passAll 107 = .ok (.invokevirtual 145, 3) := by decide +kernel
theorem dX6_passAll_110 : decode cX6_passAll 110 = .ok (.return_, 1) := by decide +kernel
set_option maxRecDepth 20000 in
theorem ggX6_image_X6_in : GoodIn wsX6_image wsX6_in := goodIn_r _ [7] (by decide +kernel) (by decide +kernel)
set_option maxRecDepth 20000 in
theorem gX6_image_X6_in : GoodIn wsX6_image (va_wsS RX6 52 yX6_in wsX6_in) := goodIn_app (goodIn_of _ (by decide +kernel)) ggX6_image_X6_in
set_option maxRecDepth 20000 in
theorem ggX6_image_X6_passAll : GoodIn wsX6_image wsX6_passAll := goodIn_r _ [11, 12, 13, 14, 15, 16, 17, 18, 19, 20, 21, 22, 23, 24, 25, 6, 26, 2, 27, 1, 28, 29, 30, 31, 32, 33, 34, 35, 36, 37, 38, 39, 40, 41, 42] (by decide +kernel) (by decide +kernel)
set_option maxRecDepth 20000 in
theorem gX6_image_X6_passAll : GoodIn wsX6_image (wsV RX6 149 RX6 yX6_passAll wsX6_passAll) := goodIn_app (goodIn_of _ (by decide +kernel)) ggX6_image_X6_passAll
theorem dX6_image_0 : decode cX6_image 0 = .ok (.iload_n 1, 1) := by decide +kernel
theorem dX6_image_1 : decode cX6_image 1 = .ok (.i2l, 1) := by decide +kernel
theorem dX6_image_2 : decode cX6_image 2 = .ok (.lconst 0, 1) := by decide +kernel
theorem dX6_image_3 : decode cX6_image 3 = .ok (.lconst 1, 1) := by decide +kernel
theorem dX6_image_4 : decode cX6_image 4 = .ok (.invokestatic 52, 3) := by decide +kernel
theorem dX6_image_7 : decode cX6_image 7 = .ok (.ifCond .ne 6, 3) := by decide +kernel
theorem dX6_image_10 : decode cX6_image 10 = .ok (.bipush (-2), 2) := by decide +kernel
theorem dX6_image_12 : decode cX6_image 12 = .ok (.ireturn, 1) := by decide +kernel
theorem dX6_image_13 : decode cX6_image 13 = .ok (.aload_n 0, 1) := by decide +kernel
theorem dX6_image_14 : decode cX6_image 14 = .ok (.sipush 149, 3) := by decide +kernel
theorem dX6_image_17 : decode cX6_image 17 = .ok (.iload_n 1, 1) := by decide +kernel
theorem dX6_image_18 : decode cX6_image 18 = .ok (.imul, 1) := by decide +kernel
theorem dX6_image_19 : decode cX6_image 19 = .ok (.putfield 141, 3) := by decide +kernel
theorem dX6_image_22 : decode cX6_image 22 = .ok (.aload_n 0, 1) := by decide +kernel
theorem dX6_image_23 : decode cX6_image 23 = .ok (.iconst 1, 1) := by decide +kernel
theorem dX6_image_24 : decode cX6_image 24 = .ok (.putfield 137, 3) := by decide +kernel
theorem dX6_image_27 : decode cX6_image 27 = .ok (.aload_n 0, 1) := by decide +kernel
theorem dX6_image_28 : decode cX6_image 28 = .ok (.invokevirtual 149, 3) := by decide +kernel
theorem dX6_image_31 : decode cX6_image 31 = .ok (.aload_n 0, 1) := by decide +kernel
theorem dX6_image_32 : decode cX6_image 32 = .ok (.getfield 46, 3) := by decide +kernel
theorem dX6_image_35 : decode cX6_image 35 = .ok (.iload_n 1, 1) := by decide +kernel
theorem dX6_image_36 : decode cX6_image 36 = .ok (.iconst 1, 1) := by decide +kernel
theorem dX6_image_37 : decode cX6_image 37 = .ok (.bastore, 1) := by decide +kernel
theorem dX6_image_38 : decode cX6_image 38 = .ok (.iconst 1, 1) := by decide +kernel
theorem dX6_image_39 : decode cX6_image 39 = .ok (.ireturn, 1) := by decide +kernel
set_option maxRecDepth 20000 in
theorem ggX6_restore_X6_in : GoodIn wsX6_restore wsX6_in := goodIn_r _ [7] (by decide +kernel) (by decide +kernel)
set_option maxRecDepth 20000 in
theorem gX6_restore_X6_in : GoodIn wsX6_restore (va_wsS RX6 52 yX6_in wsX6_in) := goodIn_app (goodIn_of _ (by decide +kernel)) ggX6_restore_X6_in
set_option maxRecDepth 20000 in
theorem ggX6_restore_X6_passAll : GoodIn wsX6_restore wsX6_passAll := goodIn_r _ [11, 12, 13, 14, 15, 16, 17, 18, 19, 20, 21, 22, 23, 24, 25, 6, 26, 3, 27, 2, 28, 29, 30, 31, 32, 33, 34, 35, 36, 37, 38, 39, 40, 41, 42] (by decide +kernel) (by decide +kernel)
set_option maxRecDepth 20000 in
theorem gX6_restore_X6_passAll : GoodIn wsX6_restore (wsV RX6 149 RX6 yX6_passAll wsX6_passAll) := goodIn_app (goodIn_of _ (by decide +kernel)) ggX6_restore_X6_passAll
theorem dX6_restore_0 : decode cX6_restore 0 = .ok (.iload_n 1, 1) := by decide +kernel
theorem dX6_restore_1 : decode cX6_restore 1 = .ok (.i2l, 1) := by decide +kernel
theorem dX6_restore_2 : decode cX6_restore 2 = .ok (.lconst 0, 1) := by decide +kernel
theorem dX6_restore_3 : decode cX6_restore 3 = .ok (.lconst 1, 1) := by decide +kernel
theorem dX6_restore_4 : decode cX6_restore 4 = .ok (.invokestatic 52, 3) := by decide +kernel
theorem dX6_restore_7 : decode cX6_restore 7 = .ok (.ifCond .ne 6, 3) := by decide +kernel
theorem dX6_restore_10 : decode cX6_restore 10 = .ok (.bipush (-2), 2) := by decide +kernel
theorem dX6_restore_12 : decode cX6_restore 12 = .ok (.ireturn, 1) := by decide +kernel
theorem dX6_restore_13 : decode cX6_restore 13 = .ok (.aload_n 0, 1) := by decide +kernel
theorem dX6_restore_14 : decode cX6_restore 14 = .ok (.getfield 46, 3) := by decide +kernel
theorem dX6_restore_17 : decode cX6_restore 17 = .ok (.iload_n 1, 1) := by decide +kernel
theorem dX6_restore_18 : decode cX6_restore 18 = .ok (.baload, 1) := by decide +kernel
theorem dX6_restore_19 : decode cX6_restore 19 = .ok (.ifCond .ne 6, 3) := by decide +kernel
theorem dX6_restore_22 : decode cX6_restore 22 = .ok (.bipush (-3), 2) := by decide +kernel
theorem dX6_restore_24 : decode cX6_restore 24 = .ok (.ireturn, 1) := by decide +kernel
theorem dX6_restore_25 : decode cX6_restore 25 = .ok (.aload_n 0, 1) := by decide +kernel
theorem dX6_restore_26 : decode cX6_restore 26 = .ok (.sipush 149, 3) := by decide +kernel
theorem dX6_restore_29 : decode cX6_restore 29 = .ok (.iload_n 1, 1) := by decide +kernel
theorem dX6_restore_30 : decode cX6_restore 30 = .ok (.imul, 1) := by decide +kernel
theorem dX6_restore_31 : decode cX6_restore 31 = .ok (.putfield 141, 3) := by decide +kernel
theorem dX6_restore_34 : decode cX6_restore 34 = .ok (.aload_n 0, 1) := by decide +kernel
theorem dX6_restore_35 : decode cX6_restore 35 = .ok (.iconst 0, 1) := by decide +kernel
theorem dX6_restore_36 : decode cX6_restore 36 = .ok (.putfield 137, 3) := by decide +kernel
theorem dX6_restore_39 : decode cX6_restore 39 = .ok (.aload_n 0, 1) := by decide +kernel
theorem dX6_restore_40 : decode cX6_restore 40 = .ok (.invokevirtual 149, 3) := by decide +kernel
theorem dX6_restore_43 : decode cX6_restore 43 = .ok (.iconst 1, 1) := by decide +kernel
theorem dX6_restore_44 : decode cX6_restore 44 = .ok (.ireturn, 1) := by decide +kernel
set_option maxRecDepth 20000 in
theorem ggX6_told_X6_isCell : GoodIn wsX6_told wsX6_isCell := goodIn_r _ [8, 9, 10, 11, 7, 12, 3, 13, 14, 15, 25, 26, 27, 28, 29, 30, 31, 32, 33, 34, 35, 36, 37, 38, 39] (by decide +kernel) (by decide +kernel)
set_option maxRecDepth 20000 in
theorem gX6_told_X6_isCell : GoodIn wsX6_told (wsV RX6 93 RX6 yX6_isCell wsX6_isCell) := goodIn_app (goodIn_of _ (by decide +kernel)) ggX6_told_X6_isCell
set_option maxRecDepth 20000 in
theorem ggX6_told_X6_stocks : GoodIn wsX6_told wsX6_stocks := goodIn_r _ [19, 20, 21, 22, 23, 7, 24, 3, 25, 26, 27, 28, 29, 30, 31, 32, 33, 34, 35, 36, 37, 38, 39] (by decide +kernel) (by decide +kernel)
set_option maxRecDepth 20000 in
theorem gX6_told_X6_stocks : GoodIn wsX6_told (wsV RX6 77 RX6 yX6_stocks wsX6_stocks) := goodIn_app (goodIn_of _ (by decide +kernel)) ggX6_told_X6_stocks
set_option maxRecDepth 20000 in
theorem ggX6_told_X6_in : GoodIn wsX6_told wsX6_in := goodIn_r _ [15] (by decide +kernel) (by decide +kernel)
set_option maxRecDepth 20000 in
theorem gX6_told_X6_in : GoodIn wsX6_told (va_wsS RX6 52 yX6_in wsX6_in) := goodIn_app (goodIn_of _ (by decide +kernel)) ggX6_told_X6_in
theorem dX6_told_0 : decode cX6_told 0 = .ok (.aload_n 0, 1) := by decide +kernel
theorem dX6_told_1 : decode cX6_told 1 = .ok (.iload_n 1, 1) := by decide +kernel
theorem dX6_told_2 : decode cX6_told 2 = .ok (.bipush 100, 2) := by decide +kernel
theorem dX6_told_4 : decode cX6_told 4 = .ok (.isub, 1) := by decide +kernel
theorem dX6_told_5 : decode cX6_told 5 = .ok (.invokevirtual 93, 3) := by decide +kernel
theorem dX6_told_8 : decode cX6_told 8 = .ok (.ifCond .eq 13, 3) := by decide +kernel
theorem dX6_told_11 : decode cX6_told 11 = .ok (.aload_n 0, 1) := by decide +kernel
theorem dX6_told_12 : decode cX6_told 12 = .ok (.getfield 19, 3) := by decide +kernel
theorem dX6_told_15 : decode cX6_told 15 = .ok (.iload_n 1, 1) := by decide +kernel
theorem dX6_told_16 : decode cX6_told 16 = .ok (.bipush 100, 2) := by decide +kernel
theorem dX6_told_18 : decode cX6_told 18 = .ok (.isub, 1) := by decide +kernel
theorem dX6_told_19 : decode cX6_told 19 = .ok (.iaload, 1) := by decide +kernel
theorem dX6_told_20 : decode cX6_told 20 = .ok (.ireturn, 1) := by decide +kernel
theorem dX6_told_21 : decode cX6_told 21 = .ok (.iload_n 1, 1) := by decide +kernel
theorem dX6_told_22 : decode cX6_told 22 = .ok (.iconst 4, 1) := by decide +kernel
theorem dX6_told_23 : decode cX6_told 23 = .ok (.if_icmp .ne 8, 3) := by decide +kernel
theorem dX6_told_26 : decode cX6_told 26 = .ok (.aload_n 0, 1) := by decide +kernel
theorem dX6_told_27 : decode cX6_told 27 = .ok (.invokevirtual 77, 3) := by decide +kernel
theorem dX6_told_30 : decode cX6_told 30 = .ok (.ireturn, 1) := by decide +kernel
theorem dX6_told_31 : decode cX6_told 31 = .ok (.iload_n 1, 1) := by decide +kernel
theorem dX6_told_32 : decode cX6_told 32 = .ok (.i2l, 1) := by decide +kernel
theorem dX6_told_33 : decode cX6_told 33 = .ok (.lconst 0, 1) := by decide +kernel
theorem dX6_told_34 : decode cX6_told 34 = .ok (.ldc2_w 152, 3) := by decide +kernel
theorem dX6_told_37 : decode cX6_told 37 = .ok (.invokestatic 52, 3) := by decide +kernel
theorem dX6_told_40 : decode cX6_told 40 = .ok (.ifCond .eq 12, 3) := by decide +kernel
theorem dX6_told_43 : decode cX6_told 43 = .ok (.aload_n 0, 1) := by decide +kernel
theorem dX6_told_44 : decode cX6_told 44 = .ok (.getfield 7, 3) := by decide +kernel
theorem dX6_told_47 : decode cX6_told 47 = .ok (.iload_n 1, 1) := by decide +kernel
theorem dX6_told_48 : decode cX6_told 48 = .ok (.iaload, 1) := by decide +kernel
theorem dX6_told_49 : decode cX6_told 49 = .ok (.goto 5, 3) := by decide +kernel
theorem dX6_told_52 : decode cX6_told 52 = .ok (.bipush (-2), 2) := by decide +kernel
theorem dX6_told_54 : decode cX6_told 54 = .ok (.ireturn, 1) := by decide +kernel
theorem dJ9_abs_0f7a4_0 : decode cJ9_abs_0f7a4 0 = .ok (.iload_n 0, 1) := by decide +kernel
theorem dJ9_abs_0f7a4_1 : decode cJ9_abs_0f7a4 1 = .ok (.ifCond .ge 8, 3) := by decide +kernel
theorem dJ9_abs_0f7a4_4 : decode cJ9_abs_0f7a4 4 = .ok (.iload_n 0, 1) := by decide +kernel
theorem dJ9_abs_0f7a4_5 : decode cJ9_abs_0f7a4 5 = .ok (.ineg, 1) := by decide +kernel
theorem dJ9_abs_0f7a4_6 : decode cJ9_abs_0f7a4 6 = .ok (.goto 4, 3) := by decide +kernel
theorem dJ9_abs_0f7a4_9 : decode cJ9_abs_0f7a4 9 = .ok (.iload_n 0, 1) := by decide +kernel
theorem dJ9_abs_0f7a4_10 : decode cJ9_abs_0f7a4 10 = .ok (.ireturn, 1) := by decide +kernel
theorem dJ9_max_7cf53_0 : decode cJ9_max_7cf53 0 = .ok (.iload_n 0, 1) := by decide +kernel
theorem dJ9_max_7cf53_1 : decode cJ9_max_7cf53 1 = .ok (.iload_n 1, 1) := by decide +kernel
theorem dJ9_max_7cf53_2 : decode cJ9_max_7cf53 2 = .ok (.if_icmp .lt 7, 3) := by decide +kernel
theorem dJ9_max_7cf53_5 : decode cJ9_max_7cf53 5 = .ok (.iload_n 0, 1) := by decide +kernel
theorem dJ9_max_7cf53_6 : decode cJ9_max_7cf53 6 = .ok (.goto 4, 3) := by decide +kernel
theorem dJ9_max_7cf53_9 : decode cJ9_max_7cf53 9 = .ok (.iload_n 1, 1) := by decide +kernel
theorem dJ9_max_7cf53_10 : decode cJ9_max_7cf53 10 = .ok (.ireturn, 1) := by decide +kernel
theorem dJ9_min_7cf53_0 : decode cJ9_min_7cf53 0 = .ok (.iload_n 0, 1) := by decide +kernel
theorem dJ9_min_7cf53_1 : decode cJ9_min_7cf53 1 = .ok (.iload_n 1, 1) := by decide +kernel
theorem dJ9_min_7cf53_2 : decode cJ9_min_7cf53 2 = .ok (.if_icmp .gt 7, 3) := by decide +kernel
theorem dJ9_min_7cf53_5 : decode cJ9_min_7cf53 5 = .ok (.iload_n 0, 1) := by decide +kernel
theorem dJ9_min_7cf53_6 : decode cJ9_min_7cf53 6 = .ok (.goto 4, 3) := by decide +kernel
theorem dJ9_min_7cf53_9 : decode cJ9_min_7cf53 9 = .ok (.iload_n 1, 1) := by decide +kernel
theorem dJ9_min_7cf53_10 : decode cJ9_min_7cf53 10 = .ok (.ireturn, 1) := by decide +kernel
end
section
set_option maxRecDepth 20000 in
theorem ggL_law_X5_init : GoodIn wsL_law wsX5_init := goodIn_r _ [8, 9, 10, 11, 12, 13, 14, 15, 16, 17, 18, 19, 20, 21, 22, 23, 24, 25, 26, 27, 28, 29, 30, 31, 32, 33, 34, 35, 36, 37, 38, 39, 40, 41, 42, 43, 44, 45, 46, 47, 48, 49, 50, 51, 52, 53, 54, 55, 56, 57, 58, 59, 60, 61, 62, 63, 546, 547, 548, 549, 528, 529, 530, 550, 551, 552, 553, 554, 555, 556, 557, 558, 559, 560, 561, 562, 563, 564, 565, 566, 567, 568, 569] (by decide +kernel) (by decide +kernel)
set_option maxRecDepth 20000 in
theorem gL_law_X5_init : GoodIn wsL_law (wsX5_init) := ggL_law_X5_init
set_option maxRecDepth 20000 in
theorem ggL_law_X6_init : GoodIn wsL_law wsX6_init := goodIn_r _ [66, 67, 10, 11, 27, 68, 69, 70, 71, 72, 73, 74, 75, 76, 77, 78, 79, 80, 81, 531, 532, 533, 534, 535, 536, 537, 538, 539, 540, 541, 542, 543, 544, 545] (by decide +kernel) (by decide +kernel)
set_option maxRecDepth 20000 in
theorem gL_law_X6_init : GoodIn wsL_law (wsX6_init) := ggL_law_X6_init
set_option maxRecDepth 20000 in
theorem ggL_law_X5_mode : GoodIn wsL_law wsX5_mode := goodIn_r _ [85, 16, 528, 529, 530, 550, 551, 552, 553, 554, 560, 561, 562, 563, 564, 565, 566, 567, 568, 569] (by decide +kernel) (by decide +kernel)
set_option maxRecDepth 20000 in
theorem gL_law_X5_mode : GoodIn wsL_law (wsV RL 13 RX5 yX5_mode wsX5_mode) := goodIn_app (goodIn_of _ (by decide +kernel)) ggL_law_X5_mode
set_option maxRecDepth 20000 in
theorem ggL_law_X6_mode : GoodIn wsL_law wsX6_mode := goodIn_r _ [89, 68, 90, 91, 5, 92, 93, 94, 95, 96, 531, 532, 533, 534, 535, 536, 537, 538, 539, 540, 541, 542, 543, 544, 545] (by decide +kernel) (by decide +kernel)
set_option maxRecDepth 20000 in
theorem gL_law_X6_mode : GoodIn wsL_law (wsV RL 17 RX6 yX6_mode wsX6_mode) := goodIn_app (goodIn_of _ (by decide +kernel)) ggL_law_X6_mode
set_option maxRecDepth 20000 in
theorem ggL_law_X5_shrink : GoodIn wsL_law wsX5_shrink := goodIn_r _ [100, 16, 528, 529, 530, 550, 551, 552, 553, 554] (by decide +kernel) (by decide +kernel)
set_option maxRecDepth 20000 in
theorem gL_law_X5_shrink : GoodIn wsL_law (wsV RL 18 RX5 yX5_shrink wsX5_shrink) := goodIn_app (goodIn_of _ (by decide +kernel)) ggL_law_X5_shrink
set_option maxRecDepth 20000 in
theorem ggL_law_X6_shrink : GoodIn wsL_law wsX6_shrink := goodIn_r _ [104, 105, 106, 68, 90, 91, 5, 92, 531, 532, 533, 534, 535, 536, 537, 538, 539, 540, 541, 542, 543, 544, 545] (by decide +kernel) (by decide +kernel)
set_option maxRecDepth 20000 in
theorem gL_law_X6_shrink : GoodIn wsL_law (wsV RL 21 RX6 yX6_shrink wsX6_shrink) := goodIn_app (goodIn_of _ (by decide +kernel)) ggL_law_X6_shrink
set_option maxRecDepth 20000 in
theorem ggL_law_X5_stock : GoodIn wsL_law wsX5_stock := goodIn_r _ [110, 16, 111, 112, 2, 113, 114, 36, 115, 116, 50, 117, 118, 119, 120, 121, 49, 122, 123, 124, 125, 126, 127, 128, 129, 130, 131, 132, 133, 134, 135, 136, 528, 529, 530, 550, 551, 552, 553, 554, 560, 561, 562, 563, 564, 565, 566, 567, 568, 569, 555, 556, 557] (by decide +kernel) (by decide +kernel)
set_option maxRecDepth 20000 in
theorem gL_law_X5_stock : GoodIn wsL_law (wsV RL 22 RX5 yX5_stock wsX5_stock) := goodIn_app (goodIn_of _ (by decide +kernel)) ggL_law_X5_stock
set_option maxRecDepth 20000 in
theorem ggL_law_X6_stock : GoodIn wsL_law wsX6_stock := goodIn_r _ [140, 141, 70, 69, 68, 142, 143, 5, 144, 145, 90, 91, 92, 146, 147, 148, 149, 150, 151, 152, 153, 154, 155, 156, 157, 93, 94, 95, 96, 531, 532, 533, 534, 535, 536, 537, 538, 539, 540, 541, 542, 543, 544, 545] (by decide +kernel) (by decide +kernel)
set_option maxRecDepth 20000 in
theorem gL_law_X6_stock : GoodIn wsL_law (wsV RL 26 RX6 yX6_stock wsX6_stock) := goodIn_app (goodIn_of _ (by decide +kernel)) ggL_law_X6_stock
set_option maxRecDepth 20000 in
theorem ggL_law_X5_drop : GoodIn wsL_law wsX5_drop := goodIn_r _ [161, 16, 111, 112, 2, 113, 119, 36, 120, 121, 117, 49, 162, 163, 164, 50, 122, 123, 124, 125, 528, 529, 530, 550, 551, 552, 553, 554, 560, 561, 562, 563, 564, 565, 566, 567, 568, 569, 555, 556, 557] (by decide +kernel) (by decide +kernel)
set_option maxRecDepth 20000 in
theorem gL_law_X5_drop : GoodIn wsL_law (wsV RL 27 RX5 yX5_drop wsX5_drop) := goodIn_app (goodIn_of _ (by decide +kernel)) ggL_law_X5_drop
set_option maxRecDepth 20000 in
theorem ggL_law_X6_drop : GoodIn wsL_law wsX6_drop := goodIn_r _ [168, 68, 69, 70, 142, 143, 5, 144, 145, 90, 91, 92, 146, 147, 148, 149, 150, 151, 152, 153, 93, 94, 95, 96, 531, 532, 533, 534, 535, 536, 537, 538, 539, 540, 541, 542, 543, 544, 545] (by decide +kernel) (by decide +kernel)
set_option maxRecDepth 20000 in
theorem gL_law_X6_drop : GoodIn wsL_law (wsV RL 30 RX6 yX6_drop wsX6_drop) := goodIn_app (goodIn_of _ (by decide +kernel)) ggL_law_X6_drop
set_option maxRecDepth 20000 in
theorem ggL_law_X5_kind : GoodIn wsL_law wsX5_kind := goodIn_r _ [172, 16, 123, 36, 124, 125, 117, 131, 132, 133, 50, 173, 44, 174, 175, 176, 177, 178, 24, 179, 180, 41, 181, 182, 183, 184, 37, 45, 185, 186, 187, 60, 188, 189, 190, 191, 192, 193, 528, 529, 530, 550, 551, 552, 553, 554, 555, 556, 557, 560, 561, 562, 563, 564, 565, 566, 567, 568, 569, 558, 559] (by decide +kernel) (by decide +kernel)
set_option maxRecDepth 20000 in
theorem gL_law_X5_kind : GoodIn wsL_law (wsV RL 31 RX5 yX5_kind wsX5_kind) := goodIn_app (goodIn_of _ (by decide +kernel)) ggL_law_X5_kind
set_option maxRecDepth 20000 in
theorem ggL_law_X6_kind : GoodIn wsL_law wsX6_kind := goodIn_r _ [197, 69, 70, 150, 151, 152, 5, 153, 68, 90, 91, 92, 198, 199, 200, 201, 202, 203, 204, 205, 73, 75, 206, 207, 208, 209, 210, 211, 212, 213, 531, 532, 533, 534, 535, 536, 537, 538, 539, 540, 541, 542, 543, 544, 545] (by decide +kernel) (by decide +kernel)
set_option maxRecDepth 20000 in
theorem gL_law_X6_kind : GoodIn wsL_law (wsV RL 34 RX6 yX6_kind wsX6_kind) := goodIn_app (goodIn_of _ (by decide +kernel)) ggL_law_X6_kind
set_option maxRecDepth 20000 in
theorem ggL_law_X5_find : GoodIn wsL_law wsX5_find := goodIn_r _ [217, 16, 111, 112, 2, 113, 119, 36, 120, 121, 117, 49, 528, 529, 530, 550, 551, 552, 553, 554, 555, 556, 557] (by decide +kernel) (by decide +kernel)
set_option maxRecDepth 20000 in
theorem gL_law_X5_find : GoodIn wsL_law (wsV RL 35 RX5 yX5_find wsX5_find) := goodIn_app (goodIn_of _ (by decide +kernel)) ggL_law_X5_find
set_option maxRecDepth 20000 in
theorem ggL_law_X6_find : GoodIn wsL_law wsX6_find := goodIn_r _ [221, 142, 143, 5, 144, 145, 90, 91, 92, 146, 147, 148, 149, 69, 150, 151, 152, 153, 68, 531, 532, 533, 534, 535, 536, 537, 538, 539, 540, 541, 542, 543, 544, 545] (by decide +kernel) (by decide +kernel)
set_option maxRecDepth 20000 in
theorem gL_law_X6_find : GoodIn wsL_law (wsV RL 38 RX6 yX6_find wsX6_find) := goodIn_app (goodIn_of _ (by decide +kernel)) ggL_law_X6_find
set_option maxRecDepth 20000 in
theorem ggL_law_X5_cell : GoodIn wsL_law wsX5_cell := goodIn_r _ [225, 16, 111, 112, 2, 113, 226, 40, 227, 228, 229, 54, 528, 529, 530, 550, 551, 552, 553, 554, 558, 559, 560, 561, 562, 563, 564, 565, 566, 567, 568, 569] (by decide +kernel) (by decide +kernel)
set_option maxRecDepth 20000 in
theorem gL_law_X5_cell : GoodIn wsL_law (wsV RL 39 RX5 yX5_cell wsX5_cell) := goodIn_app (goodIn_of _ (by decide +kernel)) ggL_law_X5_cell
set_option maxRecDepth 20000 in
theorem ggL_law_X6_cell : GoodIn wsL_law wsX6_cell := goodIn_r _ [233, 71, 68, 142, 143, 5, 144, 145, 90, 91, 92, 206, 207, 208, 209, 93, 94, 95, 96, 531, 532, 533, 534, 535, 536, 537, 538, 539, 540, 541, 542, 543, 544, 545] (by decide +kernel) (by decide +kernel)
set_option maxRecDepth 20000 in
theorem gL_law_X6_cell : GoodIn wsL_law (wsV RL 42 RX6 yX6_cell wsX6_cell) := goodIn_app (goodIn_of _ (by decide +kernel)) ggL_law_X6_cell
set_option maxRecDepth 20000 in
theorem ggL_law_X5_change : GoodIn wsL_law wsX5_change := goodIn_r _ [237, 16, 238, 40, 239, 240, 229, 111, 112, 2, 113, 528, 529, 530, 550, 551, 552, 553, 554, 558, 559, 560, 561, 562, 563, 564, 565, 566, 567, 568, 569] (by decide +kernel) (by decide +kernel)
set_option maxRecDepth 20000 in
theorem gL_law_X5_change : GoodIn wsL_law (wsV RL 43 RX5 yX5_change wsX5_change) := goodIn_app (goodIn_of _ (by decide +kernel)) ggL_law_X5_change
set_option maxRecDepth 20000 in
theorem ggL_law_X6_change : GoodIn wsL_law wsX6_change := goodIn_r _ [244, 71, 68, 245, 246, 247, 5, 248, 206, 207, 208, 209, 90, 91, 92, 142, 143, 144, 145, 531, 532, 533, 534, 535, 536, 537, 538, 539, 540, 541, 542, 543, 544, 545] (by decide +kernel) (by decide +kernel)
set_option maxRecDepth 20000 in
theorem gL_law_X6_change : GoodIn wsL_law (wsV RL 46 RX6 yX6_change wsX6_change) := goodIn_app (goodIn_of _ (by decide +kernel)) ggL_law_X6_change
set_option maxRecDepth 20000 in
theorem ggL_law_X5_remove : GoodIn wsL_law wsX5_remove := goodIn_r _ [252, 16, 238, 40, 239, 240, 229, 253, 254, 255, 54, 256, 528, 529, 530, 550, 551, 552, 553, 554, 560, 561, 562, 563, 564, 565, 566, 567, 568, 569, 558, 559] (by decide +kernel) (by decide +kernel)
set_option maxRecDepth 20000 in
theorem gL_law_X5_remove : GoodIn wsL_law (wsV RL 47 RX5 yX5_remove wsX5_remove) := goodIn_app (goodIn_of _ (by decide +kernel)) ggL_law_X5_remove
set_option maxRecDepth 20000 in
theorem ggL_law_X6_remove : GoodIn wsL_law wsX6_remove := goodIn_r _ [260, 68, 71, 245, 246, 247, 5, 248, 206, 207, 208, 209, 90, 91, 92, 93, 94, 95, 96, 531, 532, 533, 534, 535, 536, 537, 538, 539, 540, 541, 542, 543, 544, 545] (by decide +kernel) (by decide +kernel)
set_option maxRecDepth 20000 in
theorem gL_law_X6_remove : GoodIn wsL_law (wsV RL 50 RX6 yX6_remove wsX6_remove) := goodIn_app (goodIn_of _ (by decide +kernel)) ggL_law_X6_remove
set_option maxRecDepth 20000 in
theorem ggL_law_X5_difference : GoodIn wsL_law wsX5_difference := goodIn_r _ [264, 16, 238, 40, 239, 240, 229, 123, 36, 124, 125, 117, 265, 24, 266, 267, 41, 37, 32, 268, 2, 269, 270, 271, 272, 273, 528, 529, 530, 550, 551, 552, 553, 554, 558, 559, 555, 556, 557] (by decide +kernel) (by decide +kernel)
set_option maxRecDepth 20000 in
theorem gL_law_X5_difference : GoodIn wsL_law (wsV RL 51 RX5 yX5_difference wsX5_difference) := goodIn_app (goodIn_of _ (by decide +kernel)) ggL_law_X5_difference
set_option maxRecDepth 20000 in
theorem ggL_law_X6_difference : GoodIn wsL_law wsX6_difference := goodIn_r _ [277, 71, 69, 245, 246, 247, 5, 248, 206, 207, 208, 209, 68, 90, 91, 92, 150, 151, 152, 153, 278, 279, 280, 281, 531, 532, 533, 534, 535, 536, 537, 538, 539, 540, 541, 542, 543, 544, 545] (by decide +kernel) (by decide +kernel)
set_option maxRecDepth 20000 in
theorem gL_law_X6_difference : GoodIn wsL_law (wsV RL 54 RX6 yX6_difference wsX6_difference) := goodIn_app (goodIn_of _ (by decide +kernel)) ggL_law_X6_difference
set_option maxRecDepth 20000 in
theorem ggL_law_X5_auction : GoodIn wsL_law wsX5_auction := goodIn_r _ [285, 16, 15, 127, 36, 128, 129, 117, 130, 131, 132, 133, 50, 286, 14, 287, 288, 26, 25, 289, 290, 291, 272, 292, 293, 294, 295, 296, 297, 298, 299, 28, 191, 192, 193, 300, 301, 302, 303, 238, 40, 239, 240, 229, 265, 24, 266, 267, 41, 37, 32, 123, 124, 125, 268, 2, 269, 270, 271, 273, 304, 44, 305, 306, 307, 58, 308, 309, 310, 311, 312, 313, 314, 315, 316, 317, 318, 319, 59, 60, 320, 321, 322, 323, 324, 325, 326, 327, 328, 329, 330, 331, 332, 189, 190, 333, 334, 335, 188, 336, 337, 338, 181, 182, 183, 184, 45, 185, 186, 187, 339, 340, 341, 61, 62, 63, 342, 343, 344, 345, 176, 177, 528, 529, 530, 550, 551, 552, 553, 554, 558, 559, 555, 556, 557, 546, 547, 548, 549, 560, 561, 562, 563, 564, 565, 566, 567, 568, 569] (by decide +kernel) (by decide +kernel)
set_option maxRecDepth 20000 in
theorem gL_law_X5_auction : GoodIn wsL_law (wsV RL 55 RX5 yX5_auction wsX5_auction) := goodIn_app (goodIn_of _ (by decide +kernel)) ggL_law_X5_auction
set_option maxRecDepth 20000 in
theorem ggL_law_X6_auction : GoodIn wsL_law wsX6_auction := goodIn_r _ [349, 68, 76, 77, 78, 154, 155, 156, 5, 157, 70, 150, 151, 152, 153, 206, 207, 208, 209, 350, 351, 352, 353, 73, 72, 354, 355, 356, 357, 71, 69, 278, 279, 280, 281, 358, 359, 360, 361, 362, 363, 364, 74, 75, 365, 366, 367, 368, 369, 370, 371, 372, 373, 374, 375, 376, 377, 378, 379, 380, 381, 382, 383, 384, 385, 386, 387, 388, 531, 532, 533, 534, 535, 536, 537, 538, 539, 540, 541, 542, 543, 544, 545] (by decide +kernel) (by decide +kernel)
set_option maxRecDepth 20000 in
theorem gL_law_X6_auction : GoodIn wsL_law (wsV RL 59 RX6 yX6_auction wsX6_auction) := goodIn_app (goodIn_of _ (by decide +kernel)) ggL_law_X6_auction
set_option maxRecDepth 20000 in
theorem ggL_law_X5_repair : GoodIn wsL_law wsX5_repair := goodIn_r _ [392, 16, 15, 393, 14, 394, 395, 289, 26, 293, 294, 295, 296, 25, 297, 298, 272, 299, 28, 127, 36, 128, 129, 117, 130, 131, 132, 133, 50, 191, 192, 193, 300, 301, 302, 303, 238, 40, 239, 240, 229, 265, 24, 266, 267, 41, 37, 32, 123, 124, 125, 268, 2, 269, 270, 271, 273, 396, 397, 398, 399, 185, 44, 186, 187, 60, 188, 189, 190, 400, 401, 402, 403, 404, 405, 406, 407, 290, 291, 292, 408, 409, 410, 59, 320, 321, 322, 323, 324, 325, 326, 327, 328, 329, 330, 331, 332, 333, 334, 335, 342, 343, 344, 345, 176, 177, 528, 529, 530, 550, 551, 552, 553, 554, 560, 561, 562, 563, 564, 565, 566, 567, 568, 569, 546, 547, 548, 549, 555, 556, 557, 558, 559] (by decide +kernel) (by decide +kernel)
set_option maxRecDepth 20000 in
theorem gL_law_X5_repair : GoodIn wsL_law (wsV RL 60 RX5 yX5_repair wsX5_repair) := goodIn_app (goodIn_of _ (by decide +kernel)) ggL_law_X5_repair
set_option maxRecDepth 20000 in
theorem ggL_law_X6_repair : GoodIn wsL_law wsX6_repair := goodIn_r _ [414, 68, 75, 74, 415, 416, 417, 5, 418, 210, 211, 212, 213, 381, 382, 383, 384, 71, 69, 73, 72, 206, 207, 208, 209, 278, 279, 280, 281, 377, 378, 379, 380, 365, 366, 367, 368, 369, 370, 371, 372, 373, 374, 375, 376, 531, 532, 533, 534, 535, 536, 537, 538, 539, 540, 541, 542, 543, 544, 545] (by decide +kernel) (by decide +kernel)
set_option maxRecDepth 20000 in
theorem gL_law_X6_repair : GoodIn wsL_law (wsV RL 63 RX6 yX6_repair wsX6_repair) := goodIn_app (goodIn_of _ (by decide +kernel)) ggL_law_X6_repair
set_option maxRecDepth 20000 in
theorem ggL_law_X5_phase : GoodIn wsL_law wsX5_phase := goodIn_r _ [422, 16, 423, 44, 424, 425, 307, 528, 529, 530, 550, 551, 552, 553, 554, 560, 561, 562, 563, 564, 565, 566, 567, 568, 569] (by decide +kernel) (by decide +kernel)
set_option maxRecDepth 20000 in
theorem gL_law_X5_phase : GoodIn wsL_law (wsV RL 64 RX5 yX5_phase wsX5_phase) := goodIn_app (goodIn_of _ (by decide +kernel)) ggL_law_X5_phase
set_option maxRecDepth 20000 in
theorem ggL_law_X6_phase : GoodIn wsL_law wsX6_phase := goodIn_r _ [429, 68, 76, 77, 78, 415, 416, 417, 5, 418, 90, 91, 92, 531, 532, 533, 534, 535, 536, 537, 538, 539, 540, 541, 542, 543, 544, 545] (by decide +kernel) (by decide +kernel)
set_option maxRecDepth 20000 in
theorem gL_law_X6_phase : GoodIn wsL_law (wsV RL 67 RX6 yX6_phase wsX6_phase) := goodIn_app (goodIn_of _ (by decide +kernel)) ggL_law_X6_phase
set_option maxRecDepth 20000 in
theorem ggL_law_X5_place : GoodIn wsL_law wsX5_place := goodIn_r _ [433, 16, 173, 44, 174, 175, 176, 177, 238, 40, 239, 240, 229, 182, 24, 183, 184, 37, 45, 185, 186, 187, 60, 188, 189, 190, 191, 36, 192, 193, 117, 50, 528, 529, 530, 550, 551, 552, 553, 554, 560, 561, 562, 563, 564, 565, 566, 567, 568, 569, 558, 559, 555, 556, 557] (by decide +kernel) (by decide +kernel)
set_option maxRecDepth 20000 in
theorem gL_law_X5_place : GoodIn wsL_law (wsV RL 68 RX5 yX5_place wsX5_place) := goodIn_app (goodIn_of _ (by decide +kernel)) ggL_law_X5_place
set_option maxRecDepth 20000 in
theorem ggL_law_X6_place : GoodIn wsL_law wsX6_place := goodIn_r _ [437, 73, 75, 210, 211, 212, 5, 213, 68, 245, 246, 247, 248, 206, 207, 208, 209, 90, 91, 92, 531, 532, 533, 534, 535, 536, 537, 538, 539, 540, 541, 542, 543, 544, 545] (by decide +kernel) (by decide +kernel)
set_option maxRecDepth 20000 in
theorem gL_law_X6_place : GoodIn wsL_law (wsV RL 71 RX6 yX6_place wsX6_place) := goodIn_app (goodIn_of _ (by decide +kernel)) ggL_law_X6_place
set_option maxRecDepth 20000 in
theorem ggL_law_X5_slot : GoodIn wsL_law wsX5_slot := goodIn_r _ [441, 16, 189, 44, 190, 127, 36, 128, 129, 117, 130, 131, 132, 133, 50, 191, 192, 193, 442, 24, 443, 444, 45, 41, 238, 40, 239, 240, 229, 528, 529, 530, 550, 551, 552, 553, 554, 560, 561, 562, 563, 564, 565, 566, 567, 568, 569, 555, 556, 557, 558, 559] (by decide +kernel) (by decide +kernel)
set_option maxRecDepth 20000 in
theorem gL_law_X5_slot : GoodIn wsL_law (wsV RL 72 RX5 yX5_slot wsX5_slot) := goodIn_app (goodIn_of _ (by decide +kernel)) ggL_law_X5_slot
set_option maxRecDepth 20000 in
theorem ggL_law_X6_slot : GoodIn wsL_law wsX6_slot := goodIn_r _ [448, 68, 72, 73, 74, 415, 416, 417, 5, 418, 210, 211, 212, 213, 90, 91, 92, 206, 207, 208, 209, 531, 532, 533, 534, 535, 536, 537, 538, 539, 540, 541, 542, 543, 544, 545] (by decide +kernel) (by decide +kernel)
set_option maxRecDepth 20000 in
theorem gL_law_X6_slot : GoodIn wsL_law (wsV RL 75 RX6 yX6_slot wsX6_slot) := goodIn_app (goodIn_of _ (by decide +kernel)) ggL_law_X6_slot
set_option maxRecDepth 20000 in
theorem ggL_law_X5_gain : GoodIn wsL_law wsX5_gain := goodIn_r _ [452, 16, 453, 454, 455, 15, 238, 40, 239, 240, 229, 294, 14, 295, 296, 25, 297, 298, 272, 299, 289, 28, 127, 36, 128, 129, 117, 130, 131, 132, 133, 50, 191, 192, 193, 300, 301, 302, 303, 265, 24, 266, 267, 41, 37, 32, 123, 124, 125, 268, 2, 269, 270, 271, 273, 397, 398, 399, 26, 185, 44, 186, 187, 60, 188, 189, 190, 400, 401, 402, 403, 405, 406, 407, 290, 291, 292, 528, 529, 530, 550, 551, 552, 553, 554, 560, 561, 562, 563, 564, 565, 566, 567, 568, 569, 558, 559, 546, 547, 548, 549, 555, 556, 557] (by decide +kernel) (by decide +kernel)
set_option maxRecDepth 20000 in
theorem gL_law_X5_gain : GoodIn wsL_law (wsV RL 76 RX5 yX5_gain wsX5_gain) := goodIn_app (goodIn_of _ (by decide +kernel)) ggL_law_X5_gain
set_option maxRecDepth 20000 in
theorem ggL_law_X6_gain : GoodIn wsL_law wsX6_gain := goodIn_r _ [459, 460, 461, 462, 75, 415, 416, 417, 5, 418, 68, 210, 211, 212, 213, 245, 246, 247, 248, 206, 207, 208, 209, 90, 91, 92, 377, 378, 379, 380, 381, 382, 383, 384, 71, 69, 73, 72, 278, 279, 280, 281, 531, 532, 533, 534, 535, 536, 537, 538, 539, 540, 541, 542, 543, 544, 545] (by decide +kernel) (by decide +kernel)
set_option maxRecDepth 20000 in
theorem gL_law_X6_gain : GoodIn wsL_law (wsV RL 79 RX6 yX6_gain wsX6_gain) := goodIn_app (goodIn_of _ (by decide +kernel)) ggL_law_X6_gain
set_option maxRecDepth 20000 in
theorem ggL_law_X5_total : GoodIn wsL_law wsX5_total := goodIn_r _ [466, 16, 173, 44, 174, 175, 176, 177, 336, 24, 337, 338, 41, 181, 182, 183, 184, 37, 45, 185, 186, 187, 60, 188, 189, 190, 191, 36, 192, 193, 117, 50, 312, 265, 266, 267, 32, 238, 40, 239, 240, 229, 123, 124, 125, 268, 2, 269, 270, 271, 272, 273, 528, 529, 530, 550, 551, 552, 553, 554, 560, 561, 562, 563, 564, 565, 566, 567, 568, 569, 558, 559, 555, 556, 557] (by decide +kernel) (by decide +kernel)
set_option maxRecDepth 20000 in
theorem gL_law_X5_total : GoodIn wsL_law (wsV RL 80 RX5 yX5_total wsX5_total) := goodIn_app (goodIn_of _ (by decide +kernel)) ggL_law_X5_total
set_option maxRecDepth 20000 in
theorem ggL_law_X6_total : GoodIn wsL_law wsX6_total := goodIn_r _ [470, 210, 211, 212, 5, 213, 68, 385, 386, 387, 388, 71, 69, 73, 75, 206, 207, 208, 209, 278, 279, 280, 281, 531, 532, 533, 534, 535, 536, 537, 538, 539, 540, 541, 542, 543, 544, 545] (by decide +kernel) (by decide +kernel)
set_option maxRecDepth 20000 in
theorem gL_law_X6_total : GoodIn wsL_law (wsV RL 83 RX6 yX6_total wsX6_total) := goodIn_app (goodIn_of _ (by decide +kernel)) ggL_law_X6_total
set_option maxRecDepth 20000 in
theorem ggL_law_X5_image : GoodIn wsL_law wsX5_image := goodIn_r _ [474, 18, 17, 23, 24, 16, 29, 30, 31, 10, 11, 32, 33, 34, 35, 36, 37, 38, 39, 40, 41, 42, 43, 44, 45, 46, 47, 48, 27, 49, 50, 51, 52, 53, 54, 55, 56, 57, 58, 59, 60, 61, 62, 63, 475, 476, 477, 478, 479, 480, 117, 481, 482, 483, 484, 485, 486, 487, 229, 488, 489, 490, 491, 176, 177, 345, 307, 492, 528, 529, 530, 550, 551, 552, 553, 554, 555, 556, 557, 558, 559, 560, 561, 562, 563, 564, 565, 566, 567, 568, 569] (by decide +kernel) (by decide +kernel)
set_option maxRecDepth 20000 in
theorem gL_law_X5_image : GoodIn wsL_law (wsV RL 84 RX5 yX5_image wsX5_image) := goodIn_app (goodIn_of _ (by decide +kernel)) ggL_law_X5_image
set_option maxRecDepth 20000 in
theorem ggL_law_X6_image : GoodIn wsL_law wsX6_image := goodIn_r _ [496, 497, 498, 81, 90, 91, 5, 92, 499, 500, 501, 502, 68, 69, 70, 71, 72, 73, 74, 75, 76, 77, 78, 503, 504, 505, 506, 79, 531, 532, 533, 534, 535, 536, 537, 538, 539, 540, 541, 542, 543, 544, 545] (by decide +kernel) (by decide +kernel)
set_option maxRecDepth 20000 in
theorem gL_law_X6_image : GoodIn wsL_law (wsV RL 87 RX6 yX6_image wsX6_image) := goodIn_app (goodIn_of _ (by decide +kernel)) ggL_law_X6_image
set_option maxRecDepth 20000 in
theorem ggL_law_X5_restore : GoodIn wsL_law wsX5_restore := goodIn_r _ [510, 18, 16, 475, 24, 476, 477, 32, 33, 37, 41, 45, 478, 36, 479, 480, 117, 49, 481, 482, 483, 484, 50, 485, 40, 486, 487, 229, 54, 488, 489, 44, 490, 491, 176, 177, 345, 307, 58, 492, 59, 60, 61, 62, 63, 528, 529, 530, 550, 551, 552, 553, 554, 555, 556, 557, 558, 559, 560, 561, 562, 563, 564, 565, 566, 567, 568, 569] (by decide +kernel) (by decide +kernel)
set_option maxRecDepth 20000 in
theorem gL_law_X5_restore : GoodIn wsL_law (wsV RL 88 RX5 yX5_restore wsX5_restore) := goodIn_app (goodIn_of _ (by decide +kernel)) ggL_law_X5_restore
set_option maxRecDepth 20000 in
theorem ggL_law_X6_restore : GoodIn wsL_law wsX6_restore := goodIn_r _ [514, 81, 497, 498, 90, 91, 5, 92, 499, 500, 501, 502, 68, 69, 70, 71, 72, 73, 74, 75, 76, 77, 78, 503, 504, 505, 506, 79, 531, 532, 533, 534, 535, 536, 537, 538, 539, 540, 541, 542, 543, 544, 545] (by decide +kernel) (by decide +kernel)
set_option maxRecDepth 20000 in
theorem gL_law_X6_restore : GoodIn wsL_law (wsV RL 91 RX6 yX6_restore wsX6_restore) := goodIn_app (goodIn_of _ (by decide +kernel)) ggL_law_X6_restore
set_option maxRecDepth 20000 in
theorem ggL_law_X5_told : GoodIn wsL_law wsX5_told := goodIn_r _ [518, 16, 127, 36, 128, 129, 117, 130, 131, 132, 133, 50, 173, 44, 174, 175, 176, 177, 519, 520, 521, 2, 522, 238, 40, 239, 240, 229, 528, 529, 530, 550, 551, 552, 553, 554, 555, 556, 557, 558, 559, 560, 561, 562, 563, 564, 565, 566, 567, 568, 569] (by decide +kernel) (by decide +kernel)
set_option maxRecDepth 20000 in
theorem gL_law_X5_told : GoodIn wsL_law (wsV RL 92 RX5 yX5_told wsX5_told) := goodIn_app (goodIn_of _ (by decide +kernel)) ggL_law_X5_told
set_option maxRecDepth 20000 in
theorem ggL_law_X6_told : GoodIn wsL_law wsX6_told := goodIn_r _ [526, 71, 527, 68, 245, 246, 247, 5, 248, 206, 207, 208, 209, 90, 91, 92, 154, 155, 156, 157, 70, 150, 151, 152, 153, 531, 532, 533, 534, 535, 536, 537, 538, 539, 540, 541, 542, 543, 544, 545] (by decide +kernel) (by decide +kernel)
set_option maxRecDepth 20000 in
theorem gL_law_X6_told : GoodIn wsL_law (wsV RL 95 RX6 yX6_told wsX6_told) := goodIn_app (goodIn_of _ (by decide +kernel)) ggL_law_X6_told
theorem dL_law_0 : decode cL_law 0 = .ok (.new 7, 3) := by decide +kernel
theorem dL_law_3 : decode cL_law 3 = .ok (.dup, 1) := by decide +kernel
theorem dL_law_4 : decode cL_law 4 = .ok (.invokespecial 9, 3) := by decide +kernel
theorem dL_law_7 : decode cL_law 7 = .ok (.astore_n 1, 1) := by decide +kernel
theorem dL_law_8 : decode cL_law 8 = .ok (.new 10, 3) := by decide +kernel
theorem dL_law_11 : decode cL_law 11 = .ok (.dup, 1) := by decide +kernel
theorem dL_law_12 : decode cL_law 12 = .ok (.invokespecial 12, 3) := by decide +kernel
theorem dL_law_15 : decode cL_law 15 = .ok (.astore_n 2, 1) := by decide +kernel
theorem dL_law_16 : decode cL_law 16 = .ok (.iconst 0, 1) := by decide +kernel
theorem dL_law_17 : decode cL_law 17 = .ok (.istore_n 3, 1) := by decide +kernel
theorem dL_law_18 : decode cL_law 18 = .ok (.iload_n 3, 1) := by decide +kernel
theorem dL_law_19 : decode cL_law 19 = .ok (.aload_n 0, 1) := by decide +kernel
theorem dL_law_20 : decode cL_law 20 = .ok (.arraylength, 1) := by decide +kernel
theorem dL_law_21 : decode cL_law 21 = .ok (.iconst 3, 1) := by decide +kernel
theorem dL_law_22 : decode cL_law 22 = .ok (.isub, 1) := by decide +kernel
theorem dL_law_23 : decode cL_law 23 = .ok (.if_icmp .gt 611, 3) := by decide +kernel
theorem dL_law_26 : decode cL_law 26 = .ok (.aload_n 0, 1) := by decide +kernel
theorem dL_law_27 : decode cL_law 27 = .ok (.iload_n 3, 1) := by decide +kernel
theorem dL_law_28 : decode cL_law 28 = .ok (.iaload, 1) := by decide +kernel
theorem dL_law_29 : decode cL_law 29 = .ok (.bipush 31, 2) := by decide +kernel
theorem dL_law_31 : decode cL_law 31 = .ok (.iand, 1) := by decide +kernel
theorem dL_law_32 : decode cL_law 32 = .ok (.tableswitch 596 0 19 #[96, 119, 142, 175, 198, 231, 254, 277, 310, 333, 366, 379, 392, 425, 448, 481, 514, 527, 550, 573], 96) := by decide +kernel
theorem dL_law_128 : decode cL_law 128 = .ok (.aload_n 1, 1) := by decide +kernel
theorem dL_law_129 : decode cL_law 129 = .ok (.aload_n 0, 1) := by decide +kernel
theorem dL_law_130 : decode cL_law 130 = .ok (.iload_n 3, 1) := by decide +kernel
theorem dL_law_131 : decode cL_law 131 = .ok (.iconst 1, 1) := by decide +kernel
theorem dL_law_132 : decode cL_law 132 = .ok (.iadd, 1) := by decide +kernel
theorem dL_law_133 : decode cL_law 133 = .ok (.iaload, 1) := by decide +kernel
theorem dL_law_134 : decode cL_law 134 = .ok (.invokevirtual 13, 3) := by decide +kernel
theorem dL_law_137 : decode cL_law 137 = .ok (.aload_n 2, 1) := by decide +kernel
theorem dL_law_138 : decode cL_law 138 = .ok (.aload_n 0, 1) := by decide +kernel
theorem dL_law_139 : decode cL_law 139 = .ok (.iload_n 3, 1) := by decide +kernel
theorem dL_law_140 : decode cL_law 140 = .ok (.iconst 1, 1) := by decide +kernel
theorem dL_law_141 : decode cL_law 141 = .ok (.iadd, 1) := by decide +kernel
theorem dL_law_142 : decode cL_law 142 = .ok (.iaload, 1) := by decide +kernel
theorem dL_law_143 : decode cL_law 143 = .ok (.invokevirtual 17, 3) := by decide +kernel
theorem dL_law_146 : decode cL_law 146 = .ok (.if_icmp .eq 482, 3) := by decide +kernel
theorem dL_law_149 : decode cL_law 149 = .ok (.iconst 0, 1) := by decide +kernel
theorem dL_law_150 : decode cL_law 150 = .ok (.ireturn, 1) := by decide +kernel
theorem dL_law_151 : decode cL_law 151 = .ok (.aload_n 1, 1) := by decide +kernel
theorem dL_law_152 : decode cL_law 152 = .ok (.aload_n 0, 1) := by decide +kernel
theorem dL_law_153 : decode cL_law 153 = .ok (.iload_n 3, 1) := by decide +kernel
theorem dL_law_154 : decode cL_law 154 = .ok (.iconst 1, 1) := by decide +kernel
theorem dL_law_155 : decode cL_law 155 = .ok (.iadd, 1) := by decide +kernel
theorem dL_law_156 : decode cL_law 156 = .ok (.iaload, 1) := by decide +kernel
theorem dL_law_157 : decode cL_law 157 = .ok (.invokevirtual 18, 3) := by decide +kernel
theorem dL_law_160 : decode cL_law 160 = .ok (.aload_n 2, 1) := by decide +kernel
theorem dL_law_161 : decode cL_law 161 = .ok (.aload_n 0, 1) := by decide +kernel
theorem dL_law_162 : decode cL_law 162 = .ok (.iload_n 3, 1) := by decide +kernel
theorem dL_law_163 : decode cL_law 163 = .ok (.iconst 1, 1) := by decide +kernel
theorem dL_law_164 : decode cL_law 164 = .ok (.iadd, 1) := by decide +kernel
theorem dL_law_165 : decode cL_law 165 = .ok (.iaload, 1) := by decide +kernel
theorem dL_law_166 : decode cL_law 166 = .ok (.invokevirtual 21, 3) := by decide +kernel
theorem dL_law_169 : decode cL_law 169 = .ok (.if_icmp .eq 459, 3) := by decide +kernel
theorem dL_law_172 : decode cL_law 172 = .ok (.iconst 0, 1) := by decide +kernel
theorem dL_law_173 : decode cL_law 173 = .ok (.ireturn, 1) := by decide +kernel
theorem dL_law_174 : decode cL_law 174 = .ok (.aload_n 1, 1) := by decide +kernel
theorem dL_law_175 : decode cL_law 175 = .ok (.aload_n 0, 1) := by decide +kernel
theorem dL_law_176 : decode cL_law 176 = .ok (.iload_n 3, 1) := by decide +kernel
theorem dL_law_177 : decode cL_law 177 = .ok (.iconst 1, 1) := by decide +kernel
theorem dL_law_178 : decode cL_law 178 = .ok (.iadd, 1) := by decide +kernel
theorem dL_law_179 : decode cL_law 179 = .ok (.iaload, 1) := by decide +kernel
theorem dL_law_180 : decode cL_law 180 = .ok (.aload_n 0, 1) := by decide +kernel
theorem dL_law_181 : decode cL_law 181 = .ok (.iload_n 3, 1) := by decide +kernel
theorem dL_law_182 : decode cL_law 182 = .ok (.iconst 2, 1) := by decide +kernel
theorem dL_law_183 : decode cL_law 183 = .ok (.iadd, 1) := by decide +kernel
theorem dL_law_184 : decode cL_law 184 = .ok (.iaload, 1) := by decide +kernel
theorem dL_law_185 : decode cL_law 185 = .ok (.invokevirtual 22, 3) := by decide +kernel
theorem dL_law_188 : decode cL_law 188 = .ok (.aload_n 2, 1) := by decide +kernel
theorem dL_law_189 : decode cL_law 189 = .ok (.aload_n 0, 1) := by decide +kernel
theorem dL_law_190 : decode cL_law 190 = .ok (.iload_n 3, 1) := by decide +kernel
theorem dL_law_191 : decode cL_law 191 = .ok (.iconst 1, 1) := by decide +kernel
theorem dL_law_192 : decode cL_law 192 = .ok (.iadd, 1) := by decide +kernel
theorem dL_law_193 : decode cL_law 193 = .ok (.iaload, 1) := by decide +kernel
theorem dL_law_194 : decode cL_law 194 = .ok (.aload_n 0, 1) := by decide +kernel
theorem dL_law_195 : decode cL_law 195 = .ok (.iload_n 3, 1) := by decide +kernel
theorem dL_law_196 : decode cL_law 196 = .ok (.iconst 2, 1) := by decide +kernel
theorem dL_law_197 : decode cL_law 197 = .ok (.iadd, 1) := by decide +kernel
theorem dL_law_198 : decode cL_law 198 = .ok (.iaload, 1) := by decide +kernel
theorem dL_law_199 : decode cL_law 199 = .ok (.invokevirtual 26, 3) := by decide +kernel
theorem dL_law_202 : decode cL_law 202 = .ok (.if_icmp .eq 426, 3) := by decide +kernel
theorem dL_law_205 : decode cL_law 205 = .ok (.iconst 0, 1) := by decide +kernel
theorem dL_law_206 : decode cL_law 206 = .ok (.ireturn, 1) := by decide +kernel
theorem dL_law_207 : decode cL_law 207 = .ok (.aload_n 1, 1) := by decide +kernel
theorem dL_law_208 : decode cL_law 208 = .ok (.aload_n 0, 1) := by decide +kernel
theorem dL_law_209 : decode cL_law 209 = .ok (.iload_n 3, 1) := by decide +kernel
theorem dL_law_210 : decode cL_law 210 = .ok (.iconst 1, 1) := by decide +kernel
theorem dL_law_211 : decode cL_law 211 = .ok (.iadd, 1) := by decide +kernel
theorem dL_law_212 : decode cL_law 212 = .ok (.iaload, 1) := by decide +kernel
theorem dL_law_213 : decode cL_law 213 = .ok (.invokevirtual 27, 3) := by decide +kernel
theorem dL_law_216 : decode cL_law 216 = .ok (.aload_n 2, 1) := by decide +kernel
theorem dL_law_217 : decode cL_law 217 = .ok (.aload_n 0, 1) := by decide +kernel
theorem dL_law_218 : decode cL_law 218 = .ok (.iload_n 3, 1) := by decide +kernel
theorem dL_law_219 : decode cL_law 219 = .ok (.iconst 1, 1) := by decide +kernel
theorem dL_law_220 : decode cL_law 220 = .ok (.iadd, 1) := by decide +kernel
theorem dL_law_221 : decode cL_law 221 = .ok (.iaload, 1) := by decide +kernel
theorem dL_law_222 : decode cL_law 222 = .ok (.invokevirtual 30, 3) := by decide +kernel
theorem dL_law_225 : decode cL_law 225 = .ok (.if_icmp .eq 403, 3) := by decide +kernel
theorem dL_law_228 : decode cL_law 228 = .ok (.iconst 0, 1) := by decide +kernel
theorem dL_law_229 : decode cL_law 229 = .ok (.ireturn, 1) := by decide +kernel
theorem dL_law_230 : decode cL_law 230 = .ok (.aload_n 1, 1) := by decide +kernel
theorem dL_law_231 : decode cL_law 231 = .ok (.aload_n 0, 1) := by decide +kernel
theorem dL_law_232 : decode cL_law 232 = .ok (.iload_n 3, 1) := by decide +kernel
theorem dL_law_233 : decode cL_law 233 = .ok (.iconst 1, 1) := by decide +kernel
theorem dL_law_234 : decode cL_law 234 = .ok (.iadd, 1) := by decide +kernel
theorem dL_law_235 : decode cL_law 235 = .ok (.iaload, 1) := by decide +kernel
theorem dL_law_236 : decode cL_law 236 = .ok (.aload_n 0, 1) := by decide +kernel
theorem dL_law_237 : decode cL_law 237 = .ok (.iload_n 3, 1) := by decide +kernel
theorem dL_law_238 : decode cL_law 238 = .ok (.iconst 2, 1) := by decide +kernel
theorem dL_law_239 : decode cL_law 239 = .ok (.iadd, 1) := by decide +kernel
theorem dL_law_240 : decode cL_law 240 = .ok (.iaload, 1) := by decide +kernel
theorem dL_law_241 : decode cL_law 241 = .ok (.invokevirtual 31, 3) := by decide +kernel
theorem dL_law_244 : decode cL_law 244 = .ok (.aload_n 2, 1) := by decide +kernel
theorem dL_law_245 : decode cL_law 245 = .ok (.aload_n 0, 1) := by decide +kernel
theorem dL_law_246 : decode cL_law 246 = .ok (.iload_n 3, 1) := by decide +kernel
theorem dL_law_247 : decode cL_law 247 = .ok (.iconst 1, 1) := by decide +kernel
theorem dL_law_248 : decode cL_law 248 = .ok (.iadd, 1) := by decide +kernel
theorem dL_law_249 : decode cL_law 249 = .ok (.iaload, 1) := by decide +kernel
theorem dL_law_250 : decode cL_law 250 = .ok (.aload_n 0, 1) := by decide +kernel
theorem dL_law_251 : decode cL_law 251 = .ok (.iload_n 3, 1) := by decide +kernel
theorem dL_law_252 : decode cL_law 252 = .ok (.iconst 2, 1) := by decide +kernel
theorem dL_law_253 : decode cL_law 253 = .ok (.iadd, 1) := by decide +kernel
theorem dL_law_254 : decode cL_law 254 = .ok (.iaload, 1) := by decide +kernel
theorem dL_law_255 : decode cL_law 255 = .ok (.invokevirtual 34, 3) := by decide +kernel
theorem dL_law_258 : decode cL_law 258 = .ok (.if_icmp .eq 370, 3) := by decide +kernel
theorem dL_law_261 : decode cL_law 261 = .ok (.iconst 0, 1) := by decide +kernel
theorem dL_law_262 : decode cL_law 262 = .ok (.ireturn, 1) := by decide +kernel
theorem dL_law_263 : decode cL_law 263 = .ok (.aload_n 1, 1) := by decide +kernel
theorem dL_law_264 : decode cL_law 264 = .ok (.aload_n 0, 1) := by decide +kernel
theorem dL_law_265 : decode cL_law 265 = .ok (.iload_n 3, 1) := by decide +kernel
theorem dL_law_266 : decode cL_law 266 = .ok (.iconst 1, 1) := by decide +kernel
theorem dL_law_267 : decode cL_law 267 = .ok (.iadd, 1) := by decide +kernel
theorem dL_law_268 : decode cL_law 268 = .ok (.iaload, 1) := by decide +kernel
theorem dL_law_269 : decode cL_law 269 = .ok (.invokevirtual 35, 3) := by decide +kernel
theorem dL_law_272 : decode cL_law 272 = .ok (.aload_n 2, 1) := by decide +kernel
theorem dL_law_273 : decode cL_law 273 = .ok (.aload_n 0, 1) := by decide +kernel
theorem dL_law_274 : decode cL_law 274 = .ok (.iload_n 3, 1) := by decide +kernel
theorem dL_law_275 : decode cL_law 275 = .ok (.iconst 1, 1) := by decide +kernel
theorem dL_law_276 : decode cL_law 276 = .ok (.iadd, 1) := by decide +kernel
theorem dL_law_277 : decode cL_law 277 = .ok (.iaload, 1) := by decide +kernel
theorem dL_law_278 : decode cL_law 278 = .ok (.invokevirtual 38, 3) := by decide +kernel
theorem dL_law_281 : decode cL_law 281 = .ok (.if_icmp .eq 347, 3) := by decide +kernel
theorem dL_law_284 : decode cL_law 284 = .ok (.iconst 0, 1) := by decide +kernel
theorem dL_law_285 : decode cL_law 285 = .ok (.ireturn, 1) := by decide +kernel
theorem dL_law_286 : decode cL_law 286 = .ok (.aload_n 1, 1) := by decide +kernel
theorem dL_law_287 : decode cL_law 287 = .ok (.aload_n 0, 1) := by decide +kernel
theorem dL_law_288 : decode cL_law 288 = .ok (.iload_n 3, 1) := by decide +kernel
theorem dL_law_289 : decode cL_law 289 = .ok (.iconst 1, 1) := by decide +kernel
theorem dL_law_290 : decode cL_law 290 = .ok (.iadd, 1) := by decide +kernel
theorem dL_law_291 : decode cL_law 291 = .ok (.iaload, 1) := by decide +kernel
theorem dL_law_292 : decode cL_law 292 = .ok (.invokevirtual 39, 3) := by decide +kernel
theorem dL_law_295 : decode cL_law 295 = .ok (.aload_n 2, 1) := by decide +kernel
theorem dL_law_296 : decode cL_law 296 = .ok (.aload_n 0, 1) := by decide +kernel
theorem dL_law_297 : decode cL_law 297 = .ok (.iload_n 3, 1) := by decide +kernel
theorem dL_law_298 : decode cL_law 298 = .ok (.iconst 1, 1) := by decide +kernel
theorem dL_law_299 : decode cL_law 299 = .ok (.iadd, 1) := by decide +kernel
theorem dL_law_300 : decode cL_law 300 = .ok (.iaload, 1) := by decide +kernel
theorem dL_law_301 : decode cL_law 301 = .ok (.invokevirtual 42, 3) := by decide +kernel
theorem dL_law_304 : decode cL_law 304 = .ok (.if_icmp .eq 324, 3) := by decide +kernel
theorem dL_law_307 : decode cL_law 307 = .ok (.iconst 0, 1) := by decide +kernel
theorem dL_law_308 : decode cL_law 308 = .ok (.ireturn, 1) := by decide +kernel
theorem dL_law_309 : decode cL_law 309 = .ok (.aload_n 1, 1) := by decide +kernel
theorem dL_law_310 : decode cL_law 310 = .ok (.aload_n 0, 1) := by decide +kernel
theorem dL_law_311 : decode cL_law 311 = .ok (.iload_n 3, 1) := by decide +kernel
theorem dL_law_312 : decode cL_law 312 = .ok (.iconst 1, 1) := by decide +kernel
theorem dL_law_313 : decode cL_law 313 = .ok (.iadd, 1) := by decide +kernel
theorem dL_law_314 : decode cL_law 314 = .ok (.iaload, 1) := by decide +kernel
theorem dL_law_315 : decode cL_law 315 = .ok (.aload_n 0, 1) := by decide +kernel
theorem dL_law_316 : decode cL_law 316 = .ok (.iload_n 3, 1) := by decide +kernel
theorem dL_law_317 : decode cL_law 317 = .ok (.iconst 2, 1) := by decide +kernel
theorem dL_law_318 : decode cL_law 318 = .ok (.iadd, 1) := by decide +kernel
theorem dL_law_319 : decode cL_law 319 = .ok (.iaload, 1) := by decide +kernel
theorem dL_law_320 : decode cL_law 320 = .ok (.invokevirtual 43, 3) := by decide +kernel
theorem dL_law_323 : decode cL_law 323 = .ok (.aload_n 2, 1) := by decide +kernel
theorem dL_law_324 : decode cL_law 324 = .ok (.aload_n 0, 1) := by decide +kernel
theorem dL_law_325 : decode cL_law 325 = .ok (.iload_n 3, 1) := by decide +kernel
theorem dL_law_326 : decode cL_law 326 = .ok (.iconst 1, 1) := by decide +kernel
theorem dL_law_327 : decode cL_law 327 = .ok (.iadd, 1) := by decide +kernel
theorem dL_law_328 : decode cL_law 328 = .ok (.iaload, 1) := by decide +kernel
theorem dL_law_329 : decode cL_law 329 = .ok (.aload_n 0, 1) := by decide +kernel
theorem dL_law_330 : decode cL_law 330 = .ok (.iload_n 3, 1) := by decide +kernel
theorem dL_law_331 : decode cL_law 331 = .ok (.iconst 2, 1) := by decide +kernel
theorem dL_law_332 : decode cL_law 332 = .ok (.iadd, 1) := by decide +kernel
theorem dL_law_333 : decode cL_law 333 = .ok (.iaload, 1) := by decide +kernel
theorem dL_law_334 : decode cL_law 334 = .ok (.invokevirtual 46, 3) := by decide +kernel
theorem dL_law_337 : decode cL_law 337 = .ok (.if_icmp .eq 291, 3) := by decide +kernel
theorem dL_law_340 : decode cL_law 340 = .ok (.iconst 0, 1) := by decide +kernel
theorem dL_law_341 : decode cL_law 341 = .ok (.ireturn, 1) := by decide +kernel
theorem dL_law_342 : decode cL_law 342 = .ok (.aload_n 1, 1) := by decide +kernel
theorem dL_law_343 : decode cL_law 343 = .ok (.aload_n 0, 1) := by decide +kernel
theorem dL_law_344 : decode cL_law 344 = .ok (.iload_n 3, 1) := by decide +kernel
theorem dL_law_345 : decode cL_law 345 = .ok (.iconst 1, 1) := by decide +kernel
theorem dL_law_346 : decode cL_law 346 = .ok (.iadd, 1) := by decide +kernel
theorem dL_law_347 : decode cL_law 347 = .ok (.iaload, 1) := by decide +kernel
theorem dL_law_348 : decode cL_law 348 = .ok (.invokevirtual 47, 3) := by decide +kernel
theorem dL_law_351 : decode cL_law 351 = .ok (.aload_n 2, 1) := by decide +kernel
theorem dL_law_352 : decode cL_law 352 = .ok (.aload_n 0, 1) := by decide +kernel
theorem dL_law_353 : decode cL_law 353 = .ok (.iload_n 3, 1) := by decide +kernel
theorem dL_law_354 : decode cL_law 354 = .ok (.iconst 1, 1) := by decide +kernel
theorem dL_law_355 : decode cL_law 355 = .ok (.iadd, 1) := by decide +kernel
theorem dL_law_356 : decode cL_law 356 = .ok (.iaload, 1) := by decide +kernel
theorem dL_law_357 : decode cL_law 357 = .ok (.invokevirtual 50, 3) := by decide +kernel
theorem dL_law_360 : decode cL_law 360 = .ok (.if_icmp .eq 268, 3) := by decide +kernel
theorem dL_law_363 : decode cL_law 363 = .ok (.iconst 0, 1) := by decide +kernel
theorem dL_law_364 : decode cL_law 364 = .ok (.ireturn, 1) := by decide +kernel
theorem dL_law_365 : decode cL_law 365 = .ok (.aload_n 1, 1) := by decide +kernel
theorem dL_law_366 : decode cL_law 366 = .ok (.aload_n 0, 1) := by decide +kernel
theorem dL_law_367 : decode cL_law 367 = .ok (.iload_n 3, 1) := by decide +kernel
theorem dL_law_368 : decode cL_law 368 = .ok (.iconst 1, 1) := by decide +kernel
theorem dL_law_369 : decode cL_law 369 = .ok (.iadd, 1) := by decide +kernel
theorem dL_law_370 : decode cL_law 370 = .ok (.iaload, 1) := by decide +kernel
theorem dL_law_371 : decode cL_law 371 = .ok (.aload_n 0, 1) := by decide +kernel
theorem dL_law_372 : decode cL_law 372 = .ok (.iload_n 3, 1) := by decide +kernel
theorem dL_law_373 : decode cL_law 373 = .ok (.iconst 2, 1) := by decide +kernel
theorem dL_law_374 : decode cL_law 374 = .ok (.iadd, 1) := by decide +kernel
theorem dL_law_375 : decode cL_law 375 = .ok (.iaload, 1) := by decide +kernel
theorem dL_law_376 : decode cL_law 376 = .ok (.invokevirtual 51, 3) := by decide +kernel
theorem dL_law_379 : decode cL_law 379 = .ok (.aload_n 2, 1) := by decide +kernel
theorem dL_law_380 : decode cL_law 380 = .ok (.aload_n 0, 1) := by decide +kernel
theorem dL_law_381 : decode cL_law 381 = .ok (.iload_n 3, 1) := by decide +kernel
theorem dL_law_382 : decode cL_law 382 = .ok (.iconst 1, 1) := by decide +kernel
theorem dL_law_383 : decode cL_law 383 = .ok (.iadd, 1) := by decide +kernel
theorem dL_law_384 : decode cL_law 384 = .ok (.iaload, 1) := by decide +kernel
theorem dL_law_385 : decode cL_law 385 = .ok (.aload_n 0, 1) := by decide +kernel
theorem dL_law_386 : decode cL_law 386 = .ok (.iload_n 3, 1) := by decide +kernel
theorem dL_law_387 : decode cL_law 387 = .ok (.iconst 2, 1) := by decide +kernel
theorem dL_law_388 : decode cL_law 388 = .ok (.iadd, 1) := by decide +kernel
theorem dL_law_389 : decode cL_law 389 = .ok (.iaload, 1) := by decide +kernel
theorem dL_law_390 : decode cL_law 390 = .ok (.invokevirtual 54, 3) := by decide +kernel
theorem dL_law_393 : decode cL_law 393 = .ok (.if_icmp .eq 235, 3) := by decide +kernel
theorem dL_law_396 : decode cL_law 396 = .ok (.iconst 0, 1) := by decide +kernel
theorem dL_law_397 : decode cL_law 397 = .ok (.ireturn, 1) := by decide +kernel
theorem dL_law_398 : decode cL_law 398 = .ok (.aload_n 1, 1) := by decide +kernel
theorem dL_law_399 : decode cL_law 399 = .ok (.invokevirtual 55, 3) := by decide +kernel
theorem dL_law_402 : decode cL_law 402 = .ok (.aload_n 2, 1) := by decide +kernel
theorem dL_law_403 : decode cL_law 403 = .ok (.invokevirtual 59, 3) := by decide +kernel
theorem dL_law_406 : decode cL_law 406 = .ok (.if_icmp .eq 222, 3) := by decide +kernel
theorem dL_law_409 : decode cL_law 409 = .ok (.iconst 0, 1) := by decide +kernel
theorem dL_law_410 : decode cL_law 410 = .ok (.ireturn, 1) := by decide +kernel
theorem dL_law_411 : decode cL_law 411 = .ok (.aload_n 1, 1) := by decide +kernel
theorem dL_law_412 : decode cL_law 412 = .ok (.invokevirtual 60, 3) := by decide +kernel
theorem dL_law_415 : decode cL_law 415 = .ok (.aload_n 2, 1) := by decide +kernel
theorem dL_law_416 : decode cL_law 416 = .ok (.invokevirtual 63, 3) := by decide +kernel
theorem dL_law_419 : decode cL_law 419 = .ok (.if_icmp .eq 209, 3) := by decide +kernel
theorem dL_law_422 : decode cL_law 422 = .ok (.iconst 0, 1) := by decide +kernel
theorem dL_law_423 : decode cL_law 423 = .ok (.ireturn, 1) := by decide +kernel
theorem dL_law_424 : decode cL_law 424 = .ok (.aload_n 1, 1) := by decide +kernel
theorem dL_law_425 : decode cL_law 425 = .ok (.aload_n 0, 1) := by decide +kernel
theorem dL_law_426 : decode cL_law 426 = .ok (.iload_n 3, 1) := by decide +kernel
theorem dL_law_427 : decode cL_law 427 = .ok (.iconst 1, 1) := by decide +kernel
theorem dL_law_428 : decode cL_law 428 = .ok (.iadd, 1) := by decide +kernel
theorem dL_law_429 : decode cL_law 429 = .ok (.iaload, 1) := by decide +kernel
theorem dL_law_430 : decode cL_law 430 = .ok (.aload_n 0, 1) := by decide +kernel
theorem dL_law_431 : decode cL_law 431 = .ok (.iload_n 3, 1) := by decide +kernel
theorem dL_law_432 : decode cL_law 432 = .ok (.iconst 2, 1) := by decide +kernel
theorem dL_law_433 : decode cL_law 433 = .ok (.iadd, 1) := by decide +kernel
theorem dL_law_434 : decode cL_law 434 = .ok (.iaload, 1) := by decide +kernel
theorem dL_law_435 : decode cL_law 435 = .ok (.invokevirtual 64, 3) := by decide +kernel
theorem dL_law_438 : decode cL_law 438 = .ok (.aload_n 2, 1) := by decide +kernel
theorem dL_law_439 : decode cL_law 439 = .ok (.aload_n 0, 1) := by decide +kernel
theorem dL_law_440 : decode cL_law 440 = .ok (.iload_n 3, 1) := by decide +kernel
theorem dL_law_441 : decode cL_law 441 = .ok (.iconst 1, 1) := by decide +kernel
theorem dL_law_442 : decode cL_law 442 = .ok (.iadd, 1) := by decide +kernel
theorem dL_law_443 : decode cL_law 443 = .ok (.iaload, 1) := by decide +kernel
theorem dL_law_444 : decode cL_law 444 = .ok (.aload_n 0, 1) := by decide +kernel
theorem dL_law_445 : decode cL_law 445 = .ok (.iload_n 3, 1) := by decide +kernel
theorem dL_law_446 : decode cL_law 446 = .ok (.iconst 2, 1) := by decide +kernel
theorem dL_law_447 : decode cL_law 447 = .ok (.iadd, 1) := by decide +kernel
theorem dL_law_448 : decode cL_law 448 = .ok (.iaload, 1) := by decide +kernel
theorem dL_law_449 : decode cL_law 449 = .ok (.invokevirtual 67, 3) := by decide +kernel
theorem dL_law_452 : decode cL_law 452 = .ok (.if_icmp .eq 176, 3) := by decide +kernel
theorem dL_law_455 : decode cL_law 455 = .ok (.iconst 0, 1) := by decide +kernel
theorem dL_law_456 : decode cL_law 456 = .ok (.ireturn, 1) := by decide +kernel
theorem dL_law_457 : decode cL_law 457 = .ok (.aload_n 1, 1) := by decide +kernel
theorem dL_law_458 : decode cL_law 458 = .ok (.aload_n 0, 1) := by decide +kernel
theorem dL_law_459 : decode cL_law 459 = .ok (.iload_n 3, 1) := by decide +kernel
theorem dL_law_460 : decode cL_law 460 = .ok (.iconst 1, 1) := by decide +kernel
theorem dL_law_461 : decode cL_law 461 = .ok (.iadd, 1) := by decide +kernel
theorem dL_law_462 : decode cL_law 462 = .ok (.iaload, 1) := by decide +kernel
theorem dL_law_463 : decode cL_law 463 = .ok (.invokevirtual 68, 3) := by decide +kernel
theorem dL_law_466 : decode cL_law 466 = .ok (.aload_n 2, 1) := by decide +kernel
theorem dL_law_467 : decode cL_law 467 = .ok (.aload_n 0, 1) := by decide +kernel
theorem dL_law_468 : decode cL_law 468 = .ok (.iload_n 3, 1) := by decide +kernel
theorem dL_law_469 : decode cL_law 469 = .ok (.iconst 1, 1) := by decide +kernel
theorem dL_law_470 : decode cL_law 470 = .ok (.iadd, 1) := by decide +kernel
theorem dL_law_471 : decode cL_law 471 = .ok (.iaload, 1) := by decide +kernel
theorem dL_law_472 : decode cL_law 472 = .ok (.invokevirtual 71, 3) := by decide +kernel
theorem dL_law_475 : decode cL_law 475 = .ok (.if_icmp .eq 153, 3) := by decide +kernel
theorem dL_law_478 : decode cL_law 478 = .ok (.iconst 0, 1) := by decide +kernel
theorem dL_law_479 : decode cL_law 479 = .ok (.ireturn, 1) := by decide +kernel
theorem dL_law_480 : decode cL_law 480 = .ok (.aload_n 1, 1) := by decide +kernel
theorem dL_law_481 : decode cL_law 481 = .ok (.aload_n 0, 1) := by decide +kernel
theorem dL_law_482 : decode cL_law 482 = .ok (.iload_n 3, 1) := by decide +kernel
theorem dL_law_483 : decode cL_law 483 = .ok (.iconst 1, 1) := by decide +kernel
theorem dL_law_484 : decode cL_law 484 = .ok (.iadd, 1) := by decide +kernel
theorem dL_law_485 : decode cL_law 485 = .ok (.iaload, 1) := by decide +kernel
theorem dL_law_486 : decode cL_law 486 = .ok (.aload_n 0, 1) := by decide +kernel
theorem dL_law_487 : decode cL_law 487 = .ok (.iload_n 3, 1) := by decide +kernel
theorem dL_law_488 : decode cL_law 488 = .ok (.iconst 2, 1) := by decide +kernel
theorem dL_law_489 : decode cL_law 489 = .ok (.iadd, 1) := by decide +kernel
theorem dL_law_490 : decode cL_law 490 = .ok (.iaload, 1) := by decide +kernel
theorem dL_law_491 : decode cL_law 491 = .ok (.invokevirtual 72, 3) := by decide +kernel
theorem dL_law_494 : decode cL_law 494 = .ok (.aload_n 2, 1) := by decide +kernel
theorem dL_law_495 : decode cL_law 495 = .ok (.aload_n 0, 1) := by decide +kernel
theorem dL_law_496 : decode cL_law 496 = .ok (.iload_n 3, 1) := by decide +kernel
theorem dL_law_497 : decode cL_law 497 = .ok (.iconst 1, 1) := by decide +kernel
theorem dL_law_498 : decode cL_law 498 = .ok (.iadd, 1) := by decide +kernel
theorem dL_law_499 : decode cL_law 499 = .ok (.iaload, 1) := by decide +kernel
theorem dL_law_500 : decode cL_law 500 = .ok (.aload_n 0, 1) := by decide +kernel
theorem dL_law_501 : decode cL_law 501 = .ok (.iload_n 3, 1) := by decide +kernel
theorem dL_law_502 : decode cL_law 502 = .ok (.iconst 2, 1) := by decide +kernel
theorem dL_law_503 : decode cL_law 503 = .ok (.iadd, 1) := by decide +kernel
theorem dL_law_504 : decode cL_law 504 = .ok (.iaload, 1) := by decide +kernel
theorem dL_law_505 : decode cL_law 505 = .ok (.invokevirtual 75, 3) := by decide +kernel
theorem dL_law_508 : decode cL_law 508 = .ok (.if_icmp .eq 120, 3) := by decide +kernel
theorem dL_law_511 : decode cL_law 511 = .ok (.iconst 0, 1) := by decide +kernel
theorem dL_law_512 : decode cL_law 512 = .ok (.ireturn, 1) := by decide +kernel
theorem dL_law_513 : decode cL_law 513 = .ok (.aload_n 1, 1) := by decide +kernel
theorem dL_law_514 : decode cL_law 514 = .ok (.aload_n 0, 1) := by decide +kernel
theorem dL_law_515 : decode cL_law 515 = .ok (.iload_n 3, 1) := by decide +kernel
theorem dL_law_516 : decode cL_law 516 = .ok (.iconst 1, 1) := by decide +kernel
theorem dL_law_517 : decode cL_law 517 = .ok (.iadd, 1) := by decide +kernel
theorem dL_law_518 : decode cL_law 518 = .ok (.iaload, 1) := by decide +kernel
theorem dL_law_519 : decode cL_law 519 = .ok (.aload_n 0, 1) := by decide +kernel
theorem dL_law_520 : decode cL_law 520 = .ok (.iload_n 3, 1) := by decide +kernel
theorem dL_law_521 : decode cL_law 521 = .ok (.iconst 2, 1) := by decide +kernel
theorem dL_law_522 : decode cL_law 522 = .ok (.iadd, 1) := by decide +kernel
theorem dL_law_523 : decode cL_law 523 = .ok (.iaload, 1) := by decide +kernel
theorem dL_law_524 : decode cL_law 524 = .ok (.invokevirtual 76, 3) := by decide +kernel
theorem dL_law_527 : decode cL_law 527 = .ok (.aload_n 2, 1) := by decide +kernel
theorem dL_law_528 : decode cL_law 528 = .ok (.aload_n 0, 1) := by decide +kernel
theorem dL_law_529 : decode cL_law 529 = .ok (.iload_n 3, 1) := by decide +kernel
theorem dL_law_530 : decode cL_law 530 = .ok (.iconst 1, 1) := by decide +kernel
theorem dL_law_531 : decode cL_law 531 = .ok (.iadd, 1) := by decide +kernel
theorem dL_law_532 : decode cL_law 532 = .ok (.iaload, 1) := by decide +kernel
theorem dL_law_533 : decode cL_law 533 = .ok (.aload_n 0, 1) := by decide +kernel
theorem dL_law_534 : decode cL_law 534 = .ok (.iload_n 3, 1) := by decide +kernel
theorem dL_law_535 : decode cL_law 535 = .ok (.iconst 2, 1) := by decide +kernel
theorem dL_law_536 : decode cL_law 536 = .ok (.iadd, 1) := by decide +kernel
theorem dL_law_537 : decode cL_law 537 = .ok (.iaload, 1) := by decide +kernel
theorem dL_law_538 : decode cL_law 538 = .ok (.invokevirtual 79, 3) := by decide +kernel
theorem dL_law_541 : decode cL_law 541 = .ok (.if_icmp .eq 87, 3) := by decide +kernel
theorem dL_law_544 : decode cL_law 544 = .ok (.iconst 0, 1) := by decide +kernel
theorem dL_law_545 : decode cL_law 545 = .ok (.ireturn, 1) := by decide +kernel
theorem dL_law_546 : decode cL_law 546 = .ok (.aload_n 1, 1) := by decide +kernel
theorem dL_law_547 : decode cL_law 547 = .ok (.invokevirtual 80, 3) := by decide +kernel
theorem dL_law_550 : decode cL_law 550 = .ok (.aload_n 2, 1) := by decide +kernel
theorem dL_law_551 : decode cL_law 551 = .ok (.invokevirtual 83, 3) := by decide +kernel
theorem dL_law_554 : decode cL_law 554 = .ok (.if_icmp .eq 74, 3) := by decide +kernel
theorem dL_law_557 : decode cL_law 557 = .ok (.iconst 0, 1) := by decide +kernel
theorem dL_law_558 : decode cL_law 558 = .ok (.ireturn, 1) := by decide +kernel
theorem dL_law_559 : decode cL_law 559 = .ok (.aload_n 1, 1) := by decide +kernel
theorem dL_law_560 : decode cL_law 560 = .ok (.aload_n 0, 1) := by decide +kernel
theorem dL_law_561 : decode cL_law 561 = .ok (.iload_n 3, 1) := by decide +kernel
theorem dL_law_562 : decode cL_law 562 = .ok (.iconst 1, 1) := by decide +kernel
theorem dL_law_563 : decode cL_law 563 = .ok (.iadd, 1) := by decide +kernel
theorem dL_law_564 : decode cL_law 564 = .ok (.iaload, 1) := by decide +kernel
theorem dL_law_565 : decode cL_law 565 = .ok (.invokevirtual 84, 3) := by decide +kernel
theorem dL_law_568 : decode cL_law 568 = .ok (.aload_n 2, 1) := by decide +kernel
theorem dL_law_569 : decode cL_law 569 = .ok (.aload_n 0, 1) := by decide +kernel
theorem dL_law_570 : decode cL_law 570 = .ok (.iload_n 3, 1) := by decide +kernel
theorem dL_law_571 : decode cL_law 571 = .ok (.iconst 1, 1) := by decide +kernel
theorem dL_law_572 : decode cL_law 572 = .ok (.iadd, 1) := by decide +kernel
theorem dL_law_573 : decode cL_law 573 = .ok (.iaload, 1) := by decide +kernel
theorem dL_law_574 : decode cL_law 574 = .ok (.invokevirtual 87, 3) := by decide +kernel
theorem dL_law_577 : decode cL_law 577 = .ok (.if_icmp .eq 51, 3) := by decide +kernel
theorem dL_law_580 : decode cL_law 580 = .ok (.iconst 0, 1) := by decide +kernel
theorem dL_law_581 : decode cL_law 581 = .ok (.ireturn, 1) := by decide +kernel
theorem dL_law_582 : decode cL_law 582 = .ok (.aload_n 1, 1) := by decide +kernel
theorem dL_law_583 : decode cL_law 583 = .ok (.aload_n 0, 1) := by decide +kernel
theorem dL_law_584 : decode cL_law 584 = .ok (.iload_n 3, 1) := by decide +kernel
theorem dL_law_585 : decode cL_law 585 = .ok (.iconst 1, 1) := by decide +kernel
theorem dL_law_586 : decode cL_law 586 = .ok (.iadd, 1) := by decide +kernel
theorem dL_law_587 : decode cL_law 587 = .ok (.iaload, 1) := by decide +kernel
theorem dL_law_588 : decode cL_law 588 = .ok (.invokevirtual 88, 3) := by decide +kernel
theorem dL_law_591 : decode cL_law 591 = .ok (.aload_n 2, 1) := by decide +kernel
theorem dL_law_592 : decode cL_law 592 = .ok (.aload_n 0, 1) := by decide +kernel
theorem dL_law_593 : decode cL_law 593 = .ok (.iload_n 3, 1) := by decide +kernel
theorem dL_law_594 : decode cL_law 594 = .ok (.iconst 1, 1) := by decide +kernel
theorem dL_law_595 : decode cL_law 595 = .ok (.iadd, 1) := by decide +kernel
theorem dL_law_596 : decode cL_law 596 = .ok (.iaload, 1) := by decide +kernel
theorem dL_law_597 : decode cL_law 597 = .ok (.invokevirtual 91, 3) := by decide +kernel
theorem dL_law_600 : decode cL_law 600 = .ok (.if_icmp .eq 28, 3) := by decide +kernel
theorem dL_law_603 : decode cL_law 603 = .ok (.iconst 0, 1) := by decide +kernel
theorem dL_law_604 : decode cL_law 604 = .ok (.ireturn, 1) := by decide +kernel
theorem dL_law_605 : decode cL_law 605 = .ok (.aload_n 1, 1) := by decide +kernel
theorem dL_law_606 : decode cL_law 606 = .ok (.aload_n 0, 1) := by decide +kernel
theorem dL_law_607 : decode cL_law 607 = .ok (.iload_n 3, 1) := by decide +kernel
theorem dL_law_608 : decode cL_law 608 = .ok (.iconst 1, 1) := by decide +kernel
theorem dL_law_609 : decode cL_law 609 = .ok (.iadd, 1) := by decide +kernel
theorem dL_law_610 : decode cL_law 610 = .ok (.iaload, 1) := by decide +kernel
theorem dL_law_611 : decode cL_law 611 = .ok (.invokevirtual 92, 3) := by decide +kernel
theorem dL_law_614 : decode cL_law 614 = .ok (.aload_n 2, 1) := by decide +kernel
theorem dL_law_615 : decode cL_law 615 = .ok (.aload_n 0, 1) := by decide +kernel
theorem dL_law_616 : decode cL_law 616 = .ok (.iload_n 3, 1) := by decide +kernel
theorem dL_law_617 : decode cL_law 617 = .ok (.iconst 1, 1) := by decide +kernel
theorem dL_law_618 : decode cL_law 618 = .ok (.iadd, 1) := by decide +kernel
theorem dL_law_619 : decode cL_law 619 = .ok (.iaload, 1) := by decide +kernel
theorem dL_law_620 : decode cL_law 620 = .ok (.invokevirtual 95, 3) := by decide +kernel
theorem dL_law_623 : decode cL_law 623 = .ok (.if_icmp .eq 5, 3) := by decide +kernel
theorem dL_law_626 : decode cL_law 626 = .ok (.iconst 0, 1) := by decide +kernel
theorem dL_law_627 : decode cL_law 627 = .ok (.ireturn, 1) := by decide +kernel
theorem dL_law_628 : decode cL_law 628 = .ok (.iinc 3 3, 3) := by decide +kernel
theorem dL_law_631 : decode cL_law 631 = .ok (.goto (-613), 3) := by decide +kernel
theorem dL_law_634 : decode cL_law 634 = .ok (.iconst 1, 1) := by decide +kernel
theorem dL_law_635 : decode cL_law 635 = .ok (.ireturn, 1) := by decide +kernel
abbrev vwCl : List vw_C := [(RX0, TX0, 4), (RX1, TX1, 2), (RX2, TX2, 3), (RX3, TX3, 5), (RX4, TX4, 10), (RX5, TX5, 3), (RX6, TX6, 15)]
end
section
/-! The frame: contracts as functions (a method's decompiled function gives its answer and the cells behind it). -/
/-- links between nest mates: no good words, so they go with the state -/
def nx_is (w : Cond) : Bool := match w with
  | .fieldLinkNest .. => true
  | .methodLinkNest .. => true
  | _ => false
def nx_ws : List Cond := tables_1.filter nx_is
theorem nx_mem {w : Cond} {i : Nat} (h : tables_1[i]? = some w) (h2 : nx_is w = true) : w ∈ nx_ws := List.mem_filter.mpr ⟨List.mem_of_getElem? h, h2⟩
theorem nx_two {w : Cond} (h : nx_is w = true) : (∃ a i b n d h, w = .fieldLinkNest a i b n d h) ∨ ∃ a i x h, w = .methodLinkNest a i x h := by
  unfold nx_is at h
  split at h
  · exact Or.inl ⟨_, _, _, _, _, _, rfl⟩
  · exact Or.inr ⟨_, _, _, _, rfl⟩
  · cases h
def Nx (U : State) : Prop := ∀ w ∈ nx_ws, va_Nw w U
theorem Nx.same {u U : State} (h : u.vm = U.vm) (hN : Nx u) : Nx U := fun w hw => by
  rcases nx_two (List.mem_filter.mp hw).2 with ⟨_, _, _, _, _, _, rfl⟩ | ⟨_, _, _, _, rfl⟩
  · exact va_Nw.same rfl h (hN _ hw)
  · exact va_Nw.same rfl h (hN _ hw)
theorem Nx.warm {s U : State} (hW : s.WarmedH U.vm) (hN : Nx s) : Nx U := fun w hw => by
  rcases nx_two (List.mem_filter.mp hw).2 with ⟨_, _, _, _, _, _, rfl⟩ | ⟨_, _, _, _, rfl⟩
  · exact va_Nw.warmF hW (hN _ hw)
  · exact va_Nw.warmM hW (hN _ hw)
theorem Nx.of {s : State} {args : Array Value} (h : ∀ w ∈ lw_tbl, w.before args s = true) : Nx s := fun w hw => by
  have h1 := h w (List.mem_append_right _ (List.mem_filter.mp hw).1)
  rcases nx_two (List.mem_filter.mp hw).2 with ⟨_, _, _, _, _, _, rfl⟩ | ⟨_, _, _, _, rfl⟩
  · exact va_Nw.of rfl h1
  · exact va_Nw.of rfl h1
theorem Nx.f {s : State} {args : Array Value} (hN : Nx s) {a : String} {i : Nat} {b n d h : String} (hw : Cond.fieldLinkNest a i b n d h ∈ nx_ws) : (Cond.fieldLinkNest a i b n d h).before args s = true := va_Nw.use rfl (hN _ hw)
abbrev kTy (cI cZ cP : ClassId) : List (ClassId × FieldType) := [(cI, .int), (cZ, .boolean), (cP, .object RX3)]
def Kx (D : va_G) (cI cZ cP : ClassId) (U : State) : Prop := va_K D vwCl (kTy cI cZ cP) U ∧ Nx U
theorem Kx.warm {D : va_G} {cI cZ cP : ClassId} {s U : State} (hW : s.WarmedH U.vm) (h : Kx D cI cZ cP s) : Kx D cI cZ cP U := ⟨va_K.moved hW.alike h.1, h.2.warm hW⟩
abbrev PreX (D : va_G) (cI cZ cP : ClassId) (As : List Value) (wc : va_W) (sz : Nat) : Array Value → State → Prop := va_Pc As (fun U => U.heap.size = sz ∧ va_P D vwCl wc U.heap ∧ Kx D cI cZ cP U ∧ va_D (fun _ => True) wc)
abbrev BX (D : va_G) (wc : va_W) {S : Type} (wc' : S → va_W) (sz : Nat) : S → State → Prop := fun u t => va_P D vwCl (wc' u) t.heap ∧ va_D (va_A wc sz) (wc' u)
/-- a contract whose answer is the int r, and whose cells are wc' behind it -/
def CtI (l : Launch) (D : va_G) (cI cZ cP : ClassId) (y : MethodName) (ws : List Cond) (rm : Room) (As : List Value) (wc : va_W) {S : Type} (wc' : S → va_W) (r : Int32) : Prop :=
  ∀ sz : Nat, Met l y ws rm (PreX D cI cZ cP As wc sz) (va_Qi (fun (r' : Int32) (_ : S) => r' = r) (BX D wc wc' sz) (va_A wc sz)) rm.cells rm.slots (va_A wc sz)
def CtV (l : Launch) (D : va_G) (cI cZ cP : ClassId) (y : MethodName) (ws : List Cond) (rm : Room) (As : List Value) (wc : va_W) {S : Type} (wc' : S → va_W) : Prop :=
  ∀ sz : Nat, Met l y ws rm (PreX D cI cZ cP As wc sz) (va_Qv (fun (_ : S) => True) (BX D wc wc' sz) (va_A wc sz)) rm.cells rm.slots (va_A wc sz)
theorem preX_blind {D : va_G} {cI cZ cP : ClassId} {As : List Value} {wc : va_W} {sz : Nat} : FrameBlind (PreX D cI cZ cP As wc sz) := fun a U g mk q => by
  obtain ⟨q0, q1, qP, qK, qD⟩ := q
  exact ⟨q0, q1, qP, ⟨va_K.moved (u := U) (U := U.calling g mk a) (Vm.Alike.refl U.vm) qK.1, Nx.same (u := U) (U := U.calling g mk a) rfl qK.2⟩, qD⟩
set_option maxHeartbeats 4000000 in
/-- the beginning of a method that answers an int (or a boolean) -/
theorem CtI.ofW {l : Launch} {D : va_G} {cI cZ cP : ClassId} {y : MethodName} {ws ws' : List Cond} {rm : Room} {As : List Value} {wc : va_W} {S : Type} {wc' : S → va_W} {r : Int32} {cc : ByteArray} {maxL : Nat} {ty : FieldType}
    (hy : plainName y.cls = true) (hw : ws = Cond.code y cc maxL (some ty) :: ws') (hsl : (lg_sl As).length ≤ maxL) {lv : List (Nat × Value)} (hlv : lv_args 0 As = lv)
    (body : ∀ (p : Program) (e : Env) (s : State) (m : MethodId) (args : Array Value) (below : List Frame) (meth : Method) (c : Code) (A : Nat → Prop) (Q : State → Prop) (ls : Array Slot),
      p.tables.exec = Jvm.exec → c.code = cc → c.maxLocals = maxL → s.vm.findClass y.cls = some m.cls → (∀ w ∈ ws, w.before args s = true) → va_K D vwCl (kTy cI cZ cP) s → Nx s → va_P D vwCl wc s.heap → va_D A wc → va_S A s.heap s.heap [] → (∀ q, s.heap.size ≤ q → A q) → lv_has ls maxL lv →
      (∀ (pc : Nat) (ls : Array Slot) (H : Heap) (locs : List Loc) (u : S), narrow ty (.int r) = .int r → decode cc pc = .ok (.ireturn, 1) → va_P D vwCl (wc' u) H → va_D A (wc' u) → va_S A s.heap H locs → W p l e rm s m args below meth c H locs rm.cells rm.slots Q (F0 m pc ls [.int r])) →
      W p l e rm s m args below meth c s.heap [] 0 0 Q (F0 m 0 ls [])) : CtI l D cI cZ cP y ws rm As wc wc' r := by
  intro sz
  refine Met.ofW (cc := cc) (maxL := maxL) (ret := some ty) hy hw ?_
  intro p e s m args below meth c s₁ B hml hv
  obtain ⟨rfl, hsz, hP, hK, hD0⟩ := hv
  have hr := B.returns
  have hts := atoms_spec (ws := ws) B.pre
  have hown : s.vm.findClass y.cls = some m.cls := findClass_of_methodNamed B.named
  have hlocks := B.notSynchronized
  subst hsz
  have hl := lv_entry As (n := maxL) hsl
  rw [hlv] at hl
  rw [lg_entry_eq]
  refine body p e s m _ below meth c _ _ _ B.exec B.bytes hml hown hts hK.1 hK.2 hP hD0.self va_S.rf (fun q h => Or.inr h) hl ?_
  intro pc ls H locs u hn hd hP hD hS
  exact W.zret B.exec B.bytes hr hn (fun t ht hW => ⟨⟨r, u, rfl, rfl, by rw [ht]; exact hP, hD⟩, hS.F ht⟩) hS.2.2 hd
set_option maxHeartbeats 4000000 in
theorem CtV.ofW {l : Launch} {D : va_G} {cI cZ cP : ClassId} {y : MethodName} {ws ws' : List Cond} {rm : Room} {As : List Value} {wc : va_W} {S : Type} {wc' : S → va_W} {cc : ByteArray} {maxL : Nat}
    (hy : plainName y.cls = true) (hw : ws = Cond.code y cc maxL none :: ws') (hsl : (lg_sl As).length ≤ maxL) {lv : List (Nat × Value)} (hlv : lv_args 0 As = lv)
    (body : ∀ (p : Program) (e : Env) (s : State) (m : MethodId) (args : Array Value) (below : List Frame) (meth : Method) (c : Code) (A : Nat → Prop) (Q : State → Prop) (ls : Array Slot),
      p.tables.exec = Jvm.exec → c.code = cc → c.maxLocals = maxL → s.vm.findClass y.cls = some m.cls → (∀ w ∈ ws, w.before args s = true) → va_K D vwCl (kTy cI cZ cP) s → Nx s → va_P D vwCl wc s.heap → va_D A wc → va_S A s.heap s.heap [] → (∀ q, s.heap.size ≤ q → A q) → lv_has ls maxL lv → meth.name = y.name →
      (∀ (pc : Nat) (ls : Array Slot) (H : Heap) (locs : List Loc) (u : S), decode cc pc = .ok (.return_, 1) → va_P D vwCl (wc' u) H → va_D A (wc' u) → va_S A s.heap H locs → W p l e rm s m args below meth c H locs rm.cells rm.slots Q (F0 m pc ls [])) →
      W p l e rm s m args below meth c s.heap [] 0 0 Q (F0 m 0 ls [])) : CtV l D cI cZ cP y ws rm As wc wc' := by
  intro sz
  refine Met.ofW (cc := cc) (maxL := maxL) (ret := none) hy hw ?_
  intro p e s m args below meth c s₁ B hml hv
  obtain ⟨rfl, hsz, hP, hK, hD0⟩ := hv
  have hr := B.returns
  have hts := atoms_spec (ws := ws) B.pre
  have hown : s.vm.findClass y.cls = some m.cls := findClass_of_methodNamed B.named
  have hlocks := B.notSynchronized
  have hin : meth.name = y.name := (name_of_methodNamed B.named B.method).1
  subst hsz
  have hl := lv_entry As (n := maxL) hsl
  rw [hlv] at hl
  rw [lg_entry_eq]
  refine body p e s m _ below meth c _ _ _ B.exec B.bytes hml hown hts hK.1 hK.2 hP hD0.self va_S.rf (fun q h => Or.inr h) hl hin ?_
  intro pc ls H locs u hd hP hD hS
  exact W.vret B.exec B.bytes hr (fun t ht hW => ⟨⟨u, rfl, trivial, by rw [ht]; exact hP, hD⟩, hS.F ht⟩) hS.2.2 hd
section FR
variable {p : Program} {l : Launch} {e : Env} {R : Room} {s : State} {m : MethodId} {args : Array Value} {below : List Frame} {meth : Method} {c : Code} {H H0 : Heap} {locs : List Loc} {cells slots : Nat} {Q : State → Prop}
variable {D : va_G} {cI cZ cP : ClassId} {A : Nat → Prop} {w wc wr : va_W} {S : Type} {wc' w2 : S → va_W} {r : Int32} {pc mc ms : Nat} {ls : Array Slot} {st0 rest : List Value} {a : Array Value}
theorem fr_map {w wc : va_W} {isC : List Nat} (hC : isC.map (fun i => w[i]?) = wc.map some) : isC.filterMap (fun i => w[i]?) = wc := by
  have h2 : isC.filterMap (fun i => w[i]?) = (isC.map (fun i => w[i]?)).filterMap id := by rw [List.filterMap_map]; rfl
  rw [h2, hC, List.filterMap_map]
  exact List.filterMap_some
/-- reading alone: the world is as it was -/
theorem fr_keep {H1 : Heap} (hP : va_P D vwCl w H) (hD : va_D A w) (isC : List Nat) (hC : isC.map (fun i => w[i]?) = wc.map some) (hk : ∀ q : Nat, q < H.size → ¬ va_A wc H.size q → H1[q]? = H[q]?) (hP1 : va_P D vwCl wc H1) : va_P D vwCl w H1 := by
  intro k q hq
  by_cases hz : ∃ (j : Nat) (x : va_E), wc[j]? = some (q.1, x)
  · obtain ⟨j, x, hj⟩ := hz
    have h1 : (isC.map (fun i => w[i]?))[j]? = some (some (q.1, x)) := by rw [hC, List.getElem?_map, hj]; rfl
    rw [List.getElem?_map] at h1
    cases hi : isC[j]? with
    | none => rw [hi] at h1; cases h1
    | some i =>
      rw [hi] at h1
      have h2 : w[i]? = some (q.1, x) := Option.some.inj h1
      have h3 := hD.1 k i q (q.1, x) hq h2 rfl
      subst h3
      have h4 : q = (q.1, x) := Option.some.inj (hq.symm.trans h2)
      rw [h4]
      exact hP1 j _ hj
  · have hl := (hP k q hq).lt
    refine (hP k q hq).kept (hk q.1 hl (fun h => ?_))
    rcases h with h | h
    · exact hz h
    · omega
theorem fr_ro_i (hr : va_Run p l e R s m args below meth c H locs cells slots mc ms (F0 m pc ls st0) rest (va_Qi (fun (r' : Int32) (_ : S) => r' = r) (BX D wc (fun _ => wc) H.size) (va_A wc H.size) a) (va_A wc H.size))
    (hP : va_P D vwCl w H) (hD : va_D A w) (hS : va_S A H0 H locs) (hA : ∀ q, H0.size ≤ q → A q) (isC : List Nat) (hC : isC.map (fun i => w[i]?) = wc.map some) {c2 s2 : Nat} (hc2 : cells + mc = c2) (hs2 : slots + ms = s2)
    (kk : ∀ (H1 : Heap) (locs1 : List Loc), va_P D vwCl w H1 → va_S A H0 H1 locs1 → W p l e R s m args below meth c H1 locs1 c2 s2 Q (F0 m (pc + 3) ls (.int r :: rest))) : W p l e R s m args below meth c H locs cells slots Q (F0 m pc ls st0) := by
  have hF := va_free (wc := wc) hD hS hA isC hC
  subst hc2; subst hs2
  refine va_calli hr hS (fun q _ h => hF q h) hF (fun r1 u t H1 locs ht hvm hw hB hz1 hk1 hS => ?_)
  obtain ⟨hP1, hD1⟩ := hB
  rw [ht] at hP1
  subst hw
  exact kk H1 locs (fr_keep hP hD isC hC hk1 hP1) hS
theorem fr_rw_i (hr : va_Run p l e R s m args below meth c H locs cells slots mc ms (F0 m pc ls st0) rest (va_Qi (fun (r' : Int32) (_ : S) => r' = r) (BX D wc wc' H.size) (va_A wc H.size) a) (va_A wc H.size))
    (hP : va_P D vwCl w H) (hD : va_D A w) (hS : va_S A H0 H locs) (hA : ∀ q, H0.size ≤ q → A q) (isC isR pm : List Nat) (hC : isC.map (fun i => w[i]?) = wc.map some) (hR : isR.map (fun i => w[i]?) = wr.map some) (hn : va_nd isR = true) (hdis : ∀ i ∈ isR, i ∉ isC)
    (hn2 : va_nd pm = true) (hw2 : ∀ u, pm.map (fun i => (wr ++ wc' u)[i]?) = (w2 u).map some) {c2 s2 : Nat} (hc2 : cells + mc = c2) (hs2 : slots + ms = s2)
    (kk : ∀ (u : S) (H1 : Heap) (locs1 : List Loc), va_P D vwCl (w2 u) H1 → va_D A (w2 u) → va_S A H0 H1 locs1 → W p l e R s m args below meth c H1 locs1 c2 s2 Q (F0 m (pc + 3) ls (.int r :: rest))) : W p l e R s m args below meth c H locs cells slots Q (F0 m pc ls st0) := by
  have hF := va_free (wc := wc) hD hS hA isC hC
  subst hc2; subst hs2
  refine va_calli hr hS (fun q _ h => hF q h) hF (fun r1 u t H1 locs ht hvm hw hB hz1 hk1 hS => ?_)
  obtain ⟨hP1, hD1⟩ := hB
  rw [ht] at hP1
  subst hw
  obtain ⟨hP, hD⟩ := va_join (wr := wr) (w1 := wc' u) hP hD isC isR hC hR hn hdis hk1 hF hP1 hD1
  exact kk u H1 locs (hP.sub pm (fr_map (hw2 u))) (hD.sub pm hn2 (hw2 u)) hS
theorem fr_rw_v (hr : va_Run p l e R s m args below meth c H locs cells slots mc ms (F0 m pc ls st0) rest (va_Qv (fun (_ : S) => True) (BX D wc wc' H.size) (va_A wc H.size) a) (va_A wc H.size))
    (hP : va_P D vwCl w H) (hD : va_D A w) (hS : va_S A H0 H locs) (hA : ∀ q, H0.size ≤ q → A q) (isC isR pm : List Nat) (hC : isC.map (fun i => w[i]?) = wc.map some) (hR : isR.map (fun i => w[i]?) = wr.map some) (hn : va_nd isR = true) (hdis : ∀ i ∈ isR, i ∉ isC)
    (hn2 : va_nd pm = true) (hw2 : ∀ u, pm.map (fun i => (wr ++ wc' u)[i]?) = (w2 u).map some) {c2 s2 : Nat} (hc2 : cells + mc = c2) (hs2 : slots + ms = s2)
    (kk : ∀ (u : S) (H1 : Heap) (locs1 : List Loc), va_P D vwCl (w2 u) H1 → va_D A (w2 u) → va_S A H0 H1 locs1 → W p l e R s m args below meth c H1 locs1 c2 s2 Q (F0 m (pc + 3) ls rest)) : W p l e R s m args below meth c H locs cells slots Q (F0 m pc ls st0) := by
  have hF := va_free (wc := wc) hD hS hA isC hC
  subst hc2; subst hs2
  refine va_callv hr hS (fun q _ h => hF q h) hF (fun u t H1 locs ht hvm hw hB hz1 hk1 hS => ?_)
  obtain ⟨hP1, hD1⟩ := hB
  rw [ht] at hP1
  obtain ⟨hP, hD⟩ := va_join (wr := wr) (w1 := wc' u) hP hD isC isR hC hR hn hdis hk1 hF hP1 hD1
  exact kk u H1 locs (hP.sub pm (fr_map (hw2 u))) (hD.sub pm hn2 (hw2 u)) hS
/-- what a call asks of the heap, out of the caller's world -/
theorem fr_pre {As : List Value} (hK : va_K D vwCl (kTy cI cZ cP) s) (hN : Nx s) (hP : va_P D vwCl w H) (hD : va_D A w) (isC : List Nat) (hnd : va_nd isC = true) (hC : isC.map (fun i => w[i]?) = wc.map some) : PreS s H (PreX D cI cZ cP As wc H.size) As :=
  ⟨preX_blind, fun U hU hW => ⟨rfl, by rw [hU], by rw [hU]; exact hP.sub isC (fr_map hC), Kx.warm hW ⟨hK, hN⟩, (hD.sub isC hnd hC).weaken (fun _ _ _ _ => trivial)⟩⟩
theorem fr_preV {As : List Value} {b ci q0 : Nat} {C : String} {T : u_T} {N : Nat} {fs : List Value} (hK : va_K D vwCl (kTy cI cZ cP) s) (hN : Nx s) (hP : va_P D vwCl w H) (hD : va_D A w) (isC : List Nat) (hnd : va_nd isC = true) (hC : isC.map (fun i => w[i]?) = wc.map some)
    (hc : vwCl[ci]? = some (C, T, N)) (he : w[q0]? = some (b, .inr (ci, fs))) : PreV s H C b (PreX D cI cZ cP (.ref b :: As) wc H.size) As :=
  ⟨preX_blind, va_recv hK hP hc he, (fr_pre (As := .ref b :: As) hK hN hP hD isC hnd hC).2⟩
variable {y : MethodName} {ws ws' : List Cond} {rm : Room} {cc bytes : ByteArray} {nL maxL n index : Nat} {ret : Option FieldType} {Ts : List Cond} {own C host : String} {b : Nat} {As : List Value}
/-- runs by contract: a private method of the same class, of a nest mate; a static one of the same class, of a nest mate; a nest mate's constructor -/
theorem fr_V {rp : Int32} (S0 : CallFix p m c cc nL s args Ts own) (hM : CtI l D cI cZ cP y ws rm (.ref b :: As) wc wc' rp) (hG : GoodIn Ts (wsV own index C y ws)) (hw : ws = Cond.code y bytes maxL ret :: ws') (hp : PreV s H C b (PreX D cI cZ cP (.ref b :: As) wc H.size) As)
    (hd : y.cls = C ∧ y.cls ≠ "java/lang/invoke/MethodHandle" ∧ y.cls ≠ "java/lang/invoke/VarHandle" ∧ (parseMethodDescriptor y.desc).map (fun d => d.parameters.length) = some n) (hR : rm.frames + 1 ≤ R.frames ∧ 8 + (maxL + 11) + rm.locals ≤ R.locals) (hn : As.length = n)
    (hsize : ls.size = nL) (hst : st0 = As.reverse ++ .ref b :: rest) (hcat : (rest.map fun v => v.category).sum ≤ 8) (hdg : decode cc pc = .ok (.invokevirtual index, 3)) (hf : cells + rm.cells ≤ R.cells ∧ slots + rm.slots ≤ R.slots) :
    va_Run p l e R s m args below meth c H locs cells slots rm.cells rm.slots (F0 m pc ls st0) rest (va_Qi (fun (r' : Int32) (_ : S) => r' = rp) (BX D wc wc' H.size) (va_A wc H.size) (Value.ref b :: As).toArray) (va_A wc H.size) :=
  va_runV S0 (hM H.size) (cwV n S0.2.2.2.2 hG hw rfl rfl hd hR) hp rfl hn hsize hst (lv_room hcat) hdg hf
theorem fr_Vv (S0 : CallFix p m c cc nL s args Ts own) (hM : CtV l D cI cZ cP y ws rm (.ref b :: As) wc wc') (hG : GoodIn Ts (wsV own index C y ws)) (hw : ws = Cond.code y bytes maxL ret :: ws') (hp : PreV s H C b (PreX D cI cZ cP (.ref b :: As) wc H.size) As)
    (hd : y.cls = C ∧ y.cls ≠ "java/lang/invoke/MethodHandle" ∧ y.cls ≠ "java/lang/invoke/VarHandle" ∧ (parseMethodDescriptor y.desc).map (fun d => d.parameters.length) = some n) (hR : rm.frames + 1 ≤ R.frames ∧ 8 + (maxL + 11) + rm.locals ≤ R.locals) (hn : As.length = n)
    (hsize : ls.size = nL) (hst : st0 = As.reverse ++ .ref b :: rest) (hcat : (rest.map fun v => v.category).sum ≤ 8) (hdg : decode cc pc = .ok (.invokevirtual index, 3)) (hf : cells + rm.cells ≤ R.cells ∧ slots + rm.slots ≤ R.slots) :
    va_Run p l e R s m args below meth c H locs cells slots rm.cells rm.slots (F0 m pc ls st0) rest (va_Qv (fun (_ : S) => True) (BX D wc wc' H.size) (va_A wc H.size) (Value.ref b :: As).toArray) (va_A wc H.size) :=
  va_runV S0 (hM H.size) (cwV n S0.2.2.2.2 hG hw rfl rfl hd hR) hp rfl hn hsize hst (lv_room hcat) hdg hf
theorem fr_VN {rp : Int32} (S0 : CallFix p m c cc nL s args Ts own) (hN : Nx s) (hM : CtI l D cI cZ cP y ws rm (.ref b :: As) wc wc' rp) (hG : GoodIn Ts ws) (hw : ws = Cond.code y bytes maxL ret :: ws') (hnw : Cond.methodLinkNest own index y host ∈ nx_ws) (hini : Cond.initialized y.cls ∈ Ts) (him : Cond.instanceMethod y ∈ Ts) (hsel : Cond.selects C y y ∈ Ts) (hp : PreV s H C b (PreX D cI cZ cP (.ref b :: As) wc H.size) As)
    (hd : y.cls ≠ "java/lang/invoke/MethodHandle" ∧ y.cls ≠ "java/lang/invoke/VarHandle" ∧ (parseMethodDescriptor y.desc).map (fun d => d.parameters.length) = some n) (hR : rm.frames + 1 ≤ R.frames ∧ 8 + (maxL + 11) + rm.locals ≤ R.locals) (hn : As.length = n)
    (hsize : ls.size = nL) (hst : st0 = As.reverse ++ .ref b :: rest) (hcat : (rest.map fun v => v.category).sum ≤ 8) (hdg : decode cc pc = .ok (.invokevirtual index, 3)) (hf : cells + rm.cells ≤ R.cells ∧ slots + rm.slots ≤ R.slots) :
    va_Run p l e R s m args below meth c H locs cells slots rm.cells rm.slots (F0 m pc ls st0) rest (va_Qi (fun (r' : Int32) (_ : S) => r' = rp) (BX D wc wc' H.size) (va_A wc H.size) (Value.ref b :: As).toArray) (va_A wc H.size) :=
  va_runVN S0 (hM H.size) ⟨va_cnB n S0.2.2.2.2 hG hw rfl rfl (hN _ hnw) (S0.2.2.2.2 _ hini) hd hR, S0.2.2.2.2 _ him, S0.2.2.2.2 _ hsel⟩ hp rfl hn hsize hst (lv_room hcat) hdg hf
theorem fr_VNv (S0 : CallFix p m c cc nL s args Ts own) (hN : Nx s) (hM : CtV l D cI cZ cP y ws rm (.ref b :: As) wc wc') (hG : GoodIn Ts ws) (hw : ws = Cond.code y bytes maxL ret :: ws') (hnw : Cond.methodLinkNest own index y host ∈ nx_ws) (hini : Cond.initialized y.cls ∈ Ts) (him : Cond.instanceMethod y ∈ Ts) (hsel : Cond.selects C y y ∈ Ts) (hp : PreV s H C b (PreX D cI cZ cP (.ref b :: As) wc H.size) As)
    (hd : y.cls ≠ "java/lang/invoke/MethodHandle" ∧ y.cls ≠ "java/lang/invoke/VarHandle" ∧ (parseMethodDescriptor y.desc).map (fun d => d.parameters.length) = some n) (hR : rm.frames + 1 ≤ R.frames ∧ 8 + (maxL + 11) + rm.locals ≤ R.locals) (hn : As.length = n)
    (hsize : ls.size = nL) (hst : st0 = As.reverse ++ .ref b :: rest) (hcat : (rest.map fun v => v.category).sum ≤ 8) (hdg : decode cc pc = .ok (.invokevirtual index, 3)) (hf : cells + rm.cells ≤ R.cells ∧ slots + rm.slots ≤ R.slots) :
    va_Run p l e R s m args below meth c H locs cells slots rm.cells rm.slots (F0 m pc ls st0) rest (va_Qv (fun (_ : S) => True) (BX D wc wc' H.size) (va_A wc H.size) (Value.ref b :: As).toArray) (va_A wc H.size) :=
  va_runVN S0 (hM H.size) ⟨va_cnB n S0.2.2.2.2 hG hw rfl rfl (hN _ hnw) (S0.2.2.2.2 _ hini) hd hR, S0.2.2.2.2 _ him, S0.2.2.2.2 _ hsel⟩ hp rfl hn hsize hst (lv_room hcat) hdg hf
theorem fr_S {rp : Int32} (S0 : CallFix p m c cc nL s args Ts own) (hM : CtI l D cI cZ cP y ws rm As wc wc' rp) (hG : GoodIn Ts (va_wsS own index y ws)) (hw : ws = Cond.code y bytes maxL ret :: ws') (hp : PreS s H (PreX D cI cZ cP As wc H.size) As)
    (hd : y.cls ≠ "java/lang/invoke/MethodHandle" ∧ y.cls ≠ "java/lang/invoke/VarHandle" ∧ (parseMethodDescriptor y.desc).map (fun d => d.parameters.length) = some n) (hR : rm.frames + 1 ≤ R.frames ∧ 8 + (maxL + 11) + rm.locals ≤ R.locals) (hn : As.length = n)
    (hsize : ls.size = nL) (hst : st0 = As.reverse ++ rest) (hcat : (rest.map fun v => v.category).sum ≤ 8) (hdg : decode cc pc = .ok (.invokestatic index, 3)) (hf : cells + rm.cells ≤ R.cells ∧ slots + rm.slots ≤ R.slots) :
    va_Run p l e R s m args below meth c H locs cells slots rm.cells rm.slots (F0 m pc ls st0) rest (va_Qi (fun (r' : Int32) (_ : S) => r' = rp) (BX D wc wc' H.size) (va_A wc H.size) As.toArray) (va_A wc H.size) :=
  va_runS S0 (hM H.size) (va_cwS n S0.2.2.2.2 hG hw rfl rfl hd hR) hp rfl hn hsize hst (lv_room hcat) hdg hf
theorem fr_SN {rp : Int32} (S0 : CallFix p m c cc nL s args Ts own) (hN : Nx s) (hM : CtI l D cI cZ cP y ws rm As wc wc' rp) (hG : GoodIn Ts ws) (hw : ws = Cond.code y bytes maxL ret :: ws') (hnw : Cond.methodLinkNest own index y host ∈ nx_ws) (hini : Cond.initialized y.cls ∈ Ts) (hstat : Cond.static y ∈ Ts) (hp : PreS s H (PreX D cI cZ cP As wc H.size) As)
    (hd : y.cls ≠ "java/lang/invoke/MethodHandle" ∧ y.cls ≠ "java/lang/invoke/VarHandle" ∧ (parseMethodDescriptor y.desc).map (fun d => d.parameters.length) = some n) (hR : rm.frames + 1 ≤ R.frames ∧ 8 + (maxL + 11) + rm.locals ≤ R.locals) (hn : As.length = n)
    (hsize : ls.size = nL) (hst : st0 = As.reverse ++ rest) (hcat : (rest.map fun v => v.category).sum ≤ 8) (hdg : decode cc pc = .ok (.invokestatic index, 3)) (hf : cells + rm.cells ≤ R.cells ∧ slots + rm.slots ≤ R.slots) :
    va_Run p l e R s m args below meth c H locs cells slots rm.cells rm.slots (F0 m pc ls st0) rest (va_Qi (fun (r' : Int32) (_ : S) => r' = rp) (BX D wc wc' H.size) (va_A wc H.size) As.toArray) (va_A wc H.size) :=
  va_runSN S0 (hM H.size) ⟨va_cnB n S0.2.2.2.2 hG hw rfl rfl (hN _ hnw) (S0.2.2.2.2 _ hini) hd hR, S0.2.2.2.2 _ hstat, trivial⟩ hp rfl hn hsize hst (lv_room hcat) hdg hf
theorem fr_IN (S0 : CallFix p m c cc nL s args Ts own) (hN : Nx s) (hM : CtV l D cI cZ cP y ws rm (.ref b :: As) wc wc') (hG : GoodIn Ts ws) (hw : ws = Cond.code y bytes maxL none :: ws') (hnw : Cond.methodLinkNest own index y host ∈ nx_ws) (hini : Cond.initialized y.cls ∈ Ts) (him : Cond.instanceMethod y ∈ Ts) (hnm : y.name = "<init>") (hp : PreS s H (PreX D cI cZ cP (.ref b :: As) wc H.size) (.ref b :: As))
    (hd : y.cls ≠ "java/lang/invoke/MethodHandle" ∧ y.cls ≠ "java/lang/invoke/VarHandle" ∧ (parseMethodDescriptor y.desc).map (fun d => d.parameters.length) = some n) (hR : rm.frames + 1 ≤ R.frames ∧ 8 + (maxL + 11) + rm.locals ≤ R.locals) (hn : As.length = n)
    (hsize : ls.size = nL) (hst : st0 = As.reverse ++ .ref b :: rest) (hcat : (rest.map fun v => v.category).sum ≤ 8) (hdg : decode cc pc = .ok (.invokespecial index, 3)) (hf : cells + rm.cells ≤ R.cells ∧ slots + rm.slots ≤ R.slots) :
    va_Run p l e R s m args below meth c H locs cells slots rm.cells rm.slots (F0 m pc ls st0) rest (va_Qv (fun (_ : S) => True) (BX D wc wc' H.size) (va_A wc H.size) (Value.ref b :: As).toArray) (va_A wc H.size) :=
  va_runIN S0 (hM H.size) ⟨va_cnB n S0.2.2.2.2 hG hw rfl rfl (hN _ hnw) (S0.2.2.2.2 _ hini) hd hR, hnm, S0.2.2.2.2 _ him⟩ hp rfl hn hsize hst (lv_room hcat) hdg hf
/-- an element at a written place -/
theorem fr_iald {tys : List (ClassId × FieldType)} {x : Nat} (hexec : p.tables.exec = Jvm.exec) (hb : c.code = cc) (hK : va_K D vwCl tys s) (hP : va_P D vwCl w H) (q0 t0 : Nat) {cA : ClassId} {n : Nat} {f : Nat → Int32} (ha : w[q0]? = some (x, .inl (cA, n, .inl f))) (ht : tys[t0]? = some (cA, .int)) {i : Int32} {j : Nat} (hj : i.toNatClampNeg = j) (hin : vp_in i n) (hdg : decode cc pc = .ok (.iaload, 1))
    (kk : W p l e R s m args below meth c H locs cells slots Q (F0 m (pc + 1) ls (.int (f j) :: rest))) : W p l e R s m args below meth c H locs cells slots Q (F0 m pc ls (.int i :: .ref x :: rest)) := by
  subst hj
  exact va_iald hexec hb hK hP q0 t0 ha ht hin hdg kk
theorem fr_iast {tys : List (ClassId × FieldType)} {x : Nat} (hexec : p.tables.exec = Jvm.exec) (hb : c.code = cc) (hK : va_K D vwCl tys s) (hP : va_P D vwCl w H) (hD : va_D A w) (hS : va_S A H0 H locs) (q0 t0 : Nat) {cA : ClassId} {n : Nat} {f : Nat → Int32} (ha : w[q0]? = some (x, .inl (cA, n, .inl f))) (ht : tys[t0]? = some (cA, .int)) {i : Int32} {v : Int32} {j : Nat} (hj : i.toNatClampNeg = j) (hin : vp_in i n) (hdg : decode cc pc = .ok (.iastore, 1))
    (kk : ∀ (H1 : Heap) (locs1 : List Loc), va_P D vwCl (w.set q0 (x, .inl (cA, n, .inl (upd f j v)))) H1 → va_D A (w.set q0 (x, .inl (cA, n, .inl (upd f j v)))) → va_S A H0 H1 locs1 → W p l e R s m args below meth c H1 locs1 cells slots Q (F0 m (pc + 1) ls rest)) : W p l e R s m args below meth c H locs cells slots Q (F0 m pc ls (.int v :: .int i :: .ref x :: rest)) := by
  subst hj
  exact va_iast hexec hb hK hP hD hS q0 t0 ha ht hin hdg kk
end FR
/-! words of the decompiled functions -/
theorem no_some {α : Type} {c : Prop} {hc : Decidable c} {k : Option α} {r : α} (h : (if c then none else k) = some r) : ¬ c ∧ k = some r := by
  by_cases hz : c
  · rw [if_pos hz] at h; cases h
  · rw [if_neg hz] at h; exact ⟨hz, h⟩
theorem yes_some {α : Type} {c : Prop} {hc : Decidable c} {k : Option α} {r : α} (h : (if c then k else none) = some r) : c ∧ k = some r := by
  by_cases hz : c
  · rw [if_pos hz] at h; exact ⟨hz, h⟩
  · rw [if_neg hz] at h; cases h
def bdv {α β : Type} (x : α) (k : α → Option β) : Option β := k x
theorem bdv_some {α β : Type} {x y : α} {k : α → Option β} {r : β} (e : y = x) (h : bdv x k = some r) : k y = some r := by subst e; exact h
theorem zz_nar {v : Int32} (h : v = 0 ∨ v = 1) : narrow .boolean (.int v) = .int v := by rcases h with rfl | rfl <;> rfl
theorem zz_fit {v : Int32} (h : v = 0 ∨ v = 1) : fits .boolean (.int v) = true := by rcases h with rfl | rfl <;> rfl
def bd1 {α1 β : Type} (x : Option (α1)) (k : α1 → Option β) : Option β := match x with
  | none => none
  | some x1 => k x1
theorem bd1_some {α1 β : Type} {x : Option (α1)} {k : α1 → Option β} {r : β} (h : bd1 x k = some r) : ∃ x1, x = some x1 ∧ k x1 = some r := by
  rcases x with _ | x1
  · cases h
  · exact ⟨x1, rfl, h⟩
def bd2 {α1 α2 β : Type} (x : Option (α1 × α2)) (k : α1 → α2 → Option β) : Option β := match x with
  | none => none
  | some (x1, x2) => k x1 x2
theorem bd2_some {α1 α2 β : Type} {x : Option (α1 × α2)} {k : α1 → α2 → Option β} {r : β} (h : bd2 x k = some r) : ∃ x1 x2, x = some (x1, x2) ∧ k x1 x2 = some r := by
  rcases x with _ | ⟨x1, x2⟩
  · cases h
  · exact ⟨x1, x2, rfl, h⟩
def bd3 {α1 α2 α3 β : Type} (x : Option (α1 × α2 × α3)) (k : α1 → α2 → α3 → Option β) : Option β := match x with
  | none => none
  | some (x1, x2, x3) => k x1 x2 x3
theorem bd3_some {α1 α2 α3 β : Type} {x : Option (α1 × α2 × α3)} {k : α1 → α2 → α3 → Option β} {r : β} (h : bd3 x k = some r) : ∃ x1 x2 x3, x = some (x1, x2, x3) ∧ k x1 x2 x3 = some r := by
  rcases x with _ | ⟨x1, x2, x3⟩
  · cases h
  · exact ⟨x1, x2, x3, rfl, h⟩
def bd4 {α1 α2 α3 α4 β : Type} (x : Option (α1 × α2 × α3 × α4)) (k : α1 → α2 → α3 → α4 → Option β) : Option β := match x with
  | none => none
  | some (x1, x2, x3, x4) => k x1 x2 x3 x4
theorem bd4_some {α1 α2 α3 α4 β : Type} {x : Option (α1 × α2 × α3 × α4)} {k : α1 → α2 → α3 → α4 → Option β} {r : β} (h : bd4 x k = some r) : ∃ x1 x2 x3 x4, x = some (x1, x2, x3, x4) ∧ k x1 x2 x3 x4 = some r := by
  rcases x with _ | ⟨x1, x2, x3, x4⟩
  · cases h
  · exact ⟨x1, x2, x3, x4, rfl, h⟩
def bd5 {α1 α2 α3 α4 α5 β : Type} (x : Option (α1 × α2 × α3 × α4 × α5)) (k : α1 → α2 → α3 → α4 → α5 → Option β) : Option β := match x with
  | none => none
  | some (x1, x2, x3, x4, x5) => k x1 x2 x3 x4 x5
theorem bd5_some {α1 α2 α3 α4 α5 β : Type} {x : Option (α1 × α2 × α3 × α4 × α5)} {k : α1 → α2 → α3 → α4 → α5 → Option β} {r : β} (h : bd5 x k = some r) : ∃ x1 x2 x3 x4 x5, x = some (x1, x2, x3, x4, x5) ∧ k x1 x2 x3 x4 x5 = some r := by
  rcases x with _ | ⟨x1, x2, x3, x4, x5⟩
  · cases h
  · exact ⟨x1, x2, x3, x4, x5, rfl, h⟩
def bd6 {α1 α2 α3 α4 α5 α6 β : Type} (x : Option (α1 × α2 × α3 × α4 × α5 × α6)) (k : α1 → α2 → α3 → α4 → α5 → α6 → Option β) : Option β := match x with
  | none => none
  | some (x1, x2, x3, x4, x5, x6) => k x1 x2 x3 x4 x5 x6
theorem bd6_some {α1 α2 α3 α4 α5 α6 β : Type} {x : Option (α1 × α2 × α3 × α4 × α5 × α6)} {k : α1 → α2 → α3 → α4 → α5 → α6 → Option β} {r : β} (h : bd6 x k = some r) : ∃ x1 x2 x3 x4 x5 x6, x = some (x1, x2, x3, x4, x5, x6) ∧ k x1 x2 x3 x4 x5 x6 = some r := by
  rcases x with _ | ⟨x1, x2, x3, x4, x5, x6⟩
  · cases h
  · exact ⟨x1, x2, x3, x4, x5, x6, rfl, h⟩
def bd7 {α1 α2 α3 α4 α5 α6 α7 β : Type} (x : Option (α1 × α2 × α3 × α4 × α5 × α6 × α7)) (k : α1 → α2 → α3 → α4 → α5 → α6 → α7 → Option β) : Option β := match x with
  | none => none
  | some (x1, x2, x3, x4, x5, x6, x7) => k x1 x2 x3 x4 x5 x6 x7
theorem bd7_some {α1 α2 α3 α4 α5 α6 α7 β : Type} {x : Option (α1 × α2 × α3 × α4 × α5 × α6 × α7)} {k : α1 → α2 → α3 → α4 → α5 → α6 → α7 → Option β} {r : β} (h : bd7 x k = some r) : ∃ x1 x2 x3 x4 x5 x6 x7, x = some (x1, x2, x3, x4, x5, x6, x7) ∧ k x1 x2 x3 x4 x5 x6 x7 = some r := by
  rcases x with _ | ⟨x1, x2, x3, x4, x5, x6, x7⟩
  · cases h
  · exact ⟨x1, x2, x3, x4, x5, x6, x7, rfl, h⟩
def bd8 {α1 α2 α3 α4 α5 α6 α7 α8 β : Type} (x : Option (α1 × α2 × α3 × α4 × α5 × α6 × α7 × α8)) (k : α1 → α2 → α3 → α4 → α5 → α6 → α7 → α8 → Option β) : Option β := match x with
  | none => none
  | some (x1, x2, x3, x4, x5, x6, x7, x8) => k x1 x2 x3 x4 x5 x6 x7 x8
theorem bd8_some {α1 α2 α3 α4 α5 α6 α7 α8 β : Type} {x : Option (α1 × α2 × α3 × α4 × α5 × α6 × α7 × α8)} {k : α1 → α2 → α3 → α4 → α5 → α6 → α7 → α8 → Option β} {r : β} (h : bd8 x k = some r) : ∃ x1 x2 x3 x4 x5 x6 x7 x8, x = some (x1, x2, x3, x4, x5, x6, x7, x8) ∧ k x1 x2 x3 x4 x5 x6 x7 x8 = some r := by
  rcases x with _ | ⟨x1, x2, x3, x4, x5, x6, x7, x8⟩
  · cases h
  · exact ⟨x1, x2, x3, x4, x5, x6, x7, x8, rfl, h⟩
def bd9 {α1 α2 α3 α4 α5 α6 α7 α8 α9 β : Type} (x : Option (α1 × α2 × α3 × α4 × α5 × α6 × α7 × α8 × α9)) (k : α1 → α2 → α3 → α4 → α5 → α6 → α7 → α8 → α9 → Option β) : Option β := match x with
  | none => none
  | some (x1, x2, x3, x4, x5, x6, x7, x8, x9) => k x1 x2 x3 x4 x5 x6 x7 x8 x9
theorem bd9_some {α1 α2 α3 α4 α5 α6 α7 α8 α9 β : Type} {x : Option (α1 × α2 × α3 × α4 × α5 × α6 × α7 × α8 × α9)} {k : α1 → α2 → α3 → α4 → α5 → α6 → α7 → α8 → α9 → Option β} {r : β} (h : bd9 x k = some r) : ∃ x1 x2 x3 x4 x5 x6 x7 x8 x9, x = some (x1, x2, x3, x4, x5, x6, x7, x8, x9) ∧ k x1 x2 x3 x4 x5 x6 x7 x8 x9 = some r := by
  rcases x with _ | ⟨x1, x2, x3, x4, x5, x6, x7, x8, x9⟩
  · cases h
  · exact ⟨x1, x2, x3, x4, x5, x6, x7, x8, x9, rfl, h⟩
def bd10 {α1 α2 α3 α4 α5 α6 α7 α8 α9 α10 β : Type} (x : Option (α1 × α2 × α3 × α4 × α5 × α6 × α7 × α8 × α9 × α10)) (k : α1 → α2 → α3 → α4 → α5 → α6 → α7 → α8 → α9 → α10 → Option β) : Option β := match x with
  | none => none
  | some (x1, x2, x3, x4, x5, x6, x7, x8, x9, x10) => k x1 x2 x3 x4 x5 x6 x7 x8 x9 x10
theorem bd10_some {α1 α2 α3 α4 α5 α6 α7 α8 α9 α10 β : Type} {x : Option (α1 × α2 × α3 × α4 × α5 × α6 × α7 × α8 × α9 × α10)} {k : α1 → α2 → α3 → α4 → α5 → α6 → α7 → α8 → α9 → α10 → Option β} {r : β} (h : bd10 x k = some r) : ∃ x1 x2 x3 x4 x5 x6 x7 x8 x9 x10, x = some (x1, x2, x3, x4, x5, x6, x7, x8, x9, x10) ∧ k x1 x2 x3 x4 x5 x6 x7 x8 x9 x10 = some r := by
  rcases x with _ | ⟨x1, x2, x3, x4, x5, x6, x7, x8, x9, x10⟩
  · cases h
  · exact ⟨x1, x2, x3, x4, x5, x6, x7, x8, x9, x10, rfl, h⟩
def bd11 {α1 α2 α3 α4 α5 α6 α7 α8 α9 α10 α11 β : Type} (x : Option (α1 × α2 × α3 × α4 × α5 × α6 × α7 × α8 × α9 × α10 × α11)) (k : α1 → α2 → α3 → α4 → α5 → α6 → α7 → α8 → α9 → α10 → α11 → Option β) : Option β := match x with
  | none => none
  | some (x1, x2, x3, x4, x5, x6, x7, x8, x9, x10, x11) => k x1 x2 x3 x4 x5 x6 x7 x8 x9 x10 x11
theorem bd11_some {α1 α2 α3 α4 α5 α6 α7 α8 α9 α10 α11 β : Type} {x : Option (α1 × α2 × α3 × α4 × α5 × α6 × α7 × α8 × α9 × α10 × α11)} {k : α1 → α2 → α3 → α4 → α5 → α6 → α7 → α8 → α9 → α10 → α11 → Option β} {r : β} (h : bd11 x k = some r) : ∃ x1 x2 x3 x4 x5 x6 x7 x8 x9 x10 x11, x = some (x1, x2, x3, x4, x5, x6, x7, x8, x9, x10, x11) ∧ k x1 x2 x3 x4 x5 x6 x7 x8 x9 x10 x11 = some r := by
  rcases x with _ | ⟨x1, x2, x3, x4, x5, x6, x7, x8, x9, x10, x11⟩
  · cases h
  · exact ⟨x1, x2, x3, x4, x5, x6, x7, x8, x9, x10, x11, rfl, h⟩
def bd12 {α1 α2 α3 α4 α5 α6 α7 α8 α9 α10 α11 α12 β : Type} (x : Option (α1 × α2 × α3 × α4 × α5 × α6 × α7 × α8 × α9 × α10 × α11 × α12)) (k : α1 → α2 → α3 → α4 → α5 → α6 → α7 → α8 → α9 → α10 → α11 → α12 → Option β) : Option β := match x with
  | none => none
  | some (x1, x2, x3, x4, x5, x6, x7, x8, x9, x10, x11, x12) => k x1 x2 x3 x4 x5 x6 x7 x8 x9 x10 x11 x12
theorem bd12_some {α1 α2 α3 α4 α5 α6 α7 α8 α9 α10 α11 α12 β : Type} {x : Option (α1 × α2 × α3 × α4 × α5 × α6 × α7 × α8 × α9 × α10 × α11 × α12)} {k : α1 → α2 → α3 → α4 → α5 → α6 → α7 → α8 → α9 → α10 → α11 → α12 → Option β} {r : β} (h : bd12 x k = some r) : ∃ x1 x2 x3 x4 x5 x6 x7 x8 x9 x10 x11 x12, x = some (x1, x2, x3, x4, x5, x6, x7, x8, x9, x10, x11, x12) ∧ k x1 x2 x3 x4 x5 x6 x7 x8 x9 x10 x11 x12 = some r := by
  rcases x with _ | ⟨x1, x2, x3, x4, x5, x6, x7, x8, x9, x10, x11, x12⟩
  · cases h
  · exact ⟨x1, x2, x3, x4, x5, x6, x7, x8, x9, x10, x11, x12, rfl, h⟩
def bd13 {α1 α2 α3 α4 α5 α6 α7 α8 α9 α10 α11 α12 α13 β : Type} (x : Option (α1 × α2 × α3 × α4 × α5 × α6 × α7 × α8 × α9 × α10 × α11 × α12 × α13)) (k : α1 → α2 → α3 → α4 → α5 → α6 → α7 → α8 → α9 → α10 → α11 → α12 → α13 → Option β) : Option β := match x with
  | none => none
  | some (x1, x2, x3, x4, x5, x6, x7, x8, x9, x10, x11, x12, x13) => k x1 x2 x3 x4 x5 x6 x7 x8 x9 x10 x11 x12 x13
theorem bd13_some {α1 α2 α3 α4 α5 α6 α7 α8 α9 α10 α11 α12 α13 β : Type} {x : Option (α1 × α2 × α3 × α4 × α5 × α6 × α7 × α8 × α9 × α10 × α11 × α12 × α13)} {k : α1 → α2 → α3 → α4 → α5 → α6 → α7 → α8 → α9 → α10 → α11 → α12 → α13 → Option β} {r : β} (h : bd13 x k = some r) : ∃ x1 x2 x3 x4 x5 x6 x7 x8 x9 x10 x11 x12 x13, x = some (x1, x2, x3, x4, x5, x6, x7, x8, x9, x10, x11, x12, x13) ∧ k x1 x2 x3 x4 x5 x6 x7 x8 x9 x10 x11 x12 x13 = some r := by
  rcases x with _ | ⟨x1, x2, x3, x4, x5, x6, x7, x8, x9, x10, x11, x12, x13⟩
  · cases h
  · exact ⟨x1, x2, x3, x4, x5, x6, x7, x8, x9, x10, x11, x12, x13, rfl, h⟩
def bd14 {α1 α2 α3 α4 α5 α6 α7 α8 α9 α10 α11 α12 α13 α14 β : Type} (x : Option (α1 × α2 × α3 × α4 × α5 × α6 × α7 × α8 × α9 × α10 × α11 × α12 × α13 × α14)) (k : α1 → α2 → α3 → α4 → α5 → α6 → α7 → α8 → α9 → α10 → α11 → α12 → α13 → α14 → Option β) : Option β := match x with
  | none => none
  | some (x1, x2, x3, x4, x5, x6, x7, x8, x9, x10, x11, x12, x13, x14) => k x1 x2 x3 x4 x5 x6 x7 x8 x9 x10 x11 x12 x13 x14
theorem bd14_some {α1 α2 α3 α4 α5 α6 α7 α8 α9 α10 α11 α12 α13 α14 β : Type} {x : Option (α1 × α2 × α3 × α4 × α5 × α6 × α7 × α8 × α9 × α10 × α11 × α12 × α13 × α14)} {k : α1 → α2 → α3 → α4 → α5 → α6 → α7 → α8 → α9 → α10 → α11 → α12 → α13 → α14 → Option β} {r : β} (h : bd14 x k = some r) : ∃ x1 x2 x3 x4 x5 x6 x7 x8 x9 x10 x11 x12 x13 x14, x = some (x1, x2, x3, x4, x5, x6, x7, x8, x9, x10, x11, x12, x13, x14) ∧ k x1 x2 x3 x4 x5 x6 x7 x8 x9 x10 x11 x12 x13 x14 = some r := by
  rcases x with _ | ⟨x1, x2, x3, x4, x5, x6, x7, x8, x9, x10, x11, x12, x13, x14⟩
  · cases h
  · exact ⟨x1, x2, x3, x4, x5, x6, x7, x8, x9, x10, x11, x12, x13, x14, rfl, h⟩
def bd15 {α1 α2 α3 α4 α5 α6 α7 α8 α9 α10 α11 α12 α13 α14 α15 β : Type} (x : Option (α1 × α2 × α3 × α4 × α5 × α6 × α7 × α8 × α9 × α10 × α11 × α12 × α13 × α14 × α15)) (k : α1 → α2 → α3 → α4 → α5 → α6 → α7 → α8 → α9 → α10 → α11 → α12 → α13 → α14 → α15 → Option β) : Option β := match x with
  | none => none
  | some (x1, x2, x3, x4, x5, x6, x7, x8, x9, x10, x11, x12, x13, x14, x15) => k x1 x2 x3 x4 x5 x6 x7 x8 x9 x10 x11 x12 x13 x14 x15
theorem bd15_some {α1 α2 α3 α4 α5 α6 α7 α8 α9 α10 α11 α12 α13 α14 α15 β : Type} {x : Option (α1 × α2 × α3 × α4 × α5 × α6 × α7 × α8 × α9 × α10 × α11 × α12 × α13 × α14 × α15)} {k : α1 → α2 → α3 → α4 → α5 → α6 → α7 → α8 → α9 → α10 → α11 → α12 → α13 → α14 → α15 → Option β} {r : β} (h : bd15 x k = some r) : ∃ x1 x2 x3 x4 x5 x6 x7 x8 x9 x10 x11 x12 x13 x14 x15, x = some (x1, x2, x3, x4, x5, x6, x7, x8, x9, x10, x11, x12, x13, x14, x15) ∧ k x1 x2 x3 x4 x5 x6 x7 x8 x9 x10 x11 x12 x13 x14 x15 = some r := by
  rcases x with _ | ⟨x1, x2, x3, x4, x5, x6, x7, x8, x9, x10, x11, x12, x13, x14, x15⟩
  · cases h
  · exact ⟨x1, x2, x3, x4, x5, x6, x7, x8, x9, x10, x11, x12, x13, x14, x15, rfl, h⟩
def bd16 {α1 α2 α3 α4 α5 α6 α7 α8 α9 α10 α11 α12 α13 α14 α15 α16 β : Type} (x : Option (α1 × α2 × α3 × α4 × α5 × α6 × α7 × α8 × α9 × α10 × α11 × α12 × α13 × α14 × α15 × α16)) (k : α1 → α2 → α3 → α4 → α5 → α6 → α7 → α8 → α9 → α10 → α11 → α12 → α13 → α14 → α15 → α16 → Option β) : Option β := match x with
  | none => none
  | some (x1, x2, x3, x4, x5, x6, x7, x8, x9, x10, x11, x12, x13, x14, x15, x16) => k x1 x2 x3 x4 x5 x6 x7 x8 x9 x10 x11 x12 x13 x14 x15 x16
theorem bd16_some {α1 α2 α3 α4 α5 α6 α7 α8 α9 α10 α11 α12 α13 α14 α15 α16 β : Type} {x : Option (α1 × α2 × α3 × α4 × α5 × α6 × α7 × α8 × α9 × α10 × α11 × α12 × α13 × α14 × α15 × α16)} {k : α1 → α2 → α3 → α4 → α5 → α6 → α7 → α8 → α9 → α10 → α11 → α12 → α13 → α14 → α15 → α16 → Option β} {r : β} (h : bd16 x k = some r) : ∃ x1 x2 x3 x4 x5 x6 x7 x8 x9 x10 x11 x12 x13 x14 x15 x16, x = some (x1, x2, x3, x4, x5, x6, x7, x8, x9, x10, x11, x12, x13, x14, x15, x16) ∧ k x1 x2 x3 x4 x5 x6 x7 x8 x9 x10 x11 x12 x13 x14 x15 x16 = some r := by
  rcases x with _ | ⟨x1, x2, x3, x4, x5, x6, x7, x8, x9, x10, x11, x12, x13, x14, x15, x16⟩
  · cases h
  · exact ⟨x1, x2, x3, x4, x5, x6, x7, x8, x9, x10, x11, x12, x13, x14, x15, x16, rfl, h⟩
def bd17 {α1 α2 α3 α4 α5 α6 α7 α8 α9 α10 α11 α12 α13 α14 α15 α16 α17 β : Type} (x : Option (α1 × α2 × α3 × α4 × α5 × α6 × α7 × α8 × α9 × α10 × α11 × α12 × α13 × α14 × α15 × α16 × α17)) (k : α1 → α2 → α3 → α4 → α5 → α6 → α7 → α8 → α9 → α10 → α11 → α12 → α13 → α14 → α15 → α16 → α17 → Option β) : Option β := match x with
  | none => none
  | some (x1, x2, x3, x4, x5, x6, x7, x8, x9, x10, x11, x12, x13, x14, x15, x16, x17) => k x1 x2 x3 x4 x5 x6 x7 x8 x9 x10 x11 x12 x13 x14 x15 x16 x17
theorem bd17_some {α1 α2 α3 α4 α5 α6 α7 α8 α9 α10 α11 α12 α13 α14 α15 α16 α17 β : Type} {x : Option (α1 × α2 × α3 × α4 × α5 × α6 × α7 × α8 × α9 × α10 × α11 × α12 × α13 × α14 × α15 × α16 × α17)} {k : α1 → α2 → α3 → α4 → α5 → α6 → α7 → α8 → α9 → α10 → α11 → α12 → α13 → α14 → α15 → α16 → α17 → Option β} {r : β} (h : bd17 x k = some r) : ∃ x1 x2 x3 x4 x5 x6 x7 x8 x9 x10 x11 x12 x13 x14 x15 x16 x17, x = some (x1, x2, x3, x4, x5, x6, x7, x8, x9, x10, x11, x12, x13, x14, x15, x16, x17) ∧ k x1 x2 x3 x4 x5 x6 x7 x8 x9 x10 x11 x12 x13 x14 x15 x16 x17 = some r := by
  rcases x with _ | ⟨x1, x2, x3, x4, x5, x6, x7, x8, x9, x10, x11, x12, x13, x14, x15, x16, x17⟩
  · cases h
  · exact ⟨x1, x2, x3, x4, x5, x6, x7, x8, x9, x10, x11, x12, x13, x14, x15, x16, x17, rfl, h⟩
def bd18 {α1 α2 α3 α4 α5 α6 α7 α8 α9 α10 α11 α12 α13 α14 α15 α16 α17 α18 β : Type} (x : Option (α1 × α2 × α3 × α4 × α5 × α6 × α7 × α8 × α9 × α10 × α11 × α12 × α13 × α14 × α15 × α16 × α17 × α18)) (k : α1 → α2 → α3 → α4 → α5 → α6 → α7 → α8 → α9 → α10 → α11 → α12 → α13 → α14 → α15 → α16 → α17 → α18 → Option β) : Option β := match x with
  | none => none
  | some (x1, x2, x3, x4, x5, x6, x7, x8, x9, x10, x11, x12, x13, x14, x15, x16, x17, x18) => k x1 x2 x3 x4 x5 x6 x7 x8 x9 x10 x11 x12 x13 x14 x15 x16 x17 x18
theorem bd18_some {α1 α2 α3 α4 α5 α6 α7 α8 α9 α10 α11 α12 α13 α14 α15 α16 α17 α18 β : Type} {x : Option (α1 × α2 × α3 × α4 × α5 × α6 × α7 × α8 × α9 × α10 × α11 × α12 × α13 × α14 × α15 × α16 × α17 × α18)} {k : α1 → α2 → α3 → α4 → α5 → α6 → α7 → α8 → α9 → α10 → α11 → α12 → α13 → α14 → α15 → α16 → α17 → α18 → Option β} {r : β} (h : bd18 x k = some r) : ∃ x1 x2 x3 x4 x5 x6 x7 x8 x9 x10 x11 x12 x13 x14 x15 x16 x17 x18, x = some (x1, x2, x3, x4, x5, x6, x7, x8, x9, x10, x11, x12, x13, x14, x15, x16, x17, x18) ∧ k x1 x2 x3 x4 x5 x6 x7 x8 x9 x10 x11 x12 x13 x14 x15 x16 x17 x18 = some r := by
  rcases x with _ | ⟨x1, x2, x3, x4, x5, x6, x7, x8, x9, x10, x11, x12, x13, x14, x15, x16, x17, x18⟩
  · cases h
  · exact ⟨x1, x2, x3, x4, x5, x6, x7, x8, x9, x10, x11, x12, x13, x14, x15, x16, x17, x18, rfl, h⟩
def bd19 {α1 α2 α3 α4 α5 α6 α7 α8 α9 α10 α11 α12 α13 α14 α15 α16 α17 α18 α19 β : Type} (x : Option (α1 × α2 × α3 × α4 × α5 × α6 × α7 × α8 × α9 × α10 × α11 × α12 × α13 × α14 × α15 × α16 × α17 × α18 × α19)) (k : α1 → α2 → α3 → α4 → α5 → α6 → α7 → α8 → α9 → α10 → α11 → α12 → α13 → α14 → α15 → α16 → α17 → α18 → α19 → Option β) : Option β := match x with
  | none => none
  | some (x1, x2, x3, x4, x5, x6, x7, x8, x9, x10, x11, x12, x13, x14, x15, x16, x17, x18, x19) => k x1 x2 x3 x4 x5 x6 x7 x8 x9 x10 x11 x12 x13 x14 x15 x16 x17 x18 x19
theorem bd19_some {α1 α2 α3 α4 α5 α6 α7 α8 α9 α10 α11 α12 α13 α14 α15 α16 α17 α18 α19 β : Type} {x : Option (α1 × α2 × α3 × α4 × α5 × α6 × α7 × α8 × α9 × α10 × α11 × α12 × α13 × α14 × α15 × α16 × α17 × α18 × α19)} {k : α1 → α2 → α3 → α4 → α5 → α6 → α7 → α8 → α9 → α10 → α11 → α12 → α13 → α14 → α15 → α16 → α17 → α18 → α19 → Option β} {r : β} (h : bd19 x k = some r) : ∃ x1 x2 x3 x4 x5 x6 x7 x8 x9 x10 x11 x12 x13 x14 x15 x16 x17 x18 x19, x = some (x1, x2, x3, x4, x5, x6, x7, x8, x9, x10, x11, x12, x13, x14, x15, x16, x17, x18, x19) ∧ k x1 x2 x3 x4 x5 x6 x7 x8 x9 x10 x11 x12 x13 x14 x15 x16 x17 x18 x19 = some r := by
  rcases x with _ | ⟨x1, x2, x3, x4, x5, x6, x7, x8, x9, x10, x11, x12, x13, x14, x15, x16, x17, x18, x19⟩
  · cases h
  · exact ⟨x1, x2, x3, x4, x5, x6, x7, x8, x9, x10, x11, x12, x13, x14, x15, x16, x17, x18, x19, rfl, h⟩
def bd20 {α1 α2 α3 α4 α5 α6 α7 α8 α9 α10 α11 α12 α13 α14 α15 α16 α17 α18 α19 α20 β : Type} (x : Option (α1 × α2 × α3 × α4 × α5 × α6 × α7 × α8 × α9 × α10 × α11 × α12 × α13 × α14 × α15 × α16 × α17 × α18 × α19 × α20)) (k : α1 → α2 → α3 → α4 → α5 → α6 → α7 → α8 → α9 → α10 → α11 → α12 → α13 → α14 → α15 → α16 → α17 → α18 → α19 → α20 → Option β) : Option β := match x with
  | none => none
  | some (x1, x2, x3, x4, x5, x6, x7, x8, x9, x10, x11, x12, x13, x14, x15, x16, x17, x18, x19, x20) => k x1 x2 x3 x4 x5 x6 x7 x8 x9 x10 x11 x12 x13 x14 x15 x16 x17 x18 x19 x20
theorem bd20_some {α1 α2 α3 α4 α5 α6 α7 α8 α9 α10 α11 α12 α13 α14 α15 α16 α17 α18 α19 α20 β : Type} {x : Option (α1 × α2 × α3 × α4 × α5 × α6 × α7 × α8 × α9 × α10 × α11 × α12 × α13 × α14 × α15 × α16 × α17 × α18 × α19 × α20)} {k : α1 → α2 → α3 → α4 → α5 → α6 → α7 → α8 → α9 → α10 → α11 → α12 → α13 → α14 → α15 → α16 → α17 → α18 → α19 → α20 → Option β} {r : β} (h : bd20 x k = some r) : ∃ x1 x2 x3 x4 x5 x6 x7 x8 x9 x10 x11 x12 x13 x14 x15 x16 x17 x18 x19 x20, x = some (x1, x2, x3, x4, x5, x6, x7, x8, x9, x10, x11, x12, x13, x14, x15, x16, x17, x18, x19, x20) ∧ k x1 x2 x3 x4 x5 x6 x7 x8 x9 x10 x11 x12 x13 x14 x15 x16 x17 x18 x19 x20 = some r := by
  rcases x with _ | ⟨x1, x2, x3, x4, x5, x6, x7, x8, x9, x10, x11, x12, x13, x14, x15, x16, x17, x18, x19, x20⟩
  · cases h
  · exact ⟨x1, x2, x3, x4, x5, x6, x7, x8, x9, x10, x11, x12, x13, x14, x15, x16, x17, x18, x19, x20, rfl, h⟩
theorem vin_of (j n : Nat) (i : Int32) (h0 : ¬ i < 0) (h1 : i.toNatClampNeg = j) (h2 : j < n) : vp_in i n := fun h => by
  rcases h with h | h
  · exact h0 h
  · omega
/-- fuel for loops: more than any run needs -/
def FU : Nat := 1000001
end
section
def fX2_firstSlot_b4 (fKs : Nat → Int32) : Nat → Int32 → Int32 → Int32 → Option (Int32)
  | 0, _, _, _ => none
  | n + 1, x1, x2, x3 =>
    if x1 ≤ x3 then
      some x2
    else
      if (8 : Int32) ≤ x3 then
        some x2
      else
        if x3 < 0 ∨ 8 ≤ x3.toNatClampNeg then none else
        bdv (x2 + (fKs x3.toNatClampNeg)) fun x2_23 =>
        fX2_firstSlot_b4 fKs n x1 x2_23 (x3 + 1)
def fX2_firstSlot (fKs : Nat → Int32) (x1 : Int32) : Option (Int32) :=
  fX2_firstSlot_b4 fKs FU x1 (0 : Int32) (0 : Int32)
abbrev rX2_firstSlot : Room := { frames := 0, cells := 0, slots := 0, locals := 0 }
set_option maxHeartbeats 4000000 in
set_option maxRecDepth 100000 in
theorem tX2_firstSlot {l : Launch} {D : va_G} {cI cZ cP : ClassId} (aK aKs aKd : Nat) (vKn : Int32) (fKs : Nat → Int32) (x1 : Int32) (r : Int32) (h : fX2_firstSlot fKs x1 = some r) : CtI l D cI cZ cP yX2_firstSlot wsX2_firstSlot rX2_firstSlot [.ref aK, .int x1] [(aK, .inr (2, [.int vKn, .ref aKd, .ref aKs])), (aKs, .inl (cI, 8, .inl fKs))] (fun _ : Unit => [(aK, .inr (2, [.int vKn, .ref aKd, .ref aKs])), (aKs, .inl (cI, 8, .inl fKs))]) r := by
  refine CtI.ofW (cc := cX2_firstSlot) (maxL := 4) (by decide) rfl (Nat.le_of_ble_eq_true rfl) (lv := [(0, .ref aK), (1, .int x1)]) rfl ?_
  intro p e s m args below meth c A Q ls hx hb hml hown hts hK hN hP hD hS hA hl hret0
  have hown : s.vm.findClass RX2 = some m.cls := hown
  have i2 : ∀ w ∈ wsX20, w ∈ wsX2_firstSlot := mem_ps [2, 3, 4] rfl
  have hret : ∀ (v : Int32) (pc : Nat) (ls : Array Slot) (H : Heap) (locs : List Loc), narrow .int (.int v) = .int v → decode cX2_firstSlot pc = .ok (.ireturn, 1) → va_P D vwCl [(aK, .inr (2, [.int vKn, .ref aKd, .ref aKs])), (aKs, .inl (cI, 8, .inl fKs))] H → va_D A [(aK, .inr (2, [.int vKn, .ref aKd, .ref aKs])), (aKs, .inl (cI, 8, .inl fKs))] → va_S A s.heap H locs → some v = some r → W p l e rX2_firstSlot s m args below meth c H locs 0 0 Q (F0 m pc ls [.int v]) := by
    intro v pc ls H locs hn hd hP hD hS h
    cases h
    exact hret0 pc ls H locs () hn hd hP hD hS
  clear hret0
  have hb4 : ∀ (n : Nat) (x1 : Int32) (x2 : Int32) (x3 : Int32) (H : Heap) (locs : List Loc) (ls : Array Slot), va_P D vwCl [(aK, .inr (2, [.int vKn, .ref aKd, .ref aKs])), (aKs, .inl (cI, 8, .inl fKs))] H → va_D A [(aK, .inr (2, [.int vKn, .ref aKd, .ref aKs])), (aKs, .inl (cI, 8, .inl fKs))] → va_S A s.heap H locs → lv_has ls 4 [(0, .ref aK), (1, .int x1), (2, .int x2), (3, .int x3)] → fX2_firstSlot_b4 fKs n x1 x2 x3 = some r → W p l e rX2_firstSlot s m args below meth c H locs 0 0 Q (F0 m 4 ls []) := by
    intro n
    induction n with
    | zero => intro x1 x2 x3 H locs ls hP hD hS hl h; exact absurd h (by rw [fX2_firstSlot_b4]; exact fun z => by cases z)
    | succ n ih =>
      intro x1 x2 x3 H locs ls hP hD hS hl h
      rw [fX2_firstSlot_b4] at h
      refine lv_iload_n hx hb dX2_firstSlot_4 rfl (lv_at hl 3 rfl) ?_
      refine lv_iload_n hx hb dX2_firstSlot_5 rfl (lv_at hl 1 rfl) ?_
      refine lv_icmp_ge (tgt := 30) hx hb dX2_firstSlot_6 (by decide) (fun c1 => ?_) (fun c1 => ?_)
      · have h := (if_pos c1).symm.trans h
        refine lv_iload_n hx hb dX2_firstSlot_30 rfl (lv_at hl 2 rfl) ?_
        exact hret x2 31 ls H locs rfl dX2_firstSlot_31 hP hD hS h
      · have h := (if_neg c1).symm.trans h
        refine lv_iload_n hx hb dX2_firstSlot_9 rfl (lv_at hl 3 rfl) ?_
        refine lv_bipush (v := (8 : Int32)) hx hb dX2_firstSlot_10 (by decide) ?_
        refine lv_icmp_ge (tgt := 30) hx hb dX2_firstSlot_12 (by decide) (fun c2 => ?_) (fun c2 => ?_)
        · have h := (if_pos c2).symm.trans h
          refine lv_iload_n hx hb dX2_firstSlot_30 rfl (lv_at hl 2 rfl) ?_
          exact hret x2 31 ls H locs rfl dX2_firstSlot_31 hP hD hS h
        · have h := (if_neg c2).symm.trans h
          refine lv_iload_n hx hb dX2_firstSlot_15 rfl (lv_at hl 2 rfl) ?_
          refine lv_aload_n hx hb dX2_firstSlot_16 rfl (lv_at hl 0 rfl) ?_
          refine va_get (D := D) (ci := 2) (v := .ref aKs) (C := RX2) (T := TX2) (N := 3) hx hb hts i2 hown hK hP 0 rfl rfl 2 (by decide) (hts (.fieldLink RX2 15 RX2 "stocks" "[I") (List.mem_of_getElem? (i := 1) rfl)) (fun _ h9 => h9) rfl dX2_firstSlot_17 ?_
          refine lv_iload_n hx hb dX2_firstSlot_20 rfl (lv_at hl 3 rfl) ?_
          obtain ⟨g3, h⟩ := no_some h
          refine va_iald hx hb hK hP 1 0 rfl rfl g3 dX2_firstSlot_21 ?_
          refine lv_iadd hx hb dX2_firstSlot_22 ?_
          refine lv_topi (fun x2_23 ex2_23 => ?_)
          have h := bdv_some ex2_23 h
          refine lv_istore_n (lv' := [(2, .int x2_23), (0, .ref aK), (1, .int x1), (3, .int x3)]) hx hb dX2_firstSlot_23 rfl hl (by decide) rfl (fun ls hl => ?_)
          refine lv_iinc (v := x3 + 1) (lv' := [(3, .int (x3 + 1)), (2, .int x2_23), (0, .ref aK), (1, .int x1)]) hx hb dX2_firstSlot_24 hl (k := 3) rfl rfl (by decide) rfl (fun ls hl => ?_)
          refine lv_goto (tgt := 4) hx hb dX2_firstSlot_27 (by decide) ?_
          exact ih x1 x2_23 (x3 + 1) H locs ls hP hD hS (lv_sub hl [2, 3, 1, 0] rfl) h
  unfold fX2_firstSlot at h
  obtain ⟨H, hH⟩ : ∃ H, H = s.heap := ⟨_, rfl⟩
  have hP : va_P D vwCl [(aK, .inr (2, [.int vKn, .ref aKd, .ref aKs])), (aKs, .inl (cI, 8, .inl fKs))] H := by rw [hH]; exact hP
  obtain ⟨locs, hlocs⟩ : ∃ x : List Loc, x = [] := ⟨_, rfl⟩
  have hS : va_S A s.heap H locs := by rw [hH, hlocs]; exact hS
  suffices hgo : W p l e rX2_firstSlot s m args below meth c H locs 0 0 Q (F0 m 0 ls []) by rw [hH, hlocs] at hgo; exact hgo
  refine lv_iconst (v := (0 : Int32)) hx hb dX2_firstSlot_0 (by decide) ?_
  refine lv_istore_n (lv' := [(2, .int (0 : Int32)), (0, .ref aK), (1, .int x1)]) hx hb dX2_firstSlot_1 rfl hl (by decide) rfl (fun ls hl => ?_)
  refine lv_iconst (v := (0 : Int32)) hx hb dX2_firstSlot_2 (by decide) ?_
  refine lv_istore_n (lv' := [(3, .int (0 : Int32)), (2, .int (0 : Int32)), (0, .ref aK), (1, .int x1)]) hx hb dX2_firstSlot_3 rfl hl (by decide) rfl (fun ls hl => ?_)
  exact hb4 FU x1 (0 : Int32) (0 : Int32) H locs ls hP hD hS (lv_sub hl [2, 3, 1, 0] rfl) h
def fX2_slots (vKn : Int32) (fKs : Nat → Int32) : Option (Int32) :=
  bd1 (fX2_firstSlot fKs vKn) fun r_5 =>
  some r_5
abbrev rX2_slots : Room := { frames := 1, cells := 0, slots := 0, locals := 23 }
set_option maxHeartbeats 4000000 in
set_option maxRecDepth 100000 in
theorem tX2_slots {l : Launch} {D : va_G} {cI cZ cP : ClassId} (aK aKs aKd : Nat) (vKn : Int32) (fKs : Nat → Int32) (r : Int32) (h : fX2_slots vKn fKs = some r) : CtI l D cI cZ cP yX2_slots wsX2_slots rX2_slots [.ref aK] [(aK, .inr (2, [.int vKn, .ref aKd, .ref aKs])), (aKs, .inl (cI, 8, .inl fKs))] (fun _ : Unit => [(aK, .inr (2, [.int vKn, .ref aKd, .ref aKs])), (aKs, .inl (cI, 8, .inl fKs))]) r := by
  refine CtI.ofW (cc := cX2_slots) (maxL := 1) (by decide) rfl (Nat.le_of_ble_eq_true rfl) (lv := [(0, .ref aK)]) rfl ?_
  intro p e s m args below meth c A Q ls hx hb hml hown hts hK hN hP hD hS hA hl hret0
  have hown : s.vm.findClass RX2 = some m.cls := hown
  have i2 : ∀ w ∈ wsX20, w ∈ wsX2_slots := mem_ps [8, 9, 10] rfl
  have hret : ∀ (v : Int32) (pc : Nat) (ls : Array Slot) (H : Heap) (locs : List Loc), narrow .int (.int v) = .int v → decode cX2_slots pc = .ok (.ireturn, 1) → va_P D vwCl [(aK, .inr (2, [.int vKn, .ref aKd, .ref aKs])), (aKs, .inl (cI, 8, .inl fKs))] H → va_D A [(aK, .inr (2, [.int vKn, .ref aKd, .ref aKs])), (aKs, .inl (cI, 8, .inl fKs))] → va_S A s.heap H locs → some v = some r → W p l e rX2_slots s m args below meth c H locs 0 0 Q (F0 m pc ls [.int v]) := by
    intro v pc ls H locs hn hd hP hD hS h
    cases h
    exact hret0 pc ls H locs () hn hd hP hD hS
  clear hret0
  unfold fX2_slots at h
  obtain ⟨H, hH⟩ : ∃ H, H = s.heap := ⟨_, rfl⟩
  have hP : va_P D vwCl [(aK, .inr (2, [.int vKn, .ref aKd, .ref aKs])), (aKs, .inl (cI, 8, .inl fKs))] H := by rw [hH]; exact hP
  obtain ⟨locs, hlocs⟩ : ∃ x : List Loc, x = [] := ⟨_, rfl⟩
  have hS : va_S A s.heap H locs := by rw [hH, hlocs]; exact hS
  suffices hgo : W p l e rX2_slots s m args below meth c H locs 0 0 Q (F0 m 0 ls []) by rw [hH, hlocs] at hgo; exact hgo
  refine lv_aload_n hx hb dX2_slots_0 rfl (lv_at hl 0 rfl) ?_
  refine lv_aload_n hx hb dX2_slots_1 rfl (lv_at hl 0 rfl) ?_
  refine va_get (D := D) (ci := 2) (v := .int vKn) (C := RX2) (T := TX2) (N := 3) hx hb hts i2 hown hK hP 0 rfl rfl 0 (by decide) (hts (.fieldLink RX2 18 RX2 "count" "I") (List.mem_of_getElem? (i := 1) rfl)) (fun _ h9 => h9) rfl dX2_slots_2 ?_
  obtain ⟨r_5, q_5, h⟩ := bd1_some h
  refine fr_ro_i (S := Unit) (wc := [(aK, .inr (2, [.int vKn, .ref aKd, .ref aKs])), (aKs, .inl (cI, 8, .inl fKs))]) (fr_V (As := [.int vKn]) (rest := []) (C := RX2) ⟨hx, hb, hml, hown, hts⟩ (tX2_firstSlot aK aKs aKd vKn fKs vKn r_5 q_5) gX2_slots_X2_firstSlot rfl (fr_preV (As := [.int vKn]) (b := aK) (ci := 2) (q0 := 0) (wc := [(aK, .inr (2, [.int vKn, .ref aKd, .ref aKs])), (aKs, .inl (cI, 8, .inl fKs))]) hK hN hP hD [0, 1] (by decide) rfl rfl rfl) (n := 1) (by decide +kernel) ⟨Nat.le_of_ble_eq_true rfl, Nat.le_of_ble_eq_true rfl⟩ rfl hl.1 rfl (Nat.le_of_ble_eq_true rfl) dX2_slots_5 ⟨Nat.zero_le _, Nat.zero_le _⟩) hP hD hS hA [0, 1] rfl (c2 := 0) (s2 := 0) rfl rfl (fun H locs hP hS => ?_)
  exact hret r_5 8 ls H locs rfl dX2_slots_8 hP hD hS h
def fX2_ofSlot_b4 (vKn : Int32) (fKs : Nat → Int32) : Nat → Int32 → Int32 → Int32 → Option (Int32)
  | 0, _, _, _ => none
  | n + 1, x1, x2, x3 =>
    if vKn ≤ x3 then
      some (-6 : Int32)
    else
      if (8 : Int32) ≤ x3 then
        some (-6 : Int32)
      else
        if x3 < 0 ∨ 8 ≤ x3.toNatClampNeg then none else
        bdv (x2 + (fKs x3.toNatClampNeg)) fun x2_26 =>
        if x1 < 0 then
          fX2_ofSlot_b4 vKn fKs n x1 x2_26 (x3 + 1)
        else
          if x2_26 ≤ x1 then
            fX2_ofSlot_b4 vKn fKs n x1 x2_26 (x3 + 1)
          else
            some x3
def fX2_ofSlot (vKn : Int32) (fKs : Nat → Int32) (x1 : Int32) : Option (Int32) :=
  fX2_ofSlot_b4 vKn fKs FU x1 (0 : Int32) (0 : Int32)
abbrev rX2_ofSlot : Room := { frames := 0, cells := 0, slots := 0, locals := 0 }
set_option maxHeartbeats 4000000 in
set_option maxRecDepth 100000 in
theorem tX2_ofSlot {l : Launch} {D : va_G} {cI cZ cP : ClassId} (aK aKs aKd : Nat) (vKn : Int32) (fKs : Nat → Int32) (x1 : Int32) (r : Int32) (h : fX2_ofSlot vKn fKs x1 = some r) : CtI l D cI cZ cP yX2_ofSlot wsX2_ofSlot rX2_ofSlot [.ref aK, .int x1] [(aK, .inr (2, [.int vKn, .ref aKd, .ref aKs])), (aKs, .inl (cI, 8, .inl fKs))] (fun _ : Unit => [(aK, .inr (2, [.int vKn, .ref aKd, .ref aKs])), (aKs, .inl (cI, 8, .inl fKs))]) r := by
  refine CtI.ofW (cc := cX2_ofSlot) (maxL := 4) (by decide) rfl (Nat.le_of_ble_eq_true rfl) (lv := [(0, .ref aK), (1, .int x1)]) rfl ?_
  intro p e s m args below meth c A Q ls hx hb hml hown hts hK hN hP hD hS hA hl hret0
  have hown : s.vm.findClass RX2 = some m.cls := hown
  have i2 : ∀ w ∈ wsX20, w ∈ wsX2_ofSlot := mem_ps [3, 4, 5] rfl
  have hret : ∀ (v : Int32) (pc : Nat) (ls : Array Slot) (H : Heap) (locs : List Loc), narrow .int (.int v) = .int v → decode cX2_ofSlot pc = .ok (.ireturn, 1) → va_P D vwCl [(aK, .inr (2, [.int vKn, .ref aKd, .ref aKs])), (aKs, .inl (cI, 8, .inl fKs))] H → va_D A [(aK, .inr (2, [.int vKn, .ref aKd, .ref aKs])), (aKs, .inl (cI, 8, .inl fKs))] → va_S A s.heap H locs → some v = some r → W p l e rX2_ofSlot s m args below meth c H locs 0 0 Q (F0 m pc ls [.int v]) := by
    intro v pc ls H locs hn hd hP hD hS h
    cases h
    exact hret0 pc ls H locs () hn hd hP hD hS
  clear hret0
  have hb4 : ∀ (n : Nat) (x1 : Int32) (x2 : Int32) (x3 : Int32) (H : Heap) (locs : List Loc) (ls : Array Slot), va_P D vwCl [(aK, .inr (2, [.int vKn, .ref aKd, .ref aKs])), (aKs, .inl (cI, 8, .inl fKs))] H → va_D A [(aK, .inr (2, [.int vKn, .ref aKd, .ref aKs])), (aKs, .inl (cI, 8, .inl fKs))] → va_S A s.heap H locs → lv_has ls 4 [(0, .ref aK), (1, .int x1), (2, .int x2), (3, .int x3)] → fX2_ofSlot_b4 vKn fKs n x1 x2 x3 = some r → W p l e rX2_ofSlot s m args below meth c H locs 0 0 Q (F0 m 4 ls []) := by
    intro n
    induction n with
    | zero => intro x1 x2 x3 H locs ls hP hD hS hl h; exact absurd h (by rw [fX2_ofSlot_b4]; exact fun z => by cases z)
    | succ n ih =>
      intro x1 x2 x3 H locs ls hP hD hS hl h
      rw [fX2_ofSlot_b4] at h
      refine lv_iload_n hx hb dX2_ofSlot_4 rfl (lv_at hl 3 rfl) ?_
      refine lv_aload_n hx hb dX2_ofSlot_5 rfl (lv_at hl 0 rfl) ?_
      refine va_get (D := D) (ci := 2) (v := .int vKn) (C := RX2) (T := TX2) (N := 3) hx hb hts i2 hown hK hP 0 rfl rfl 0 (by decide) (hts (.fieldLink RX2 18 RX2 "count" "I") (List.mem_of_getElem? (i := 1) rfl)) (fun _ h9 => h9) rfl dX2_ofSlot_6 ?_
      refine lv_icmp_ge (tgt := 44) hx hb dX2_ofSlot_9 (by decide) (fun c1 => ?_) (fun c1 => ?_)
      · have h := (if_pos c1).symm.trans h
        refine lv_bipush (v := (-6 : Int32)) hx hb dX2_ofSlot_44 (by decide) ?_
        exact hret (-6 : Int32) 46 ls H locs rfl dX2_ofSlot_46 hP hD hS h
      · have h := (if_neg c1).symm.trans h
        refine lv_iload_n hx hb dX2_ofSlot_12 rfl (lv_at hl 3 rfl) ?_
        refine lv_bipush (v := (8 : Int32)) hx hb dX2_ofSlot_13 (by decide) ?_
        refine lv_icmp_ge (tgt := 44) hx hb dX2_ofSlot_15 (by decide) (fun c2 => ?_) (fun c2 => ?_)
        · have h := (if_pos c2).symm.trans h
          refine lv_bipush (v := (-6 : Int32)) hx hb dX2_ofSlot_44 (by decide) ?_
          exact hret (-6 : Int32) 46 ls H locs rfl dX2_ofSlot_46 hP hD hS h
        · have h := (if_neg c2).symm.trans h
          refine lv_iload_n hx hb dX2_ofSlot_18 rfl (lv_at hl 2 rfl) ?_
          refine lv_aload_n hx hb dX2_ofSlot_19 rfl (lv_at hl 0 rfl) ?_
          refine va_get (D := D) (ci := 2) (v := .ref aKs) (C := RX2) (T := TX2) (N := 3) hx hb hts i2 hown hK hP 0 rfl rfl 2 (by decide) (hts (.fieldLink RX2 15 RX2 "stocks" "[I") (List.mem_of_getElem? (i := 2) rfl)) (fun _ h9 => h9) rfl dX2_ofSlot_20 ?_
          refine lv_iload_n hx hb dX2_ofSlot_23 rfl (lv_at hl 3 rfl) ?_
          obtain ⟨g3, h⟩ := no_some h
          refine va_iald hx hb hK hP 1 0 rfl rfl g3 dX2_ofSlot_24 ?_
          refine lv_iadd hx hb dX2_ofSlot_25 ?_
          refine lv_topi (fun x2_26 ex2_26 => ?_)
          have h := bdv_some ex2_26 h
          refine lv_istore_n (lv' := [(2, .int x2_26), (0, .ref aK), (1, .int x1), (3, .int x3)]) hx hb dX2_ofSlot_26 rfl hl (by decide) rfl (fun ls hl => ?_)
          refine lv_iload_n hx hb dX2_ofSlot_27 rfl (lv_at hl 2 rfl) ?_
          refine lv_if_lt (tgt := 38) hx hb dX2_ofSlot_28 (by decide) (fun c4 => ?_) (fun c4 => ?_)
          · have h := (if_pos c4).symm.trans h
            refine lv_iinc (v := x3 + 1) (lv' := [(3, .int (x3 + 1)), (2, .int x2_26), (0, .ref aK), (1, .int x1)]) hx hb dX2_ofSlot_38 hl (k := 3) rfl rfl (by decide) rfl (fun ls hl => ?_)
            refine lv_goto (tgt := 4) hx hb dX2_ofSlot_41 (by decide) ?_
            exact ih x1 x2_26 (x3 + 1) H locs ls hP hD hS (lv_sub hl [2, 3, 1, 0] rfl) h
          · have h := (if_neg c4).symm.trans h
            refine lv_iload_n hx hb dX2_ofSlot_31 rfl (lv_at hl 2 rfl) ?_
            refine lv_iload_n hx hb dX2_ofSlot_32 rfl (lv_at hl 0 rfl) ?_
            refine lv_icmp_ge (tgt := 38) hx hb dX2_ofSlot_33 (by decide) (fun c5 => ?_) (fun c5 => ?_)
            · have h := (if_pos c5).symm.trans h
              refine lv_iinc (v := x3 + 1) (lv' := [(3, .int (x3 + 1)), (2, .int x2_26), (0, .ref aK), (1, .int x1)]) hx hb dX2_ofSlot_38 hl (k := 3) rfl rfl (by decide) rfl (fun ls hl => ?_)
              refine lv_goto (tgt := 4) hx hb dX2_ofSlot_41 (by decide) ?_
              exact ih x1 x2_26 (x3 + 1) H locs ls hP hD hS (lv_sub hl [2, 3, 1, 0] rfl) h
            · have h := (if_neg c5).symm.trans h
              refine lv_iload_n hx hb dX2_ofSlot_36 rfl (lv_at hl 3 rfl) ?_
              exact hret x3 37 ls H locs rfl dX2_ofSlot_37 hP hD hS h
  unfold fX2_ofSlot at h
  obtain ⟨H, hH⟩ : ∃ H, H = s.heap := ⟨_, rfl⟩
  have hP : va_P D vwCl [(aK, .inr (2, [.int vKn, .ref aKd, .ref aKs])), (aKs, .inl (cI, 8, .inl fKs))] H := by rw [hH]; exact hP
  obtain ⟨locs, hlocs⟩ : ∃ x : List Loc, x = [] := ⟨_, rfl⟩
  have hS : va_S A s.heap H locs := by rw [hH, hlocs]; exact hS
  suffices hgo : W p l e rX2_ofSlot s m args below meth c H locs 0 0 Q (F0 m 0 ls []) by rw [hH, hlocs] at hgo; exact hgo
  refine lv_iconst (v := (0 : Int32)) hx hb dX2_ofSlot_0 (by decide) ?_
  refine lv_istore_n (lv' := [(2, .int (0 : Int32)), (0, .ref aK), (1, .int x1)]) hx hb dX2_ofSlot_1 rfl hl (by decide) rfl (fun ls hl => ?_)
  refine lv_iconst (v := (0 : Int32)) hx hb dX2_ofSlot_2 (by decide) ?_
  refine lv_istore_n (lv' := [(3, .int (0 : Int32)), (2, .int (0 : Int32)), (0, .ref aK), (1, .int x1)]) hx hb dX2_ofSlot_3 rfl hl (by decide) rfl (fun ls hl => ?_)
  exact hb4 FU x1 (0 : Int32) (0 : Int32) H locs ls hP hD hS (lv_sub hl [2, 3, 1, 0] rfl) h
def fX1_has (vCn : Int32) (x1 : Int32) : Option (Int32) :=
  if x1 < 0 then
    some (0 : Int32)
  else
    if vCn ≤ x1 then
      some (0 : Int32)
    else
      if (12 : Int32) ≤ x1 then
        some (0 : Int32)
      else
        some (1 : Int32)
abbrev rX1_has : Room := { frames := 0, cells := 0, slots := 0, locals := 0 }
set_option maxHeartbeats 4000000 in
set_option maxRecDepth 100000 in
theorem tX1_has {l : Launch} {D : va_G} {cI cZ cP : ClassId} (aC aCd : Nat) (vCn : Int32) (x1 : Int32) (r : Int32) (h : fX1_has vCn x1 = some r) : CtI l D cI cZ cP yX1_has wsX1_has rX1_has [.ref aC, .int x1] [(aC, .inr (1, [.int vCn, .ref aCd]))] (fun _ : Unit => [(aC, .inr (1, [.int vCn, .ref aCd]))]) r := by
  refine CtI.ofW (cc := cX1_has) (maxL := 2) (by decide) rfl (Nat.le_of_ble_eq_true rfl) (lv := [(0, .ref aC), (1, .int x1)]) rfl ?_
  intro p e s m args below meth c A Q ls hx hb hml hown hts hK hN hP hD hS hA hl hret0
  have hown : s.vm.findClass RX1 = some m.cls := hown
  have i1 : ∀ w ∈ wsX10, w ∈ wsX1_has := mem_ps [2, 3] rfl
  have hret : ∀ (v : Int32) (pc : Nat) (ls : Array Slot) (H : Heap) (locs : List Loc), narrow .boolean (.int v) = .int v → decode cX1_has pc = .ok (.ireturn, 1) → va_P D vwCl [(aC, .inr (1, [.int vCn, .ref aCd]))] H → va_D A [(aC, .inr (1, [.int vCn, .ref aCd]))] → va_S A s.heap H locs → some v = some r → W p l e rX1_has s m args below meth c H locs 0 0 Q (F0 m pc ls [.int v]) := by
    intro v pc ls H locs hn hd hP hD hS h
    cases h
    exact hret0 pc ls H locs () hn hd hP hD hS
  clear hret0
  unfold fX1_has at h
  obtain ⟨H, hH⟩ : ∃ H, H = s.heap := ⟨_, rfl⟩
  have hP : va_P D vwCl [(aC, .inr (1, [.int vCn, .ref aCd]))] H := by rw [hH]; exact hP
  obtain ⟨locs, hlocs⟩ : ∃ x : List Loc, x = [] := ⟨_, rfl⟩
  have hS : va_S A s.heap H locs := by rw [hH, hlocs]; exact hS
  suffices hgo : W p l e rX1_has s m args below meth c H locs 0 0 Q (F0 m 0 ls []) by rw [hH, hlocs] at hgo; exact hgo
  refine lv_iload_n hx hb dX1_has_0 rfl (lv_at hl 1 rfl) ?_
  refine lv_if_lt (tgt := 22) hx hb dX1_has_1 (by decide) (fun c1 => ?_) (fun c1 => ?_)
  · have h := (if_pos c1).symm.trans h
    refine lv_iconst (v := (0 : Int32)) hx hb dX1_has_22 (by decide) ?_
    exact hret (0 : Int32) 23 ls H locs rfl dX1_has_23 hP hD hS h
  · have h := (if_neg c1).symm.trans h
    refine lv_iload_n hx hb dX1_has_4 rfl (lv_at hl 1 rfl) ?_
    refine lv_aload_n hx hb dX1_has_5 rfl (lv_at hl 0 rfl) ?_
    refine va_get (D := D) (ci := 1) (v := .int vCn) (C := RX1) (T := TX1) (N := 2) hx hb hts i1 hown hK hP 0 rfl rfl 0 (by decide) (hts (.fieldLink RX1 15 RX1 "count" "I") (List.mem_of_getElem? (i := 1) rfl)) (fun _ h9 => h9) rfl dX1_has_6 ?_
    refine lv_icmp_ge (tgt := 22) hx hb dX1_has_9 (by decide) (fun c2 => ?_) (fun c2 => ?_)
    · have h := (if_pos c2).symm.trans h
      refine lv_iconst (v := (0 : Int32)) hx hb dX1_has_22 (by decide) ?_
      exact hret (0 : Int32) 23 ls H locs rfl dX1_has_23 hP hD hS h
    · have h := (if_neg c2).symm.trans h
      refine lv_iload_n hx hb dX1_has_12 rfl (lv_at hl 1 rfl) ?_
      refine lv_bipush (v := (12 : Int32)) hx hb dX1_has_13 (by decide) ?_
      refine lv_icmp_ge (tgt := 22) hx hb dX1_has_15 (by decide) (fun c3 => ?_) (fun c3 => ?_)
      · have h := (if_pos c3).symm.trans h
        refine lv_iconst (v := (0 : Int32)) hx hb dX1_has_22 (by decide) ?_
        exact hret (0 : Int32) 23 ls H locs rfl dX1_has_23 hP hD hS h
      · have h := (if_neg c3).symm.trans h
        refine lv_iconst (v := (1 : Int32)) hx hb dX1_has_18 (by decide) ?_
        refine lv_goto (tgt := 23) hx hb dX1_has_19 (by decide) ?_
        exact hret (1 : Int32) 23 ls H locs rfl dX1_has_23 hP hD hS h
def fX2_has (vKn : Int32) (x1 : Int32) : Option (Int32) :=
  if x1 < 0 then
    some (0 : Int32)
  else
    if vKn ≤ x1 then
      some (0 : Int32)
    else
      if (8 : Int32) ≤ x1 then
        some (0 : Int32)
      else
        some (1 : Int32)
abbrev rX2_has : Room := { frames := 0, cells := 0, slots := 0, locals := 0 }
set_option maxHeartbeats 4000000 in
set_option maxRecDepth 100000 in
theorem tX2_has {l : Launch} {D : va_G} {cI cZ cP : ClassId} (aK aKd aKs : Nat) (vKn : Int32) (x1 : Int32) (r : Int32) (h : fX2_has vKn x1 = some r) : CtI l D cI cZ cP yX2_has wsX2_has rX2_has [.ref aK, .int x1] [(aK, .inr (2, [.int vKn, .ref aKd, .ref aKs]))] (fun _ : Unit => [(aK, .inr (2, [.int vKn, .ref aKd, .ref aKs]))]) r := by
  refine CtI.ofW (cc := cX2_has) (maxL := 2) (by decide) rfl (Nat.le_of_ble_eq_true rfl) (lv := [(0, .ref aK), (1, .int x1)]) rfl ?_
  intro p e s m args below meth c A Q ls hx hb hml hown hts hK hN hP hD hS hA hl hret0
  have hown : s.vm.findClass RX2 = some m.cls := hown
  have i2 : ∀ w ∈ wsX20, w ∈ wsX2_has := mem_ps [2, 3, 4] rfl
  have hret : ∀ (v : Int32) (pc : Nat) (ls : Array Slot) (H : Heap) (locs : List Loc), narrow .boolean (.int v) = .int v → decode cX2_has pc = .ok (.ireturn, 1) → va_P D vwCl [(aK, .inr (2, [.int vKn, .ref aKd, .ref aKs]))] H → va_D A [(aK, .inr (2, [.int vKn, .ref aKd, .ref aKs]))] → va_S A s.heap H locs → some v = some r → W p l e rX2_has s m args below meth c H locs 0 0 Q (F0 m pc ls [.int v]) := by
    intro v pc ls H locs hn hd hP hD hS h
    cases h
    exact hret0 pc ls H locs () hn hd hP hD hS
  clear hret0
  unfold fX2_has at h
  obtain ⟨H, hH⟩ : ∃ H, H = s.heap := ⟨_, rfl⟩
  have hP : va_P D vwCl [(aK, .inr (2, [.int vKn, .ref aKd, .ref aKs]))] H := by rw [hH]; exact hP
  obtain ⟨locs, hlocs⟩ : ∃ x : List Loc, x = [] := ⟨_, rfl⟩
  have hS : va_S A s.heap H locs := by rw [hH, hlocs]; exact hS
  suffices hgo : W p l e rX2_has s m args below meth c H locs 0 0 Q (F0 m 0 ls []) by rw [hH, hlocs] at hgo; exact hgo
  refine lv_iload_n hx hb dX2_has_0 rfl (lv_at hl 1 rfl) ?_
  refine lv_if_lt (tgt := 22) hx hb dX2_has_1 (by decide) (fun c1 => ?_) (fun c1 => ?_)
  · have h := (if_pos c1).symm.trans h
    refine lv_iconst (v := (0 : Int32)) hx hb dX2_has_22 (by decide) ?_
    exact hret (0 : Int32) 23 ls H locs rfl dX2_has_23 hP hD hS h
  · have h := (if_neg c1).symm.trans h
    refine lv_iload_n hx hb dX2_has_4 rfl (lv_at hl 1 rfl) ?_
    refine lv_aload_n hx hb dX2_has_5 rfl (lv_at hl 0 rfl) ?_
    refine va_get (D := D) (ci := 2) (v := .int vKn) (C := RX2) (T := TX2) (N := 3) hx hb hts i2 hown hK hP 0 rfl rfl 0 (by decide) (hts (.fieldLink RX2 18 RX2 "count" "I") (List.mem_of_getElem? (i := 1) rfl)) (fun _ h9 => h9) rfl dX2_has_6 ?_
    refine lv_icmp_ge (tgt := 22) hx hb dX2_has_9 (by decide) (fun c2 => ?_) (fun c2 => ?_)
    · have h := (if_pos c2).symm.trans h
      refine lv_iconst (v := (0 : Int32)) hx hb dX2_has_22 (by decide) ?_
      exact hret (0 : Int32) 23 ls H locs rfl dX2_has_23 hP hD hS h
    · have h := (if_neg c2).symm.trans h
      refine lv_iload_n hx hb dX2_has_12 rfl (lv_at hl 1 rfl) ?_
      refine lv_bipush (v := (8 : Int32)) hx hb dX2_has_13 (by decide) ?_
      refine lv_icmp_ge (tgt := 22) hx hb dX2_has_15 (by decide) (fun c3 => ?_) (fun c3 => ?_)
      · have h := (if_pos c3).symm.trans h
        refine lv_iconst (v := (0 : Int32)) hx hb dX2_has_22 (by decide) ?_
        exact hret (0 : Int32) 23 ls H locs rfl dX2_has_23 hP hD hS h
      · have h := (if_neg c3).symm.trans h
        refine lv_iconst (v := (1 : Int32)) hx hb dX2_has_18 (by decide) ?_
        refine lv_goto (tgt := 23) hx hb dX2_has_19 (by decide) ?_
        exact hret (1 : Int32) 23 ls H locs rfl dX2_has_23 hP hD hS h
def fX5_dotsApart_b49 (k11 : Int32 → Int32 → Int32 → Int32 → Int32 → Option (Int32)) (x2 : Int32) (x4 : Int32) (x5 : Int32) (x6 : Int32) (y0 : Int32) (y1 : Int32) : Option (Int32) :=
  bdv (y1 + y0) fun x3_50 =>
  bdv (x4 / (10 : Int32)) fun x4_56 =>
  bdv (x5 / (10 : Int32)) fun x5_63 =>
  k11 x2 x3_50 x4_56 x5_63 (x6 + 1)
def fX5_dotsApart_b11  : Nat → Int32 → Int32 → Int32 → Int32 → Int32 → Option (Int32)
  | 0, _, _, _, _, _ => none
  | n + 1, x2, x3, x4, x5, x6 =>
    if (4 : Int32) ≤ x6 then
      some x3
    else
      bdv (if 0 ≤ ((x4 - x4 / (10 : Int32) * (10 : Int32)) - (x5 - x5 / (10 : Int32) * (10 : Int32))) then ((x4 - x4 / (10 : Int32) * (10 : Int32)) - (x5 - x5 / (10 : Int32) * (10 : Int32))) else 0 - ((x4 - x4 / (10 : Int32) * (10 : Int32)) - (x5 - x5 / (10 : Int32) * (10 : Int32)))) fun x_28 =>
      if x2 = (1 : Int32) then
        fX5_dotsApart_b49 (fun x2 x3 x4 x5 x6 => fX5_dotsApart_b11 n x2 x3 x4 x5 x6) x2 x4 x5 x6 (x_28 * x_28) x3
      else
        fX5_dotsApart_b49 (fun x2 x3 x4 x5 x6 => fX5_dotsApart_b11 n x2 x3 x4 x5 x6) x2 x4 x5 x6 x_28 x3
def fX5_dotsApart (x0 : Int32) (x1 : Int32) (x2 : Int32) : Option (Int32) :=
  fX5_dotsApart_b11  FU x2 (0 : Int32) x0 x1 (0 : Int32)
abbrev rX5_dotsApart : Room := { frames := 1, cells := 0, slots := 0, locals := 13 }
set_option maxHeartbeats 4000000 in
set_option maxRecDepth 100000 in
theorem tX5_dotsApart {l : Launch} {D : va_G} {cI cZ cP : ClassId} (x0 : Int32) (x1 : Int32) (x2 : Int32) (r : Int32) (h : fX5_dotsApart x0 x1 x2 = some r) : CtI l D cI cZ cP yX5_dotsApart wsX5_dotsApart rX5_dotsApart [.int x0, .int x1, .int x2] [] (fun _ : Unit => []) r := by
  refine CtI.ofW (cc := cX5_dotsApart) (maxL := 8) (by decide) rfl (Nat.le_of_ble_eq_true rfl) (lv := [(0, .int x0), (1, .int x1), (2, .int x2)]) rfl ?_
  intro p e s m args below meth c A Q ls hx hb hml hown hts hK hN hP hD hS hA hl hret0
  have hown : s.vm.findClass RX5 = some m.cls := hown
  have hret : ∀ (v : Int32) (pc : Nat) (ls : Array Slot) (H : Heap) (locs : List Loc), narrow .int (.int v) = .int v → decode cX5_dotsApart pc = .ok (.ireturn, 1) → va_P D vwCl [] H → va_D A [] → va_S A s.heap H locs → some v = some r → W p l e rX5_dotsApart s m args below meth c H locs 0 0 Q (F0 m pc ls [.int v]) := by
    intro v pc ls H locs hn hd hP hD hS h
    cases h
    exact hret0 pc ls H locs () hn hd hP hD hS
  clear hret0
  have hb49 : ∀ (k11 : Int32 → Int32 → Int32 → Int32 → Int32 → Option (Int32)) (hk11 : ∀ (x2 : Int32) (x3 : Int32) (x4 : Int32) (x5 : Int32) (x6 : Int32) (H : Heap) (locs : List Loc) (ls : Array Slot), va_P D vwCl [] H → va_D A [] → va_S A s.heap H locs → lv_has ls 8 [(2, .int x2), (3, .int x3), (4, .int x4), (5, .int x5), (6, .int x6)] → k11 x2 x3 x4 x5 x6 = some r → W p l e rX5_dotsApart s m args below meth c H locs 0 0 Q (F0 m 11 ls [])) (x2 : Int32) (x4 : Int32) (x5 : Int32) (x6 : Int32) (y0 : Int32) (y1 : Int32) (H : Heap) (locs : List Loc) (ls : Array Slot), va_P D vwCl [] H → va_D A [] → va_S A s.heap H locs → lv_has ls 8 [(2, .int x2), (4, .int x4), (5, .int x5), (6, .int x6)] → fX5_dotsApart_b49 k11 x2 x4 x5 x6 y0 y1 = some r → W p l e rX5_dotsApart s m args below meth c H locs 0 0 Q (F0 m 49 ls [.int y0, .int y1]) := by
    intro k11 hk11 x2 x4 x5 x6 y0 y1 H locs ls hP hD hS hl h
    unfold fX5_dotsApart_b49 at h
    refine lv_iadd hx hb dX5_dotsApart_49 ?_
    refine lv_topi (fun x3_50 ex3_50 => ?_)
    have h := bdv_some ex3_50 h
    refine lv_istore_n (lv' := [(3, .int x3_50), (2, .int x2), (4, .int x4), (5, .int x5), (6, .int x6)]) hx hb dX5_dotsApart_50 rfl hl (by decide) rfl (fun ls hl => ?_)
    refine lv_iload hx hb dX5_dotsApart_51 (lv_at hl 2 rfl) ?_
    refine lv_bipush (v := (10 : Int32)) hx hb dX5_dotsApart_53 (by decide) ?_
    refine lv_idiv hx hb dX5_dotsApart_55 (by decide) ?_
    refine lv_topi (fun x4_56 ex4_56 => ?_)
    have h := bdv_some ex4_56 h
    refine lv_istore (lv' := [(4, .int x4_56), (3, .int x3_50), (2, .int x2), (5, .int x5), (6, .int x6)]) hx hb dX5_dotsApart_56 hl (by decide) rfl (fun ls hl => ?_)
    refine lv_iload hx hb dX5_dotsApart_58 (lv_at hl 3 rfl) ?_
    refine lv_bipush (v := (10 : Int32)) hx hb dX5_dotsApart_60 (by decide) ?_
    refine lv_idiv hx hb dX5_dotsApart_62 (by decide) ?_
    refine lv_topi (fun x5_63 ex5_63 => ?_)
    have h := bdv_some ex5_63 h
    refine lv_istore (lv' := [(5, .int x5_63), (4, .int x4_56), (3, .int x3_50), (2, .int x2), (6, .int x6)]) hx hb dX5_dotsApart_63 hl (by decide) rfl (fun ls hl => ?_)
    refine lv_iinc (v := x6 + 1) (lv' := [(6, .int (x6 + 1)), (5, .int x5_63), (4, .int x4_56), (3, .int x3_50), (2, .int x2)]) hx hb dX5_dotsApart_65 hl (k := 4) rfl rfl (by decide) rfl (fun ls hl => ?_)
    refine lv_goto (tgt := 11) hx hb dX5_dotsApart_68 (by decide) ?_
    exact hk11 x2 x3_50 x4_56 x5_63 (x6 + 1) H locs ls hP hD hS (lv_sub hl [4, 3, 2, 1, 0] rfl) h
  have hb11 : ∀ (n : Nat) (x2 : Int32) (x3 : Int32) (x4 : Int32) (x5 : Int32) (x6 : Int32) (H : Heap) (locs : List Loc) (ls : Array Slot), va_P D vwCl [] H → va_D A [] → va_S A s.heap H locs → lv_has ls 8 [(2, .int x2), (3, .int x3), (4, .int x4), (5, .int x5), (6, .int x6)] → fX5_dotsApart_b11  n x2 x3 x4 x5 x6 = some r → W p l e rX5_dotsApart s m args below meth c H locs 0 0 Q (F0 m 11 ls []) := by
    intro n
    induction n with
    | zero => intro x2 x3 x4 x5 x6 H locs ls hP hD hS hl h; exact absurd h (by rw [fX5_dotsApart_b11]; exact fun z => by cases z)
    | succ n ih =>
      intro x2 x3 x4 x5 x6 H locs ls hP hD hS hl h
      rw [fX5_dotsApart_b11] at h
      refine lv_iload hx hb dX5_dotsApart_11 (lv_at hl 4 rfl) ?_
      refine lv_iconst (v := (4 : Int32)) hx hb dX5_dotsApart_13 (by decide) ?_
      refine lv_icmp_ge (tgt := 71) hx hb dX5_dotsApart_14 (by decide) (fun c1 => ?_) (fun c1 => ?_)
      · have h := (if_pos c1).symm.trans h
        refine lv_iload_n hx hb dX5_dotsApart_71 rfl (lv_at hl 1 rfl) ?_
        exact hret x3 72 ls H locs rfl dX5_dotsApart_72 hP hD hS h
      · have h := (if_neg c1).symm.trans h
        refine lv_iload hx hb dX5_dotsApart_17 (lv_at hl 2 rfl) ?_
        refine lv_bipush (v := (10 : Int32)) hx hb dX5_dotsApart_19 (by decide) ?_
        refine lv_irem hx hb dX5_dotsApart_21 (by decide) ?_
        refine lv_iload hx hb dX5_dotsApart_22 (lv_at hl 3 rfl) ?_
        refine lv_bipush (v := (10 : Int32)) hx hb dX5_dotsApart_24 (by decide) ?_
        refine lv_irem hx hb dX5_dotsApart_26 (by decide) ?_
        refine lv_isub hx hb dX5_dotsApart_27 ?_
        refine va_mabs hx hb (hml.trans hl.1.symm) hown (hts (.methodLink RX5 179 Lib.Math.abs.name) (List.mem_of_getElem? (i := 1) rfl)) (hts (.static Lib.Math.abs.name) (List.mem_of_getElem? (i := 2) rfl)) (hts (.initialized "java/lang/Math") (List.mem_of_getElem? (i := 3) rfl)) (hts (.code Lib.Math.abs.name Lib.Math.abs.code 1 (some .int)) (List.mem_of_getElem? (i := 4) rfl)) (Nat.le_of_ble_eq_true rfl) (Nat.le_of_ble_eq_true rfl) (Nat.zero_le _) (Nat.zero_le _) dX5_dotsApart_28 ?_
        refine lv_topi (fun x_28 ex_28 => ?_)
        have h := bdv_some ex_28 h
        refine lv_istore (lv' := [(7, .int x_28), (2, .int x2), (3, .int x3), (4, .int x4), (5, .int x5), (6, .int x6)]) hx hb dX5_dotsApart_31 hl (by decide) rfl (fun ls hl => ?_)
        refine lv_iload_n hx hb dX5_dotsApart_33 rfl (lv_at hl 2 rfl) ?_
        refine lv_iload_n hx hb dX5_dotsApart_34 rfl (lv_at hl 1 rfl) ?_
        refine lv_iconst (v := (1 : Int32)) hx hb dX5_dotsApart_35 (by decide) ?_
        refine lv_icmp_ne (tgt := 47) hx hb dX5_dotsApart_36 (by decide) (fun c2 => ?_) (fun c2 => ?_)
        · have h := (if_neg c2).symm.trans h
          refine lv_iload hx hb dX5_dotsApart_47 (lv_at hl 0 rfl) ?_
          exact hb49 (fun x2 x3 x4 x5 x6 => fX5_dotsApart_b11 n x2 x3 x4 x5 x6) ih x2 x4 x5 x6 x_28 x3 H locs ls hP hD hS (lv_sub hl [1, 3, 4, 5] rfl) h
        · have h := (if_pos c2).symm.trans h
          refine lv_iload hx hb dX5_dotsApart_39 (lv_at hl 0 rfl) ?_
          refine lv_iload hx hb dX5_dotsApart_41 (lv_at hl 0 rfl) ?_
          refine lv_imul hx hb dX5_dotsApart_43 ?_
          refine lv_goto (tgt := 49) hx hb dX5_dotsApart_44 (by decide) ?_
          exact hb49 (fun x2 x3 x4 x5 x6 => fX5_dotsApart_b11 n x2 x3 x4 x5 x6) ih x2 x4 x5 x6 (x_28 * x_28) x3 H locs ls hP hD hS (lv_sub hl [1, 3, 4, 5] rfl) h
  unfold fX5_dotsApart at h
  obtain ⟨H, hH⟩ : ∃ H, H = s.heap := ⟨_, rfl⟩
  have hP : va_P D vwCl [] H := by rw [hH]; exact hP
  obtain ⟨locs, hlocs⟩ : ∃ x : List Loc, x = [] := ⟨_, rfl⟩
  have hS : va_S A s.heap H locs := by rw [hH, hlocs]; exact hS
  suffices hgo : W p l e rX5_dotsApart s m args below meth c H locs 0 0 Q (F0 m 0 ls []) by rw [hH, hlocs] at hgo; exact hgo
  refine lv_iconst (v := (0 : Int32)) hx hb dX5_dotsApart_0 (by decide) ?_
  refine lv_istore_n (lv' := [(3, .int (0 : Int32)), (0, .int x0), (1, .int x1), (2, .int x2)]) hx hb dX5_dotsApart_1 rfl hl (by decide) rfl (fun ls hl => ?_)
  refine lv_iload_n hx hb dX5_dotsApart_2 rfl (lv_at hl 1 rfl) ?_
  refine lv_istore (lv' := [(4, .int x0), (3, .int (0 : Int32)), (0, .int x0), (1, .int x1), (2, .int x2)]) hx hb dX5_dotsApart_3 hl (by decide) rfl (fun ls hl => ?_)
  refine lv_iload_n hx hb dX5_dotsApart_5 rfl (lv_at hl 3 rfl) ?_
  refine lv_istore (lv' := [(5, .int x1), (4, .int x0), (3, .int (0 : Int32)), (0, .int x0), (1, .int x1), (2, .int x2)]) hx hb dX5_dotsApart_6 hl (by decide) rfl (fun ls hl => ?_)
  refine lv_iconst (v := (0 : Int32)) hx hb dX5_dotsApart_8 (by decide) ?_
  refine lv_istore (lv' := [(6, .int (0 : Int32)), (5, .int x1), (4, .int x0), (3, .int (0 : Int32)), (0, .int x0), (1, .int x1), (2, .int x2)]) hx hb dX5_dotsApart_9 hl (by decide) rfl (fun ls hl => ?_)
  exact hb11 FU x2 (0 : Int32) x0 x1 (0 : Int32) H locs ls hP hD hS (lv_sub hl [6, 3, 2, 1, 0] rfl) h
def fX1_add (vCn : Int32) (fCd : Nat → Int32) (x1 : Int32) : Option (Int32 × (Nat → Int32)) :=
  if vCn < 0 then
    some (vCn, fCd)
  else
    if vCn < (12 : Int32) then
      if vCn < 0 ∨ 12 ≤ vCn.toNatClampNeg then none else
      some (vCn + (1 : Int32), upd fCd vCn.toNatClampNeg x1)
    else
      some (vCn, fCd)
abbrev rX1_add : Room := { frames := 0, cells := 0, slots := 0, locals := 0 }
set_option maxHeartbeats 4000000 in
set_option maxRecDepth 100000 in
theorem tX1_add {l : Launch} {D : va_G} {cI cZ cP : ClassId} (aC aCd : Nat) (vCn : Int32) (fCd : Nat → Int32) (x1 : Int32) (oCn : Int32) (oCd : Nat → Int32) (h : fX1_add vCn fCd x1 = some (oCn, oCd)) : CtV l D cI cZ cP yX1_add wsX1_add rX1_add [.ref aC, .int x1] [(aC, .inr (1, [.int vCn, .ref aCd])), (aCd, .inl (cI, 12, .inl fCd))] (fun _ : Unit => [(aC, .inr (1, [.int oCn, .ref aCd])), (aCd, .inl (cI, 12, .inl oCd))]) := by
  refine CtV.ofW (cc := cX1_add) (maxL := 2) (by decide) rfl (Nat.le_of_ble_eq_true rfl) (lv := [(0, .ref aC), (1, .int x1)]) rfl ?_
  intro p e s m args below meth c A Q ls hx hb hml hown hts hK hN hP hD hS hA hl hin hret0
  have hown : s.vm.findClass RX1 = some m.cls := hown
  have i1 : ∀ w ∈ wsX10, w ∈ wsX1_add := mem_ps [3, 4] rfl
  have hret : ∀ (zCn : Int32) (zCd : Nat → Int32) (pc : Nat) (ls : Array Slot) (H : Heap) (locs : List Loc), decode cX1_add pc = .ok (.return_, 1) → va_P D vwCl [(aC, .inr (1, [.int zCn, .ref aCd])), (aCd, .inl (cI, 12, .inl zCd))] H → va_D A [(aC, .inr (1, [.int zCn, .ref aCd])), (aCd, .inl (cI, 12, .inl zCd))] → va_S A s.heap H locs → some (zCn, zCd) = some (oCn, oCd) → W p l e rX1_add s m args below meth c H locs 0 0 Q (F0 m pc ls []) := by
    intro zCn zCd pc ls H locs hd hP hD hS h
    cases h
    exact hret0 pc ls H locs () hd hP hD hS
  clear hret0
  unfold fX1_add at h
  obtain ⟨H, hH⟩ : ∃ H, H = s.heap := ⟨_, rfl⟩
  have hP : va_P D vwCl [(aC, .inr (1, [.int vCn, .ref aCd])), (aCd, .inl (cI, 12, .inl fCd))] H := by rw [hH]; exact hP
  obtain ⟨locs, hlocs⟩ : ∃ x : List Loc, x = [] := ⟨_, rfl⟩
  have hS : va_S A s.heap H locs := by rw [hH, hlocs]; exact hS
  suffices hgo : W p l e rX1_add s m args below meth c H locs 0 0 Q (F0 m 0 ls []) by rw [hH, hlocs] at hgo; exact hgo
  refine lv_aload_n hx hb dX1_add_0 rfl (lv_at hl 0 rfl) ?_
  refine va_get (D := D) (ci := 1) (v := .int vCn) (C := RX1) (T := TX1) (N := 2) hx hb hts i1 hown hK hP 0 rfl rfl 0 (by decide) (hts (.fieldLink RX1 15 RX1 "count" "I") (List.mem_of_getElem? (i := 1) rfl)) (fun _ h9 => h9) rfl dX1_add_1 ?_
  refine lv_if_lt (tgt := 16) hx hb dX1_add_4 (by decide) (fun c1 => ?_) (fun c1 => ?_)
  · have h := (if_pos c1).symm.trans h
    exact hret vCn fCd 16 ls H locs dX1_add_16 hP hD hS h
  · have h := (if_neg c1).symm.trans h
    refine lv_aload_n hx hb dX1_add_7 rfl (lv_at hl 0 rfl) ?_
    refine va_get (D := D) (ci := 1) (v := .int vCn) (C := RX1) (T := TX1) (N := 2) hx hb hts i1 hown hK hP 0 rfl rfl 0 (by decide) (hts (.fieldLink RX1 15 RX1 "count" "I") (List.mem_of_getElem? (i := 1) rfl)) (fun _ h9 => h9) rfl dX1_add_8 ?_
    refine lv_bipush (v := (12 : Int32)) hx hb dX1_add_11 (by decide) ?_
    refine lv_icmp_lt (tgt := 17) hx hb dX1_add_13 (by decide) (fun c2 => ?_) (fun c2 => ?_)
    · have h := (if_pos c2).symm.trans h
      refine lv_aload_n hx hb dX1_add_17 rfl (lv_at hl 0 rfl) ?_
      refine va_get (D := D) (ci := 1) (v := .ref aCd) (C := RX1) (T := TX1) (N := 2) hx hb hts i1 hown hK hP 0 rfl rfl 1 (by decide) (hts (.fieldLink RX1 9 RX1 "dots" "[I") (List.mem_of_getElem? (i := 2) rfl)) (fun _ h9 => h9) rfl dX1_add_18 ?_
      refine lv_aload_n hx hb dX1_add_21 rfl (lv_at hl 0 rfl) ?_
      refine va_get (D := D) (ci := 1) (v := .int vCn) (C := RX1) (T := TX1) (N := 2) hx hb hts i1 hown hK hP 0 rfl rfl 0 (by decide) (hts (.fieldLink RX1 15 RX1 "count" "I") (List.mem_of_getElem? (i := 1) rfl)) (fun _ h9 => h9) rfl dX1_add_22 ?_
      refine lv_iload_n hx hb dX1_add_25 rfl (lv_at hl 1 rfl) ?_
      obtain ⟨g3, h⟩ := no_some h
      refine va_iast hx hb hK hP hD hS 1 0 rfl rfl g3 dX1_add_26 (fun H locs hP hD hS => ?_)
      have hP : va_P D vwCl [(aC, .inr (1, [.int vCn, .ref aCd])), (aCd, .inl (cI, 12, .inl (upd fCd vCn.toNatClampNeg x1)))] H := hP
      have hD : va_D A [(aC, .inr (1, [.int vCn, .ref aCd])), (aCd, .inl (cI, 12, .inl (upd fCd vCn.toNatClampNeg x1)))] := hD
      refine lv_aload_n hx hb dX1_add_27 rfl (lv_at hl 0 rfl) ?_
      refine lv_dup hx hb dX1_add_28 rfl ?_
      refine va_get (D := D) (ci := 1) (v := .int vCn) (C := RX1) (T := TX1) (N := 2) hx hb hts i1 hown hK hP 0 rfl rfl 0 (by decide) (hts (.fieldLink RX1 15 RX1 "count" "I") (List.mem_of_getElem? (i := 1) rfl)) (fun _ h9 => h9) rfl dX1_add_29 ?_
      refine lv_iconst (v := (1 : Int32)) hx hb dX1_add_32 (by decide) ?_
      refine lv_iadd hx hb dX1_add_33 ?_
      refine va_put (D := D) (ci := 1) (v := .int (vCn + (1 : Int32))) (ty := .int) (C := RX1) (T := TX1) (N := 2) hx hb hts i1 tyX1 tyX1_ok nmX1 hown hK hP hD hS 0 rfl rfl 0 (by decide) (hts (.fieldLink RX1 15 RX1 "count" "I") (List.mem_of_getElem? (i := 1) rfl)) (fun _ h9 => h9) rfl (by decide +kernel) rfl rfl (Nat.le_of_ble_eq_true rfl) dX1_add_34 (fun H locs hP hD hS => ?_)
      have hP : va_P D vwCl [(aC, .inr (1, [.int (vCn + (1 : Int32)), .ref aCd])), (aCd, .inl (cI, 12, .inl (upd fCd vCn.toNatClampNeg x1)))] H := hP
      have hD : va_D A [(aC, .inr (1, [.int (vCn + (1 : Int32)), .ref aCd])), (aCd, .inl (cI, 12, .inl (upd fCd vCn.toNatClampNeg x1)))] := hD
      exact hret (vCn + (1 : Int32)) (upd fCd vCn.toNatClampNeg x1) 37 ls H locs dX1_add_37 hP hD hS h
    · have h := (if_neg c2).symm.trans h
      exact hret vCn fCd 16 ls H locs dX1_add_16 hP hD hS h
def fX1_takeOut_b21  : Nat → Int32 → Int32 → (Nat → Int32) → Option (Int32 × (Nat → Int32))
  | 0, _, _, _ => none
  | n + 1, x2, vCn, fCd =>
    if vCn ≤ x2 then
      some (vCn, fCd)
    else
      if (12 : Int32) ≤ (x2 + (1 : Int32)) then
        some (vCn, fCd)
      else
        if x2 + (1 : Int32) < 0 ∨ 12 ≤ (x2 + (1 : Int32)).toNatClampNeg then none else
        if x2 < 0 ∨ 12 ≤ x2.toNatClampNeg then none else
        fX1_takeOut_b21  n (x2 + 1) vCn (upd fCd x2.toNatClampNeg (fCd ((x2 + (1 : Int32)).toNatClampNeg)))
def fX1_takeOut (vCn : Int32) (fCd : Nat → Int32) (x1 : Int32) : Option (Int32 × (Nat → Int32)) :=
  bd1 (fX1_has vCn x1) fun r_2 =>
  if r_2 = 0 then
    some (vCn, fCd)
  else
    fX1_takeOut_b21  FU x1 (vCn - (1 : Int32)) fCd
abbrev rX1_takeOut : Room := { frames := 1, cells := 0, slots := 0, locals := 21 }
set_option maxHeartbeats 4000000 in
set_option maxRecDepth 100000 in
theorem tX1_takeOut {l : Launch} {D : va_G} {cI cZ cP : ClassId} (aC aCd : Nat) (vCn : Int32) (fCd : Nat → Int32) (x1 : Int32) (oCn : Int32) (oCd : Nat → Int32) (h : fX1_takeOut vCn fCd x1 = some (oCn, oCd)) : CtV l D cI cZ cP yX1_takeOut wsX1_takeOut rX1_takeOut [.ref aC, .int x1] [(aC, .inr (1, [.int vCn, .ref aCd])), (aCd, .inl (cI, 12, .inl fCd))] (fun _ : Unit => [(aC, .inr (1, [.int oCn, .ref aCd])), (aCd, .inl (cI, 12, .inl oCd))]) := by
  refine CtV.ofW (cc := cX1_takeOut) (maxL := 3) (by decide) rfl (Nat.le_of_ble_eq_true rfl) (lv := [(0, .ref aC), (1, .int x1)]) rfl ?_
  intro p e s m args below meth c A Q ls hx hb hml hown hts hK hN hP hD hS hA hl hin hret0
  have hown : s.vm.findClass RX1 = some m.cls := hown
  have i1 : ∀ w ∈ wsX10, w ∈ wsX1_takeOut := mem_ps [8, 9] rfl
  have hret : ∀ (zCn : Int32) (zCd : Nat → Int32) (pc : Nat) (ls : Array Slot) (H : Heap) (locs : List Loc), decode cX1_takeOut pc = .ok (.return_, 1) → va_P D vwCl [(aC, .inr (1, [.int zCn, .ref aCd])), (aCd, .inl (cI, 12, .inl zCd))] H → va_D A [(aC, .inr (1, [.int zCn, .ref aCd])), (aCd, .inl (cI, 12, .inl zCd))] → va_S A s.heap H locs → some (zCn, zCd) = some (oCn, oCd) → W p l e rX1_takeOut s m args below meth c H locs 0 0 Q (F0 m pc ls []) := by
    intro zCn zCd pc ls H locs hd hP hD hS h
    cases h
    exact hret0 pc ls H locs () hd hP hD hS
  clear hret0
  have hb21 : ∀ (n : Nat) (x2 : Int32) (vCn : Int32) (fCd : Nat → Int32) (H : Heap) (locs : List Loc) (ls : Array Slot), va_P D vwCl [(aC, .inr (1, [.int vCn, .ref aCd])), (aCd, .inl (cI, 12, .inl fCd))] H → va_D A [(aC, .inr (1, [.int vCn, .ref aCd])), (aCd, .inl (cI, 12, .inl fCd))] → va_S A s.heap H locs → lv_has ls 3 [(0, .ref aC), (2, .int x2)] → fX1_takeOut_b21  n x2 vCn fCd = some (oCn, oCd) → W p l e rX1_takeOut s m args below meth c H locs 0 0 Q (F0 m 21 ls []) := by
    intro n
    induction n with
    | zero => intro x2 vCn fCd H locs ls hP hD hS hl h; exact absurd h (by rw [fX1_takeOut_b21]; exact fun z => by cases z)
    | succ n ih =>
      intro x2 vCn fCd H locs ls hP hD hS hl h
      rw [fX1_takeOut_b21] at h
      refine lv_iload_n hx hb dX1_takeOut_21 rfl (lv_at hl 1 rfl) ?_
      refine lv_aload_n hx hb dX1_takeOut_22 rfl (lv_at hl 0 rfl) ?_
      refine va_get (D := D) (ci := 1) (v := .int vCn) (C := RX1) (T := TX1) (N := 2) hx hb hts i1 hown hK hP 0 rfl rfl 0 (by decide) (hts (.fieldLink RX1 15 RX1 "count" "I") (List.mem_of_getElem? (i := 1) rfl)) (fun _ h9 => h9) rfl dX1_takeOut_23 ?_
      refine lv_icmp_ge (tgt := 57) hx hb dX1_takeOut_26 (by decide) (fun c1 => ?_) (fun c1 => ?_)
      · have h := (if_pos c1).symm.trans h
        exact hret vCn fCd 57 ls H locs dX1_takeOut_57 hP hD hS h
      · have h := (if_neg c1).symm.trans h
        refine lv_iload_n hx hb dX1_takeOut_29 rfl (lv_at hl 1 rfl) ?_
        refine lv_iconst (v := (1 : Int32)) hx hb dX1_takeOut_30 (by decide) ?_
        refine lv_iadd hx hb dX1_takeOut_31 ?_
        refine lv_bipush (v := (12 : Int32)) hx hb dX1_takeOut_32 (by decide) ?_
        refine lv_icmp_ge (tgt := 57) hx hb dX1_takeOut_34 (by decide) (fun c2 => ?_) (fun c2 => ?_)
        · have h := (if_pos c2).symm.trans h
          exact hret vCn fCd 57 ls H locs dX1_takeOut_57 hP hD hS h
        · have h := (if_neg c2).symm.trans h
          refine lv_aload_n hx hb dX1_takeOut_37 rfl (lv_at hl 0 rfl) ?_
          refine va_get (D := D) (ci := 1) (v := .ref aCd) (C := RX1) (T := TX1) (N := 2) hx hb hts i1 hown hK hP 0 rfl rfl 1 (by decide) (hts (.fieldLink RX1 9 RX1 "dots" "[I") (List.mem_of_getElem? (i := 2) rfl)) (fun _ h9 => h9) rfl dX1_takeOut_38 ?_
          refine lv_iload_n hx hb dX1_takeOut_41 rfl (lv_at hl 1 rfl) ?_
          refine lv_aload_n hx hb dX1_takeOut_42 rfl (lv_at hl 0 rfl) ?_
          refine va_get (D := D) (ci := 1) (v := .ref aCd) (C := RX1) (T := TX1) (N := 2) hx hb hts i1 hown hK hP 0 rfl rfl 1 (by decide) (hts (.fieldLink RX1 9 RX1 "dots" "[I") (List.mem_of_getElem? (i := 2) rfl)) (fun _ h9 => h9) rfl dX1_takeOut_43 ?_
          refine lv_iload_n hx hb dX1_takeOut_46 rfl (lv_at hl 1 rfl) ?_
          refine lv_iconst (v := (1 : Int32)) hx hb dX1_takeOut_47 (by decide) ?_
          refine lv_iadd hx hb dX1_takeOut_48 ?_
          obtain ⟨g3, h⟩ := no_some h
          refine va_iald hx hb hK hP 1 0 rfl rfl g3 dX1_takeOut_49 ?_
          obtain ⟨g4, h⟩ := no_some h
          refine va_iast hx hb hK hP hD hS 1 0 rfl rfl g4 dX1_takeOut_50 (fun H locs hP hD hS => ?_)
          have hP : va_P D vwCl [(aC, .inr (1, [.int vCn, .ref aCd])), (aCd, .inl (cI, 12, .inl (upd fCd x2.toNatClampNeg (fCd ((x2 + (1 : Int32)).toNatClampNeg)))))] H := hP
          have hD : va_D A [(aC, .inr (1, [.int vCn, .ref aCd])), (aCd, .inl (cI, 12, .inl (upd fCd x2.toNatClampNeg (fCd ((x2 + (1 : Int32)).toNatClampNeg)))))] := hD
          refine lv_iinc (v := x2 + 1) (lv' := [(2, .int (x2 + 1)), (0, .ref aC)]) hx hb dX1_takeOut_51 hl (k := 1) rfl rfl (by decide) rfl (fun ls hl => ?_)
          refine lv_goto (tgt := 21) hx hb dX1_takeOut_54 (by decide) ?_
          exact ih (x2 + 1) vCn (upd fCd x2.toNatClampNeg (fCd ((x2 + (1 : Int32)).toNatClampNeg))) H locs ls hP hD hS (lv_sub hl [1, 0] rfl) h
  unfold fX1_takeOut at h
  obtain ⟨H, hH⟩ : ∃ H, H = s.heap := ⟨_, rfl⟩
  have hP : va_P D vwCl [(aC, .inr (1, [.int vCn, .ref aCd])), (aCd, .inl (cI, 12, .inl fCd))] H := by rw [hH]; exact hP
  obtain ⟨locs, hlocs⟩ : ∃ x : List Loc, x = [] := ⟨_, rfl⟩
  have hS : va_S A s.heap H locs := by rw [hH, hlocs]; exact hS
  suffices hgo : W p l e rX1_takeOut s m args below meth c H locs 0 0 Q (F0 m 0 ls []) by rw [hH, hlocs] at hgo; exact hgo
  refine lv_aload_n hx hb dX1_takeOut_0 rfl (lv_at hl 0 rfl) ?_
  refine lv_iload_n hx hb dX1_takeOut_1 rfl (lv_at hl 1 rfl) ?_
  obtain ⟨r_2, q_2, h⟩ := bd1_some h
  refine fr_ro_i (S := Unit) (wc := [(aC, .inr (1, [.int vCn, .ref aCd]))]) (fr_V (As := [.int x1]) (rest := []) (C := RX1) ⟨hx, hb, hml, hown, hts⟩ (tX1_has aC aCd vCn x1 r_2 q_2) gX1_takeOut_X1_has rfl (fr_preV (As := [.int x1]) (b := aC) (ci := 1) (q0 := 0) (wc := [(aC, .inr (1, [.int vCn, .ref aCd]))]) hK hN hP hD [0] (by decide) rfl rfl rfl) (n := 1) (by decide +kernel) ⟨Nat.le_of_ble_eq_true rfl, Nat.le_of_ble_eq_true rfl⟩ rfl hl.1 rfl (Nat.le_of_ble_eq_true rfl) dX1_takeOut_2 ⟨Nat.zero_le _, Nat.zero_le _⟩) hP hD hS hA [0] rfl (c2 := 0) (s2 := 0) rfl rfl (fun H locs hP hS => ?_)
  refine lv_if_ne (tgt := 9) hx hb dX1_takeOut_5 (by decide) (fun c5 => ?_) (fun c5 => ?_)
  · have h := (if_neg c5).symm.trans h
    refine lv_aload_n hx hb dX1_takeOut_9 rfl (lv_at hl 0 rfl) ?_
    refine lv_dup hx hb dX1_takeOut_10 rfl ?_
    refine va_get (D := D) (ci := 1) (v := .int vCn) (C := RX1) (T := TX1) (N := 2) hx hb hts i1 hown hK hP 0 rfl rfl 0 (by decide) (hts (.fieldLink RX1 15 RX1 "count" "I") (List.mem_of_getElem? (i := 1) rfl)) (fun _ h9 => h9) rfl dX1_takeOut_11 ?_
    refine lv_iconst (v := (1 : Int32)) hx hb dX1_takeOut_14 (by decide) ?_
    refine lv_isub hx hb dX1_takeOut_15 ?_
    refine va_put (D := D) (ci := 1) (v := .int (vCn - (1 : Int32))) (ty := .int) (C := RX1) (T := TX1) (N := 2) hx hb hts i1 tyX1 tyX1_ok nmX1 hown hK hP hD hS 0 rfl rfl 0 (by decide) (hts (.fieldLink RX1 15 RX1 "count" "I") (List.mem_of_getElem? (i := 1) rfl)) (fun _ h9 => h9) rfl (by decide +kernel) rfl rfl (Nat.le_of_ble_eq_true rfl) dX1_takeOut_16 (fun H locs hP hD hS => ?_)
    have hP : va_P D vwCl [(aC, .inr (1, [.int (vCn - (1 : Int32)), .ref aCd])), (aCd, .inl (cI, 12, .inl fCd))] H := hP
    have hD : va_D A [(aC, .inr (1, [.int (vCn - (1 : Int32)), .ref aCd])), (aCd, .inl (cI, 12, .inl fCd))] := hD
    refine lv_iload_n hx hb dX1_takeOut_19 rfl (lv_at hl 1 rfl) ?_
    refine lv_istore_n (lv' := [(2, .int x1), (0, .ref aC), (1, .int x1)]) hx hb dX1_takeOut_20 rfl hl (by decide) rfl (fun ls hl => ?_)
    exact hb21 FU x1 (vCn - (1 : Int32)) fCd H locs ls hP hD hS (lv_sub hl [1, 0] rfl) h
  · have h := (if_pos c5).symm.trans h
    exact hret vCn fCd 8 ls H locs dX1_takeOut_8 hP hD hS h
def fX1_copyFrom (vCn : Int32) (fCd : Nat → Int32) (vCn2 : Int32) (fCd2 : Nat → Int32) : Option (Int32 × (Nat → Int32)) :=
  some (vCn2, va_cpy fCd2 fCd 0 0 12)
abbrev rX1_copyFrom : Room := { frames := 1, cells := 0, slots := 0, locals := 60 }
set_option maxHeartbeats 4000000 in
set_option maxRecDepth 100000 in
theorem tX1_copyFrom {l : Launch} {D : va_G} {cI cZ cP : ClassId} (aC aCd aC2 aCd2 : Nat) (vCn : Int32) (fCd : Nat → Int32) (vCn2 : Int32) (fCd2 : Nat → Int32) (oCn : Int32) (oCd : Nat → Int32) (h : fX1_copyFrom vCn fCd vCn2 fCd2 = some (oCn, oCd)) : CtV l D cI cZ cP yX1_copyFrom wsX1_copyFrom rX1_copyFrom [.ref aC, .ref aC2] [(aC, .inr (1, [.int vCn, .ref aCd])), (aCd, .inl (cI, 12, .inl fCd)), (aC2, .inr (1, [.int vCn2, .ref aCd2])), (aCd2, .inl (cI, 12, .inl fCd2))] (fun _ : Unit => [(aC, .inr (1, [.int oCn, .ref aCd])), (aCd, .inl (cI, 12, .inl oCd)), (aC2, .inr (1, [.int vCn2, .ref aCd2])), (aCd2, .inl (cI, 12, .inl fCd2))]) := by
  refine CtV.ofW (cc := cX1_copyFrom) (maxL := 2) (by decide) rfl (Nat.le_of_ble_eq_true rfl) (lv := [(0, .ref aC), (1, .ref aC2)]) rfl ?_
  intro p e s m args below meth c A Q ls hx hb hml hown hts hK hN hP hD hS hA hl hin hret0
  have hown : s.vm.findClass RX1 = some m.cls := hown
  have i1 : ∀ w ∈ wsX10, w ∈ wsX1_copyFrom := mem_ps [7, 8] rfl
  have hret : ∀ (zCn : Int32) (zCd : Nat → Int32) (pc : Nat) (ls : Array Slot) (H : Heap) (locs : List Loc), decode cX1_copyFrom pc = .ok (.return_, 1) → va_P D vwCl [(aC, .inr (1, [.int zCn, .ref aCd])), (aCd, .inl (cI, 12, .inl zCd)), (aC2, .inr (1, [.int vCn2, .ref aCd2])), (aCd2, .inl (cI, 12, .inl fCd2))] H → va_D A [(aC, .inr (1, [.int zCn, .ref aCd])), (aCd, .inl (cI, 12, .inl zCd)), (aC2, .inr (1, [.int vCn2, .ref aCd2])), (aCd2, .inl (cI, 12, .inl fCd2))] → va_S A s.heap H locs → some (zCn, zCd) = some (oCn, oCd) → W p l e rX1_copyFrom s m args below meth c H locs 0 0 Q (F0 m pc ls []) := by
    intro zCn zCd pc ls H locs hd hP hD hS h
    cases h
    exact hret0 pc ls H locs () hd hP hD hS
  clear hret0
  unfold fX1_copyFrom at h
  obtain ⟨H, hH⟩ : ∃ H, H = s.heap := ⟨_, rfl⟩
  have hP : va_P D vwCl [(aC, .inr (1, [.int vCn, .ref aCd])), (aCd, .inl (cI, 12, .inl fCd)), (aC2, .inr (1, [.int vCn2, .ref aCd2])), (aCd2, .inl (cI, 12, .inl fCd2))] H := by rw [hH]; exact hP
  obtain ⟨locs, hlocs⟩ : ∃ x : List Loc, x = [] := ⟨_, rfl⟩
  have hS : va_S A s.heap H locs := by rw [hH, hlocs]; exact hS
  suffices hgo : W p l e rX1_copyFrom s m args below meth c H locs 0 0 Q (F0 m 0 ls []) by rw [hH, hlocs] at hgo; exact hgo
  refine lv_aload_n hx hb dX1_copyFrom_0 rfl (lv_at hl 0 rfl) ?_
  refine lv_aload_n hx hb dX1_copyFrom_1 rfl (lv_at hl 1 rfl) ?_
  refine va_get (D := D) (ci := 1) (v := .int vCn2) (C := RX1) (T := TX1) (N := 2) hx hb hts i1 hown hK hP 2 rfl rfl 0 (by decide) (hts (.fieldLink RX1 15 RX1 "count" "I") (List.mem_of_getElem? (i := 1) rfl)) (fun _ h9 => h9) rfl dX1_copyFrom_2 ?_
  refine va_put (D := D) (ci := 1) (v := .int vCn2) (ty := .int) (C := RX1) (T := TX1) (N := 2) hx hb hts i1 tyX1 tyX1_ok nmX1 hown hK hP hD hS 0 rfl rfl 0 (by decide) (hts (.fieldLink RX1 15 RX1 "count" "I") (List.mem_of_getElem? (i := 1) rfl)) (fun _ h9 => h9) rfl (by decide +kernel) rfl rfl (Nat.le_of_ble_eq_true rfl) dX1_copyFrom_5 (fun H locs hP hD hS => ?_)
  have hP : va_P D vwCl [(aC, .inr (1, [.int vCn2, .ref aCd])), (aCd, .inl (cI, 12, .inl fCd)), (aC2, .inr (1, [.int vCn2, .ref aCd2])), (aCd2, .inl (cI, 12, .inl fCd2))] H := hP
  have hD : va_D A [(aC, .inr (1, [.int vCn2, .ref aCd])), (aCd, .inl (cI, 12, .inl fCd)), (aC2, .inr (1, [.int vCn2, .ref aCd2])), (aCd2, .inl (cI, 12, .inl fCd2))] := hD
  refine lv_aload_n hx hb dX1_copyFrom_8 rfl (lv_at hl 1 rfl) ?_
  refine va_get (D := D) (ci := 1) (v := .ref aCd2) (C := RX1) (T := TX1) (N := 2) hx hb hts i1 hown hK hP 2 rfl rfl 1 (by decide) (hts (.fieldLink RX1 9 RX1 "dots" "[I") (List.mem_of_getElem? (i := 2) rfl)) (fun _ h9 => h9) rfl dX1_copyFrom_9 ?_
  refine lv_iconst (v := (0 : Int32)) hx hb dX1_copyFrom_12 (by decide) ?_
  refine lv_aload_n hx hb dX1_copyFrom_13 rfl (lv_at hl 0 rfl) ?_
  refine va_get (D := D) (ci := 1) (v := .ref aCd) (C := RX1) (T := TX1) (N := 2) hx hb hts i1 hown hK hP 0 rfl rfl 1 (by decide) (hts (.fieldLink RX1 9 RX1 "dots" "[I") (List.mem_of_getElem? (i := 2) rfl)) (fun _ h9 => h9) rfl dX1_copyFrom_14 ?_
  refine lv_iconst (v := (0 : Int32)) hx hb dX1_copyFrom_17 (by decide) ?_
  refine lv_bipush (v := (12 : Int32)) hx hb dX1_copyFrom_18 (by decide) ?_
  refine va_copyi hx hb (hml.trans hl.1.symm) hown (hts (.methodLink RX1 23 arraycopyName) (List.mem_of_getElem? (i := 3) rfl)) (hts (.native arraycopyName) (List.mem_of_getElem? (i := 4) rfl)) (hts (.static arraycopyName) (List.mem_of_getElem? (i := 5) rfl)) (hts (.initialized "java/lang/System") (List.mem_of_getElem? (i := 6) rfl)) hK hP hD hS 3 1 0 0 (ty := .int) rfl rfl rfl rfl rfl (by decide) (by decide) (by decide) (by decide) (by decide) (fun _ _ => rfl) (Nat.le_of_ble_eq_true rfl) (Nat.le_of_ble_eq_true rfl) dX1_copyFrom_20 (fun H locs hP hD hS => ?_)
  have hP : va_P D vwCl [(aC, .inr (1, [.int vCn2, .ref aCd])), (aCd, .inl (cI, 12, .inl (va_cpy fCd2 fCd 0 0 12))), (aC2, .inr (1, [.int vCn2, .ref aCd2])), (aCd2, .inl (cI, 12, .inl fCd2))] H := hP
  have hD : va_D A [(aC, .inr (1, [.int vCn2, .ref aCd])), (aCd, .inl (cI, 12, .inl (va_cpy fCd2 fCd 0 0 12))), (aC2, .inr (1, [.int vCn2, .ref aCd2])), (aCd2, .inl (cI, 12, .inl fCd2))] := hD
  exact hret vCn2 (va_cpy fCd2 fCd 0 0 12) 23 ls H locs dX1_copyFrom_23 hP hD hS h
def fX2_numberOf_b2 (vKn : Int32) (fKd : Nat → Int32) : Nat → Int32 → Int32 → Option (Int32)
  | 0, _, _ => none
  | n + 1, x1, x2 =>
    if vKn ≤ x2 then
      some (-6 : Int32)
    else
      if (8 : Int32) ≤ x2 then
        some (-6 : Int32)
      else
        if x2 < 0 ∨ 8 ≤ x2.toNatClampNeg then none else
        if (fKd x2.toNatClampNeg) = x1 then
          some x2
        else
          fX2_numberOf_b2 vKn fKd n x1 (x2 + 1)
def fX2_numberOf (vKn : Int32) (fKd : Nat → Int32) (x1 : Int32) : Option (Int32) :=
  fX2_numberOf_b2 vKn fKd FU x1 (0 : Int32)
abbrev rX2_numberOf : Room := { frames := 0, cells := 0, slots := 0, locals := 0 }
set_option maxHeartbeats 4000000 in
set_option maxRecDepth 100000 in
theorem tX2_numberOf {l : Launch} {D : va_G} {cI cZ cP : ClassId} (aK aKd aKs : Nat) (vKn : Int32) (fKd : Nat → Int32) (x1 : Int32) (r : Int32) (h : fX2_numberOf vKn fKd x1 = some r) : CtI l D cI cZ cP yX2_numberOf wsX2_numberOf rX2_numberOf [.ref aK, .int x1] [(aK, .inr (2, [.int vKn, .ref aKd, .ref aKs])), (aKd, .inl (cI, 8, .inl fKd))] (fun _ : Unit => [(aK, .inr (2, [.int vKn, .ref aKd, .ref aKs])), (aKd, .inl (cI, 8, .inl fKd))]) r := by
  refine CtI.ofW (cc := cX2_numberOf) (maxL := 3) (by decide) rfl (Nat.le_of_ble_eq_true rfl) (lv := [(0, .ref aK), (1, .int x1)]) rfl ?_
  intro p e s m args below meth c A Q ls hx hb hml hown hts hK hN hP hD hS hA hl hret0
  have hown : s.vm.findClass RX2 = some m.cls := hown
  have i2 : ∀ w ∈ wsX20, w ∈ wsX2_numberOf := mem_ps [3, 4, 5] rfl
  have hret : ∀ (v : Int32) (pc : Nat) (ls : Array Slot) (H : Heap) (locs : List Loc), narrow .int (.int v) = .int v → decode cX2_numberOf pc = .ok (.ireturn, 1) → va_P D vwCl [(aK, .inr (2, [.int vKn, .ref aKd, .ref aKs])), (aKd, .inl (cI, 8, .inl fKd))] H → va_D A [(aK, .inr (2, [.int vKn, .ref aKd, .ref aKs])), (aKd, .inl (cI, 8, .inl fKd))] → va_S A s.heap H locs → some v = some r → W p l e rX2_numberOf s m args below meth c H locs 0 0 Q (F0 m pc ls [.int v]) := by
    intro v pc ls H locs hn hd hP hD hS h
    cases h
    exact hret0 pc ls H locs () hn hd hP hD hS
  clear hret0
  have hb2 : ∀ (n : Nat) (x1 : Int32) (x2 : Int32) (H : Heap) (locs : List Loc) (ls : Array Slot), va_P D vwCl [(aK, .inr (2, [.int vKn, .ref aKd, .ref aKs])), (aKd, .inl (cI, 8, .inl fKd))] H → va_D A [(aK, .inr (2, [.int vKn, .ref aKd, .ref aKs])), (aKd, .inl (cI, 8, .inl fKd))] → va_S A s.heap H locs → lv_has ls 3 [(0, .ref aK), (1, .int x1), (2, .int x2)] → fX2_numberOf_b2 vKn fKd n x1 x2 = some r → W p l e rX2_numberOf s m args below meth c H locs 0 0 Q (F0 m 2 ls []) := by
    intro n
    induction n with
    | zero => intro x1 x2 H locs ls hP hD hS hl h; exact absurd h (by rw [fX2_numberOf_b2]; exact fun z => by cases z)
    | succ n ih =>
      intro x1 x2 H locs ls hP hD hS hl h
      rw [fX2_numberOf_b2] at h
      refine lv_iload_n hx hb dX2_numberOf_2 rfl (lv_at hl 2 rfl) ?_
      refine lv_aload_n hx hb dX2_numberOf_3 rfl (lv_at hl 0 rfl) ?_
      refine va_get (D := D) (ci := 2) (v := .int vKn) (C := RX2) (T := TX2) (N := 3) hx hb hts i2 hown hK hP 0 rfl rfl 0 (by decide) (hts (.fieldLink RX2 18 RX2 "count" "I") (List.mem_of_getElem? (i := 1) rfl)) (fun _ h9 => h9) rfl dX2_numberOf_4 ?_
      refine lv_icmp_ge (tgt := 34) hx hb dX2_numberOf_7 (by decide) (fun c1 => ?_) (fun c1 => ?_)
      · have h := (if_pos c1).symm.trans h
        refine lv_bipush (v := (-6 : Int32)) hx hb dX2_numberOf_34 (by decide) ?_
        exact hret (-6 : Int32) 36 ls H locs rfl dX2_numberOf_36 hP hD hS h
      · have h := (if_neg c1).symm.trans h
        refine lv_iload_n hx hb dX2_numberOf_10 rfl (lv_at hl 2 rfl) ?_
        refine lv_bipush (v := (8 : Int32)) hx hb dX2_numberOf_11 (by decide) ?_
        refine lv_icmp_ge (tgt := 34) hx hb dX2_numberOf_13 (by decide) (fun c2 => ?_) (fun c2 => ?_)
        · have h := (if_pos c2).symm.trans h
          refine lv_bipush (v := (-6 : Int32)) hx hb dX2_numberOf_34 (by decide) ?_
          exact hret (-6 : Int32) 36 ls H locs rfl dX2_numberOf_36 hP hD hS h
        · have h := (if_neg c2).symm.trans h
          refine lv_aload_n hx hb dX2_numberOf_16 rfl (lv_at hl 0 rfl) ?_
          refine va_get (D := D) (ci := 2) (v := .ref aKd) (C := RX2) (T := TX2) (N := 3) hx hb hts i2 hown hK hP 0 rfl rfl 1 (by decide) (hts (.fieldLink RX2 9 RX2 "dots" "[I") (List.mem_of_getElem? (i := 2) rfl)) (fun _ h9 => h9) rfl dX2_numberOf_17 ?_
          refine lv_iload_n hx hb dX2_numberOf_20 rfl (lv_at hl 2 rfl) ?_
          obtain ⟨g3, h⟩ := no_some h
          refine va_iald hx hb hK hP 1 0 rfl rfl g3 dX2_numberOf_21 ?_
          refine lv_iload_n hx hb dX2_numberOf_22 rfl (lv_at hl 1 rfl) ?_
          refine lv_icmp_ne (tgt := 28) hx hb dX2_numberOf_23 (by decide) (fun c4 => ?_) (fun c4 => ?_)
          · have h := (if_neg c4).symm.trans h
            refine lv_iinc (v := x2 + 1) (lv' := [(2, .int (x2 + 1)), (0, .ref aK), (1, .int x1)]) hx hb dX2_numberOf_28 hl (k := 2) rfl rfl (by decide) rfl (fun ls hl => ?_)
            refine lv_goto (tgt := 2) hx hb dX2_numberOf_31 (by decide) ?_
            exact ih x1 (x2 + 1) H locs ls hP hD hS (lv_sub hl [1, 2, 0] rfl) h
          · have h := (if_pos c4).symm.trans h
            refine lv_iload_n hx hb dX2_numberOf_26 rfl (lv_at hl 2 rfl) ?_
            exact hret x2 27 ls H locs rfl dX2_numberOf_27 hP hD hS h
  unfold fX2_numberOf at h
  obtain ⟨H, hH⟩ : ∃ H, H = s.heap := ⟨_, rfl⟩
  have hP : va_P D vwCl [(aK, .inr (2, [.int vKn, .ref aKd, .ref aKs])), (aKd, .inl (cI, 8, .inl fKd))] H := by rw [hH]; exact hP
  obtain ⟨locs, hlocs⟩ : ∃ x : List Loc, x = [] := ⟨_, rfl⟩
  have hS : va_S A s.heap H locs := by rw [hH, hlocs]; exact hS
  suffices hgo : W p l e rX2_numberOf s m args below meth c H locs 0 0 Q (F0 m 0 ls []) by rw [hH, hlocs] at hgo; exact hgo
  refine lv_iconst (v := (0 : Int32)) hx hb dX2_numberOf_0 (by decide) ?_
  refine lv_istore_n (lv' := [(2, .int (0 : Int32)), (0, .ref aK), (1, .int x1)]) hx hb dX2_numberOf_1 rfl hl (by decide) rfl (fun ls hl => ?_)
  exact hb2 FU x1 (0 : Int32) H locs ls hP hD hS (lv_sub hl [1, 2, 0] rfl) h
def fX2_hasRoom_b48 (vKn : Int32) (fKd : Nat → Int32) (fKs : Nat → Int32) (x2 : Int32) (y0 : Int32) : Option (Int32) :=
  if y0 = 0 then
    some (0 : Int32)
  else
    bd1 (fX2_slots vKn fKs) fun r_56 =>
    if (16 : Int32) < (r_56 + x2) then
      some (0 : Int32)
    else
      some (1 : Int32)
def fX2_hasRoom (vKn : Int32) (fKd : Nat → Int32) (fKs : Nat → Int32) (x1 : Int32) (x2 : Int32) : Option (Int32) :=
  bd1 (fX2_numberOf vKn fKd x1) fun r_2 =>
  bd1 (fX2_has vKn r_2) fun r_8 =>
  if r_8 = 0 then
    if (8 : Int32) ≤ vKn then
      fX2_hasRoom_b48 vKn fKd fKs x2 (0 : Int32)
    else
      fX2_hasRoom_b48 vKn fKd fKs x2 (1 : Int32)
  else
    if r_2 < 0 ∨ 8 ≤ r_2.toNatClampNeg then none else
    if (4 : Int32) < ((fKs r_2.toNatClampNeg) + x2) then
      fX2_hasRoom_b48 vKn fKd fKs x2 (0 : Int32)
    else
      fX2_hasRoom_b48 vKn fKd fKs x2 (1 : Int32)
abbrev rX2_hasRoom : Room := { frames := 2, cells := 0, slots := 0, locals := 43 }
set_option maxHeartbeats 4000000 in
set_option maxRecDepth 100000 in
theorem tX2_hasRoom {l : Launch} {D : va_G} {cI cZ cP : ClassId} (aK aKd aKs : Nat) (vKn : Int32) (fKd : Nat → Int32) (fKs : Nat → Int32) (x1 : Int32) (x2 : Int32) (r : Int32) (h : fX2_hasRoom vKn fKd fKs x1 x2 = some r) : CtI l D cI cZ cP yX2_hasRoom wsX2_hasRoom rX2_hasRoom [.ref aK, .int x1, .int x2] [(aK, .inr (2, [.int vKn, .ref aKd, .ref aKs])), (aKd, .inl (cI, 8, .inl fKd)), (aKs, .inl (cI, 8, .inl fKs))] (fun _ : Unit => [(aK, .inr (2, [.int vKn, .ref aKd, .ref aKs])), (aKd, .inl (cI, 8, .inl fKd)), (aKs, .inl (cI, 8, .inl fKs))]) r := by
  refine CtI.ofW (cc := cX2_hasRoom) (maxL := 5) (by decide) rfl (Nat.le_of_ble_eq_true rfl) (lv := [(0, .ref aK), (1, .int x1), (2, .int x2)]) rfl ?_
  intro p e s m args below meth c A Q ls hx hb hml hown hts hK hN hP hD hS hA hl hret0
  have hown : s.vm.findClass RX2 = some m.cls := hown
  have i2 : ∀ w ∈ wsX20, w ∈ wsX2_hasRoom := mem_ps [21, 22, 23] rfl
  have hret : ∀ (v : Int32) (pc : Nat) (ls : Array Slot) (H : Heap) (locs : List Loc), narrow .boolean (.int v) = .int v → decode cX2_hasRoom pc = .ok (.ireturn, 1) → va_P D vwCl [(aK, .inr (2, [.int vKn, .ref aKd, .ref aKs])), (aKd, .inl (cI, 8, .inl fKd)), (aKs, .inl (cI, 8, .inl fKs))] H → va_D A [(aK, .inr (2, [.int vKn, .ref aKd, .ref aKs])), (aKd, .inl (cI, 8, .inl fKd)), (aKs, .inl (cI, 8, .inl fKs))] → va_S A s.heap H locs → some v = some r → W p l e rX2_hasRoom s m args below meth c H locs 0 0 Q (F0 m pc ls [.int v]) := by
    intro v pc ls H locs hn hd hP hD hS h
    cases h
    exact hret0 pc ls H locs () hn hd hP hD hS
  clear hret0
  have hb48 : ∀ (x2 : Int32) (y0 : Int32) (H : Heap) (locs : List Loc) (ls : Array Slot), va_P D vwCl [(aK, .inr (2, [.int vKn, .ref aKd, .ref aKs])), (aKd, .inl (cI, 8, .inl fKd)), (aKs, .inl (cI, 8, .inl fKs))] H → va_D A [(aK, .inr (2, [.int vKn, .ref aKd, .ref aKs])), (aKd, .inl (cI, 8, .inl fKd)), (aKs, .inl (cI, 8, .inl fKs))] → va_S A s.heap H locs → lv_has ls 5 [(0, .ref aK), (2, .int x2)] → fX2_hasRoom_b48 vKn fKd fKs x2 y0 = some r → W p l e rX2_hasRoom s m args below meth c H locs 0 0 Q (F0 m 48 ls [.int y0]) := by
    intro x2 y0 H locs ls hP hD hS hl h
    unfold fX2_hasRoom_b48 at h
    refine lv_istore (lv' := [(4, .int y0), (0, .ref aK), (2, .int x2)]) hx hb dX2_hasRoom_48 hl (by decide) rfl (fun ls hl => ?_)
    refine lv_iload hx hb dX2_hasRoom_50 (lv_at hl 0 rfl) ?_
    refine lv_if_eq (tgt := 70) hx hb dX2_hasRoom_52 (by decide) (fun c1 => ?_) (fun c1 => ?_)
    · have h := (if_pos c1).symm.trans h
      refine lv_iconst (v := (0 : Int32)) hx hb dX2_hasRoom_70 (by decide) ?_
      exact hret (0 : Int32) 71 ls H locs rfl dX2_hasRoom_71 hP hD hS h
    · have h := (if_neg c1).symm.trans h
      refine lv_aload_n hx hb dX2_hasRoom_55 rfl (lv_at hl 1 rfl) ?_
      obtain ⟨r_56, q_56, h⟩ := bd1_some h
      refine fr_ro_i (S := Unit) (wc := [(aK, .inr (2, [.int vKn, .ref aKd, .ref aKs])), (aKs, .inl (cI, 8, .inl fKs))]) (fr_V (As := []) (rest := []) (C := RX2) ⟨hx, hb, hml, hown, hts⟩ (tX2_slots aK aKs aKd vKn fKs r_56 q_56) gX2_hasRoom_X2_slots rfl (fr_preV (As := []) (b := aK) (ci := 2) (q0 := 0) (wc := [(aK, .inr (2, [.int vKn, .ref aKd, .ref aKs])), (aKs, .inl (cI, 8, .inl fKs))]) hK hN hP hD [0, 2] (by decide) rfl rfl rfl) (n := 0) (by decide +kernel) ⟨Nat.le_of_ble_eq_true rfl, Nat.le_of_ble_eq_true rfl⟩ rfl hl.1 rfl (Nat.le_of_ble_eq_true rfl) dX2_hasRoom_56 ⟨Nat.zero_le _, Nat.zero_le _⟩) hP hD hS hA [0, 2] rfl (c2 := 0) (s2 := 0) rfl rfl (fun H locs hP hS => ?_)
      refine lv_iload_n hx hb dX2_hasRoom_59 rfl (lv_at hl 2 rfl) ?_
      refine lv_iadd hx hb dX2_hasRoom_60 ?_
      refine lv_bipush (v := (16 : Int32)) hx hb dX2_hasRoom_61 (by decide) ?_
      refine lv_icmp_gt (tgt := 70) hx hb dX2_hasRoom_63 (by decide) (fun c2 => ?_) (fun c2 => ?_)
      · have h := (if_pos c2).symm.trans h
        refine lv_iconst (v := (0 : Int32)) hx hb dX2_hasRoom_70 (by decide) ?_
        exact hret (0 : Int32) 71 ls H locs rfl dX2_hasRoom_71 hP hD hS h
      · have h := (if_neg c2).symm.trans h
        refine lv_iconst (v := (1 : Int32)) hx hb dX2_hasRoom_66 (by decide) ?_
        refine lv_goto (tgt := 71) hx hb dX2_hasRoom_67 (by decide) ?_
        exact hret (1 : Int32) 71 ls H locs rfl dX2_hasRoom_71 hP hD hS h
  unfold fX2_hasRoom at h
  obtain ⟨H, hH⟩ : ∃ H, H = s.heap := ⟨_, rfl⟩
  have hP : va_P D vwCl [(aK, .inr (2, [.int vKn, .ref aKd, .ref aKs])), (aKd, .inl (cI, 8, .inl fKd)), (aKs, .inl (cI, 8, .inl fKs))] H := by rw [hH]; exact hP
  obtain ⟨locs, hlocs⟩ : ∃ x : List Loc, x = [] := ⟨_, rfl⟩
  have hS : va_S A s.heap H locs := by rw [hH, hlocs]; exact hS
  suffices hgo : W p l e rX2_hasRoom s m args below meth c H locs 0 0 Q (F0 m 0 ls []) by rw [hH, hlocs] at hgo; exact hgo
  refine lv_aload_n hx hb dX2_hasRoom_0 rfl (lv_at hl 0 rfl) ?_
  refine lv_iload_n hx hb dX2_hasRoom_1 rfl (lv_at hl 1 rfl) ?_
  obtain ⟨r_2, q_2, h⟩ := bd1_some h
  refine fr_ro_i (S := Unit) (wc := [(aK, .inr (2, [.int vKn, .ref aKd, .ref aKs])), (aKd, .inl (cI, 8, .inl fKd))]) (fr_V (As := [.int x1]) (rest := []) (C := RX2) ⟨hx, hb, hml, hown, hts⟩ (tX2_numberOf aK aKd aKs vKn fKd x1 r_2 q_2) gX2_hasRoom_X2_numberOf rfl (fr_preV (As := [.int x1]) (b := aK) (ci := 2) (q0 := 0) (wc := [(aK, .inr (2, [.int vKn, .ref aKd, .ref aKs])), (aKd, .inl (cI, 8, .inl fKd))]) hK hN hP hD [0, 1] (by decide) rfl rfl rfl) (n := 1) (by decide +kernel) ⟨Nat.le_of_ble_eq_true rfl, Nat.le_of_ble_eq_true rfl⟩ rfl hl.1 rfl (Nat.le_of_ble_eq_true rfl) dX2_hasRoom_2 ⟨Nat.zero_le _, Nat.zero_le _⟩) hP hD hS hA [0, 1] rfl (c2 := 0) (s2 := 0) rfl rfl (fun H locs hP hS => ?_)
  refine lv_istore_n (lv' := [(3, .int r_2), (0, .ref aK), (1, .int x1), (2, .int x2)]) hx hb dX2_hasRoom_5 rfl hl (by decide) rfl (fun ls hl => ?_)
  refine lv_aload_n hx hb dX2_hasRoom_6 rfl (lv_at hl 1 rfl) ?_
  refine lv_iload_n hx hb dX2_hasRoom_7 rfl (lv_at hl 0 rfl) ?_
  obtain ⟨r_8, q_8, h⟩ := bd1_some h
  refine fr_ro_i (S := Unit) (wc := [(aK, .inr (2, [.int vKn, .ref aKd, .ref aKs]))]) (fr_V (As := [.int r_2]) (rest := []) (C := RX2) ⟨hx, hb, hml, hown, hts⟩ (tX2_has aK aKd aKs vKn r_2 r_8 q_8) gX2_hasRoom_X2_has rfl (fr_preV (As := [.int r_2]) (b := aK) (ci := 2) (q0 := 0) (wc := [(aK, .inr (2, [.int vKn, .ref aKd, .ref aKs]))]) hK hN hP hD [0] (by decide) rfl rfl rfl) (n := 1) (by decide +kernel) ⟨Nat.le_of_ble_eq_true rfl, Nat.le_of_ble_eq_true rfl⟩ rfl hl.1 rfl (Nat.le_of_ble_eq_true rfl) dX2_hasRoom_8 ⟨Nat.zero_le _, Nat.zero_le _⟩) hP hD hS hA [0] rfl (c2 := 0) (s2 := 0) rfl rfl (fun H locs hP hS => ?_)
  refine lv_if_eq (tgt := 34) hx hb dX2_hasRoom_11 (by decide) (fun c3 => ?_) (fun c3 => ?_)
  · have h := (if_pos c3).symm.trans h
    refine lv_aload_n hx hb dX2_hasRoom_34 rfl (lv_at hl 1 rfl) ?_
    refine va_get (D := D) (ci := 2) (v := .int vKn) (C := RX2) (T := TX2) (N := 3) hx hb hts i2 hown hK hP 0 rfl rfl 0 (by decide) (hts (.fieldLink RX2 18 RX2 "count" "I") (List.mem_of_getElem? (i := 2) rfl)) (fun _ h9 => h9) rfl dX2_hasRoom_35 ?_
    refine lv_bipush (v := (8 : Int32)) hx hb dX2_hasRoom_38 (by decide) ?_
    refine lv_icmp_ge (tgt := 47) hx hb dX2_hasRoom_40 (by decide) (fun c4 => ?_) (fun c4 => ?_)
    · have h := (if_pos c4).symm.trans h
      refine lv_iconst (v := (0 : Int32)) hx hb dX2_hasRoom_47 (by decide) ?_
      exact hb48 x2 (0 : Int32) H locs ls hP hD hS (lv_sub hl [1, 3] rfl) h
    · have h := (if_neg c4).symm.trans h
      refine lv_iconst (v := (1 : Int32)) hx hb dX2_hasRoom_43 (by decide) ?_
      refine lv_goto (tgt := 48) hx hb dX2_hasRoom_44 (by decide) ?_
      exact hb48 x2 (1 : Int32) H locs ls hP hD hS (lv_sub hl [1, 3] rfl) h
  · have h := (if_neg c3).symm.trans h
    refine lv_aload_n hx hb dX2_hasRoom_14 rfl (lv_at hl 1 rfl) ?_
    refine va_get (D := D) (ci := 2) (v := .ref aKs) (C := RX2) (T := TX2) (N := 3) hx hb hts i2 hown hK hP 0 rfl rfl 2 (by decide) (hts (.fieldLink RX2 15 RX2 "stocks" "[I") (List.mem_of_getElem? (i := 1) rfl)) (fun _ h9 => h9) rfl dX2_hasRoom_15 ?_
    refine lv_iload_n hx hb dX2_hasRoom_18 rfl (lv_at hl 0 rfl) ?_
    obtain ⟨g5, h⟩ := no_some h
    refine va_iald hx hb hK hP 2 0 rfl rfl g5 dX2_hasRoom_19 ?_
    refine lv_iload_n hx hb dX2_hasRoom_20 rfl (lv_at hl 3 rfl) ?_
    refine lv_iadd hx hb dX2_hasRoom_21 ?_
    refine lv_iconst (v := (4 : Int32)) hx hb dX2_hasRoom_22 (by decide) ?_
    refine lv_icmp_gt (tgt := 30) hx hb dX2_hasRoom_23 (by decide) (fun c6 => ?_) (fun c6 => ?_)
    · have h := (if_pos c6).symm.trans h
      refine lv_iconst (v := (0 : Int32)) hx hb dX2_hasRoom_30 (by decide) ?_
      refine lv_goto (tgt := 48) hx hb dX2_hasRoom_31 (by decide) ?_
      exact hb48 x2 (0 : Int32) H locs ls hP hD hS (lv_sub hl [1, 3] rfl) h
    · have h := (if_neg c6).symm.trans h
      refine lv_iconst (v := (1 : Int32)) hx hb dX2_hasRoom_26 (by decide) ?_
      refine lv_goto (tgt := 48) hx hb dX2_hasRoom_27 (by decide) ?_
      exact hb48 x2 (1 : Int32) H locs ls hP hD hS (lv_sub hl [1, 3] rfl) h
def fX2_add_b71  (x2 : Int32) (x4 : Int32) (vKn : Int32) (fKd : Nat → Int32) (fKs : Nat → Int32) : Option (Int32 × Int32 × (Nat → Int32) × (Nat → Int32)) :=
  if x4 < 0 ∨ 8 ≤ x4.toNatClampNeg then none else
  if x4 < 0 ∨ 8 ≤ x4.toNatClampNeg then none else
  if x4 < 0 ∨ 8 ≤ x4.toNatClampNeg then none else
  some ((upd fKs x4.toNatClampNeg ((fKs x4.toNatClampNeg) + x2)) x4.toNatClampNeg, vKn, fKd, upd fKs x4.toNatClampNeg ((fKs x4.toNatClampNeg) + x2))
def fX2_add_b20  (x1 : Int32) (x2 : Int32) (y0 : Int32) (vKn : Int32) (fKd : Nat → Int32) (fKs : Nat → Int32) : Option (Int32 × Int32 × (Nat → Int32) × (Nat → Int32)) :=
  if y0 < 0 then
    some ((0 : Int32), vKn, fKd, fKs)
  else
    if y0 < (8 : Int32) then
      if y0 = vKn then
        if y0 < 0 ∨ 8 ≤ y0.toNatClampNeg then none else
        if y0 < 0 ∨ 8 ≤ y0.toNatClampNeg then none else
        fX2_add_b71  x2 y0 (vKn + (1 : Int32)) (upd fKd y0.toNatClampNeg x1) (upd fKs y0.toNatClampNeg (0 : Int32))
      else
        fX2_add_b71  x2 y0 vKn fKd fKs
    else
      some ((0 : Int32), vKn, fKd, fKs)
def fX2_add (vKn : Int32) (fKd : Nat → Int32) (fKs : Nat → Int32) (x1 : Int32) (x2 : Int32) : Option (Int32 × Int32 × (Nat → Int32) × (Nat → Int32)) :=
  bd1 (fX2_numberOf vKn fKd x1) fun r_2 =>
  if r_2 = (-6 : Int32) then
    fX2_add_b20  x1 x2 vKn vKn fKd fKs
  else
    fX2_add_b20  x1 x2 r_2 vKn fKd fKs
abbrev rX2_add : Room := { frames := 1, cells := 0, slots := 0, locals := 22 }
set_option maxHeartbeats 4000000 in
set_option maxRecDepth 100000 in
theorem tX2_add {l : Launch} {D : va_G} {cI cZ cP : ClassId} (aK aKd aKs : Nat) (vKn : Int32) (fKd : Nat → Int32) (fKs : Nat → Int32) (x1 : Int32) (x2 : Int32) (r : Int32) (oKn : Int32) (oKd : Nat → Int32) (oKs : Nat → Int32) (h : fX2_add vKn fKd fKs x1 x2 = some (r, oKn, oKd, oKs)) : CtI l D cI cZ cP yX2_add wsX2_add rX2_add [.ref aK, .int x1, .int x2] [(aK, .inr (2, [.int vKn, .ref aKd, .ref aKs])), (aKd, .inl (cI, 8, .inl fKd)), (aKs, .inl (cI, 8, .inl fKs))] (fun _ : Unit => [(aK, .inr (2, [.int oKn, .ref aKd, .ref aKs])), (aKd, .inl (cI, 8, .inl oKd)), (aKs, .inl (cI, 8, .inl oKs))]) r := by
  refine CtI.ofW (cc := cX2_add) (maxL := 5) (by decide) rfl (Nat.le_of_ble_eq_true rfl) (lv := [(0, .ref aK), (1, .int x1), (2, .int x2)]) rfl ?_
  intro p e s m args below meth c A Q ls hx hb hml hown hts hK hN hP hD hS hA hl hret0
  have hown : s.vm.findClass RX2 = some m.cls := hown
  have i2 : ∀ w ∈ wsX20, w ∈ wsX2_add := mem_ps [9, 10, 11] rfl
  have hret : ∀ (v : Int32) (zKn : Int32) (zKd : Nat → Int32) (zKs : Nat → Int32) (pc : Nat) (ls : Array Slot) (H : Heap) (locs : List Loc), narrow .int (.int v) = .int v → decode cX2_add pc = .ok (.ireturn, 1) → va_P D vwCl [(aK, .inr (2, [.int zKn, .ref aKd, .ref aKs])), (aKd, .inl (cI, 8, .inl zKd)), (aKs, .inl (cI, 8, .inl zKs))] H → va_D A [(aK, .inr (2, [.int zKn, .ref aKd, .ref aKs])), (aKd, .inl (cI, 8, .inl zKd)), (aKs, .inl (cI, 8, .inl zKs))] → va_S A s.heap H locs → some (v, zKn, zKd, zKs) = some (r, oKn, oKd, oKs) → W p l e rX2_add s m args below meth c H locs 0 0 Q (F0 m pc ls [.int v]) := by
    intro v zKn zKd zKs pc ls H locs hn hd hP hD hS h
    cases h
    exact hret0 pc ls H locs () hn hd hP hD hS
  clear hret0
  have hb71 : ∀ (x2 : Int32) (x4 : Int32) (vKn : Int32) (fKd : Nat → Int32) (fKs : Nat → Int32) (H : Heap) (locs : List Loc) (ls : Array Slot), va_P D vwCl [(aK, .inr (2, [.int vKn, .ref aKd, .ref aKs])), (aKd, .inl (cI, 8, .inl fKd)), (aKs, .inl (cI, 8, .inl fKs))] H → va_D A [(aK, .inr (2, [.int vKn, .ref aKd, .ref aKs])), (aKd, .inl (cI, 8, .inl fKd)), (aKs, .inl (cI, 8, .inl fKs))] → va_S A s.heap H locs → lv_has ls 5 [(0, .ref aK), (2, .int x2), (4, .int x4)] → fX2_add_b71  x2 x4 vKn fKd fKs = some (r, oKn, oKd, oKs) → W p l e rX2_add s m args below meth c H locs 0 0 Q (F0 m 71 ls []) := by
    intro x2 x4 vKn fKd fKs H locs ls hP hD hS hl h
    unfold fX2_add_b71 at h
    refine lv_aload_n hx hb dX2_add_71 rfl (lv_at hl 0 rfl) ?_
    refine va_get (D := D) (ci := 2) (v := .ref aKs) (C := RX2) (T := TX2) (N := 3) hx hb hts i2 hown hK hP 0 rfl rfl 2 (by decide) (hts (.fieldLink RX2 15 RX2 "stocks" "[I") (List.mem_of_getElem? (i := 3) rfl)) (fun _ h9 => h9) rfl dX2_add_72 ?_
    refine lv_iload hx hb dX2_add_75 (lv_at hl 2 rfl) ?_
    refine lv_dup2_11 hx hb dX2_add_77 rfl rfl ?_
    obtain ⟨g1, h⟩ := no_some h
    refine va_iald hx hb hK hP 2 0 rfl rfl g1 dX2_add_78 ?_
    refine lv_iload_n hx hb dX2_add_79 rfl (lv_at hl 1 rfl) ?_
    refine lv_iadd hx hb dX2_add_80 ?_
    obtain ⟨g2, h⟩ := no_some h
    refine va_iast hx hb hK hP hD hS 2 0 rfl rfl g2 dX2_add_81 (fun H locs hP hD hS => ?_)
    have hP : va_P D vwCl [(aK, .inr (2, [.int vKn, .ref aKd, .ref aKs])), (aKd, .inl (cI, 8, .inl fKd)), (aKs, .inl (cI, 8, .inl (upd fKs x4.toNatClampNeg ((fKs x4.toNatClampNeg) + x2))))] H := hP
    have hD : va_D A [(aK, .inr (2, [.int vKn, .ref aKd, .ref aKs])), (aKd, .inl (cI, 8, .inl fKd)), (aKs, .inl (cI, 8, .inl (upd fKs x4.toNatClampNeg ((fKs x4.toNatClampNeg) + x2))))] := hD
    refine lv_aload_n hx hb dX2_add_82 rfl (lv_at hl 0 rfl) ?_
    refine va_get (D := D) (ci := 2) (v := .ref aKs) (C := RX2) (T := TX2) (N := 3) hx hb hts i2 hown hK hP 0 rfl rfl 2 (by decide) (hts (.fieldLink RX2 15 RX2 "stocks" "[I") (List.mem_of_getElem? (i := 3) rfl)) (fun _ h9 => h9) rfl dX2_add_83 ?_
    refine lv_iload hx hb dX2_add_86 (lv_at hl 2 rfl) ?_
    obtain ⟨g3, h⟩ := no_some h
    refine va_iald hx hb hK hP 2 0 rfl rfl g3 dX2_add_88 ?_
    exact hret ((upd fKs x4.toNatClampNeg ((fKs x4.toNatClampNeg) + x2)) x4.toNatClampNeg) vKn fKd (upd fKs x4.toNatClampNeg ((fKs x4.toNatClampNeg) + x2)) 89 ls H locs rfl dX2_add_89 hP hD hS h
  have hb20 : ∀ (x1 : Int32) (x2 : Int32) (y0 : Int32) (vKn : Int32) (fKd : Nat → Int32) (fKs : Nat → Int32) (H : Heap) (locs : List Loc) (ls : Array Slot), va_P D vwCl [(aK, .inr (2, [.int vKn, .ref aKd, .ref aKs])), (aKd, .inl (cI, 8, .inl fKd)), (aKs, .inl (cI, 8, .inl fKs))] H → va_D A [(aK, .inr (2, [.int vKn, .ref aKd, .ref aKs])), (aKd, .inl (cI, 8, .inl fKd)), (aKs, .inl (cI, 8, .inl fKs))] → va_S A s.heap H locs → lv_has ls 5 [(0, .ref aK), (1, .int x1), (2, .int x2)] → fX2_add_b20  x1 x2 y0 vKn fKd fKs = some (r, oKn, oKd, oKs) → W p l e rX2_add s m args below meth c H locs 0 0 Q (F0 m 20 ls [.int y0]) := by
    intro x1 x2 y0 vKn fKd fKs H locs ls hP hD hS hl h
    unfold fX2_add_b20 at h
    refine lv_istore (lv' := [(4, .int y0), (0, .ref aK), (1, .int x1), (2, .int x2)]) hx hb dX2_add_20 hl (by decide) rfl (fun ls hl => ?_)
    refine lv_iload hx hb dX2_add_22 (lv_at hl 0 rfl) ?_
    refine lv_if_lt (tgt := 34) hx hb dX2_add_24 (by decide) (fun c4 => ?_) (fun c4 => ?_)
    · have h := (if_pos c4).symm.trans h
      refine lv_iconst (v := (0 : Int32)) hx hb dX2_add_34 (by decide) ?_
      exact hret (0 : Int32) vKn fKd fKs 35 ls H locs rfl dX2_add_35 hP hD hS h
    · have h := (if_neg c4).symm.trans h
      refine lv_iload hx hb dX2_add_27 (lv_at hl 0 rfl) ?_
      refine lv_bipush (v := (8 : Int32)) hx hb dX2_add_29 (by decide) ?_
      refine lv_icmp_lt (tgt := 36) hx hb dX2_add_31 (by decide) (fun c5 => ?_) (fun c5 => ?_)
      · have h := (if_pos c5).symm.trans h
        refine lv_iload hx hb dX2_add_36 (lv_at hl 0 rfl) ?_
        refine lv_aload_n hx hb dX2_add_38 rfl (lv_at hl 1 rfl) ?_
        refine va_get (D := D) (ci := 2) (v := .int vKn) (C := RX2) (T := TX2) (N := 3) hx hb hts i2 hown hK hP 0 rfl rfl 0 (by decide) (hts (.fieldLink RX2 18 RX2 "count" "I") (List.mem_of_getElem? (i := 1) rfl)) (fun _ h9 => h9) rfl dX2_add_39 ?_
        refine lv_icmp_ne (tgt := 71) hx hb dX2_add_42 (by decide) (fun c6 => ?_) (fun c6 => ?_)
        · have h := (if_neg c6).symm.trans h
          exact hb71 x2 y0 vKn fKd fKs H locs ls hP hD hS (lv_sub hl [1, 3, 0] rfl) h
        · have h := (if_pos c6).symm.trans h
          refine lv_aload_n hx hb dX2_add_45 rfl (lv_at hl 1 rfl) ?_
          refine va_get (D := D) (ci := 2) (v := .ref aKd) (C := RX2) (T := TX2) (N := 3) hx hb hts i2 hown hK hP 0 rfl rfl 1 (by decide) (hts (.fieldLink RX2 9 RX2 "dots" "[I") (List.mem_of_getElem? (i := 2) rfl)) (fun _ h9 => h9) rfl dX2_add_46 ?_
          refine lv_iload hx hb dX2_add_49 (lv_at hl 0 rfl) ?_
          refine lv_iload_n hx hb dX2_add_51 rfl (lv_at hl 2 rfl) ?_
          obtain ⟨g7, h⟩ := no_some h
          refine va_iast hx hb hK hP hD hS 1 0 rfl rfl g7 dX2_add_52 (fun H locs hP hD hS => ?_)
          have hP : va_P D vwCl [(aK, .inr (2, [.int vKn, .ref aKd, .ref aKs])), (aKd, .inl (cI, 8, .inl (upd fKd y0.toNatClampNeg x1))), (aKs, .inl (cI, 8, .inl fKs))] H := hP
          have hD : va_D A [(aK, .inr (2, [.int vKn, .ref aKd, .ref aKs])), (aKd, .inl (cI, 8, .inl (upd fKd y0.toNatClampNeg x1))), (aKs, .inl (cI, 8, .inl fKs))] := hD
          refine lv_aload_n hx hb dX2_add_53 rfl (lv_at hl 1 rfl) ?_
          refine va_get (D := D) (ci := 2) (v := .ref aKs) (C := RX2) (T := TX2) (N := 3) hx hb hts i2 hown hK hP 0 rfl rfl 2 (by decide) (hts (.fieldLink RX2 15 RX2 "stocks" "[I") (List.mem_of_getElem? (i := 3) rfl)) (fun _ h9 => h9) rfl dX2_add_54 ?_
          refine lv_iload hx hb dX2_add_57 (lv_at hl 0 rfl) ?_
          refine lv_iconst (v := (0 : Int32)) hx hb dX2_add_59 (by decide) ?_
          obtain ⟨g8, h⟩ := no_some h
          refine va_iast hx hb hK hP hD hS 2 0 rfl rfl g8 dX2_add_60 (fun H locs hP hD hS => ?_)
          have hP : va_P D vwCl [(aK, .inr (2, [.int vKn, .ref aKd, .ref aKs])), (aKd, .inl (cI, 8, .inl (upd fKd y0.toNatClampNeg x1))), (aKs, .inl (cI, 8, .inl (upd fKs y0.toNatClampNeg (0 : Int32))))] H := hP
          have hD : va_D A [(aK, .inr (2, [.int vKn, .ref aKd, .ref aKs])), (aKd, .inl (cI, 8, .inl (upd fKd y0.toNatClampNeg x1))), (aKs, .inl (cI, 8, .inl (upd fKs y0.toNatClampNeg (0 : Int32))))] := hD
          refine lv_aload_n hx hb dX2_add_61 rfl (lv_at hl 1 rfl) ?_
          refine lv_dup hx hb dX2_add_62 rfl ?_
          refine va_get (D := D) (ci := 2) (v := .int vKn) (C := RX2) (T := TX2) (N := 3) hx hb hts i2 hown hK hP 0 rfl rfl 0 (by decide) (hts (.fieldLink RX2 18 RX2 "count" "I") (List.mem_of_getElem? (i := 1) rfl)) (fun _ h9 => h9) rfl dX2_add_63 ?_
          refine lv_iconst (v := (1 : Int32)) hx hb dX2_add_66 (by decide) ?_
          refine lv_iadd hx hb dX2_add_67 ?_
          refine va_put (D := D) (ci := 2) (v := .int (vKn + (1 : Int32))) (ty := .int) (C := RX2) (T := TX2) (N := 3) hx hb hts i2 tyX2 tyX2_ok nmX2 hown hK hP hD hS 0 rfl rfl 0 (by decide) (hts (.fieldLink RX2 18 RX2 "count" "I") (List.mem_of_getElem? (i := 1) rfl)) (fun _ h9 => h9) rfl (by decide +kernel) rfl rfl (Nat.le_of_ble_eq_true rfl) dX2_add_68 (fun H locs hP hD hS => ?_)
          have hP : va_P D vwCl [(aK, .inr (2, [.int (vKn + (1 : Int32)), .ref aKd, .ref aKs])), (aKd, .inl (cI, 8, .inl (upd fKd y0.toNatClampNeg x1))), (aKs, .inl (cI, 8, .inl (upd fKs y0.toNatClampNeg (0 : Int32))))] H := hP
          have hD : va_D A [(aK, .inr (2, [.int (vKn + (1 : Int32)), .ref aKd, .ref aKs])), (aKd, .inl (cI, 8, .inl (upd fKd y0.toNatClampNeg x1))), (aKs, .inl (cI, 8, .inl (upd fKs y0.toNatClampNeg (0 : Int32))))] := hD
          exact hb71 x2 y0 (vKn + (1 : Int32)) (upd fKd y0.toNatClampNeg x1) (upd fKs y0.toNatClampNeg (0 : Int32)) H locs ls hP hD hS (lv_sub hl [1, 3, 0] rfl) h
      · have h := (if_neg c5).symm.trans h
        refine lv_iconst (v := (0 : Int32)) hx hb dX2_add_34 (by decide) ?_
        exact hret (0 : Int32) vKn fKd fKs 35 ls H locs rfl dX2_add_35 hP hD hS h
  unfold fX2_add at h
  obtain ⟨H, hH⟩ : ∃ H, H = s.heap := ⟨_, rfl⟩
  have hP : va_P D vwCl [(aK, .inr (2, [.int vKn, .ref aKd, .ref aKs])), (aKd, .inl (cI, 8, .inl fKd)), (aKs, .inl (cI, 8, .inl fKs))] H := by rw [hH]; exact hP
  obtain ⟨locs, hlocs⟩ : ∃ x : List Loc, x = [] := ⟨_, rfl⟩
  have hS : va_S A s.heap H locs := by rw [hH, hlocs]; exact hS
  suffices hgo : W p l e rX2_add s m args below meth c H locs 0 0 Q (F0 m 0 ls []) by rw [hH, hlocs] at hgo; exact hgo
  refine lv_aload_n hx hb dX2_add_0 rfl (lv_at hl 0 rfl) ?_
  refine lv_iload_n hx hb dX2_add_1 rfl (lv_at hl 1 rfl) ?_
  obtain ⟨r_2, q_2, h⟩ := bd1_some h
  refine fr_ro_i (S := Unit) (wc := [(aK, .inr (2, [.int vKn, .ref aKd, .ref aKs])), (aKd, .inl (cI, 8, .inl fKd))]) (fr_V (As := [.int x1]) (rest := []) (C := RX2) ⟨hx, hb, hml, hown, hts⟩ (tX2_numberOf aK aKd aKs vKn fKd x1 r_2 q_2) gX2_add_X2_numberOf rfl (fr_preV (As := [.int x1]) (b := aK) (ci := 2) (q0 := 0) (wc := [(aK, .inr (2, [.int vKn, .ref aKd, .ref aKs])), (aKd, .inl (cI, 8, .inl fKd))]) hK hN hP hD [0, 1] (by decide) rfl rfl rfl) (n := 1) (by decide +kernel) ⟨Nat.le_of_ble_eq_true rfl, Nat.le_of_ble_eq_true rfl⟩ rfl hl.1 rfl (Nat.le_of_ble_eq_true rfl) dX2_add_2 ⟨Nat.zero_le _, Nat.zero_le _⟩) hP hD hS hA [0, 1] rfl (c2 := 0) (s2 := 0) rfl rfl (fun H locs hP hS => ?_)
  refine lv_istore_n (lv' := [(3, .int r_2), (0, .ref aK), (1, .int x1), (2, .int x2)]) hx hb dX2_add_5 rfl hl (by decide) rfl (fun ls hl => ?_)
  refine lv_iload_n hx hb dX2_add_6 rfl (lv_at hl 0 rfl) ?_
  refine lv_bipush (v := (-6 : Int32)) hx hb dX2_add_7 (by decide) ?_
  refine lv_icmp_ne (tgt := 19) hx hb dX2_add_9 (by decide) (fun c9 => ?_) (fun c9 => ?_)
  · have h := (if_neg c9).symm.trans h
    refine lv_iload_n hx hb dX2_add_19 rfl (lv_at hl 0 rfl) ?_
    exact hb20 x1 x2 r_2 vKn fKd fKs H locs ls hP hD hS (lv_sub hl [1, 2, 3] rfl) h
  · have h := (if_pos c9).symm.trans h
    refine lv_aload_n hx hb dX2_add_12 rfl (lv_at hl 1 rfl) ?_
    refine va_get (D := D) (ci := 2) (v := .int vKn) (C := RX2) (T := TX2) (N := 3) hx hb hts i2 hown hK hP 0 rfl rfl 0 (by decide) (hts (.fieldLink RX2 18 RX2 "count" "I") (List.mem_of_getElem? (i := 1) rfl)) (fun _ h9 => h9) rfl dX2_add_13 ?_
    refine lv_goto (tgt := 20) hx hb dX2_add_16 (by decide) ?_
    exact hb20 x1 x2 vKn vKn fKd fKs H locs ls hP hD hS (lv_sub hl [1, 2, 3] rfl) h
def fX2_takeOut_b21  : Nat → Int32 → Int32 → (Nat → Int32) → (Nat → Int32) → Option (Int32 × (Nat → Int32) × (Nat → Int32))
  | 0, _, _, _, _ => none
  | n + 1, x2, vKn, fKd, fKs =>
    if vKn ≤ x2 then
      some (vKn, fKd, fKs)
    else
      if (8 : Int32) ≤ (x2 + (1 : Int32)) then
        some (vKn, fKd, fKs)
      else
        if x2 + (1 : Int32) < 0 ∨ 8 ≤ (x2 + (1 : Int32)).toNatClampNeg then none else
        if x2 < 0 ∨ 8 ≤ x2.toNatClampNeg then none else
        if x2 + (1 : Int32) < 0 ∨ 8 ≤ (x2 + (1 : Int32)).toNatClampNeg then none else
        if x2 < 0 ∨ 8 ≤ x2.toNatClampNeg then none else
        fX2_takeOut_b21  n (x2 + 1) vKn (upd fKd x2.toNatClampNeg (fKd ((x2 + (1 : Int32)).toNatClampNeg))) (upd fKs x2.toNatClampNeg (fKs ((x2 + (1 : Int32)).toNatClampNeg)))
def fX2_takeOut (vKn : Int32) (fKd : Nat → Int32) (fKs : Nat → Int32) (x1 : Int32) : Option (Int32 × (Nat → Int32) × (Nat → Int32)) :=
  bd1 (fX2_has vKn x1) fun r_2 =>
  if r_2 = 0 then
    some (vKn, fKd, fKs)
  else
    fX2_takeOut_b21  FU x1 (vKn - (1 : Int32)) fKd fKs
abbrev rX2_takeOut : Room := { frames := 1, cells := 0, slots := 0, locals := 21 }
set_option maxHeartbeats 4000000 in
set_option maxRecDepth 100000 in
theorem tX2_takeOut {l : Launch} {D : va_G} {cI cZ cP : ClassId} (aK aKd aKs : Nat) (vKn : Int32) (fKd : Nat → Int32) (fKs : Nat → Int32) (x1 : Int32) (oKn : Int32) (oKd : Nat → Int32) (oKs : Nat → Int32) (h : fX2_takeOut vKn fKd fKs x1 = some (oKn, oKd, oKs)) : CtV l D cI cZ cP yX2_takeOut wsX2_takeOut rX2_takeOut [.ref aK, .int x1] [(aK, .inr (2, [.int vKn, .ref aKd, .ref aKs])), (aKd, .inl (cI, 8, .inl fKd)), (aKs, .inl (cI, 8, .inl fKs))] (fun _ : Unit => [(aK, .inr (2, [.int oKn, .ref aKd, .ref aKs])), (aKd, .inl (cI, 8, .inl oKd)), (aKs, .inl (cI, 8, .inl oKs))]) := by
  refine CtV.ofW (cc := cX2_takeOut) (maxL := 3) (by decide) rfl (Nat.le_of_ble_eq_true rfl) (lv := [(0, .ref aK), (1, .int x1)]) rfl ?_
  intro p e s m args below meth c A Q ls hx hb hml hown hts hK hN hP hD hS hA hl hin hret0
  have hown : s.vm.findClass RX2 = some m.cls := hown
  have i2 : ∀ w ∈ wsX20, w ∈ wsX2_takeOut := mem_ps [9, 10, 11] rfl
  have hret : ∀ (zKn : Int32) (zKd : Nat → Int32) (zKs : Nat → Int32) (pc : Nat) (ls : Array Slot) (H : Heap) (locs : List Loc), decode cX2_takeOut pc = .ok (.return_, 1) → va_P D vwCl [(aK, .inr (2, [.int zKn, .ref aKd, .ref aKs])), (aKd, .inl (cI, 8, .inl zKd)), (aKs, .inl (cI, 8, .inl zKs))] H → va_D A [(aK, .inr (2, [.int zKn, .ref aKd, .ref aKs])), (aKd, .inl (cI, 8, .inl zKd)), (aKs, .inl (cI, 8, .inl zKs))] → va_S A s.heap H locs → some (zKn, zKd, zKs) = some (oKn, oKd, oKs) → W p l e rX2_takeOut s m args below meth c H locs 0 0 Q (F0 m pc ls []) := by
    intro zKn zKd zKs pc ls H locs hd hP hD hS h
    cases h
    exact hret0 pc ls H locs () hd hP hD hS
  clear hret0
  have hb21 : ∀ (n : Nat) (x2 : Int32) (vKn : Int32) (fKd : Nat → Int32) (fKs : Nat → Int32) (H : Heap) (locs : List Loc) (ls : Array Slot), va_P D vwCl [(aK, .inr (2, [.int vKn, .ref aKd, .ref aKs])), (aKd, .inl (cI, 8, .inl fKd)), (aKs, .inl (cI, 8, .inl fKs))] H → va_D A [(aK, .inr (2, [.int vKn, .ref aKd, .ref aKs])), (aKd, .inl (cI, 8, .inl fKd)), (aKs, .inl (cI, 8, .inl fKs))] → va_S A s.heap H locs → lv_has ls 3 [(0, .ref aK), (2, .int x2)] → fX2_takeOut_b21  n x2 vKn fKd fKs = some (oKn, oKd, oKs) → W p l e rX2_takeOut s m args below meth c H locs 0 0 Q (F0 m 21 ls []) := by
    intro n
    induction n with
    | zero => intro x2 vKn fKd fKs H locs ls hP hD hS hl h; exact absurd h (by rw [fX2_takeOut_b21]; exact fun z => by cases z)
    | succ n ih =>
      intro x2 vKn fKd fKs H locs ls hP hD hS hl h
      rw [fX2_takeOut_b21] at h
      refine lv_iload_n hx hb dX2_takeOut_21 rfl (lv_at hl 1 rfl) ?_
      refine lv_aload_n hx hb dX2_takeOut_22 rfl (lv_at hl 0 rfl) ?_
      refine va_get (D := D) (ci := 2) (v := .int vKn) (C := RX2) (T := TX2) (N := 3) hx hb hts i2 hown hK hP 0 rfl rfl 0 (by decide) (hts (.fieldLink RX2 18 RX2 "count" "I") (List.mem_of_getElem? (i := 1) rfl)) (fun _ h9 => h9) rfl dX2_takeOut_23 ?_
      refine lv_icmp_ge (tgt := 71) hx hb dX2_takeOut_26 (by decide) (fun c1 => ?_) (fun c1 => ?_)
      · have h := (if_pos c1).symm.trans h
        exact hret vKn fKd fKs 71 ls H locs dX2_takeOut_71 hP hD hS h
      · have h := (if_neg c1).symm.trans h
        refine lv_iload_n hx hb dX2_takeOut_29 rfl (lv_at hl 1 rfl) ?_
        refine lv_iconst (v := (1 : Int32)) hx hb dX2_takeOut_30 (by decide) ?_
        refine lv_iadd hx hb dX2_takeOut_31 ?_
        refine lv_bipush (v := (8 : Int32)) hx hb dX2_takeOut_32 (by decide) ?_
        refine lv_icmp_ge (tgt := 71) hx hb dX2_takeOut_34 (by decide) (fun c2 => ?_) (fun c2 => ?_)
        · have h := (if_pos c2).symm.trans h
          exact hret vKn fKd fKs 71 ls H locs dX2_takeOut_71 hP hD hS h
        · have h := (if_neg c2).symm.trans h
          refine lv_aload_n hx hb dX2_takeOut_37 rfl (lv_at hl 0 rfl) ?_
          refine va_get (D := D) (ci := 2) (v := .ref aKd) (C := RX2) (T := TX2) (N := 3) hx hb hts i2 hown hK hP 0 rfl rfl 1 (by decide) (hts (.fieldLink RX2 9 RX2 "dots" "[I") (List.mem_of_getElem? (i := 2) rfl)) (fun _ h9 => h9) rfl dX2_takeOut_38 ?_
          refine lv_iload_n hx hb dX2_takeOut_41 rfl (lv_at hl 1 rfl) ?_
          refine lv_aload_n hx hb dX2_takeOut_42 rfl (lv_at hl 0 rfl) ?_
          refine va_get (D := D) (ci := 2) (v := .ref aKd) (C := RX2) (T := TX2) (N := 3) hx hb hts i2 hown hK hP 0 rfl rfl 1 (by decide) (hts (.fieldLink RX2 9 RX2 "dots" "[I") (List.mem_of_getElem? (i := 2) rfl)) (fun _ h9 => h9) rfl dX2_takeOut_43 ?_
          refine lv_iload_n hx hb dX2_takeOut_46 rfl (lv_at hl 1 rfl) ?_
          refine lv_iconst (v := (1 : Int32)) hx hb dX2_takeOut_47 (by decide) ?_
          refine lv_iadd hx hb dX2_takeOut_48 ?_
          obtain ⟨g3, h⟩ := no_some h
          refine va_iald hx hb hK hP 1 0 rfl rfl g3 dX2_takeOut_49 ?_
          obtain ⟨g4, h⟩ := no_some h
          refine va_iast hx hb hK hP hD hS 1 0 rfl rfl g4 dX2_takeOut_50 (fun H locs hP hD hS => ?_)
          have hP : va_P D vwCl [(aK, .inr (2, [.int vKn, .ref aKd, .ref aKs])), (aKd, .inl (cI, 8, .inl (upd fKd x2.toNatClampNeg (fKd ((x2 + (1 : Int32)).toNatClampNeg))))), (aKs, .inl (cI, 8, .inl fKs))] H := hP
          have hD : va_D A [(aK, .inr (2, [.int vKn, .ref aKd, .ref aKs])), (aKd, .inl (cI, 8, .inl (upd fKd x2.toNatClampNeg (fKd ((x2 + (1 : Int32)).toNatClampNeg))))), (aKs, .inl (cI, 8, .inl fKs))] := hD
          refine lv_aload_n hx hb dX2_takeOut_51 rfl (lv_at hl 0 rfl) ?_
          refine va_get (D := D) (ci := 2) (v := .ref aKs) (C := RX2) (T := TX2) (N := 3) hx hb hts i2 hown hK hP 0 rfl rfl 2 (by decide) (hts (.fieldLink RX2 15 RX2 "stocks" "[I") (List.mem_of_getElem? (i := 3) rfl)) (fun _ h9 => h9) rfl dX2_takeOut_52 ?_
          refine lv_iload_n hx hb dX2_takeOut_55 rfl (lv_at hl 1 rfl) ?_
          refine lv_aload_n hx hb dX2_takeOut_56 rfl (lv_at hl 0 rfl) ?_
          refine va_get (D := D) (ci := 2) (v := .ref aKs) (C := RX2) (T := TX2) (N := 3) hx hb hts i2 hown hK hP 0 rfl rfl 2 (by decide) (hts (.fieldLink RX2 15 RX2 "stocks" "[I") (List.mem_of_getElem? (i := 3) rfl)) (fun _ h9 => h9) rfl dX2_takeOut_57 ?_
          refine lv_iload_n hx hb dX2_takeOut_60 rfl (lv_at hl 1 rfl) ?_
          refine lv_iconst (v := (1 : Int32)) hx hb dX2_takeOut_61 (by decide) ?_
          refine lv_iadd hx hb dX2_takeOut_62 ?_
          obtain ⟨g5, h⟩ := no_some h
          refine va_iald hx hb hK hP 2 0 rfl rfl g5 dX2_takeOut_63 ?_
          obtain ⟨g6, h⟩ := no_some h
          refine va_iast hx hb hK hP hD hS 2 0 rfl rfl g6 dX2_takeOut_64 (fun H locs hP hD hS => ?_)
          have hP : va_P D vwCl [(aK, .inr (2, [.int vKn, .ref aKd, .ref aKs])), (aKd, .inl (cI, 8, .inl (upd fKd x2.toNatClampNeg (fKd ((x2 + (1 : Int32)).toNatClampNeg))))), (aKs, .inl (cI, 8, .inl (upd fKs x2.toNatClampNeg (fKs ((x2 + (1 : Int32)).toNatClampNeg)))))] H := hP
          have hD : va_D A [(aK, .inr (2, [.int vKn, .ref aKd, .ref aKs])), (aKd, .inl (cI, 8, .inl (upd fKd x2.toNatClampNeg (fKd ((x2 + (1 : Int32)).toNatClampNeg))))), (aKs, .inl (cI, 8, .inl (upd fKs x2.toNatClampNeg (fKs ((x2 + (1 : Int32)).toNatClampNeg)))))] := hD
          refine lv_iinc (v := x2 + 1) (lv' := [(2, .int (x2 + 1)), (0, .ref aK)]) hx hb dX2_takeOut_65 hl (k := 1) rfl rfl (by decide) rfl (fun ls hl => ?_)
          refine lv_goto (tgt := 21) hx hb dX2_takeOut_68 (by decide) ?_
          exact ih (x2 + 1) vKn (upd fKd x2.toNatClampNeg (fKd ((x2 + (1 : Int32)).toNatClampNeg))) (upd fKs x2.toNatClampNeg (fKs ((x2 + (1 : Int32)).toNatClampNeg))) H locs ls hP hD hS (lv_sub hl [1, 0] rfl) h
  unfold fX2_takeOut at h
  obtain ⟨H, hH⟩ : ∃ H, H = s.heap := ⟨_, rfl⟩
  have hP : va_P D vwCl [(aK, .inr (2, [.int vKn, .ref aKd, .ref aKs])), (aKd, .inl (cI, 8, .inl fKd)), (aKs, .inl (cI, 8, .inl fKs))] H := by rw [hH]; exact hP
  obtain ⟨locs, hlocs⟩ : ∃ x : List Loc, x = [] := ⟨_, rfl⟩
  have hS : va_S A s.heap H locs := by rw [hH, hlocs]; exact hS
  suffices hgo : W p l e rX2_takeOut s m args below meth c H locs 0 0 Q (F0 m 0 ls []) by rw [hH, hlocs] at hgo; exact hgo
  refine lv_aload_n hx hb dX2_takeOut_0 rfl (lv_at hl 0 rfl) ?_
  refine lv_iload_n hx hb dX2_takeOut_1 rfl (lv_at hl 1 rfl) ?_
  obtain ⟨r_2, q_2, h⟩ := bd1_some h
  refine fr_ro_i (S := Unit) (wc := [(aK, .inr (2, [.int vKn, .ref aKd, .ref aKs]))]) (fr_V (As := [.int x1]) (rest := []) (C := RX2) ⟨hx, hb, hml, hown, hts⟩ (tX2_has aK aKd aKs vKn x1 r_2 q_2) gX2_takeOut_X2_has rfl (fr_preV (As := [.int x1]) (b := aK) (ci := 2) (q0 := 0) (wc := [(aK, .inr (2, [.int vKn, .ref aKd, .ref aKs]))]) hK hN hP hD [0] (by decide) rfl rfl rfl) (n := 1) (by decide +kernel) ⟨Nat.le_of_ble_eq_true rfl, Nat.le_of_ble_eq_true rfl⟩ rfl hl.1 rfl (Nat.le_of_ble_eq_true rfl) dX2_takeOut_2 ⟨Nat.zero_le _, Nat.zero_le _⟩) hP hD hS hA [0] rfl (c2 := 0) (s2 := 0) rfl rfl (fun H locs hP hS => ?_)
  refine lv_if_ne (tgt := 9) hx hb dX2_takeOut_5 (by decide) (fun c7 => ?_) (fun c7 => ?_)
  · have h := (if_neg c7).symm.trans h
    refine lv_aload_n hx hb dX2_takeOut_9 rfl (lv_at hl 0 rfl) ?_
    refine lv_dup hx hb dX2_takeOut_10 rfl ?_
    refine va_get (D := D) (ci := 2) (v := .int vKn) (C := RX2) (T := TX2) (N := 3) hx hb hts i2 hown hK hP 0 rfl rfl 0 (by decide) (hts (.fieldLink RX2 18 RX2 "count" "I") (List.mem_of_getElem? (i := 1) rfl)) (fun _ h9 => h9) rfl dX2_takeOut_11 ?_
    refine lv_iconst (v := (1 : Int32)) hx hb dX2_takeOut_14 (by decide) ?_
    refine lv_isub hx hb dX2_takeOut_15 ?_
    refine va_put (D := D) (ci := 2) (v := .int (vKn - (1 : Int32))) (ty := .int) (C := RX2) (T := TX2) (N := 3) hx hb hts i2 tyX2 tyX2_ok nmX2 hown hK hP hD hS 0 rfl rfl 0 (by decide) (hts (.fieldLink RX2 18 RX2 "count" "I") (List.mem_of_getElem? (i := 1) rfl)) (fun _ h9 => h9) rfl (by decide +kernel) rfl rfl (Nat.le_of_ble_eq_true rfl) dX2_takeOut_16 (fun H locs hP hD hS => ?_)
    have hP : va_P D vwCl [(aK, .inr (2, [.int (vKn - (1 : Int32)), .ref aKd, .ref aKs])), (aKd, .inl (cI, 8, .inl fKd)), (aKs, .inl (cI, 8, .inl fKs))] H := hP
    have hD : va_D A [(aK, .inr (2, [.int (vKn - (1 : Int32)), .ref aKd, .ref aKs])), (aKd, .inl (cI, 8, .inl fKd)), (aKs, .inl (cI, 8, .inl fKs))] := hD
    refine lv_iload_n hx hb dX2_takeOut_19 rfl (lv_at hl 1 rfl) ?_
    refine lv_istore_n (lv' := [(2, .int x1), (0, .ref aK), (1, .int x1)]) hx hb dX2_takeOut_20 rfl hl (by decide) rfl (fun ls hl => ?_)
    exact hb21 FU x1 (vKn - (1 : Int32)) fKd fKs H locs ls hP hD hS (lv_sub hl [1, 0] rfl) h
  · have h := (if_pos c7).symm.trans h
    exact hret vKn fKd fKs 8 ls H locs dX2_takeOut_8 hP hD hS h
def fX2_copyFrom (vKn : Int32) (fKd : Nat → Int32) (fKs : Nat → Int32) (vKn2 : Int32) (fKd2 : Nat → Int32) (fKs2 : Nat → Int32) : Option (Int32 × (Nat → Int32) × (Nat → Int32)) :=
  some (vKn2, va_cpy fKd2 fKd 0 0 8, va_cpy fKs2 fKs 0 0 8)
abbrev rX2_copyFrom : Room := { frames := 1, cells := 0, slots := 0, locals := 60 }
set_option maxHeartbeats 4000000 in
set_option maxRecDepth 100000 in
theorem tX2_copyFrom {l : Launch} {D : va_G} {cI cZ cP : ClassId} (aK aKd aKs aK2 aKd2 aKs2 : Nat) (vKn : Int32) (fKd : Nat → Int32) (fKs : Nat → Int32) (vKn2 : Int32) (fKd2 : Nat → Int32) (fKs2 : Nat → Int32) (oKn : Int32) (oKd : Nat → Int32) (oKs : Nat → Int32) (h : fX2_copyFrom vKn fKd fKs vKn2 fKd2 fKs2 = some (oKn, oKd, oKs)) : CtV l D cI cZ cP yX2_copyFrom wsX2_copyFrom rX2_copyFrom [.ref aK, .ref aK2] [(aK, .inr (2, [.int vKn, .ref aKd, .ref aKs])), (aKd, .inl (cI, 8, .inl fKd)), (aKs, .inl (cI, 8, .inl fKs)), (aK2, .inr (2, [.int vKn2, .ref aKd2, .ref aKs2])), (aKd2, .inl (cI, 8, .inl fKd2)), (aKs2, .inl (cI, 8, .inl fKs2))] (fun _ : Unit => [(aK, .inr (2, [.int oKn, .ref aKd, .ref aKs])), (aKd, .inl (cI, 8, .inl oKd)), (aKs, .inl (cI, 8, .inl oKs)), (aK2, .inr (2, [.int vKn2, .ref aKd2, .ref aKs2])), (aKd2, .inl (cI, 8, .inl fKd2)), (aKs2, .inl (cI, 8, .inl fKs2))]) := by
  refine CtV.ofW (cc := cX2_copyFrom) (maxL := 2) (by decide) rfl (Nat.le_of_ble_eq_true rfl) (lv := [(0, .ref aK), (1, .ref aK2)]) rfl ?_
  intro p e s m args below meth c A Q ls hx hb hml hown hts hK hN hP hD hS hA hl hin hret0
  have hown : s.vm.findClass RX2 = some m.cls := hown
  have i2 : ∀ w ∈ wsX20, w ∈ wsX2_copyFrom := mem_ps [8, 9, 10] rfl
  have hret : ∀ (zKn : Int32) (zKd : Nat → Int32) (zKs : Nat → Int32) (pc : Nat) (ls : Array Slot) (H : Heap) (locs : List Loc), decode cX2_copyFrom pc = .ok (.return_, 1) → va_P D vwCl [(aK, .inr (2, [.int zKn, .ref aKd, .ref aKs])), (aKd, .inl (cI, 8, .inl zKd)), (aKs, .inl (cI, 8, .inl zKs)), (aK2, .inr (2, [.int vKn2, .ref aKd2, .ref aKs2])), (aKd2, .inl (cI, 8, .inl fKd2)), (aKs2, .inl (cI, 8, .inl fKs2))] H → va_D A [(aK, .inr (2, [.int zKn, .ref aKd, .ref aKs])), (aKd, .inl (cI, 8, .inl zKd)), (aKs, .inl (cI, 8, .inl zKs)), (aK2, .inr (2, [.int vKn2, .ref aKd2, .ref aKs2])), (aKd2, .inl (cI, 8, .inl fKd2)), (aKs2, .inl (cI, 8, .inl fKs2))] → va_S A s.heap H locs → some (zKn, zKd, zKs) = some (oKn, oKd, oKs) → W p l e rX2_copyFrom s m args below meth c H locs 0 0 Q (F0 m pc ls []) := by
    intro zKn zKd zKs pc ls H locs hd hP hD hS h
    cases h
    exact hret0 pc ls H locs () hd hP hD hS
  clear hret0
  unfold fX2_copyFrom at h
  obtain ⟨H, hH⟩ : ∃ H, H = s.heap := ⟨_, rfl⟩
  have hP : va_P D vwCl [(aK, .inr (2, [.int vKn, .ref aKd, .ref aKs])), (aKd, .inl (cI, 8, .inl fKd)), (aKs, .inl (cI, 8, .inl fKs)), (aK2, .inr (2, [.int vKn2, .ref aKd2, .ref aKs2])), (aKd2, .inl (cI, 8, .inl fKd2)), (aKs2, .inl (cI, 8, .inl fKs2))] H := by rw [hH]; exact hP
  obtain ⟨locs, hlocs⟩ : ∃ x : List Loc, x = [] := ⟨_, rfl⟩
  have hS : va_S A s.heap H locs := by rw [hH, hlocs]; exact hS
  suffices hgo : W p l e rX2_copyFrom s m args below meth c H locs 0 0 Q (F0 m 0 ls []) by rw [hH, hlocs] at hgo; exact hgo
  refine lv_aload_n hx hb dX2_copyFrom_0 rfl (lv_at hl 0 rfl) ?_
  refine lv_aload_n hx hb dX2_copyFrom_1 rfl (lv_at hl 1 rfl) ?_
  refine va_get (D := D) (ci := 2) (v := .int vKn2) (C := RX2) (T := TX2) (N := 3) hx hb hts i2 hown hK hP 3 rfl rfl 0 (by decide) (hts (.fieldLink RX2 18 RX2 "count" "I") (List.mem_of_getElem? (i := 1) rfl)) (fun _ h9 => h9) rfl dX2_copyFrom_2 ?_
  refine va_put (D := D) (ci := 2) (v := .int vKn2) (ty := .int) (C := RX2) (T := TX2) (N := 3) hx hb hts i2 tyX2 tyX2_ok nmX2 hown hK hP hD hS 0 rfl rfl 0 (by decide) (hts (.fieldLink RX2 18 RX2 "count" "I") (List.mem_of_getElem? (i := 1) rfl)) (fun _ h9 => h9) rfl (by decide +kernel) rfl rfl (Nat.le_of_ble_eq_true rfl) dX2_copyFrom_5 (fun H locs hP hD hS => ?_)
  have hP : va_P D vwCl [(aK, .inr (2, [.int vKn2, .ref aKd, .ref aKs])), (aKd, .inl (cI, 8, .inl fKd)), (aKs, .inl (cI, 8, .inl fKs)), (aK2, .inr (2, [.int vKn2, .ref aKd2, .ref aKs2])), (aKd2, .inl (cI, 8, .inl fKd2)), (aKs2, .inl (cI, 8, .inl fKs2))] H := hP
  have hD : va_D A [(aK, .inr (2, [.int vKn2, .ref aKd, .ref aKs])), (aKd, .inl (cI, 8, .inl fKd)), (aKs, .inl (cI, 8, .inl fKs)), (aK2, .inr (2, [.int vKn2, .ref aKd2, .ref aKs2])), (aKd2, .inl (cI, 8, .inl fKd2)), (aKs2, .inl (cI, 8, .inl fKs2))] := hD
  refine lv_aload_n hx hb dX2_copyFrom_8 rfl (lv_at hl 1 rfl) ?_
  refine va_get (D := D) (ci := 2) (v := .ref aKd2) (C := RX2) (T := TX2) (N := 3) hx hb hts i2 hown hK hP 3 rfl rfl 1 (by decide) (hts (.fieldLink RX2 9 RX2 "dots" "[I") (List.mem_of_getElem? (i := 2) rfl)) (fun _ h9 => h9) rfl dX2_copyFrom_9 ?_
  refine lv_iconst (v := (0 : Int32)) hx hb dX2_copyFrom_12 (by decide) ?_
  refine lv_aload_n hx hb dX2_copyFrom_13 rfl (lv_at hl 0 rfl) ?_
  refine va_get (D := D) (ci := 2) (v := .ref aKd) (C := RX2) (T := TX2) (N := 3) hx hb hts i2 hown hK hP 0 rfl rfl 1 (by decide) (hts (.fieldLink RX2 9 RX2 "dots" "[I") (List.mem_of_getElem? (i := 2) rfl)) (fun _ h9 => h9) rfl dX2_copyFrom_14 ?_
  refine lv_iconst (v := (0 : Int32)) hx hb dX2_copyFrom_17 (by decide) ?_
  refine lv_bipush (v := (8 : Int32)) hx hb dX2_copyFrom_18 (by decide) ?_
  refine va_copyi hx hb (hml.trans hl.1.symm) hown (hts (.methodLink RX2 37 arraycopyName) (List.mem_of_getElem? (i := 3) rfl)) (hts (.native arraycopyName) (List.mem_of_getElem? (i := 4) rfl)) (hts (.static arraycopyName) (List.mem_of_getElem? (i := 5) rfl)) (hts (.initialized "java/lang/System") (List.mem_of_getElem? (i := 6) rfl)) hK hP hD hS 4 1 0 0 (ty := .int) rfl rfl rfl rfl rfl (by decide) (by decide) (by decide) (by decide) (by decide) (fun _ _ => rfl) (Nat.le_of_ble_eq_true rfl) (Nat.le_of_ble_eq_true rfl) dX2_copyFrom_20 (fun H locs hP hD hS => ?_)
  have hP : va_P D vwCl [(aK, .inr (2, [.int vKn2, .ref aKd, .ref aKs])), (aKd, .inl (cI, 8, .inl (va_cpy fKd2 fKd 0 0 8))), (aKs, .inl (cI, 8, .inl fKs)), (aK2, .inr (2, [.int vKn2, .ref aKd2, .ref aKs2])), (aKd2, .inl (cI, 8, .inl fKd2)), (aKs2, .inl (cI, 8, .inl fKs2))] H := hP
  have hD : va_D A [(aK, .inr (2, [.int vKn2, .ref aKd, .ref aKs])), (aKd, .inl (cI, 8, .inl (va_cpy fKd2 fKd 0 0 8))), (aKs, .inl (cI, 8, .inl fKs)), (aK2, .inr (2, [.int vKn2, .ref aKd2, .ref aKs2])), (aKd2, .inl (cI, 8, .inl fKd2)), (aKs2, .inl (cI, 8, .inl fKs2))] := hD
  refine lv_aload_n hx hb dX2_copyFrom_23 rfl (lv_at hl 1 rfl) ?_
  refine va_get (D := D) (ci := 2) (v := .ref aKs2) (C := RX2) (T := TX2) (N := 3) hx hb hts i2 hown hK hP 3 rfl rfl 2 (by decide) (hts (.fieldLink RX2 15 RX2 "stocks" "[I") (List.mem_of_getElem? (i := 7) rfl)) (fun _ h9 => h9) rfl dX2_copyFrom_24 ?_
  refine lv_iconst (v := (0 : Int32)) hx hb dX2_copyFrom_27 (by decide) ?_
  refine lv_aload_n hx hb dX2_copyFrom_28 rfl (lv_at hl 0 rfl) ?_
  refine va_get (D := D) (ci := 2) (v := .ref aKs) (C := RX2) (T := TX2) (N := 3) hx hb hts i2 hown hK hP 0 rfl rfl 2 (by decide) (hts (.fieldLink RX2 15 RX2 "stocks" "[I") (List.mem_of_getElem? (i := 7) rfl)) (fun _ h9 => h9) rfl dX2_copyFrom_29 ?_
  refine lv_iconst (v := (0 : Int32)) hx hb dX2_copyFrom_32 (by decide) ?_
  refine lv_bipush (v := (8 : Int32)) hx hb dX2_copyFrom_33 (by decide) ?_
  refine va_copyi hx hb (hml.trans hl.1.symm) hown (hts (.methodLink RX2 37 arraycopyName) (List.mem_of_getElem? (i := 3) rfl)) (hts (.native arraycopyName) (List.mem_of_getElem? (i := 4) rfl)) (hts (.static arraycopyName) (List.mem_of_getElem? (i := 5) rfl)) (hts (.initialized "java/lang/System") (List.mem_of_getElem? (i := 6) rfl)) hK hP hD hS 5 2 0 0 (ty := .int) rfl rfl rfl rfl rfl (by decide) (by decide) (by decide) (by decide) (by decide) (fun _ _ => rfl) (Nat.le_of_ble_eq_true rfl) (Nat.le_of_ble_eq_true rfl) dX2_copyFrom_35 (fun H locs hP hD hS => ?_)
  have hP : va_P D vwCl [(aK, .inr (2, [.int vKn2, .ref aKd, .ref aKs])), (aKd, .inl (cI, 8, .inl (va_cpy fKd2 fKd 0 0 8))), (aKs, .inl (cI, 8, .inl (va_cpy fKs2 fKs 0 0 8))), (aK2, .inr (2, [.int vKn2, .ref aKd2, .ref aKs2])), (aKd2, .inl (cI, 8, .inl fKd2)), (aKs2, .inl (cI, 8, .inl fKs2))] H := hP
  have hD : va_D A [(aK, .inr (2, [.int vKn2, .ref aKd, .ref aKs])), (aKd, .inl (cI, 8, .inl (va_cpy fKd2 fKd 0 0 8))), (aKs, .inl (cI, 8, .inl (va_cpy fKs2 fKs 0 0 8))), (aK2, .inr (2, [.int vKn2, .ref aKd2, .ref aKs2])), (aKd2, .inl (cI, 8, .inl fKd2)), (aKs2, .inl (cI, 8, .inl fKs2))] := hD
  exact hret vKn2 (va_cpy fKd2 fKd 0 0 8) (va_cpy fKs2 fKs 0 0 8) 38 ls H locs dX2_copyFrom_38 hP hD hS h
def fX5_areDots (x0 : Int32) : Option (Int32) :=
  if x0 < 0 then
    some (0 : Int32)
  else
    if (9999 : Int32) < x0 then
      some (0 : Int32)
    else
      some (1 : Int32)
abbrev rX5_areDots : Room := { frames := 0, cells := 0, slots := 0, locals := 0 }
set_option maxHeartbeats 4000000 in
set_option maxRecDepth 100000 in
theorem tX5_areDots {l : Launch} {D : va_G} {cI cZ cP : ClassId} (x0 : Int32) (r : Int32) (h : fX5_areDots x0 = some r) : CtI l D cI cZ cP yX5_areDots wsX5_areDots rX5_areDots [.int x0] [] (fun _ : Unit => []) r := by
  refine CtI.ofW (cc := cX5_areDots) (maxL := 1) (by decide) rfl (Nat.le_of_ble_eq_true rfl) (lv := [(0, .int x0)]) rfl ?_
  intro p e s m args below meth c A Q ls hx hb hml hown hts hK hN hP hD hS hA hl hret0
  have hown : s.vm.findClass RX5 = some m.cls := hown
  have hret : ∀ (v : Int32) (pc : Nat) (ls : Array Slot) (H : Heap) (locs : List Loc), narrow .boolean (.int v) = .int v → decode cX5_areDots pc = .ok (.ireturn, 1) → va_P D vwCl [] H → va_D A [] → va_S A s.heap H locs → some v = some r → W p l e rX5_areDots s m args below meth c H locs 0 0 Q (F0 m pc ls [.int v]) := by
    intro v pc ls H locs hn hd hP hD hS h
    cases h
    exact hret0 pc ls H locs () hn hd hP hD hS
  clear hret0
  unfold fX5_areDots at h
  obtain ⟨H, hH⟩ : ∃ H, H = s.heap := ⟨_, rfl⟩
  have hP : va_P D vwCl [] H := by rw [hH]; exact hP
  obtain ⟨locs, hlocs⟩ : ∃ x : List Loc, x = [] := ⟨_, rfl⟩
  have hS : va_S A s.heap H locs := by rw [hH, hlocs]; exact hS
  suffices hgo : W p l e rX5_areDots s m args below meth c H locs 0 0 Q (F0 m 0 ls []) by rw [hH, hlocs] at hgo; exact hgo
  refine lv_iload_n hx hb dX5_areDots_0 rfl (lv_at hl 0 rfl) ?_
  refine lv_if_lt (tgt := 15) hx hb dX5_areDots_1 (by decide) (fun c1 => ?_) (fun c1 => ?_)
  · have h := (if_pos c1).symm.trans h
    refine lv_iconst (v := (0 : Int32)) hx hb dX5_areDots_15 (by decide) ?_
    exact hret (0 : Int32) 16 ls H locs rfl dX5_areDots_16 hP hD hS h
  · have h := (if_neg c1).symm.trans h
    refine lv_iload_n hx hb dX5_areDots_4 rfl (lv_at hl 0 rfl) ?_
    refine lv_sipush (v := (9999 : Int32)) hx hb dX5_areDots_5 (by decide) ?_
    refine lv_icmp_gt (tgt := 15) hx hb dX5_areDots_8 (by decide) (fun c2 => ?_) (fun c2 => ?_)
    · have h := (if_pos c2).symm.trans h
      refine lv_iconst (v := (0 : Int32)) hx hb dX5_areDots_15 (by decide) ?_
      exact hret (0 : Int32) 16 ls H locs rfl dX5_areDots_16 hP hD hS h
    · have h := (if_neg c2).symm.trans h
      refine lv_iconst (v := (1 : Int32)) hx hb dX5_areDots_11 (by decide) ?_
      refine lv_goto (tgt := 16) hx hb dX5_areDots_12 (by decide) ?_
      exact hret (1 : Int32) 16 ls H locs rfl dX5_areDots_16 hP hD hS h
end
