def fX5_mode_b12  (x1 : Int32) (vMo : Int32) (vVa : Int32) : Option (Int32 × Int32 × Int32) :=
  if x1 = vMo then
    some (vMo, vMo, vVa)
  else
    some (vMo, x1, (0 : Int32))
def fX5_mode (vMo : Int32) (vVa : Int32) (x1 : Int32) : Option (Int32 × Int32 × Int32) :=
  if x1 = 0 then
    fX5_mode_b12  x1 vMo vVa
  else
    if x1 = (1 : Int32) then
      fX5_mode_b12  x1 vMo vVa
    else
      some ((-2 : Int32), vMo, vVa)
abbrev rX5_mode : Room := { frames := 0, cells := 0, slots := 0, locals := 0 }
set_option maxHeartbeats 4000000 in
set_option maxRecDepth 100000 in
theorem tX5_mode {l : Launch} {D : va_G} {cI cZ cP : ClassId} (aX aI aB aW aP aK aKd aKs aC aCd aS aPr aHo aHe aSt aPb aPs : Nat) (fIm : Nat → Option Nat) (vSl : Int32) (fWo : Nat → Int32) (vMo : Int32) (vSh : Int32) (vKn : Int32) (fKd : Nat → Int32) (fKs : Nat → Int32) (vCn : Int32) (fCd : Nat → Int32) (vVa : Int32) (vCo : Int32) (vBi : Int32) (vPh : Int32) (fPr : Nat → Int32) (fHo : Nat → Int32) (fHe : Nat → Int32) (fSt : Nat → Int32) (fPb : Nat → Int32) (fPs : Nat → Int32) (x1 : Int32) (r : Int32) (oMo : Int32) (oVa : Int32) (h : fX5_mode vMo vVa x1 = some (r, oMo, oVa)) : CtI l D cI cZ cP yX5_mode wsX5_mode rX5_mode [.ref aX, .int x1] [(aX, .inr (5, [.ref aB, .ref aP, .ref aI])), (aI, .inl (cP, 2, .inr (.inr (.inr (.inr fIm))))), (aB, .inr (0, [.ref aP, .ref aS, .ref aW, .int vSl])), (aW, .inl (cI, 256, .inl fWo)), (aP, .inr (3, [.int vMo, .int vSh, .ref aK, .ref aC, .ref aS])), (aK, .inr (2, [.int vKn, .ref aKd, .ref aKs])), (aKd, .inl (cI, 8, .inl fKd)), (aKs, .inl (cI, 8, .inl fKs)), (aC, .inr (1, [.int vCn, .ref aCd])), (aCd, .inl (cI, 12, .inl fCd)), (aS, .inr (4, [.int vVa, .int vCo, .int vBi, .int vPh, .ref aPr, .ref aHo, .ref aHe, .ref aSt, .ref aPb, .ref aPs])), (aPr, .inl (cI, 16, .inl fPr)), (aHo, .inl (cI, 16, .inl fHo)), (aHe, .inl (cI, 16, .inl fHe)), (aSt, .inl (cI, 16, .inl fSt)), (aPb, .inl (cI, 16, .inl fPb)), (aPs, .inl (cI, 16, .inl fPs))] (fun _ : Unit => [(aX, .inr (5, [.ref aB, .ref aP, .ref aI])), (aI, .inl (cP, 2, .inr (.inr (.inr (.inr fIm))))), (aB, .inr (0, [.ref aP, .ref aS, .ref aW, .int vSl])), (aW, .inl (cI, 256, .inl fWo)), (aP, .inr (3, [.int oMo, .int vSh, .ref aK, .ref aC, .ref aS])), (aK, .inr (2, [.int vKn, .ref aKd, .ref aKs])), (aKd, .inl (cI, 8, .inl fKd)), (aKs, .inl (cI, 8, .inl fKs)), (aC, .inr (1, [.int vCn, .ref aCd])), (aCd, .inl (cI, 12, .inl fCd)), (aS, .inr (4, [.int oVa, .int vCo, .int vBi, .int vPh, .ref aPr, .ref aHo, .ref aHe, .ref aSt, .ref aPb, .ref aPs])), (aPr, .inl (cI, 16, .inl fPr)), (aHo, .inl (cI, 16, .inl fHo)), (aHe, .inl (cI, 16, .inl fHe)), (aSt, .inl (cI, 16, .inl fSt)), (aPb, .inl (cI, 16, .inl fPb)), (aPs, .inl (cI, 16, .inl fPs))]) r := by
  refine CtI.ofW (cc := cX5_mode) (maxL := 3) (by decide) rfl (Nat.le_of_ble_eq_true rfl) (lv := [(0, .ref aX), (1, .int x1)]) rfl ?_
  intro p e s m args below meth c A Q ls hx hb hml hown hts hK hN hP hD hS hA hl hret0
  have hown : s.vm.findClass RX5 = some m.cls := hown
  have i3 : ∀ w ∈ wsX30, w ∈ wsX5_mode := mem_ps [5, 6, 7, 8, 9] rfl
  have i4 : ∀ w ∈ wsX40, w ∈ wsX5_mode := mem_ps [10, 11, 12, 13, 14, 15, 16, 17, 18, 19] rfl
  have i5 : ∀ w ∈ wsX50, w ∈ wsX5_mode := mem_ps [2, 3, 4] rfl
  have hret : ∀ (v : Int32) (zMo : Int32) (zVa : Int32) (pc : Nat) (ls : Array Slot) (H : Heap) (locs : List Loc), narrow .int (.int v) = .int v → decode cX5_mode pc = .ok (.ireturn, 1) → va_P D vwCl [(aX, .inr (5, [.ref aB, .ref aP, .ref aI])), (aI, .inl (cP, 2, .inr (.inr (.inr (.inr fIm))))), (aB, .inr (0, [.ref aP, .ref aS, .ref aW, .int vSl])), (aW, .inl (cI, 256, .inl fWo)), (aP, .inr (3, [.int zMo, .int vSh, .ref aK, .ref aC, .ref aS])), (aK, .inr (2, [.int vKn, .ref aKd, .ref aKs])), (aKd, .inl (cI, 8, .inl fKd)), (aKs, .inl (cI, 8, .inl fKs)), (aC, .inr (1, [.int vCn, .ref aCd])), (aCd, .inl (cI, 12, .inl fCd)), (aS, .inr (4, [.int zVa, .int vCo, .int vBi, .int vPh, .ref aPr, .ref aHo, .ref aHe, .ref aSt, .ref aPb, .ref aPs])), (aPr, .inl (cI, 16, .inl fPr)), (aHo, .inl (cI, 16, .inl fHo)), (aHe, .inl (cI, 16, .inl fHe)), (aSt, .inl (cI, 16, .inl fSt)), (aPb, .inl (cI, 16, .inl fPb)), (aPs, .inl (cI, 16, .inl fPs))] H → va_D A [(aX, .inr (5, [.ref aB, .ref aP, .ref aI])), (aI, .inl (cP, 2, .inr (.inr (.inr (.inr fIm))))), (aB, .inr (0, [.ref aP, .ref aS, .ref aW, .int vSl])), (aW, .inl (cI, 256, .inl fWo)), (aP, .inr (3, [.int zMo, .int vSh, .ref aK, .ref aC, .ref aS])), (aK, .inr (2, [.int vKn, .ref aKd, .ref aKs])), (aKd, .inl (cI, 8, .inl fKd)), (aKs, .inl (cI, 8, .inl fKs)), (aC, .inr (1, [.int vCn, .ref aCd])), (aCd, .inl (cI, 12, .inl fCd)), (aS, .inr (4, [.int zVa, .int vCo, .int vBi, .int vPh, .ref aPr, .ref aHo, .ref aHe, .ref aSt, .ref aPb, .ref aPs])), (aPr, .inl (cI, 16, .inl fPr)), (aHo, .inl (cI, 16, .inl fHo)), (aHe, .inl (cI, 16, .inl fHe)), (aSt, .inl (cI, 16, .inl fSt)), (aPb, .inl (cI, 16, .inl fPb)), (aPs, .inl (cI, 16, .inl fPs))] → va_S A s.heap H locs → some (v, zMo, zVa) = some (r, oMo, oVa) → W p l e rX5_mode s m args below meth c H locs 0 0 Q (F0 m pc ls [.int v]) := by
    intro v zMo zVa pc ls H locs hn hd hP hD hS h
    cases h
    exact hret0 pc ls H locs () hn hd hP hD hS
  clear hret0
  have hb12 : ∀ (x1 : Int32) (vMo : Int32) (vVa : Int32) (H : Heap) (locs : List Loc) (ls : Array Slot), va_P D vwCl [(aX, .inr (5, [.ref aB, .ref aP, .ref aI])), (aI, .inl (cP, 2, .inr (.inr (.inr (.inr fIm))))), (aB, .inr (0, [.ref aP, .ref aS, .ref aW, .int vSl])), (aW, .inl (cI, 256, .inl fWo)), (aP, .inr (3, [.int vMo, .int vSh, .ref aK, .ref aC, .ref aS])), (aK, .inr (2, [.int vKn, .ref aKd, .ref aKs])), (aKd, .inl (cI, 8, .inl fKd)), (aKs, .inl (cI, 8, .inl fKs)), (aC, .inr (1, [.int vCn, .ref aCd])), (aCd, .inl (cI, 12, .inl fCd)), (aS, .inr (4, [.int vVa, .int vCo, .int vBi, .int vPh, .ref aPr, .ref aHo, .ref aHe, .ref aSt, .ref aPb, .ref aPs])), (aPr, .inl (cI, 16, .inl fPr)), (aHo, .inl (cI, 16, .inl fHo)), (aHe, .inl (cI, 16, .inl fHe)), (aSt, .inl (cI, 16, .inl fSt)), (aPb, .inl (cI, 16, .inl fPb)), (aPs, .inl (cI, 16, .inl fPs))] H → va_D A [(aX, .inr (5, [.ref aB, .ref aP, .ref aI])), (aI, .inl (cP, 2, .inr (.inr (.inr (.inr fIm))))), (aB, .inr (0, [.ref aP, .ref aS, .ref aW, .int vSl])), (aW, .inl (cI, 256, .inl fWo)), (aP, .inr (3, [.int vMo, .int vSh, .ref aK, .ref aC, .ref aS])), (aK, .inr (2, [.int vKn, .ref aKd, .ref aKs])), (aKd, .inl (cI, 8, .inl fKd)), (aKs, .inl (cI, 8, .inl fKs)), (aC, .inr (1, [.int vCn, .ref aCd])), (aCd, .inl (cI, 12, .inl fCd)), (aS, .inr (4, [.int vVa, .int vCo, .int vBi, .int vPh, .ref aPr, .ref aHo, .ref aHe, .ref aSt, .ref aPb, .ref aPs])), (aPr, .inl (cI, 16, .inl fPr)), (aHo, .inl (cI, 16, .inl fHo)), (aHe, .inl (cI, 16, .inl fHe)), (aSt, .inl (cI, 16, .inl fSt)), (aPb, .inl (cI, 16, .inl fPb)), (aPs, .inl (cI, 16, .inl fPs))] → va_S A s.heap H locs → lv_has ls 3 [(0, .ref aX), (1, .int x1)] → fX5_mode_b12  x1 vMo vVa = some (r, oMo, oVa) → W p l e rX5_mode s m args below meth c H locs 0 0 Q (F0 m 12 ls []) := by
    intro x1 vMo vVa H locs ls hP hD hS hl h
    unfold fX5_mode_b12 at h
    refine lv_aload_n hx hb dX5_mode_12 rfl (lv_at hl 0 rfl) ?_
    refine va_get (D := D) (ci := 5) (v := .ref aP) (C := RX5) (T := TX5) (N := 3) hx hb hts i5 hown hK hP 0 rfl rfl 1 (by decide) (hts (.fieldLink RX5 20 RX5 "now" "LBidMosaic$Picture;") (List.mem_of_getElem? (i := 1) rfl)) (fun _ h9 => h9) rfl dX5_mode_13 ?_
    refine va_getN (D := D) (ci := 3) (v := .int vMo) (C := RX3) (T := TX3) (N := 5) hx hb hts i3 hown hK hP 4 rfl rfl 0 (by decide) (hN.f (a := RX5) (i := 29) (b := RX3) (n := "mode") (d := "I") (h := RX5) (nx_mem (i := 118) (by decide +kernel) rfl)) (fun _ h9 => h9) rfl dX5_mode_16 ?_
    refine lv_istore_n (lv' := [(2, .int vMo), (0, .ref aX), (1, .int x1)]) hx hb dX5_mode_19 rfl hl (by decide) rfl (fun ls hl => ?_)
    refine lv_iload_n hx hb dX5_mode_20 rfl (lv_at hl 2 rfl) ?_
    refine lv_iload_n hx hb dX5_mode_21 rfl (lv_at hl 0 rfl) ?_
    refine lv_icmp_eq (tgt := 44) hx hb dX5_mode_22 (by decide) (fun c1 => ?_) (fun c1 => ?_)
    · have h := (if_pos c1).symm.trans h
      refine lv_iload_n hx hb dX5_mode_44 rfl (lv_at hl 0 rfl) ?_
      exact hret vMo vMo vVa 45 ls H locs rfl dX5_mode_45 hP hD hS h
    · have h := (if_neg c1).symm.trans h
      refine lv_aload_n hx hb dX5_mode_25 rfl (lv_at hl 1 rfl) ?_
      refine va_get (D := D) (ci := 5) (v := .ref aP) (C := RX5) (T := TX5) (N := 3) hx hb hts i5 hown hK hP 0 rfl rfl 1 (by decide) (hts (.fieldLink RX5 20 RX5 "now" "LBidMosaic$Picture;") (List.mem_of_getElem? (i := 1) rfl)) (fun _ h9 => h9) rfl dX5_mode_26 ?_
      refine lv_iload_n hx hb dX5_mode_29 rfl (lv_at hl 2 rfl) ?_
      refine va_putN (D := D) (ci := 3) (v := .int x1) (ty := .int) (C := RX3) (T := TX3) (N := 5) hx hb hts i3 tyX3 tyX3_ok nmX3 hown hK hP hD hS 4 rfl rfl 0 (by decide) (hN.f (a := RX5) (i := 29) (b := RX3) (n := "mode") (d := "I") (h := RX5) (nx_mem (i := 118) (by decide +kernel) rfl)) (fun _ h9 => h9) rfl (by decide +kernel) rfl rfl (Nat.le_of_ble_eq_true rfl) dX5_mode_30 (fun H locs hP hD hS => ?_)
      have hP : va_P D vwCl [(aX, .inr (5, [.ref aB, .ref aP, .ref aI])), (aI, .inl (cP, 2, .inr (.inr (.inr (.inr fIm))))), (aB, .inr (0, [.ref aP, .ref aS, .ref aW, .int vSl])), (aW, .inl (cI, 256, .inl fWo)), (aP, .inr (3, [.int x1, .int vSh, .ref aK, .ref aC, .ref aS])), (aK, .inr (2, [.int vKn, .ref aKd, .ref aKs])), (aKd, .inl (cI, 8, .inl fKd)), (aKs, .inl (cI, 8, .inl fKs)), (aC, .inr (1, [.int vCn, .ref aCd])), (aCd, .inl (cI, 12, .inl fCd)), (aS, .inr (4, [.int vVa, .int vCo, .int vBi, .int vPh, .ref aPr, .ref aHo, .ref aHe, .ref aSt, .ref aPb, .ref aPs])), (aPr, .inl (cI, 16, .inl fPr)), (aHo, .inl (cI, 16, .inl fHo)), (aHe, .inl (cI, 16, .inl fHe)), (aSt, .inl (cI, 16, .inl fSt)), (aPb, .inl (cI, 16, .inl fPb)), (aPs, .inl (cI, 16, .inl fPs))] H := hP
      have hD : va_D A [(aX, .inr (5, [.ref aB, .ref aP, .ref aI])), (aI, .inl (cP, 2, .inr (.inr (.inr (.inr fIm))))), (aB, .inr (0, [.ref aP, .ref aS, .ref aW, .int vSl])), (aW, .inl (cI, 256, .inl fWo)), (aP, .inr (3, [.int x1, .int vSh, .ref aK, .ref aC, .ref aS])), (aK, .inr (2, [.int vKn, .ref aKd, .ref aKs])), (aKd, .inl (cI, 8, .inl fKd)), (aKs, .inl (cI, 8, .inl fKs)), (aC, .inr (1, [.int vCn, .ref aCd])), (aCd, .inl (cI, 12, .inl fCd)), (aS, .inr (4, [.int vVa, .int vCo, .int vBi, .int vPh, .ref aPr, .ref aHo, .ref aHe, .ref aSt, .ref aPb, .ref aPs])), (aPr, .inl (cI, 16, .inl fPr)), (aHo, .inl (cI, 16, .inl fHo)), (aHe, .inl (cI, 16, .inl fHe)), (aSt, .inl (cI, 16, .inl fSt)), (aPb, .inl (cI, 16, .inl fPb)), (aPs, .inl (cI, 16, .inl fPs))] := hD
      refine lv_aload_n hx hb dX5_mode_33 rfl (lv_at hl 1 rfl) ?_
      refine va_get (D := D) (ci := 5) (v := .ref aP) (C := RX5) (T := TX5) (N := 3) hx hb hts i5 hown hK hP 0 rfl rfl 1 (by decide) (hts (.fieldLink RX5 20 RX5 "now" "LBidMosaic$Picture;") (List.mem_of_getElem? (i := 1) rfl)) (fun _ h9 => h9) rfl dX5_mode_34 ?_
      refine va_getN (D := D) (ci := 3) (v := .ref aS) (C := RX3) (T := TX3) (N := 5) hx hb hts i3 hown hK hP 4 rfl rfl 4 (by decide) (hN.f (a := RX5) (i := 33) (b := RX3) (n := "sale") (d := "LBidMosaic$Sale;") (h := RX5) (nx_mem (i := 130) (by decide +kernel) rfl)) (fun _ h9 => h9) rfl dX5_mode_37 ?_
      refine lv_iconst (v := (0 : Int32)) hx hb dX5_mode_40 (by decide) ?_
      refine va_putN (D := D) (ci := 4) (v := .int (0 : Int32)) (ty := .boolean) (C := RX4) (T := TX4) (N := 10) hx hb hts i4 tyX4 tyX4_ok nmX4 hown hK hP hD hS 10 rfl rfl 0 (by decide) (hN.f (a := RX5) (i := 37) (b := RX4) (n := "valid") (d := "Z") (h := RX5) (nx_mem (i := 76) (by decide +kernel) rfl)) (fun _ h9 => h9) rfl (by decide +kernel) rfl rfl (Nat.le_of_ble_eq_true rfl) dX5_mode_41 (fun H locs hP hD hS => ?_)
      have hP : va_P D vwCl [(aX, .inr (5, [.ref aB, .ref aP, .ref aI])), (aI, .inl (cP, 2, .inr (.inr (.inr (.inr fIm))))), (aB, .inr (0, [.ref aP, .ref aS, .ref aW, .int vSl])), (aW, .inl (cI, 256, .inl fWo)), (aP, .inr (3, [.int x1, .int vSh, .ref aK, .ref aC, .ref aS])), (aK, .inr (2, [.int vKn, .ref aKd, .ref aKs])), (aKd, .inl (cI, 8, .inl fKd)), (aKs, .inl (cI, 8, .inl fKs)), (aC, .inr (1, [.int vCn, .ref aCd])), (aCd, .inl (cI, 12, .inl fCd)), (aS, .inr (4, [.int (0 : Int32), .int vCo, .int vBi, .int vPh, .ref aPr, .ref aHo, .ref aHe, .ref aSt, .ref aPb, .ref aPs])), (aPr, .inl (cI, 16, .inl fPr)), (aHo, .inl (cI, 16, .inl fHo)), (aHe, .inl (cI, 16, .inl fHe)), (aSt, .inl (cI, 16, .inl fSt)), (aPb, .inl (cI, 16, .inl fPb)), (aPs, .inl (cI, 16, .inl fPs))] H := hP
      have hD : va_D A [(aX, .inr (5, [.ref aB, .ref aP, .ref aI])), (aI, .inl (cP, 2, .inr (.inr (.inr (.inr fIm))))), (aB, .inr (0, [.ref aP, .ref aS, .ref aW, .int vSl])), (aW, .inl (cI, 256, .inl fWo)), (aP, .inr (3, [.int x1, .int vSh, .ref aK, .ref aC, .ref aS])), (aK, .inr (2, [.int vKn, .ref aKd, .ref aKs])), (aKd, .inl (cI, 8, .inl fKd)), (aKs, .inl (cI, 8, .inl fKs)), (aC, .inr (1, [.int vCn, .ref aCd])), (aCd, .inl (cI, 12, .inl fCd)), (aS, .inr (4, [.int (0 : Int32), .int vCo, .int vBi, .int vPh, .ref aPr, .ref aHo, .ref aHe, .ref aSt, .ref aPb, .ref aPs])), (aPr, .inl (cI, 16, .inl fPr)), (aHo, .inl (cI, 16, .inl fHo)), (aHe, .inl (cI, 16, .inl fHe)), (aSt, .inl (cI, 16, .inl fSt)), (aPb, .inl (cI, 16, .inl fPb)), (aPs, .inl (cI, 16, .inl fPs))] := hD
      refine lv_iload_n hx hb dX5_mode_44 rfl (lv_at hl 0 rfl) ?_
      exact hret vMo x1 (0 : Int32) 45 ls H locs rfl dX5_mode_45 hP hD hS h
  unfold fX5_mode at h
  obtain ⟨H, hH⟩ : ∃ H, H = s.heap := ⟨_, rfl⟩
  have hP : va_P D vwCl [(aX, .inr (5, [.ref aB, .ref aP, .ref aI])), (aI, .inl (cP, 2, .inr (.inr (.inr (.inr fIm))))), (aB, .inr (0, [.ref aP, .ref aS, .ref aW, .int vSl])), (aW, .inl (cI, 256, .inl fWo)), (aP, .inr (3, [.int vMo, .int vSh, .ref aK, .ref aC, .ref aS])), (aK, .inr (2, [.int vKn, .ref aKd, .ref aKs])), (aKd, .inl (cI, 8, .inl fKd)), (aKs, .inl (cI, 8, .inl fKs)), (aC, .inr (1, [.int vCn, .ref aCd])), (aCd, .inl (cI, 12, .inl fCd)), (aS, .inr (4, [.int vVa, .int vCo, .int vBi, .int vPh, .ref aPr, .ref aHo, .ref aHe, .ref aSt, .ref aPb, .ref aPs])), (aPr, .inl (cI, 16, .inl fPr)), (aHo, .inl (cI, 16, .inl fHo)), (aHe, .inl (cI, 16, .inl fHe)), (aSt, .inl (cI, 16, .inl fSt)), (aPb, .inl (cI, 16, .inl fPb)), (aPs, .inl (cI, 16, .inl fPs))] H := by rw [hH]; exact hP
  obtain ⟨locs, hlocs⟩ : ∃ x : List Loc, x = [] := ⟨_, rfl⟩
  have hS : va_S A s.heap H locs := by rw [hH, hlocs]; exact hS
  suffices hgo : W p l e rX5_mode s m args below meth c H locs 0 0 Q (F0 m 0 ls []) by rw [hH, hlocs] at hgo; exact hgo
  refine lv_iload_n hx hb dX5_mode_0 rfl (lv_at hl 1 rfl) ?_
  refine lv_if_eq (tgt := 12) hx hb dX5_mode_1 (by decide) (fun c2 => ?_) (fun c2 => ?_)
  · have h := (if_pos c2).symm.trans h
    exact hb12 x1 vMo vVa H locs ls hP hD hS (lv_sub hl [0, 1] rfl) h
  · have h := (if_neg c2).symm.trans h
    refine lv_iload_n hx hb dX5_mode_4 rfl (lv_at hl 1 rfl) ?_
    refine lv_iconst (v := (1 : Int32)) hx hb dX5_mode_5 (by decide) ?_
    refine lv_icmp_eq (tgt := 12) hx hb dX5_mode_6 (by decide) (fun c3 => ?_) (fun c3 => ?_)
    · have h := (if_pos c3).symm.trans h
      exact hb12 x1 vMo vVa H locs ls hP hD hS (lv_sub hl [0, 1] rfl) h
    · have h := (if_neg c3).symm.trans h
      refine lv_bipush (v := (-2 : Int32)) hx hb dX5_mode_9 (by decide) ?_
      exact hret (-2 : Int32) vMo vVa 11 ls H locs rfl dX5_mode_11 hP hD hS h
def fX5_shrink (vSh : Int32) (x1 : Int32) : Option (Int32 × Int32) :=
  if x1 < (2 : Int32) then
    some ((-2 : Int32), vSh)
  else
    if x1 ≤ (9 : Int32) then
      some (vSh, x1)
    else
      some ((-2 : Int32), vSh)
abbrev rX5_shrink : Room := { frames := 0, cells := 0, slots := 0, locals := 0 }
set_option maxHeartbeats 4000000 in
set_option maxRecDepth 100000 in
theorem tX5_shrink {l : Launch} {D : va_G} {cI cZ cP : ClassId} (aX aI aB aW aP aK aKd aKs aC aCd aS aPr aHo aHe aSt aPb aPs : Nat) (fIm : Nat → Option Nat) (vSl : Int32) (fWo : Nat → Int32) (vMo : Int32) (vSh : Int32) (vKn : Int32) (fKd : Nat → Int32) (fKs : Nat → Int32) (vCn : Int32) (fCd : Nat → Int32) (vVa : Int32) (vCo : Int32) (vBi : Int32) (vPh : Int32) (fPr : Nat → Int32) (fHo : Nat → Int32) (fHe : Nat → Int32) (fSt : Nat → Int32) (fPb : Nat → Int32) (fPs : Nat → Int32) (x1 : Int32) (r : Int32) (oSh : Int32) (h : fX5_shrink vSh x1 = some (r, oSh)) : CtI l D cI cZ cP yX5_shrink wsX5_shrink rX5_shrink [.ref aX, .int x1] [(aX, .inr (5, [.ref aB, .ref aP, .ref aI])), (aI, .inl (cP, 2, .inr (.inr (.inr (.inr fIm))))), (aB, .inr (0, [.ref aP, .ref aS, .ref aW, .int vSl])), (aW, .inl (cI, 256, .inl fWo)), (aP, .inr (3, [.int vMo, .int vSh, .ref aK, .ref aC, .ref aS])), (aK, .inr (2, [.int vKn, .ref aKd, .ref aKs])), (aKd, .inl (cI, 8, .inl fKd)), (aKs, .inl (cI, 8, .inl fKs)), (aC, .inr (1, [.int vCn, .ref aCd])), (aCd, .inl (cI, 12, .inl fCd)), (aS, .inr (4, [.int vVa, .int vCo, .int vBi, .int vPh, .ref aPr, .ref aHo, .ref aHe, .ref aSt, .ref aPb, .ref aPs])), (aPr, .inl (cI, 16, .inl fPr)), (aHo, .inl (cI, 16, .inl fHo)), (aHe, .inl (cI, 16, .inl fHe)), (aSt, .inl (cI, 16, .inl fSt)), (aPb, .inl (cI, 16, .inl fPb)), (aPs, .inl (cI, 16, .inl fPs))] (fun _ : Unit => [(aX, .inr (5, [.ref aB, .ref aP, .ref aI])), (aI, .inl (cP, 2, .inr (.inr (.inr (.inr fIm))))), (aB, .inr (0, [.ref aP, .ref aS, .ref aW, .int vSl])), (aW, .inl (cI, 256, .inl fWo)), (aP, .inr (3, [.int vMo, .int oSh, .ref aK, .ref aC, .ref aS])), (aK, .inr (2, [.int vKn, .ref aKd, .ref aKs])), (aKd, .inl (cI, 8, .inl fKd)), (aKs, .inl (cI, 8, .inl fKs)), (aC, .inr (1, [.int vCn, .ref aCd])), (aCd, .inl (cI, 12, .inl fCd)), (aS, .inr (4, [.int vVa, .int vCo, .int vBi, .int vPh, .ref aPr, .ref aHo, .ref aHe, .ref aSt, .ref aPb, .ref aPs])), (aPr, .inl (cI, 16, .inl fPr)), (aHo, .inl (cI, 16, .inl fHo)), (aHe, .inl (cI, 16, .inl fHe)), (aSt, .inl (cI, 16, .inl fSt)), (aPb, .inl (cI, 16, .inl fPb)), (aPs, .inl (cI, 16, .inl fPs))]) r := by
  refine CtI.ofW (cc := cX5_shrink) (maxL := 3) (by decide) rfl (Nat.le_of_ble_eq_true rfl) (lv := [(0, .ref aX), (1, .int x1)]) rfl ?_
  intro p e s m args below meth c A Q ls hx hb hml hown hts hK hN hP hD hS hA hl hret0
  have hown : s.vm.findClass RX5 = some m.cls := hown
  have i3 : ∀ w ∈ wsX30, w ∈ wsX5_shrink := mem_ps [5, 6, 7, 8, 9] rfl
  have i5 : ∀ w ∈ wsX50, w ∈ wsX5_shrink := mem_ps [2, 3, 4] rfl
  have hret : ∀ (v : Int32) (zSh : Int32) (pc : Nat) (ls : Array Slot) (H : Heap) (locs : List Loc), narrow .int (.int v) = .int v → decode cX5_shrink pc = .ok (.ireturn, 1) → va_P D vwCl [(aX, .inr (5, [.ref aB, .ref aP, .ref aI])), (aI, .inl (cP, 2, .inr (.inr (.inr (.inr fIm))))), (aB, .inr (0, [.ref aP, .ref aS, .ref aW, .int vSl])), (aW, .inl (cI, 256, .inl fWo)), (aP, .inr (3, [.int vMo, .int zSh, .ref aK, .ref aC, .ref aS])), (aK, .inr (2, [.int vKn, .ref aKd, .ref aKs])), (aKd, .inl (cI, 8, .inl fKd)), (aKs, .inl (cI, 8, .inl fKs)), (aC, .inr (1, [.int vCn, .ref aCd])), (aCd, .inl (cI, 12, .inl fCd)), (aS, .inr (4, [.int vVa, .int vCo, .int vBi, .int vPh, .ref aPr, .ref aHo, .ref aHe, .ref aSt, .ref aPb, .ref aPs])), (aPr, .inl (cI, 16, .inl fPr)), (aHo, .inl (cI, 16, .inl fHo)), (aHe, .inl (cI, 16, .inl fHe)), (aSt, .inl (cI, 16, .inl fSt)), (aPb, .inl (cI, 16, .inl fPb)), (aPs, .inl (cI, 16, .inl fPs))] H → va_D A [(aX, .inr (5, [.ref aB, .ref aP, .ref aI])), (aI, .inl (cP, 2, .inr (.inr (.inr (.inr fIm))))), (aB, .inr (0, [.ref aP, .ref aS, .ref aW, .int vSl])), (aW, .inl (cI, 256, .inl fWo)), (aP, .inr (3, [.int vMo, .int zSh, .ref aK, .ref aC, .ref aS])), (aK, .inr (2, [.int vKn, .ref aKd, .ref aKs])), (aKd, .inl (cI, 8, .inl fKd)), (aKs, .inl (cI, 8, .inl fKs)), (aC, .inr (1, [.int vCn, .ref aCd])), (aCd, .inl (cI, 12, .inl fCd)), (aS, .inr (4, [.int vVa, .int vCo, .int vBi, .int vPh, .ref aPr, .ref aHo, .ref aHe, .ref aSt, .ref aPb, .ref aPs])), (aPr, .inl (cI, 16, .inl fPr)), (aHo, .inl (cI, 16, .inl fHo)), (aHe, .inl (cI, 16, .inl fHe)), (aSt, .inl (cI, 16, .inl fSt)), (aPb, .inl (cI, 16, .inl fPb)), (aPs, .inl (cI, 16, .inl fPs))] → va_S A s.heap H locs → some (v, zSh) = some (r, oSh) → W p l e rX5_shrink s m args below meth c H locs 0 0 Q (F0 m pc ls [.int v]) := by
    intro v zSh pc ls H locs hn hd hP hD hS h
    cases h
    exact hret0 pc ls H locs () hn hd hP hD hS
  clear hret0
  unfold fX5_shrink at h
  obtain ⟨H, hH⟩ : ∃ H, H = s.heap := ⟨_, rfl⟩
  have hP : va_P D vwCl [(aX, .inr (5, [.ref aB, .ref aP, .ref aI])), (aI, .inl (cP, 2, .inr (.inr (.inr (.inr fIm))))), (aB, .inr (0, [.ref aP, .ref aS, .ref aW, .int vSl])), (aW, .inl (cI, 256, .inl fWo)), (aP, .inr (3, [.int vMo, .int vSh, .ref aK, .ref aC, .ref aS])), (aK, .inr (2, [.int vKn, .ref aKd, .ref aKs])), (aKd, .inl (cI, 8, .inl fKd)), (aKs, .inl (cI, 8, .inl fKs)), (aC, .inr (1, [.int vCn, .ref aCd])), (aCd, .inl (cI, 12, .inl fCd)), (aS, .inr (4, [.int vVa, .int vCo, .int vBi, .int vPh, .ref aPr, .ref aHo, .ref aHe, .ref aSt, .ref aPb, .ref aPs])), (aPr, .inl (cI, 16, .inl fPr)), (aHo, .inl (cI, 16, .inl fHo)), (aHe, .inl (cI, 16, .inl fHe)), (aSt, .inl (cI, 16, .inl fSt)), (aPb, .inl (cI, 16, .inl fPb)), (aPs, .inl (cI, 16, .inl fPs))] H := by rw [hH]; exact hP
  obtain ⟨locs, hlocs⟩ : ∃ x : List Loc, x = [] := ⟨_, rfl⟩
  have hS : va_S A s.heap H locs := by rw [hH, hlocs]; exact hS
  suffices hgo : W p l e rX5_shrink s m args below meth c H locs 0 0 Q (F0 m 0 ls []) by rw [hH, hlocs] at hgo; exact hgo
  refine lv_iload_n hx hb dX5_shrink_0 rfl (lv_at hl 1 rfl) ?_
  refine lv_iconst (v := (2 : Int32)) hx hb dX5_shrink_1 (by decide) ?_
  refine lv_icmp_lt (tgt := 11) hx hb dX5_shrink_2 (by decide) (fun c1 => ?_) (fun c1 => ?_)
  · have h := (if_pos c1).symm.trans h
    refine lv_bipush (v := (-2 : Int32)) hx hb dX5_shrink_11 (by decide) ?_
    exact hret (-2 : Int32) vSh 13 ls H locs rfl dX5_shrink_13 hP hD hS h
  · have h := (if_neg c1).symm.trans h
    refine lv_iload_n hx hb dX5_shrink_5 rfl (lv_at hl 1 rfl) ?_
    refine lv_bipush (v := (9 : Int32)) hx hb dX5_shrink_6 (by decide) ?_
    refine lv_icmp_le (tgt := 14) hx hb dX5_shrink_8 (by decide) (fun c2 => ?_) (fun c2 => ?_)
    · have h := (if_pos c2).symm.trans h
      refine lv_aload_n hx hb dX5_shrink_14 rfl (lv_at hl 0 rfl) ?_
      refine va_get (D := D) (ci := 5) (v := .ref aP) (C := RX5) (T := TX5) (N := 3) hx hb hts i5 hown hK hP 0 rfl rfl 1 (by decide) (hts (.fieldLink RX5 20 RX5 "now" "LBidMosaic$Picture;") (List.mem_of_getElem? (i := 1) rfl)) (fun _ h9 => h9) rfl dX5_shrink_15 ?_
      refine va_getN (D := D) (ci := 3) (v := .int vSh) (C := RX3) (T := TX3) (N := 5) hx hb hts i3 hown hK hP 4 rfl rfl 1 (by decide) (hN.f (a := RX5) (i := 43) (b := RX3) (n := "shrink") (d := "I") (h := RX5) (nx_mem (i := 120) (by decide +kernel) rfl)) (fun _ h9 => h9) rfl dX5_shrink_18 ?_
      refine lv_istore_n (lv' := [(2, .int vSh), (0, .ref aX), (1, .int x1)]) hx hb dX5_shrink_21 rfl hl (by decide) rfl (fun ls hl => ?_)
      refine lv_aload_n hx hb dX5_shrink_22 rfl (lv_at hl 1 rfl) ?_
      refine va_get (D := D) (ci := 5) (v := .ref aP) (C := RX5) (T := TX5) (N := 3) hx hb hts i5 hown hK hP 0 rfl rfl 1 (by decide) (hts (.fieldLink RX5 20 RX5 "now" "LBidMosaic$Picture;") (List.mem_of_getElem? (i := 1) rfl)) (fun _ h9 => h9) rfl dX5_shrink_23 ?_
      refine lv_iload_n hx hb dX5_shrink_26 rfl (lv_at hl 2 rfl) ?_
      refine va_putN (D := D) (ci := 3) (v := .int x1) (ty := .int) (C := RX3) (T := TX3) (N := 5) hx hb hts i3 tyX3 tyX3_ok nmX3 hown hK hP hD hS 4 rfl rfl 1 (by decide) (hN.f (a := RX5) (i := 43) (b := RX3) (n := "shrink") (d := "I") (h := RX5) (nx_mem (i := 120) (by decide +kernel) rfl)) (fun _ h9 => h9) rfl (by decide +kernel) rfl rfl (Nat.le_of_ble_eq_true rfl) dX5_shrink_27 (fun H locs hP hD hS => ?_)
      have hP : va_P D vwCl [(aX, .inr (5, [.ref aB, .ref aP, .ref aI])), (aI, .inl (cP, 2, .inr (.inr (.inr (.inr fIm))))), (aB, .inr (0, [.ref aP, .ref aS, .ref aW, .int vSl])), (aW, .inl (cI, 256, .inl fWo)), (aP, .inr (3, [.int vMo, .int x1, .ref aK, .ref aC, .ref aS])), (aK, .inr (2, [.int vKn, .ref aKd, .ref aKs])), (aKd, .inl (cI, 8, .inl fKd)), (aKs, .inl (cI, 8, .inl fKs)), (aC, .inr (1, [.int vCn, .ref aCd])), (aCd, .inl (cI, 12, .inl fCd)), (aS, .inr (4, [.int vVa, .int vCo, .int vBi, .int vPh, .ref aPr, .ref aHo, .ref aHe, .ref aSt, .ref aPb, .ref aPs])), (aPr, .inl (cI, 16, .inl fPr)), (aHo, .inl (cI, 16, .inl fHo)), (aHe, .inl (cI, 16, .inl fHe)), (aSt, .inl (cI, 16, .inl fSt)), (aPb, .inl (cI, 16, .inl fPb)), (aPs, .inl (cI, 16, .inl fPs))] H := hP
      have hD : va_D A [(aX, .inr (5, [.ref aB, .ref aP, .ref aI])), (aI, .inl (cP, 2, .inr (.inr (.inr (.inr fIm))))), (aB, .inr (0, [.ref aP, .ref aS, .ref aW, .int vSl])), (aW, .inl (cI, 256, .inl fWo)), (aP, .inr (3, [.int vMo, .int x1, .ref aK, .ref aC, .ref aS])), (aK, .inr (2, [.int vKn, .ref aKd, .ref aKs])), (aKd, .inl (cI, 8, .inl fKd)), (aKs, .inl (cI, 8, .inl fKs)), (aC, .inr (1, [.int vCn, .ref aCd])), (aCd, .inl (cI, 12, .inl fCd)), (aS, .inr (4, [.int vVa, .int vCo, .int vBi, .int vPh, .ref aPr, .ref aHo, .ref aHe, .ref aSt, .ref aPb, .ref aPs])), (aPr, .inl (cI, 16, .inl fPr)), (aHo, .inl (cI, 16, .inl fHo)), (aHe, .inl (cI, 16, .inl fHe)), (aSt, .inl (cI, 16, .inl fSt)), (aPb, .inl (cI, 16, .inl fPb)), (aPs, .inl (cI, 16, .inl fPs))] := hD
      refine lv_iload_n hx hb dX5_shrink_30 rfl (lv_at hl 0 rfl) ?_
      exact hret vSh x1 31 ls H locs rfl dX5_shrink_31 hP hD hS h
    · have h := (if_neg c2).symm.trans h
      refine lv_bipush (v := (-2 : Int32)) hx hb dX5_shrink_11 (by decide) ?_
      exact hret (-2 : Int32) vSh 13 ls H locs rfl dX5_shrink_13 hP hD hS h
def fX5_stock (vKn : Int32) (fKd : Nat → Int32) (fKs : Nat → Int32) (vVa : Int32) (x1 : Int32) (x2 : Int32) : Option (Int32 × Int32 × (Nat → Int32) × (Nat → Int32) × Int32) :=
  bd1 (fX5_areDots x1) fun r_1 =>
  if r_1 = 0 then
    some ((-2 : Int32), vKn, fKd, fKs, vVa)
  else
    if x2 < (1 : Int32) then
      some ((-2 : Int32), vKn, fKd, fKs, vVa)
    else
      if x2 ≤ (4 : Int32) then
        bd1 (fX2_hasRoom vKn fKd fKs x1 x2) fun r_29 =>
        if r_29 = 0 then
          some ((-4 : Int32), vKn, fKd, fKs, vVa)
        else
          bd4 (fX2_add vKn fKd fKs x1 x2) fun r_58 vKn_58 fKd_58 fKs_58 =>
          some (r_58, vKn_58, fKd_58, fKs_58, (0 : Int32))
      else
        some ((-2 : Int32), vKn, fKd, fKs, vVa)
abbrev rX5_stock : Room := { frames := 3, cells := 0, slots := 0, locals := 67 }
set_option maxHeartbeats 4000000 in
set_option maxRecDepth 100000 in
theorem tX5_stock {l : Launch} {D : va_G} {cI cZ cP : ClassId} (aX aI aB aW aP aK aKd aKs aC aCd aS aPr aHo aHe aSt aPb aPs : Nat) (fIm : Nat → Option Nat) (vSl : Int32) (fWo : Nat → Int32) (vMo : Int32) (vSh : Int32) (vKn : Int32) (fKd : Nat → Int32) (fKs : Nat → Int32) (vCn : Int32) (fCd : Nat → Int32) (vVa : Int32) (vCo : Int32) (vBi : Int32) (vPh : Int32) (fPr : Nat → Int32) (fHo : Nat → Int32) (fHe : Nat → Int32) (fSt : Nat → Int32) (fPb : Nat → Int32) (fPs : Nat → Int32) (x1 : Int32) (x2 : Int32) (r : Int32) (oKn : Int32) (oKd : Nat → Int32) (oKs : Nat → Int32) (oVa : Int32) (h : fX5_stock vKn fKd fKs vVa x1 x2 = some (r, oKn, oKd, oKs, oVa)) : CtI l D cI cZ cP yX5_stock wsX5_stock rX5_stock [.ref aX, .int x1, .int x2] [(aX, .inr (5, [.ref aB, .ref aP, .ref aI])), (aI, .inl (cP, 2, .inr (.inr (.inr (.inr fIm))))), (aB, .inr (0, [.ref aP, .ref aS, .ref aW, .int vSl])), (aW, .inl (cI, 256, .inl fWo)), (aP, .inr (3, [.int vMo, .int vSh, .ref aK, .ref aC, .ref aS])), (aK, .inr (2, [.int vKn, .ref aKd, .ref aKs])), (aKd, .inl (cI, 8, .inl fKd)), (aKs, .inl (cI, 8, .inl fKs)), (aC, .inr (1, [.int vCn, .ref aCd])), (aCd, .inl (cI, 12, .inl fCd)), (aS, .inr (4, [.int vVa, .int vCo, .int vBi, .int vPh, .ref aPr, .ref aHo, .ref aHe, .ref aSt, .ref aPb, .ref aPs])), (aPr, .inl (cI, 16, .inl fPr)), (aHo, .inl (cI, 16, .inl fHo)), (aHe, .inl (cI, 16, .inl fHe)), (aSt, .inl (cI, 16, .inl fSt)), (aPb, .inl (cI, 16, .inl fPb)), (aPs, .inl (cI, 16, .inl fPs))] (fun _ : Unit => [(aX, .inr (5, [.ref aB, .ref aP, .ref aI])), (aI, .inl (cP, 2, .inr (.inr (.inr (.inr fIm))))), (aB, .inr (0, [.ref aP, .ref aS, .ref aW, .int vSl])), (aW, .inl (cI, 256, .inl fWo)), (aP, .inr (3, [.int vMo, .int vSh, .ref aK, .ref aC, .ref aS])), (aK, .inr (2, [.int oKn, .ref aKd, .ref aKs])), (aKd, .inl (cI, 8, .inl oKd)), (aKs, .inl (cI, 8, .inl oKs)), (aC, .inr (1, [.int vCn, .ref aCd])), (aCd, .inl (cI, 12, .inl fCd)), (aS, .inr (4, [.int oVa, .int vCo, .int vBi, .int vPh, .ref aPr, .ref aHo, .ref aHe, .ref aSt, .ref aPb, .ref aPs])), (aPr, .inl (cI, 16, .inl fPr)), (aHo, .inl (cI, 16, .inl fHo)), (aHe, .inl (cI, 16, .inl fHe)), (aSt, .inl (cI, 16, .inl fSt)), (aPb, .inl (cI, 16, .inl fPb)), (aPs, .inl (cI, 16, .inl fPs))]) r := by
  refine CtI.ofW (cc := cX5_stock) (maxL := 3) (by decide) rfl (Nat.le_of_ble_eq_true rfl) (lv := [(0, .ref aX), (1, .int x1), (2, .int x2)]) rfl ?_
  intro p e s m args below meth c A Q ls hx hb hml hown hts hK hN hP hD hS hA hl hret0
  have hown : s.vm.findClass RX5 = some m.cls := hown
  have i2 : ∀ w ∈ wsX20, w ∈ wsX5_stock := mem_ps [50, 51, 52] rfl
  have i3 : ∀ w ∈ wsX30, w ∈ wsX5_stock := mem_ps [35, 36, 37, 38, 39] rfl
  have i4 : ∀ w ∈ wsX40, w ∈ wsX5_stock := mem_ps [40, 41, 42, 43, 44, 45, 46, 47, 48, 49] rfl
  have i5 : ∀ w ∈ wsX50, w ∈ wsX5_stock := mem_ps [32, 33, 34] rfl
  have hret : ∀ (v : Int32) (zKn : Int32) (zKd : Nat → Int32) (zKs : Nat → Int32) (zVa : Int32) (pc : Nat) (ls : Array Slot) (H : Heap) (locs : List Loc), narrow .int (.int v) = .int v → decode cX5_stock pc = .ok (.ireturn, 1) → va_P D vwCl [(aX, .inr (5, [.ref aB, .ref aP, .ref aI])), (aI, .inl (cP, 2, .inr (.inr (.inr (.inr fIm))))), (aB, .inr (0, [.ref aP, .ref aS, .ref aW, .int vSl])), (aW, .inl (cI, 256, .inl fWo)), (aP, .inr (3, [.int vMo, .int vSh, .ref aK, .ref aC, .ref aS])), (aK, .inr (2, [.int zKn, .ref aKd, .ref aKs])), (aKd, .inl (cI, 8, .inl zKd)), (aKs, .inl (cI, 8, .inl zKs)), (aC, .inr (1, [.int vCn, .ref aCd])), (aCd, .inl (cI, 12, .inl fCd)), (aS, .inr (4, [.int zVa, .int vCo, .int vBi, .int vPh, .ref aPr, .ref aHo, .ref aHe, .ref aSt, .ref aPb, .ref aPs])), (aPr, .inl (cI, 16, .inl fPr)), (aHo, .inl (cI, 16, .inl fHo)), (aHe, .inl (cI, 16, .inl fHe)), (aSt, .inl (cI, 16, .inl fSt)), (aPb, .inl (cI, 16, .inl fPb)), (aPs, .inl (cI, 16, .inl fPs))] H → va_D A [(aX, .inr (5, [.ref aB, .ref aP, .ref aI])), (aI, .inl (cP, 2, .inr (.inr (.inr (.inr fIm))))), (aB, .inr (0, [.ref aP, .ref aS, .ref aW, .int vSl])), (aW, .inl (cI, 256, .inl fWo)), (aP, .inr (3, [.int vMo, .int vSh, .ref aK, .ref aC, .ref aS])), (aK, .inr (2, [.int zKn, .ref aKd, .ref aKs])), (aKd, .inl (cI, 8, .inl zKd)), (aKs, .inl (cI, 8, .inl zKs)), (aC, .inr (1, [.int vCn, .ref aCd])), (aCd, .inl (cI, 12, .inl fCd)), (aS, .inr (4, [.int zVa, .int vCo, .int vBi, .int vPh, .ref aPr, .ref aHo, .ref aHe, .ref aSt, .ref aPb, .ref aPs])), (aPr, .inl (cI, 16, .inl fPr)), (aHo, .inl (cI, 16, .inl fHo)), (aHe, .inl (cI, 16, .inl fHe)), (aSt, .inl (cI, 16, .inl fSt)), (aPb, .inl (cI, 16, .inl fPb)), (aPs, .inl (cI, 16, .inl fPs))] → va_S A s.heap H locs → some (v, zKn, zKd, zKs, zVa) = some (r, oKn, oKd, oKs, oVa) → W p l e rX5_stock s m args below meth c H locs 0 0 Q (F0 m pc ls [.int v]) := by
    intro v zKn zKd zKs zVa pc ls H locs hn hd hP hD hS h
    cases h
    exact hret0 pc ls H locs () hn hd hP hD hS
  clear hret0
  unfold fX5_stock at h
  obtain ⟨H, hH⟩ : ∃ H, H = s.heap := ⟨_, rfl⟩
  have hP : va_P D vwCl [(aX, .inr (5, [.ref aB, .ref aP, .ref aI])), (aI, .inl (cP, 2, .inr (.inr (.inr (.inr fIm))))), (aB, .inr (0, [.ref aP, .ref aS, .ref aW, .int vSl])), (aW, .inl (cI, 256, .inl fWo)), (aP, .inr (3, [.int vMo, .int vSh, .ref aK, .ref aC, .ref aS])), (aK, .inr (2, [.int vKn, .ref aKd, .ref aKs])), (aKd, .inl (cI, 8, .inl fKd)), (aKs, .inl (cI, 8, .inl fKs)), (aC, .inr (1, [.int vCn, .ref aCd])), (aCd, .inl (cI, 12, .inl fCd)), (aS, .inr (4, [.int vVa, .int vCo, .int vBi, .int vPh, .ref aPr, .ref aHo, .ref aHe, .ref aSt, .ref aPb, .ref aPs])), (aPr, .inl (cI, 16, .inl fPr)), (aHo, .inl (cI, 16, .inl fHo)), (aHe, .inl (cI, 16, .inl fHe)), (aSt, .inl (cI, 16, .inl fSt)), (aPb, .inl (cI, 16, .inl fPb)), (aPs, .inl (cI, 16, .inl fPs))] H := by rw [hH]; exact hP
  obtain ⟨locs, hlocs⟩ : ∃ x : List Loc, x = [] := ⟨_, rfl⟩
  have hS : va_S A s.heap H locs := by rw [hH, hlocs]; exact hS
  suffices hgo : W p l e rX5_stock s m args below meth c H locs 0 0 Q (F0 m 0 ls []) by rw [hH, hlocs] at hgo; exact hgo
  refine lv_iload_n hx hb dX5_stock_0 rfl (lv_at hl 1 rfl) ?_
  obtain ⟨r_1, q_1, h⟩ := bd1_some h
  refine fr_ro_i (S := Unit) (wc := []) (fr_S (As := [.int x1]) (rest := []) ⟨hx, hb, hml, hown, hts⟩ (tX5_areDots x1 r_1 q_1) gX5_stock_X5_areDots rfl (fr_pre (As := [.int x1]) (wc := []) hK hN hP hD [] (by decide) rfl) (n := 1) (by decide +kernel) ⟨Nat.le_of_ble_eq_true rfl, Nat.le_of_ble_eq_true rfl⟩ rfl hl.1 rfl (Nat.le_of_ble_eq_true rfl) dX5_stock_1 ⟨Nat.zero_le _, Nat.zero_le _⟩) hP hD hS hA [] rfl (c2 := 0) (s2 := 0) rfl rfl (fun H locs hP hS => ?_)
  refine lv_if_eq (tgt := 17) hx hb dX5_stock_4 (by decide) (fun c1 => ?_) (fun c1 => ?_)
  · have h := (if_pos c1).symm.trans h
    refine lv_bipush (v := (-2 : Int32)) hx hb dX5_stock_17 (by decide) ?_
    exact hret (-2 : Int32) vKn fKd fKs vVa 19 ls H locs rfl dX5_stock_19 hP hD hS h
  · have h := (if_neg c1).symm.trans h
    refine lv_iload_n hx hb dX5_stock_7 rfl (lv_at hl 2 rfl) ?_
    refine lv_iconst (v := (1 : Int32)) hx hb dX5_stock_8 (by decide) ?_
    refine lv_icmp_lt (tgt := 17) hx hb dX5_stock_9 (by decide) (fun c2 => ?_) (fun c2 => ?_)
    · have h := (if_pos c2).symm.trans h
      refine lv_bipush (v := (-2 : Int32)) hx hb dX5_stock_17 (by decide) ?_
      exact hret (-2 : Int32) vKn fKd fKs vVa 19 ls H locs rfl dX5_stock_19 hP hD hS h
    · have h := (if_neg c2).symm.trans h
      refine lv_iload_n hx hb dX5_stock_12 rfl (lv_at hl 2 rfl) ?_
      refine lv_iconst (v := (4 : Int32)) hx hb dX5_stock_13 (by decide) ?_
      refine lv_icmp_le (tgt := 20) hx hb dX5_stock_14 (by decide) (fun c3 => ?_) (fun c3 => ?_)
      · have h := (if_pos c3).symm.trans h
        refine lv_aload_n hx hb dX5_stock_20 rfl (lv_at hl 0 rfl) ?_
        refine va_get (D := D) (ci := 5) (v := .ref aP) (C := RX5) (T := TX5) (N := 3) hx hb hts i5 hown hK hP 0 rfl rfl 1 (by decide) (hts (.fieldLink RX5 20 RX5 "now" "LBidMosaic$Picture;") (List.mem_of_getElem? (i := 1) rfl)) (fun _ h9 => h9) rfl dX5_stock_21 ?_
        refine va_getN (D := D) (ci := 3) (v := .ref aK) (C := RX3) (T := TX3) (N := 5) hx hb hts i3 hown hK hP 4 rfl rfl 2 (by decide) (hN.f (a := RX5) (i := 50) (b := RX3) (n := "kinds") (d := "LBidMosaic$Kinds;") (h := RX5) (nx_mem (i := 124) (by decide +kernel) rfl)) (fun _ h9 => h9) rfl dX5_stock_24 ?_
        refine lv_iload_n hx hb dX5_stock_27 rfl (lv_at hl 1 rfl) ?_
        refine lv_iload_n hx hb dX5_stock_28 rfl (lv_at hl 2 rfl) ?_
        obtain ⟨r_29, q_29, h⟩ := bd1_some h
        refine fr_ro_i (S := Unit) (wc := [(aK, .inr (2, [.int vKn, .ref aKd, .ref aKs])), (aKd, .inl (cI, 8, .inl fKd)), (aKs, .inl (cI, 8, .inl fKs))]) (fr_VN (As := [.int x1, .int x2]) (rest := []) (own := RX5) (host := RX5) (C := RX2) ⟨hx, hb, hml, hown, hts⟩ hN (tX2_hasRoom aK aKd aKs vKn fKd fKs x1 x2 r_29 q_29) gX5_stock_X2_hasRoom_n54 rfl (nx_mem (i := 183) (by decide +kernel) rfl) (List.mem_of_getElem? (i := 7) rfl) (List.mem_of_getElem? (i := 6) rfl) (List.mem_of_getElem? (i := 8) rfl) (fr_preV (As := [.int x1, .int x2]) (b := aK) (ci := 2) (q0 := 5) (wc := [(aK, .inr (2, [.int vKn, .ref aKd, .ref aKs])), (aKd, .inl (cI, 8, .inl fKd)), (aKs, .inl (cI, 8, .inl fKs))]) hK hN hP hD [5, 6, 7] (by decide) rfl rfl rfl) (n := 2) (by decide +kernel) ⟨Nat.le_of_ble_eq_true rfl, Nat.le_of_ble_eq_true rfl⟩ rfl hl.1 rfl (Nat.le_of_ble_eq_true rfl) dX5_stock_29 ⟨Nat.zero_le _, Nat.zero_le _⟩) hP hD hS hA [5, 6, 7] rfl (c2 := 0) (s2 := 0) rfl rfl (fun H locs hP hS => ?_)
        refine lv_if_ne (tgt := 38) hx hb dX5_stock_32 (by decide) (fun c4 => ?_) (fun c4 => ?_)
        · have h := (if_neg c4).symm.trans h
          refine lv_aload_n hx hb dX5_stock_38 rfl (lv_at hl 0 rfl) ?_
          refine va_get (D := D) (ci := 5) (v := .ref aP) (C := RX5) (T := TX5) (N := 3) hx hb hts i5 hown hK hP 0 rfl rfl 1 (by decide) (hts (.fieldLink RX5 20 RX5 "now" "LBidMosaic$Picture;") (List.mem_of_getElem? (i := 1) rfl)) (fun _ h9 => h9) rfl dX5_stock_39 ?_
          refine va_getN (D := D) (ci := 3) (v := .ref aS) (C := RX3) (T := TX3) (N := 5) hx hb hts i3 hown hK hP 4 rfl rfl 4 (by decide) (hN.f (a := RX5) (i := 33) (b := RX3) (n := "sale") (d := "LBidMosaic$Sale;") (h := RX5) (nx_mem (i := 130) (by decide +kernel) rfl)) (fun _ h9 => h9) rfl dX5_stock_42 ?_
          refine lv_iconst (v := (0 : Int32)) hx hb dX5_stock_45 (by decide) ?_
          refine va_putN (D := D) (ci := 4) (v := .int (0 : Int32)) (ty := .boolean) (C := RX4) (T := TX4) (N := 10) hx hb hts i4 tyX4 tyX4_ok nmX4 hown hK hP hD hS 10 rfl rfl 0 (by decide) (hN.f (a := RX5) (i := 37) (b := RX4) (n := "valid") (d := "Z") (h := RX5) (nx_mem (i := 76) (by decide +kernel) rfl)) (fun _ h9 => h9) rfl (by decide +kernel) rfl rfl (Nat.le_of_ble_eq_true rfl) dX5_stock_46 (fun H locs hP hD hS => ?_)
          have hP : va_P D vwCl [(aX, .inr (5, [.ref aB, .ref aP, .ref aI])), (aI, .inl (cP, 2, .inr (.inr (.inr (.inr fIm))))), (aB, .inr (0, [.ref aP, .ref aS, .ref aW, .int vSl])), (aW, .inl (cI, 256, .inl fWo)), (aP, .inr (3, [.int vMo, .int vSh, .ref aK, .ref aC, .ref aS])), (aK, .inr (2, [.int vKn, .ref aKd, .ref aKs])), (aKd, .inl (cI, 8, .inl fKd)), (aKs, .inl (cI, 8, .inl fKs)), (aC, .inr (1, [.int vCn, .ref aCd])), (aCd, .inl (cI, 12, .inl fCd)), (aS, .inr (4, [.int (0 : Int32), .int vCo, .int vBi, .int vPh, .ref aPr, .ref aHo, .ref aHe, .ref aSt, .ref aPb, .ref aPs])), (aPr, .inl (cI, 16, .inl fPr)), (aHo, .inl (cI, 16, .inl fHo)), (aHe, .inl (cI, 16, .inl fHe)), (aSt, .inl (cI, 16, .inl fSt)), (aPb, .inl (cI, 16, .inl fPb)), (aPs, .inl (cI, 16, .inl fPs))] H := hP
          have hD : va_D A [(aX, .inr (5, [.ref aB, .ref aP, .ref aI])), (aI, .inl (cP, 2, .inr (.inr (.inr (.inr fIm))))), (aB, .inr (0, [.ref aP, .ref aS, .ref aW, .int vSl])), (aW, .inl (cI, 256, .inl fWo)), (aP, .inr (3, [.int vMo, .int vSh, .ref aK, .ref aC, .ref aS])), (aK, .inr (2, [.int vKn, .ref aKd, .ref aKs])), (aKd, .inl (cI, 8, .inl fKd)), (aKs, .inl (cI, 8, .inl fKs)), (aC, .inr (1, [.int vCn, .ref aCd])), (aCd, .inl (cI, 12, .inl fCd)), (aS, .inr (4, [.int (0 : Int32), .int vCo, .int vBi, .int vPh, .ref aPr, .ref aHo, .ref aHe, .ref aSt, .ref aPb, .ref aPs])), (aPr, .inl (cI, 16, .inl fPr)), (aHo, .inl (cI, 16, .inl fHo)), (aHe, .inl (cI, 16, .inl fHe)), (aSt, .inl (cI, 16, .inl fSt)), (aPb, .inl (cI, 16, .inl fPb)), (aPs, .inl (cI, 16, .inl fPs))] := hD
          refine lv_aload_n hx hb dX5_stock_49 rfl (lv_at hl 0 rfl) ?_
          refine va_get (D := D) (ci := 5) (v := .ref aP) (C := RX5) (T := TX5) (N := 3) hx hb hts i5 hown hK hP 0 rfl rfl 1 (by decide) (hts (.fieldLink RX5 20 RX5 "now" "LBidMosaic$Picture;") (List.mem_of_getElem? (i := 1) rfl)) (fun _ h9 => h9) rfl dX5_stock_50 ?_
          refine va_getN (D := D) (ci := 3) (v := .ref aK) (C := RX3) (T := TX3) (N := 5) hx hb hts i3 hown hK hP 4 rfl rfl 2 (by decide) (hN.f (a := RX5) (i := 50) (b := RX3) (n := "kinds") (d := "LBidMosaic$Kinds;") (h := RX5) (nx_mem (i := 124) (by decide +kernel) rfl)) (fun _ h9 => h9) rfl dX5_stock_53 ?_
          refine lv_iload_n hx hb dX5_stock_56 rfl (lv_at hl 1 rfl) ?_
          refine lv_iload_n hx hb dX5_stock_57 rfl (lv_at hl 2 rfl) ?_
          obtain ⟨r_58, vKn_58, fKd_58, fKs_58, q_58, h⟩ := bd4_some h
          refine fr_rw_i (S := Unit) (wc := [(aK, .inr (2, [.int vKn, .ref aKd, .ref aKs])), (aKd, .inl (cI, 8, .inl fKd)), (aKs, .inl (cI, 8, .inl fKs))]) (wc' := fun _ => [(aK, .inr (2, [.int vKn_58, .ref aKd, .ref aKs])), (aKd, .inl (cI, 8, .inl fKd_58)), (aKs, .inl (cI, 8, .inl fKs_58))]) (wr := [(aX, .inr (5, [.ref aB, .ref aP, .ref aI])), (aI, .inl (cP, 2, .inr (.inr (.inr (.inr fIm))))), (aB, .inr (0, [.ref aP, .ref aS, .ref aW, .int vSl])), (aW, .inl (cI, 256, .inl fWo)), (aP, .inr (3, [.int vMo, .int vSh, .ref aK, .ref aC, .ref aS])), (aC, .inr (1, [.int vCn, .ref aCd])), (aCd, .inl (cI, 12, .inl fCd)), (aS, .inr (4, [.int (0 : Int32), .int vCo, .int vBi, .int vPh, .ref aPr, .ref aHo, .ref aHe, .ref aSt, .ref aPb, .ref aPs])), (aPr, .inl (cI, 16, .inl fPr)), (aHo, .inl (cI, 16, .inl fHo)), (aHe, .inl (cI, 16, .inl fHe)), (aSt, .inl (cI, 16, .inl fSt)), (aPb, .inl (cI, 16, .inl fPb)), (aPs, .inl (cI, 16, .inl fPs))]) (w2 := fun _ => [(aX, .inr (5, [.ref aB, .ref aP, .ref aI])), (aI, .inl (cP, 2, .inr (.inr (.inr (.inr fIm))))), (aB, .inr (0, [.ref aP, .ref aS, .ref aW, .int vSl])), (aW, .inl (cI, 256, .inl fWo)), (aP, .inr (3, [.int vMo, .int vSh, .ref aK, .ref aC, .ref aS])), (aK, .inr (2, [.int vKn_58, .ref aKd, .ref aKs])), (aKd, .inl (cI, 8, .inl fKd_58)), (aKs, .inl (cI, 8, .inl fKs_58)), (aC, .inr (1, [.int vCn, .ref aCd])), (aCd, .inl (cI, 12, .inl fCd)), (aS, .inr (4, [.int (0 : Int32), .int vCo, .int vBi, .int vPh, .ref aPr, .ref aHo, .ref aHe, .ref aSt, .ref aPb, .ref aPs])), (aPr, .inl (cI, 16, .inl fPr)), (aHo, .inl (cI, 16, .inl fHo)), (aHe, .inl (cI, 16, .inl fHe)), (aSt, .inl (cI, 16, .inl fSt)), (aPb, .inl (cI, 16, .inl fPb)), (aPs, .inl (cI, 16, .inl fPs))]) (fr_VN (As := [.int x1, .int x2]) (rest := []) (own := RX5) (host := RX5) (C := RX2) ⟨hx, hb, hml, hown, hts⟩ hN (tX2_add aK aKd aKs vKn fKd fKs x1 x2 r_58 vKn_58 fKd_58 fKs_58 q_58) gX5_stock_X2_add_n60 rfl (nx_mem (i := 203) (by decide +kernel) rfl) (List.mem_of_getElem? (i := 7) rfl) (List.mem_of_getElem? (i := 29) rfl) (List.mem_of_getElem? (i := 30) rfl) (fr_preV (As := [.int x1, .int x2]) (b := aK) (ci := 2) (q0 := 5) (wc := [(aK, .inr (2, [.int vKn, .ref aKd, .ref aKs])), (aKd, .inl (cI, 8, .inl fKd)), (aKs, .inl (cI, 8, .inl fKs))]) hK hN hP hD [5, 6, 7] (by decide) rfl rfl rfl) (n := 2) (by decide +kernel) ⟨Nat.le_of_ble_eq_true rfl, Nat.le_of_ble_eq_true rfl⟩ rfl hl.1 rfl (Nat.le_of_ble_eq_true rfl) dX5_stock_58 ⟨Nat.zero_le _, Nat.zero_le _⟩) hP hD hS hA [5, 6, 7] [0, 1, 2, 3, 4, 8, 9, 10, 11, 12, 13, 14, 15, 16] [0, 1, 2, 3, 4, 14, 15, 16, 5, 6, 7, 8, 9, 10, 11, 12, 13] rfl rfl (by decide) (by decide) (by decide) (fun _ => rfl) (c2 := 0) (s2 := 0) rfl rfl (fun _ H locs hP hD hS => ?_)
          exact hret r_58 vKn_58 fKd_58 fKs_58 (0 : Int32) 61 ls H locs rfl dX5_stock_61 hP hD hS h
        · have h := (if_pos c4).symm.trans h
          refine lv_bipush (v := (-4 : Int32)) hx hb dX5_stock_35 (by decide) ?_
          exact hret (-4 : Int32) vKn fKd fKs vVa 37 ls H locs rfl dX5_stock_37 hP hD hS h
      · have h := (if_neg c3).symm.trans h
        refine lv_bipush (v := (-2 : Int32)) hx hb dX5_stock_17 (by decide) ?_
        exact hret (-2 : Int32) vKn fKd fKs vVa 19 ls H locs rfl dX5_stock_19 hP hD hS h
def fX5_drop (vKn : Int32) (fKd : Nat → Int32) (fKs : Nat → Int32) (vVa : Int32) (x1 : Int32) : Option (Int32 × Int32 × (Nat → Int32) × (Nat → Int32) × Int32) :=
  bd1 (fX5_areDots x1) fun r_1 =>
  if r_1 = 0 then
    some ((-2 : Int32), vKn, fKd, fKs, vVa)
  else
    bd1 (fX2_numberOf vKn fKd x1) fun r_18 =>
    if r_18 = (-6 : Int32) then
      some ((-5 : Int32), vKn, fKd, fKs, vVa)
    else
      bd3 (fX2_takeOut vKn fKd fKs r_18) fun vKn_50 fKd_50 fKs_50 =>
      some (vKn_50, vKn_50, fKd_50, fKs_50, (0 : Int32))
abbrev rX5_drop : Room := { frames := 2, cells := 0, slots := 0, locals := 43 }
set_option maxHeartbeats 4000000 in
set_option maxRecDepth 100000 in
theorem tX5_drop {l : Launch} {D : va_G} {cI cZ cP : ClassId} (aX aI aB aW aP aK aKd aKs aC aCd aS aPr aHo aHe aSt aPb aPs : Nat) (fIm : Nat → Option Nat) (vSl : Int32) (fWo : Nat → Int32) (vMo : Int32) (vSh : Int32) (vKn : Int32) (fKd : Nat → Int32) (fKs : Nat → Int32) (vCn : Int32) (fCd : Nat → Int32) (vVa : Int32) (vCo : Int32) (vBi : Int32) (vPh : Int32) (fPr : Nat → Int32) (fHo : Nat → Int32) (fHe : Nat → Int32) (fSt : Nat → Int32) (fPb : Nat → Int32) (fPs : Nat → Int32) (x1 : Int32) (r : Int32) (oKn : Int32) (oKd : Nat → Int32) (oKs : Nat → Int32) (oVa : Int32) (h : fX5_drop vKn fKd fKs vVa x1 = some (r, oKn, oKd, oKs, oVa)) : CtI l D cI cZ cP yX5_drop wsX5_drop rX5_drop [.ref aX, .int x1] [(aX, .inr (5, [.ref aB, .ref aP, .ref aI])), (aI, .inl (cP, 2, .inr (.inr (.inr (.inr fIm))))), (aB, .inr (0, [.ref aP, .ref aS, .ref aW, .int vSl])), (aW, .inl (cI, 256, .inl fWo)), (aP, .inr (3, [.int vMo, .int vSh, .ref aK, .ref aC, .ref aS])), (aK, .inr (2, [.int vKn, .ref aKd, .ref aKs])), (aKd, .inl (cI, 8, .inl fKd)), (aKs, .inl (cI, 8, .inl fKs)), (aC, .inr (1, [.int vCn, .ref aCd])), (aCd, .inl (cI, 12, .inl fCd)), (aS, .inr (4, [.int vVa, .int vCo, .int vBi, .int vPh, .ref aPr, .ref aHo, .ref aHe, .ref aSt, .ref aPb, .ref aPs])), (aPr, .inl (cI, 16, .inl fPr)), (aHo, .inl (cI, 16, .inl fHo)), (aHe, .inl (cI, 16, .inl fHe)), (aSt, .inl (cI, 16, .inl fSt)), (aPb, .inl (cI, 16, .inl fPb)), (aPs, .inl (cI, 16, .inl fPs))] (fun _ : Unit => [(aX, .inr (5, [.ref aB, .ref aP, .ref aI])), (aI, .inl (cP, 2, .inr (.inr (.inr (.inr fIm))))), (aB, .inr (0, [.ref aP, .ref aS, .ref aW, .int vSl])), (aW, .inl (cI, 256, .inl fWo)), (aP, .inr (3, [.int vMo, .int vSh, .ref aK, .ref aC, .ref aS])), (aK, .inr (2, [.int oKn, .ref aKd, .ref aKs])), (aKd, .inl (cI, 8, .inl oKd)), (aKs, .inl (cI, 8, .inl oKs)), (aC, .inr (1, [.int vCn, .ref aCd])), (aCd, .inl (cI, 12, .inl fCd)), (aS, .inr (4, [.int oVa, .int vCo, .int vBi, .int vPh, .ref aPr, .ref aHo, .ref aHe, .ref aSt, .ref aPb, .ref aPs])), (aPr, .inl (cI, 16, .inl fPr)), (aHo, .inl (cI, 16, .inl fHo)), (aHe, .inl (cI, 16, .inl fHe)), (aSt, .inl (cI, 16, .inl fSt)), (aPb, .inl (cI, 16, .inl fPb)), (aPs, .inl (cI, 16, .inl fPs))]) r := by
  refine CtI.ofW (cc := cX5_drop) (maxL := 3) (by decide) rfl (Nat.le_of_ble_eq_true rfl) (lv := [(0, .ref aX), (1, .int x1)]) rfl ?_
  intro p e s m args below meth c A Q ls hx hb hml hown hts hK hN hP hD hS hA hl hret0
  have hown : s.vm.findClass RX5 = some m.cls := hown
  have i2 : ∀ w ∈ wsX20, w ∈ wsX5_drop := mem_ps [38, 39, 40] rfl
  have i3 : ∀ w ∈ wsX30, w ∈ wsX5_drop := mem_ps [23, 24, 25, 26, 27] rfl
  have i4 : ∀ w ∈ wsX40, w ∈ wsX5_drop := mem_ps [28, 29, 30, 31, 32, 33, 34, 35, 36, 37] rfl
  have i5 : ∀ w ∈ wsX50, w ∈ wsX5_drop := mem_ps [20, 21, 22] rfl
  have hret : ∀ (v : Int32) (zKn : Int32) (zKd : Nat → Int32) (zKs : Nat → Int32) (zVa : Int32) (pc : Nat) (ls : Array Slot) (H : Heap) (locs : List Loc), narrow .int (.int v) = .int v → decode cX5_drop pc = .ok (.ireturn, 1) → va_P D vwCl [(aX, .inr (5, [.ref aB, .ref aP, .ref aI])), (aI, .inl (cP, 2, .inr (.inr (.inr (.inr fIm))))), (aB, .inr (0, [.ref aP, .ref aS, .ref aW, .int vSl])), (aW, .inl (cI, 256, .inl fWo)), (aP, .inr (3, [.int vMo, .int vSh, .ref aK, .ref aC, .ref aS])), (aK, .inr (2, [.int zKn, .ref aKd, .ref aKs])), (aKd, .inl (cI, 8, .inl zKd)), (aKs, .inl (cI, 8, .inl zKs)), (aC, .inr (1, [.int vCn, .ref aCd])), (aCd, .inl (cI, 12, .inl fCd)), (aS, .inr (4, [.int zVa, .int vCo, .int vBi, .int vPh, .ref aPr, .ref aHo, .ref aHe, .ref aSt, .ref aPb, .ref aPs])), (aPr, .inl (cI, 16, .inl fPr)), (aHo, .inl (cI, 16, .inl fHo)), (aHe, .inl (cI, 16, .inl fHe)), (aSt, .inl (cI, 16, .inl fSt)), (aPb, .inl (cI, 16, .inl fPb)), (aPs, .inl (cI, 16, .inl fPs))] H → va_D A [(aX, .inr (5, [.ref aB, .ref aP, .ref aI])), (aI, .inl (cP, 2, .inr (.inr (.inr (.inr fIm))))), (aB, .inr (0, [.ref aP, .ref aS, .ref aW, .int vSl])), (aW, .inl (cI, 256, .inl fWo)), (aP, .inr (3, [.int vMo, .int vSh, .ref aK, .ref aC, .ref aS])), (aK, .inr (2, [.int zKn, .ref aKd, .ref aKs])), (aKd, .inl (cI, 8, .inl zKd)), (aKs, .inl (cI, 8, .inl zKs)), (aC, .inr (1, [.int vCn, .ref aCd])), (aCd, .inl (cI, 12, .inl fCd)), (aS, .inr (4, [.int zVa, .int vCo, .int vBi, .int vPh, .ref aPr, .ref aHo, .ref aHe, .ref aSt, .ref aPb, .ref aPs])), (aPr, .inl (cI, 16, .inl fPr)), (aHo, .inl (cI, 16, .inl fHo)), (aHe, .inl (cI, 16, .inl fHe)), (aSt, .inl (cI, 16, .inl fSt)), (aPb, .inl (cI, 16, .inl fPb)), (aPs, .inl (cI, 16, .inl fPs))] → va_S A s.heap H locs → some (v, zKn, zKd, zKs, zVa) = some (r, oKn, oKd, oKs, oVa) → W p l e rX5_drop s m args below meth c H locs 0 0 Q (F0 m pc ls [.int v]) := by
    intro v zKn zKd zKs zVa pc ls H locs hn hd hP hD hS h
    cases h
    exact hret0 pc ls H locs () hn hd hP hD hS
  clear hret0
  unfold fX5_drop at h
  obtain ⟨H, hH⟩ : ∃ H, H = s.heap := ⟨_, rfl⟩
  have hP : va_P D vwCl [(aX, .inr (5, [.ref aB, .ref aP, .ref aI])), (aI, .inl (cP, 2, .inr (.inr (.inr (.inr fIm))))), (aB, .inr (0, [.ref aP, .ref aS, .ref aW, .int vSl])), (aW, .inl (cI, 256, .inl fWo)), (aP, .inr (3, [.int vMo, .int vSh, .ref aK, .ref aC, .ref aS])), (aK, .inr (2, [.int vKn, .ref aKd, .ref aKs])), (aKd, .inl (cI, 8, .inl fKd)), (aKs, .inl (cI, 8, .inl fKs)), (aC, .inr (1, [.int vCn, .ref aCd])), (aCd, .inl (cI, 12, .inl fCd)), (aS, .inr (4, [.int vVa, .int vCo, .int vBi, .int vPh, .ref aPr, .ref aHo, .ref aHe, .ref aSt, .ref aPb, .ref aPs])), (aPr, .inl (cI, 16, .inl fPr)), (aHo, .inl (cI, 16, .inl fHo)), (aHe, .inl (cI, 16, .inl fHe)), (aSt, .inl (cI, 16, .inl fSt)), (aPb, .inl (cI, 16, .inl fPb)), (aPs, .inl (cI, 16, .inl fPs))] H := by rw [hH]; exact hP
  obtain ⟨locs, hlocs⟩ : ∃ x : List Loc, x = [] := ⟨_, rfl⟩
  have hS : va_S A s.heap H locs := by rw [hH, hlocs]; exact hS
  suffices hgo : W p l e rX5_drop s m args below meth c H locs 0 0 Q (F0 m 0 ls []) by rw [hH, hlocs] at hgo; exact hgo
  refine lv_iload_n hx hb dX5_drop_0 rfl (lv_at hl 1 rfl) ?_
  obtain ⟨r_1, q_1, h⟩ := bd1_some h
  refine fr_ro_i (S := Unit) (wc := []) (fr_S (As := [.int x1]) (rest := []) ⟨hx, hb, hml, hown, hts⟩ (tX5_areDots x1 r_1 q_1) gX5_drop_X5_areDots rfl (fr_pre (As := [.int x1]) (wc := []) hK hN hP hD [] (by decide) rfl) (n := 1) (by decide +kernel) ⟨Nat.le_of_ble_eq_true rfl, Nat.le_of_ble_eq_true rfl⟩ rfl hl.1 rfl (Nat.le_of_ble_eq_true rfl) dX5_drop_1 ⟨Nat.zero_le _, Nat.zero_le _⟩) hP hD hS hA [] rfl (c2 := 0) (s2 := 0) rfl rfl (fun H locs hP hS => ?_)
  refine lv_if_ne (tgt := 10) hx hb dX5_drop_4 (by decide) (fun c1 => ?_) (fun c1 => ?_)
  · have h := (if_neg c1).symm.trans h
    refine lv_aload_n hx hb dX5_drop_10 rfl (lv_at hl 0 rfl) ?_
    refine va_get (D := D) (ci := 5) (v := .ref aP) (C := RX5) (T := TX5) (N := 3) hx hb hts i5 hown hK hP 0 rfl rfl 1 (by decide) (hts (.fieldLink RX5 20 RX5 "now" "LBidMosaic$Picture;") (List.mem_of_getElem? (i := 1) rfl)) (fun _ h9 => h9) rfl dX5_drop_11 ?_
    refine va_getN (D := D) (ci := 3) (v := .ref aK) (C := RX3) (T := TX3) (N := 5) hx hb hts i3 hown hK hP 4 rfl rfl 2 (by decide) (hN.f (a := RX5) (i := 50) (b := RX3) (n := "kinds") (d := "LBidMosaic$Kinds;") (h := RX5) (nx_mem (i := 124) (by decide +kernel) rfl)) (fun _ h9 => h9) rfl dX5_drop_14 ?_
    refine lv_iload_n hx hb dX5_drop_17 rfl (lv_at hl 1 rfl) ?_
    obtain ⟨r_18, q_18, h⟩ := bd1_some h
    refine fr_ro_i (S := Unit) (wc := [(aK, .inr (2, [.int vKn, .ref aKd, .ref aKs])), (aKd, .inl (cI, 8, .inl fKd))]) (fr_VN (As := [.int x1]) (rest := []) (own := RX5) (host := RX5) (C := RX2) ⟨hx, hb, hml, hown, hts⟩ hN (tX2_numberOf aK aKd aKs vKn fKd x1 r_18 q_18) gX5_drop_X2_numberOf_n64 rfl (nx_mem (i := 211) (by decide +kernel) rfl) (List.mem_of_getElem? (i := 7) rfl) (List.mem_of_getElem? (i := 6) rfl) (List.mem_of_getElem? (i := 8) rfl) (fr_preV (As := [.int x1]) (b := aK) (ci := 2) (q0 := 5) (wc := [(aK, .inr (2, [.int vKn, .ref aKd, .ref aKs])), (aKd, .inl (cI, 8, .inl fKd))]) hK hN hP hD [5, 6] (by decide) rfl rfl rfl) (n := 1) (by decide +kernel) ⟨Nat.le_of_ble_eq_true rfl, Nat.le_of_ble_eq_true rfl⟩ rfl hl.1 rfl (Nat.le_of_ble_eq_true rfl) dX5_drop_18 ⟨Nat.zero_le _, Nat.zero_le _⟩) hP hD hS hA [5, 6] rfl (c2 := 0) (s2 := 0) rfl rfl (fun H locs hP hS => ?_)
    refine lv_istore_n (lv' := [(2, .int r_18), (0, .ref aX), (1, .int x1)]) hx hb dX5_drop_21 rfl hl (by decide) rfl (fun ls hl => ?_)
    refine lv_iload_n hx hb dX5_drop_22 rfl (lv_at hl 0 rfl) ?_
    refine lv_bipush (v := (-6 : Int32)) hx hb dX5_drop_23 (by decide) ?_
    refine lv_icmp_ne (tgt := 31) hx hb dX5_drop_25 (by decide) (fun c2 => ?_) (fun c2 => ?_)
    · have h := (if_neg c2).symm.trans h
      refine lv_aload_n hx hb dX5_drop_31 rfl (lv_at hl 1 rfl) ?_
      refine va_get (D := D) (ci := 5) (v := .ref aP) (C := RX5) (T := TX5) (N := 3) hx hb hts i5 hown hK hP 0 rfl rfl 1 (by decide) (hts (.fieldLink RX5 20 RX5 "now" "LBidMosaic$Picture;") (List.mem_of_getElem? (i := 1) rfl)) (fun _ h9 => h9) rfl dX5_drop_32 ?_
      refine va_getN (D := D) (ci := 3) (v := .ref aS) (C := RX3) (T := TX3) (N := 5) hx hb hts i3 hown hK hP 4 rfl rfl 4 (by decide) (hN.f (a := RX5) (i := 33) (b := RX3) (n := "sale") (d := "LBidMosaic$Sale;") (h := RX5) (nx_mem (i := 130) (by decide +kernel) rfl)) (fun _ h9 => h9) rfl dX5_drop_35 ?_
      refine lv_iconst (v := (0 : Int32)) hx hb dX5_drop_38 (by decide) ?_
      refine va_putN (D := D) (ci := 4) (v := .int (0 : Int32)) (ty := .boolean) (C := RX4) (T := TX4) (N := 10) hx hb hts i4 tyX4 tyX4_ok nmX4 hown hK hP hD hS 10 rfl rfl 0 (by decide) (hN.f (a := RX5) (i := 37) (b := RX4) (n := "valid") (d := "Z") (h := RX5) (nx_mem (i := 76) (by decide +kernel) rfl)) (fun _ h9 => h9) rfl (by decide +kernel) rfl rfl (Nat.le_of_ble_eq_true rfl) dX5_drop_39 (fun H locs hP hD hS => ?_)
      have hP : va_P D vwCl [(aX, .inr (5, [.ref aB, .ref aP, .ref aI])), (aI, .inl (cP, 2, .inr (.inr (.inr (.inr fIm))))), (aB, .inr (0, [.ref aP, .ref aS, .ref aW, .int vSl])), (aW, .inl (cI, 256, .inl fWo)), (aP, .inr (3, [.int vMo, .int vSh, .ref aK, .ref aC, .ref aS])), (aK, .inr (2, [.int vKn, .ref aKd, .ref aKs])), (aKd, .inl (cI, 8, .inl fKd)), (aKs, .inl (cI, 8, .inl fKs)), (aC, .inr (1, [.int vCn, .ref aCd])), (aCd, .inl (cI, 12, .inl fCd)), (aS, .inr (4, [.int (0 : Int32), .int vCo, .int vBi, .int vPh, .ref aPr, .ref aHo, .ref aHe, .ref aSt, .ref aPb, .ref aPs])), (aPr, .inl (cI, 16, .inl fPr)), (aHo, .inl (cI, 16, .inl fHo)), (aHe, .inl (cI, 16, .inl fHe)), (aSt, .inl (cI, 16, .inl fSt)), (aPb, .inl (cI, 16, .inl fPb)), (aPs, .inl (cI, 16, .inl fPs))] H := hP
      have hD : va_D A [(aX, .inr (5, [.ref aB, .ref aP, .ref aI])), (aI, .inl (cP, 2, .inr (.inr (.inr (.inr fIm))))), (aB, .inr (0, [.ref aP, .ref aS, .ref aW, .int vSl])), (aW, .inl (cI, 256, .inl fWo)), (aP, .inr (3, [.int vMo, .int vSh, .ref aK, .ref aC, .ref aS])), (aK, .inr (2, [.int vKn, .ref aKd, .ref aKs])), (aKd, .inl (cI, 8, .inl fKd)), (aKs, .inl (cI, 8, .inl fKs)), (aC, .inr (1, [.int vCn, .ref aCd])), (aCd, .inl (cI, 12, .inl fCd)), (aS, .inr (4, [.int (0 : Int32), .int vCo, .int vBi, .int vPh, .ref aPr, .ref aHo, .ref aHe, .ref aSt, .ref aPb, .ref aPs])), (aPr, .inl (cI, 16, .inl fPr)), (aHo, .inl (cI, 16, .inl fHo)), (aHe, .inl (cI, 16, .inl fHe)), (aSt, .inl (cI, 16, .inl fSt)), (aPb, .inl (cI, 16, .inl fPb)), (aPs, .inl (cI, 16, .inl fPs))] := hD
      refine lv_aload_n hx hb dX5_drop_42 rfl (lv_at hl 1 rfl) ?_
      refine va_get (D := D) (ci := 5) (v := .ref aP) (C := RX5) (T := TX5) (N := 3) hx hb hts i5 hown hK hP 0 rfl rfl 1 (by decide) (hts (.fieldLink RX5 20 RX5 "now" "LBidMosaic$Picture;") (List.mem_of_getElem? (i := 1) rfl)) (fun _ h9 => h9) rfl dX5_drop_43 ?_
      refine va_getN (D := D) (ci := 3) (v := .ref aK) (C := RX3) (T := TX3) (N := 5) hx hb hts i3 hown hK hP 4 rfl rfl 2 (by decide) (hN.f (a := RX5) (i := 50) (b := RX3) (n := "kinds") (d := "LBidMosaic$Kinds;") (h := RX5) (nx_mem (i := 124) (by decide +kernel) rfl)) (fun _ h9 => h9) rfl dX5_drop_46 ?_
      refine lv_iload_n hx hb dX5_drop_49 rfl (lv_at hl 0 rfl) ?_
      obtain ⟨vKn_50, fKd_50, fKs_50, q_50, h⟩ := bd3_some h
      refine fr_rw_v (S := Unit) (wc := [(aK, .inr (2, [.int vKn, .ref aKd, .ref aKs])), (aKd, .inl (cI, 8, .inl fKd)), (aKs, .inl (cI, 8, .inl fKs))]) (wc' := fun _ => [(aK, .inr (2, [.int vKn_50, .ref aKd, .ref aKs])), (aKd, .inl (cI, 8, .inl fKd_50)), (aKs, .inl (cI, 8, .inl fKs_50))]) (wr := [(aX, .inr (5, [.ref aB, .ref aP, .ref aI])), (aI, .inl (cP, 2, .inr (.inr (.inr (.inr fIm))))), (aB, .inr (0, [.ref aP, .ref aS, .ref aW, .int vSl])), (aW, .inl (cI, 256, .inl fWo)), (aP, .inr (3, [.int vMo, .int vSh, .ref aK, .ref aC, .ref aS])), (aC, .inr (1, [.int vCn, .ref aCd])), (aCd, .inl (cI, 12, .inl fCd)), (aS, .inr (4, [.int (0 : Int32), .int vCo, .int vBi, .int vPh, .ref aPr, .ref aHo, .ref aHe, .ref aSt, .ref aPb, .ref aPs])), (aPr, .inl (cI, 16, .inl fPr)), (aHo, .inl (cI, 16, .inl fHo)), (aHe, .inl (cI, 16, .inl fHe)), (aSt, .inl (cI, 16, .inl fSt)), (aPb, .inl (cI, 16, .inl fPb)), (aPs, .inl (cI, 16, .inl fPs))]) (w2 := fun _ => [(aX, .inr (5, [.ref aB, .ref aP, .ref aI])), (aI, .inl (cP, 2, .inr (.inr (.inr (.inr fIm))))), (aB, .inr (0, [.ref aP, .ref aS, .ref aW, .int vSl])), (aW, .inl (cI, 256, .inl fWo)), (aP, .inr (3, [.int vMo, .int vSh, .ref aK, .ref aC, .ref aS])), (aK, .inr (2, [.int vKn_50, .ref aKd, .ref aKs])), (aKd, .inl (cI, 8, .inl fKd_50)), (aKs, .inl (cI, 8, .inl fKs_50)), (aC, .inr (1, [.int vCn, .ref aCd])), (aCd, .inl (cI, 12, .inl fCd)), (aS, .inr (4, [.int (0 : Int32), .int vCo, .int vBi, .int vPh, .ref aPr, .ref aHo, .ref aHe, .ref aSt, .ref aPb, .ref aPs])), (aPr, .inl (cI, 16, .inl fPr)), (aHo, .inl (cI, 16, .inl fHo)), (aHe, .inl (cI, 16, .inl fHe)), (aSt, .inl (cI, 16, .inl fSt)), (aPb, .inl (cI, 16, .inl fPb)), (aPs, .inl (cI, 16, .inl fPs))]) (fr_VNv (As := [.int r_18]) (rest := []) (own := RX5) (host := RX5) (C := RX2) ⟨hx, hb, hml, hown, hts⟩ hN (tX2_takeOut aK aKd aKs vKn fKd fKs r_18 vKn_50 fKd_50 fKs_50 q_50) gX5_drop_X2_takeOut_n68 rfl (nx_mem (i := 212) (by decide +kernel) rfl) (List.mem_of_getElem? (i := 7) rfl) (List.mem_of_getElem? (i := 12) rfl) (List.mem_of_getElem? (i := 13) rfl) (fr_preV (As := [.int r_18]) (b := aK) (ci := 2) (q0 := 5) (wc := [(aK, .inr (2, [.int vKn, .ref aKd, .ref aKs])), (aKd, .inl (cI, 8, .inl fKd)), (aKs, .inl (cI, 8, .inl fKs))]) hK hN hP hD [5, 6, 7] (by decide) rfl rfl rfl) (n := 1) (by decide +kernel) ⟨Nat.le_of_ble_eq_true rfl, Nat.le_of_ble_eq_true rfl⟩ rfl hl.1 rfl (Nat.le_of_ble_eq_true rfl) dX5_drop_50 ⟨Nat.zero_le _, Nat.zero_le _⟩) hP hD hS hA [5, 6, 7] [0, 1, 2, 3, 4, 8, 9, 10, 11, 12, 13, 14, 15, 16] [0, 1, 2, 3, 4, 14, 15, 16, 5, 6, 7, 8, 9, 10, 11, 12, 13] rfl rfl (by decide) (by decide) (by decide) (fun _ => rfl) (c2 := 0) (s2 := 0) rfl rfl (fun _ H locs hP hD hS => ?_)
      refine lv_aload_n hx hb dX5_drop_53 rfl (lv_at hl 1 rfl) ?_
      refine va_get (D := D) (ci := 5) (v := .ref aP) (C := RX5) (T := TX5) (N := 3) hx hb hts i5 hown hK hP 0 rfl rfl 1 (by decide) (hts (.fieldLink RX5 20 RX5 "now" "LBidMosaic$Picture;") (List.mem_of_getElem? (i := 1) rfl)) (fun _ h9 => h9) rfl dX5_drop_54 ?_
      refine va_getN (D := D) (ci := 3) (v := .ref aK) (C := RX3) (T := TX3) (N := 5) hx hb hts i3 hown hK hP 4 rfl rfl 2 (by decide) (hN.f (a := RX5) (i := 50) (b := RX3) (n := "kinds") (d := "LBidMosaic$Kinds;") (h := RX5) (nx_mem (i := 124) (by decide +kernel) rfl)) (fun _ h9 => h9) rfl dX5_drop_57 ?_
      refine va_getN (D := D) (ci := 2) (v := .int vKn_50) (C := RX2) (T := TX2) (N := 3) hx hb hts i2 hown hK hP 5 rfl rfl 0 (by decide) (hN.f (a := RX5) (i := 72) (b := RX2) (n := "count") (d := "I") (h := RX5) (nx_mem (i := 38) (by decide +kernel) rfl)) (fun _ h9 => h9) rfl dX5_drop_60 ?_
      exact hret vKn_50 vKn_50 fKd_50 fKs_50 (0 : Int32) 63 ls H locs rfl dX5_drop_63 hP hD hS h
    · have h := (if_pos c2).symm.trans h
      refine lv_bipush (v := (-5 : Int32)) hx hb dX5_drop_28 (by decide) ?_
      exact hret (-5 : Int32) vKn fKd fKs vVa 30 ls H locs rfl dX5_drop_30 hP hD hS h
  · have h := (if_pos c1).symm.trans h
    refine lv_bipush (v := (-2 : Int32)) hx hb dX5_drop_7 (by decide) ?_
    exact hret (-2 : Int32) vKn fKd fKs vVa 9 ls H locs rfl dX5_drop_9 hP hD hS h
def fX5_kind (vKn : Int32) (fKd : Nat → Int32) (fKs : Nat → Int32) (vCn : Int32) (vVa : Int32) (vCo : Int32) (fHe : Nat → Int32) (x1 : Int32) (x2 : Int32) : Option (Int32) :=
  bd1 (fX2_has vKn x1) fun r_8 =>
  if r_8 = 0 then
    some (-1 : Int32)
  else
    if x2 = (0 : Int32) then
      if x1 < 0 ∨ 8 ≤ x1.toNatClampNeg then none else
      some (fKd x1.toNatClampNeg)
    else
      if x2 = (1 : Int32) then
        if x1 < 0 ∨ 8 ≤ x1.toNatClampNeg then none else
        some (fKs x1.toNatClampNeg)
      else
        if x2 = (2 : Int32) then
          bd1 (fX2_firstSlot fKs x1) fun r_82 =>
          some r_82
        else
          if x2 = (3 : Int32) then
            bd1 (fX4_isDone vVa vCo) fun r_93 =>
            if r_93 = 0 then
              some (0 : Int32)
            else
              bd1 (fX3_cellsThatHave vKn fKs vCn fHe x1) fun r_104 =>
              some r_104
          else
            some (-2 : Int32)
abbrev rX5_kind : Room := { frames := 4, cells := 0, slots := 0, locals := 85 }
set_option maxHeartbeats 4000000 in
set_option maxRecDepth 100000 in
theorem tX5_kind {l : Launch} {D : va_G} {cI cZ cP : ClassId} (aX aI aB aW aP aK aKd aKs aC aCd aS aPr aHo aHe aSt aPb aPs : Nat) (fIm : Nat → Option Nat) (vSl : Int32) (fWo : Nat → Int32) (vMo : Int32) (vSh : Int32) (vKn : Int32) (fKd : Nat → Int32) (fKs : Nat → Int32) (vCn : Int32) (fCd : Nat → Int32) (vVa : Int32) (vCo : Int32) (vBi : Int32) (vPh : Int32) (fPr : Nat → Int32) (fHo : Nat → Int32) (fHe : Nat → Int32) (fSt : Nat → Int32) (fPb : Nat → Int32) (fPs : Nat → Int32) (x1 : Int32) (x2 : Int32) (r : Int32) (h : fX5_kind vKn fKd fKs vCn vVa vCo fHe x1 x2 = some r) : CtI l D cI cZ cP yX5_kind wsX5_kind rX5_kind [.ref aX, .int x1, .int x2] [(aX, .inr (5, [.ref aB, .ref aP, .ref aI])), (aI, .inl (cP, 2, .inr (.inr (.inr (.inr fIm))))), (aB, .inr (0, [.ref aP, .ref aS, .ref aW, .int vSl])), (aW, .inl (cI, 256, .inl fWo)), (aP, .inr (3, [.int vMo, .int vSh, .ref aK, .ref aC, .ref aS])), (aK, .inr (2, [.int vKn, .ref aKd, .ref aKs])), (aKd, .inl (cI, 8, .inl fKd)), (aKs, .inl (cI, 8, .inl fKs)), (aC, .inr (1, [.int vCn, .ref aCd])), (aCd, .inl (cI, 12, .inl fCd)), (aS, .inr (4, [.int vVa, .int vCo, .int vBi, .int vPh, .ref aPr, .ref aHo, .ref aHe, .ref aSt, .ref aPb, .ref aPs])), (aPr, .inl (cI, 16, .inl fPr)), (aHo, .inl (cI, 16, .inl fHo)), (aHe, .inl (cI, 16, .inl fHe)), (aSt, .inl (cI, 16, .inl fSt)), (aPb, .inl (cI, 16, .inl fPb)), (aPs, .inl (cI, 16, .inl fPs))] (fun _ : Unit => [(aX, .inr (5, [.ref aB, .ref aP, .ref aI])), (aI, .inl (cP, 2, .inr (.inr (.inr (.inr fIm))))), (aB, .inr (0, [.ref aP, .ref aS, .ref aW, .int vSl])), (aW, .inl (cI, 256, .inl fWo)), (aP, .inr (3, [.int vMo, .int vSh, .ref aK, .ref aC, .ref aS])), (aK, .inr (2, [.int vKn, .ref aKd, .ref aKs])), (aKd, .inl (cI, 8, .inl fKd)), (aKs, .inl (cI, 8, .inl fKs)), (aC, .inr (1, [.int vCn, .ref aCd])), (aCd, .inl (cI, 12, .inl fCd)), (aS, .inr (4, [.int vVa, .int vCo, .int vBi, .int vPh, .ref aPr, .ref aHo, .ref aHe, .ref aSt, .ref aPb, .ref aPs])), (aPr, .inl (cI, 16, .inl fPr)), (aHo, .inl (cI, 16, .inl fHo)), (aHe, .inl (cI, 16, .inl fHe)), (aSt, .inl (cI, 16, .inl fSt)), (aPb, .inl (cI, 16, .inl fPb)), (aPs, .inl (cI, 16, .inl fPs))]) r := by
  refine CtI.ofW (cc := cX5_kind) (maxL := 3) (by decide) rfl (Nat.le_of_ble_eq_true rfl) (lv := [(0, .ref aX), (1, .int x1), (2, .int x2)]) rfl ?_
  intro p e s m args below meth c A Q ls hx hb hml hown hts hK hN hP hD hS hA hl hret0
  have hown : s.vm.findClass RX5 = some m.cls := hown
  have i1 : ∀ w ∈ wsX10, w ∈ wsX5_kind := mem_ps [59, 60] rfl
  have i2 : ∀ w ∈ wsX20, w ∈ wsX5_kind := mem_ps [46, 47, 48] rfl
  have i3 : ∀ w ∈ wsX30, w ∈ wsX5_kind := mem_ps [41, 42, 43, 44, 45] rfl
  have i4 : ∀ w ∈ wsX40, w ∈ wsX5_kind := mem_ps [49, 50, 51, 52, 53, 54, 55, 56, 57, 58] rfl
  have i5 : ∀ w ∈ wsX50, w ∈ wsX5_kind := mem_ps [38, 39, 40] rfl
  have hret : ∀ (v : Int32) (pc : Nat) (ls : Array Slot) (H : Heap) (locs : List Loc), narrow .int (.int v) = .int v → decode cX5_kind pc = .ok (.ireturn, 1) → va_P D vwCl [(aX, .inr (5, [.ref aB, .ref aP, .ref aI])), (aI, .inl (cP, 2, .inr (.inr (.inr (.inr fIm))))), (aB, .inr (0, [.ref aP, .ref aS, .ref aW, .int vSl])), (aW, .inl (cI, 256, .inl fWo)), (aP, .inr (3, [.int vMo, .int vSh, .ref aK, .ref aC, .ref aS])), (aK, .inr (2, [.int vKn, .ref aKd, .ref aKs])), (aKd, .inl (cI, 8, .inl fKd)), (aKs, .inl (cI, 8, .inl fKs)), (aC, .inr (1, [.int vCn, .ref aCd])), (aCd, .inl (cI, 12, .inl fCd)), (aS, .inr (4, [.int vVa, .int vCo, .int vBi, .int vPh, .ref aPr, .ref aHo, .ref aHe, .ref aSt, .ref aPb, .ref aPs])), (aPr, .inl (cI, 16, .inl fPr)), (aHo, .inl (cI, 16, .inl fHo)), (aHe, .inl (cI, 16, .inl fHe)), (aSt, .inl (cI, 16, .inl fSt)), (aPb, .inl (cI, 16, .inl fPb)), (aPs, .inl (cI, 16, .inl fPs))] H → va_D A [(aX, .inr (5, [.ref aB, .ref aP, .ref aI])), (aI, .inl (cP, 2, .inr (.inr (.inr (.inr fIm))))), (aB, .inr (0, [.ref aP, .ref aS, .ref aW, .int vSl])), (aW, .inl (cI, 256, .inl fWo)), (aP, .inr (3, [.int vMo, .int vSh, .ref aK, .ref aC, .ref aS])), (aK, .inr (2, [.int vKn, .ref aKd, .ref aKs])), (aKd, .inl (cI, 8, .inl fKd)), (aKs, .inl (cI, 8, .inl fKs)), (aC, .inr (1, [.int vCn, .ref aCd])), (aCd, .inl (cI, 12, .inl fCd)), (aS, .inr (4, [.int vVa, .int vCo, .int vBi, .int vPh, .ref aPr, .ref aHo, .ref aHe, .ref aSt, .ref aPb, .ref aPs])), (aPr, .inl (cI, 16, .inl fPr)), (aHo, .inl (cI, 16, .inl fHo)), (aHe, .inl (cI, 16, .inl fHe)), (aSt, .inl (cI, 16, .inl fSt)), (aPb, .inl (cI, 16, .inl fPb)), (aPs, .inl (cI, 16, .inl fPs))] → va_S A s.heap H locs → some v = some r → W p l e rX5_kind s m args below meth c H locs 0 0 Q (F0 m pc ls [.int v]) := by
    intro v pc ls H locs hn hd hP hD hS h
    cases h
    exact hret0 pc ls H locs () hn hd hP hD hS
  clear hret0
  unfold fX5_kind at h
  obtain ⟨H, hH⟩ : ∃ H, H = s.heap := ⟨_, rfl⟩
  have hP : va_P D vwCl [(aX, .inr (5, [.ref aB, .ref aP, .ref aI])), (aI, .inl (cP, 2, .inr (.inr (.inr (.inr fIm))))), (aB, .inr (0, [.ref aP, .ref aS, .ref aW, .int vSl])), (aW, .inl (cI, 256, .inl fWo)), (aP, .inr (3, [.int vMo, .int vSh, .ref aK, .ref aC, .ref aS])), (aK, .inr (2, [.int vKn, .ref aKd, .ref aKs])), (aKd, .inl (cI, 8, .inl fKd)), (aKs, .inl (cI, 8, .inl fKs)), (aC, .inr (1, [.int vCn, .ref aCd])), (aCd, .inl (cI, 12, .inl fCd)), (aS, .inr (4, [.int vVa, .int vCo, .int vBi, .int vPh, .ref aPr, .ref aHo, .ref aHe, .ref aSt, .ref aPb, .ref aPs])), (aPr, .inl (cI, 16, .inl fPr)), (aHo, .inl (cI, 16, .inl fHo)), (aHe, .inl (cI, 16, .inl fHe)), (aSt, .inl (cI, 16, .inl fSt)), (aPb, .inl (cI, 16, .inl fPb)), (aPs, .inl (cI, 16, .inl fPs))] H := by rw [hH]; exact hP
  obtain ⟨locs, hlocs⟩ : ∃ x : List Loc, x = [] := ⟨_, rfl⟩
  have hS : va_S A s.heap H locs := by rw [hH, hlocs]; exact hS
  suffices hgo : W p l e rX5_kind s m args below meth c H locs 0 0 Q (F0 m 0 ls []) by rw [hH, hlocs] at hgo; exact hgo
  refine lv_aload_n hx hb dX5_kind_0 rfl (lv_at hl 0 rfl) ?_
  refine va_get (D := D) (ci := 5) (v := .ref aP) (C := RX5) (T := TX5) (N := 3) hx hb hts i5 hown hK hP 0 rfl rfl 1 (by decide) (hts (.fieldLink RX5 20 RX5 "now" "LBidMosaic$Picture;") (List.mem_of_getElem? (i := 1) rfl)) (fun _ h9 => h9) rfl dX5_kind_1 ?_
  refine va_getN (D := D) (ci := 3) (v := .ref aK) (C := RX3) (T := TX3) (N := 5) hx hb hts i3 hown hK hP 4 rfl rfl 2 (by decide) (hN.f (a := RX5) (i := 50) (b := RX3) (n := "kinds") (d := "LBidMosaic$Kinds;") (h := RX5) (nx_mem (i := 124) (by decide +kernel) rfl)) (fun _ h9 => h9) rfl dX5_kind_4 ?_
  refine lv_iload_n hx hb dX5_kind_7 rfl (lv_at hl 1 rfl) ?_
  obtain ⟨r_8, q_8, h⟩ := bd1_some h
  refine fr_ro_i (S := Unit) (wc := [(aK, .inr (2, [.int vKn, .ref aKd, .ref aKs]))]) (fr_VN (As := [.int x1]) (rest := []) (own := RX5) (host := RX5) (C := RX2) ⟨hx, hb, hml, hown, hts⟩ hN (tX2_has aK aKd aKs vKn x1 r_8 q_8) gX5_kind_X2_has_n75 rfl (nx_mem (i := 220) (by decide +kernel) rfl) (List.mem_of_getElem? (i := 3) rfl) (List.mem_of_getElem? (i := 2) rfl) (List.mem_of_getElem? (i := 4) rfl) (fr_preV (As := [.int x1]) (b := aK) (ci := 2) (q0 := 5) (wc := [(aK, .inr (2, [.int vKn, .ref aKd, .ref aKs]))]) hK hN hP hD [5] (by decide) rfl rfl rfl) (n := 1) (by decide +kernel) ⟨Nat.le_of_ble_eq_true rfl, Nat.le_of_ble_eq_true rfl⟩ rfl hl.1 rfl (Nat.le_of_ble_eq_true rfl) dX5_kind_8 ⟨Nat.zero_le _, Nat.zero_le _⟩) hP hD hS hA [5] rfl (c2 := 0) (s2 := 0) rfl rfl (fun H locs hP hS => ?_)
  refine lv_if_ne (tgt := 16) hx hb dX5_kind_11 (by decide) (fun c1 => ?_) (fun c1 => ?_)
  · have h := (if_neg c1).symm.trans h
    refine lv_iload_n hx hb dX5_kind_16 rfl (lv_at hl 2 rfl) ?_
    by_cases c5 : x2 = (0 : Int32)
    · have h := (if_pos c5).symm.trans h
      refine lv_tableIn (tgt := 48) hx hb dX5_kind_17 (by rw [c5]; decide) (by rw [c5]; decide) (off := 31) (by rw [c5]; rfl) (by decide) ?_
      refine lv_aload_n hx hb dX5_kind_48 rfl (lv_at hl 0 rfl) ?_
      refine va_get (D := D) (ci := 5) (v := .ref aP) (C := RX5) (T := TX5) (N := 3) hx hb hts i5 hown hK hP 0 rfl rfl 1 (by decide) (hts (.fieldLink RX5 20 RX5 "now" "LBidMosaic$Picture;") (List.mem_of_getElem? (i := 1) rfl)) (fun _ h9 => h9) rfl dX5_kind_49 ?_
      refine va_getN (D := D) (ci := 3) (v := .ref aK) (C := RX3) (T := TX3) (N := 5) hx hb hts i3 hown hK hP 4 rfl rfl 2 (by decide) (hN.f (a := RX5) (i := 50) (b := RX3) (n := "kinds") (d := "LBidMosaic$Kinds;") (h := RX5) (nx_mem (i := 124) (by decide +kernel) rfl)) (fun _ h9 => h9) rfl dX5_kind_52 ?_
      refine va_getN (D := D) (ci := 2) (v := .ref aKd) (C := RX2) (T := TX2) (N := 3) hx hb hts i2 hown hK hP 5 rfl rfl 1 (by decide) (hN.f (a := RX5) (i := 78) (b := RX2) (n := "dots") (d := "[I") (h := RX5) (nx_mem (i := 41) (by decide +kernel) rfl)) (fun _ h9 => h9) rfl dX5_kind_55 ?_
      refine lv_iload_n hx hb dX5_kind_58 rfl (lv_at hl 1 rfl) ?_
      obtain ⟨g2, h⟩ := no_some h
      refine va_iald hx hb hK hP 6 0 rfl rfl g2 dX5_kind_59 ?_
      exact hret (fKd x1.toNatClampNeg) 60 ls H locs rfl dX5_kind_60 hP hD hS h
    · have h := (if_neg c5).symm.trans h
      by_cases c6 : x2 = (1 : Int32)
      · have h := (if_pos c6).symm.trans h
        refine lv_tableIn (tgt := 61) hx hb dX5_kind_17 (by rw [c6]; decide) (by rw [c6]; decide) (off := 44) (by rw [c6]; rfl) (by decide) ?_
        refine lv_aload_n hx hb dX5_kind_61 rfl (lv_at hl 0 rfl) ?_
        refine va_get (D := D) (ci := 5) (v := .ref aP) (C := RX5) (T := TX5) (N := 3) hx hb hts i5 hown hK hP 0 rfl rfl 1 (by decide) (hts (.fieldLink RX5 20 RX5 "now" "LBidMosaic$Picture;") (List.mem_of_getElem? (i := 1) rfl)) (fun _ h9 => h9) rfl dX5_kind_62 ?_
        refine va_getN (D := D) (ci := 3) (v := .ref aK) (C := RX3) (T := TX3) (N := 5) hx hb hts i3 hown hK hP 4 rfl rfl 2 (by decide) (hN.f (a := RX5) (i := 50) (b := RX3) (n := "kinds") (d := "LBidMosaic$Kinds;") (h := RX5) (nx_mem (i := 124) (by decide +kernel) rfl)) (fun _ h9 => h9) rfl dX5_kind_65 ?_
        refine va_getN (D := D) (ci := 2) (v := .ref aKs) (C := RX2) (T := TX2) (N := 3) hx hb hts i2 hown hK hP 5 rfl rfl 2 (by decide) (hN.f (a := RX5) (i := 82) (b := RX2) (n := "stocks") (d := "[I") (h := RX5) (nx_mem (i := 43) (by decide +kernel) rfl)) (fun _ h9 => h9) rfl dX5_kind_68 ?_
        refine lv_iload_n hx hb dX5_kind_71 rfl (lv_at hl 1 rfl) ?_
        obtain ⟨g3, h⟩ := no_some h
        refine va_iald hx hb hK hP 7 0 rfl rfl g3 dX5_kind_72 ?_
        exact hret (fKs x1.toNatClampNeg) 73 ls H locs rfl dX5_kind_73 hP hD hS h
      · have h := (if_neg c6).symm.trans h
        by_cases c7 : x2 = (2 : Int32)
        · have h := (if_pos c7).symm.trans h
          refine lv_tableIn (tgt := 74) hx hb dX5_kind_17 (by rw [c7]; decide) (by rw [c7]; decide) (off := 57) (by rw [c7]; rfl) (by decide) ?_
          refine lv_aload_n hx hb dX5_kind_74 rfl (lv_at hl 0 rfl) ?_
          refine va_get (D := D) (ci := 5) (v := .ref aP) (C := RX5) (T := TX5) (N := 3) hx hb hts i5 hown hK hP 0 rfl rfl 1 (by decide) (hts (.fieldLink RX5 20 RX5 "now" "LBidMosaic$Picture;") (List.mem_of_getElem? (i := 1) rfl)) (fun _ h9 => h9) rfl dX5_kind_75 ?_
          refine va_getN (D := D) (ci := 3) (v := .ref aK) (C := RX3) (T := TX3) (N := 5) hx hb hts i3 hown hK hP 4 rfl rfl 2 (by decide) (hN.f (a := RX5) (i := 50) (b := RX3) (n := "kinds") (d := "LBidMosaic$Kinds;") (h := RX5) (nx_mem (i := 124) (by decide +kernel) rfl)) (fun _ h9 => h9) rfl dX5_kind_78 ?_
          refine lv_iload_n hx hb dX5_kind_81 rfl (lv_at hl 1 rfl) ?_
          obtain ⟨r_82, q_82, h⟩ := bd1_some h
          refine fr_ro_i (S := Unit) (wc := [(aK, .inr (2, [.int vKn, .ref aKd, .ref aKs])), (aKs, .inl (cI, 8, .inl fKs))]) (fr_VN (As := [.int x1]) (rest := []) (own := RX5) (host := RX5) (C := RX2) ⟨hx, hb, hml, hown, hts⟩ hN (tX2_firstSlot aK aKs aKd vKn fKs x1 r_82 q_82) gX5_kind_X2_firstSlot_n85 rfl (nx_mem (i := 221) (by decide +kernel) rfl) (List.mem_of_getElem? (i := 3) rfl) (List.mem_of_getElem? (i := 7) rfl) (List.mem_of_getElem? (i := 8) rfl) (fr_preV (As := [.int x1]) (b := aK) (ci := 2) (q0 := 5) (wc := [(aK, .inr (2, [.int vKn, .ref aKd, .ref aKs])), (aKs, .inl (cI, 8, .inl fKs))]) hK hN hP hD [5, 7] (by decide) rfl rfl rfl) (n := 1) (by decide +kernel) ⟨Nat.le_of_ble_eq_true rfl, Nat.le_of_ble_eq_true rfl⟩ rfl hl.1 rfl (Nat.le_of_ble_eq_true rfl) dX5_kind_82 ⟨Nat.zero_le _, Nat.zero_le _⟩) hP hD hS hA [5, 7] rfl (c2 := 0) (s2 := 0) rfl rfl (fun H locs hP hS => ?_)
          exact hret r_82 85 ls H locs rfl dX5_kind_85 hP hD hS h
        · have h := (if_neg c7).symm.trans h
          by_cases c8 : x2 = (3 : Int32)
          · have h := (if_pos c8).symm.trans h
            refine lv_tableIn (tgt := 86) hx hb dX5_kind_17 (by rw [c8]; decide) (by rw [c8]; decide) (off := 69) (by rw [c8]; rfl) (by decide) ?_
            refine lv_aload_n hx hb dX5_kind_86 rfl (lv_at hl 0 rfl) ?_
            refine va_get (D := D) (ci := 5) (v := .ref aP) (C := RX5) (T := TX5) (N := 3) hx hb hts i5 hown hK hP 0 rfl rfl 1 (by decide) (hts (.fieldLink RX5 20 RX5 "now" "LBidMosaic$Picture;") (List.mem_of_getElem? (i := 1) rfl)) (fun _ h9 => h9) rfl dX5_kind_87 ?_
            refine va_getN (D := D) (ci := 3) (v := .ref aS) (C := RX3) (T := TX3) (N := 5) hx hb hts i3 hown hK hP 4 rfl rfl 4 (by decide) (hN.f (a := RX5) (i := 33) (b := RX3) (n := "sale") (d := "LBidMosaic$Sale;") (h := RX5) (nx_mem (i := 130) (by decide +kernel) rfl)) (fun _ h9 => h9) rfl dX5_kind_90 ?_
            obtain ⟨r_93, q_93, h⟩ := bd1_some h
            refine fr_ro_i (S := Unit) (wc := [(aS, .inr (4, [.int vVa, .int vCo, .int vBi, .int vPh, .ref aPr, .ref aHo, .ref aHe, .ref aSt, .ref aPb, .ref aPs]))]) (fr_VN (As := []) (rest := []) (own := RX5) (host := RX5) (C := RX4) ⟨hx, hb, hml, hown, hts⟩ hN (tX4_isDone aS aPr aHo aHe aSt aPb aPs vVa vCo vBi vPh r_93 q_93) gX5_kind_X4_isDone_n88 rfl (nx_mem (i := 222) (by decide +kernel) rfl) (List.mem_of_getElem? (i := 12) rfl) (List.mem_of_getElem? (i := 11) rfl) (List.mem_of_getElem? (i := 13) rfl) (fr_preV (As := []) (b := aS) (ci := 4) (q0 := 10) (wc := [(aS, .inr (4, [.int vVa, .int vCo, .int vBi, .int vPh, .ref aPr, .ref aHo, .ref aHe, .ref aSt, .ref aPb, .ref aPs]))]) hK hN hP hD [10] (by decide) rfl rfl rfl) (n := 0) (by decide +kernel) ⟨Nat.le_of_ble_eq_true rfl, Nat.le_of_ble_eq_true rfl⟩ rfl hl.1 rfl (Nat.le_of_ble_eq_true rfl) dX5_kind_93 ⟨Nat.zero_le _, Nat.zero_le _⟩) hP hD hS hA [10] rfl (c2 := 0) (s2 := 0) rfl rfl (fun H locs hP hS => ?_)
            refine lv_if_eq (tgt := 110) hx hb dX5_kind_96 (by decide) (fun c4 => ?_) (fun c4 => ?_)
            · have h := (if_pos c4).symm.trans h
              refine lv_iconst (v := (0 : Int32)) hx hb dX5_kind_110 (by decide) ?_
              exact hret (0 : Int32) 111 ls H locs rfl dX5_kind_111 hP hD hS h
            · have h := (if_neg c4).symm.trans h
              refine lv_aload_n hx hb dX5_kind_99 rfl (lv_at hl 0 rfl) ?_
              refine va_get (D := D) (ci := 5) (v := .ref aP) (C := RX5) (T := TX5) (N := 3) hx hb hts i5 hown hK hP 0 rfl rfl 1 (by decide) (hts (.fieldLink RX5 20 RX5 "now" "LBidMosaic$Picture;") (List.mem_of_getElem? (i := 1) rfl)) (fun _ h9 => h9) rfl dX5_kind_100 ?_
              refine lv_iload_n hx hb dX5_kind_103 rfl (lv_at hl 1 rfl) ?_
              obtain ⟨r_104, q_104, h⟩ := bd1_some h
              refine fr_ro_i (S := Unit) (wc := [(aP, .inr (3, [.int vMo, .int vSh, .ref aK, .ref aC, .ref aS])), (aK, .inr (2, [.int vKn, .ref aKd, .ref aKs])), (aKs, .inl (cI, 8, .inl fKs)), (aC, .inr (1, [.int vCn, .ref aCd])), (aS, .inr (4, [.int vVa, .int vCo, .int vBi, .int vPh, .ref aPr, .ref aHo, .ref aHe, .ref aSt, .ref aPb, .ref aPs])), (aHe, .inl (cI, 16, .inl fHe))]) (fr_VN (As := [.int x1]) (rest := []) (own := RX5) (host := RX5) (C := RX3) ⟨hx, hb, hml, hown, hts⟩ hN (tX3_cellsThatHave aP aK aKs aC aS aHe aKd aCd aPr aHo aSt aPb aPs vMo vSh vKn fKs vCn vVa vCo vBi vPh fHe x1 r_104 q_104) gX5_kind_X3_cellsThatHave_n92 rfl (nx_mem (i := 226) (by decide +kernel) rfl) (List.mem_of_getElem? (i := 18) rfl) (List.mem_of_getElem? (i := 17) rfl) (List.mem_of_getElem? (i := 19) rfl) (fr_preV (As := [.int x1]) (b := aP) (ci := 3) (q0 := 4) (wc := [(aP, .inr (3, [.int vMo, .int vSh, .ref aK, .ref aC, .ref aS])), (aK, .inr (2, [.int vKn, .ref aKd, .ref aKs])), (aKs, .inl (cI, 8, .inl fKs)), (aC, .inr (1, [.int vCn, .ref aCd])), (aS, .inr (4, [.int vVa, .int vCo, .int vBi, .int vPh, .ref aPr, .ref aHo, .ref aHe, .ref aSt, .ref aPb, .ref aPs])), (aHe, .inl (cI, 16, .inl fHe))]) hK hN hP hD [4, 5, 7, 8, 10, 13] (by decide) rfl rfl rfl) (n := 1) (by decide +kernel) ⟨Nat.le_of_ble_eq_true rfl, Nat.le_of_ble_eq_true rfl⟩ rfl hl.1 rfl (Nat.le_of_ble_eq_true rfl) dX5_kind_104 ⟨Nat.zero_le _, Nat.zero_le _⟩) hP hD hS hA [4, 5, 7, 8, 10, 13] rfl (c2 := 0) (s2 := 0) rfl rfl (fun H locs hP hS => ?_)
              refine lv_goto (tgt := 111) hx hb dX5_kind_107 (by decide) ?_
              exact hret r_104 111 ls H locs rfl dX5_kind_111 hP hD hS h
          · have h := (if_neg c8).symm.trans h
            have nc5 := lv_neT c5 (show (0 : Int32).toInt = 0 from rfl)
            have nc6 := lv_neT c6 (show (1 : Int32).toInt = 1 from rfl)
            have nc7 := lv_neT c7 (show (2 : Int32).toInt = 2 from rfl)
            have nc8 := lv_neT c8 (show (3 : Int32).toInt = 3 from rfl)
            refine lv_tableOut (tgt := 112) hx hb dX5_kind_17 (by omega) (by decide) ?_
            refine lv_bipush (v := (-2 : Int32)) hx hb dX5_kind_112 (by decide) ?_
            exact hret (-2 : Int32) 114 ls H locs rfl dX5_kind_114 hP hD hS h
  · have h := (if_pos c1).symm.trans h
    refine lv_iconst (v := (-1 : Int32)) hx hb dX5_kind_14 (by decide) ?_
    exact hret (-1 : Int32) 15 ls H locs rfl dX5_kind_15 hP hD hS h
def fX5_find (vKn : Int32) (fKd : Nat → Int32) (x1 : Int32) : Option (Int32) :=
  bd1 (fX5_areDots x1) fun r_1 =>
  if r_1 = 0 then
    some (-2 : Int32)
  else
    bd1 (fX2_numberOf vKn fKd x1) fun r_15 =>
    some r_15
abbrev rX5_find : Room := { frames := 1, cells := 0, slots := 0, locals := 22 }
set_option maxHeartbeats 4000000 in
set_option maxRecDepth 100000 in
theorem tX5_find {l : Launch} {D : va_G} {cI cZ cP : ClassId} (aX aI aB aW aP aK aKd aKs aC aCd aS aPr aHo aHe aSt aPb aPs : Nat) (fIm : Nat → Option Nat) (vSl : Int32) (fWo : Nat → Int32) (vMo : Int32) (vSh : Int32) (vKn : Int32) (fKd : Nat → Int32) (fKs : Nat → Int32) (vCn : Int32) (fCd : Nat → Int32) (vVa : Int32) (vCo : Int32) (vBi : Int32) (vPh : Int32) (fPr : Nat → Int32) (fHo : Nat → Int32) (fHe : Nat → Int32) (fSt : Nat → Int32) (fPb : Nat → Int32) (fPs : Nat → Int32) (x1 : Int32) (r : Int32) (h : fX5_find vKn fKd x1 = some r) : CtI l D cI cZ cP yX5_find wsX5_find rX5_find [.ref aX, .int x1] [(aX, .inr (5, [.ref aB, .ref aP, .ref aI])), (aI, .inl (cP, 2, .inr (.inr (.inr (.inr fIm))))), (aB, .inr (0, [.ref aP, .ref aS, .ref aW, .int vSl])), (aW, .inl (cI, 256, .inl fWo)), (aP, .inr (3, [.int vMo, .int vSh, .ref aK, .ref aC, .ref aS])), (aK, .inr (2, [.int vKn, .ref aKd, .ref aKs])), (aKd, .inl (cI, 8, .inl fKd)), (aKs, .inl (cI, 8, .inl fKs)), (aC, .inr (1, [.int vCn, .ref aCd])), (aCd, .inl (cI, 12, .inl fCd)), (aS, .inr (4, [.int vVa, .int vCo, .int vBi, .int vPh, .ref aPr, .ref aHo, .ref aHe, .ref aSt, .ref aPb, .ref aPs])), (aPr, .inl (cI, 16, .inl fPr)), (aHo, .inl (cI, 16, .inl fHo)), (aHe, .inl (cI, 16, .inl fHe)), (aSt, .inl (cI, 16, .inl fSt)), (aPb, .inl (cI, 16, .inl fPb)), (aPs, .inl (cI, 16, .inl fPs))] (fun _ : Unit => [(aX, .inr (5, [.ref aB, .ref aP, .ref aI])), (aI, .inl (cP, 2, .inr (.inr (.inr (.inr fIm))))), (aB, .inr (0, [.ref aP, .ref aS, .ref aW, .int vSl])), (aW, .inl (cI, 256, .inl fWo)), (aP, .inr (3, [.int vMo, .int vSh, .ref aK, .ref aC, .ref aS])), (aK, .inr (2, [.int vKn, .ref aKd, .ref aKs])), (aKd, .inl (cI, 8, .inl fKd)), (aKs, .inl (cI, 8, .inl fKs)), (aC, .inr (1, [.int vCn, .ref aCd])), (aCd, .inl (cI, 12, .inl fCd)), (aS, .inr (4, [.int vVa, .int vCo, .int vBi, .int vPh, .ref aPr, .ref aHo, .ref aHe, .ref aSt, .ref aPb, .ref aPs])), (aPr, .inl (cI, 16, .inl fPr)), (aHo, .inl (cI, 16, .inl fHo)), (aHe, .inl (cI, 16, .inl fHe)), (aSt, .inl (cI, 16, .inl fSt)), (aPb, .inl (cI, 16, .inl fPb)), (aPs, .inl (cI, 16, .inl fPs))]) r := by
  refine CtI.ofW (cc := cX5_find) (maxL := 2) (by decide) rfl (Nat.le_of_ble_eq_true rfl) (lv := [(0, .ref aX), (1, .int x1)]) rfl ?_
  intro p e s m args below meth c A Q ls hx hb hml hown hts hK hN hP hD hS hA hl hret0
  have hown : s.vm.findClass RX5 = some m.cls := hown
  have i2 : ∀ w ∈ wsX20, w ∈ wsX5_find := mem_ps [20, 21, 22] rfl
  have i3 : ∀ w ∈ wsX30, w ∈ wsX5_find := mem_ps [15, 16, 17, 18, 19] rfl
  have i5 : ∀ w ∈ wsX50, w ∈ wsX5_find := mem_ps [12, 13, 14] rfl
  have hret : ∀ (v : Int32) (pc : Nat) (ls : Array Slot) (H : Heap) (locs : List Loc), narrow .int (.int v) = .int v → decode cX5_find pc = .ok (.ireturn, 1) → va_P D vwCl [(aX, .inr (5, [.ref aB, .ref aP, .ref aI])), (aI, .inl (cP, 2, .inr (.inr (.inr (.inr fIm))))), (aB, .inr (0, [.ref aP, .ref aS, .ref aW, .int vSl])), (aW, .inl (cI, 256, .inl fWo)), (aP, .inr (3, [.int vMo, .int vSh, .ref aK, .ref aC, .ref aS])), (aK, .inr (2, [.int vKn, .ref aKd, .ref aKs])), (aKd, .inl (cI, 8, .inl fKd)), (aKs, .inl (cI, 8, .inl fKs)), (aC, .inr (1, [.int vCn, .ref aCd])), (aCd, .inl (cI, 12, .inl fCd)), (aS, .inr (4, [.int vVa, .int vCo, .int vBi, .int vPh, .ref aPr, .ref aHo, .ref aHe, .ref aSt, .ref aPb, .ref aPs])), (aPr, .inl (cI, 16, .inl fPr)), (aHo, .inl (cI, 16, .inl fHo)), (aHe, .inl (cI, 16, .inl fHe)), (aSt, .inl (cI, 16, .inl fSt)), (aPb, .inl (cI, 16, .inl fPb)), (aPs, .inl (cI, 16, .inl fPs))] H → va_D A [(aX, .inr (5, [.ref aB, .ref aP, .ref aI])), (aI, .inl (cP, 2, .inr (.inr (.inr (.inr fIm))))), (aB, .inr (0, [.ref aP, .ref aS, .ref aW, .int vSl])), (aW, .inl (cI, 256, .inl fWo)), (aP, .inr (3, [.int vMo, .int vSh, .ref aK, .ref aC, .ref aS])), (aK, .inr (2, [.int vKn, .ref aKd, .ref aKs])), (aKd, .inl (cI, 8, .inl fKd)), (aKs, .inl (cI, 8, .inl fKs)), (aC, .inr (1, [.int vCn, .ref aCd])), (aCd, .inl (cI, 12, .inl fCd)), (aS, .inr (4, [.int vVa, .int vCo, .int vBi, .int vPh, .ref aPr, .ref aHo, .ref aHe, .ref aSt, .ref aPb, .ref aPs])), (aPr, .inl (cI, 16, .inl fPr)), (aHo, .inl (cI, 16, .inl fHo)), (aHe, .inl (cI, 16, .inl fHe)), (aSt, .inl (cI, 16, .inl fSt)), (aPb, .inl (cI, 16, .inl fPb)), (aPs, .inl (cI, 16, .inl fPs))] → va_S A s.heap H locs → some v = some r → W p l e rX5_find s m args below meth c H locs 0 0 Q (F0 m pc ls [.int v]) := by
    intro v pc ls H locs hn hd hP hD hS h
    cases h
    exact hret0 pc ls H locs () hn hd hP hD hS
  clear hret0
  unfold fX5_find at h
  obtain ⟨H, hH⟩ : ∃ H, H = s.heap := ⟨_, rfl⟩
  have hP : va_P D vwCl [(aX, .inr (5, [.ref aB, .ref aP, .ref aI])), (aI, .inl (cP, 2, .inr (.inr (.inr (.inr fIm))))), (aB, .inr (0, [.ref aP, .ref aS, .ref aW, .int vSl])), (aW, .inl (cI, 256, .inl fWo)), (aP, .inr (3, [.int vMo, .int vSh, .ref aK, .ref aC, .ref aS])), (aK, .inr (2, [.int vKn, .ref aKd, .ref aKs])), (aKd, .inl (cI, 8, .inl fKd)), (aKs, .inl (cI, 8, .inl fKs)), (aC, .inr (1, [.int vCn, .ref aCd])), (aCd, .inl (cI, 12, .inl fCd)), (aS, .inr (4, [.int vVa, .int vCo, .int vBi, .int vPh, .ref aPr, .ref aHo, .ref aHe, .ref aSt, .ref aPb, .ref aPs])), (aPr, .inl (cI, 16, .inl fPr)), (aHo, .inl (cI, 16, .inl fHo)), (aHe, .inl (cI, 16, .inl fHe)), (aSt, .inl (cI, 16, .inl fSt)), (aPb, .inl (cI, 16, .inl fPb)), (aPs, .inl (cI, 16, .inl fPs))] H := by rw [hH]; exact hP
  obtain ⟨locs, hlocs⟩ : ∃ x : List Loc, x = [] := ⟨_, rfl⟩
  have hS : va_S A s.heap H locs := by rw [hH, hlocs]; exact hS
  suffices hgo : W p l e rX5_find s m args below meth c H locs 0 0 Q (F0 m 0 ls []) by rw [hH, hlocs] at hgo; exact hgo
  refine lv_iload_n hx hb dX5_find_0 rfl (lv_at hl 1 rfl) ?_
  obtain ⟨r_1, q_1, h⟩ := bd1_some h
  refine fr_ro_i (S := Unit) (wc := []) (fr_S (As := [.int x1]) (rest := []) ⟨hx, hb, hml, hown, hts⟩ (tX5_areDots x1 r_1 q_1) gX5_find_X5_areDots rfl (fr_pre (As := [.int x1]) (wc := []) hK hN hP hD [] (by decide) rfl) (n := 1) (by decide +kernel) ⟨Nat.le_of_ble_eq_true rfl, Nat.le_of_ble_eq_true rfl⟩ rfl hl.1 rfl (Nat.le_of_ble_eq_true rfl) dX5_find_1 ⟨Nat.zero_le _, Nat.zero_le _⟩) hP hD hS hA [] rfl (c2 := 0) (s2 := 0) rfl rfl (fun H locs hP hS => ?_)
  refine lv_if_eq (tgt := 21) hx hb dX5_find_4 (by decide) (fun c1 => ?_) (fun c1 => ?_)
  · have h := (if_pos c1).symm.trans h
    refine lv_bipush (v := (-2 : Int32)) hx hb dX5_find_21 (by decide) ?_
    exact hret (-2 : Int32) 23 ls H locs rfl dX5_find_23 hP hD hS h
  · have h := (if_neg c1).symm.trans h
    refine lv_aload_n hx hb dX5_find_7 rfl (lv_at hl 0 rfl) ?_
    refine va_get (D := D) (ci := 5) (v := .ref aP) (C := RX5) (T := TX5) (N := 3) hx hb hts i5 hown hK hP 0 rfl rfl 1 (by decide) (hts (.fieldLink RX5 20 RX5 "now" "LBidMosaic$Picture;") (List.mem_of_getElem? (i := 1) rfl)) (fun _ h9 => h9) rfl dX5_find_8 ?_
    refine va_getN (D := D) (ci := 3) (v := .ref aK) (C := RX3) (T := TX3) (N := 5) hx hb hts i3 hown hK hP 4 rfl rfl 2 (by decide) (hN.f (a := RX5) (i := 50) (b := RX3) (n := "kinds") (d := "LBidMosaic$Kinds;") (h := RX5) (nx_mem (i := 124) (by decide +kernel) rfl)) (fun _ h9 => h9) rfl dX5_find_11 ?_
    refine lv_iload_n hx hb dX5_find_14 rfl (lv_at hl 1 rfl) ?_
    obtain ⟨r_15, q_15, h⟩ := bd1_some h
    refine fr_ro_i (S := Unit) (wc := [(aK, .inr (2, [.int vKn, .ref aKd, .ref aKs])), (aKd, .inl (cI, 8, .inl fKd))]) (fr_VN (As := [.int x1]) (rest := []) (own := RX5) (host := RX5) (C := RX2) ⟨hx, hb, hml, hown, hts⟩ hN (tX2_numberOf aK aKd aKs vKn fKd x1 r_15 q_15) gX5_find_X2_numberOf_n64 rfl (nx_mem (i := 211) (by decide +kernel) rfl) (List.mem_of_getElem? (i := 7) rfl) (List.mem_of_getElem? (i := 6) rfl) (List.mem_of_getElem? (i := 8) rfl) (fr_preV (As := [.int x1]) (b := aK) (ci := 2) (q0 := 5) (wc := [(aK, .inr (2, [.int vKn, .ref aKd, .ref aKs])), (aKd, .inl (cI, 8, .inl fKd))]) hK hN hP hD [5, 6] (by decide) rfl rfl rfl) (n := 1) (by decide +kernel) ⟨Nat.le_of_ble_eq_true rfl, Nat.le_of_ble_eq_true rfl⟩ rfl hl.1 rfl (Nat.le_of_ble_eq_true rfl) dX5_find_15 ⟨Nat.zero_le _, Nat.zero_le _⟩) hP hD hS hA [5, 6] rfl (c2 := 0) (s2 := 0) rfl rfl (fun H locs hP hS => ?_)
    refine lv_goto (tgt := 23) hx hb dX5_find_18 (by decide) ?_
    exact hret r_15 23 ls H locs rfl dX5_find_23 hP hD hS h
def fX5_cell (vCn : Int32) (fCd : Nat → Int32) (vVa : Int32) (x1 : Int32) : Option (Int32 × Int32 × (Nat → Int32) × Int32) :=
  bd1 (fX5_areDots x1) fun r_1 =>
  if r_1 = 0 then
    some ((-2 : Int32), vCn, fCd, vVa)
  else
    if vCn < (12 : Int32) then
      bd2 (fX1_add vCn fCd x1) fun vCn_47 fCd_47 =>
      some (vCn_47, vCn_47, fCd_47, (0 : Int32))
    else
      some ((-4 : Int32), vCn, fCd, vVa)
abbrev rX5_cell : Room := { frames := 1, cells := 0, slots := 0, locals := 21 }
set_option maxHeartbeats 4000000 in
set_option maxRecDepth 100000 in
theorem tX5_cell {l : Launch} {D : va_G} {cI cZ cP : ClassId} (aX aI aB aW aP aK aKd aKs aC aCd aS aPr aHo aHe aSt aPb aPs : Nat) (fIm : Nat → Option Nat) (vSl : Int32) (fWo : Nat → Int32) (vMo : Int32) (vSh : Int32) (vKn : Int32) (fKd : Nat → Int32) (fKs : Nat → Int32) (vCn : Int32) (fCd : Nat → Int32) (vVa : Int32) (vCo : Int32) (vBi : Int32) (vPh : Int32) (fPr : Nat → Int32) (fHo : Nat → Int32) (fHe : Nat → Int32) (fSt : Nat → Int32) (fPb : Nat → Int32) (fPs : Nat → Int32) (x1 : Int32) (r : Int32) (oCn : Int32) (oCd : Nat → Int32) (oVa : Int32) (h : fX5_cell vCn fCd vVa x1 = some (r, oCn, oCd, oVa)) : CtI l D cI cZ cP yX5_cell wsX5_cell rX5_cell [.ref aX, .int x1] [(aX, .inr (5, [.ref aB, .ref aP, .ref aI])), (aI, .inl (cP, 2, .inr (.inr (.inr (.inr fIm))))), (aB, .inr (0, [.ref aP, .ref aS, .ref aW, .int vSl])), (aW, .inl (cI, 256, .inl fWo)), (aP, .inr (3, [.int vMo, .int vSh, .ref aK, .ref aC, .ref aS])), (aK, .inr (2, [.int vKn, .ref aKd, .ref aKs])), (aKd, .inl (cI, 8, .inl fKd)), (aKs, .inl (cI, 8, .inl fKs)), (aC, .inr (1, [.int vCn, .ref aCd])), (aCd, .inl (cI, 12, .inl fCd)), (aS, .inr (4, [.int vVa, .int vCo, .int vBi, .int vPh, .ref aPr, .ref aHo, .ref aHe, .ref aSt, .ref aPb, .ref aPs])), (aPr, .inl (cI, 16, .inl fPr)), (aHo, .inl (cI, 16, .inl fHo)), (aHe, .inl (cI, 16, .inl fHe)), (aSt, .inl (cI, 16, .inl fSt)), (aPb, .inl (cI, 16, .inl fPb)), (aPs, .inl (cI, 16, .inl fPs))] (fun _ : Unit => [(aX, .inr (5, [.ref aB, .ref aP, .ref aI])), (aI, .inl (cP, 2, .inr (.inr (.inr (.inr fIm))))), (aB, .inr (0, [.ref aP, .ref aS, .ref aW, .int vSl])), (aW, .inl (cI, 256, .inl fWo)), (aP, .inr (3, [.int vMo, .int vSh, .ref aK, .ref aC, .ref aS])), (aK, .inr (2, [.int vKn, .ref aKd, .ref aKs])), (aKd, .inl (cI, 8, .inl fKd)), (aKs, .inl (cI, 8, .inl fKs)), (aC, .inr (1, [.int oCn, .ref aCd])), (aCd, .inl (cI, 12, .inl oCd)), (aS, .inr (4, [.int oVa, .int vCo, .int vBi, .int vPh, .ref aPr, .ref aHo, .ref aHe, .ref aSt, .ref aPb, .ref aPs])), (aPr, .inl (cI, 16, .inl fPr)), (aHo, .inl (cI, 16, .inl fHo)), (aHe, .inl (cI, 16, .inl fHe)), (aSt, .inl (cI, 16, .inl fSt)), (aPb, .inl (cI, 16, .inl fPb)), (aPs, .inl (cI, 16, .inl fPs))]) r := by
  refine CtI.ofW (cc := cX5_cell) (maxL := 2) (by decide) rfl (Nat.le_of_ble_eq_true rfl) (lv := [(0, .ref aX), (1, .int x1)]) rfl ?_
  intro p e s m args below meth c A Q ls hx hb hml hown hts hK hN hP hD hS hA hl hret0
  have hown : s.vm.findClass RX5 = some m.cls := hown
  have i1 : ∀ w ∈ wsX10, w ∈ wsX5_cell := mem_ps [20, 21] rfl
  have i3 : ∀ w ∈ wsX30, w ∈ wsX5_cell := mem_ps [15, 16, 17, 18, 19] rfl
  have i4 : ∀ w ∈ wsX40, w ∈ wsX5_cell := mem_ps [22, 23, 24, 25, 26, 27, 28, 29, 30, 31] rfl
  have i5 : ∀ w ∈ wsX50, w ∈ wsX5_cell := mem_ps [12, 13, 14] rfl
  have hret : ∀ (v : Int32) (zCn : Int32) (zCd : Nat → Int32) (zVa : Int32) (pc : Nat) (ls : Array Slot) (H : Heap) (locs : List Loc), narrow .int (.int v) = .int v → decode cX5_cell pc = .ok (.ireturn, 1) → va_P D vwCl [(aX, .inr (5, [.ref aB, .ref aP, .ref aI])), (aI, .inl (cP, 2, .inr (.inr (.inr (.inr fIm))))), (aB, .inr (0, [.ref aP, .ref aS, .ref aW, .int vSl])), (aW, .inl (cI, 256, .inl fWo)), (aP, .inr (3, [.int vMo, .int vSh, .ref aK, .ref aC, .ref aS])), (aK, .inr (2, [.int vKn, .ref aKd, .ref aKs])), (aKd, .inl (cI, 8, .inl fKd)), (aKs, .inl (cI, 8, .inl fKs)), (aC, .inr (1, [.int zCn, .ref aCd])), (aCd, .inl (cI, 12, .inl zCd)), (aS, .inr (4, [.int zVa, .int vCo, .int vBi, .int vPh, .ref aPr, .ref aHo, .ref aHe, .ref aSt, .ref aPb, .ref aPs])), (aPr, .inl (cI, 16, .inl fPr)), (aHo, .inl (cI, 16, .inl fHo)), (aHe, .inl (cI, 16, .inl fHe)), (aSt, .inl (cI, 16, .inl fSt)), (aPb, .inl (cI, 16, .inl fPb)), (aPs, .inl (cI, 16, .inl fPs))] H → va_D A [(aX, .inr (5, [.ref aB, .ref aP, .ref aI])), (aI, .inl (cP, 2, .inr (.inr (.inr (.inr fIm))))), (aB, .inr (0, [.ref aP, .ref aS, .ref aW, .int vSl])), (aW, .inl (cI, 256, .inl fWo)), (aP, .inr (3, [.int vMo, .int vSh, .ref aK, .ref aC, .ref aS])), (aK, .inr (2, [.int vKn, .ref aKd, .ref aKs])), (aKd, .inl (cI, 8, .inl fKd)), (aKs, .inl (cI, 8, .inl fKs)), (aC, .inr (1, [.int zCn, .ref aCd])), (aCd, .inl (cI, 12, .inl zCd)), (aS, .inr (4, [.int zVa, .int vCo, .int vBi, .int vPh, .ref aPr, .ref aHo, .ref aHe, .ref aSt, .ref aPb, .ref aPs])), (aPr, .inl (cI, 16, .inl fPr)), (aHo, .inl (cI, 16, .inl fHo)), (aHe, .inl (cI, 16, .inl fHe)), (aSt, .inl (cI, 16, .inl fSt)), (aPb, .inl (cI, 16, .inl fPb)), (aPs, .inl (cI, 16, .inl fPs))] → va_S A s.heap H locs → some (v, zCn, zCd, zVa) = some (r, oCn, oCd, oVa) → W p l e rX5_cell s m args below meth c H locs 0 0 Q (F0 m pc ls [.int v]) := by
    intro v zCn zCd zVa pc ls H locs hn hd hP hD hS h
    cases h
    exact hret0 pc ls H locs () hn hd hP hD hS
  clear hret0
  unfold fX5_cell at h
  obtain ⟨H, hH⟩ : ∃ H, H = s.heap := ⟨_, rfl⟩
  have hP : va_P D vwCl [(aX, .inr (5, [.ref aB, .ref aP, .ref aI])), (aI, .inl (cP, 2, .inr (.inr (.inr (.inr fIm))))), (aB, .inr (0, [.ref aP, .ref aS, .ref aW, .int vSl])), (aW, .inl (cI, 256, .inl fWo)), (aP, .inr (3, [.int vMo, .int vSh, .ref aK, .ref aC, .ref aS])), (aK, .inr (2, [.int vKn, .ref aKd, .ref aKs])), (aKd, .inl (cI, 8, .inl fKd)), (aKs, .inl (cI, 8, .inl fKs)), (aC, .inr (1, [.int vCn, .ref aCd])), (aCd, .inl (cI, 12, .inl fCd)), (aS, .inr (4, [.int vVa, .int vCo, .int vBi, .int vPh, .ref aPr, .ref aHo, .ref aHe, .ref aSt, .ref aPb, .ref aPs])), (aPr, .inl (cI, 16, .inl fPr)), (aHo, .inl (cI, 16, .inl fHo)), (aHe, .inl (cI, 16, .inl fHe)), (aSt, .inl (cI, 16, .inl fSt)), (aPb, .inl (cI, 16, .inl fPb)), (aPs, .inl (cI, 16, .inl fPs))] H := by rw [hH]; exact hP
  obtain ⟨locs, hlocs⟩ : ∃ x : List Loc, x = [] := ⟨_, rfl⟩
  have hS : va_S A s.heap H locs := by rw [hH, hlocs]; exact hS
  suffices hgo : W p l e rX5_cell s m args below meth c H locs 0 0 Q (F0 m 0 ls []) by rw [hH, hlocs] at hgo; exact hgo
  refine lv_iload_n hx hb dX5_cell_0 rfl (lv_at hl 1 rfl) ?_
  obtain ⟨r_1, q_1, h⟩ := bd1_some h
  refine fr_ro_i (S := Unit) (wc := []) (fr_S (As := [.int x1]) (rest := []) ⟨hx, hb, hml, hown, hts⟩ (tX5_areDots x1 r_1 q_1) gX5_cell_X5_areDots rfl (fr_pre (As := [.int x1]) (wc := []) hK hN hP hD [] (by decide) rfl) (n := 1) (by decide +kernel) ⟨Nat.le_of_ble_eq_true rfl, Nat.le_of_ble_eq_true rfl⟩ rfl hl.1 rfl (Nat.le_of_ble_eq_true rfl) dX5_cell_1 ⟨Nat.zero_le _, Nat.zero_le _⟩) hP hD hS hA [] rfl (c2 := 0) (s2 := 0) rfl rfl (fun H locs hP hS => ?_)
  refine lv_if_ne (tgt := 10) hx hb dX5_cell_4 (by decide) (fun c1 => ?_) (fun c1 => ?_)
  · have h := (if_neg c1).symm.trans h
    refine lv_aload_n hx hb dX5_cell_10 rfl (lv_at hl 0 rfl) ?_
    refine va_get (D := D) (ci := 5) (v := .ref aP) (C := RX5) (T := TX5) (N := 3) hx hb hts i5 hown hK hP 0 rfl rfl 1 (by decide) (hts (.fieldLink RX5 20 RX5 "now" "LBidMosaic$Picture;") (List.mem_of_getElem? (i := 1) rfl)) (fun _ h9 => h9) rfl dX5_cell_11 ?_
    refine va_getN (D := D) (ci := 3) (v := .ref aC) (C := RX3) (T := TX3) (N := 5) hx hb hts i3 hown hK hP 4 rfl rfl 3 (by decide) (hN.f (a := RX5) (i := 95) (b := RX3) (n := "cells") (d := "LBidMosaic$Cells;") (h := RX5) (nx_mem (i := 127) (by decide +kernel) rfl)) (fun _ h9 => h9) rfl dX5_cell_14 ?_
    refine va_getN (D := D) (ci := 1) (v := .int vCn) (C := RX1) (T := TX1) (N := 2) hx hb hts i1 hown hK hP 8 rfl rfl 0 (by decide) (hN.f (a := RX5) (i := 99) (b := RX1) (n := "count") (d := "I") (h := RX5) (nx_mem (i := 60) (by decide +kernel) rfl)) (fun _ h9 => h9) rfl dX5_cell_17 ?_
    refine lv_bipush (v := (12 : Int32)) hx hb dX5_cell_20 (by decide) ?_
    refine lv_icmp_lt (tgt := 28) hx hb dX5_cell_22 (by decide) (fun c2 => ?_) (fun c2 => ?_)
    · have h := (if_pos c2).symm.trans h
      refine lv_aload_n hx hb dX5_cell_28 rfl (lv_at hl 0 rfl) ?_
      refine va_get (D := D) (ci := 5) (v := .ref aP) (C := RX5) (T := TX5) (N := 3) hx hb hts i5 hown hK hP 0 rfl rfl 1 (by decide) (hts (.fieldLink RX5 20 RX5 "now" "LBidMosaic$Picture;") (List.mem_of_getElem? (i := 1) rfl)) (fun _ h9 => h9) rfl dX5_cell_29 ?_
      refine va_getN (D := D) (ci := 3) (v := .ref aS) (C := RX3) (T := TX3) (N := 5) hx hb hts i3 hown hK hP 4 rfl rfl 4 (by decide) (hN.f (a := RX5) (i := 33) (b := RX3) (n := "sale") (d := "LBidMosaic$Sale;") (h := RX5) (nx_mem (i := 130) (by decide +kernel) rfl)) (fun _ h9 => h9) rfl dX5_cell_32 ?_
      refine lv_iconst (v := (0 : Int32)) hx hb dX5_cell_35 (by decide) ?_
      refine va_putN (D := D) (ci := 4) (v := .int (0 : Int32)) (ty := .boolean) (C := RX4) (T := TX4) (N := 10) hx hb hts i4 tyX4 tyX4_ok nmX4 hown hK hP hD hS 10 rfl rfl 0 (by decide) (hN.f (a := RX5) (i := 37) (b := RX4) (n := "valid") (d := "Z") (h := RX5) (nx_mem (i := 76) (by decide +kernel) rfl)) (fun _ h9 => h9) rfl (by decide +kernel) rfl rfl (Nat.le_of_ble_eq_true rfl) dX5_cell_36 (fun H locs hP hD hS => ?_)
      have hP : va_P D vwCl [(aX, .inr (5, [.ref aB, .ref aP, .ref aI])), (aI, .inl (cP, 2, .inr (.inr (.inr (.inr fIm))))), (aB, .inr (0, [.ref aP, .ref aS, .ref aW, .int vSl])), (aW, .inl (cI, 256, .inl fWo)), (aP, .inr (3, [.int vMo, .int vSh, .ref aK, .ref aC, .ref aS])), (aK, .inr (2, [.int vKn, .ref aKd, .ref aKs])), (aKd, .inl (cI, 8, .inl fKd)), (aKs, .inl (cI, 8, .inl fKs)), (aC, .inr (1, [.int vCn, .ref aCd])), (aCd, .inl (cI, 12, .inl fCd)), (aS, .inr (4, [.int (0 : Int32), .int vCo, .int vBi, .int vPh, .ref aPr, .ref aHo, .ref aHe, .ref aSt, .ref aPb, .ref aPs])), (aPr, .inl (cI, 16, .inl fPr)), (aHo, .inl (cI, 16, .inl fHo)), (aHe, .inl (cI, 16, .inl fHe)), (aSt, .inl (cI, 16, .inl fSt)), (aPb, .inl (cI, 16, .inl fPb)), (aPs, .inl (cI, 16, .inl fPs))] H := hP
      have hD : va_D A [(aX, .inr (5, [.ref aB, .ref aP, .ref aI])), (aI, .inl (cP, 2, .inr (.inr (.inr (.inr fIm))))), (aB, .inr (0, [.ref aP, .ref aS, .ref aW, .int vSl])), (aW, .inl (cI, 256, .inl fWo)), (aP, .inr (3, [.int vMo, .int vSh, .ref aK, .ref aC, .ref aS])), (aK, .inr (2, [.int vKn, .ref aKd, .ref aKs])), (aKd, .inl (cI, 8, .inl fKd)), (aKs, .inl (cI, 8, .inl fKs)), (aC, .inr (1, [.int vCn, .ref aCd])), (aCd, .inl (cI, 12, .inl fCd)), (aS, .inr (4, [.int (0 : Int32), .int vCo, .int vBi, .int vPh, .ref aPr, .ref aHo, .ref aHe, .ref aSt, .ref aPb, .ref aPs])), (aPr, .inl (cI, 16, .inl fPr)), (aHo, .inl (cI, 16, .inl fHo)), (aHe, .inl (cI, 16, .inl fHe)), (aSt, .inl (cI, 16, .inl fSt)), (aPb, .inl (cI, 16, .inl fPb)), (aPs, .inl (cI, 16, .inl fPs))] := hD
      refine lv_aload_n hx hb dX5_cell_39 rfl (lv_at hl 0 rfl) ?_
      refine va_get (D := D) (ci := 5) (v := .ref aP) (C := RX5) (T := TX5) (N := 3) hx hb hts i5 hown hK hP 0 rfl rfl 1 (by decide) (hts (.fieldLink RX5 20 RX5 "now" "LBidMosaic$Picture;") (List.mem_of_getElem? (i := 1) rfl)) (fun _ h9 => h9) rfl dX5_cell_40 ?_
      refine va_getN (D := D) (ci := 3) (v := .ref aC) (C := RX3) (T := TX3) (N := 5) hx hb hts i3 hown hK hP 4 rfl rfl 3 (by decide) (hN.f (a := RX5) (i := 95) (b := RX3) (n := "cells") (d := "LBidMosaic$Cells;") (h := RX5) (nx_mem (i := 127) (by decide +kernel) rfl)) (fun _ h9 => h9) rfl dX5_cell_43 ?_
      refine lv_iload_n hx hb dX5_cell_46 rfl (lv_at hl 1 rfl) ?_
      obtain ⟨vCn_47, fCd_47, q_47, h⟩ := bd2_some h
      refine fr_rw_v (S := Unit) (wc := [(aC, .inr (1, [.int vCn, .ref aCd])), (aCd, .inl (cI, 12, .inl fCd))]) (wc' := fun _ => [(aC, .inr (1, [.int vCn_47, .ref aCd])), (aCd, .inl (cI, 12, .inl fCd_47))]) (wr := [(aX, .inr (5, [.ref aB, .ref aP, .ref aI])), (aI, .inl (cP, 2, .inr (.inr (.inr (.inr fIm))))), (aB, .inr (0, [.ref aP, .ref aS, .ref aW, .int vSl])), (aW, .inl (cI, 256, .inl fWo)), (aP, .inr (3, [.int vMo, .int vSh, .ref aK, .ref aC, .ref aS])), (aK, .inr (2, [.int vKn, .ref aKd, .ref aKs])), (aKd, .inl (cI, 8, .inl fKd)), (aKs, .inl (cI, 8, .inl fKs)), (aS, .inr (4, [.int (0 : Int32), .int vCo, .int vBi, .int vPh, .ref aPr, .ref aHo, .ref aHe, .ref aSt, .ref aPb, .ref aPs])), (aPr, .inl (cI, 16, .inl fPr)), (aHo, .inl (cI, 16, .inl fHo)), (aHe, .inl (cI, 16, .inl fHe)), (aSt, .inl (cI, 16, .inl fSt)), (aPb, .inl (cI, 16, .inl fPb)), (aPs, .inl (cI, 16, .inl fPs))]) (w2 := fun _ => [(aX, .inr (5, [.ref aB, .ref aP, .ref aI])), (aI, .inl (cP, 2, .inr (.inr (.inr (.inr fIm))))), (aB, .inr (0, [.ref aP, .ref aS, .ref aW, .int vSl])), (aW, .inl (cI, 256, .inl fWo)), (aP, .inr (3, [.int vMo, .int vSh, .ref aK, .ref aC, .ref aS])), (aK, .inr (2, [.int vKn, .ref aKd, .ref aKs])), (aKd, .inl (cI, 8, .inl fKd)), (aKs, .inl (cI, 8, .inl fKs)), (aC, .inr (1, [.int vCn_47, .ref aCd])), (aCd, .inl (cI, 12, .inl fCd_47)), (aS, .inr (4, [.int (0 : Int32), .int vCo, .int vBi, .int vPh, .ref aPr, .ref aHo, .ref aHe, .ref aSt, .ref aPb, .ref aPs])), (aPr, .inl (cI, 16, .inl fPr)), (aHo, .inl (cI, 16, .inl fHo)), (aHe, .inl (cI, 16, .inl fHe)), (aSt, .inl (cI, 16, .inl fSt)), (aPb, .inl (cI, 16, .inl fPb)), (aPs, .inl (cI, 16, .inl fPs))]) (fr_VNv (As := [.int x1]) (rest := []) (own := RX5) (host := RX5) (C := RX1) ⟨hx, hb, hml, hown, hts⟩ hN (tX1_add aC aCd vCn fCd x1 vCn_47 fCd_47 q_47) gX5_cell_X1_add_n102 rfl (nx_mem (i := 253) (by decide +kernel) rfl) (List.mem_of_getElem? (i := 7) rfl) (List.mem_of_getElem? (i := 6) rfl) (List.mem_of_getElem? (i := 8) rfl) (fr_preV (As := [.int x1]) (b := aC) (ci := 1) (q0 := 8) (wc := [(aC, .inr (1, [.int vCn, .ref aCd])), (aCd, .inl (cI, 12, .inl fCd))]) hK hN hP hD [8, 9] (by decide) rfl rfl rfl) (n := 1) (by decide +kernel) ⟨Nat.le_of_ble_eq_true rfl, Nat.le_of_ble_eq_true rfl⟩ rfl hl.1 rfl (Nat.le_of_ble_eq_true rfl) dX5_cell_47 ⟨Nat.zero_le _, Nat.zero_le _⟩) hP hD hS hA [8, 9] [0, 1, 2, 3, 4, 5, 6, 7, 10, 11, 12, 13, 14, 15, 16] [0, 1, 2, 3, 4, 5, 6, 7, 15, 16, 8, 9, 10, 11, 12, 13, 14] rfl rfl (by decide) (by decide) (by decide) (fun _ => rfl) (c2 := 0) (s2 := 0) rfl rfl (fun _ H locs hP hD hS => ?_)
      refine lv_aload_n hx hb dX5_cell_50 rfl (lv_at hl 0 rfl) ?_
      refine va_get (D := D) (ci := 5) (v := .ref aP) (C := RX5) (T := TX5) (N := 3) hx hb hts i5 hown hK hP 0 rfl rfl 1 (by decide) (hts (.fieldLink RX5 20 RX5 "now" "LBidMosaic$Picture;") (List.mem_of_getElem? (i := 1) rfl)) (fun _ h9 => h9) rfl dX5_cell_51 ?_
      refine va_getN (D := D) (ci := 3) (v := .ref aC) (C := RX3) (T := TX3) (N := 5) hx hb hts i3 hown hK hP 4 rfl rfl 3 (by decide) (hN.f (a := RX5) (i := 95) (b := RX3) (n := "cells") (d := "LBidMosaic$Cells;") (h := RX5) (nx_mem (i := 127) (by decide +kernel) rfl)) (fun _ h9 => h9) rfl dX5_cell_54 ?_
      refine va_getN (D := D) (ci := 1) (v := .int vCn_47) (C := RX1) (T := TX1) (N := 2) hx hb hts i1 hown hK hP 8 rfl rfl 0 (by decide) (hN.f (a := RX5) (i := 99) (b := RX1) (n := "count") (d := "I") (h := RX5) (nx_mem (i := 60) (by decide +kernel) rfl)) (fun _ h9 => h9) rfl dX5_cell_57 ?_
      exact hret vCn_47 vCn_47 fCd_47 (0 : Int32) 60 ls H locs rfl dX5_cell_60 hP hD hS h
    · have h := (if_neg c2).symm.trans h
      refine lv_bipush (v := (-4 : Int32)) hx hb dX5_cell_25 (by decide) ?_
      exact hret (-4 : Int32) vCn fCd vVa 27 ls H locs rfl dX5_cell_27 hP hD hS h
  · have h := (if_pos c1).symm.trans h
    refine lv_bipush (v := (-2 : Int32)) hx hb dX5_cell_7 (by decide) ?_
    exact hret (-2 : Int32) vCn fCd vVa 9 ls H locs rfl dX5_cell_9 hP hD hS h
def fX5_change (vCn : Int32) (fCd : Nat → Int32) (vCo : Int32) (x1 : Int32) (x2 : Int32) : Option (Int32 × (Nat → Int32) × Int32) :=
  bd1 (fX1_has vCn x1) fun r_8 =>
  if r_8 = 0 then
    some ((-1 : Int32), fCd, vCo)
  else
    bd1 (fX5_areDots x2) fun r_17 =>
    if r_17 = 0 then
      some ((-2 : Int32), fCd, vCo)
    else
      if x1 < 0 ∨ 12 ≤ x1.toNatClampNeg then none else
      bdv (fCd x1.toNatClampNeg) fun x3_38 =>
      if x2 = x3_38 then
        some (x3_38, fCd, vCo)
      else
        if x1 < 0 ∨ 12 ≤ x1.toNatClampNeg then none else
        some (x3_38, upd fCd x1.toNatClampNeg x2, (0 : Int32))
abbrev rX5_change : Room := { frames := 1, cells := 0, slots := 0, locals := 21 }
set_option maxHeartbeats 4000000 in
set_option maxRecDepth 100000 in
theorem tX5_change {l : Launch} {D : va_G} {cI cZ cP : ClassId} (aX aI aB aW aP aK aKd aKs aC aCd aS aPr aHo aHe aSt aPb aPs : Nat) (fIm : Nat → Option Nat) (vSl : Int32) (fWo : Nat → Int32) (vMo : Int32) (vSh : Int32) (vKn : Int32) (fKd : Nat → Int32) (fKs : Nat → Int32) (vCn : Int32) (fCd : Nat → Int32) (vVa : Int32) (vCo : Int32) (vBi : Int32) (vPh : Int32) (fPr : Nat → Int32) (fHo : Nat → Int32) (fHe : Nat → Int32) (fSt : Nat → Int32) (fPb : Nat → Int32) (fPs : Nat → Int32) (x1 : Int32) (x2 : Int32) (r : Int32) (oCd : Nat → Int32) (oCo : Int32) (h : fX5_change vCn fCd vCo x1 x2 = some (r, oCd, oCo)) : CtI l D cI cZ cP yX5_change wsX5_change rX5_change [.ref aX, .int x1, .int x2] [(aX, .inr (5, [.ref aB, .ref aP, .ref aI])), (aI, .inl (cP, 2, .inr (.inr (.inr (.inr fIm))))), (aB, .inr (0, [.ref aP, .ref aS, .ref aW, .int vSl])), (aW, .inl (cI, 256, .inl fWo)), (aP, .inr (3, [.int vMo, .int vSh, .ref aK, .ref aC, .ref aS])), (aK, .inr (2, [.int vKn, .ref aKd, .ref aKs])), (aKd, .inl (cI, 8, .inl fKd)), (aKs, .inl (cI, 8, .inl fKs)), (aC, .inr (1, [.int vCn, .ref aCd])), (aCd, .inl (cI, 12, .inl fCd)), (aS, .inr (4, [.int vVa, .int vCo, .int vBi, .int vPh, .ref aPr, .ref aHo, .ref aHe, .ref aSt, .ref aPb, .ref aPs])), (aPr, .inl (cI, 16, .inl fPr)), (aHo, .inl (cI, 16, .inl fHo)), (aHe, .inl (cI, 16, .inl fHe)), (aSt, .inl (cI, 16, .inl fSt)), (aPb, .inl (cI, 16, .inl fPb)), (aPs, .inl (cI, 16, .inl fPs))] (fun _ : Unit => [(aX, .inr (5, [.ref aB, .ref aP, .ref aI])), (aI, .inl (cP, 2, .inr (.inr (.inr (.inr fIm))))), (aB, .inr (0, [.ref aP, .ref aS, .ref aW, .int vSl])), (aW, .inl (cI, 256, .inl fWo)), (aP, .inr (3, [.int vMo, .int vSh, .ref aK, .ref aC, .ref aS])), (aK, .inr (2, [.int vKn, .ref aKd, .ref aKs])), (aKd, .inl (cI, 8, .inl fKd)), (aKs, .inl (cI, 8, .inl fKs)), (aC, .inr (1, [.int vCn, .ref aCd])), (aCd, .inl (cI, 12, .inl oCd)), (aS, .inr (4, [.int vVa, .int oCo, .int vBi, .int vPh, .ref aPr, .ref aHo, .ref aHe, .ref aSt, .ref aPb, .ref aPs])), (aPr, .inl (cI, 16, .inl fPr)), (aHo, .inl (cI, 16, .inl fHo)), (aHe, .inl (cI, 16, .inl fHe)), (aSt, .inl (cI, 16, .inl fSt)), (aPb, .inl (cI, 16, .inl fPb)), (aPs, .inl (cI, 16, .inl fPs))]) r := by
  refine CtI.ofW (cc := cX5_change) (maxL := 4) (by decide) rfl (Nat.le_of_ble_eq_true rfl) (lv := [(0, .ref aX), (1, .int x1), (2, .int x2)]) rfl ?_
  intro p e s m args below meth c A Q ls hx hb hml hown hts hK hN hP hD hS hA hl hret0
  have hown : s.vm.findClass RX5 = some m.cls := hown
  have i1 : ∀ w ∈ wsX10, w ∈ wsX5_change := mem_ps [19, 20] rfl
  have i3 : ∀ w ∈ wsX30, w ∈ wsX5_change := mem_ps [14, 15, 16, 17, 18] rfl
  have i4 : ∀ w ∈ wsX40, w ∈ wsX5_change := mem_ps [21, 22, 23, 24, 25, 26, 27, 28, 29, 30] rfl
  have i5 : ∀ w ∈ wsX50, w ∈ wsX5_change := mem_ps [11, 12, 13] rfl
  have hret : ∀ (v : Int32) (zCd : Nat → Int32) (zCo : Int32) (pc : Nat) (ls : Array Slot) (H : Heap) (locs : List Loc), narrow .int (.int v) = .int v → decode cX5_change pc = .ok (.ireturn, 1) → va_P D vwCl [(aX, .inr (5, [.ref aB, .ref aP, .ref aI])), (aI, .inl (cP, 2, .inr (.inr (.inr (.inr fIm))))), (aB, .inr (0, [.ref aP, .ref aS, .ref aW, .int vSl])), (aW, .inl (cI, 256, .inl fWo)), (aP, .inr (3, [.int vMo, .int vSh, .ref aK, .ref aC, .ref aS])), (aK, .inr (2, [.int vKn, .ref aKd, .ref aKs])), (aKd, .inl (cI, 8, .inl fKd)), (aKs, .inl (cI, 8, .inl fKs)), (aC, .inr (1, [.int vCn, .ref aCd])), (aCd, .inl (cI, 12, .inl zCd)), (aS, .inr (4, [.int vVa, .int zCo, .int vBi, .int vPh, .ref aPr, .ref aHo, .ref aHe, .ref aSt, .ref aPb, .ref aPs])), (aPr, .inl (cI, 16, .inl fPr)), (aHo, .inl (cI, 16, .inl fHo)), (aHe, .inl (cI, 16, .inl fHe)), (aSt, .inl (cI, 16, .inl fSt)), (aPb, .inl (cI, 16, .inl fPb)), (aPs, .inl (cI, 16, .inl fPs))] H → va_D A [(aX, .inr (5, [.ref aB, .ref aP, .ref aI])), (aI, .inl (cP, 2, .inr (.inr (.inr (.inr fIm))))), (aB, .inr (0, [.ref aP, .ref aS, .ref aW, .int vSl])), (aW, .inl (cI, 256, .inl fWo)), (aP, .inr (3, [.int vMo, .int vSh, .ref aK, .ref aC, .ref aS])), (aK, .inr (2, [.int vKn, .ref aKd, .ref aKs])), (aKd, .inl (cI, 8, .inl fKd)), (aKs, .inl (cI, 8, .inl fKs)), (aC, .inr (1, [.int vCn, .ref aCd])), (aCd, .inl (cI, 12, .inl zCd)), (aS, .inr (4, [.int vVa, .int zCo, .int vBi, .int vPh, .ref aPr, .ref aHo, .ref aHe, .ref aSt, .ref aPb, .ref aPs])), (aPr, .inl (cI, 16, .inl fPr)), (aHo, .inl (cI, 16, .inl fHo)), (aHe, .inl (cI, 16, .inl fHe)), (aSt, .inl (cI, 16, .inl fSt)), (aPb, .inl (cI, 16, .inl fPb)), (aPs, .inl (cI, 16, .inl fPs))] → va_S A s.heap H locs → some (v, zCd, zCo) = some (r, oCd, oCo) → W p l e rX5_change s m args below meth c H locs 0 0 Q (F0 m pc ls [.int v]) := by
    intro v zCd zCo pc ls H locs hn hd hP hD hS h
    cases h
    exact hret0 pc ls H locs () hn hd hP hD hS
  clear hret0
  unfold fX5_change at h
  obtain ⟨H, hH⟩ : ∃ H, H = s.heap := ⟨_, rfl⟩
  have hP : va_P D vwCl [(aX, .inr (5, [.ref aB, .ref aP, .ref aI])), (aI, .inl (cP, 2, .inr (.inr (.inr (.inr fIm))))), (aB, .inr (0, [.ref aP, .ref aS, .ref aW, .int vSl])), (aW, .inl (cI, 256, .inl fWo)), (aP, .inr (3, [.int vMo, .int vSh, .ref aK, .ref aC, .ref aS])), (aK, .inr (2, [.int vKn, .ref aKd, .ref aKs])), (aKd, .inl (cI, 8, .inl fKd)), (aKs, .inl (cI, 8, .inl fKs)), (aC, .inr (1, [.int vCn, .ref aCd])), (aCd, .inl (cI, 12, .inl fCd)), (aS, .inr (4, [.int vVa, .int vCo, .int vBi, .int vPh, .ref aPr, .ref aHo, .ref aHe, .ref aSt, .ref aPb, .ref aPs])), (aPr, .inl (cI, 16, .inl fPr)), (aHo, .inl (cI, 16, .inl fHo)), (aHe, .inl (cI, 16, .inl fHe)), (aSt, .inl (cI, 16, .inl fSt)), (aPb, .inl (cI, 16, .inl fPb)), (aPs, .inl (cI, 16, .inl fPs))] H := by rw [hH]; exact hP
  obtain ⟨locs, hlocs⟩ : ∃ x : List Loc, x = [] := ⟨_, rfl⟩
  have hS : va_S A s.heap H locs := by rw [hH, hlocs]; exact hS
  suffices hgo : W p l e rX5_change s m args below meth c H locs 0 0 Q (F0 m 0 ls []) by rw [hH, hlocs] at hgo; exact hgo
  refine lv_aload_n hx hb dX5_change_0 rfl (lv_at hl 0 rfl) ?_
  refine va_get (D := D) (ci := 5) (v := .ref aP) (C := RX5) (T := TX5) (N := 3) hx hb hts i5 hown hK hP 0 rfl rfl 1 (by decide) (hts (.fieldLink RX5 20 RX5 "now" "LBidMosaic$Picture;") (List.mem_of_getElem? (i := 1) rfl)) (fun _ h9 => h9) rfl dX5_change_1 ?_
  refine va_getN (D := D) (ci := 3) (v := .ref aC) (C := RX3) (T := TX3) (N := 5) hx hb hts i3 hown hK hP 4 rfl rfl 3 (by decide) (hN.f (a := RX5) (i := 95) (b := RX3) (n := "cells") (d := "LBidMosaic$Cells;") (h := RX5) (nx_mem (i := 127) (by decide +kernel) rfl)) (fun _ h9 => h9) rfl dX5_change_4 ?_
  refine lv_iload_n hx hb dX5_change_7 rfl (lv_at hl 1 rfl) ?_
  obtain ⟨r_8, q_8, h⟩ := bd1_some h
  refine fr_ro_i (S := Unit) (wc := [(aC, .inr (1, [.int vCn, .ref aCd]))]) (fr_VN (As := [.int x1]) (rest := []) (own := RX5) (host := RX5) (C := RX1) ⟨hx, hb, hml, hown, hts⟩ hN (tX1_has aC aCd vCn x1 r_8 q_8) gX5_change_X1_has_n104 rfl (nx_mem (i := 261) (by decide +kernel) rfl) (List.mem_of_getElem? (i := 3) rfl) (List.mem_of_getElem? (i := 2) rfl) (List.mem_of_getElem? (i := 4) rfl) (fr_preV (As := [.int x1]) (b := aC) (ci := 1) (q0 := 8) (wc := [(aC, .inr (1, [.int vCn, .ref aCd]))]) hK hN hP hD [8] (by decide) rfl rfl rfl) (n := 1) (by decide +kernel) ⟨Nat.le_of_ble_eq_true rfl, Nat.le_of_ble_eq_true rfl⟩ rfl hl.1 rfl (Nat.le_of_ble_eq_true rfl) dX5_change_8 ⟨Nat.zero_le _, Nat.zero_le _⟩) hP hD hS hA [8] rfl (c2 := 0) (s2 := 0) rfl rfl (fun H locs hP hS => ?_)
  refine lv_if_ne (tgt := 16) hx hb dX5_change_11 (by decide) (fun c1 => ?_) (fun c1 => ?_)
  · have h := (if_neg c1).symm.trans h
    refine lv_iload_n hx hb dX5_change_16 rfl (lv_at hl 2 rfl) ?_
    obtain ⟨r_17, q_17, h⟩ := bd1_some h
    refine fr_ro_i (S := Unit) (wc := []) (fr_S (As := [.int x2]) (rest := []) ⟨hx, hb, hml, hown, hts⟩ (tX5_areDots x2 r_17 q_17) gX5_change_X5_areDots rfl (fr_pre (As := [.int x2]) (wc := []) hK hN hP hD [] (by decide) rfl) (n := 1) (by decide +kernel) ⟨Nat.le_of_ble_eq_true rfl, Nat.le_of_ble_eq_true rfl⟩ rfl hl.1 rfl (Nat.le_of_ble_eq_true rfl) dX5_change_17 ⟨Nat.zero_le _, Nat.zero_le _⟩) hP hD hS hA [] rfl (c2 := 0) (s2 := 0) rfl rfl (fun H locs hP hS => ?_)
    refine lv_if_ne (tgt := 26) hx hb dX5_change_20 (by decide) (fun c2 => ?_) (fun c2 => ?_)
    · have h := (if_neg c2).symm.trans h
      refine lv_aload_n hx hb dX5_change_26 rfl (lv_at hl 0 rfl) ?_
      refine va_get (D := D) (ci := 5) (v := .ref aP) (C := RX5) (T := TX5) (N := 3) hx hb hts i5 hown hK hP 0 rfl rfl 1 (by decide) (hts (.fieldLink RX5 20 RX5 "now" "LBidMosaic$Picture;") (List.mem_of_getElem? (i := 1) rfl)) (fun _ h9 => h9) rfl dX5_change_27 ?_
      refine va_getN (D := D) (ci := 3) (v := .ref aC) (C := RX3) (T := TX3) (N := 5) hx hb hts i3 hown hK hP 4 rfl rfl 3 (by decide) (hN.f (a := RX5) (i := 95) (b := RX3) (n := "cells") (d := "LBidMosaic$Cells;") (h := RX5) (nx_mem (i := 127) (by decide +kernel) rfl)) (fun _ h9 => h9) rfl dX5_change_30 ?_
      refine va_getN (D := D) (ci := 1) (v := .ref aCd) (C := RX1) (T := TX1) (N := 2) hx hb hts i1 hown hK hP 8 rfl rfl 1 (by decide) (hN.f (a := RX5) (i := 105) (b := RX1) (n := "dots") (d := "[I") (h := RX5) (nx_mem (i := 63) (by decide +kernel) rfl)) (fun _ h9 => h9) rfl dX5_change_33 ?_
      refine lv_iload_n hx hb dX5_change_36 rfl (lv_at hl 1 rfl) ?_
      obtain ⟨g3, h⟩ := no_some h
      refine va_iald hx hb hK hP 9 0 rfl rfl g3 dX5_change_37 ?_
      refine lv_topi (fun x3_38 ex3_38 => ?_)
      have h := bdv_some ex3_38 h
      refine lv_istore_n (lv' := [(3, .int x3_38), (0, .ref aX), (1, .int x1), (2, .int x2)]) hx hb dX5_change_38 rfl hl (by decide) rfl (fun ls hl => ?_)
      refine lv_iload_n hx hb dX5_change_39 rfl (lv_at hl 3 rfl) ?_
      refine lv_iload_n hx hb dX5_change_40 rfl (lv_at hl 0 rfl) ?_
      refine lv_icmp_eq (tgt := 68) hx hb dX5_change_41 (by decide) (fun c4 => ?_) (fun c4 => ?_)
      · have h := (if_pos c4).symm.trans h
        refine lv_iload_n hx hb dX5_change_68 rfl (lv_at hl 0 rfl) ?_
        exact hret x3_38 fCd vCo 69 ls H locs rfl dX5_change_69 hP hD hS h
      · have h := (if_neg c4).symm.trans h
        refine lv_aload_n hx hb dX5_change_44 rfl (lv_at hl 1 rfl) ?_
        refine va_get (D := D) (ci := 5) (v := .ref aP) (C := RX5) (T := TX5) (N := 3) hx hb hts i5 hown hK hP 0 rfl rfl 1 (by decide) (hts (.fieldLink RX5 20 RX5 "now" "LBidMosaic$Picture;") (List.mem_of_getElem? (i := 1) rfl)) (fun _ h9 => h9) rfl dX5_change_45 ?_
        refine va_getN (D := D) (ci := 3) (v := .ref aC) (C := RX3) (T := TX3) (N := 5) hx hb hts i3 hown hK hP 4 rfl rfl 3 (by decide) (hN.f (a := RX5) (i := 95) (b := RX3) (n := "cells") (d := "LBidMosaic$Cells;") (h := RX5) (nx_mem (i := 127) (by decide +kernel) rfl)) (fun _ h9 => h9) rfl dX5_change_48 ?_
        refine va_getN (D := D) (ci := 1) (v := .ref aCd) (C := RX1) (T := TX1) (N := 2) hx hb hts i1 hown hK hP 8 rfl rfl 1 (by decide) (hN.f (a := RX5) (i := 105) (b := RX1) (n := "dots") (d := "[I") (h := RX5) (nx_mem (i := 63) (by decide +kernel) rfl)) (fun _ h9 => h9) rfl dX5_change_51 ?_
        refine lv_iload_n hx hb dX5_change_54 rfl (lv_at hl 2 rfl) ?_
        refine lv_iload_n hx hb dX5_change_55 rfl (lv_at hl 3 rfl) ?_
        obtain ⟨g5, h⟩ := no_some h
        refine va_iast hx hb hK hP hD hS 9 0 rfl rfl g5 dX5_change_56 (fun H locs hP hD hS => ?_)
        have hP : va_P D vwCl [(aX, .inr (5, [.ref aB, .ref aP, .ref aI])), (aI, .inl (cP, 2, .inr (.inr (.inr (.inr fIm))))), (aB, .inr (0, [.ref aP, .ref aS, .ref aW, .int vSl])), (aW, .inl (cI, 256, .inl fWo)), (aP, .inr (3, [.int vMo, .int vSh, .ref aK, .ref aC, .ref aS])), (aK, .inr (2, [.int vKn, .ref aKd, .ref aKs])), (aKd, .inl (cI, 8, .inl fKd)), (aKs, .inl (cI, 8, .inl fKs)), (aC, .inr (1, [.int vCn, .ref aCd])), (aCd, .inl (cI, 12, .inl (upd fCd x1.toNatClampNeg x2))), (aS, .inr (4, [.int vVa, .int vCo, .int vBi, .int vPh, .ref aPr, .ref aHo, .ref aHe, .ref aSt, .ref aPb, .ref aPs])), (aPr, .inl (cI, 16, .inl fPr)), (aHo, .inl (cI, 16, .inl fHo)), (aHe, .inl (cI, 16, .inl fHe)), (aSt, .inl (cI, 16, .inl fSt)), (aPb, .inl (cI, 16, .inl fPb)), (aPs, .inl (cI, 16, .inl fPs))] H := hP
        have hD : va_D A [(aX, .inr (5, [.ref aB, .ref aP, .ref aI])), (aI, .inl (cP, 2, .inr (.inr (.inr (.inr fIm))))), (aB, .inr (0, [.ref aP, .ref aS, .ref aW, .int vSl])), (aW, .inl (cI, 256, .inl fWo)), (aP, .inr (3, [.int vMo, .int vSh, .ref aK, .ref aC, .ref aS])), (aK, .inr (2, [.int vKn, .ref aKd, .ref aKs])), (aKd, .inl (cI, 8, .inl fKd)), (aKs, .inl (cI, 8, .inl fKs)), (aC, .inr (1, [.int vCn, .ref aCd])), (aCd, .inl (cI, 12, .inl (upd fCd x1.toNatClampNeg x2))), (aS, .inr (4, [.int vVa, .int vCo, .int vBi, .int vPh, .ref aPr, .ref aHo, .ref aHe, .ref aSt, .ref aPb, .ref aPs])), (aPr, .inl (cI, 16, .inl fPr)), (aHo, .inl (cI, 16, .inl fHo)), (aHe, .inl (cI, 16, .inl fHe)), (aSt, .inl (cI, 16, .inl fSt)), (aPb, .inl (cI, 16, .inl fPb)), (aPs, .inl (cI, 16, .inl fPs))] := hD
        refine lv_aload_n hx hb dX5_change_57 rfl (lv_at hl 1 rfl) ?_
        refine va_get (D := D) (ci := 5) (v := .ref aP) (C := RX5) (T := TX5) (N := 3) hx hb hts i5 hown hK hP 0 rfl rfl 1 (by decide) (hts (.fieldLink RX5 20 RX5 "now" "LBidMosaic$Picture;") (List.mem_of_getElem? (i := 1) rfl)) (fun _ h9 => h9) rfl dX5_change_58 ?_
        refine va_getN (D := D) (ci := 3) (v := .ref aS) (C := RX3) (T := TX3) (N := 5) hx hb hts i3 hown hK hP 4 rfl rfl 4 (by decide) (hN.f (a := RX5) (i := 33) (b := RX3) (n := "sale") (d := "LBidMosaic$Sale;") (h := RX5) (nx_mem (i := 130) (by decide +kernel) rfl)) (fun _ h9 => h9) rfl dX5_change_61 ?_
        refine lv_iconst (v := (0 : Int32)) hx hb dX5_change_64 (by decide) ?_
        refine va_putN (D := D) (ci := 4) (v := .int (0 : Int32)) (ty := .boolean) (C := RX4) (T := TX4) (N := 10) hx hb hts i4 tyX4 tyX4_ok nmX4 hown hK hP hD hS 10 rfl rfl 1 (by decide) (hN.f (a := RX5) (i := 106) (b := RX4) (n := "content") (d := "Z") (h := RX5) (nx_mem (i := 78) (by decide +kernel) rfl)) (fun _ h9 => h9) rfl (by decide +kernel) rfl rfl (Nat.le_of_ble_eq_true rfl) dX5_change_65 (fun H locs hP hD hS => ?_)
        have hP : va_P D vwCl [(aX, .inr (5, [.ref aB, .ref aP, .ref aI])), (aI, .inl (cP, 2, .inr (.inr (.inr (.inr fIm))))), (aB, .inr (0, [.ref aP, .ref aS, .ref aW, .int vSl])), (aW, .inl (cI, 256, .inl fWo)), (aP, .inr (3, [.int vMo, .int vSh, .ref aK, .ref aC, .ref aS])), (aK, .inr (2, [.int vKn, .ref aKd, .ref aKs])), (aKd, .inl (cI, 8, .inl fKd)), (aKs, .inl (cI, 8, .inl fKs)), (aC, .inr (1, [.int vCn, .ref aCd])), (aCd, .inl (cI, 12, .inl (upd fCd x1.toNatClampNeg x2))), (aS, .inr (4, [.int vVa, .int (0 : Int32), .int vBi, .int vPh, .ref aPr, .ref aHo, .ref aHe, .ref aSt, .ref aPb, .ref aPs])), (aPr, .inl (cI, 16, .inl fPr)), (aHo, .inl (cI, 16, .inl fHo)), (aHe, .inl (cI, 16, .inl fHe)), (aSt, .inl (cI, 16, .inl fSt)), (aPb, .inl (cI, 16, .inl fPb)), (aPs, .inl (cI, 16, .inl fPs))] H := hP
        have hD : va_D A [(aX, .inr (5, [.ref aB, .ref aP, .ref aI])), (aI, .inl (cP, 2, .inr (.inr (.inr (.inr fIm))))), (aB, .inr (0, [.ref aP, .ref aS, .ref aW, .int vSl])), (aW, .inl (cI, 256, .inl fWo)), (aP, .inr (3, [.int vMo, .int vSh, .ref aK, .ref aC, .ref aS])), (aK, .inr (2, [.int vKn, .ref aKd, .ref aKs])), (aKd, .inl (cI, 8, .inl fKd)), (aKs, .inl (cI, 8, .inl fKs)), (aC, .inr (1, [.int vCn, .ref aCd])), (aCd, .inl (cI, 12, .inl (upd fCd x1.toNatClampNeg x2))), (aS, .inr (4, [.int vVa, .int (0 : Int32), .int vBi, .int vPh, .ref aPr, .ref aHo, .ref aHe, .ref aSt, .ref aPb, .ref aPs])), (aPr, .inl (cI, 16, .inl fPr)), (aHo, .inl (cI, 16, .inl fHo)), (aHe, .inl (cI, 16, .inl fHe)), (aSt, .inl (cI, 16, .inl fSt)), (aPb, .inl (cI, 16, .inl fPb)), (aPs, .inl (cI, 16, .inl fPs))] := hD
        refine lv_iload_n hx hb dX5_change_68 rfl (lv_at hl 0 rfl) ?_
        exact hret x3_38 (upd fCd x1.toNatClampNeg x2) (0 : Int32) 69 ls H locs rfl dX5_change_69 hP hD hS h
    · have h := (if_pos c2).symm.trans h
      refine lv_bipush (v := (-2 : Int32)) hx hb dX5_change_23 (by decide) ?_
      exact hret (-2 : Int32) fCd vCo 25 ls H locs rfl dX5_change_25 hP hD hS h
  · have h := (if_pos c1).symm.trans h
    refine lv_iconst (v := (-1 : Int32)) hx hb dX5_change_14 (by decide) ?_
    exact hret (-1 : Int32) fCd vCo 15 ls H locs rfl dX5_change_15 hP hD hS h
def fX5_remove (vCn : Int32) (fCd : Nat → Int32) (vVa : Int32) (x1 : Int32) : Option (Int32 × Int32 × (Nat → Int32) × Int32) :=
  bd1 (fX1_has vCn x1) fun r_8 =>
  if r_8 = 0 then
    some ((-1 : Int32), vCn, fCd, vVa)
  else
    bd2 (fX1_takeOut vCn fCd x1) fun vCn_35 fCd_35 =>
    some (vCn_35, vCn_35, fCd_35, (0 : Int32))
abbrev rX5_remove : Room := { frames := 2, cells := 0, slots := 0, locals := 43 }
set_option maxHeartbeats 4000000 in
set_option maxRecDepth 100000 in
theorem tX5_remove {l : Launch} {D : va_G} {cI cZ cP : ClassId} (aX aI aB aW aP aK aKd aKs aC aCd aS aPr aHo aHe aSt aPb aPs : Nat) (fIm : Nat → Option Nat) (vSl : Int32) (fWo : Nat → Int32) (vMo : Int32) (vSh : Int32) (vKn : Int32) (fKd : Nat → Int32) (fKs : Nat → Int32) (vCn : Int32) (fCd : Nat → Int32) (vVa : Int32) (vCo : Int32) (vBi : Int32) (vPh : Int32) (fPr : Nat → Int32) (fHo : Nat → Int32) (fHe : Nat → Int32) (fSt : Nat → Int32) (fPb : Nat → Int32) (fPs : Nat → Int32) (x1 : Int32) (r : Int32) (oCn : Int32) (oCd : Nat → Int32) (oVa : Int32) (h : fX5_remove vCn fCd vVa x1 = some (r, oCn, oCd, oVa)) : CtI l D cI cZ cP yX5_remove wsX5_remove rX5_remove [.ref aX, .int x1] [(aX, .inr (5, [.ref aB, .ref aP, .ref aI])), (aI, .inl (cP, 2, .inr (.inr (.inr (.inr fIm))))), (aB, .inr (0, [.ref aP, .ref aS, .ref aW, .int vSl])), (aW, .inl (cI, 256, .inl fWo)), (aP, .inr (3, [.int vMo, .int vSh, .ref aK, .ref aC, .ref aS])), (aK, .inr (2, [.int vKn, .ref aKd, .ref aKs])), (aKd, .inl (cI, 8, .inl fKd)), (aKs, .inl (cI, 8, .inl fKs)), (aC, .inr (1, [.int vCn, .ref aCd])), (aCd, .inl (cI, 12, .inl fCd)), (aS, .inr (4, [.int vVa, .int vCo, .int vBi, .int vPh, .ref aPr, .ref aHo, .ref aHe, .ref aSt, .ref aPb, .ref aPs])), (aPr, .inl (cI, 16, .inl fPr)), (aHo, .inl (cI, 16, .inl fHo)), (aHe, .inl (cI, 16, .inl fHe)), (aSt, .inl (cI, 16, .inl fSt)), (aPb, .inl (cI, 16, .inl fPb)), (aPs, .inl (cI, 16, .inl fPs))] (fun _ : Unit => [(aX, .inr (5, [.ref aB, .ref aP, .ref aI])), (aI, .inl (cP, 2, .inr (.inr (.inr (.inr fIm))))), (aB, .inr (0, [.ref aP, .ref aS, .ref aW, .int vSl])), (aW, .inl (cI, 256, .inl fWo)), (aP, .inr (3, [.int vMo, .int vSh, .ref aK, .ref aC, .ref aS])), (aK, .inr (2, [.int vKn, .ref aKd, .ref aKs])), (aKd, .inl (cI, 8, .inl fKd)), (aKs, .inl (cI, 8, .inl fKs)), (aC, .inr (1, [.int oCn, .ref aCd])), (aCd, .inl (cI, 12, .inl oCd)), (aS, .inr (4, [.int oVa, .int vCo, .int vBi, .int vPh, .ref aPr, .ref aHo, .ref aHe, .ref aSt, .ref aPb, .ref aPs])), (aPr, .inl (cI, 16, .inl fPr)), (aHo, .inl (cI, 16, .inl fHo)), (aHe, .inl (cI, 16, .inl fHe)), (aSt, .inl (cI, 16, .inl fSt)), (aPb, .inl (cI, 16, .inl fPb)), (aPs, .inl (cI, 16, .inl fPs))]) r := by
  refine CtI.ofW (cc := cX5_remove) (maxL := 2) (by decide) rfl (Nat.le_of_ble_eq_true rfl) (lv := [(0, .ref aX), (1, .int x1)]) rfl ?_
  intro p e s m args below meth c A Q ls hx hb hml hown hts hK hN hP hD hS hA hl hret0
  have hown : s.vm.findClass RX5 = some m.cls := hown
  have i1 : ∀ w ∈ wsX10, w ∈ wsX5_remove := mem_ps [30, 31] rfl
  have i3 : ∀ w ∈ wsX30, w ∈ wsX5_remove := mem_ps [15, 16, 17, 18, 19] rfl
  have i4 : ∀ w ∈ wsX40, w ∈ wsX5_remove := mem_ps [20, 21, 22, 23, 24, 25, 26, 27, 28, 29] rfl
  have i5 : ∀ w ∈ wsX50, w ∈ wsX5_remove := mem_ps [12, 13, 14] rfl
  have hret : ∀ (v : Int32) (zCn : Int32) (zCd : Nat → Int32) (zVa : Int32) (pc : Nat) (ls : Array Slot) (H : Heap) (locs : List Loc), narrow .int (.int v) = .int v → decode cX5_remove pc = .ok (.ireturn, 1) → va_P D vwCl [(aX, .inr (5, [.ref aB, .ref aP, .ref aI])), (aI, .inl (cP, 2, .inr (.inr (.inr (.inr fIm))))), (aB, .inr (0, [.ref aP, .ref aS, .ref aW, .int vSl])), (aW, .inl (cI, 256, .inl fWo)), (aP, .inr (3, [.int vMo, .int vSh, .ref aK, .ref aC, .ref aS])), (aK, .inr (2, [.int vKn, .ref aKd, .ref aKs])), (aKd, .inl (cI, 8, .inl fKd)), (aKs, .inl (cI, 8, .inl fKs)), (aC, .inr (1, [.int zCn, .ref aCd])), (aCd, .inl (cI, 12, .inl zCd)), (aS, .inr (4, [.int zVa, .int vCo, .int vBi, .int vPh, .ref aPr, .ref aHo, .ref aHe, .ref aSt, .ref aPb, .ref aPs])), (aPr, .inl (cI, 16, .inl fPr)), (aHo, .inl (cI, 16, .inl fHo)), (aHe, .inl (cI, 16, .inl fHe)), (aSt, .inl (cI, 16, .inl fSt)), (aPb, .inl (cI, 16, .inl fPb)), (aPs, .inl (cI, 16, .inl fPs))] H → va_D A [(aX, .inr (5, [.ref aB, .ref aP, .ref aI])), (aI, .inl (cP, 2, .inr (.inr (.inr (.inr fIm))))), (aB, .inr (0, [.ref aP, .ref aS, .ref aW, .int vSl])), (aW, .inl (cI, 256, .inl fWo)), (aP, .inr (3, [.int vMo, .int vSh, .ref aK, .ref aC, .ref aS])), (aK, .inr (2, [.int vKn, .ref aKd, .ref aKs])), (aKd, .inl (cI, 8, .inl fKd)), (aKs, .inl (cI, 8, .inl fKs)), (aC, .inr (1, [.int zCn, .ref aCd])), (aCd, .inl (cI, 12, .inl zCd)), (aS, .inr (4, [.int zVa, .int vCo, .int vBi, .int vPh, .ref aPr, .ref aHo, .ref aHe, .ref aSt, .ref aPb, .ref aPs])), (aPr, .inl (cI, 16, .inl fPr)), (aHo, .inl (cI, 16, .inl fHo)), (aHe, .inl (cI, 16, .inl fHe)), (aSt, .inl (cI, 16, .inl fSt)), (aPb, .inl (cI, 16, .inl fPb)), (aPs, .inl (cI, 16, .inl fPs))] → va_S A s.heap H locs → some (v, zCn, zCd, zVa) = some (r, oCn, oCd, oVa) → W p l e rX5_remove s m args below meth c H locs 0 0 Q (F0 m pc ls [.int v]) := by
    intro v zCn zCd zVa pc ls H locs hn hd hP hD hS h
    cases h
    exact hret0 pc ls H locs () hn hd hP hD hS
  clear hret0
  unfold fX5_remove at h
  obtain ⟨H, hH⟩ : ∃ H, H = s.heap := ⟨_, rfl⟩
  have hP : va_P D vwCl [(aX, .inr (5, [.ref aB, .ref aP, .ref aI])), (aI, .inl (cP, 2, .inr (.inr (.inr (.inr fIm))))), (aB, .inr (0, [.ref aP, .ref aS, .ref aW, .int vSl])), (aW, .inl (cI, 256, .inl fWo)), (aP, .inr (3, [.int vMo, .int vSh, .ref aK, .ref aC, .ref aS])), (aK, .inr (2, [.int vKn, .ref aKd, .ref aKs])), (aKd, .inl (cI, 8, .inl fKd)), (aKs, .inl (cI, 8, .inl fKs)), (aC, .inr (1, [.int vCn, .ref aCd])), (aCd, .inl (cI, 12, .inl fCd)), (aS, .inr (4, [.int vVa, .int vCo, .int vBi, .int vPh, .ref aPr, .ref aHo, .ref aHe, .ref aSt, .ref aPb, .ref aPs])), (aPr, .inl (cI, 16, .inl fPr)), (aHo, .inl (cI, 16, .inl fHo)), (aHe, .inl (cI, 16, .inl fHe)), (aSt, .inl (cI, 16, .inl fSt)), (aPb, .inl (cI, 16, .inl fPb)), (aPs, .inl (cI, 16, .inl fPs))] H := by rw [hH]; exact hP
  obtain ⟨locs, hlocs⟩ : ∃ x : List Loc, x = [] := ⟨_, rfl⟩
  have hS : va_S A s.heap H locs := by rw [hH, hlocs]; exact hS
  suffices hgo : W p l e rX5_remove s m args below meth c H locs 0 0 Q (F0 m 0 ls []) by rw [hH, hlocs] at hgo; exact hgo
  refine lv_aload_n hx hb dX5_remove_0 rfl (lv_at hl 0 rfl) ?_
  refine va_get (D := D) (ci := 5) (v := .ref aP) (C := RX5) (T := TX5) (N := 3) hx hb hts i5 hown hK hP 0 rfl rfl 1 (by decide) (hts (.fieldLink RX5 20 RX5 "now" "LBidMosaic$Picture;") (List.mem_of_getElem? (i := 1) rfl)) (fun _ h9 => h9) rfl dX5_remove_1 ?_
  refine va_getN (D := D) (ci := 3) (v := .ref aC) (C := RX3) (T := TX3) (N := 5) hx hb hts i3 hown hK hP 4 rfl rfl 3 (by decide) (hN.f (a := RX5) (i := 95) (b := RX3) (n := "cells") (d := "LBidMosaic$Cells;") (h := RX5) (nx_mem (i := 127) (by decide +kernel) rfl)) (fun _ h9 => h9) rfl dX5_remove_4 ?_
  refine lv_iload_n hx hb dX5_remove_7 rfl (lv_at hl 1 rfl) ?_
  obtain ⟨r_8, q_8, h⟩ := bd1_some h
  refine fr_ro_i (S := Unit) (wc := [(aC, .inr (1, [.int vCn, .ref aCd]))]) (fr_VN (As := [.int x1]) (rest := []) (own := RX5) (host := RX5) (C := RX1) ⟨hx, hb, hml, hown, hts⟩ hN (tX1_has aC aCd vCn x1 r_8 q_8) gX5_remove_X1_has_n104 rfl (nx_mem (i := 261) (by decide +kernel) rfl) (List.mem_of_getElem? (i := 3) rfl) (List.mem_of_getElem? (i := 2) rfl) (List.mem_of_getElem? (i := 4) rfl) (fr_preV (As := [.int x1]) (b := aC) (ci := 1) (q0 := 8) (wc := [(aC, .inr (1, [.int vCn, .ref aCd]))]) hK hN hP hD [8] (by decide) rfl rfl rfl) (n := 1) (by decide +kernel) ⟨Nat.le_of_ble_eq_true rfl, Nat.le_of_ble_eq_true rfl⟩ rfl hl.1 rfl (Nat.le_of_ble_eq_true rfl) dX5_remove_8 ⟨Nat.zero_le _, Nat.zero_le _⟩) hP hD hS hA [8] rfl (c2 := 0) (s2 := 0) rfl rfl (fun H locs hP hS => ?_)
  refine lv_if_ne (tgt := 16) hx hb dX5_remove_11 (by decide) (fun c1 => ?_) (fun c1 => ?_)
  · have h := (if_neg c1).symm.trans h
    refine lv_aload_n hx hb dX5_remove_16 rfl (lv_at hl 0 rfl) ?_
    refine va_get (D := D) (ci := 5) (v := .ref aP) (C := RX5) (T := TX5) (N := 3) hx hb hts i5 hown hK hP 0 rfl rfl 1 (by decide) (hts (.fieldLink RX5 20 RX5 "now" "LBidMosaic$Picture;") (List.mem_of_getElem? (i := 1) rfl)) (fun _ h9 => h9) rfl dX5_remove_17 ?_
    refine va_getN (D := D) (ci := 3) (v := .ref aS) (C := RX3) (T := TX3) (N := 5) hx hb hts i3 hown hK hP 4 rfl rfl 4 (by decide) (hN.f (a := RX5) (i := 33) (b := RX3) (n := "sale") (d := "LBidMosaic$Sale;") (h := RX5) (nx_mem (i := 130) (by decide +kernel) rfl)) (fun _ h9 => h9) rfl dX5_remove_20 ?_
    refine lv_iconst (v := (0 : Int32)) hx hb dX5_remove_23 (by decide) ?_
    refine va_putN (D := D) (ci := 4) (v := .int (0 : Int32)) (ty := .boolean) (C := RX4) (T := TX4) (N := 10) hx hb hts i4 tyX4 tyX4_ok nmX4 hown hK hP hD hS 10 rfl rfl 0 (by decide) (hN.f (a := RX5) (i := 37) (b := RX4) (n := "valid") (d := "Z") (h := RX5) (nx_mem (i := 76) (by decide +kernel) rfl)) (fun _ h9 => h9) rfl (by decide +kernel) rfl rfl (Nat.le_of_ble_eq_true rfl) dX5_remove_24 (fun H locs hP hD hS => ?_)
    have hP : va_P D vwCl [(aX, .inr (5, [.ref aB, .ref aP, .ref aI])), (aI, .inl (cP, 2, .inr (.inr (.inr (.inr fIm))))), (aB, .inr (0, [.ref aP, .ref aS, .ref aW, .int vSl])), (aW, .inl (cI, 256, .inl fWo)), (aP, .inr (3, [.int vMo, .int vSh, .ref aK, .ref aC, .ref aS])), (aK, .inr (2, [.int vKn, .ref aKd, .ref aKs])), (aKd, .inl (cI, 8, .inl fKd)), (aKs, .inl (cI, 8, .inl fKs)), (aC, .inr (1, [.int vCn, .ref aCd])), (aCd, .inl (cI, 12, .inl fCd)), (aS, .inr (4, [.int (0 : Int32), .int vCo, .int vBi, .int vPh, .ref aPr, .ref aHo, .ref aHe, .ref aSt, .ref aPb, .ref aPs])), (aPr, .inl (cI, 16, .inl fPr)), (aHo, .inl (cI, 16, .inl fHo)), (aHe, .inl (cI, 16, .inl fHe)), (aSt, .inl (cI, 16, .inl fSt)), (aPb, .inl (cI, 16, .inl fPb)), (aPs, .inl (cI, 16, .inl fPs))] H := hP
    have hD : va_D A [(aX, .inr (5, [.ref aB, .ref aP, .ref aI])), (aI, .inl (cP, 2, .inr (.inr (.inr (.inr fIm))))), (aB, .inr (0, [.ref aP, .ref aS, .ref aW, .int vSl])), (aW, .inl (cI, 256, .inl fWo)), (aP, .inr (3, [.int vMo, .int vSh, .ref aK, .ref aC, .ref aS])), (aK, .inr (2, [.int vKn, .ref aKd, .ref aKs])), (aKd, .inl (cI, 8, .inl fKd)), (aKs, .inl (cI, 8, .inl fKs)), (aC, .inr (1, [.int vCn, .ref aCd])), (aCd, .inl (cI, 12, .inl fCd)), (aS, .inr (4, [.int (0 : Int32), .int vCo, .int vBi, .int vPh, .ref aPr, .ref aHo, .ref aHe, .ref aSt, .ref aPb, .ref aPs])), (aPr, .inl (cI, 16, .inl fPr)), (aHo, .inl (cI, 16, .inl fHo)), (aHe, .inl (cI, 16, .inl fHe)), (aSt, .inl (cI, 16, .inl fSt)), (aPb, .inl (cI, 16, .inl fPb)), (aPs, .inl (cI, 16, .inl fPs))] := hD
    refine lv_aload_n hx hb dX5_remove_27 rfl (lv_at hl 0 rfl) ?_
    refine va_get (D := D) (ci := 5) (v := .ref aP) (C := RX5) (T := TX5) (N := 3) hx hb hts i5 hown hK hP 0 rfl rfl 1 (by decide) (hts (.fieldLink RX5 20 RX5 "now" "LBidMosaic$Picture;") (List.mem_of_getElem? (i := 1) rfl)) (fun _ h9 => h9) rfl dX5_remove_28 ?_
    refine va_getN (D := D) (ci := 3) (v := .ref aC) (C := RX3) (T := TX3) (N := 5) hx hb hts i3 hown hK hP 4 rfl rfl 3 (by decide) (hN.f (a := RX5) (i := 95) (b := RX3) (n := "cells") (d := "LBidMosaic$Cells;") (h := RX5) (nx_mem (i := 127) (by decide +kernel) rfl)) (fun _ h9 => h9) rfl dX5_remove_31 ?_
    refine lv_iload_n hx hb dX5_remove_34 rfl (lv_at hl 1 rfl) ?_
    obtain ⟨vCn_35, fCd_35, q_35, h⟩ := bd2_some h
    refine fr_rw_v (S := Unit) (wc := [(aC, .inr (1, [.int vCn, .ref aCd])), (aCd, .inl (cI, 12, .inl fCd))]) (wc' := fun _ => [(aC, .inr (1, [.int vCn_35, .ref aCd])), (aCd, .inl (cI, 12, .inl fCd_35))]) (wr := [(aX, .inr (5, [.ref aB, .ref aP, .ref aI])), (aI, .inl (cP, 2, .inr (.inr (.inr (.inr fIm))))), (aB, .inr (0, [.ref aP, .ref aS, .ref aW, .int vSl])), (aW, .inl (cI, 256, .inl fWo)), (aP, .inr (3, [.int vMo, .int vSh, .ref aK, .ref aC, .ref aS])), (aK, .inr (2, [.int vKn, .ref aKd, .ref aKs])), (aKd, .inl (cI, 8, .inl fKd)), (aKs, .inl (cI, 8, .inl fKs)), (aS, .inr (4, [.int (0 : Int32), .int vCo, .int vBi, .int vPh, .ref aPr, .ref aHo, .ref aHe, .ref aSt, .ref aPb, .ref aPs])), (aPr, .inl (cI, 16, .inl fPr)), (aHo, .inl (cI, 16, .inl fHo)), (aHe, .inl (cI, 16, .inl fHe)), (aSt, .inl (cI, 16, .inl fSt)), (aPb, .inl (cI, 16, .inl fPb)), (aPs, .inl (cI, 16, .inl fPs))]) (w2 := fun _ => [(aX, .inr (5, [.ref aB, .ref aP, .ref aI])), (aI, .inl (cP, 2, .inr (.inr (.inr (.inr fIm))))), (aB, .inr (0, [.ref aP, .ref aS, .ref aW, .int vSl])), (aW, .inl (cI, 256, .inl fWo)), (aP, .inr (3, [.int vMo, .int vSh, .ref aK, .ref aC, .ref aS])), (aK, .inr (2, [.int vKn, .ref aKd, .ref aKs])), (aKd, .inl (cI, 8, .inl fKd)), (aKs, .inl (cI, 8, .inl fKs)), (aC, .inr (1, [.int vCn_35, .ref aCd])), (aCd, .inl (cI, 12, .inl fCd_35)), (aS, .inr (4, [.int (0 : Int32), .int vCo, .int vBi, .int vPh, .ref aPr, .ref aHo, .ref aHe, .ref aSt, .ref aPb, .ref aPs])), (aPr, .inl (cI, 16, .inl fPr)), (aHo, .inl (cI, 16, .inl fHo)), (aHe, .inl (cI, 16, .inl fHe)), (aSt, .inl (cI, 16, .inl fSt)), (aPb, .inl (cI, 16, .inl fPb)), (aPs, .inl (cI, 16, .inl fPs))]) (fr_VNv (As := [.int x1]) (rest := []) (own := RX5) (host := RX5) (C := RX1) ⟨hx, hb, hml, hown, hts⟩ hN (tX1_takeOut aC aCd vCn fCd x1 vCn_35 fCd_35 q_35) gX5_remove_X1_takeOut_n109 rfl (nx_mem (i := 269) (by decide +kernel) rfl) (List.mem_of_getElem? (i := 3) rfl) (List.mem_of_getElem? (i := 7) rfl) (List.mem_of_getElem? (i := 8) rfl) (fr_preV (As := [.int x1]) (b := aC) (ci := 1) (q0 := 8) (wc := [(aC, .inr (1, [.int vCn, .ref aCd])), (aCd, .inl (cI, 12, .inl fCd))]) hK hN hP hD [8, 9] (by decide) rfl rfl rfl) (n := 1) (by decide +kernel) ⟨Nat.le_of_ble_eq_true rfl, Nat.le_of_ble_eq_true rfl⟩ rfl hl.1 rfl (Nat.le_of_ble_eq_true rfl) dX5_remove_35 ⟨Nat.zero_le _, Nat.zero_le _⟩) hP hD hS hA [8, 9] [0, 1, 2, 3, 4, 5, 6, 7, 10, 11, 12, 13, 14, 15, 16] [0, 1, 2, 3, 4, 5, 6, 7, 15, 16, 8, 9, 10, 11, 12, 13, 14] rfl rfl (by decide) (by decide) (by decide) (fun _ => rfl) (c2 := 0) (s2 := 0) rfl rfl (fun _ H locs hP hD hS => ?_)
    refine lv_aload_n hx hb dX5_remove_38 rfl (lv_at hl 0 rfl) ?_
    refine va_get (D := D) (ci := 5) (v := .ref aP) (C := RX5) (T := TX5) (N := 3) hx hb hts i5 hown hK hP 0 rfl rfl 1 (by decide) (hts (.fieldLink RX5 20 RX5 "now" "LBidMosaic$Picture;") (List.mem_of_getElem? (i := 1) rfl)) (fun _ h9 => h9) rfl dX5_remove_39 ?_
    refine va_getN (D := D) (ci := 3) (v := .ref aC) (C := RX3) (T := TX3) (N := 5) hx hb hts i3 hown hK hP 4 rfl rfl 3 (by decide) (hN.f (a := RX5) (i := 95) (b := RX3) (n := "cells") (d := "LBidMosaic$Cells;") (h := RX5) (nx_mem (i := 127) (by decide +kernel) rfl)) (fun _ h9 => h9) rfl dX5_remove_42 ?_
    refine va_getN (D := D) (ci := 1) (v := .int vCn_35) (C := RX1) (T := TX1) (N := 2) hx hb hts i1 hown hK hP 8 rfl rfl 0 (by decide) (hN.f (a := RX5) (i := 99) (b := RX1) (n := "count") (d := "I") (h := RX5) (nx_mem (i := 60) (by decide +kernel) rfl)) (fun _ h9 => h9) rfl dX5_remove_45 ?_
    exact hret vCn_35 vCn_35 fCd_35 (0 : Int32) 48 ls H locs rfl dX5_remove_48 hP hD hS h
  · have h := (if_pos c1).symm.trans h
    refine lv_iconst (v := (-1 : Int32)) hx hb dX5_remove_14 (by decide) ?_
    exact hret (-1 : Int32) vCn fCd vVa 15 ls H locs rfl dX5_remove_15 hP hD hS h
def fX5_difference (vMo : Int32) (vKn : Int32) (fKd : Nat → Int32) (vCn : Int32) (fCd : Nat → Int32) (x1 : Int32) (x2 : Int32) : Option (Int32) :=
  bd1 (fX1_has vCn x1) fun r_8 =>
  if r_8 = 0 then
    some (-1 : Int32)
  else
    bd1 (fX2_has vKn x2) fun r_22 =>
    if r_22 = 0 then
      some (-1 : Int32)
    else
      bd1 (fX3_apart vMo vKn fKd vCn fCd x1 x2) fun r_36 =>
      some r_36
abbrev rX5_difference : Room := { frames := 3, cells := 0, slots := 0, locals := 62 }
set_option maxHeartbeats 4000000 in
set_option maxRecDepth 100000 in
theorem tX5_difference {l : Launch} {D : va_G} {cI cZ cP : ClassId} (aX aI aB aW aP aK aKd aKs aC aCd aS aPr aHo aHe aSt aPb aPs : Nat) (fIm : Nat → Option Nat) (vSl : Int32) (fWo : Nat → Int32) (vMo : Int32) (vSh : Int32) (vKn : Int32) (fKd : Nat → Int32) (fKs : Nat → Int32) (vCn : Int32) (fCd : Nat → Int32) (vVa : Int32) (vCo : Int32) (vBi : Int32) (vPh : Int32) (fPr : Nat → Int32) (fHo : Nat → Int32) (fHe : Nat → Int32) (fSt : Nat → Int32) (fPb : Nat → Int32) (fPs : Nat → Int32) (x1 : Int32) (x2 : Int32) (r : Int32) (h : fX5_difference vMo vKn fKd vCn fCd x1 x2 = some r) : CtI l D cI cZ cP yX5_difference wsX5_difference rX5_difference [.ref aX, .int x1, .int x2] [(aX, .inr (5, [.ref aB, .ref aP, .ref aI])), (aI, .inl (cP, 2, .inr (.inr (.inr (.inr fIm))))), (aB, .inr (0, [.ref aP, .ref aS, .ref aW, .int vSl])), (aW, .inl (cI, 256, .inl fWo)), (aP, .inr (3, [.int vMo, .int vSh, .ref aK, .ref aC, .ref aS])), (aK, .inr (2, [.int vKn, .ref aKd, .ref aKs])), (aKd, .inl (cI, 8, .inl fKd)), (aKs, .inl (cI, 8, .inl fKs)), (aC, .inr (1, [.int vCn, .ref aCd])), (aCd, .inl (cI, 12, .inl fCd)), (aS, .inr (4, [.int vVa, .int vCo, .int vBi, .int vPh, .ref aPr, .ref aHo, .ref aHe, .ref aSt, .ref aPb, .ref aPs])), (aPr, .inl (cI, 16, .inl fPr)), (aHo, .inl (cI, 16, .inl fHo)), (aHe, .inl (cI, 16, .inl fHe)), (aSt, .inl (cI, 16, .inl fSt)), (aPb, .inl (cI, 16, .inl fPb)), (aPs, .inl (cI, 16, .inl fPs))] (fun _ : Unit => [(aX, .inr (5, [.ref aB, .ref aP, .ref aI])), (aI, .inl (cP, 2, .inr (.inr (.inr (.inr fIm))))), (aB, .inr (0, [.ref aP, .ref aS, .ref aW, .int vSl])), (aW, .inl (cI, 256, .inl fWo)), (aP, .inr (3, [.int vMo, .int vSh, .ref aK, .ref aC, .ref aS])), (aK, .inr (2, [.int vKn, .ref aKd, .ref aKs])), (aKd, .inl (cI, 8, .inl fKd)), (aKs, .inl (cI, 8, .inl fKs)), (aC, .inr (1, [.int vCn, .ref aCd])), (aCd, .inl (cI, 12, .inl fCd)), (aS, .inr (4, [.int vVa, .int vCo, .int vBi, .int vPh, .ref aPr, .ref aHo, .ref aHe, .ref aSt, .ref aPb, .ref aPs])), (aPr, .inl (cI, 16, .inl fPr)), (aHo, .inl (cI, 16, .inl fHo)), (aHe, .inl (cI, 16, .inl fHe)), (aSt, .inl (cI, 16, .inl fSt)), (aPb, .inl (cI, 16, .inl fPb)), (aPs, .inl (cI, 16, .inl fPs))]) r := by
  refine CtI.ofW (cc := cX5_difference) (maxL := 3) (by decide) rfl (Nat.le_of_ble_eq_true rfl) (lv := [(0, .ref aX), (1, .int x1), (2, .int x2)]) rfl ?_
  intro p e s m args below meth c A Q ls hx hb hml hown hts hK hN hP hD hS hA hl hret0
  have hown : s.vm.findClass RX5 = some m.cls := hown
  have i1 : ∀ w ∈ wsX10, w ∈ wsX5_difference := mem_ps [34, 35] rfl
  have i2 : ∀ w ∈ wsX20, w ∈ wsX5_difference := mem_ps [36, 37, 38] rfl
  have i3 : ∀ w ∈ wsX30, w ∈ wsX5_difference := mem_ps [29, 30, 31, 32, 33] rfl
  have i5 : ∀ w ∈ wsX50, w ∈ wsX5_difference := mem_ps [26, 27, 28] rfl
  have hret : ∀ (v : Int32) (pc : Nat) (ls : Array Slot) (H : Heap) (locs : List Loc), narrow .int (.int v) = .int v → decode cX5_difference pc = .ok (.ireturn, 1) → va_P D vwCl [(aX, .inr (5, [.ref aB, .ref aP, .ref aI])), (aI, .inl (cP, 2, .inr (.inr (.inr (.inr fIm))))), (aB, .inr (0, [.ref aP, .ref aS, .ref aW, .int vSl])), (aW, .inl (cI, 256, .inl fWo)), (aP, .inr (3, [.int vMo, .int vSh, .ref aK, .ref aC, .ref aS])), (aK, .inr (2, [.int vKn, .ref aKd, .ref aKs])), (aKd, .inl (cI, 8, .inl fKd)), (aKs, .inl (cI, 8, .inl fKs)), (aC, .inr (1, [.int vCn, .ref aCd])), (aCd, .inl (cI, 12, .inl fCd)), (aS, .inr (4, [.int vVa, .int vCo, .int vBi, .int vPh, .ref aPr, .ref aHo, .ref aHe, .ref aSt, .ref aPb, .ref aPs])), (aPr, .inl (cI, 16, .inl fPr)), (aHo, .inl (cI, 16, .inl fHo)), (aHe, .inl (cI, 16, .inl fHe)), (aSt, .inl (cI, 16, .inl fSt)), (aPb, .inl (cI, 16, .inl fPb)), (aPs, .inl (cI, 16, .inl fPs))] H → va_D A [(aX, .inr (5, [.ref aB, .ref aP, .ref aI])), (aI, .inl (cP, 2, .inr (.inr (.inr (.inr fIm))))), (aB, .inr (0, [.ref aP, .ref aS, .ref aW, .int vSl])), (aW, .inl (cI, 256, .inl fWo)), (aP, .inr (3, [.int vMo, .int vSh, .ref aK, .ref aC, .ref aS])), (aK, .inr (2, [.int vKn, .ref aKd, .ref aKs])), (aKd, .inl (cI, 8, .inl fKd)), (aKs, .inl (cI, 8, .inl fKs)), (aC, .inr (1, [.int vCn, .ref aCd])), (aCd, .inl (cI, 12, .inl fCd)), (aS, .inr (4, [.int vVa, .int vCo, .int vBi, .int vPh, .ref aPr, .ref aHo, .ref aHe, .ref aSt, .ref aPb, .ref aPs])), (aPr, .inl (cI, 16, .inl fPr)), (aHo, .inl (cI, 16, .inl fHo)), (aHe, .inl (cI, 16, .inl fHe)), (aSt, .inl (cI, 16, .inl fSt)), (aPb, .inl (cI, 16, .inl fPb)), (aPs, .inl (cI, 16, .inl fPs))] → va_S A s.heap H locs → some v = some r → W p l e rX5_difference s m args below meth c H locs 0 0 Q (F0 m pc ls [.int v]) := by
    intro v pc ls H locs hn hd hP hD hS h
    cases h
    exact hret0 pc ls H locs () hn hd hP hD hS
  clear hret0
  unfold fX5_difference at h
  obtain ⟨H, hH⟩ : ∃ H, H = s.heap := ⟨_, rfl⟩
  have hP : va_P D vwCl [(aX, .inr (5, [.ref aB, .ref aP, .ref aI])), (aI, .inl (cP, 2, .inr (.inr (.inr (.inr fIm))))), (aB, .inr (0, [.ref aP, .ref aS, .ref aW, .int vSl])), (aW, .inl (cI, 256, .inl fWo)), (aP, .inr (3, [.int vMo, .int vSh, .ref aK, .ref aC, .ref aS])), (aK, .inr (2, [.int vKn, .ref aKd, .ref aKs])), (aKd, .inl (cI, 8, .inl fKd)), (aKs, .inl (cI, 8, .inl fKs)), (aC, .inr (1, [.int vCn, .ref aCd])), (aCd, .inl (cI, 12, .inl fCd)), (aS, .inr (4, [.int vVa, .int vCo, .int vBi, .int vPh, .ref aPr, .ref aHo, .ref aHe, .ref aSt, .ref aPb, .ref aPs])), (aPr, .inl (cI, 16, .inl fPr)), (aHo, .inl (cI, 16, .inl fHo)), (aHe, .inl (cI, 16, .inl fHe)), (aSt, .inl (cI, 16, .inl fSt)), (aPb, .inl (cI, 16, .inl fPb)), (aPs, .inl (cI, 16, .inl fPs))] H := by rw [hH]; exact hP
  obtain ⟨locs, hlocs⟩ : ∃ x : List Loc, x = [] := ⟨_, rfl⟩
  have hS : va_S A s.heap H locs := by rw [hH, hlocs]; exact hS
  suffices hgo : W p l e rX5_difference s m args below meth c H locs 0 0 Q (F0 m 0 ls []) by rw [hH, hlocs] at hgo; exact hgo
  refine lv_aload_n hx hb dX5_difference_0 rfl (lv_at hl 0 rfl) ?_
  refine va_get (D := D) (ci := 5) (v := .ref aP) (C := RX5) (T := TX5) (N := 3) hx hb hts i5 hown hK hP 0 rfl rfl 1 (by decide) (hts (.fieldLink RX5 20 RX5 "now" "LBidMosaic$Picture;") (List.mem_of_getElem? (i := 1) rfl)) (fun _ h9 => h9) rfl dX5_difference_1 ?_
  refine va_getN (D := D) (ci := 3) (v := .ref aC) (C := RX3) (T := TX3) (N := 5) hx hb hts i3 hown hK hP 4 rfl rfl 3 (by decide) (hN.f (a := RX5) (i := 95) (b := RX3) (n := "cells") (d := "LBidMosaic$Cells;") (h := RX5) (nx_mem (i := 127) (by decide +kernel) rfl)) (fun _ h9 => h9) rfl dX5_difference_4 ?_
  refine lv_iload_n hx hb dX5_difference_7 rfl (lv_at hl 1 rfl) ?_
  obtain ⟨r_8, q_8, h⟩ := bd1_some h
  refine fr_ro_i (S := Unit) (wc := [(aC, .inr (1, [.int vCn, .ref aCd]))]) (fr_VN (As := [.int x1]) (rest := []) (own := RX5) (host := RX5) (C := RX1) ⟨hx, hb, hml, hown, hts⟩ hN (tX1_has aC aCd vCn x1 r_8 q_8) gX5_difference_X1_has_n104 rfl (nx_mem (i := 261) (by decide +kernel) rfl) (List.mem_of_getElem? (i := 3) rfl) (List.mem_of_getElem? (i := 2) rfl) (List.mem_of_getElem? (i := 4) rfl) (fr_preV (As := [.int x1]) (b := aC) (ci := 1) (q0 := 8) (wc := [(aC, .inr (1, [.int vCn, .ref aCd]))]) hK hN hP hD [8] (by decide) rfl rfl rfl) (n := 1) (by decide +kernel) ⟨Nat.le_of_ble_eq_true rfl, Nat.le_of_ble_eq_true rfl⟩ rfl hl.1 rfl (Nat.le_of_ble_eq_true rfl) dX5_difference_8 ⟨Nat.zero_le _, Nat.zero_le _⟩) hP hD hS hA [8] rfl (c2 := 0) (s2 := 0) rfl rfl (fun H locs hP hS => ?_)
  refine lv_if_eq (tgt := 28) hx hb dX5_difference_11 (by decide) (fun c1 => ?_) (fun c1 => ?_)
  · have h := (if_pos c1).symm.trans h
    refine lv_iconst (v := (-1 : Int32)) hx hb dX5_difference_28 (by decide) ?_
    exact hret (-1 : Int32) 29 ls H locs rfl dX5_difference_29 hP hD hS h
  · have h := (if_neg c1).symm.trans h
    refine lv_aload_n hx hb dX5_difference_14 rfl (lv_at hl 0 rfl) ?_
    refine va_get (D := D) (ci := 5) (v := .ref aP) (C := RX5) (T := TX5) (N := 3) hx hb hts i5 hown hK hP 0 rfl rfl 1 (by decide) (hts (.fieldLink RX5 20 RX5 "now" "LBidMosaic$Picture;") (List.mem_of_getElem? (i := 1) rfl)) (fun _ h9 => h9) rfl dX5_difference_15 ?_
    refine va_getN (D := D) (ci := 3) (v := .ref aK) (C := RX3) (T := TX3) (N := 5) hx hb hts i3 hown hK hP 4 rfl rfl 2 (by decide) (hN.f (a := RX5) (i := 50) (b := RX3) (n := "kinds") (d := "LBidMosaic$Kinds;") (h := RX5) (nx_mem (i := 124) (by decide +kernel) rfl)) (fun _ h9 => h9) rfl dX5_difference_18 ?_
    refine lv_iload_n hx hb dX5_difference_21 rfl (lv_at hl 2 rfl) ?_
    obtain ⟨r_22, q_22, h⟩ := bd1_some h
    refine fr_ro_i (S := Unit) (wc := [(aK, .inr (2, [.int vKn, .ref aKd, .ref aKs]))]) (fr_VN (As := [.int x2]) (rest := []) (own := RX5) (host := RX5) (C := RX2) ⟨hx, hb, hml, hown, hts⟩ hN (tX2_has aK aKd aKs vKn x2 r_22 q_22) gX5_difference_X2_has_n75 rfl (nx_mem (i := 220) (by decide +kernel) rfl) (List.mem_of_getElem? (i := 8) rfl) (List.mem_of_getElem? (i := 7) rfl) (List.mem_of_getElem? (i := 9) rfl) (fr_preV (As := [.int x2]) (b := aK) (ci := 2) (q0 := 5) (wc := [(aK, .inr (2, [.int vKn, .ref aKd, .ref aKs]))]) hK hN hP hD [5] (by decide) rfl rfl rfl) (n := 1) (by decide +kernel) ⟨Nat.le_of_ble_eq_true rfl, Nat.le_of_ble_eq_true rfl⟩ rfl hl.1 rfl (Nat.le_of_ble_eq_true rfl) dX5_difference_22 ⟨Nat.zero_le _, Nat.zero_le _⟩) hP hD hS hA [5] rfl (c2 := 0) (s2 := 0) rfl rfl (fun H locs hP hS => ?_)
    refine lv_if_ne (tgt := 30) hx hb dX5_difference_25 (by decide) (fun c2 => ?_) (fun c2 => ?_)
    · have h := (if_neg c2).symm.trans h
      refine lv_aload_n hx hb dX5_difference_30 rfl (lv_at hl 0 rfl) ?_
      refine va_get (D := D) (ci := 5) (v := .ref aP) (C := RX5) (T := TX5) (N := 3) hx hb hts i5 hown hK hP 0 rfl rfl 1 (by decide) (hts (.fieldLink RX5 20 RX5 "now" "LBidMosaic$Picture;") (List.mem_of_getElem? (i := 1) rfl)) (fun _ h9 => h9) rfl dX5_difference_31 ?_
      refine lv_iload_n hx hb dX5_difference_34 rfl (lv_at hl 1 rfl) ?_
      refine lv_iload_n hx hb dX5_difference_35 rfl (lv_at hl 2 rfl) ?_
      obtain ⟨r_36, q_36, h⟩ := bd1_some h
      refine fr_ro_i (S := Unit) (wc := [(aP, .inr (3, [.int vMo, .int vSh, .ref aK, .ref aC, .ref aS])), (aK, .inr (2, [.int vKn, .ref aKd, .ref aKs])), (aKd, .inl (cI, 8, .inl fKd)), (aC, .inr (1, [.int vCn, .ref aCd])), (aCd, .inl (cI, 12, .inl fCd))]) (fr_VN (As := [.int x1, .int x2]) (rest := []) (own := RX5) (host := RX5) (C := RX3) ⟨hx, hb, hml, hown, hts⟩ hN (tX3_apart aP aK aKd aC aCd aS aKs vMo vSh vKn fKd vCn fCd x1 x2 r_36 q_36) gX5_difference_X3_apart_n110 rfl (nx_mem (i := 278) (by decide +kernel) rfl) (List.mem_of_getElem? (i := 13) rfl) (List.mem_of_getElem? (i := 12) rfl) (List.mem_of_getElem? (i := 14) rfl) (fr_preV (As := [.int x1, .int x2]) (b := aP) (ci := 3) (q0 := 4) (wc := [(aP, .inr (3, [.int vMo, .int vSh, .ref aK, .ref aC, .ref aS])), (aK, .inr (2, [.int vKn, .ref aKd, .ref aKs])), (aKd, .inl (cI, 8, .inl fKd)), (aC, .inr (1, [.int vCn, .ref aCd])), (aCd, .inl (cI, 12, .inl fCd))]) hK hN hP hD [4, 5, 6, 8, 9] (by decide) rfl rfl rfl) (n := 2) (by decide +kernel) ⟨Nat.le_of_ble_eq_true rfl, Nat.le_of_ble_eq_true rfl⟩ rfl hl.1 rfl (Nat.le_of_ble_eq_true rfl) dX5_difference_36 ⟨Nat.zero_le _, Nat.zero_le _⟩) hP hD hS hA [4, 5, 6, 8, 9] rfl (c2 := 0) (s2 := 0) rfl rfl (fun H locs hP hS => ?_)
      exact hret r_36 39 ls H locs rfl dX5_difference_39 hP hD hS h
    · have h := (if_pos c2).symm.trans h
      refine lv_iconst (v := (-1 : Int32)) hx hb dX5_difference_28 (by decide) ?_
      exact hret (-1 : Int32) 29 ls H locs rfl dX5_difference_29 hP hD hS h
def fX5_auction (vSl : Int32) (fWo : Nat → Int32) (vMo : Int32) (vSh : Int32) (vKn : Int32) (fKd : Nat → Int32) (fKs : Nat → Int32) (vCn : Int32) (fCd : Nat → Int32) (vVa : Int32) (vCo : Int32) (vBi : Int32) (vPh : Int32) (fPr : Nat → Int32) (fHo : Nat → Int32) (fHe : Nat → Int32) (fSt : Nat → Int32) (fPb : Nat → Int32) (fPs : Nat → Int32) : Option (Int32 × Int32 × (Nat → Int32) × Int32 × Int32 × Int32 × Int32 × (Nat → Int32) × (Nat → Int32) × (Nat → Int32) × (Nat → Int32) × (Nat → Int32) × (Nat → Int32)) :=
  bd1 (fX2_slots vKn fKs) fun r_7 =>
  if r_7 = 0 then
    some ((-5 : Int32), vSl, fWo, vVa, vCo, vBi, vPh, fPr, fHo, fHe, fSt, fPb, fPs)
  else
    if vCn ≤ r_7 then
      bd13 (fX0_holdAuction vSl fWo vMo vSh vKn fKd fKs vCn fCd vVa vCo vBi vPh fPr fHo fHe fSt fPb fPs) fun r_36 vSl_36 fWo_36 vVa_36 vCo_36 vBi_36 vPh_36 fPr_36 fHo_36 fHe_36 fSt_36 fPb_36 fPs_36 =>
      some (r_36, vSl_36, fWo_36, vVa_36, vCo_36, vBi_36, vPh_36, fPr_36, fHo_36, fHe_36, fSt_36, fPb_36, fPs_36)
    else
      some ((-5 : Int32), vSl, fWo, vVa, vCo, vBi, vPh, fPr, fHo, fHe, fSt, fPb, fPs)
abbrev rX5_auction : Room := { frames := 6, cells := 0, slots := 0, locals := 140 }
set_option maxHeartbeats 4000000 in
set_option maxRecDepth 100000 in
theorem tX5_auction {l : Launch} {D : va_G} {cI cZ cP : ClassId} (aX aI aB aW aP aK aKd aKs aC aCd aS aPr aHo aHe aSt aPb aPs : Nat) (fIm : Nat → Option Nat) (vSl : Int32) (fWo : Nat → Int32) (vMo : Int32) (vSh : Int32) (vKn : Int32) (fKd : Nat → Int32) (fKs : Nat → Int32) (vCn : Int32) (fCd : Nat → Int32) (vVa : Int32) (vCo : Int32) (vBi : Int32) (vPh : Int32) (fPr : Nat → Int32) (fHo : Nat → Int32) (fHe : Nat → Int32) (fSt : Nat → Int32) (fPb : Nat → Int32) (fPs : Nat → Int32) (r : Int32) (oSl : Int32) (oWo : Nat → Int32) (oVa : Int32) (oCo : Int32) (oBi : Int32) (oPh : Int32) (oPr : Nat → Int32) (oHo : Nat → Int32) (oHe : Nat → Int32) (oSt : Nat → Int32) (oPb : Nat → Int32) (oPs : Nat → Int32) (h : fX5_auction vSl fWo vMo vSh vKn fKd fKs vCn fCd vVa vCo vBi vPh fPr fHo fHe fSt fPb fPs = some (r, oSl, oWo, oVa, oCo, oBi, oPh, oPr, oHo, oHe, oSt, oPb, oPs)) : CtI l D cI cZ cP yX5_auction wsX5_auction rX5_auction [.ref aX] [(aX, .inr (5, [.ref aB, .ref aP, .ref aI])), (aI, .inl (cP, 2, .inr (.inr (.inr (.inr fIm))))), (aB, .inr (0, [.ref aP, .ref aS, .ref aW, .int vSl])), (aW, .inl (cI, 256, .inl fWo)), (aP, .inr (3, [.int vMo, .int vSh, .ref aK, .ref aC, .ref aS])), (aK, .inr (2, [.int vKn, .ref aKd, .ref aKs])), (aKd, .inl (cI, 8, .inl fKd)), (aKs, .inl (cI, 8, .inl fKs)), (aC, .inr (1, [.int vCn, .ref aCd])), (aCd, .inl (cI, 12, .inl fCd)), (aS, .inr (4, [.int vVa, .int vCo, .int vBi, .int vPh, .ref aPr, .ref aHo, .ref aHe, .ref aSt, .ref aPb, .ref aPs])), (aPr, .inl (cI, 16, .inl fPr)), (aHo, .inl (cI, 16, .inl fHo)), (aHe, .inl (cI, 16, .inl fHe)), (aSt, .inl (cI, 16, .inl fSt)), (aPb, .inl (cI, 16, .inl fPb)), (aPs, .inl (cI, 16, .inl fPs))] (fun _ : Unit => [(aX, .inr (5, [.ref aB, .ref aP, .ref aI])), (aI, .inl (cP, 2, .inr (.inr (.inr (.inr fIm))))), (aB, .inr (0, [.ref aP, .ref aS, .ref aW, .int oSl])), (aW, .inl (cI, 256, .inl oWo)), (aP, .inr (3, [.int vMo, .int vSh, .ref aK, .ref aC, .ref aS])), (aK, .inr (2, [.int vKn, .ref aKd, .ref aKs])), (aKd, .inl (cI, 8, .inl fKd)), (aKs, .inl (cI, 8, .inl fKs)), (aC, .inr (1, [.int vCn, .ref aCd])), (aCd, .inl (cI, 12, .inl fCd)), (aS, .inr (4, [.int oVa, .int oCo, .int oBi, .int oPh, .ref aPr, .ref aHo, .ref aHe, .ref aSt, .ref aPb, .ref aPs])), (aPr, .inl (cI, 16, .inl oPr)), (aHo, .inl (cI, 16, .inl oHo)), (aHe, .inl (cI, 16, .inl oHe)), (aSt, .inl (cI, 16, .inl oSt)), (aPb, .inl (cI, 16, .inl oPb)), (aPs, .inl (cI, 16, .inl oPs))]) r := by
  refine CtI.ofW (cc := cX5_auction) (maxL := 2) (by decide) rfl (Nat.le_of_ble_eq_true rfl) (lv := [(0, .ref aX)]) rfl ?_
  intro p e s m args below meth c A Q ls hx hb hml hown hts hK hN hP hD hS hA hl hret0
  have hown : s.vm.findClass RX5 = some m.cls := hown
  have i0 : ∀ w ∈ wsX00, w ∈ wsX5_auction := mem_ps [135, 136, 137, 138] rfl
  have i1 : ∀ w ∈ wsX10, w ∈ wsX5_auction := mem_ps [130, 131] rfl
  have i2 : ∀ w ∈ wsX20, w ∈ wsX5_auction := mem_ps [132, 133, 134] rfl
  have i3 : ∀ w ∈ wsX30, w ∈ wsX5_auction := mem_ps [125, 126, 127, 128, 129] rfl
  have i4 : ∀ w ∈ wsX40, w ∈ wsX5_auction := mem_ps [139, 140, 141, 142, 143, 144, 145, 146, 147, 148] rfl
  have i5 : ∀ w ∈ wsX50, w ∈ wsX5_auction := mem_ps [122, 123, 124] rfl
  have hret : ∀ (v : Int32) (zSl : Int32) (zWo : Nat → Int32) (zVa : Int32) (zCo : Int32) (zBi : Int32) (zPh : Int32) (zPr : Nat → Int32) (zHo : Nat → Int32) (zHe : Nat → Int32) (zSt : Nat → Int32) (zPb : Nat → Int32) (zPs : Nat → Int32) (pc : Nat) (ls : Array Slot) (H : Heap) (locs : List Loc), narrow .int (.int v) = .int v → decode cX5_auction pc = .ok (.ireturn, 1) → va_P D vwCl [(aX, .inr (5, [.ref aB, .ref aP, .ref aI])), (aI, .inl (cP, 2, .inr (.inr (.inr (.inr fIm))))), (aB, .inr (0, [.ref aP, .ref aS, .ref aW, .int zSl])), (aW, .inl (cI, 256, .inl zWo)), (aP, .inr (3, [.int vMo, .int vSh, .ref aK, .ref aC, .ref aS])), (aK, .inr (2, [.int vKn, .ref aKd, .ref aKs])), (aKd, .inl (cI, 8, .inl fKd)), (aKs, .inl (cI, 8, .inl fKs)), (aC, .inr (1, [.int vCn, .ref aCd])), (aCd, .inl (cI, 12, .inl fCd)), (aS, .inr (4, [.int zVa, .int zCo, .int zBi, .int zPh, .ref aPr, .ref aHo, .ref aHe, .ref aSt, .ref aPb, .ref aPs])), (aPr, .inl (cI, 16, .inl zPr)), (aHo, .inl (cI, 16, .inl zHo)), (aHe, .inl (cI, 16, .inl zHe)), (aSt, .inl (cI, 16, .inl zSt)), (aPb, .inl (cI, 16, .inl zPb)), (aPs, .inl (cI, 16, .inl zPs))] H → va_D A [(aX, .inr (5, [.ref aB, .ref aP, .ref aI])), (aI, .inl (cP, 2, .inr (.inr (.inr (.inr fIm))))), (aB, .inr (0, [.ref aP, .ref aS, .ref aW, .int zSl])), (aW, .inl (cI, 256, .inl zWo)), (aP, .inr (3, [.int vMo, .int vSh, .ref aK, .ref aC, .ref aS])), (aK, .inr (2, [.int vKn, .ref aKd, .ref aKs])), (aKd, .inl (cI, 8, .inl fKd)), (aKs, .inl (cI, 8, .inl fKs)), (aC, .inr (1, [.int vCn, .ref aCd])), (aCd, .inl (cI, 12, .inl fCd)), (aS, .inr (4, [.int zVa, .int zCo, .int zBi, .int zPh, .ref aPr, .ref aHo, .ref aHe, .ref aSt, .ref aPb, .ref aPs])), (aPr, .inl (cI, 16, .inl zPr)), (aHo, .inl (cI, 16, .inl zHo)), (aHe, .inl (cI, 16, .inl zHe)), (aSt, .inl (cI, 16, .inl zSt)), (aPb, .inl (cI, 16, .inl zPb)), (aPs, .inl (cI, 16, .inl zPs))] → va_S A s.heap H locs → some (v, zSl, zWo, zVa, zCo, zBi, zPh, zPr, zHo, zHe, zSt, zPb, zPs) = some (r, oSl, oWo, oVa, oCo, oBi, oPh, oPr, oHo, oHe, oSt, oPb, oPs) → W p l e rX5_auction s m args below meth c H locs 0 0 Q (F0 m pc ls [.int v]) := by
    intro v zSl zWo zVa zCo zBi zPh zPr zHo zHe zSt zPb zPs pc ls H locs hn hd hP hD hS h
    cases h
    exact hret0 pc ls H locs () hn hd hP hD hS
  clear hret0
  unfold fX5_auction at h
  obtain ⟨H, hH⟩ : ∃ H, H = s.heap := ⟨_, rfl⟩
  have hP : va_P D vwCl [(aX, .inr (5, [.ref aB, .ref aP, .ref aI])), (aI, .inl (cP, 2, .inr (.inr (.inr (.inr fIm))))), (aB, .inr (0, [.ref aP, .ref aS, .ref aW, .int vSl])), (aW, .inl (cI, 256, .inl fWo)), (aP, .inr (3, [.int vMo, .int vSh, .ref aK, .ref aC, .ref aS])), (aK, .inr (2, [.int vKn, .ref aKd, .ref aKs])), (aKd, .inl (cI, 8, .inl fKd)), (aKs, .inl (cI, 8, .inl fKs)), (aC, .inr (1, [.int vCn, .ref aCd])), (aCd, .inl (cI, 12, .inl fCd)), (aS, .inr (4, [.int vVa, .int vCo, .int vBi, .int vPh, .ref aPr, .ref aHo, .ref aHe, .ref aSt, .ref aPb, .ref aPs])), (aPr, .inl (cI, 16, .inl fPr)), (aHo, .inl (cI, 16, .inl fHo)), (aHe, .inl (cI, 16, .inl fHe)), (aSt, .inl (cI, 16, .inl fSt)), (aPb, .inl (cI, 16, .inl fPb)), (aPs, .inl (cI, 16, .inl fPs))] H := by rw [hH]; exact hP
  obtain ⟨locs, hlocs⟩ : ∃ x : List Loc, x = [] := ⟨_, rfl⟩
  have hS : va_S A s.heap H locs := by rw [hH, hlocs]; exact hS
  suffices hgo : W p l e rX5_auction s m args below meth c H locs 0 0 Q (F0 m 0 ls []) by rw [hH, hlocs] at hgo; exact hgo
  refine lv_aload_n hx hb dX5_auction_0 rfl (lv_at hl 0 rfl) ?_
  refine va_get (D := D) (ci := 5) (v := .ref aP) (C := RX5) (T := TX5) (N := 3) hx hb hts i5 hown hK hP 0 rfl rfl 1 (by decide) (hts (.fieldLink RX5 20 RX5 "now" "LBidMosaic$Picture;") (List.mem_of_getElem? (i := 1) rfl)) (fun _ h9 => h9) rfl dX5_auction_1 ?_
  refine va_getN (D := D) (ci := 3) (v := .ref aK) (C := RX3) (T := TX3) (N := 5) hx hb hts i3 hown hK hP 4 rfl rfl 2 (by decide) (hN.f (a := RX5) (i := 50) (b := RX3) (n := "kinds") (d := "LBidMosaic$Kinds;") (h := RX5) (nx_mem (i := 124) (by decide +kernel) rfl)) (fun _ h9 => h9) rfl dX5_auction_4 ?_
  obtain ⟨r_7, q_7, h⟩ := bd1_some h
  refine fr_ro_i (S := Unit) (wc := [(aK, .inr (2, [.int vKn, .ref aKd, .ref aKs])), (aKs, .inl (cI, 8, .inl fKs))]) (fr_VN (As := []) (rest := []) (own := RX5) (host := RX5) (C := RX2) ⟨hx, hb, hml, hown, hts⟩ hN (tX2_slots aK aKs aKd vKn fKs r_7 q_7) gX5_auction_X2_slots_n113 rfl (nx_mem (i := 294) (by decide +kernel) rfl) (List.mem_of_getElem? (i := 4) rfl) (List.mem_of_getElem? (i := 3) rfl) (List.mem_of_getElem? (i := 5) rfl) (fr_preV (As := []) (b := aK) (ci := 2) (q0 := 5) (wc := [(aK, .inr (2, [.int vKn, .ref aKd, .ref aKs])), (aKs, .inl (cI, 8, .inl fKs))]) hK hN hP hD [5, 7] (by decide) rfl rfl rfl) (n := 0) (by decide +kernel) ⟨Nat.le_of_ble_eq_true rfl, Nat.le_of_ble_eq_true rfl⟩ rfl hl.1 rfl (Nat.le_of_ble_eq_true rfl) dX5_auction_7 ⟨Nat.zero_le _, Nat.zero_le _⟩) hP hD hS hA [5, 7] rfl (c2 := 0) (s2 := 0) rfl rfl (fun H locs hP hS => ?_)
  refine lv_istore_n (lv' := [(1, .int r_7), (0, .ref aX)]) hx hb dX5_auction_10 rfl hl (by decide) rfl (fun ls hl => ?_)
  refine lv_iload_n hx hb dX5_auction_11 rfl (lv_at hl 0 rfl) ?_
  refine lv_if_eq (tgt := 29) hx hb dX5_auction_12 (by decide) (fun c1 => ?_) (fun c1 => ?_)
  · have h := (if_pos c1).symm.trans h
    refine lv_bipush (v := (-5 : Int32)) hx hb dX5_auction_29 (by decide) ?_
    exact hret (-5 : Int32) vSl fWo vVa vCo vBi vPh fPr fHo fHe fSt fPb fPs 31 ls H locs rfl dX5_auction_31 hP hD hS h
  · have h := (if_neg c1).symm.trans h
    refine lv_iload_n hx hb dX5_auction_15 rfl (lv_at hl 0 rfl) ?_
    refine lv_aload_n hx hb dX5_auction_16 rfl (lv_at hl 1 rfl) ?_
    refine va_get (D := D) (ci := 5) (v := .ref aP) (C := RX5) (T := TX5) (N := 3) hx hb hts i5 hown hK hP 0 rfl rfl 1 (by decide) (hts (.fieldLink RX5 20 RX5 "now" "LBidMosaic$Picture;") (List.mem_of_getElem? (i := 1) rfl)) (fun _ h9 => h9) rfl dX5_auction_17 ?_
    refine va_getN (D := D) (ci := 3) (v := .ref aC) (C := RX3) (T := TX3) (N := 5) hx hb hts i3 hown hK hP 4 rfl rfl 3 (by decide) (hN.f (a := RX5) (i := 95) (b := RX3) (n := "cells") (d := "LBidMosaic$Cells;") (h := RX5) (nx_mem (i := 127) (by decide +kernel) rfl)) (fun _ h9 => h9) rfl dX5_auction_20 ?_
    refine va_getN (D := D) (ci := 1) (v := .int vCn) (C := RX1) (T := TX1) (N := 2) hx hb hts i1 hown hK hP 8 rfl rfl 0 (by decide) (hN.f (a := RX5) (i := 99) (b := RX1) (n := "count") (d := "I") (h := RX5) (nx_mem (i := 60) (by decide +kernel) rfl)) (fun _ h9 => h9) rfl dX5_auction_23 ?_
    refine lv_icmp_ge (tgt := 32) hx hb dX5_auction_26 (by decide) (fun c2 => ?_) (fun c2 => ?_)
    · have h := (if_pos c2).symm.trans h
      refine lv_aload_n hx hb dX5_auction_32 rfl (lv_at hl 1 rfl) ?_
      refine va_get (D := D) (ci := 5) (v := .ref aB) (C := RX5) (T := TX5) (N := 3) hx hb hts i5 hown hK hP 0 rfl rfl 0 (by decide) (hts (.fieldLink RX5 10 RX5 "bidding" "LBidMosaic$Bidding;") (List.mem_of_getElem? (i := 2) rfl)) (fun _ h9 => h9) rfl dX5_auction_33 ?_
      obtain ⟨r_36, vSl_36, fWo_36, vVa_36, vCo_36, vBi_36, vPh_36, fPr_36, fHo_36, fHe_36, fSt_36, fPb_36, fPs_36, q_36, h⟩ := bd13_some h
      refine fr_rw_i (S := Unit) (wc := [(aB, .inr (0, [.ref aP, .ref aS, .ref aW, .int vSl])), (aW, .inl (cI, 256, .inl fWo)), (aP, .inr (3, [.int vMo, .int vSh, .ref aK, .ref aC, .ref aS])), (aK, .inr (2, [.int vKn, .ref aKd, .ref aKs])), (aKd, .inl (cI, 8, .inl fKd)), (aKs, .inl (cI, 8, .inl fKs)), (aC, .inr (1, [.int vCn, .ref aCd])), (aCd, .inl (cI, 12, .inl fCd)), (aS, .inr (4, [.int vVa, .int vCo, .int vBi, .int vPh, .ref aPr, .ref aHo, .ref aHe, .ref aSt, .ref aPb, .ref aPs])), (aPr, .inl (cI, 16, .inl fPr)), (aHo, .inl (cI, 16, .inl fHo)), (aHe, .inl (cI, 16, .inl fHe)), (aSt, .inl (cI, 16, .inl fSt)), (aPb, .inl (cI, 16, .inl fPb)), (aPs, .inl (cI, 16, .inl fPs))]) (wc' := fun _ => [(aB, .inr (0, [.ref aP, .ref aS, .ref aW, .int vSl_36])), (aW, .inl (cI, 256, .inl fWo_36)), (aP, .inr (3, [.int vMo, .int vSh, .ref aK, .ref aC, .ref aS])), (aK, .inr (2, [.int vKn, .ref aKd, .ref aKs])), (aKd, .inl (cI, 8, .inl fKd)), (aKs, .inl (cI, 8, .inl fKs)), (aC, .inr (1, [.int vCn, .ref aCd])), (aCd, .inl (cI, 12, .inl fCd)), (aS, .inr (4, [.int vVa_36, .int vCo_36, .int vBi_36, .int vPh_36, .ref aPr, .ref aHo, .ref aHe, .ref aSt, .ref aPb, .ref aPs])), (aPr, .inl (cI, 16, .inl fPr_36)), (aHo, .inl (cI, 16, .inl fHo_36)), (aHe, .inl (cI, 16, .inl fHe_36)), (aSt, .inl (cI, 16, .inl fSt_36)), (aPb, .inl (cI, 16, .inl fPb_36)), (aPs, .inl (cI, 16, .inl fPs_36))]) (wr := [(aX, .inr (5, [.ref aB, .ref aP, .ref aI])), (aI, .inl (cP, 2, .inr (.inr (.inr (.inr fIm)))))]) (w2 := fun _ => [(aX, .inr (5, [.ref aB, .ref aP, .ref aI])), (aI, .inl (cP, 2, .inr (.inr (.inr (.inr fIm))))), (aB, .inr (0, [.ref aP, .ref aS, .ref aW, .int vSl_36])), (aW, .inl (cI, 256, .inl fWo_36)), (aP, .inr (3, [.int vMo, .int vSh, .ref aK, .ref aC, .ref aS])), (aK, .inr (2, [.int vKn, .ref aKd, .ref aKs])), (aKd, .inl (cI, 8, .inl fKd)), (aKs, .inl (cI, 8, .inl fKs)), (aC, .inr (1, [.int vCn, .ref aCd])), (aCd, .inl (cI, 12, .inl fCd)), (aS, .inr (4, [.int vVa_36, .int vCo_36, .int vBi_36, .int vPh_36, .ref aPr, .ref aHo, .ref aHe, .ref aSt, .ref aPb, .ref aPs])), (aPr, .inl (cI, 16, .inl fPr_36)), (aHo, .inl (cI, 16, .inl fHo_36)), (aHe, .inl (cI, 16, .inl fHe_36)), (aSt, .inl (cI, 16, .inl fSt_36)), (aPb, .inl (cI, 16, .inl fPb_36)), (aPs, .inl (cI, 16, .inl fPs_36))]) (fr_VN (As := []) (rest := []) (own := RX5) (host := RX5) (C := RX0) ⟨hx, hb, hml, hown, hts⟩ hN (tX0_holdAuction aB aW aP aK aKd aKs aC aCd aS aPr aHo aHe aSt aPb aPs vSl fWo vMo vSh vKn fKd fKs vCn fCd vVa vCo vBi vPh fPr fHo fHe fSt fPb fPs r_36 vSl_36 fWo_36 vVa_36 vCo_36 vBi_36 vPh_36 fPr_36 fHo_36 fHe_36 fSt_36 fPb_36 fPs_36 q_36) gX5_auction_X0_holdAuction_n117 rfl (nx_mem (i := 295) (by decide +kernel) rfl) (List.mem_of_getElem? (i := 14) rfl) (List.mem_of_getElem? (i := 13) rfl) (List.mem_of_getElem? (i := 15) rfl) (fr_preV (As := []) (b := aB) (ci := 0) (q0 := 2) (wc := [(aB, .inr (0, [.ref aP, .ref aS, .ref aW, .int vSl])), (aW, .inl (cI, 256, .inl fWo)), (aP, .inr (3, [.int vMo, .int vSh, .ref aK, .ref aC, .ref aS])), (aK, .inr (2, [.int vKn, .ref aKd, .ref aKs])), (aKd, .inl (cI, 8, .inl fKd)), (aKs, .inl (cI, 8, .inl fKs)), (aC, .inr (1, [.int vCn, .ref aCd])), (aCd, .inl (cI, 12, .inl fCd)), (aS, .inr (4, [.int vVa, .int vCo, .int vBi, .int vPh, .ref aPr, .ref aHo, .ref aHe, .ref aSt, .ref aPb, .ref aPs])), (aPr, .inl (cI, 16, .inl fPr)), (aHo, .inl (cI, 16, .inl fHo)), (aHe, .inl (cI, 16, .inl fHe)), (aSt, .inl (cI, 16, .inl fSt)), (aPb, .inl (cI, 16, .inl fPb)), (aPs, .inl (cI, 16, .inl fPs))]) hK hN hP hD [2, 3, 4, 5, 6, 7, 8, 9, 10, 11, 12, 13, 14, 15, 16] (by decide) rfl rfl rfl) (n := 0) (by decide +kernel) ⟨Nat.le_of_ble_eq_true rfl, Nat.le_of_ble_eq_true rfl⟩ rfl hl.1 rfl (Nat.le_of_ble_eq_true rfl) dX5_auction_36 ⟨Nat.zero_le _, Nat.zero_le _⟩) hP hD hS hA [2, 3, 4, 5, 6, 7, 8, 9, 10, 11, 12, 13, 14, 15, 16] [0, 1] [0, 1, 2, 3, 4, 5, 6, 7, 8, 9, 10, 11, 12, 13, 14, 15, 16] rfl rfl (by decide) (by decide) (by decide) (fun _ => rfl) (c2 := 0) (s2 := 0) rfl rfl (fun _ H locs hP hD hS => ?_)
      exact hret r_36 vSl_36 fWo_36 vVa_36 vCo_36 vBi_36 vPh_36 fPr_36 fHo_36 fHe_36 fSt_36 fPb_36 fPs_36 39 ls H locs rfl dX5_auction_39 hP hD hS h
    · have h := (if_neg c2).symm.trans h
      refine lv_bipush (v := (-5 : Int32)) hx hb dX5_auction_29 (by decide) ?_
      exact hret (-5 : Int32) vSl fWo vVa vCo vBi vPh fPr fHo fHe fSt fPb fPs 31 ls H locs rfl dX5_auction_31 hP hD hS h
def fX5_repair (vSl : Int32) (fWo : Nat → Int32) (vMo : Int32) (vKn : Int32) (fKd : Nat → Int32) (fKs : Nat → Int32) (vCn : Int32) (fCd : Nat → Int32) (vVa : Int32) (vCo : Int32) (vBi : Int32) (fPr : Nat → Int32) (fHo : Nat → Int32) (fHe : Nat → Int32) : Option (Int32 × Int32 × (Nat → Int32) × Int32 × Int32 × Int32 × (Nat → Int32) × (Nat → Int32) × (Nat → Int32)) :=
  if vVa = 0 then
    some ((-3 : Int32), vSl, fWo, vVa, vCo, vBi, fPr, fHo, fHe)
  else
    if vCo = 0 then
      bd9 (fX0_mend vSl fWo vMo vKn fKd fKs vCn fCd vVa vCo vBi fPr fHo fHe) fun r_37 vSl_37 fWo_37 vVa_37 vCo_37 vBi_37 fPr_37 fHo_37 fHe_37 =>
      some (r_37, vSl_37, fWo_37, vVa_37, vCo_37, vBi_37, fPr_37, fHo_37, fHe_37)
    else
      some ((0 : Int32), vSl, fWo, vVa, vCo, vBi, fPr, fHo, fHe)
abbrev rX5_repair : Room := { frames := 6, cells := 0, slots := 0, locals := 129 }
set_option maxHeartbeats 4000000 in
set_option maxRecDepth 100000 in
theorem tX5_repair {l : Launch} {D : va_G} {cI cZ cP : ClassId} (aX aI aB aW aP aK aKd aKs aC aCd aS aPr aHo aHe aSt aPb aPs : Nat) (fIm : Nat → Option Nat) (vSl : Int32) (fWo : Nat → Int32) (vMo : Int32) (vSh : Int32) (vKn : Int32) (fKd : Nat → Int32) (fKs : Nat → Int32) (vCn : Int32) (fCd : Nat → Int32) (vVa : Int32) (vCo : Int32) (vBi : Int32) (vPh : Int32) (fPr : Nat → Int32) (fHo : Nat → Int32) (fHe : Nat → Int32) (fSt : Nat → Int32) (fPb : Nat → Int32) (fPs : Nat → Int32) (r : Int32) (oSl : Int32) (oWo : Nat → Int32) (oVa : Int32) (oCo : Int32) (oBi : Int32) (oPr : Nat → Int32) (oHo : Nat → Int32) (oHe : Nat → Int32) (h : fX5_repair vSl fWo vMo vKn fKd fKs vCn fCd vVa vCo vBi fPr fHo fHe = some (r, oSl, oWo, oVa, oCo, oBi, oPr, oHo, oHe)) : CtI l D cI cZ cP yX5_repair wsX5_repair rX5_repair [.ref aX] [(aX, .inr (5, [.ref aB, .ref aP, .ref aI])), (aI, .inl (cP, 2, .inr (.inr (.inr (.inr fIm))))), (aB, .inr (0, [.ref aP, .ref aS, .ref aW, .int vSl])), (aW, .inl (cI, 256, .inl fWo)), (aP, .inr (3, [.int vMo, .int vSh, .ref aK, .ref aC, .ref aS])), (aK, .inr (2, [.int vKn, .ref aKd, .ref aKs])), (aKd, .inl (cI, 8, .inl fKd)), (aKs, .inl (cI, 8, .inl fKs)), (aC, .inr (1, [.int vCn, .ref aCd])), (aCd, .inl (cI, 12, .inl fCd)), (aS, .inr (4, [.int vVa, .int vCo, .int vBi, .int vPh, .ref aPr, .ref aHo, .ref aHe, .ref aSt, .ref aPb, .ref aPs])), (aPr, .inl (cI, 16, .inl fPr)), (aHo, .inl (cI, 16, .inl fHo)), (aHe, .inl (cI, 16, .inl fHe)), (aSt, .inl (cI, 16, .inl fSt)), (aPb, .inl (cI, 16, .inl fPb)), (aPs, .inl (cI, 16, .inl fPs))] (fun _ : Unit => [(aX, .inr (5, [.ref aB, .ref aP, .ref aI])), (aI, .inl (cP, 2, .inr (.inr (.inr (.inr fIm))))), (aB, .inr (0, [.ref aP, .ref aS, .ref aW, .int oSl])), (aW, .inl (cI, 256, .inl oWo)), (aP, .inr (3, [.int vMo, .int vSh, .ref aK, .ref aC, .ref aS])), (aK, .inr (2, [.int vKn, .ref aKd, .ref aKs])), (aKd, .inl (cI, 8, .inl fKd)), (aKs, .inl (cI, 8, .inl fKs)), (aC, .inr (1, [.int vCn, .ref aCd])), (aCd, .inl (cI, 12, .inl fCd)), (aS, .inr (4, [.int oVa, .int oCo, .int oBi, .int vPh, .ref aPr, .ref aHo, .ref aHe, .ref aSt, .ref aPb, .ref aPs])), (aPr, .inl (cI, 16, .inl oPr)), (aHo, .inl (cI, 16, .inl oHo)), (aHe, .inl (cI, 16, .inl oHe)), (aSt, .inl (cI, 16, .inl fSt)), (aPb, .inl (cI, 16, .inl fPb)), (aPs, .inl (cI, 16, .inl fPs))]) r := by
  refine CtI.ofW (cc := cX5_repair) (maxL := 1) (by decide) rfl (Nat.le_of_ble_eq_true rfl) (lv := [(0, .ref aX)]) rfl ?_
  intro p e s m args below meth c A Q ls hx hb hml hown hts hK hN hP hD hS hA hl hret0
  have hown : s.vm.findClass RX5 = some m.cls := hown
  have i0 : ∀ w ∈ wsX00, w ∈ wsX5_repair := mem_ps [124, 125, 126, 127] rfl
  have i1 : ∀ w ∈ wsX10, w ∈ wsX5_repair := mem_ps [131, 132] rfl
  have i2 : ∀ w ∈ wsX20, w ∈ wsX5_repair := mem_ps [128, 129, 130] rfl
  have i3 : ∀ w ∈ wsX30, w ∈ wsX5_repair := mem_ps [109, 110, 111, 112, 113] rfl
  have i4 : ∀ w ∈ wsX40, w ∈ wsX5_repair := mem_ps [114, 115, 116, 117, 118, 119, 120, 121, 122, 123] rfl
  have i5 : ∀ w ∈ wsX50, w ∈ wsX5_repair := mem_ps [106, 107, 108] rfl
  have hret : ∀ (v : Int32) (zSl : Int32) (zWo : Nat → Int32) (zVa : Int32) (zCo : Int32) (zBi : Int32) (zPr : Nat → Int32) (zHo : Nat → Int32) (zHe : Nat → Int32) (pc : Nat) (ls : Array Slot) (H : Heap) (locs : List Loc), narrow .int (.int v) = .int v → decode cX5_repair pc = .ok (.ireturn, 1) → va_P D vwCl [(aX, .inr (5, [.ref aB, .ref aP, .ref aI])), (aI, .inl (cP, 2, .inr (.inr (.inr (.inr fIm))))), (aB, .inr (0, [.ref aP, .ref aS, .ref aW, .int zSl])), (aW, .inl (cI, 256, .inl zWo)), (aP, .inr (3, [.int vMo, .int vSh, .ref aK, .ref aC, .ref aS])), (aK, .inr (2, [.int vKn, .ref aKd, .ref aKs])), (aKd, .inl (cI, 8, .inl fKd)), (aKs, .inl (cI, 8, .inl fKs)), (aC, .inr (1, [.int vCn, .ref aCd])), (aCd, .inl (cI, 12, .inl fCd)), (aS, .inr (4, [.int zVa, .int zCo, .int zBi, .int vPh, .ref aPr, .ref aHo, .ref aHe, .ref aSt, .ref aPb, .ref aPs])), (aPr, .inl (cI, 16, .inl zPr)), (aHo, .inl (cI, 16, .inl zHo)), (aHe, .inl (cI, 16, .inl zHe)), (aSt, .inl (cI, 16, .inl fSt)), (aPb, .inl (cI, 16, .inl fPb)), (aPs, .inl (cI, 16, .inl fPs))] H → va_D A [(aX, .inr (5, [.ref aB, .ref aP, .ref aI])), (aI, .inl (cP, 2, .inr (.inr (.inr (.inr fIm))))), (aB, .inr (0, [.ref aP, .ref aS, .ref aW, .int zSl])), (aW, .inl (cI, 256, .inl zWo)), (aP, .inr (3, [.int vMo, .int vSh, .ref aK, .ref aC, .ref aS])), (aK, .inr (2, [.int vKn, .ref aKd, .ref aKs])), (aKd, .inl (cI, 8, .inl fKd)), (aKs, .inl (cI, 8, .inl fKs)), (aC, .inr (1, [.int vCn, .ref aCd])), (aCd, .inl (cI, 12, .inl fCd)), (aS, .inr (4, [.int zVa, .int zCo, .int zBi, .int vPh, .ref aPr, .ref aHo, .ref aHe, .ref aSt, .ref aPb, .ref aPs])), (aPr, .inl (cI, 16, .inl zPr)), (aHo, .inl (cI, 16, .inl zHo)), (aHe, .inl (cI, 16, .inl zHe)), (aSt, .inl (cI, 16, .inl fSt)), (aPb, .inl (cI, 16, .inl fPb)), (aPs, .inl (cI, 16, .inl fPs))] → va_S A s.heap H locs → some (v, zSl, zWo, zVa, zCo, zBi, zPr, zHo, zHe) = some (r, oSl, oWo, oVa, oCo, oBi, oPr, oHo, oHe) → W p l e rX5_repair s m args below meth c H locs 0 0 Q (F0 m pc ls [.int v]) := by
    intro v zSl zWo zVa zCo zBi zPr zHo zHe pc ls H locs hn hd hP hD hS h
    cases h
    exact hret0 pc ls H locs () hn hd hP hD hS
  clear hret0
  unfold fX5_repair at h
  obtain ⟨H, hH⟩ : ∃ H, H = s.heap := ⟨_, rfl⟩
  have hP : va_P D vwCl [(aX, .inr (5, [.ref aB, .ref aP, .ref aI])), (aI, .inl (cP, 2, .inr (.inr (.inr (.inr fIm))))), (aB, .inr (0, [.ref aP, .ref aS, .ref aW, .int vSl])), (aW, .inl (cI, 256, .inl fWo)), (aP, .inr (3, [.int vMo, .int vSh, .ref aK, .ref aC, .ref aS])), (aK, .inr (2, [.int vKn, .ref aKd, .ref aKs])), (aKd, .inl (cI, 8, .inl fKd)), (aKs, .inl (cI, 8, .inl fKs)), (aC, .inr (1, [.int vCn, .ref aCd])), (aCd, .inl (cI, 12, .inl fCd)), (aS, .inr (4, [.int vVa, .int vCo, .int vBi, .int vPh, .ref aPr, .ref aHo, .ref aHe, .ref aSt, .ref aPb, .ref aPs])), (aPr, .inl (cI, 16, .inl fPr)), (aHo, .inl (cI, 16, .inl fHo)), (aHe, .inl (cI, 16, .inl fHe)), (aSt, .inl (cI, 16, .inl fSt)), (aPb, .inl (cI, 16, .inl fPb)), (aPs, .inl (cI, 16, .inl fPs))] H := by rw [hH]; exact hP
  obtain ⟨locs, hlocs⟩ : ∃ x : List Loc, x = [] := ⟨_, rfl⟩
  have hS : va_S A s.heap H locs := by rw [hH, hlocs]; exact hS
  suffices hgo : W p l e rX5_repair s m args below meth c H locs 0 0 Q (F0 m 0 ls []) by rw [hH, hlocs] at hgo; exact hgo
  refine lv_aload_n hx hb dX5_repair_0 rfl (lv_at hl 0 rfl) ?_
  refine va_get (D := D) (ci := 5) (v := .ref aP) (C := RX5) (T := TX5) (N := 3) hx hb hts i5 hown hK hP 0 rfl rfl 1 (by decide) (hts (.fieldLink RX5 20 RX5 "now" "LBidMosaic$Picture;") (List.mem_of_getElem? (i := 1) rfl)) (fun _ h9 => h9) rfl dX5_repair_1 ?_
  refine va_getN (D := D) (ci := 3) (v := .ref aS) (C := RX3) (T := TX3) (N := 5) hx hb hts i3 hown hK hP 4 rfl rfl 4 (by decide) (hN.f (a := RX5) (i := 33) (b := RX3) (n := "sale") (d := "LBidMosaic$Sale;") (h := RX5) (nx_mem (i := 130) (by decide +kernel) rfl)) (fun _ h9 => h9) rfl dX5_repair_4 ?_
  refine va_getN (D := D) (ci := 4) (v := .int vVa) (C := RX4) (T := TX4) (N := 10) hx hb hts i4 hown hK hP 10 rfl rfl 0 (by decide) (hN.f (a := RX5) (i := 37) (b := RX4) (n := "valid") (d := "Z") (h := RX5) (nx_mem (i := 76) (by decide +kernel) rfl)) (fun _ h9 => h9) rfl dX5_repair_7 ?_
  refine lv_if_ne (tgt := 16) hx hb dX5_repair_10 (by decide) (fun c1 => ?_) (fun c1 => ?_)
  · have h := (if_neg c1).symm.trans h
    refine lv_aload_n hx hb dX5_repair_16 rfl (lv_at hl 0 rfl) ?_
    refine va_get (D := D) (ci := 5) (v := .ref aP) (C := RX5) (T := TX5) (N := 3) hx hb hts i5 hown hK hP 0 rfl rfl 1 (by decide) (hts (.fieldLink RX5 20 RX5 "now" "LBidMosaic$Picture;") (List.mem_of_getElem? (i := 1) rfl)) (fun _ h9 => h9) rfl dX5_repair_17 ?_
    refine va_getN (D := D) (ci := 3) (v := .ref aS) (C := RX3) (T := TX3) (N := 5) hx hb hts i3 hown hK hP 4 rfl rfl 4 (by decide) (hN.f (a := RX5) (i := 33) (b := RX3) (n := "sale") (d := "LBidMosaic$Sale;") (h := RX5) (nx_mem (i := 130) (by decide +kernel) rfl)) (fun _ h9 => h9) rfl dX5_repair_20 ?_
    refine va_getN (D := D) (ci := 4) (v := .int vCo) (C := RX4) (T := TX4) (N := 10) hx hb hts i4 hown hK hP 10 rfl rfl 1 (by decide) (hN.f (a := RX5) (i := 106) (b := RX4) (n := "content") (d := "Z") (h := RX5) (nx_mem (i := 78) (by decide +kernel) rfl)) (fun _ h9 => h9) rfl dX5_repair_23 ?_
    refine lv_if_eq (tgt := 33) hx hb dX5_repair_26 (by decide) (fun c2 => ?_) (fun c2 => ?_)
    · have h := (if_pos c2).symm.trans h
      refine lv_aload_n hx hb dX5_repair_33 rfl (lv_at hl 0 rfl) ?_
      refine va_get (D := D) (ci := 5) (v := .ref aB) (C := RX5) (T := TX5) (N := 3) hx hb hts i5 hown hK hP 0 rfl rfl 0 (by decide) (hts (.fieldLink RX5 10 RX5 "bidding" "LBidMosaic$Bidding;") (List.mem_of_getElem? (i := 2) rfl)) (fun _ h9 => h9) rfl dX5_repair_34 ?_
      obtain ⟨r_37, vSl_37, fWo_37, vVa_37, vCo_37, vBi_37, fPr_37, fHo_37, fHe_37, q_37, h⟩ := bd9_some h
      refine fr_rw_i (S := Unit) (wc := [(aB, .inr (0, [.ref aP, .ref aS, .ref aW, .int vSl])), (aW, .inl (cI, 256, .inl fWo)), (aP, .inr (3, [.int vMo, .int vSh, .ref aK, .ref aC, .ref aS])), (aK, .inr (2, [.int vKn, .ref aKd, .ref aKs])), (aKd, .inl (cI, 8, .inl fKd)), (aKs, .inl (cI, 8, .inl fKs)), (aC, .inr (1, [.int vCn, .ref aCd])), (aCd, .inl (cI, 12, .inl fCd)), (aS, .inr (4, [.int vVa, .int vCo, .int vBi, .int vPh, .ref aPr, .ref aHo, .ref aHe, .ref aSt, .ref aPb, .ref aPs])), (aPr, .inl (cI, 16, .inl fPr)), (aHo, .inl (cI, 16, .inl fHo)), (aHe, .inl (cI, 16, .inl fHe))]) (wc' := fun _ => [(aB, .inr (0, [.ref aP, .ref aS, .ref aW, .int vSl_37])), (aW, .inl (cI, 256, .inl fWo_37)), (aP, .inr (3, [.int vMo, .int vSh, .ref aK, .ref aC, .ref aS])), (aK, .inr (2, [.int vKn, .ref aKd, .ref aKs])), (aKd, .inl (cI, 8, .inl fKd)), (aKs, .inl (cI, 8, .inl fKs)), (aC, .inr (1, [.int vCn, .ref aCd])), (aCd, .inl (cI, 12, .inl fCd)), (aS, .inr (4, [.int vVa_37, .int vCo_37, .int vBi_37, .int vPh, .ref aPr, .ref aHo, .ref aHe, .ref aSt, .ref aPb, .ref aPs])), (aPr, .inl (cI, 16, .inl fPr_37)), (aHo, .inl (cI, 16, .inl fHo_37)), (aHe, .inl (cI, 16, .inl fHe_37))]) (wr := [(aX, .inr (5, [.ref aB, .ref aP, .ref aI])), (aI, .inl (cP, 2, .inr (.inr (.inr (.inr fIm))))), (aSt, .inl (cI, 16, .inl fSt)), (aPb, .inl (cI, 16, .inl fPb)), (aPs, .inl (cI, 16, .inl fPs))]) (w2 := fun _ => [(aX, .inr (5, [.ref aB, .ref aP, .ref aI])), (aI, .inl (cP, 2, .inr (.inr (.inr (.inr fIm))))), (aB, .inr (0, [.ref aP, .ref aS, .ref aW, .int vSl_37])), (aW, .inl (cI, 256, .inl fWo_37)), (aP, .inr (3, [.int vMo, .int vSh, .ref aK, .ref aC, .ref aS])), (aK, .inr (2, [.int vKn, .ref aKd, .ref aKs])), (aKd, .inl (cI, 8, .inl fKd)), (aKs, .inl (cI, 8, .inl fKs)), (aC, .inr (1, [.int vCn, .ref aCd])), (aCd, .inl (cI, 12, .inl fCd)), (aS, .inr (4, [.int vVa_37, .int vCo_37, .int vBi_37, .int vPh, .ref aPr, .ref aHo, .ref aHe, .ref aSt, .ref aPb, .ref aPs])), (aPr, .inl (cI, 16, .inl fPr_37)), (aHo, .inl (cI, 16, .inl fHo_37)), (aHe, .inl (cI, 16, .inl fHe_37)), (aSt, .inl (cI, 16, .inl fSt)), (aPb, .inl (cI, 16, .inl fPb)), (aPs, .inl (cI, 16, .inl fPs))]) (fr_VN (As := []) (rest := []) (own := RX5) (host := RX5) (C := RX0) ⟨hx, hb, hml, hown, hts⟩ hN (tX0_mend aB aW aP aK aKd aKs aC aCd aS aPr aHo aHe aSt aPb aPs vSl fWo vMo vSh vKn fKd fKs vCn fCd vVa vCo vBi vPh fPr fHo fHe r_37 vSl_37 fWo_37 vVa_37 vCo_37 vBi_37 fPr_37 fHo_37 fHe_37 q_37) gX5_repair_X0_mend_n120 rfl (nx_mem (i := 369) (by decide +kernel) rfl) (List.mem_of_getElem? (i := 4) rfl) (List.mem_of_getElem? (i := 3) rfl) (List.mem_of_getElem? (i := 5) rfl) (fr_preV (As := []) (b := aB) (ci := 0) (q0 := 2) (wc := [(aB, .inr (0, [.ref aP, .ref aS, .ref aW, .int vSl])), (aW, .inl (cI, 256, .inl fWo)), (aP, .inr (3, [.int vMo, .int vSh, .ref aK, .ref aC, .ref aS])), (aK, .inr (2, [.int vKn, .ref aKd, .ref aKs])), (aKd, .inl (cI, 8, .inl fKd)), (aKs, .inl (cI, 8, .inl fKs)), (aC, .inr (1, [.int vCn, .ref aCd])), (aCd, .inl (cI, 12, .inl fCd)), (aS, .inr (4, [.int vVa, .int vCo, .int vBi, .int vPh, .ref aPr, .ref aHo, .ref aHe, .ref aSt, .ref aPb, .ref aPs])), (aPr, .inl (cI, 16, .inl fPr)), (aHo, .inl (cI, 16, .inl fHo)), (aHe, .inl (cI, 16, .inl fHe))]) hK hN hP hD [2, 3, 4, 5, 6, 7, 8, 9, 10, 11, 12, 13] (by decide) rfl rfl rfl) (n := 0) (by decide +kernel) ⟨Nat.le_of_ble_eq_true rfl, Nat.le_of_ble_eq_true rfl⟩ rfl hl.1 rfl (Nat.le_of_ble_eq_true rfl) dX5_repair_37 ⟨Nat.zero_le _, Nat.zero_le _⟩) hP hD hS hA [2, 3, 4, 5, 6, 7, 8, 9, 10, 11, 12, 13] [0, 1, 14, 15, 16] [0, 1, 5, 6, 7, 8, 9, 10, 11, 12, 13, 14, 15, 16, 2, 3, 4] rfl rfl (by decide) (by decide) (by decide) (fun _ => rfl) (c2 := 0) (s2 := 0) rfl rfl (fun _ H locs hP hD hS => ?_)
      exact hret r_37 vSl_37 fWo_37 vVa_37 vCo_37 vBi_37 fPr_37 fHo_37 fHe_37 40 ls H locs rfl dX5_repair_40 hP hD hS h
    · have h := (if_neg c2).symm.trans h
      refine lv_iconst (v := (0 : Int32)) hx hb dX5_repair_29 (by decide) ?_
      refine lv_goto (tgt := 40) hx hb dX5_repair_30 (by decide) ?_
      exact hret (0 : Int32) vSl fWo vVa vCo vBi fPr fHo fHe 40 ls H locs rfl dX5_repair_40 hP hD hS h
  · have h := (if_pos c1).symm.trans h
    refine lv_bipush (v := (-3 : Int32)) hx hb dX5_repair_13 (by decide) ?_
    exact hret (-3 : Int32) vSl fWo vVa vCo vBi fPr fHo fHe 15 ls H locs rfl dX5_repair_15 hP hD hS h
def fX5_phase (vVa : Int32) (vPh : Int32) (fSt : Nat → Int32) (fPb : Nat → Int32) (fPs : Nat → Int32) (x1 : Int32) (x2 : Int32) : Option (Int32) :=
  if vVa = 0 then
    some (-3 : Int32)
  else
    bd1 (fX4_hasPhase vPh x1) fun r_24 =>
    if r_24 = 0 then
      some (-1 : Int32)
    else
      if x2 = (0 : Int32) then
        if x1 < 0 ∨ 16 ≤ x1.toNatClampNeg then none else
        some (fSt x1.toNatClampNeg)
      else
        if x2 = (1 : Int32) then
          if x1 < 0 ∨ 16 ≤ x1.toNatClampNeg then none else
          some (fPb x1.toNatClampNeg)
        else
          if x2 = (2 : Int32) then
            if x1 < 0 ∨ 16 ≤ x1.toNatClampNeg then none else
            some (fPs x1.toNatClampNeg)
          else
            some (-2 : Int32)
abbrev rX5_phase : Room := { frames := 1, cells := 0, slots := 0, locals := 21 }
set_option maxHeartbeats 4000000 in
set_option maxRecDepth 100000 in
theorem tX5_phase {l : Launch} {D : va_G} {cI cZ cP : ClassId} (aX aI aB aW aP aK aKd aKs aC aCd aS aPr aHo aHe aSt aPb aPs : Nat) (fIm : Nat → Option Nat) (vSl : Int32) (fWo : Nat → Int32) (vMo : Int32) (vSh : Int32) (vKn : Int32) (fKd : Nat → Int32) (fKs : Nat → Int32) (vCn : Int32) (fCd : Nat → Int32) (vVa : Int32) (vCo : Int32) (vBi : Int32) (vPh : Int32) (fPr : Nat → Int32) (fHo : Nat → Int32) (fHe : Nat → Int32) (fSt : Nat → Int32) (fPb : Nat → Int32) (fPs : Nat → Int32) (x1 : Int32) (x2 : Int32) (r : Int32) (h : fX5_phase vVa vPh fSt fPb fPs x1 x2 = some r) : CtI l D cI cZ cP yX5_phase wsX5_phase rX5_phase [.ref aX, .int x1, .int x2] [(aX, .inr (5, [.ref aB, .ref aP, .ref aI])), (aI, .inl (cP, 2, .inr (.inr (.inr (.inr fIm))))), (aB, .inr (0, [.ref aP, .ref aS, .ref aW, .int vSl])), (aW, .inl (cI, 256, .inl fWo)), (aP, .inr (3, [.int vMo, .int vSh, .ref aK, .ref aC, .ref aS])), (aK, .inr (2, [.int vKn, .ref aKd, .ref aKs])), (aKd, .inl (cI, 8, .inl fKd)), (aKs, .inl (cI, 8, .inl fKs)), (aC, .inr (1, [.int vCn, .ref aCd])), (aCd, .inl (cI, 12, .inl fCd)), (aS, .inr (4, [.int vVa, .int vCo, .int vBi, .int vPh, .ref aPr, .ref aHo, .ref aHe, .ref aSt, .ref aPb, .ref aPs])), (aPr, .inl (cI, 16, .inl fPr)), (aHo, .inl (cI, 16, .inl fHo)), (aHe, .inl (cI, 16, .inl fHe)), (aSt, .inl (cI, 16, .inl fSt)), (aPb, .inl (cI, 16, .inl fPb)), (aPs, .inl (cI, 16, .inl fPs))] (fun _ : Unit => [(aX, .inr (5, [.ref aB, .ref aP, .ref aI])), (aI, .inl (cP, 2, .inr (.inr (.inr (.inr fIm))))), (aB, .inr (0, [.ref aP, .ref aS, .ref aW, .int vSl])), (aW, .inl (cI, 256, .inl fWo)), (aP, .inr (3, [.int vMo, .int vSh, .ref aK, .ref aC, .ref aS])), (aK, .inr (2, [.int vKn, .ref aKd, .ref aKs])), (aKd, .inl (cI, 8, .inl fKd)), (aKs, .inl (cI, 8, .inl fKs)), (aC, .inr (1, [.int vCn, .ref aCd])), (aCd, .inl (cI, 12, .inl fCd)), (aS, .inr (4, [.int vVa, .int vCo, .int vBi, .int vPh, .ref aPr, .ref aHo, .ref aHe, .ref aSt, .ref aPb, .ref aPs])), (aPr, .inl (cI, 16, .inl fPr)), (aHo, .inl (cI, 16, .inl fHo)), (aHe, .inl (cI, 16, .inl fHe)), (aSt, .inl (cI, 16, .inl fSt)), (aPb, .inl (cI, 16, .inl fPb)), (aPs, .inl (cI, 16, .inl fPs))]) r := by
  refine CtI.ofW (cc := cX5_phase) (maxL := 3) (by decide) rfl (Nat.le_of_ble_eq_true rfl) (lv := [(0, .ref aX), (1, .int x1), (2, .int x2)]) rfl ?_
  intro p e s m args below meth c A Q ls hx hb hml hown hts hK hN hP hD hS hA hl hret0
  have hown : s.vm.findClass RX5 = some m.cls := hown
  have i3 : ∀ w ∈ wsX30, w ∈ wsX5_phase := mem_ps [10, 11, 12, 13, 14] rfl
  have i4 : ∀ w ∈ wsX40, w ∈ wsX5_phase := mem_ps [15, 16, 17, 18, 19, 20, 21, 22, 23, 24] rfl
  have i5 : ∀ w ∈ wsX50, w ∈ wsX5_phase := mem_ps [7, 8, 9] rfl
  have hret : ∀ (v : Int32) (pc : Nat) (ls : Array Slot) (H : Heap) (locs : List Loc), narrow .int (.int v) = .int v → decode cX5_phase pc = .ok (.ireturn, 1) → va_P D vwCl [(aX, .inr (5, [.ref aB, .ref aP, .ref aI])), (aI, .inl (cP, 2, .inr (.inr (.inr (.inr fIm))))), (aB, .inr (0, [.ref aP, .ref aS, .ref aW, .int vSl])), (aW, .inl (cI, 256, .inl fWo)), (aP, .inr (3, [.int vMo, .int vSh, .ref aK, .ref aC, .ref aS])), (aK, .inr (2, [.int vKn, .ref aKd, .ref aKs])), (aKd, .inl (cI, 8, .inl fKd)), (aKs, .inl (cI, 8, .inl fKs)), (aC, .inr (1, [.int vCn, .ref aCd])), (aCd, .inl (cI, 12, .inl fCd)), (aS, .inr (4, [.int vVa, .int vCo, .int vBi, .int vPh, .ref aPr, .ref aHo, .ref aHe, .ref aSt, .ref aPb, .ref aPs])), (aPr, .inl (cI, 16, .inl fPr)), (aHo, .inl (cI, 16, .inl fHo)), (aHe, .inl (cI, 16, .inl fHe)), (aSt, .inl (cI, 16, .inl fSt)), (aPb, .inl (cI, 16, .inl fPb)), (aPs, .inl (cI, 16, .inl fPs))] H → va_D A [(aX, .inr (5, [.ref aB, .ref aP, .ref aI])), (aI, .inl (cP, 2, .inr (.inr (.inr (.inr fIm))))), (aB, .inr (0, [.ref aP, .ref aS, .ref aW, .int vSl])), (aW, .inl (cI, 256, .inl fWo)), (aP, .inr (3, [.int vMo, .int vSh, .ref aK, .ref aC, .ref aS])), (aK, .inr (2, [.int vKn, .ref aKd, .ref aKs])), (aKd, .inl (cI, 8, .inl fKd)), (aKs, .inl (cI, 8, .inl fKs)), (aC, .inr (1, [.int vCn, .ref aCd])), (aCd, .inl (cI, 12, .inl fCd)), (aS, .inr (4, [.int vVa, .int vCo, .int vBi, .int vPh, .ref aPr, .ref aHo, .ref aHe, .ref aSt, .ref aPb, .ref aPs])), (aPr, .inl (cI, 16, .inl fPr)), (aHo, .inl (cI, 16, .inl fHo)), (aHe, .inl (cI, 16, .inl fHe)), (aSt, .inl (cI, 16, .inl fSt)), (aPb, .inl (cI, 16, .inl fPb)), (aPs, .inl (cI, 16, .inl fPs))] → va_S A s.heap H locs → some v = some r → W p l e rX5_phase s m args below meth c H locs 0 0 Q (F0 m pc ls [.int v]) := by
    intro v pc ls H locs hn hd hP hD hS h
    cases h
    exact hret0 pc ls H locs () hn hd hP hD hS
  clear hret0
  unfold fX5_phase at h
  obtain ⟨H, hH⟩ : ∃ H, H = s.heap := ⟨_, rfl⟩
  have hP : va_P D vwCl [(aX, .inr (5, [.ref aB, .ref aP, .ref aI])), (aI, .inl (cP, 2, .inr (.inr (.inr (.inr fIm))))), (aB, .inr (0, [.ref aP, .ref aS, .ref aW, .int vSl])), (aW, .inl (cI, 256, .inl fWo)), (aP, .inr (3, [.int vMo, .int vSh, .ref aK, .ref aC, .ref aS])), (aK, .inr (2, [.int vKn, .ref aKd, .ref aKs])), (aKd, .inl (cI, 8, .inl fKd)), (aKs, .inl (cI, 8, .inl fKs)), (aC, .inr (1, [.int vCn, .ref aCd])), (aCd, .inl (cI, 12, .inl fCd)), (aS, .inr (4, [.int vVa, .int vCo, .int vBi, .int vPh, .ref aPr, .ref aHo, .ref aHe, .ref aSt, .ref aPb, .ref aPs])), (aPr, .inl (cI, 16, .inl fPr)), (aHo, .inl (cI, 16, .inl fHo)), (aHe, .inl (cI, 16, .inl fHe)), (aSt, .inl (cI, 16, .inl fSt)), (aPb, .inl (cI, 16, .inl fPb)), (aPs, .inl (cI, 16, .inl fPs))] H := by rw [hH]; exact hP
  obtain ⟨locs, hlocs⟩ : ∃ x : List Loc, x = [] := ⟨_, rfl⟩
  have hS : va_S A s.heap H locs := by rw [hH, hlocs]; exact hS
  suffices hgo : W p l e rX5_phase s m args below meth c H locs 0 0 Q (F0 m 0 ls []) by rw [hH, hlocs] at hgo; exact hgo
  refine lv_aload_n hx hb dX5_phase_0 rfl (lv_at hl 0 rfl) ?_
  refine va_get (D := D) (ci := 5) (v := .ref aP) (C := RX5) (T := TX5) (N := 3) hx hb hts i5 hown hK hP 0 rfl rfl 1 (by decide) (hts (.fieldLink RX5 20 RX5 "now" "LBidMosaic$Picture;") (List.mem_of_getElem? (i := 1) rfl)) (fun _ h9 => h9) rfl dX5_phase_1 ?_
  refine va_getN (D := D) (ci := 3) (v := .ref aS) (C := RX3) (T := TX3) (N := 5) hx hb hts i3 hown hK hP 4 rfl rfl 4 (by decide) (hN.f (a := RX5) (i := 33) (b := RX3) (n := "sale") (d := "LBidMosaic$Sale;") (h := RX5) (nx_mem (i := 130) (by decide +kernel) rfl)) (fun _ h9 => h9) rfl dX5_phase_4 ?_
  refine va_getN (D := D) (ci := 4) (v := .int vVa) (C := RX4) (T := TX4) (N := 10) hx hb hts i4 hown hK hP 10 rfl rfl 0 (by decide) (hN.f (a := RX5) (i := 37) (b := RX4) (n := "valid") (d := "Z") (h := RX5) (nx_mem (i := 76) (by decide +kernel) rfl)) (fun _ h9 => h9) rfl dX5_phase_7 ?_
  refine lv_if_ne (tgt := 16) hx hb dX5_phase_10 (by decide) (fun c1 => ?_) (fun c1 => ?_)
  · have h := (if_neg c1).symm.trans h
    refine lv_aload_n hx hb dX5_phase_16 rfl (lv_at hl 0 rfl) ?_
    refine va_get (D := D) (ci := 5) (v := .ref aP) (C := RX5) (T := TX5) (N := 3) hx hb hts i5 hown hK hP 0 rfl rfl 1 (by decide) (hts (.fieldLink RX5 20 RX5 "now" "LBidMosaic$Picture;") (List.mem_of_getElem? (i := 1) rfl)) (fun _ h9 => h9) rfl dX5_phase_17 ?_
    refine va_getN (D := D) (ci := 3) (v := .ref aS) (C := RX3) (T := TX3) (N := 5) hx hb hts i3 hown hK hP 4 rfl rfl 4 (by decide) (hN.f (a := RX5) (i := 33) (b := RX3) (n := "sale") (d := "LBidMosaic$Sale;") (h := RX5) (nx_mem (i := 130) (by decide +kernel) rfl)) (fun _ h9 => h9) rfl dX5_phase_20 ?_
    refine lv_iload_n hx hb dX5_phase_23 rfl (lv_at hl 1 rfl) ?_
    obtain ⟨r_24, q_24, h⟩ := bd1_some h
    refine fr_ro_i (S := Unit) (wc := [(aS, .inr (4, [.int vVa, .int vCo, .int vBi, .int vPh, .ref aPr, .ref aHo, .ref aHe, .ref aSt, .ref aPb, .ref aPs]))]) (fr_VN (As := [.int x1]) (rest := []) (own := RX5) (host := RX5) (C := RX4) ⟨hx, hb, hml, hown, hts⟩ hN (tX4_hasPhase aS aPr aHo aHe aSt aPb aPs vVa vCo vBi vPh x1 r_24 q_24) gX5_phase_X4_hasPhase_n123 rfl (nx_mem (i := 394) (by decide +kernel) rfl) (List.mem_of_getElem? (i := 3) rfl) (List.mem_of_getElem? (i := 2) rfl) (List.mem_of_getElem? (i := 4) rfl) (fr_preV (As := [.int x1]) (b := aS) (ci := 4) (q0 := 10) (wc := [(aS, .inr (4, [.int vVa, .int vCo, .int vBi, .int vPh, .ref aPr, .ref aHo, .ref aHe, .ref aSt, .ref aPb, .ref aPs]))]) hK hN hP hD [10] (by decide) rfl rfl rfl) (n := 1) (by decide +kernel) ⟨Nat.le_of_ble_eq_true rfl, Nat.le_of_ble_eq_true rfl⟩ rfl hl.1 rfl (Nat.le_of_ble_eq_true rfl) dX5_phase_24 ⟨Nat.zero_le _, Nat.zero_le _⟩) hP hD hS hA [10] rfl (c2 := 0) (s2 := 0) rfl rfl (fun H locs hP hS => ?_)
    refine lv_if_ne (tgt := 32) hx hb dX5_phase_27 (by decide) (fun c2 => ?_) (fun c2 => ?_)
    · have h := (if_neg c2).symm.trans h
      refine lv_iload_n hx hb dX5_phase_32 rfl (lv_at hl 2 rfl) ?_
      by_cases c6 : x2 = (0 : Int32)
      · have h := (if_pos c6).symm.trans h
        refine lv_tableIn (tgt := 60) hx hb dX5_phase_33 (by rw [c6]; decide) (by rw [c6]; decide) (off := 27) (by rw [c6]; rfl) (by decide) ?_
        refine lv_aload_n hx hb dX5_phase_60 rfl (lv_at hl 0 rfl) ?_
        refine va_get (D := D) (ci := 5) (v := .ref aP) (C := RX5) (T := TX5) (N := 3) hx hb hts i5 hown hK hP 0 rfl rfl 1 (by decide) (hts (.fieldLink RX5 20 RX5 "now" "LBidMosaic$Picture;") (List.mem_of_getElem? (i := 1) rfl)) (fun _ h9 => h9) rfl dX5_phase_61 ?_
        refine va_getN (D := D) (ci := 3) (v := .ref aS) (C := RX3) (T := TX3) (N := 5) hx hb hts i3 hown hK hP 4 rfl rfl 4 (by decide) (hN.f (a := RX5) (i := 33) (b := RX3) (n := "sale") (d := "LBidMosaic$Sale;") (h := RX5) (nx_mem (i := 130) (by decide +kernel) rfl)) (fun _ h9 => h9) rfl dX5_phase_64 ?_
        refine va_getN (D := D) (ci := 4) (v := .ref aSt) (C := RX4) (T := TX4) (N := 10) hx hb hts i4 hown hK hP 10 rfl rfl 7 (by decide) (hN.f (a := RX5) (i := 126) (b := RX4) (n := "steps") (d := "[I") (h := RX5) (nx_mem (i := 91) (by decide +kernel) rfl)) (fun _ h9 => h9) rfl dX5_phase_67 ?_
        refine lv_iload_n hx hb dX5_phase_70 rfl (lv_at hl 1 rfl) ?_
        obtain ⟨g3, h⟩ := no_some h
        refine va_iald hx hb hK hP 14 0 rfl rfl g3 dX5_phase_71 ?_
        exact hret (fSt x1.toNatClampNeg) 72 ls H locs rfl dX5_phase_72 hP hD hS h
      · have h := (if_neg c6).symm.trans h
        by_cases c7 : x2 = (1 : Int32)
        · have h := (if_pos c7).symm.trans h
          refine lv_tableIn (tgt := 73) hx hb dX5_phase_33 (by rw [c7]; decide) (by rw [c7]; decide) (off := 40) (by rw [c7]; rfl) (by decide) ?_
          refine lv_aload_n hx hb dX5_phase_73 rfl (lv_at hl 0 rfl) ?_
          refine va_get (D := D) (ci := 5) (v := .ref aP) (C := RX5) (T := TX5) (N := 3) hx hb hts i5 hown hK hP 0 rfl rfl 1 (by decide) (hts (.fieldLink RX5 20 RX5 "now" "LBidMosaic$Picture;") (List.mem_of_getElem? (i := 1) rfl)) (fun _ h9 => h9) rfl dX5_phase_74 ?_
          refine va_getN (D := D) (ci := 3) (v := .ref aS) (C := RX3) (T := TX3) (N := 5) hx hb hts i3 hown hK hP 4 rfl rfl 4 (by decide) (hN.f (a := RX5) (i := 33) (b := RX3) (n := "sale") (d := "LBidMosaic$Sale;") (h := RX5) (nx_mem (i := 130) (by decide +kernel) rfl)) (fun _ h9 => h9) rfl dX5_phase_77 ?_
          refine va_getN (D := D) (ci := 4) (v := .ref aPb) (C := RX4) (T := TX4) (N := 10) hx hb hts i4 hown hK hP 10 rfl rfl 8 (by decide) (hN.f (a := RX5) (i := 129) (b := RX4) (n := "phaseBids") (d := "[I") (h := RX5) (nx_mem (i := 93) (by decide +kernel) rfl)) (fun _ h9 => h9) rfl dX5_phase_80 ?_
          refine lv_iload_n hx hb dX5_phase_83 rfl (lv_at hl 1 rfl) ?_
          obtain ⟨g4, h⟩ := no_some h
          refine va_iald hx hb hK hP 15 0 rfl rfl g4 dX5_phase_84 ?_
          exact hret (fPb x1.toNatClampNeg) 85 ls H locs rfl dX5_phase_85 hP hD hS h
        · have h := (if_neg c7).symm.trans h
          by_cases c8 : x2 = (2 : Int32)
          · have h := (if_pos c8).symm.trans h
            refine lv_tableIn (tgt := 86) hx hb dX5_phase_33 (by rw [c8]; decide) (by rw [c8]; decide) (off := 53) (by rw [c8]; rfl) (by decide) ?_
            refine lv_aload_n hx hb dX5_phase_86 rfl (lv_at hl 0 rfl) ?_
            refine va_get (D := D) (ci := 5) (v := .ref aP) (C := RX5) (T := TX5) (N := 3) hx hb hts i5 hown hK hP 0 rfl rfl 1 (by decide) (hts (.fieldLink RX5 20 RX5 "now" "LBidMosaic$Picture;") (List.mem_of_getElem? (i := 1) rfl)) (fun _ h9 => h9) rfl dX5_phase_87 ?_
            refine va_getN (D := D) (ci := 3) (v := .ref aS) (C := RX3) (T := TX3) (N := 5) hx hb hts i3 hown hK hP 4 rfl rfl 4 (by decide) (hN.f (a := RX5) (i := 33) (b := RX3) (n := "sale") (d := "LBidMosaic$Sale;") (h := RX5) (nx_mem (i := 130) (by decide +kernel) rfl)) (fun _ h9 => h9) rfl dX5_phase_90 ?_
            refine va_getN (D := D) (ci := 4) (v := .ref aPs) (C := RX4) (T := TX4) (N := 10) hx hb hts i4 hown hK hP 10 rfl rfl 9 (by decide) (hN.f (a := RX5) (i := 132) (b := RX4) (n := "phaseSums") (d := "[I") (h := RX5) (nx_mem (i := 95) (by decide +kernel) rfl)) (fun _ h9 => h9) rfl dX5_phase_93 ?_
            refine lv_iload_n hx hb dX5_phase_96 rfl (lv_at hl 1 rfl) ?_
            obtain ⟨g5, h⟩ := no_some h
            refine va_iald hx hb hK hP 16 0 rfl rfl g5 dX5_phase_97 ?_
            exact hret (fPs x1.toNatClampNeg) 98 ls H locs rfl dX5_phase_98 hP hD hS h
          · have h := (if_neg c8).symm.trans h
            have nc6 := lv_neT c6 (show (0 : Int32).toInt = 0 from rfl)
            have nc7 := lv_neT c7 (show (1 : Int32).toInt = 1 from rfl)
            have nc8 := lv_neT c8 (show (2 : Int32).toInt = 2 from rfl)
            refine lv_tableOut (tgt := 99) hx hb dX5_phase_33 (by omega) (by decide) ?_
            refine lv_bipush (v := (-2 : Int32)) hx hb dX5_phase_99 (by decide) ?_
            exact hret (-2 : Int32) 101 ls H locs rfl dX5_phase_101 hP hD hS h
    · have h := (if_pos c2).symm.trans h
      refine lv_iconst (v := (-1 : Int32)) hx hb dX5_phase_30 (by decide) ?_
      exact hret (-1 : Int32) 31 ls H locs rfl dX5_phase_31 hP hD hS h
  · have h := (if_pos c1).symm.trans h
    refine lv_bipush (v := (-3 : Int32)) hx hb dX5_phase_13 (by decide) ?_
    exact hret (-3 : Int32) 15 ls H locs rfl dX5_phase_15 hP hD hS h
def fX5_place (vKn : Int32) (fKs : Nat → Int32) (vCn : Int32) (vVa : Int32) (vCo : Int32) (fHe : Nat → Int32) (x1 : Int32) : Option (Int32) :=
  bd1 (fX4_isDone vVa vCo) fun r_7 =>
  if r_7 = 0 then
    some (-3 : Int32)
  else
    bd1 (fX1_has vCn x1) fun r_24 =>
    if r_24 = 0 then
      some (-1 : Int32)
    else
      bd1 (fX3_kindOf vKn fKs fHe x1) fun r_37 =>
      some r_37
abbrev rX5_place : Room := { frames := 3, cells := 0, slots := 0, locals := 62 }
set_option maxHeartbeats 4000000 in
set_option maxRecDepth 100000 in
theorem tX5_place {l : Launch} {D : va_G} {cI cZ cP : ClassId} (aX aI aB aW aP aK aKd aKs aC aCd aS aPr aHo aHe aSt aPb aPs : Nat) (fIm : Nat → Option Nat) (vSl : Int32) (fWo : Nat → Int32) (vMo : Int32) (vSh : Int32) (vKn : Int32) (fKd : Nat → Int32) (fKs : Nat → Int32) (vCn : Int32) (fCd : Nat → Int32) (vVa : Int32) (vCo : Int32) (vBi : Int32) (vPh : Int32) (fPr : Nat → Int32) (fHo : Nat → Int32) (fHe : Nat → Int32) (fSt : Nat → Int32) (fPb : Nat → Int32) (fPs : Nat → Int32) (x1 : Int32) (r : Int32) (h : fX5_place vKn fKs vCn vVa vCo fHe x1 = some r) : CtI l D cI cZ cP yX5_place wsX5_place rX5_place [.ref aX, .int x1] [(aX, .inr (5, [.ref aB, .ref aP, .ref aI])), (aI, .inl (cP, 2, .inr (.inr (.inr (.inr fIm))))), (aB, .inr (0, [.ref aP, .ref aS, .ref aW, .int vSl])), (aW, .inl (cI, 256, .inl fWo)), (aP, .inr (3, [.int vMo, .int vSh, .ref aK, .ref aC, .ref aS])), (aK, .inr (2, [.int vKn, .ref aKd, .ref aKs])), (aKd, .inl (cI, 8, .inl fKd)), (aKs, .inl (cI, 8, .inl fKs)), (aC, .inr (1, [.int vCn, .ref aCd])), (aCd, .inl (cI, 12, .inl fCd)), (aS, .inr (4, [.int vVa, .int vCo, .int vBi, .int vPh, .ref aPr, .ref aHo, .ref aHe, .ref aSt, .ref aPb, .ref aPs])), (aPr, .inl (cI, 16, .inl fPr)), (aHo, .inl (cI, 16, .inl fHo)), (aHe, .inl (cI, 16, .inl fHe)), (aSt, .inl (cI, 16, .inl fSt)), (aPb, .inl (cI, 16, .inl fPb)), (aPs, .inl (cI, 16, .inl fPs))] (fun _ : Unit => [(aX, .inr (5, [.ref aB, .ref aP, .ref aI])), (aI, .inl (cP, 2, .inr (.inr (.inr (.inr fIm))))), (aB, .inr (0, [.ref aP, .ref aS, .ref aW, .int vSl])), (aW, .inl (cI, 256, .inl fWo)), (aP, .inr (3, [.int vMo, .int vSh, .ref aK, .ref aC, .ref aS])), (aK, .inr (2, [.int vKn, .ref aKd, .ref aKs])), (aKd, .inl (cI, 8, .inl fKd)), (aKs, .inl (cI, 8, .inl fKs)), (aC, .inr (1, [.int vCn, .ref aCd])), (aCd, .inl (cI, 12, .inl fCd)), (aS, .inr (4, [.int vVa, .int vCo, .int vBi, .int vPh, .ref aPr, .ref aHo, .ref aHe, .ref aSt, .ref aPb, .ref aPs])), (aPr, .inl (cI, 16, .inl fPr)), (aHo, .inl (cI, 16, .inl fHo)), (aHe, .inl (cI, 16, .inl fHe)), (aSt, .inl (cI, 16, .inl fSt)), (aPb, .inl (cI, 16, .inl fPb)), (aPs, .inl (cI, 16, .inl fPs))]) r := by
  refine CtI.ofW (cc := cX5_place) (maxL := 2) (by decide) rfl (Nat.le_of_ble_eq_true rfl) (lv := [(0, .ref aX), (1, .int x1)]) rfl ?_
  intro p e s m args below meth c A Q ls hx hb hml hown hts hK hN hP hD hS hA hl hret0
  have hown : s.vm.findClass RX5 = some m.cls := hown
  have i1 : ∀ w ∈ wsX10, w ∈ wsX5_place := mem_ps [50, 51] rfl
  have i2 : ∀ w ∈ wsX20, w ∈ wsX5_place := mem_ps [52, 53, 54] rfl
  have i3 : ∀ w ∈ wsX30, w ∈ wsX5_place := mem_ps [35, 36, 37, 38, 39] rfl
  have i4 : ∀ w ∈ wsX40, w ∈ wsX5_place := mem_ps [40, 41, 42, 43, 44, 45, 46, 47, 48, 49] rfl
  have i5 : ∀ w ∈ wsX50, w ∈ wsX5_place := mem_ps [32, 33, 34] rfl
  have hret : ∀ (v : Int32) (pc : Nat) (ls : Array Slot) (H : Heap) (locs : List Loc), narrow .int (.int v) = .int v → decode cX5_place pc = .ok (.ireturn, 1) → va_P D vwCl [(aX, .inr (5, [.ref aB, .ref aP, .ref aI])), (aI, .inl (cP, 2, .inr (.inr (.inr (.inr fIm))))), (aB, .inr (0, [.ref aP, .ref aS, .ref aW, .int vSl])), (aW, .inl (cI, 256, .inl fWo)), (aP, .inr (3, [.int vMo, .int vSh, .ref aK, .ref aC, .ref aS])), (aK, .inr (2, [.int vKn, .ref aKd, .ref aKs])), (aKd, .inl (cI, 8, .inl fKd)), (aKs, .inl (cI, 8, .inl fKs)), (aC, .inr (1, [.int vCn, .ref aCd])), (aCd, .inl (cI, 12, .inl fCd)), (aS, .inr (4, [.int vVa, .int vCo, .int vBi, .int vPh, .ref aPr, .ref aHo, .ref aHe, .ref aSt, .ref aPb, .ref aPs])), (aPr, .inl (cI, 16, .inl fPr)), (aHo, .inl (cI, 16, .inl fHo)), (aHe, .inl (cI, 16, .inl fHe)), (aSt, .inl (cI, 16, .inl fSt)), (aPb, .inl (cI, 16, .inl fPb)), (aPs, .inl (cI, 16, .inl fPs))] H → va_D A [(aX, .inr (5, [.ref aB, .ref aP, .ref aI])), (aI, .inl (cP, 2, .inr (.inr (.inr (.inr fIm))))), (aB, .inr (0, [.ref aP, .ref aS, .ref aW, .int vSl])), (aW, .inl (cI, 256, .inl fWo)), (aP, .inr (3, [.int vMo, .int vSh, .ref aK, .ref aC, .ref aS])), (aK, .inr (2, [.int vKn, .ref aKd, .ref aKs])), (aKd, .inl (cI, 8, .inl fKd)), (aKs, .inl (cI, 8, .inl fKs)), (aC, .inr (1, [.int vCn, .ref aCd])), (aCd, .inl (cI, 12, .inl fCd)), (aS, .inr (4, [.int vVa, .int vCo, .int vBi, .int vPh, .ref aPr, .ref aHo, .ref aHe, .ref aSt, .ref aPb, .ref aPs])), (aPr, .inl (cI, 16, .inl fPr)), (aHo, .inl (cI, 16, .inl fHo)), (aHe, .inl (cI, 16, .inl fHe)), (aSt, .inl (cI, 16, .inl fSt)), (aPb, .inl (cI, 16, .inl fPb)), (aPs, .inl (cI, 16, .inl fPs))] → va_S A s.heap H locs → some v = some r → W p l e rX5_place s m args below meth c H locs 0 0 Q (F0 m pc ls [.int v]) := by
    intro v pc ls H locs hn hd hP hD hS h
    cases h
    exact hret0 pc ls H locs () hn hd hP hD hS
  clear hret0
  unfold fX5_place at h
  obtain ⟨H, hH⟩ : ∃ H, H = s.heap := ⟨_, rfl⟩
  have hP : va_P D vwCl [(aX, .inr (5, [.ref aB, .ref aP, .ref aI])), (aI, .inl (cP, 2, .inr (.inr (.inr (.inr fIm))))), (aB, .inr (0, [.ref aP, .ref aS, .ref aW, .int vSl])), (aW, .inl (cI, 256, .inl fWo)), (aP, .inr (3, [.int vMo, .int vSh, .ref aK, .ref aC, .ref aS])), (aK, .inr (2, [.int vKn, .ref aKd, .ref aKs])), (aKd, .inl (cI, 8, .inl fKd)), (aKs, .inl (cI, 8, .inl fKs)), (aC, .inr (1, [.int vCn, .ref aCd])), (aCd, .inl (cI, 12, .inl fCd)), (aS, .inr (4, [.int vVa, .int vCo, .int vBi, .int vPh, .ref aPr, .ref aHo, .ref aHe, .ref aSt, .ref aPb, .ref aPs])), (aPr, .inl (cI, 16, .inl fPr)), (aHo, .inl (cI, 16, .inl fHo)), (aHe, .inl (cI, 16, .inl fHe)), (aSt, .inl (cI, 16, .inl fSt)), (aPb, .inl (cI, 16, .inl fPb)), (aPs, .inl (cI, 16, .inl fPs))] H := by rw [hH]; exact hP
  obtain ⟨locs, hlocs⟩ : ∃ x : List Loc, x = [] := ⟨_, rfl⟩
  have hS : va_S A s.heap H locs := by rw [hH, hlocs]; exact hS
  suffices hgo : W p l e rX5_place s m args below meth c H locs 0 0 Q (F0 m 0 ls []) by rw [hH, hlocs] at hgo; exact hgo
  refine lv_aload_n hx hb dX5_place_0 rfl (lv_at hl 0 rfl) ?_
  refine va_get (D := D) (ci := 5) (v := .ref aP) (C := RX5) (T := TX5) (N := 3) hx hb hts i5 hown hK hP 0 rfl rfl 1 (by decide) (hts (.fieldLink RX5 20 RX5 "now" "LBidMosaic$Picture;") (List.mem_of_getElem? (i := 1) rfl)) (fun _ h9 => h9) rfl dX5_place_1 ?_
  refine va_getN (D := D) (ci := 3) (v := .ref aS) (C := RX3) (T := TX3) (N := 5) hx hb hts i3 hown hK hP 4 rfl rfl 4 (by decide) (hN.f (a := RX5) (i := 33) (b := RX3) (n := "sale") (d := "LBidMosaic$Sale;") (h := RX5) (nx_mem (i := 130) (by decide +kernel) rfl)) (fun _ h9 => h9) rfl dX5_place_4 ?_
  obtain ⟨r_7, q_7, h⟩ := bd1_some h
  refine fr_ro_i (S := Unit) (wc := [(aS, .inr (4, [.int vVa, .int vCo, .int vBi, .int vPh, .ref aPr, .ref aHo, .ref aHe, .ref aSt, .ref aPb, .ref aPs]))]) (fr_VN (As := []) (rest := []) (own := RX5) (host := RX5) (C := RX4) ⟨hx, hb, hml, hown, hts⟩ hN (tX4_isDone aS aPr aHo aHe aSt aPb aPs vVa vCo vBi vPh r_7 q_7) gX5_place_X4_isDone_n88 rfl (nx_mem (i := 222) (by decide +kernel) rfl) (List.mem_of_getElem? (i := 3) rfl) (List.mem_of_getElem? (i := 2) rfl) (List.mem_of_getElem? (i := 4) rfl) (fr_preV (As := []) (b := aS) (ci := 4) (q0 := 10) (wc := [(aS, .inr (4, [.int vVa, .int vCo, .int vBi, .int vPh, .ref aPr, .ref aHo, .ref aHe, .ref aSt, .ref aPb, .ref aPs]))]) hK hN hP hD [10] (by decide) rfl rfl rfl) (n := 0) (by decide +kernel) ⟨Nat.le_of_ble_eq_true rfl, Nat.le_of_ble_eq_true rfl⟩ rfl hl.1 rfl (Nat.le_of_ble_eq_true rfl) dX5_place_7 ⟨Nat.zero_le _, Nat.zero_le _⟩) hP hD hS hA [10] rfl (c2 := 0) (s2 := 0) rfl rfl (fun H locs hP hS => ?_)
  refine lv_if_ne (tgt := 16) hx hb dX5_place_10 (by decide) (fun c1 => ?_) (fun c1 => ?_)
  · have h := (if_neg c1).symm.trans h
    refine lv_aload_n hx hb dX5_place_16 rfl (lv_at hl 0 rfl) ?_
    refine va_get (D := D) (ci := 5) (v := .ref aP) (C := RX5) (T := TX5) (N := 3) hx hb hts i5 hown hK hP 0 rfl rfl 1 (by decide) (hts (.fieldLink RX5 20 RX5 "now" "LBidMosaic$Picture;") (List.mem_of_getElem? (i := 1) rfl)) (fun _ h9 => h9) rfl dX5_place_17 ?_
    refine va_getN (D := D) (ci := 3) (v := .ref aC) (C := RX3) (T := TX3) (N := 5) hx hb hts i3 hown hK hP 4 rfl rfl 3 (by decide) (hN.f (a := RX5) (i := 95) (b := RX3) (n := "cells") (d := "LBidMosaic$Cells;") (h := RX5) (nx_mem (i := 127) (by decide +kernel) rfl)) (fun _ h9 => h9) rfl dX5_place_20 ?_
    refine lv_iload_n hx hb dX5_place_23 rfl (lv_at hl 1 rfl) ?_
    obtain ⟨r_24, q_24, h⟩ := bd1_some h
    refine fr_ro_i (S := Unit) (wc := [(aC, .inr (1, [.int vCn, .ref aCd]))]) (fr_VN (As := [.int x1]) (rest := []) (own := RX5) (host := RX5) (C := RX1) ⟨hx, hb, hml, hown, hts⟩ hN (tX1_has aC aCd vCn x1 r_24 q_24) gX5_place_X1_has_n104 rfl (nx_mem (i := 261) (by decide +kernel) rfl) (List.mem_of_getElem? (i := 9) rfl) (List.mem_of_getElem? (i := 8) rfl) (List.mem_of_getElem? (i := 10) rfl) (fr_preV (As := [.int x1]) (b := aC) (ci := 1) (q0 := 8) (wc := [(aC, .inr (1, [.int vCn, .ref aCd]))]) hK hN hP hD [8] (by decide) rfl rfl rfl) (n := 1) (by decide +kernel) ⟨Nat.le_of_ble_eq_true rfl, Nat.le_of_ble_eq_true rfl⟩ rfl hl.1 rfl (Nat.le_of_ble_eq_true rfl) dX5_place_24 ⟨Nat.zero_le _, Nat.zero_le _⟩) hP hD hS hA [8] rfl (c2 := 0) (s2 := 0) rfl rfl (fun H locs hP hS => ?_)
    refine lv_if_ne (tgt := 32) hx hb dX5_place_27 (by decide) (fun c2 => ?_) (fun c2 => ?_)
    · have h := (if_neg c2).symm.trans h
      refine lv_aload_n hx hb dX5_place_32 rfl (lv_at hl 0 rfl) ?_
      refine va_get (D := D) (ci := 5) (v := .ref aP) (C := RX5) (T := TX5) (N := 3) hx hb hts i5 hown hK hP 0 rfl rfl 1 (by decide) (hts (.fieldLink RX5 20 RX5 "now" "LBidMosaic$Picture;") (List.mem_of_getElem? (i := 1) rfl)) (fun _ h9 => h9) rfl dX5_place_33 ?_
      refine lv_iload_n hx hb dX5_place_36 rfl (lv_at hl 1 rfl) ?_
      obtain ⟨r_37, q_37, h⟩ := bd1_some h
      refine fr_ro_i (S := Unit) (wc := [(aP, .inr (3, [.int vMo, .int vSh, .ref aK, .ref aC, .ref aS])), (aK, .inr (2, [.int vKn, .ref aKd, .ref aKs])), (aKs, .inl (cI, 8, .inl fKs)), (aS, .inr (4, [.int vVa, .int vCo, .int vBi, .int vPh, .ref aPr, .ref aHo, .ref aHe, .ref aSt, .ref aPb, .ref aPs])), (aHe, .inl (cI, 16, .inl fHe))]) (fr_VN (As := [.int x1]) (rest := []) (own := RX5) (host := RX5) (C := RX3) ⟨hx, hb, hml, hown, hts⟩ hN (tX3_kindOf aP aK aKs aS aHe aC aKd aPr aHo aSt aPb aPs vMo vSh vKn fKs vVa vCo vBi vPh fHe x1 r_37 q_37) gX5_place_X3_kindOf_n135 rfl (nx_mem (i := 402) (by decide +kernel) rfl) (List.mem_of_getElem? (i := 14) rfl) (List.mem_of_getElem? (i := 13) rfl) (List.mem_of_getElem? (i := 15) rfl) (fr_preV (As := [.int x1]) (b := aP) (ci := 3) (q0 := 4) (wc := [(aP, .inr (3, [.int vMo, .int vSh, .ref aK, .ref aC, .ref aS])), (aK, .inr (2, [.int vKn, .ref aKd, .ref aKs])), (aKs, .inl (cI, 8, .inl fKs)), (aS, .inr (4, [.int vVa, .int vCo, .int vBi, .int vPh, .ref aPr, .ref aHo, .ref aHe, .ref aSt, .ref aPb, .ref aPs])), (aHe, .inl (cI, 16, .inl fHe))]) hK hN hP hD [4, 5, 7, 10, 13] (by decide) rfl rfl rfl) (n := 1) (by decide +kernel) ⟨Nat.le_of_ble_eq_true rfl, Nat.le_of_ble_eq_true rfl⟩ rfl hl.1 rfl (Nat.le_of_ble_eq_true rfl) dX5_place_37 ⟨Nat.zero_le _, Nat.zero_le _⟩) hP hD hS hA [4, 5, 7, 10, 13] rfl (c2 := 0) (s2 := 0) rfl rfl (fun H locs hP hS => ?_)
      exact hret r_37 40 ls H locs rfl dX5_place_40 hP hD hS h
    · have h := (if_pos c2).symm.trans h
      refine lv_iconst (v := (-1 : Int32)) hx hb dX5_place_30 (by decide) ?_
      exact hret (-1 : Int32) 31 ls H locs rfl dX5_place_31 hP hD hS h
  · have h := (if_pos c1).symm.trans h
    refine lv_bipush (v := (-3 : Int32)) hx hb dX5_place_13 (by decide) ?_
    exact hret (-3 : Int32) 15 ls H locs rfl dX5_place_15 hP hD hS h
def fX5_slot_b34 (vKn : Int32) (fKs : Nat → Int32) (vCn : Int32) (vVa : Int32) (vCo : Int32) (fPr : Nat → Int32) (fHo : Nat → Int32) (x1 : Int32) (x2 : Int32) : Option (Int32) :=
  bd1 (fX4_isInRow x1) fun r_35 =>
  if r_35 = 0 then
    some (-1 : Int32)
  else
    bd1 (fX2_slots vKn fKs) fun r_49 =>
    if x1 < r_49 then
      if x2 = (0 : Int32) then
        if x1 < 0 ∨ 16 ≤ x1.toNatClampNeg then none else
        some (fPr x1.toNatClampNeg)
      else
        if x2 = (1 : Int32) then
          bd1 (fX2_ofSlot vKn fKs x1) fun r_105 =>
          some r_105
        else
          if x2 = (2 : Int32) then
            bd1 (fX3_cellOf vCn fHo x1) fun r_114 =>
            some r_114
          else
            some (-2 : Int32)
    else
      some (-1 : Int32)
def fX5_slot (vKn : Int32) (fKs : Nat → Int32) (vCn : Int32) (vVa : Int32) (vCo : Int32) (fPr : Nat → Int32) (fHo : Nat → Int32) (x1 : Int32) (x2 : Int32) : Option (Int32) :=
  if vVa = 0 then
    some (-3 : Int32)
  else
    if x2 = (2 : Int32) then
      if vCo = 0 then
        some (-3 : Int32)
      else
        fX5_slot_b34 vKn fKs vCn vVa vCo fPr fHo x1 x2
    else
      fX5_slot_b34 vKn fKs vCn vVa vCo fPr fHo x1 x2
abbrev rX5_slot : Room := { frames := 2, cells := 0, slots := 0, locals := 43 }
set_option maxHeartbeats 4000000 in
set_option maxRecDepth 100000 in
theorem tX5_slot {l : Launch} {D : va_G} {cI cZ cP : ClassId} (aX aI aB aW aP aK aKd aKs aC aCd aS aPr aHo aHe aSt aPb aPs : Nat) (fIm : Nat → Option Nat) (vSl : Int32) (fWo : Nat → Int32) (vMo : Int32) (vSh : Int32) (vKn : Int32) (fKd : Nat → Int32) (fKs : Nat → Int32) (vCn : Int32) (fCd : Nat → Int32) (vVa : Int32) (vCo : Int32) (vBi : Int32) (vPh : Int32) (fPr : Nat → Int32) (fHo : Nat → Int32) (fHe : Nat → Int32) (fSt : Nat → Int32) (fPb : Nat → Int32) (fPs : Nat → Int32) (x1 : Int32) (x2 : Int32) (r : Int32) (h : fX5_slot vKn fKs vCn vVa vCo fPr fHo x1 x2 = some r) : CtI l D cI cZ cP yX5_slot wsX5_slot rX5_slot [.ref aX, .int x1, .int x2] [(aX, .inr (5, [.ref aB, .ref aP, .ref aI])), (aI, .inl (cP, 2, .inr (.inr (.inr (.inr fIm))))), (aB, .inr (0, [.ref aP, .ref aS, .ref aW, .int vSl])), (aW, .inl (cI, 256, .inl fWo)), (aP, .inr (3, [.int vMo, .int vSh, .ref aK, .ref aC, .ref aS])), (aK, .inr (2, [.int vKn, .ref aKd, .ref aKs])), (aKd, .inl (cI, 8, .inl fKd)), (aKs, .inl (cI, 8, .inl fKs)), (aC, .inr (1, [.int vCn, .ref aCd])), (aCd, .inl (cI, 12, .inl fCd)), (aS, .inr (4, [.int vVa, .int vCo, .int vBi, .int vPh, .ref aPr, .ref aHo, .ref aHe, .ref aSt, .ref aPb, .ref aPs])), (aPr, .inl (cI, 16, .inl fPr)), (aHo, .inl (cI, 16, .inl fHo)), (aHe, .inl (cI, 16, .inl fHe)), (aSt, .inl (cI, 16, .inl fSt)), (aPb, .inl (cI, 16, .inl fPb)), (aPs, .inl (cI, 16, .inl fPs))] (fun _ : Unit => [(aX, .inr (5, [.ref aB, .ref aP, .ref aI])), (aI, .inl (cP, 2, .inr (.inr (.inr (.inr fIm))))), (aB, .inr (0, [.ref aP, .ref aS, .ref aW, .int vSl])), (aW, .inl (cI, 256, .inl fWo)), (aP, .inr (3, [.int vMo, .int vSh, .ref aK, .ref aC, .ref aS])), (aK, .inr (2, [.int vKn, .ref aKd, .ref aKs])), (aKd, .inl (cI, 8, .inl fKd)), (aKs, .inl (cI, 8, .inl fKs)), (aC, .inr (1, [.int vCn, .ref aCd])), (aCd, .inl (cI, 12, .inl fCd)), (aS, .inr (4, [.int vVa, .int vCo, .int vBi, .int vPh, .ref aPr, .ref aHo, .ref aHe, .ref aSt, .ref aPb, .ref aPs])), (aPr, .inl (cI, 16, .inl fPr)), (aHo, .inl (cI, 16, .inl fHo)), (aHe, .inl (cI, 16, .inl fHe)), (aSt, .inl (cI, 16, .inl fSt)), (aPb, .inl (cI, 16, .inl fPb)), (aPs, .inl (cI, 16, .inl fPs))]) r := by
  refine CtI.ofW (cc := cX5_slot) (maxL := 3) (by decide) rfl (Nat.le_of_ble_eq_true rfl) (lv := [(0, .ref aX), (1, .int x1), (2, .int x2)]) rfl ?_
  intro p e s m args below meth c A Q ls hx hb hml hown hts hK hN hP hD hS hA hl hret0
  have hown : s.vm.findClass RX5 = some m.cls := hown
  have i1 : ∀ w ∈ wsX10, w ∈ wsX5_slot := mem_ps [50, 51] rfl
  have i2 : ∀ w ∈ wsX20, w ∈ wsX5_slot := mem_ps [47, 48, 49] rfl
  have i3 : ∀ w ∈ wsX30, w ∈ wsX5_slot := mem_ps [32, 33, 34, 35, 36] rfl
  have i4 : ∀ w ∈ wsX40, w ∈ wsX5_slot := mem_ps [37, 38, 39, 40, 41, 42, 43, 44, 45, 46] rfl
  have i5 : ∀ w ∈ wsX50, w ∈ wsX5_slot := mem_ps [29, 30, 31] rfl
  have hret : ∀ (v : Int32) (pc : Nat) (ls : Array Slot) (H : Heap) (locs : List Loc), narrow .int (.int v) = .int v → decode cX5_slot pc = .ok (.ireturn, 1) → va_P D vwCl [(aX, .inr (5, [.ref aB, .ref aP, .ref aI])), (aI, .inl (cP, 2, .inr (.inr (.inr (.inr fIm))))), (aB, .inr (0, [.ref aP, .ref aS, .ref aW, .int vSl])), (aW, .inl (cI, 256, .inl fWo)), (aP, .inr (3, [.int vMo, .int vSh, .ref aK, .ref aC, .ref aS])), (aK, .inr (2, [.int vKn, .ref aKd, .ref aKs])), (aKd, .inl (cI, 8, .inl fKd)), (aKs, .inl (cI, 8, .inl fKs)), (aC, .inr (1, [.int vCn, .ref aCd])), (aCd, .inl (cI, 12, .inl fCd)), (aS, .inr (4, [.int vVa, .int vCo, .int vBi, .int vPh, .ref aPr, .ref aHo, .ref aHe, .ref aSt, .ref aPb, .ref aPs])), (aPr, .inl (cI, 16, .inl fPr)), (aHo, .inl (cI, 16, .inl fHo)), (aHe, .inl (cI, 16, .inl fHe)), (aSt, .inl (cI, 16, .inl fSt)), (aPb, .inl (cI, 16, .inl fPb)), (aPs, .inl (cI, 16, .inl fPs))] H → va_D A [(aX, .inr (5, [.ref aB, .ref aP, .ref aI])), (aI, .inl (cP, 2, .inr (.inr (.inr (.inr fIm))))), (aB, .inr (0, [.ref aP, .ref aS, .ref aW, .int vSl])), (aW, .inl (cI, 256, .inl fWo)), (aP, .inr (3, [.int vMo, .int vSh, .ref aK, .ref aC, .ref aS])), (aK, .inr (2, [.int vKn, .ref aKd, .ref aKs])), (aKd, .inl (cI, 8, .inl fKd)), (aKs, .inl (cI, 8, .inl fKs)), (aC, .inr (1, [.int vCn, .ref aCd])), (aCd, .inl (cI, 12, .inl fCd)), (aS, .inr (4, [.int vVa, .int vCo, .int vBi, .int vPh, .ref aPr, .ref aHo, .ref aHe, .ref aSt, .ref aPb, .ref aPs])), (aPr, .inl (cI, 16, .inl fPr)), (aHo, .inl (cI, 16, .inl fHo)), (aHe, .inl (cI, 16, .inl fHe)), (aSt, .inl (cI, 16, .inl fSt)), (aPb, .inl (cI, 16, .inl fPb)), (aPs, .inl (cI, 16, .inl fPs))] → va_S A s.heap H locs → some v = some r → W p l e rX5_slot s m args below meth c H locs 0 0 Q (F0 m pc ls [.int v]) := by
    intro v pc ls H locs hn hd hP hD hS h
    cases h
    exact hret0 pc ls H locs () hn hd hP hD hS
  clear hret0
  have hb34 : ∀ (x1 : Int32) (x2 : Int32) (H : Heap) (locs : List Loc) (ls : Array Slot), va_P D vwCl [(aX, .inr (5, [.ref aB, .ref aP, .ref aI])), (aI, .inl (cP, 2, .inr (.inr (.inr (.inr fIm))))), (aB, .inr (0, [.ref aP, .ref aS, .ref aW, .int vSl])), (aW, .inl (cI, 256, .inl fWo)), (aP, .inr (3, [.int vMo, .int vSh, .ref aK, .ref aC, .ref aS])), (aK, .inr (2, [.int vKn, .ref aKd, .ref aKs])), (aKd, .inl (cI, 8, .inl fKd)), (aKs, .inl (cI, 8, .inl fKs)), (aC, .inr (1, [.int vCn, .ref aCd])), (aCd, .inl (cI, 12, .inl fCd)), (aS, .inr (4, [.int vVa, .int vCo, .int vBi, .int vPh, .ref aPr, .ref aHo, .ref aHe, .ref aSt, .ref aPb, .ref aPs])), (aPr, .inl (cI, 16, .inl fPr)), (aHo, .inl (cI, 16, .inl fHo)), (aHe, .inl (cI, 16, .inl fHe)), (aSt, .inl (cI, 16, .inl fSt)), (aPb, .inl (cI, 16, .inl fPb)), (aPs, .inl (cI, 16, .inl fPs))] H → va_D A [(aX, .inr (5, [.ref aB, .ref aP, .ref aI])), (aI, .inl (cP, 2, .inr (.inr (.inr (.inr fIm))))), (aB, .inr (0, [.ref aP, .ref aS, .ref aW, .int vSl])), (aW, .inl (cI, 256, .inl fWo)), (aP, .inr (3, [.int vMo, .int vSh, .ref aK, .ref aC, .ref aS])), (aK, .inr (2, [.int vKn, .ref aKd, .ref aKs])), (aKd, .inl (cI, 8, .inl fKd)), (aKs, .inl (cI, 8, .inl fKs)), (aC, .inr (1, [.int vCn, .ref aCd])), (aCd, .inl (cI, 12, .inl fCd)), (aS, .inr (4, [.int vVa, .int vCo, .int vBi, .int vPh, .ref aPr, .ref aHo, .ref aHe, .ref aSt, .ref aPb, .ref aPs])), (aPr, .inl (cI, 16, .inl fPr)), (aHo, .inl (cI, 16, .inl fHo)), (aHe, .inl (cI, 16, .inl fHe)), (aSt, .inl (cI, 16, .inl fSt)), (aPb, .inl (cI, 16, .inl fPb)), (aPs, .inl (cI, 16, .inl fPs))] → va_S A s.heap H locs → lv_has ls 3 [(0, .ref aX), (1, .int x1), (2, .int x2)] → fX5_slot_b34 vKn fKs vCn vVa vCo fPr fHo x1 x2 = some r → W p l e rX5_slot s m args below meth c H locs 0 0 Q (F0 m 34 ls []) := by
    intro x1 x2 H locs ls hP hD hS hl h
    unfold fX5_slot_b34 at h
    refine lv_iload_n hx hb dX5_slot_34 rfl (lv_at hl 1 rfl) ?_
    obtain ⟨r_35, q_35, h⟩ := bd1_some h
    refine fr_ro_i (S := Unit) (wc := []) (fr_SN (As := [.int x1]) (rest := []) (own := RX5) (host := RX5) ⟨hx, hb, hml, hown, hts⟩ hN (tX4_isInRow x1 r_35 q_35) gX5_slot_X4_isInRow_n138 rfl (nx_mem (i := 407) (by decide +kernel) rfl) (List.mem_of_getElem? (i := 3) rfl) (List.mem_of_getElem? (i := 2) rfl) (fr_pre (As := [.int x1]) (wc := []) hK hN hP hD [] (by decide) rfl) (n := 1) (by decide +kernel) ⟨Nat.le_of_ble_eq_true rfl, Nat.le_of_ble_eq_true rfl⟩ rfl hl.1 rfl (Nat.le_of_ble_eq_true rfl) dX5_slot_35 ⟨Nat.zero_le _, Nat.zero_le _⟩) hP hD hS hA [] rfl (c2 := 0) (s2 := 0) rfl rfl (fun H locs hP hS => ?_)
    refine lv_if_eq (tgt := 55) hx hb dX5_slot_38 (by decide) (fun c1 => ?_) (fun c1 => ?_)
    · have h := (if_pos c1).symm.trans h
      refine lv_iconst (v := (-1 : Int32)) hx hb dX5_slot_55 (by decide) ?_
      exact hret (-1 : Int32) 56 ls H locs rfl dX5_slot_56 hP hD hS h
    · have h := (if_neg c1).symm.trans h
      refine lv_iload_n hx hb dX5_slot_41 rfl (lv_at hl 1 rfl) ?_
      refine lv_aload_n hx hb dX5_slot_42 rfl (lv_at hl 0 rfl) ?_
      refine va_get (D := D) (ci := 5) (v := .ref aP) (C := RX5) (T := TX5) (N := 3) hx hb hts i5 hown hK hP 0 rfl rfl 1 (by decide) (hts (.fieldLink RX5 20 RX5 "now" "LBidMosaic$Picture;") (List.mem_of_getElem? (i := 1) rfl)) (fun _ h9 => h9) rfl dX5_slot_43 ?_
      refine va_getN (D := D) (ci := 3) (v := .ref aK) (C := RX3) (T := TX3) (N := 5) hx hb hts i3 hown hK hP 4 rfl rfl 2 (by decide) (hN.f (a := RX5) (i := 50) (b := RX3) (n := "kinds") (d := "LBidMosaic$Kinds;") (h := RX5) (nx_mem (i := 124) (by decide +kernel) rfl)) (fun _ h9 => h9) rfl dX5_slot_46 ?_
      obtain ⟨r_49, q_49, h⟩ := bd1_some h
      refine fr_ro_i (S := Unit) (wc := [(aK, .inr (2, [.int vKn, .ref aKd, .ref aKs])), (aKs, .inl (cI, 8, .inl fKs))]) (fr_VN (As := []) (rest := [.int x1]) (own := RX5) (host := RX5) (C := RX2) ⟨hx, hb, hml, hown, hts⟩ hN (tX2_slots aK aKs aKd vKn fKs r_49 q_49) gX5_slot_X2_slots_n113 rfl (nx_mem (i := 294) (by decide +kernel) rfl) (List.mem_of_getElem? (i := 6) rfl) (List.mem_of_getElem? (i := 5) rfl) (List.mem_of_getElem? (i := 7) rfl) (fr_preV (As := []) (b := aK) (ci := 2) (q0 := 5) (wc := [(aK, .inr (2, [.int vKn, .ref aKd, .ref aKs])), (aKs, .inl (cI, 8, .inl fKs))]) hK hN hP hD [5, 7] (by decide) rfl rfl rfl) (n := 0) (by decide +kernel) ⟨Nat.le_of_ble_eq_true rfl, Nat.le_of_ble_eq_true rfl⟩ rfl hl.1 rfl (Nat.le_of_ble_eq_true rfl) dX5_slot_49 ⟨Nat.zero_le _, Nat.zero_le _⟩) hP hD hS hA [5, 7] rfl (c2 := 0) (s2 := 0) rfl rfl (fun H locs hP hS => ?_)
      refine lv_icmp_lt (tgt := 57) hx hb dX5_slot_52 (by decide) (fun c2 => ?_) (fun c2 => ?_)
      · have h := (if_pos c2).symm.trans h
        refine lv_iload_n hx hb dX5_slot_57 rfl (lv_at hl 2 rfl) ?_
        by_cases c4 : x2 = (0 : Int32)
        · have h := (if_pos c4).symm.trans h
          refine lv_tableIn (tgt := 84) hx hb dX5_slot_58 (by rw [c4]; decide) (by rw [c4]; decide) (off := 26) (by rw [c4]; rfl) (by decide) ?_
          refine lv_aload_n hx hb dX5_slot_84 rfl (lv_at hl 0 rfl) ?_
          refine va_get (D := D) (ci := 5) (v := .ref aP) (C := RX5) (T := TX5) (N := 3) hx hb hts i5 hown hK hP 0 rfl rfl 1 (by decide) (hts (.fieldLink RX5 20 RX5 "now" "LBidMosaic$Picture;") (List.mem_of_getElem? (i := 1) rfl)) (fun _ h9 => h9) rfl dX5_slot_85 ?_
          refine va_getN (D := D) (ci := 3) (v := .ref aS) (C := RX3) (T := TX3) (N := 5) hx hb hts i3 hown hK hP 4 rfl rfl 4 (by decide) (hN.f (a := RX5) (i := 33) (b := RX3) (n := "sale") (d := "LBidMosaic$Sale;") (h := RX5) (nx_mem (i := 130) (by decide +kernel) rfl)) (fun _ h9 => h9) rfl dX5_slot_88 ?_
          refine va_getN (D := D) (ci := 4) (v := .ref aPr) (C := RX4) (T := TX4) (N := 10) hx hb hts i4 hown hK hP 10 rfl rfl 4 (by decide) (hN.f (a := RX5) (i := 141) (b := RX4) (n := "prices") (d := "[I") (h := RX5) (nx_mem (i := 85) (by decide +kernel) rfl)) (fun _ h9 => h9) rfl dX5_slot_91 ?_
          refine lv_iload_n hx hb dX5_slot_94 rfl (lv_at hl 1 rfl) ?_
          obtain ⟨g3, h⟩ := no_some h
          refine va_iald hx hb hK hP 11 0 rfl rfl g3 dX5_slot_95 ?_
          exact hret (fPr x1.toNatClampNeg) 96 ls H locs rfl dX5_slot_96 hP hD hS h
        · have h := (if_neg c4).symm.trans h
          by_cases c5 : x2 = (1 : Int32)
          · have h := (if_pos c5).symm.trans h
            refine lv_tableIn (tgt := 97) hx hb dX5_slot_58 (by rw [c5]; decide) (by rw [c5]; decide) (off := 39) (by rw [c5]; rfl) (by decide) ?_
            refine lv_aload_n hx hb dX5_slot_97 rfl (lv_at hl 0 rfl) ?_
            refine va_get (D := D) (ci := 5) (v := .ref aP) (C := RX5) (T := TX5) (N := 3) hx hb hts i5 hown hK hP 0 rfl rfl 1 (by decide) (hts (.fieldLink RX5 20 RX5 "now" "LBidMosaic$Picture;") (List.mem_of_getElem? (i := 1) rfl)) (fun _ h9 => h9) rfl dX5_slot_98 ?_
            refine va_getN (D := D) (ci := 3) (v := .ref aK) (C := RX3) (T := TX3) (N := 5) hx hb hts i3 hown hK hP 4 rfl rfl 2 (by decide) (hN.f (a := RX5) (i := 50) (b := RX3) (n := "kinds") (d := "LBidMosaic$Kinds;") (h := RX5) (nx_mem (i := 124) (by decide +kernel) rfl)) (fun _ h9 => h9) rfl dX5_slot_101 ?_
            refine lv_iload_n hx hb dX5_slot_104 rfl (lv_at hl 1 rfl) ?_
            obtain ⟨r_105, q_105, h⟩ := bd1_some h
            refine fr_ro_i (S := Unit) (wc := [(aK, .inr (2, [.int vKn, .ref aKd, .ref aKs])), (aKs, .inl (cI, 8, .inl fKs))]) (fr_VN (As := [.int x1]) (rest := []) (own := RX5) (host := RX5) (C := RX2) ⟨hx, hb, hml, hown, hts⟩ hN (tX2_ofSlot aK aKs aKd vKn fKs x1 r_105 q_105) gX5_slot_X2_ofSlot_n144 rfl (nx_mem (i := 408) (by decide +kernel) rfl) (List.mem_of_getElem? (i := 6) rfl) (List.mem_of_getElem? (i := 15) rfl) (List.mem_of_getElem? (i := 16) rfl) (fr_preV (As := [.int x1]) (b := aK) (ci := 2) (q0 := 5) (wc := [(aK, .inr (2, [.int vKn, .ref aKd, .ref aKs])), (aKs, .inl (cI, 8, .inl fKs))]) hK hN hP hD [5, 7] (by decide) rfl rfl rfl) (n := 1) (by decide +kernel) ⟨Nat.le_of_ble_eq_true rfl, Nat.le_of_ble_eq_true rfl⟩ rfl hl.1 rfl (Nat.le_of_ble_eq_true rfl) dX5_slot_105 ⟨Nat.zero_le _, Nat.zero_le _⟩) hP hD hS hA [5, 7] rfl (c2 := 0) (s2 := 0) rfl rfl (fun H locs hP hS => ?_)
            exact hret r_105 108 ls H locs rfl dX5_slot_108 hP hD hS h
          · have h := (if_neg c5).symm.trans h
            by_cases c6 : x2 = (2 : Int32)
            · have h := (if_pos c6).symm.trans h
              refine lv_tableIn (tgt := 109) hx hb dX5_slot_58 (by rw [c6]; decide) (by rw [c6]; decide) (off := 51) (by rw [c6]; rfl) (by decide) ?_
              refine lv_aload_n hx hb dX5_slot_109 rfl (lv_at hl 0 rfl) ?_
              refine va_get (D := D) (ci := 5) (v := .ref aP) (C := RX5) (T := TX5) (N := 3) hx hb hts i5 hown hK hP 0 rfl rfl 1 (by decide) (hts (.fieldLink RX5 20 RX5 "now" "LBidMosaic$Picture;") (List.mem_of_getElem? (i := 1) rfl)) (fun _ h9 => h9) rfl dX5_slot_110 ?_
              refine lv_iload_n hx hb dX5_slot_113 rfl (lv_at hl 1 rfl) ?_
              obtain ⟨r_114, q_114, h⟩ := bd1_some h
              refine fr_ro_i (S := Unit) (wc := [(aP, .inr (3, [.int vMo, .int vSh, .ref aK, .ref aC, .ref aS])), (aC, .inr (1, [.int vCn, .ref aCd])), (aS, .inr (4, [.int vVa, .int vCo, .int vBi, .int vPh, .ref aPr, .ref aHo, .ref aHe, .ref aSt, .ref aPb, .ref aPs])), (aHo, .inl (cI, 16, .inl fHo))]) (fr_VN (As := [.int x1]) (rest := []) (own := RX5) (host := RX5) (C := RX3) ⟨hx, hb, hml, hown, hts⟩ hN (tX3_cellOf aP aC aS aHo aK aCd aPr aHe aSt aPb aPs vMo vSh vCn vVa vCo vBi vPh fHo x1 r_114 q_114) gX5_slot_X3_cellOf_n147 rfl (nx_mem (i := 409) (by decide +kernel) rfl) (List.mem_of_getElem? (i := 19) rfl) (List.mem_of_getElem? (i := 18) rfl) (List.mem_of_getElem? (i := 20) rfl) (fr_preV (As := [.int x1]) (b := aP) (ci := 3) (q0 := 4) (wc := [(aP, .inr (3, [.int vMo, .int vSh, .ref aK, .ref aC, .ref aS])), (aC, .inr (1, [.int vCn, .ref aCd])), (aS, .inr (4, [.int vVa, .int vCo, .int vBi, .int vPh, .ref aPr, .ref aHo, .ref aHe, .ref aSt, .ref aPb, .ref aPs])), (aHo, .inl (cI, 16, .inl fHo))]) hK hN hP hD [4, 8, 10, 12] (by decide) rfl rfl rfl) (n := 1) (by decide +kernel) ⟨Nat.le_of_ble_eq_true rfl, Nat.le_of_ble_eq_true rfl⟩ rfl hl.1 rfl (Nat.le_of_ble_eq_true rfl) dX5_slot_114 ⟨Nat.zero_le _, Nat.zero_le _⟩) hP hD hS hA [4, 8, 10, 12] rfl (c2 := 0) (s2 := 0) rfl rfl (fun H locs hP hS => ?_)
              exact hret r_114 117 ls H locs rfl dX5_slot_117 hP hD hS h
            · have h := (if_neg c6).symm.trans h
              have nc4 := lv_neT c4 (show (0 : Int32).toInt = 0 from rfl)
              have nc5 := lv_neT c5 (show (1 : Int32).toInt = 1 from rfl)
              have nc6 := lv_neT c6 (show (2 : Int32).toInt = 2 from rfl)
              refine lv_tableOut (tgt := 118) hx hb dX5_slot_58 (by omega) (by decide) ?_
              refine lv_bipush (v := (-2 : Int32)) hx hb dX5_slot_118 (by decide) ?_
              exact hret (-2 : Int32) 120 ls H locs rfl dX5_slot_120 hP hD hS h
      · have h := (if_neg c2).symm.trans h
        refine lv_iconst (v := (-1 : Int32)) hx hb dX5_slot_55 (by decide) ?_
        exact hret (-1 : Int32) 56 ls H locs rfl dX5_slot_56 hP hD hS h
  unfold fX5_slot at h
  obtain ⟨H, hH⟩ : ∃ H, H = s.heap := ⟨_, rfl⟩
  have hP : va_P D vwCl [(aX, .inr (5, [.ref aB, .ref aP, .ref aI])), (aI, .inl (cP, 2, .inr (.inr (.inr (.inr fIm))))), (aB, .inr (0, [.ref aP, .ref aS, .ref aW, .int vSl])), (aW, .inl (cI, 256, .inl fWo)), (aP, .inr (3, [.int vMo, .int vSh, .ref aK, .ref aC, .ref aS])), (aK, .inr (2, [.int vKn, .ref aKd, .ref aKs])), (aKd, .inl (cI, 8, .inl fKd)), (aKs, .inl (cI, 8, .inl fKs)), (aC, .inr (1, [.int vCn, .ref aCd])), (aCd, .inl (cI, 12, .inl fCd)), (aS, .inr (4, [.int vVa, .int vCo, .int vBi, .int vPh, .ref aPr, .ref aHo, .ref aHe, .ref aSt, .ref aPb, .ref aPs])), (aPr, .inl (cI, 16, .inl fPr)), (aHo, .inl (cI, 16, .inl fHo)), (aHe, .inl (cI, 16, .inl fHe)), (aSt, .inl (cI, 16, .inl fSt)), (aPb, .inl (cI, 16, .inl fPb)), (aPs, .inl (cI, 16, .inl fPs))] H := by rw [hH]; exact hP
  obtain ⟨locs, hlocs⟩ : ∃ x : List Loc, x = [] := ⟨_, rfl⟩
  have hS : va_S A s.heap H locs := by rw [hH, hlocs]; exact hS
  suffices hgo : W p l e rX5_slot s m args below meth c H locs 0 0 Q (F0 m 0 ls []) by rw [hH, hlocs] at hgo; exact hgo
  refine lv_aload_n hx hb dX5_slot_0 rfl (lv_at hl 0 rfl) ?_
  refine va_get (D := D) (ci := 5) (v := .ref aP) (C := RX5) (T := TX5) (N := 3) hx hb hts i5 hown hK hP 0 rfl rfl 1 (by decide) (hts (.fieldLink RX5 20 RX5 "now" "LBidMosaic$Picture;") (List.mem_of_getElem? (i := 1) rfl)) (fun _ h9 => h9) rfl dX5_slot_1 ?_
  refine va_getN (D := D) (ci := 3) (v := .ref aS) (C := RX3) (T := TX3) (N := 5) hx hb hts i3 hown hK hP 4 rfl rfl 4 (by decide) (hN.f (a := RX5) (i := 33) (b := RX3) (n := "sale") (d := "LBidMosaic$Sale;") (h := RX5) (nx_mem (i := 130) (by decide +kernel) rfl)) (fun _ h9 => h9) rfl dX5_slot_4 ?_
  refine va_getN (D := D) (ci := 4) (v := .int vVa) (C := RX4) (T := TX4) (N := 10) hx hb hts i4 hown hK hP 10 rfl rfl 0 (by decide) (hN.f (a := RX5) (i := 37) (b := RX4) (n := "valid") (d := "Z") (h := RX5) (nx_mem (i := 76) (by decide +kernel) rfl)) (fun _ h9 => h9) rfl dX5_slot_7 ?_
  refine lv_if_eq (tgt := 31) hx hb dX5_slot_10 (by decide) (fun c7 => ?_) (fun c7 => ?_)
  · have h := (if_pos c7).symm.trans h
    refine lv_bipush (v := (-3 : Int32)) hx hb dX5_slot_31 (by decide) ?_
    exact hret (-3 : Int32) 33 ls H locs rfl dX5_slot_33 hP hD hS h
  · have h := (if_neg c7).symm.trans h
    refine lv_iload_n hx hb dX5_slot_13 rfl (lv_at hl 2 rfl) ?_
    refine lv_iconst (v := (2 : Int32)) hx hb dX5_slot_14 (by decide) ?_
    refine lv_icmp_ne (tgt := 34) hx hb dX5_slot_15 (by decide) (fun c8 => ?_) (fun c8 => ?_)
    · have h := (if_neg c8).symm.trans h
      exact hb34 x1 x2 H locs ls hP hD hS (lv_sub hl [0, 1, 2] rfl) h
    · have h := (if_pos c8).symm.trans h
      refine lv_aload_n hx hb dX5_slot_18 rfl (lv_at hl 0 rfl) ?_
      refine va_get (D := D) (ci := 5) (v := .ref aP) (C := RX5) (T := TX5) (N := 3) hx hb hts i5 hown hK hP 0 rfl rfl 1 (by decide) (hts (.fieldLink RX5 20 RX5 "now" "LBidMosaic$Picture;") (List.mem_of_getElem? (i := 1) rfl)) (fun _ h9 => h9) rfl dX5_slot_19 ?_
      refine va_getN (D := D) (ci := 3) (v := .ref aS) (C := RX3) (T := TX3) (N := 5) hx hb hts i3 hown hK hP 4 rfl rfl 4 (by decide) (hN.f (a := RX5) (i := 33) (b := RX3) (n := "sale") (d := "LBidMosaic$Sale;") (h := RX5) (nx_mem (i := 130) (by decide +kernel) rfl)) (fun _ h9 => h9) rfl dX5_slot_22 ?_
      refine va_getN (D := D) (ci := 4) (v := .int vCo) (C := RX4) (T := TX4) (N := 10) hx hb hts i4 hown hK hP 10 rfl rfl 1 (by decide) (hN.f (a := RX5) (i := 106) (b := RX4) (n := "content") (d := "Z") (h := RX5) (nx_mem (i := 78) (by decide +kernel) rfl)) (fun _ h9 => h9) rfl dX5_slot_25 ?_
      refine lv_if_ne (tgt := 34) hx hb dX5_slot_28 (by decide) (fun c9 => ?_) (fun c9 => ?_)
      · have h := (if_neg c9).symm.trans h
        exact hb34 x1 x2 H locs ls hP hD hS (lv_sub hl [0, 1, 2] rfl) h
      · have h := (if_pos c9).symm.trans h
        refine lv_bipush (v := (-3 : Int32)) hx hb dX5_slot_31 (by decide) ?_
        exact hret (-3 : Int32) 33 ls H locs rfl dX5_slot_33 hP hD hS h
def fX5_gain_b62 (vMo : Int32) (vKn : Int32) (fKd : Nat → Int32) (fKs : Nat → Int32) (vCn : Int32) (fCd : Nat → Int32) (vVa : Int32) (vCo : Int32) (fPr : Nat → Int32) (fHe : Nat → Int32) (x1 : Int32) (x2 : Int32) (vSl : Int32) (fWo : Nat → Int32) : Option (Int32 × Int32 × (Nat → Int32)) :=
  bd2 (fX0_readWorths vSl fWo vMo vKn fKd fKs vCn fCd) fun vSl_66 fWo_66 =>
  if x2 = 0 then
    bd1 (fX0_ownGain fWo_66 fPr fHe x1) fun r_78 =>
    some (r_78, vSl_66, fWo_66)
  else
    bd1 (fX0_greatestGain vSl_66 fWo_66 fPr x1) fun r_89 =>
    some (r_89, vSl_66, fWo_66)
def fX5_gain_b33 (vMo : Int32) (vKn : Int32) (fKd : Nat → Int32) (fKs : Nat → Int32) (vCn : Int32) (fCd : Nat → Int32) (vVa : Int32) (vCo : Int32) (fPr : Nat → Int32) (fHe : Nat → Int32) (x1 : Int32) (x2 : Int32) (vSl : Int32) (fWo : Nat → Int32) : Option (Int32 × Int32 × (Nat → Int32)) :=
  bd1 (fX1_has vCn x1) fun r_41 =>
  if r_41 = 0 then
    some ((-100000001 : Int32), vSl, fWo)
  else
    if x2 = 0 then
      fX5_gain_b62 vMo vKn fKd fKs vCn fCd vVa vCo fPr fHe x1 x2 vSl fWo
    else
      if x2 = (1 : Int32) then
        fX5_gain_b62 vMo vKn fKd fKs vCn fCd vVa vCo fPr fHe x1 x2 vSl fWo
      else
        some ((-100000002 : Int32), vSl, fWo)
def fX5_gain (vSl : Int32) (fWo : Nat → Int32) (vMo : Int32) (vKn : Int32) (fKd : Nat → Int32) (fKs : Nat → Int32) (vCn : Int32) (fCd : Nat → Int32) (vVa : Int32) (vCo : Int32) (fPr : Nat → Int32) (fHe : Nat → Int32) (x1 : Int32) (x2 : Int32) : Option (Int32 × Int32 × (Nat → Int32)) :=
  if vVa = 0 then
    some ((-100000003 : Int32), vSl, fWo)
  else
    if x2 = 0 then
      if vCo = 0 then
        some ((-100000003 : Int32), vSl, fWo)
      else
        fX5_gain_b33 vMo vKn fKd fKs vCn fCd vVa vCo fPr fHe x1 x2 vSl fWo
    else
      fX5_gain_b33 vMo vKn fKd fKs vCn fCd vVa vCo fPr fHe x1 x2 vSl fWo
abbrev rX5_gain : Room := { frames := 5, cells := 0, slots := 0, locals := 108 }
set_option maxHeartbeats 4000000 in
set_option maxRecDepth 100000 in
theorem tX5_gain {l : Launch} {D : va_G} {cI cZ cP : ClassId} (aX aI aB aW aP aK aKd aKs aC aCd aS aPr aHo aHe aSt aPb aPs : Nat) (fIm : Nat → Option Nat) (vSl : Int32) (fWo : Nat → Int32) (vMo : Int32) (vSh : Int32) (vKn : Int32) (fKd : Nat → Int32) (fKs : Nat → Int32) (vCn : Int32) (fCd : Nat → Int32) (vVa : Int32) (vCo : Int32) (vBi : Int32) (vPh : Int32) (fPr : Nat → Int32) (fHo : Nat → Int32) (fHe : Nat → Int32) (fSt : Nat → Int32) (fPb : Nat → Int32) (fPs : Nat → Int32) (x1 : Int32) (x2 : Int32) (r : Int32) (oSl : Int32) (oWo : Nat → Int32) (h : fX5_gain vSl fWo vMo vKn fKd fKs vCn fCd vVa vCo fPr fHe x1 x2 = some (r, oSl, oWo)) : CtI l D cI cZ cP yX5_gain wsX5_gain rX5_gain [.ref aX, .int x1, .int x2] [(aX, .inr (5, [.ref aB, .ref aP, .ref aI])), (aI, .inl (cP, 2, .inr (.inr (.inr (.inr fIm))))), (aB, .inr (0, [.ref aP, .ref aS, .ref aW, .int vSl])), (aW, .inl (cI, 256, .inl fWo)), (aP, .inr (3, [.int vMo, .int vSh, .ref aK, .ref aC, .ref aS])), (aK, .inr (2, [.int vKn, .ref aKd, .ref aKs])), (aKd, .inl (cI, 8, .inl fKd)), (aKs, .inl (cI, 8, .inl fKs)), (aC, .inr (1, [.int vCn, .ref aCd])), (aCd, .inl (cI, 12, .inl fCd)), (aS, .inr (4, [.int vVa, .int vCo, .int vBi, .int vPh, .ref aPr, .ref aHo, .ref aHe, .ref aSt, .ref aPb, .ref aPs])), (aPr, .inl (cI, 16, .inl fPr)), (aHo, .inl (cI, 16, .inl fHo)), (aHe, .inl (cI, 16, .inl fHe)), (aSt, .inl (cI, 16, .inl fSt)), (aPb, .inl (cI, 16, .inl fPb)), (aPs, .inl (cI, 16, .inl fPs))] (fun _ : Unit => [(aX, .inr (5, [.ref aB, .ref aP, .ref aI])), (aI, .inl (cP, 2, .inr (.inr (.inr (.inr fIm))))), (aB, .inr (0, [.ref aP, .ref aS, .ref aW, .int oSl])), (aW, .inl (cI, 256, .inl oWo)), (aP, .inr (3, [.int vMo, .int vSh, .ref aK, .ref aC, .ref aS])), (aK, .inr (2, [.int vKn, .ref aKd, .ref aKs])), (aKd, .inl (cI, 8, .inl fKd)), (aKs, .inl (cI, 8, .inl fKs)), (aC, .inr (1, [.int vCn, .ref aCd])), (aCd, .inl (cI, 12, .inl fCd)), (aS, .inr (4, [.int vVa, .int vCo, .int vBi, .int vPh, .ref aPr, .ref aHo, .ref aHe, .ref aSt, .ref aPb, .ref aPs])), (aPr, .inl (cI, 16, .inl fPr)), (aHo, .inl (cI, 16, .inl fHo)), (aHe, .inl (cI, 16, .inl fHe)), (aSt, .inl (cI, 16, .inl fSt)), (aPb, .inl (cI, 16, .inl fPb)), (aPs, .inl (cI, 16, .inl fPs))]) r := by
  refine CtI.ofW (cc := cX5_gain) (maxL := 3) (by decide) rfl (Nat.le_of_ble_eq_true rfl) (lv := [(0, .ref aX), (1, .int x1), (2, .int x2)]) rfl ?_
  intro p e s m args below meth c A Q ls hx hb hml hown hts hK hN hP hD hS hA hl hret0
  have hown : s.vm.findClass RX5 = some m.cls := hown
  have i0 : ∀ w ∈ wsX00, w ∈ wsX5_gain := mem_ps [97, 98, 99, 100] rfl
  have i1 : ∀ w ∈ wsX10, w ∈ wsX5_gain := mem_ps [95, 96] rfl
  have i2 : ∀ w ∈ wsX20, w ∈ wsX5_gain := mem_ps [101, 102, 103] rfl
  have i3 : ∀ w ∈ wsX30, w ∈ wsX5_gain := mem_ps [80, 81, 82, 83, 84] rfl
  have i4 : ∀ w ∈ wsX40, w ∈ wsX5_gain := mem_ps [85, 86, 87, 88, 89, 90, 91, 92, 93, 94] rfl
  have i5 : ∀ w ∈ wsX50, w ∈ wsX5_gain := mem_ps [77, 78, 79] rfl
  have hret : ∀ (v : Int32) (zSl : Int32) (zWo : Nat → Int32) (pc : Nat) (ls : Array Slot) (H : Heap) (locs : List Loc), narrow .int (.int v) = .int v → decode cX5_gain pc = .ok (.ireturn, 1) → va_P D vwCl [(aX, .inr (5, [.ref aB, .ref aP, .ref aI])), (aI, .inl (cP, 2, .inr (.inr (.inr (.inr fIm))))), (aB, .inr (0, [.ref aP, .ref aS, .ref aW, .int zSl])), (aW, .inl (cI, 256, .inl zWo)), (aP, .inr (3, [.int vMo, .int vSh, .ref aK, .ref aC, .ref aS])), (aK, .inr (2, [.int vKn, .ref aKd, .ref aKs])), (aKd, .inl (cI, 8, .inl fKd)), (aKs, .inl (cI, 8, .inl fKs)), (aC, .inr (1, [.int vCn, .ref aCd])), (aCd, .inl (cI, 12, .inl fCd)), (aS, .inr (4, [.int vVa, .int vCo, .int vBi, .int vPh, .ref aPr, .ref aHo, .ref aHe, .ref aSt, .ref aPb, .ref aPs])), (aPr, .inl (cI, 16, .inl fPr)), (aHo, .inl (cI, 16, .inl fHo)), (aHe, .inl (cI, 16, .inl fHe)), (aSt, .inl (cI, 16, .inl fSt)), (aPb, .inl (cI, 16, .inl fPb)), (aPs, .inl (cI, 16, .inl fPs))] H → va_D A [(aX, .inr (5, [.ref aB, .ref aP, .ref aI])), (aI, .inl (cP, 2, .inr (.inr (.inr (.inr fIm))))), (aB, .inr (0, [.ref aP, .ref aS, .ref aW, .int zSl])), (aW, .inl (cI, 256, .inl zWo)), (aP, .inr (3, [.int vMo, .int vSh, .ref aK, .ref aC, .ref aS])), (aK, .inr (2, [.int vKn, .ref aKd, .ref aKs])), (aKd, .inl (cI, 8, .inl fKd)), (aKs, .inl (cI, 8, .inl fKs)), (aC, .inr (1, [.int vCn, .ref aCd])), (aCd, .inl (cI, 12, .inl fCd)), (aS, .inr (4, [.int vVa, .int vCo, .int vBi, .int vPh, .ref aPr, .ref aHo, .ref aHe, .ref aSt, .ref aPb, .ref aPs])), (aPr, .inl (cI, 16, .inl fPr)), (aHo, .inl (cI, 16, .inl fHo)), (aHe, .inl (cI, 16, .inl fHe)), (aSt, .inl (cI, 16, .inl fSt)), (aPb, .inl (cI, 16, .inl fPb)), (aPs, .inl (cI, 16, .inl fPs))] → va_S A s.heap H locs → some (v, zSl, zWo) = some (r, oSl, oWo) → W p l e rX5_gain s m args below meth c H locs 0 0 Q (F0 m pc ls [.int v]) := by
    intro v zSl zWo pc ls H locs hn hd hP hD hS h
    cases h
    exact hret0 pc ls H locs () hn hd hP hD hS
  clear hret0
  have hb62 : ∀ (x1 : Int32) (x2 : Int32) (vSl : Int32) (fWo : Nat → Int32) (H : Heap) (locs : List Loc) (ls : Array Slot), va_P D vwCl [(aX, .inr (5, [.ref aB, .ref aP, .ref aI])), (aI, .inl (cP, 2, .inr (.inr (.inr (.inr fIm))))), (aB, .inr (0, [.ref aP, .ref aS, .ref aW, .int vSl])), (aW, .inl (cI, 256, .inl fWo)), (aP, .inr (3, [.int vMo, .int vSh, .ref aK, .ref aC, .ref aS])), (aK, .inr (2, [.int vKn, .ref aKd, .ref aKs])), (aKd, .inl (cI, 8, .inl fKd)), (aKs, .inl (cI, 8, .inl fKs)), (aC, .inr (1, [.int vCn, .ref aCd])), (aCd, .inl (cI, 12, .inl fCd)), (aS, .inr (4, [.int vVa, .int vCo, .int vBi, .int vPh, .ref aPr, .ref aHo, .ref aHe, .ref aSt, .ref aPb, .ref aPs])), (aPr, .inl (cI, 16, .inl fPr)), (aHo, .inl (cI, 16, .inl fHo)), (aHe, .inl (cI, 16, .inl fHe)), (aSt, .inl (cI, 16, .inl fSt)), (aPb, .inl (cI, 16, .inl fPb)), (aPs, .inl (cI, 16, .inl fPs))] H → va_D A [(aX, .inr (5, [.ref aB, .ref aP, .ref aI])), (aI, .inl (cP, 2, .inr (.inr (.inr (.inr fIm))))), (aB, .inr (0, [.ref aP, .ref aS, .ref aW, .int vSl])), (aW, .inl (cI, 256, .inl fWo)), (aP, .inr (3, [.int vMo, .int vSh, .ref aK, .ref aC, .ref aS])), (aK, .inr (2, [.int vKn, .ref aKd, .ref aKs])), (aKd, .inl (cI, 8, .inl fKd)), (aKs, .inl (cI, 8, .inl fKs)), (aC, .inr (1, [.int vCn, .ref aCd])), (aCd, .inl (cI, 12, .inl fCd)), (aS, .inr (4, [.int vVa, .int vCo, .int vBi, .int vPh, .ref aPr, .ref aHo, .ref aHe, .ref aSt, .ref aPb, .ref aPs])), (aPr, .inl (cI, 16, .inl fPr)), (aHo, .inl (cI, 16, .inl fHo)), (aHe, .inl (cI, 16, .inl fHe)), (aSt, .inl (cI, 16, .inl fSt)), (aPb, .inl (cI, 16, .inl fPb)), (aPs, .inl (cI, 16, .inl fPs))] → va_S A s.heap H locs → lv_has ls 3 [(0, .ref aX), (1, .int x1), (2, .int x2)] → fX5_gain_b62 vMo vKn fKd fKs vCn fCd vVa vCo fPr fHe x1 x2 vSl fWo = some (r, oSl, oWo) → W p l e rX5_gain s m args below meth c H locs 0 0 Q (F0 m 62 ls []) := by
    intro x1 x2 vSl fWo H locs ls hP hD hS hl h
    unfold fX5_gain_b62 at h
    refine lv_aload_n hx hb dX5_gain_62 rfl (lv_at hl 0 rfl) ?_
    refine va_get (D := D) (ci := 5) (v := .ref aB) (C := RX5) (T := TX5) (N := 3) hx hb hts i5 hown hK hP 0 rfl rfl 0 (by decide) (hts (.fieldLink RX5 10 RX5 "bidding" "LBidMosaic$Bidding;") (List.mem_of_getElem? (i := 5) rfl)) (fun _ h9 => h9) rfl dX5_gain_63 ?_
    obtain ⟨vSl_66, fWo_66, q_66, h⟩ := bd2_some h
    refine fr_rw_v (S := Unit) (wc := [(aB, .inr (0, [.ref aP, .ref aS, .ref aW, .int vSl])), (aW, .inl (cI, 256, .inl fWo)), (aP, .inr (3, [.int vMo, .int vSh, .ref aK, .ref aC, .ref aS])), (aK, .inr (2, [.int vKn, .ref aKd, .ref aKs])), (aKd, .inl (cI, 8, .inl fKd)), (aKs, .inl (cI, 8, .inl fKs)), (aC, .inr (1, [.int vCn, .ref aCd])), (aCd, .inl (cI, 12, .inl fCd))]) (wc' := fun _ => [(aB, .inr (0, [.ref aP, .ref aS, .ref aW, .int vSl_66])), (aW, .inl (cI, 256, .inl fWo_66)), (aP, .inr (3, [.int vMo, .int vSh, .ref aK, .ref aC, .ref aS])), (aK, .inr (2, [.int vKn, .ref aKd, .ref aKs])), (aKd, .inl (cI, 8, .inl fKd)), (aKs, .inl (cI, 8, .inl fKs)), (aC, .inr (1, [.int vCn, .ref aCd])), (aCd, .inl (cI, 12, .inl fCd))]) (wr := [(aX, .inr (5, [.ref aB, .ref aP, .ref aI])), (aI, .inl (cP, 2, .inr (.inr (.inr (.inr fIm))))), (aS, .inr (4, [.int vVa, .int vCo, .int vBi, .int vPh, .ref aPr, .ref aHo, .ref aHe, .ref aSt, .ref aPb, .ref aPs])), (aPr, .inl (cI, 16, .inl fPr)), (aHo, .inl (cI, 16, .inl fHo)), (aHe, .inl (cI, 16, .inl fHe)), (aSt, .inl (cI, 16, .inl fSt)), (aPb, .inl (cI, 16, .inl fPb)), (aPs, .inl (cI, 16, .inl fPs))]) (w2 := fun _ => [(aX, .inr (5, [.ref aB, .ref aP, .ref aI])), (aI, .inl (cP, 2, .inr (.inr (.inr (.inr fIm))))), (aB, .inr (0, [.ref aP, .ref aS, .ref aW, .int vSl_66])), (aW, .inl (cI, 256, .inl fWo_66)), (aP, .inr (3, [.int vMo, .int vSh, .ref aK, .ref aC, .ref aS])), (aK, .inr (2, [.int vKn, .ref aKd, .ref aKs])), (aKd, .inl (cI, 8, .inl fKd)), (aKs, .inl (cI, 8, .inl fKs)), (aC, .inr (1, [.int vCn, .ref aCd])), (aCd, .inl (cI, 12, .inl fCd)), (aS, .inr (4, [.int vVa, .int vCo, .int vBi, .int vPh, .ref aPr, .ref aHo, .ref aHe, .ref aSt, .ref aPb, .ref aPs])), (aPr, .inl (cI, 16, .inl fPr)), (aHo, .inl (cI, 16, .inl fHo)), (aHe, .inl (cI, 16, .inl fHe)), (aSt, .inl (cI, 16, .inl fSt)), (aPb, .inl (cI, 16, .inl fPb)), (aPs, .inl (cI, 16, .inl fPs))]) (fr_VNv (As := []) (rest := []) (own := RX5) (host := RX5) (C := RX0) ⟨hx, hb, hml, hown, hts⟩ hN (tX0_readWorths aB aW aP aK aKd aKs aC aCd aS vSl fWo vMo vSh vKn fKd fKs vCn fCd vSl_66 fWo_66 q_66) gX5_gain_X0_readWorths_n153 rfl (nx_mem (i := 421) (by decide +kernel) rfl) (List.mem_of_getElem? (i := 12) rfl) (List.mem_of_getElem? (i := 11) rfl) (List.mem_of_getElem? (i := 13) rfl) (fr_preV (As := []) (b := aB) (ci := 0) (q0 := 2) (wc := [(aB, .inr (0, [.ref aP, .ref aS, .ref aW, .int vSl])), (aW, .inl (cI, 256, .inl fWo)), (aP, .inr (3, [.int vMo, .int vSh, .ref aK, .ref aC, .ref aS])), (aK, .inr (2, [.int vKn, .ref aKd, .ref aKs])), (aKd, .inl (cI, 8, .inl fKd)), (aKs, .inl (cI, 8, .inl fKs)), (aC, .inr (1, [.int vCn, .ref aCd])), (aCd, .inl (cI, 12, .inl fCd))]) hK hN hP hD [2, 3, 4, 5, 6, 7, 8, 9] (by decide) rfl rfl rfl) (n := 0) (by decide +kernel) ⟨Nat.le_of_ble_eq_true rfl, Nat.le_of_ble_eq_true rfl⟩ rfl hl.1 rfl (Nat.le_of_ble_eq_true rfl) dX5_gain_66 ⟨Nat.zero_le _, Nat.zero_le _⟩) hP hD hS hA [2, 3, 4, 5, 6, 7, 8, 9] [0, 1, 10, 11, 12, 13, 14, 15, 16] [0, 1, 9, 10, 11, 12, 13, 14, 15, 16, 2, 3, 4, 5, 6, 7, 8] rfl rfl (by decide) (by decide) (by decide) (fun _ => rfl) (c2 := 0) (s2 := 0) rfl rfl (fun _ H locs hP hD hS => ?_)
    refine lv_iload_n hx hb dX5_gain_69 rfl (lv_at hl 2 rfl) ?_
    refine lv_if_ne (tgt := 84) hx hb dX5_gain_70 (by decide) (fun c1 => ?_) (fun c1 => ?_)
    · have h := (if_neg c1).symm.trans h
      refine lv_aload_n hx hb dX5_gain_84 rfl (lv_at hl 0 rfl) ?_
      refine va_get (D := D) (ci := 5) (v := .ref aB) (C := RX5) (T := TX5) (N := 3) hx hb hts i5 hown hK hP 0 rfl rfl 0 (by decide) (hts (.fieldLink RX5 10 RX5 "bidding" "LBidMosaic$Bidding;") (List.mem_of_getElem? (i := 5) rfl)) (fun _ h9 => h9) rfl dX5_gain_85 ?_
      refine lv_iload_n hx hb dX5_gain_88 rfl (lv_at hl 1 rfl) ?_
      obtain ⟨r_89, q_89, h⟩ := bd1_some h
      refine fr_ro_i (S := Unit) (wc := [(aB, .inr (0, [.ref aP, .ref aS, .ref aW, .int vSl_66])), (aW, .inl (cI, 256, .inl fWo_66)), (aS, .inr (4, [.int vVa, .int vCo, .int vBi, .int vPh, .ref aPr, .ref aHo, .ref aHe, .ref aSt, .ref aPb, .ref aPs])), (aPr, .inl (cI, 16, .inl fPr))]) (fr_VN (As := [.int x1]) (rest := []) (own := RX5) (host := RX5) (C := RX0) ⟨hx, hb, hml, hown, hts⟩ hN (tX0_greatestGain aB aW aS aPr aP aHo aHe aSt aPb aPs vSl_66 fWo_66 vVa vCo vBi vPh fPr x1 r_89 q_89) gX5_gain_X0_greatestGain_n159 rfl (nx_mem (i := 423) (by decide +kernel) rfl) (List.mem_of_getElem? (i := 12) rfl) (List.mem_of_getElem? (i := 71) rfl) (List.mem_of_getElem? (i := 72) rfl) (fr_preV (As := [.int x1]) (b := aB) (ci := 0) (q0 := 2) (wc := [(aB, .inr (0, [.ref aP, .ref aS, .ref aW, .int vSl_66])), (aW, .inl (cI, 256, .inl fWo_66)), (aS, .inr (4, [.int vVa, .int vCo, .int vBi, .int vPh, .ref aPr, .ref aHo, .ref aHe, .ref aSt, .ref aPb, .ref aPs])), (aPr, .inl (cI, 16, .inl fPr))]) hK hN hP hD [2, 3, 10, 11] (by decide) rfl rfl rfl) (n := 1) (by decide +kernel) ⟨Nat.le_of_ble_eq_true rfl, Nat.le_of_ble_eq_true rfl⟩ rfl hl.1 rfl (Nat.le_of_ble_eq_true rfl) dX5_gain_89 ⟨Nat.zero_le _, Nat.zero_le _⟩) hP hD hS hA [2, 3, 10, 11] rfl (c2 := 0) (s2 := 0) rfl rfl (fun H locs hP hS => ?_)
      exact hret r_89 vSl_66 fWo_66 92 ls H locs rfl dX5_gain_92 hP hD hS h
    · have h := (if_pos c1).symm.trans h
      refine lv_aload_n hx hb dX5_gain_73 rfl (lv_at hl 0 rfl) ?_
      refine va_get (D := D) (ci := 5) (v := .ref aB) (C := RX5) (T := TX5) (N := 3) hx hb hts i5 hown hK hP 0 rfl rfl 0 (by decide) (hts (.fieldLink RX5 10 RX5 "bidding" "LBidMosaic$Bidding;") (List.mem_of_getElem? (i := 5) rfl)) (fun _ h9 => h9) rfl dX5_gain_74 ?_
      refine lv_iload_n hx hb dX5_gain_77 rfl (lv_at hl 1 rfl) ?_
      obtain ⟨r_78, q_78, h⟩ := bd1_some h
      refine fr_ro_i (S := Unit) (wc := [(aB, .inr (0, [.ref aP, .ref aS, .ref aW, .int vSl_66])), (aW, .inl (cI, 256, .inl fWo_66)), (aS, .inr (4, [.int vVa, .int vCo, .int vBi, .int vPh, .ref aPr, .ref aHo, .ref aHe, .ref aSt, .ref aPb, .ref aPs])), (aPr, .inl (cI, 16, .inl fPr)), (aHe, .inl (cI, 16, .inl fHe))]) (fr_VN (As := [.int x1]) (rest := []) (own := RX5) (host := RX5) (C := RX0) ⟨hx, hb, hml, hown, hts⟩ hN (tX0_ownGain aB aW aS aPr aHe aP aHo aSt aPb aPs vSl_66 fWo_66 vVa vCo vBi vPh fPr fHe x1 r_78 q_78) gX5_gain_X0_ownGain_n156 rfl (nx_mem (i := 422) (by decide +kernel) rfl) (List.mem_of_getElem? (i := 12) rfl) (List.mem_of_getElem? (i := 55) rfl) (List.mem_of_getElem? (i := 56) rfl) (fr_preV (As := [.int x1]) (b := aB) (ci := 0) (q0 := 2) (wc := [(aB, .inr (0, [.ref aP, .ref aS, .ref aW, .int vSl_66])), (aW, .inl (cI, 256, .inl fWo_66)), (aS, .inr (4, [.int vVa, .int vCo, .int vBi, .int vPh, .ref aPr, .ref aHo, .ref aHe, .ref aSt, .ref aPb, .ref aPs])), (aPr, .inl (cI, 16, .inl fPr)), (aHe, .inl (cI, 16, .inl fHe))]) hK hN hP hD [2, 3, 10, 11, 13] (by decide) rfl rfl rfl) (n := 1) (by decide +kernel) ⟨Nat.le_of_ble_eq_true rfl, Nat.le_of_ble_eq_true rfl⟩ rfl hl.1 rfl (Nat.le_of_ble_eq_true rfl) dX5_gain_78 ⟨Nat.zero_le _, Nat.zero_le _⟩) hP hD hS hA [2, 3, 10, 11, 13] rfl (c2 := 0) (s2 := 0) rfl rfl (fun H locs hP hS => ?_)
      refine lv_goto (tgt := 92) hx hb dX5_gain_81 (by decide) ?_
      exact hret r_78 vSl_66 fWo_66 92 ls H locs rfl dX5_gain_92 hP hD hS h
  have hb33 : ∀ (x1 : Int32) (x2 : Int32) (vSl : Int32) (fWo : Nat → Int32) (H : Heap) (locs : List Loc) (ls : Array Slot), va_P D vwCl [(aX, .inr (5, [.ref aB, .ref aP, .ref aI])), (aI, .inl (cP, 2, .inr (.inr (.inr (.inr fIm))))), (aB, .inr (0, [.ref aP, .ref aS, .ref aW, .int vSl])), (aW, .inl (cI, 256, .inl fWo)), (aP, .inr (3, [.int vMo, .int vSh, .ref aK, .ref aC, .ref aS])), (aK, .inr (2, [.int vKn, .ref aKd, .ref aKs])), (aKd, .inl (cI, 8, .inl fKd)), (aKs, .inl (cI, 8, .inl fKs)), (aC, .inr (1, [.int vCn, .ref aCd])), (aCd, .inl (cI, 12, .inl fCd)), (aS, .inr (4, [.int vVa, .int vCo, .int vBi, .int vPh, .ref aPr, .ref aHo, .ref aHe, .ref aSt, .ref aPb, .ref aPs])), (aPr, .inl (cI, 16, .inl fPr)), (aHo, .inl (cI, 16, .inl fHo)), (aHe, .inl (cI, 16, .inl fHe)), (aSt, .inl (cI, 16, .inl fSt)), (aPb, .inl (cI, 16, .inl fPb)), (aPs, .inl (cI, 16, .inl fPs))] H → va_D A [(aX, .inr (5, [.ref aB, .ref aP, .ref aI])), (aI, .inl (cP, 2, .inr (.inr (.inr (.inr fIm))))), (aB, .inr (0, [.ref aP, .ref aS, .ref aW, .int vSl])), (aW, .inl (cI, 256, .inl fWo)), (aP, .inr (3, [.int vMo, .int vSh, .ref aK, .ref aC, .ref aS])), (aK, .inr (2, [.int vKn, .ref aKd, .ref aKs])), (aKd, .inl (cI, 8, .inl fKd)), (aKs, .inl (cI, 8, .inl fKs)), (aC, .inr (1, [.int vCn, .ref aCd])), (aCd, .inl (cI, 12, .inl fCd)), (aS, .inr (4, [.int vVa, .int vCo, .int vBi, .int vPh, .ref aPr, .ref aHo, .ref aHe, .ref aSt, .ref aPb, .ref aPs])), (aPr, .inl (cI, 16, .inl fPr)), (aHo, .inl (cI, 16, .inl fHo)), (aHe, .inl (cI, 16, .inl fHe)), (aSt, .inl (cI, 16, .inl fSt)), (aPb, .inl (cI, 16, .inl fPb)), (aPs, .inl (cI, 16, .inl fPs))] → va_S A s.heap H locs → lv_has ls 3 [(0, .ref aX), (1, .int x1), (2, .int x2)] → fX5_gain_b33 vMo vKn fKd fKs vCn fCd vVa vCo fPr fHe x1 x2 vSl fWo = some (r, oSl, oWo) → W p l e rX5_gain s m args below meth c H locs 0 0 Q (F0 m 33 ls []) := by
    intro x1 x2 vSl fWo H locs ls hP hD hS hl h
    unfold fX5_gain_b33 at h
    refine lv_aload_n hx hb dX5_gain_33 rfl (lv_at hl 0 rfl) ?_
    refine va_get (D := D) (ci := 5) (v := .ref aP) (C := RX5) (T := TX5) (N := 3) hx hb hts i5 hown hK hP 0 rfl rfl 1 (by decide) (hts (.fieldLink RX5 20 RX5 "now" "LBidMosaic$Picture;") (List.mem_of_getElem? (i := 1) rfl)) (fun _ h9 => h9) rfl dX5_gain_34 ?_
    refine va_getN (D := D) (ci := 3) (v := .ref aC) (C := RX3) (T := TX3) (N := 5) hx hb hts i3 hown hK hP 4 rfl rfl 3 (by decide) (hN.f (a := RX5) (i := 95) (b := RX3) (n := "cells") (d := "LBidMosaic$Cells;") (h := RX5) (nx_mem (i := 127) (by decide +kernel) rfl)) (fun _ h9 => h9) rfl dX5_gain_37 ?_
    refine lv_iload_n hx hb dX5_gain_40 rfl (lv_at hl 1 rfl) ?_
    obtain ⟨r_41, q_41, h⟩ := bd1_some h
    refine fr_ro_i (S := Unit) (wc := [(aC, .inr (1, [.int vCn, .ref aCd]))]) (fr_VN (As := [.int x1]) (rest := []) (own := RX5) (host := RX5) (C := RX1) ⟨hx, hb, hml, hown, hts⟩ hN (tX1_has aC aCd vCn x1 r_41 q_41) gX5_gain_X1_has_n104 rfl (nx_mem (i := 261) (by decide +kernel) rfl) (List.mem_of_getElem? (i := 7) rfl) (List.mem_of_getElem? (i := 6) rfl) (List.mem_of_getElem? (i := 8) rfl) (fr_preV (As := [.int x1]) (b := aC) (ci := 1) (q0 := 8) (wc := [(aC, .inr (1, [.int vCn, .ref aCd]))]) hK hN hP hD [8] (by decide) rfl rfl rfl) (n := 1) (by decide +kernel) ⟨Nat.le_of_ble_eq_true rfl, Nat.le_of_ble_eq_true rfl⟩ rfl hl.1 rfl (Nat.le_of_ble_eq_true rfl) dX5_gain_41 ⟨Nat.zero_le _, Nat.zero_le _⟩) hP hD hS hA [8] rfl (c2 := 0) (s2 := 0) rfl rfl (fun H locs hP hS => ?_)
    refine lv_if_ne (tgt := 50) hx hb dX5_gain_44 (by decide) (fun c2 => ?_) (fun c2 => ?_)
    · have h := (if_neg c2).symm.trans h
      refine lv_iload_n hx hb dX5_gain_50 rfl (lv_at hl 2 rfl) ?_
      refine lv_if_eq (tgt := 62) hx hb dX5_gain_51 (by decide) (fun c3 => ?_) (fun c3 => ?_)
      · have h := (if_pos c3).symm.trans h
        exact hb62 x1 x2 vSl fWo H locs ls hP hD hS (lv_sub hl [0, 1, 2] rfl) h
      · have h := (if_neg c3).symm.trans h
        refine lv_iload_n hx hb dX5_gain_54 rfl (lv_at hl 2 rfl) ?_
        refine lv_iconst (v := (1 : Int32)) hx hb dX5_gain_55 (by decide) ?_
        refine lv_icmp_eq (tgt := 62) hx hb dX5_gain_56 (by decide) (fun c4 => ?_) (fun c4 => ?_)
        · have h := (if_pos c4).symm.trans h
          exact hb62 x1 x2 vSl fWo H locs ls hP hD hS (lv_sub hl [0, 1, 2] rfl) h
        · have h := (if_neg c4).symm.trans h
          refine lv_ldc (v := (-100000002 : Int32)) hx hb hown (hts (.constant RX5 152 (-100000002 : Int32)) (List.mem_of_getElem? (i := 4) rfl)) dX5_gain_59 ?_
          exact hret (-100000002 : Int32) vSl fWo 61 ls H locs rfl dX5_gain_61 hP hD hS h
    · have h := (if_pos c2).symm.trans h
      refine lv_ldc (v := (-100000001 : Int32)) hx hb hown (hts (.constant RX5 151 (-100000001 : Int32)) (List.mem_of_getElem? (i := 3) rfl)) dX5_gain_47 ?_
      exact hret (-100000001 : Int32) vSl fWo 49 ls H locs rfl dX5_gain_49 hP hD hS h
  unfold fX5_gain at h
  obtain ⟨H, hH⟩ : ∃ H, H = s.heap := ⟨_, rfl⟩
  have hP : va_P D vwCl [(aX, .inr (5, [.ref aB, .ref aP, .ref aI])), (aI, .inl (cP, 2, .inr (.inr (.inr (.inr fIm))))), (aB, .inr (0, [.ref aP, .ref aS, .ref aW, .int vSl])), (aW, .inl (cI, 256, .inl fWo)), (aP, .inr (3, [.int vMo, .int vSh, .ref aK, .ref aC, .ref aS])), (aK, .inr (2, [.int vKn, .ref aKd, .ref aKs])), (aKd, .inl (cI, 8, .inl fKd)), (aKs, .inl (cI, 8, .inl fKs)), (aC, .inr (1, [.int vCn, .ref aCd])), (aCd, .inl (cI, 12, .inl fCd)), (aS, .inr (4, [.int vVa, .int vCo, .int vBi, .int vPh, .ref aPr, .ref aHo, .ref aHe, .ref aSt, .ref aPb, .ref aPs])), (aPr, .inl (cI, 16, .inl fPr)), (aHo, .inl (cI, 16, .inl fHo)), (aHe, .inl (cI, 16, .inl fHe)), (aSt, .inl (cI, 16, .inl fSt)), (aPb, .inl (cI, 16, .inl fPb)), (aPs, .inl (cI, 16, .inl fPs))] H := by rw [hH]; exact hP
  obtain ⟨locs, hlocs⟩ : ∃ x : List Loc, x = [] := ⟨_, rfl⟩
  have hS : va_S A s.heap H locs := by rw [hH, hlocs]; exact hS
  suffices hgo : W p l e rX5_gain s m args below meth c H locs 0 0 Q (F0 m 0 ls []) by rw [hH, hlocs] at hgo; exact hgo
  refine lv_aload_n hx hb dX5_gain_0 rfl (lv_at hl 0 rfl) ?_
  refine va_get (D := D) (ci := 5) (v := .ref aP) (C := RX5) (T := TX5) (N := 3) hx hb hts i5 hown hK hP 0 rfl rfl 1 (by decide) (hts (.fieldLink RX5 20 RX5 "now" "LBidMosaic$Picture;") (List.mem_of_getElem? (i := 1) rfl)) (fun _ h9 => h9) rfl dX5_gain_1 ?_
  refine va_getN (D := D) (ci := 3) (v := .ref aS) (C := RX3) (T := TX3) (N := 5) hx hb hts i3 hown hK hP 4 rfl rfl 4 (by decide) (hN.f (a := RX5) (i := 33) (b := RX3) (n := "sale") (d := "LBidMosaic$Sale;") (h := RX5) (nx_mem (i := 130) (by decide +kernel) rfl)) (fun _ h9 => h9) rfl dX5_gain_4 ?_
  refine va_getN (D := D) (ci := 4) (v := .int vVa) (C := RX4) (T := TX4) (N := 10) hx hb hts i4 hown hK hP 10 rfl rfl 0 (by decide) (hN.f (a := RX5) (i := 37) (b := RX4) (n := "valid") (d := "Z") (h := RX5) (nx_mem (i := 76) (by decide +kernel) rfl)) (fun _ h9 => h9) rfl dX5_gain_7 ?_
  refine lv_if_eq (tgt := 30) hx hb dX5_gain_10 (by decide) (fun c5 => ?_) (fun c5 => ?_)
  · have h := (if_pos c5).symm.trans h
    refine lv_ldc (v := (-100000003 : Int32)) hx hb hown (hts (.constant RX5 150 (-100000003 : Int32)) (List.mem_of_getElem? (i := 2) rfl)) dX5_gain_30 ?_
    exact hret (-100000003 : Int32) vSl fWo 32 ls H locs rfl dX5_gain_32 hP hD hS h
  · have h := (if_neg c5).symm.trans h
    refine lv_iload_n hx hb dX5_gain_13 rfl (lv_at hl 2 rfl) ?_
    refine lv_if_ne (tgt := 33) hx hb dX5_gain_14 (by decide) (fun c6 => ?_) (fun c6 => ?_)
    · have h := (if_neg c6).symm.trans h
      exact hb33 x1 x2 vSl fWo H locs ls hP hD hS (lv_sub hl [0, 1, 2] rfl) h
    · have h := (if_pos c6).symm.trans h
      refine lv_aload_n hx hb dX5_gain_17 rfl (lv_at hl 0 rfl) ?_
      refine va_get (D := D) (ci := 5) (v := .ref aP) (C := RX5) (T := TX5) (N := 3) hx hb hts i5 hown hK hP 0 rfl rfl 1 (by decide) (hts (.fieldLink RX5 20 RX5 "now" "LBidMosaic$Picture;") (List.mem_of_getElem? (i := 1) rfl)) (fun _ h9 => h9) rfl dX5_gain_18 ?_
      refine va_getN (D := D) (ci := 3) (v := .ref aS) (C := RX3) (T := TX3) (N := 5) hx hb hts i3 hown hK hP 4 rfl rfl 4 (by decide) (hN.f (a := RX5) (i := 33) (b := RX3) (n := "sale") (d := "LBidMosaic$Sale;") (h := RX5) (nx_mem (i := 130) (by decide +kernel) rfl)) (fun _ h9 => h9) rfl dX5_gain_21 ?_
      refine va_getN (D := D) (ci := 4) (v := .int vCo) (C := RX4) (T := TX4) (N := 10) hx hb hts i4 hown hK hP 10 rfl rfl 1 (by decide) (hN.f (a := RX5) (i := 106) (b := RX4) (n := "content") (d := "Z") (h := RX5) (nx_mem (i := 78) (by decide +kernel) rfl)) (fun _ h9 => h9) rfl dX5_gain_24 ?_
      refine lv_if_ne (tgt := 33) hx hb dX5_gain_27 (by decide) (fun c7 => ?_) (fun c7 => ?_)
      · have h := (if_neg c7).symm.trans h
        exact hb33 x1 x2 vSl fWo H locs ls hP hD hS (lv_sub hl [0, 1, 2] rfl) h
      · have h := (if_pos c7).symm.trans h
        refine lv_ldc (v := (-100000003 : Int32)) hx hb hown (hts (.constant RX5 150 (-100000003 : Int32)) (List.mem_of_getElem? (i := 2) rfl)) dX5_gain_30 ?_
        exact hret (-100000003 : Int32) vSl fWo 32 ls H locs rfl dX5_gain_32 hP hD hS h
def fX5_total (vMo : Int32) (vKn : Int32) (fKd : Nat → Int32) (fKs : Nat → Int32) (vCn : Int32) (fCd : Nat → Int32) (vVa : Int32) (vCo : Int32) (fHe : Nat → Int32) : Option (Int32) :=
  bd1 (fX4_isDone vVa vCo) fun r_7 =>
  if r_7 = 0 then
    some (-3 : Int32)
  else
    bd1 (fX3_sumOfDifferences vMo vKn fKd fKs vCn fCd fHe) fun r_17 =>
    some r_17
abbrev rX5_total : Room := { frames := 4, cells := 0, slots := 0, locals := 84 }
set_option maxHeartbeats 4000000 in
set_option maxRecDepth 100000 in
theorem tX5_total {l : Launch} {D : va_G} {cI cZ cP : ClassId} (aX aI aB aW aP aK aKd aKs aC aCd aS aPr aHo aHe aSt aPb aPs : Nat) (fIm : Nat → Option Nat) (vSl : Int32) (fWo : Nat → Int32) (vMo : Int32) (vSh : Int32) (vKn : Int32) (fKd : Nat → Int32) (fKs : Nat → Int32) (vCn : Int32) (fCd : Nat → Int32) (vVa : Int32) (vCo : Int32) (vBi : Int32) (vPh : Int32) (fPr : Nat → Int32) (fHo : Nat → Int32) (fHe : Nat → Int32) (fSt : Nat → Int32) (fPb : Nat → Int32) (fPs : Nat → Int32) (r : Int32) (h : fX5_total vMo vKn fKd fKs vCn fCd vVa vCo fHe = some r) : CtI l D cI cZ cP yX5_total wsX5_total rX5_total [.ref aX] [(aX, .inr (5, [.ref aB, .ref aP, .ref aI])), (aI, .inl (cP, 2, .inr (.inr (.inr (.inr fIm))))), (aB, .inr (0, [.ref aP, .ref aS, .ref aW, .int vSl])), (aW, .inl (cI, 256, .inl fWo)), (aP, .inr (3, [.int vMo, .int vSh, .ref aK, .ref aC, .ref aS])), (aK, .inr (2, [.int vKn, .ref aKd, .ref aKs])), (aKd, .inl (cI, 8, .inl fKd)), (aKs, .inl (cI, 8, .inl fKs)), (aC, .inr (1, [.int vCn, .ref aCd])), (aCd, .inl (cI, 12, .inl fCd)), (aS, .inr (4, [.int vVa, .int vCo, .int vBi, .int vPh, .ref aPr, .ref aHo, .ref aHe, .ref aSt, .ref aPb, .ref aPs])), (aPr, .inl (cI, 16, .inl fPr)), (aHo, .inl (cI, 16, .inl fHo)), (aHe, .inl (cI, 16, .inl fHe)), (aSt, .inl (cI, 16, .inl fSt)), (aPb, .inl (cI, 16, .inl fPb)), (aPs, .inl (cI, 16, .inl fPs))] (fun _ : Unit => [(aX, .inr (5, [.ref aB, .ref aP, .ref aI])), (aI, .inl (cP, 2, .inr (.inr (.inr (.inr fIm))))), (aB, .inr (0, [.ref aP, .ref aS, .ref aW, .int vSl])), (aW, .inl (cI, 256, .inl fWo)), (aP, .inr (3, [.int vMo, .int vSh, .ref aK, .ref aC, .ref aS])), (aK, .inr (2, [.int vKn, .ref aKd, .ref aKs])), (aKd, .inl (cI, 8, .inl fKd)), (aKs, .inl (cI, 8, .inl fKs)), (aC, .inr (1, [.int vCn, .ref aCd])), (aCd, .inl (cI, 12, .inl fCd)), (aS, .inr (4, [.int vVa, .int vCo, .int vBi, .int vPh, .ref aPr, .ref aHo, .ref aHe, .ref aSt, .ref aPb, .ref aPs])), (aPr, .inl (cI, 16, .inl fPr)), (aHo, .inl (cI, 16, .inl fHo)), (aHe, .inl (cI, 16, .inl fHe)), (aSt, .inl (cI, 16, .inl fSt)), (aPb, .inl (cI, 16, .inl fPb)), (aPs, .inl (cI, 16, .inl fPs))]) r := by
  refine CtI.ofW (cc := cX5_total) (maxL := 1) (by decide) rfl (Nat.le_of_ble_eq_true rfl) (lv := [(0, .ref aX)]) rfl ?_
  intro p e s m args below meth c A Q ls hx hb hml hown hts hK hN hP hD hS hA hl hret0
  have hown : s.vm.findClass RX5 = some m.cls := hown
  have i1 : ∀ w ∈ wsX10, w ∈ wsX5_total := mem_ps [70, 71] rfl
  have i2 : ∀ w ∈ wsX20, w ∈ wsX5_total := mem_ps [72, 73, 74] rfl
  have i3 : ∀ w ∈ wsX30, w ∈ wsX5_total := mem_ps [55, 56, 57, 58, 59] rfl
  have i4 : ∀ w ∈ wsX40, w ∈ wsX5_total := mem_ps [60, 61, 62, 63, 64, 65, 66, 67, 68, 69] rfl
  have i5 : ∀ w ∈ wsX50, w ∈ wsX5_total := mem_ps [52, 53, 54] rfl
  have hret : ∀ (v : Int32) (pc : Nat) (ls : Array Slot) (H : Heap) (locs : List Loc), narrow .int (.int v) = .int v → decode cX5_total pc = .ok (.ireturn, 1) → va_P D vwCl [(aX, .inr (5, [.ref aB, .ref aP, .ref aI])), (aI, .inl (cP, 2, .inr (.inr (.inr (.inr fIm))))), (aB, .inr (0, [.ref aP, .ref aS, .ref aW, .int vSl])), (aW, .inl (cI, 256, .inl fWo)), (aP, .inr (3, [.int vMo, .int vSh, .ref aK, .ref aC, .ref aS])), (aK, .inr (2, [.int vKn, .ref aKd, .ref aKs])), (aKd, .inl (cI, 8, .inl fKd)), (aKs, .inl (cI, 8, .inl fKs)), (aC, .inr (1, [.int vCn, .ref aCd])), (aCd, .inl (cI, 12, .inl fCd)), (aS, .inr (4, [.int vVa, .int vCo, .int vBi, .int vPh, .ref aPr, .ref aHo, .ref aHe, .ref aSt, .ref aPb, .ref aPs])), (aPr, .inl (cI, 16, .inl fPr)), (aHo, .inl (cI, 16, .inl fHo)), (aHe, .inl (cI, 16, .inl fHe)), (aSt, .inl (cI, 16, .inl fSt)), (aPb, .inl (cI, 16, .inl fPb)), (aPs, .inl (cI, 16, .inl fPs))] H → va_D A [(aX, .inr (5, [.ref aB, .ref aP, .ref aI])), (aI, .inl (cP, 2, .inr (.inr (.inr (.inr fIm))))), (aB, .inr (0, [.ref aP, .ref aS, .ref aW, .int vSl])), (aW, .inl (cI, 256, .inl fWo)), (aP, .inr (3, [.int vMo, .int vSh, .ref aK, .ref aC, .ref aS])), (aK, .inr (2, [.int vKn, .ref aKd, .ref aKs])), (aKd, .inl (cI, 8, .inl fKd)), (aKs, .inl (cI, 8, .inl fKs)), (aC, .inr (1, [.int vCn, .ref aCd])), (aCd, .inl (cI, 12, .inl fCd)), (aS, .inr (4, [.int vVa, .int vCo, .int vBi, .int vPh, .ref aPr, .ref aHo, .ref aHe, .ref aSt, .ref aPb, .ref aPs])), (aPr, .inl (cI, 16, .inl fPr)), (aHo, .inl (cI, 16, .inl fHo)), (aHe, .inl (cI, 16, .inl fHe)), (aSt, .inl (cI, 16, .inl fSt)), (aPb, .inl (cI, 16, .inl fPb)), (aPs, .inl (cI, 16, .inl fPs))] → va_S A s.heap H locs → some v = some r → W p l e rX5_total s m args below meth c H locs 0 0 Q (F0 m pc ls [.int v]) := by
    intro v pc ls H locs hn hd hP hD hS h
    cases h
    exact hret0 pc ls H locs () hn hd hP hD hS
  clear hret0
  unfold fX5_total at h
  obtain ⟨H, hH⟩ : ∃ H, H = s.heap := ⟨_, rfl⟩
  have hP : va_P D vwCl [(aX, .inr (5, [.ref aB, .ref aP, .ref aI])), (aI, .inl (cP, 2, .inr (.inr (.inr (.inr fIm))))), (aB, .inr (0, [.ref aP, .ref aS, .ref aW, .int vSl])), (aW, .inl (cI, 256, .inl fWo)), (aP, .inr (3, [.int vMo, .int vSh, .ref aK, .ref aC, .ref aS])), (aK, .inr (2, [.int vKn, .ref aKd, .ref aKs])), (aKd, .inl (cI, 8, .inl fKd)), (aKs, .inl (cI, 8, .inl fKs)), (aC, .inr (1, [.int vCn, .ref aCd])), (aCd, .inl (cI, 12, .inl fCd)), (aS, .inr (4, [.int vVa, .int vCo, .int vBi, .int vPh, .ref aPr, .ref aHo, .ref aHe, .ref aSt, .ref aPb, .ref aPs])), (aPr, .inl (cI, 16, .inl fPr)), (aHo, .inl (cI, 16, .inl fHo)), (aHe, .inl (cI, 16, .inl fHe)), (aSt, .inl (cI, 16, .inl fSt)), (aPb, .inl (cI, 16, .inl fPb)), (aPs, .inl (cI, 16, .inl fPs))] H := by rw [hH]; exact hP
  obtain ⟨locs, hlocs⟩ : ∃ x : List Loc, x = [] := ⟨_, rfl⟩
  have hS : va_S A s.heap H locs := by rw [hH, hlocs]; exact hS
  suffices hgo : W p l e rX5_total s m args below meth c H locs 0 0 Q (F0 m 0 ls []) by rw [hH, hlocs] at hgo; exact hgo
  refine lv_aload_n hx hb dX5_total_0 rfl (lv_at hl 0 rfl) ?_
  refine va_get (D := D) (ci := 5) (v := .ref aP) (C := RX5) (T := TX5) (N := 3) hx hb hts i5 hown hK hP 0 rfl rfl 1 (by decide) (hts (.fieldLink RX5 20 RX5 "now" "LBidMosaic$Picture;") (List.mem_of_getElem? (i := 1) rfl)) (fun _ h9 => h9) rfl dX5_total_1 ?_
  refine va_getN (D := D) (ci := 3) (v := .ref aS) (C := RX3) (T := TX3) (N := 5) hx hb hts i3 hown hK hP 4 rfl rfl 4 (by decide) (hN.f (a := RX5) (i := 33) (b := RX3) (n := "sale") (d := "LBidMosaic$Sale;") (h := RX5) (nx_mem (i := 130) (by decide +kernel) rfl)) (fun _ h9 => h9) rfl dX5_total_4 ?_
  obtain ⟨r_7, q_7, h⟩ := bd1_some h
  refine fr_ro_i (S := Unit) (wc := [(aS, .inr (4, [.int vVa, .int vCo, .int vBi, .int vPh, .ref aPr, .ref aHo, .ref aHe, .ref aSt, .ref aPb, .ref aPs]))]) (fr_VN (As := []) (rest := []) (own := RX5) (host := RX5) (C := RX4) ⟨hx, hb, hml, hown, hts⟩ hN (tX4_isDone aS aPr aHo aHe aSt aPb aPs vVa vCo vBi vPh r_7 q_7) gX5_total_X4_isDone_n88 rfl (nx_mem (i := 222) (by decide +kernel) rfl) (List.mem_of_getElem? (i := 3) rfl) (List.mem_of_getElem? (i := 2) rfl) (List.mem_of_getElem? (i := 4) rfl) (fr_preV (As := []) (b := aS) (ci := 4) (q0 := 10) (wc := [(aS, .inr (4, [.int vVa, .int vCo, .int vBi, .int vPh, .ref aPr, .ref aHo, .ref aHe, .ref aSt, .ref aPb, .ref aPs]))]) hK hN hP hD [10] (by decide) rfl rfl rfl) (n := 0) (by decide +kernel) ⟨Nat.le_of_ble_eq_true rfl, Nat.le_of_ble_eq_true rfl⟩ rfl hl.1 rfl (Nat.le_of_ble_eq_true rfl) dX5_total_7 ⟨Nat.zero_le _, Nat.zero_le _⟩) hP hD hS hA [10] rfl (c2 := 0) (s2 := 0) rfl rfl (fun H locs hP hS => ?_)
  refine lv_if_eq (tgt := 23) hx hb dX5_total_10 (by decide) (fun c1 => ?_) (fun c1 => ?_)
  · have h := (if_pos c1).symm.trans h
    refine lv_bipush (v := (-3 : Int32)) hx hb dX5_total_23 (by decide) ?_
    exact hret (-3 : Int32) 25 ls H locs rfl dX5_total_25 hP hD hS h
  · have h := (if_neg c1).symm.trans h
    refine lv_aload_n hx hb dX5_total_13 rfl (lv_at hl 0 rfl) ?_
    refine va_get (D := D) (ci := 5) (v := .ref aP) (C := RX5) (T := TX5) (N := 3) hx hb hts i5 hown hK hP 0 rfl rfl 1 (by decide) (hts (.fieldLink RX5 20 RX5 "now" "LBidMosaic$Picture;") (List.mem_of_getElem? (i := 1) rfl)) (fun _ h9 => h9) rfl dX5_total_14 ?_
    obtain ⟨r_17, q_17, h⟩ := bd1_some h
    refine fr_ro_i (S := Unit) (wc := [(aP, .inr (3, [.int vMo, .int vSh, .ref aK, .ref aC, .ref aS])), (aK, .inr (2, [.int vKn, .ref aKd, .ref aKs])), (aKd, .inl (cI, 8, .inl fKd)), (aKs, .inl (cI, 8, .inl fKs)), (aC, .inr (1, [.int vCn, .ref aCd])), (aCd, .inl (cI, 12, .inl fCd)), (aS, .inr (4, [.int vVa, .int vCo, .int vBi, .int vPh, .ref aPr, .ref aHo, .ref aHe, .ref aSt, .ref aPb, .ref aPs])), (aHe, .inl (cI, 16, .inl fHe))]) (fr_VN (As := []) (rest := []) (own := RX5) (host := RX5) (C := RX3) ⟨hx, hb, hml, hown, hts⟩ hN (tX3_sumOfDifferences aP aK aKd aKs aC aCd aS aHe aPr aHo aSt aPb aPs vMo vSh vKn fKd fKs vCn fCd vVa vCo vBi vPh fHe r_17 q_17) gX5_total_X3_sumOfDifferences_n162 rfl (nx_mem (i := 428) (by decide +kernel) rfl) (List.mem_of_getElem? (i := 9) rfl) (List.mem_of_getElem? (i := 8) rfl) (List.mem_of_getElem? (i := 10) rfl) (fr_preV (As := []) (b := aP) (ci := 3) (q0 := 4) (wc := [(aP, .inr (3, [.int vMo, .int vSh, .ref aK, .ref aC, .ref aS])), (aK, .inr (2, [.int vKn, .ref aKd, .ref aKs])), (aKd, .inl (cI, 8, .inl fKd)), (aKs, .inl (cI, 8, .inl fKs)), (aC, .inr (1, [.int vCn, .ref aCd])), (aCd, .inl (cI, 12, .inl fCd)), (aS, .inr (4, [.int vVa, .int vCo, .int vBi, .int vPh, .ref aPr, .ref aHo, .ref aHe, .ref aSt, .ref aPb, .ref aPs])), (aHe, .inl (cI, 16, .inl fHe))]) hK hN hP hD [4, 5, 6, 7, 8, 9, 10, 13] (by decide) rfl rfl rfl) (n := 0) (by decide +kernel) ⟨Nat.le_of_ble_eq_true rfl, Nat.le_of_ble_eq_true rfl⟩ rfl hl.1 rfl (Nat.le_of_ble_eq_true rfl) dX5_total_17 ⟨Nat.zero_le _, Nat.zero_le _⟩) hP hD hS hA [4, 5, 6, 7, 8, 9, 10, 13] rfl (c2 := 0) (s2 := 0) rfl rfl (fun H locs hP hS => ?_)
    refine lv_goto (tgt := 25) hx hb dX5_total_20 (by decide) ?_
    exact hret r_17 25 ls H locs rfl dX5_total_25 hP hD hS h
def fX5_toldOfCell (vCn : Int32) (fCd : Nat → Int32) (x1 : Int32) : Option (Int32) :=
  if x1 < (100 : Int32) then
    some (-2 : Int32)
  else
    bd1 (fX1_has vCn (x1 - (100 : Int32))) fun r_17 =>
    if r_17 = 0 then
      some (-2 : Int32)
    else
      if x1 - (100 : Int32) < 0 ∨ 12 ≤ (x1 - (100 : Int32)).toNatClampNeg then none else
      some (fCd ((x1 - (100 : Int32)).toNatClampNeg))
abbrev rX5_toldOfCell : Room := { frames := 1, cells := 0, slots := 0, locals := 21 }
set_option maxHeartbeats 4000000 in
set_option maxRecDepth 100000 in
theorem tX5_toldOfCell {l : Launch} {D : va_G} {cI cZ cP : ClassId} (aX aP aC aCd aB aI aK aS : Nat) (vMo : Int32) (vSh : Int32) (vCn : Int32) (fCd : Nat → Int32) (x1 : Int32) (r : Int32) (h : fX5_toldOfCell vCn fCd x1 = some r) : CtI l D cI cZ cP yX5_toldOfCell wsX5_toldOfCell rX5_toldOfCell [.ref aX, .int x1] [(aX, .inr (5, [.ref aB, .ref aP, .ref aI])), (aP, .inr (3, [.int vMo, .int vSh, .ref aK, .ref aC, .ref aS])), (aC, .inr (1, [.int vCn, .ref aCd])), (aCd, .inl (cI, 12, .inl fCd))] (fun _ : Unit => [(aX, .inr (5, [.ref aB, .ref aP, .ref aI])), (aP, .inr (3, [.int vMo, .int vSh, .ref aK, .ref aC, .ref aS])), (aC, .inr (1, [.int vCn, .ref aCd])), (aCd, .inl (cI, 12, .inl fCd))]) r := by
  refine CtI.ofW (cc := cX5_toldOfCell) (maxL := 2) (by decide) rfl (Nat.le_of_ble_eq_true rfl) (lv := [(0, .ref aX), (1, .int x1)]) rfl ?_
  intro p e s m args below meth c A Q ls hx hb hml hown hts hK hN hP hD hS hA hl hret0
  have hown : s.vm.findClass RX5 = some m.cls := hown
  have i1 : ∀ w ∈ wsX10, w ∈ wsX5_toldOfCell := mem_ps [15, 16] rfl
  have i3 : ∀ w ∈ wsX30, w ∈ wsX5_toldOfCell := mem_ps [10, 11, 12, 13, 14] rfl
  have i5 : ∀ w ∈ wsX50, w ∈ wsX5_toldOfCell := mem_ps [7, 8, 9] rfl
  have hret : ∀ (v : Int32) (pc : Nat) (ls : Array Slot) (H : Heap) (locs : List Loc), narrow .int (.int v) = .int v → decode cX5_toldOfCell pc = .ok (.ireturn, 1) → va_P D vwCl [(aX, .inr (5, [.ref aB, .ref aP, .ref aI])), (aP, .inr (3, [.int vMo, .int vSh, .ref aK, .ref aC, .ref aS])), (aC, .inr (1, [.int vCn, .ref aCd])), (aCd, .inl (cI, 12, .inl fCd))] H → va_D A [(aX, .inr (5, [.ref aB, .ref aP, .ref aI])), (aP, .inr (3, [.int vMo, .int vSh, .ref aK, .ref aC, .ref aS])), (aC, .inr (1, [.int vCn, .ref aCd])), (aCd, .inl (cI, 12, .inl fCd))] → va_S A s.heap H locs → some v = some r → W p l e rX5_toldOfCell s m args below meth c H locs 0 0 Q (F0 m pc ls [.int v]) := by
    intro v pc ls H locs hn hd hP hD hS h
    cases h
    exact hret0 pc ls H locs () hn hd hP hD hS
  clear hret0
  unfold fX5_toldOfCell at h
  obtain ⟨H, hH⟩ : ∃ H, H = s.heap := ⟨_, rfl⟩
  have hP : va_P D vwCl [(aX, .inr (5, [.ref aB, .ref aP, .ref aI])), (aP, .inr (3, [.int vMo, .int vSh, .ref aK, .ref aC, .ref aS])), (aC, .inr (1, [.int vCn, .ref aCd])), (aCd, .inl (cI, 12, .inl fCd))] H := by rw [hH]; exact hP
  obtain ⟨locs, hlocs⟩ : ∃ x : List Loc, x = [] := ⟨_, rfl⟩
  have hS : va_S A s.heap H locs := by rw [hH, hlocs]; exact hS
  suffices hgo : W p l e rX5_toldOfCell s m args below meth c H locs 0 0 Q (F0 m 0 ls []) by rw [hH, hlocs] at hgo; exact hgo
  refine lv_iload_n hx hb dX5_toldOfCell_0 rfl (lv_at hl 1 rfl) ?_
  refine lv_bipush (v := (100 : Int32)) hx hb dX5_toldOfCell_1 (by decide) ?_
  refine lv_icmp_lt (tgt := 23) hx hb dX5_toldOfCell_3 (by decide) (fun c1 => ?_) (fun c1 => ?_)
  · have h := (if_pos c1).symm.trans h
    refine lv_bipush (v := (-2 : Int32)) hx hb dX5_toldOfCell_23 (by decide) ?_
    exact hret (-2 : Int32) 25 ls H locs rfl dX5_toldOfCell_25 hP hD hS h
  · have h := (if_neg c1).symm.trans h
    refine lv_aload_n hx hb dX5_toldOfCell_6 rfl (lv_at hl 0 rfl) ?_
    refine va_get (D := D) (ci := 5) (v := .ref aP) (C := RX5) (T := TX5) (N := 3) hx hb hts i5 hown hK hP 0 rfl rfl 1 (by decide) (hts (.fieldLink RX5 20 RX5 "now" "LBidMosaic$Picture;") (List.mem_of_getElem? (i := 1) rfl)) (fun _ h9 => h9) rfl dX5_toldOfCell_7 ?_
    refine va_getN (D := D) (ci := 3) (v := .ref aC) (C := RX3) (T := TX3) (N := 5) hx hb hts i3 hown hK hP 1 rfl rfl 3 (by decide) (hN.f (a := RX5) (i := 95) (b := RX3) (n := "cells") (d := "LBidMosaic$Cells;") (h := RX5) (nx_mem (i := 127) (by decide +kernel) rfl)) (fun _ h9 => h9) rfl dX5_toldOfCell_10 ?_
    refine lv_iload_n hx hb dX5_toldOfCell_13 rfl (lv_at hl 1 rfl) ?_
    refine lv_bipush (v := (100 : Int32)) hx hb dX5_toldOfCell_14 (by decide) ?_
    refine lv_isub hx hb dX5_toldOfCell_16 ?_
    obtain ⟨r_17, q_17, h⟩ := bd1_some h
    refine fr_ro_i (S := Unit) (wc := [(aC, .inr (1, [.int vCn, .ref aCd]))]) (fr_VN (As := [.int (x1 - (100 : Int32))]) (rest := []) (own := RX5) (host := RX5) (C := RX1) ⟨hx, hb, hml, hown, hts⟩ hN (tX1_has aC aCd vCn (x1 - (100 : Int32)) r_17 q_17) gX5_toldOfCell_X1_has_n104 rfl (nx_mem (i := 261) (by decide +kernel) rfl) (List.mem_of_getElem? (i := 3) rfl) (List.mem_of_getElem? (i := 2) rfl) (List.mem_of_getElem? (i := 4) rfl) (fr_preV (As := [.int (x1 - (100 : Int32))]) (b := aC) (ci := 1) (q0 := 2) (wc := [(aC, .inr (1, [.int vCn, .ref aCd]))]) hK hN hP hD [2] (by decide) rfl rfl rfl) (n := 1) (by decide +kernel) ⟨Nat.le_of_ble_eq_true rfl, Nat.le_of_ble_eq_true rfl⟩ rfl hl.1 rfl (Nat.le_of_ble_eq_true rfl) dX5_toldOfCell_17 ⟨Nat.zero_le _, Nat.zero_le _⟩) hP hD hS hA [2] rfl (c2 := 0) (s2 := 0) rfl rfl (fun H locs hP hS => ?_)
    refine lv_if_ne (tgt := 26) hx hb dX5_toldOfCell_20 (by decide) (fun c2 => ?_) (fun c2 => ?_)
    · have h := (if_neg c2).symm.trans h
      refine lv_aload_n hx hb dX5_toldOfCell_26 rfl (lv_at hl 0 rfl) ?_
      refine va_get (D := D) (ci := 5) (v := .ref aP) (C := RX5) (T := TX5) (N := 3) hx hb hts i5 hown hK hP 0 rfl rfl 1 (by decide) (hts (.fieldLink RX5 20 RX5 "now" "LBidMosaic$Picture;") (List.mem_of_getElem? (i := 1) rfl)) (fun _ h9 => h9) rfl dX5_toldOfCell_27 ?_
      refine va_getN (D := D) (ci := 3) (v := .ref aC) (C := RX3) (T := TX3) (N := 5) hx hb hts i3 hown hK hP 1 rfl rfl 3 (by decide) (hN.f (a := RX5) (i := 95) (b := RX3) (n := "cells") (d := "LBidMosaic$Cells;") (h := RX5) (nx_mem (i := 127) (by decide +kernel) rfl)) (fun _ h9 => h9) rfl dX5_toldOfCell_30 ?_
      refine va_getN (D := D) (ci := 1) (v := .ref aCd) (C := RX1) (T := TX1) (N := 2) hx hb hts i1 hown hK hP 2 rfl rfl 1 (by decide) (hN.f (a := RX5) (i := 105) (b := RX1) (n := "dots") (d := "[I") (h := RX5) (nx_mem (i := 63) (by decide +kernel) rfl)) (fun _ h9 => h9) rfl dX5_toldOfCell_33 ?_
      refine lv_iload_n hx hb dX5_toldOfCell_36 rfl (lv_at hl 1 rfl) ?_
      refine lv_bipush (v := (100 : Int32)) hx hb dX5_toldOfCell_37 (by decide) ?_
      refine lv_isub hx hb dX5_toldOfCell_39 ?_
      obtain ⟨g3, h⟩ := no_some h
      refine va_iald hx hb hK hP 3 0 rfl rfl g3 dX5_toldOfCell_40 ?_
      exact hret (fCd ((x1 - (100 : Int32)).toNatClampNeg)) 41 ls H locs rfl dX5_toldOfCell_41 hP hD hS h
    · have h := (if_pos c2).symm.trans h
      refine lv_bipush (v := (-2 : Int32)) hx hb dX5_toldOfCell_23 (by decide) ?_
      exact hret (-2 : Int32) 25 ls H locs rfl dX5_toldOfCell_25 hP hD hS h
def fX5_told (vMo : Int32) (vSh : Int32) (vKn : Int32) (fKs : Nat → Int32) (vCn : Int32) (fCd : Nat → Int32) (vVa : Int32) (vCo : Int32) (vBi : Int32) (vPh : Int32) (x1 : Int32) : Option (Int32) :=
  if x1 = (0 : Int32) then
    some vMo
  else
    if x1 = (1 : Int32) then
      some vSh
    else
      if x1 = (2 : Int32) then
        some vKn
      else
        if x1 = (3 : Int32) then
          some vCn
        else
          if x1 = (4 : Int32) then
            bd1 (fX2_slots vKn fKs) fun r_97 =>
            some r_97
          else
            if x1 = (5 : Int32) then
              if vVa = 0 then
                some (0 : Int32)
              else
                some (1 : Int32)
            else
              if x1 = (6 : Int32) then
                bd1 (fX4_isDone vVa vCo) fun r_127 =>
                if r_127 = 0 then
                  some (0 : Int32)
                else
                  some (1 : Int32)
              else
                if x1 = (7 : Int32) then
                  if vVa = 0 then
                    some (0 : Int32)
                  else
                    some vPh
                else
                  if x1 = (8 : Int32) then
                    if vVa = 0 then
                      some (0 : Int32)
                    else
                      some vBi
                  else
                    bd1 (fX5_toldOfCell vCn fCd x1) fun r_197 =>
                    some r_197
abbrev rX5_told : Room := { frames := 2, cells := 0, slots := 0, locals := 43 }
set_option maxHeartbeats 4000000 in
set_option maxRecDepth 100000 in
theorem tX5_told {l : Launch} {D : va_G} {cI cZ cP : ClassId} (aX aI aB aW aP aK aKd aKs aC aCd aS aPr aHo aHe aSt aPb aPs : Nat) (fIm : Nat → Option Nat) (vSl : Int32) (fWo : Nat → Int32) (vMo : Int32) (vSh : Int32) (vKn : Int32) (fKd : Nat → Int32) (fKs : Nat → Int32) (vCn : Int32) (fCd : Nat → Int32) (vVa : Int32) (vCo : Int32) (vBi : Int32) (vPh : Int32) (fPr : Nat → Int32) (fHo : Nat → Int32) (fHe : Nat → Int32) (fSt : Nat → Int32) (fPb : Nat → Int32) (fPs : Nat → Int32) (x1 : Int32) (r : Int32) (h : fX5_told vMo vSh vKn fKs vCn fCd vVa vCo vBi vPh x1 = some r) : CtI l D cI cZ cP yX5_told wsX5_told rX5_told [.ref aX, .int x1] [(aX, .inr (5, [.ref aB, .ref aP, .ref aI])), (aI, .inl (cP, 2, .inr (.inr (.inr (.inr fIm))))), (aB, .inr (0, [.ref aP, .ref aS, .ref aW, .int vSl])), (aW, .inl (cI, 256, .inl fWo)), (aP, .inr (3, [.int vMo, .int vSh, .ref aK, .ref aC, .ref aS])), (aK, .inr (2, [.int vKn, .ref aKd, .ref aKs])), (aKd, .inl (cI, 8, .inl fKd)), (aKs, .inl (cI, 8, .inl fKs)), (aC, .inr (1, [.int vCn, .ref aCd])), (aCd, .inl (cI, 12, .inl fCd)), (aS, .inr (4, [.int vVa, .int vCo, .int vBi, .int vPh, .ref aPr, .ref aHo, .ref aHe, .ref aSt, .ref aPb, .ref aPs])), (aPr, .inl (cI, 16, .inl fPr)), (aHo, .inl (cI, 16, .inl fHo)), (aHe, .inl (cI, 16, .inl fHe)), (aSt, .inl (cI, 16, .inl fSt)), (aPb, .inl (cI, 16, .inl fPb)), (aPs, .inl (cI, 16, .inl fPs))] (fun _ : Unit => [(aX, .inr (5, [.ref aB, .ref aP, .ref aI])), (aI, .inl (cP, 2, .inr (.inr (.inr (.inr fIm))))), (aB, .inr (0, [.ref aP, .ref aS, .ref aW, .int vSl])), (aW, .inl (cI, 256, .inl fWo)), (aP, .inr (3, [.int vMo, .int vSh, .ref aK, .ref aC, .ref aS])), (aK, .inr (2, [.int vKn, .ref aKd, .ref aKs])), (aKd, .inl (cI, 8, .inl fKd)), (aKs, .inl (cI, 8, .inl fKs)), (aC, .inr (1, [.int vCn, .ref aCd])), (aCd, .inl (cI, 12, .inl fCd)), (aS, .inr (4, [.int vVa, .int vCo, .int vBi, .int vPh, .ref aPr, .ref aHo, .ref aHe, .ref aSt, .ref aPb, .ref aPs])), (aPr, .inl (cI, 16, .inl fPr)), (aHo, .inl (cI, 16, .inl fHo)), (aHe, .inl (cI, 16, .inl fHe)), (aSt, .inl (cI, 16, .inl fSt)), (aPb, .inl (cI, 16, .inl fPb)), (aPs, .inl (cI, 16, .inl fPs))]) r := by
  refine CtI.ofW (cc := cX5_told) (maxL := 2) (by decide) rfl (Nat.le_of_ble_eq_true rfl) (lv := [(0, .ref aX), (1, .int x1)]) rfl ?_
  intro p e s m args below meth c A Q ls hx hb hml hown hts hK hN hP hD hS hA hl hret0
  have hown : s.vm.findClass RX5 = some m.cls := hown
  have i1 : ∀ w ∈ wsX10, w ∈ wsX5_told := mem_ps [39, 40] rfl
  have i2 : ∀ w ∈ wsX20, w ∈ wsX5_told := mem_ps [36, 37, 38] rfl
  have i3 : ∀ w ∈ wsX30, w ∈ wsX5_told := mem_ps [31, 32, 33, 34, 35] rfl
  have i4 : ∀ w ∈ wsX40, w ∈ wsX5_told := mem_ps [41, 42, 43, 44, 45, 46, 47, 48, 49, 50] rfl
  have i5 : ∀ w ∈ wsX50, w ∈ wsX5_told := mem_ps [28, 29, 30] rfl
  have hret : ∀ (v : Int32) (pc : Nat) (ls : Array Slot) (H : Heap) (locs : List Loc), narrow .int (.int v) = .int v → decode cX5_told pc = .ok (.ireturn, 1) → va_P D vwCl [(aX, .inr (5, [.ref aB, .ref aP, .ref aI])), (aI, .inl (cP, 2, .inr (.inr (.inr (.inr fIm))))), (aB, .inr (0, [.ref aP, .ref aS, .ref aW, .int vSl])), (aW, .inl (cI, 256, .inl fWo)), (aP, .inr (3, [.int vMo, .int vSh, .ref aK, .ref aC, .ref aS])), (aK, .inr (2, [.int vKn, .ref aKd, .ref aKs])), (aKd, .inl (cI, 8, .inl fKd)), (aKs, .inl (cI, 8, .inl fKs)), (aC, .inr (1, [.int vCn, .ref aCd])), (aCd, .inl (cI, 12, .inl fCd)), (aS, .inr (4, [.int vVa, .int vCo, .int vBi, .int vPh, .ref aPr, .ref aHo, .ref aHe, .ref aSt, .ref aPb, .ref aPs])), (aPr, .inl (cI, 16, .inl fPr)), (aHo, .inl (cI, 16, .inl fHo)), (aHe, .inl (cI, 16, .inl fHe)), (aSt, .inl (cI, 16, .inl fSt)), (aPb, .inl (cI, 16, .inl fPb)), (aPs, .inl (cI, 16, .inl fPs))] H → va_D A [(aX, .inr (5, [.ref aB, .ref aP, .ref aI])), (aI, .inl (cP, 2, .inr (.inr (.inr (.inr fIm))))), (aB, .inr (0, [.ref aP, .ref aS, .ref aW, .int vSl])), (aW, .inl (cI, 256, .inl fWo)), (aP, .inr (3, [.int vMo, .int vSh, .ref aK, .ref aC, .ref aS])), (aK, .inr (2, [.int vKn, .ref aKd, .ref aKs])), (aKd, .inl (cI, 8, .inl fKd)), (aKs, .inl (cI, 8, .inl fKs)), (aC, .inr (1, [.int vCn, .ref aCd])), (aCd, .inl (cI, 12, .inl fCd)), (aS, .inr (4, [.int vVa, .int vCo, .int vBi, .int vPh, .ref aPr, .ref aHo, .ref aHe, .ref aSt, .ref aPb, .ref aPs])), (aPr, .inl (cI, 16, .inl fPr)), (aHo, .inl (cI, 16, .inl fHo)), (aHe, .inl (cI, 16, .inl fHe)), (aSt, .inl (cI, 16, .inl fSt)), (aPb, .inl (cI, 16, .inl fPb)), (aPs, .inl (cI, 16, .inl fPs))] → va_S A s.heap H locs → some v = some r → W p l e rX5_told s m args below meth c H locs 0 0 Q (F0 m pc ls [.int v]) := by
    intro v pc ls H locs hn hd hP hD hS h
    cases h
    exact hret0 pc ls H locs () hn hd hP hD hS
  clear hret0
  unfold fX5_told at h
  obtain ⟨H, hH⟩ : ∃ H, H = s.heap := ⟨_, rfl⟩
  have hP : va_P D vwCl [(aX, .inr (5, [.ref aB, .ref aP, .ref aI])), (aI, .inl (cP, 2, .inr (.inr (.inr (.inr fIm))))), (aB, .inr (0, [.ref aP, .ref aS, .ref aW, .int vSl])), (aW, .inl (cI, 256, .inl fWo)), (aP, .inr (3, [.int vMo, .int vSh, .ref aK, .ref aC, .ref aS])), (aK, .inr (2, [.int vKn, .ref aKd, .ref aKs])), (aKd, .inl (cI, 8, .inl fKd)), (aKs, .inl (cI, 8, .inl fKs)), (aC, .inr (1, [.int vCn, .ref aCd])), (aCd, .inl (cI, 12, .inl fCd)), (aS, .inr (4, [.int vVa, .int vCo, .int vBi, .int vPh, .ref aPr, .ref aHo, .ref aHe, .ref aSt, .ref aPb, .ref aPs])), (aPr, .inl (cI, 16, .inl fPr)), (aHo, .inl (cI, 16, .inl fHo)), (aHe, .inl (cI, 16, .inl fHe)), (aSt, .inl (cI, 16, .inl fSt)), (aPb, .inl (cI, 16, .inl fPb)), (aPs, .inl (cI, 16, .inl fPs))] H := by rw [hH]; exact hP
  obtain ⟨locs, hlocs⟩ : ∃ x : List Loc, x = [] := ⟨_, rfl⟩
  have hS : va_S A s.heap H locs := by rw [hH, hlocs]; exact hS
  suffices hgo : W p l e rX5_told s m args below meth c H locs 0 0 Q (F0 m 0 ls []) by rw [hH, hlocs] at hgo; exact hgo
  refine lv_iload_n hx hb dX5_told_0 rfl (lv_at hl 1 rfl) ?_
  by_cases c5 : x1 = (0 : Int32)
  · have h := (if_pos c5).symm.trans h
    refine lv_tableIn (tgt := 52) hx hb dX5_told_1 (by rw [c5]; decide) (by rw [c5]; decide) (off := 51) (by rw [c5]; rfl) (by decide) ?_
    refine lv_aload_n hx hb dX5_told_52 rfl (lv_at hl 0 rfl) ?_
    refine va_get (D := D) (ci := 5) (v := .ref aP) (C := RX5) (T := TX5) (N := 3) hx hb hts i5 hown hK hP 0 rfl rfl 1 (by decide) (hts (.fieldLink RX5 20 RX5 "now" "LBidMosaic$Picture;") (List.mem_of_getElem? (i := 1) rfl)) (fun _ h9 => h9) rfl dX5_told_53 ?_
    refine va_getN (D := D) (ci := 3) (v := .int vMo) (C := RX3) (T := TX3) (N := 5) hx hb hts i3 hown hK hP 4 rfl rfl 0 (by decide) (hN.f (a := RX5) (i := 29) (b := RX3) (n := "mode") (d := "I") (h := RX5) (nx_mem (i := 118) (by decide +kernel) rfl)) (fun _ h9 => h9) rfl dX5_told_56 ?_
    exact hret vMo 59 ls H locs rfl dX5_told_59 hP hD hS h
  · have h := (if_neg c5).symm.trans h
    by_cases c6 : x1 = (1 : Int32)
    · have h := (if_pos c6).symm.trans h
      refine lv_tableIn (tgt := 60) hx hb dX5_told_1 (by rw [c6]; decide) (by rw [c6]; decide) (off := 59) (by rw [c6]; rfl) (by decide) ?_
      refine lv_aload_n hx hb dX5_told_60 rfl (lv_at hl 0 rfl) ?_
      refine va_get (D := D) (ci := 5) (v := .ref aP) (C := RX5) (T := TX5) (N := 3) hx hb hts i5 hown hK hP 0 rfl rfl 1 (by decide) (hts (.fieldLink RX5 20 RX5 "now" "LBidMosaic$Picture;") (List.mem_of_getElem? (i := 1) rfl)) (fun _ h9 => h9) rfl dX5_told_61 ?_
      refine va_getN (D := D) (ci := 3) (v := .int vSh) (C := RX3) (T := TX3) (N := 5) hx hb hts i3 hown hK hP 4 rfl rfl 1 (by decide) (hN.f (a := RX5) (i := 43) (b := RX3) (n := "shrink") (d := "I") (h := RX5) (nx_mem (i := 120) (by decide +kernel) rfl)) (fun _ h9 => h9) rfl dX5_told_64 ?_
      exact hret vSh 67 ls H locs rfl dX5_told_67 hP hD hS h
    · have h := (if_neg c6).symm.trans h
      by_cases c7 : x1 = (2 : Int32)
      · have h := (if_pos c7).symm.trans h
        refine lv_tableIn (tgt := 68) hx hb dX5_told_1 (by rw [c7]; decide) (by rw [c7]; decide) (off := 67) (by rw [c7]; rfl) (by decide) ?_
        refine lv_aload_n hx hb dX5_told_68 rfl (lv_at hl 0 rfl) ?_
        refine va_get (D := D) (ci := 5) (v := .ref aP) (C := RX5) (T := TX5) (N := 3) hx hb hts i5 hown hK hP 0 rfl rfl 1 (by decide) (hts (.fieldLink RX5 20 RX5 "now" "LBidMosaic$Picture;") (List.mem_of_getElem? (i := 1) rfl)) (fun _ h9 => h9) rfl dX5_told_69 ?_
        refine va_getN (D := D) (ci := 3) (v := .ref aK) (C := RX3) (T := TX3) (N := 5) hx hb hts i3 hown hK hP 4 rfl rfl 2 (by decide) (hN.f (a := RX5) (i := 50) (b := RX3) (n := "kinds") (d := "LBidMosaic$Kinds;") (h := RX5) (nx_mem (i := 124) (by decide +kernel) rfl)) (fun _ h9 => h9) rfl dX5_told_72 ?_
        refine va_getN (D := D) (ci := 2) (v := .int vKn) (C := RX2) (T := TX2) (N := 3) hx hb hts i2 hown hK hP 5 rfl rfl 0 (by decide) (hN.f (a := RX5) (i := 72) (b := RX2) (n := "count") (d := "I") (h := RX5) (nx_mem (i := 38) (by decide +kernel) rfl)) (fun _ h9 => h9) rfl dX5_told_75 ?_
        exact hret vKn 78 ls H locs rfl dX5_told_78 hP hD hS h
      · have h := (if_neg c7).symm.trans h
        by_cases c8 : x1 = (3 : Int32)
        · have h := (if_pos c8).symm.trans h
          refine lv_tableIn (tgt := 79) hx hb dX5_told_1 (by rw [c8]; decide) (by rw [c8]; decide) (off := 78) (by rw [c8]; rfl) (by decide) ?_
          refine lv_aload_n hx hb dX5_told_79 rfl (lv_at hl 0 rfl) ?_
          refine va_get (D := D) (ci := 5) (v := .ref aP) (C := RX5) (T := TX5) (N := 3) hx hb hts i5 hown hK hP 0 rfl rfl 1 (by decide) (hts (.fieldLink RX5 20 RX5 "now" "LBidMosaic$Picture;") (List.mem_of_getElem? (i := 1) rfl)) (fun _ h9 => h9) rfl dX5_told_80 ?_
          refine va_getN (D := D) (ci := 3) (v := .ref aC) (C := RX3) (T := TX3) (N := 5) hx hb hts i3 hown hK hP 4 rfl rfl 3 (by decide) (hN.f (a := RX5) (i := 95) (b := RX3) (n := "cells") (d := "LBidMosaic$Cells;") (h := RX5) (nx_mem (i := 127) (by decide +kernel) rfl)) (fun _ h9 => h9) rfl dX5_told_83 ?_
          refine va_getN (D := D) (ci := 1) (v := .int vCn) (C := RX1) (T := TX1) (N := 2) hx hb hts i1 hown hK hP 8 rfl rfl 0 (by decide) (hN.f (a := RX5) (i := 99) (b := RX1) (n := "count") (d := "I") (h := RX5) (nx_mem (i := 60) (by decide +kernel) rfl)) (fun _ h9 => h9) rfl dX5_told_86 ?_
          exact hret vCn 89 ls H locs rfl dX5_told_89 hP hD hS h
        · have h := (if_neg c8).symm.trans h
          by_cases c9 : x1 = (4 : Int32)
          · have h := (if_pos c9).symm.trans h
            refine lv_tableIn (tgt := 90) hx hb dX5_told_1 (by rw [c9]; decide) (by rw [c9]; decide) (off := 89) (by rw [c9]; rfl) (by decide) ?_
            refine lv_aload_n hx hb dX5_told_90 rfl (lv_at hl 0 rfl) ?_
            refine va_get (D := D) (ci := 5) (v := .ref aP) (C := RX5) (T := TX5) (N := 3) hx hb hts i5 hown hK hP 0 rfl rfl 1 (by decide) (hts (.fieldLink RX5 20 RX5 "now" "LBidMosaic$Picture;") (List.mem_of_getElem? (i := 1) rfl)) (fun _ h9 => h9) rfl dX5_told_91 ?_
            refine va_getN (D := D) (ci := 3) (v := .ref aK) (C := RX3) (T := TX3) (N := 5) hx hb hts i3 hown hK hP 4 rfl rfl 2 (by decide) (hN.f (a := RX5) (i := 50) (b := RX3) (n := "kinds") (d := "LBidMosaic$Kinds;") (h := RX5) (nx_mem (i := 124) (by decide +kernel) rfl)) (fun _ h9 => h9) rfl dX5_told_94 ?_
            obtain ⟨r_97, q_97, h⟩ := bd1_some h
            refine fr_ro_i (S := Unit) (wc := [(aK, .inr (2, [.int vKn, .ref aKd, .ref aKs])), (aKs, .inl (cI, 8, .inl fKs))]) (fr_VN (As := []) (rest := []) (own := RX5) (host := RX5) (C := RX2) ⟨hx, hb, hml, hown, hts⟩ hN (tX2_slots aK aKs aKd vKn fKs r_97 q_97) gX5_told_X2_slots_n113 rfl (nx_mem (i := 294) (by decide +kernel) rfl) (List.mem_of_getElem? (i := 3) rfl) (List.mem_of_getElem? (i := 2) rfl) (List.mem_of_getElem? (i := 4) rfl) (fr_preV (As := []) (b := aK) (ci := 2) (q0 := 5) (wc := [(aK, .inr (2, [.int vKn, .ref aKd, .ref aKs])), (aKs, .inl (cI, 8, .inl fKs))]) hK hN hP hD [5, 7] (by decide) rfl rfl rfl) (n := 0) (by decide +kernel) ⟨Nat.le_of_ble_eq_true rfl, Nat.le_of_ble_eq_true rfl⟩ rfl hl.1 rfl (Nat.le_of_ble_eq_true rfl) dX5_told_97 ⟨Nat.zero_le _, Nat.zero_le _⟩) hP hD hS hA [5, 7] rfl (c2 := 0) (s2 := 0) rfl rfl (fun H locs hP hS => ?_)
            exact hret r_97 100 ls H locs rfl dX5_told_100 hP hD hS h
          · have h := (if_neg c9).symm.trans h
            by_cases c10 : x1 = (5 : Int32)
            · have h := (if_pos c10).symm.trans h
              refine lv_tableIn (tgt := 101) hx hb dX5_told_1 (by rw [c10]; decide) (by rw [c10]; decide) (off := 100) (by rw [c10]; rfl) (by decide) ?_
              refine lv_aload_n hx hb dX5_told_101 rfl (lv_at hl 0 rfl) ?_
              refine va_get (D := D) (ci := 5) (v := .ref aP) (C := RX5) (T := TX5) (N := 3) hx hb hts i5 hown hK hP 0 rfl rfl 1 (by decide) (hts (.fieldLink RX5 20 RX5 "now" "LBidMosaic$Picture;") (List.mem_of_getElem? (i := 1) rfl)) (fun _ h9 => h9) rfl dX5_told_102 ?_
              refine va_getN (D := D) (ci := 3) (v := .ref aS) (C := RX3) (T := TX3) (N := 5) hx hb hts i3 hown hK hP 4 rfl rfl 4 (by decide) (hN.f (a := RX5) (i := 33) (b := RX3) (n := "sale") (d := "LBidMosaic$Sale;") (h := RX5) (nx_mem (i := 130) (by decide +kernel) rfl)) (fun _ h9 => h9) rfl dX5_told_105 ?_
              refine va_getN (D := D) (ci := 4) (v := .int vVa) (C := RX4) (T := TX4) (N := 10) hx hb hts i4 hown hK hP 10 rfl rfl 0 (by decide) (hN.f (a := RX5) (i := 37) (b := RX4) (n := "valid") (d := "Z") (h := RX5) (nx_mem (i := 76) (by decide +kernel) rfl)) (fun _ h9 => h9) rfl dX5_told_108 ?_
              refine lv_if_eq (tgt := 118) hx hb dX5_told_111 (by decide) (fun c1 => ?_) (fun c1 => ?_)
              · have h := (if_pos c1).symm.trans h
                refine lv_iconst (v := (0 : Int32)) hx hb dX5_told_118 (by decide) ?_
                exact hret (0 : Int32) 119 ls H locs rfl dX5_told_119 hP hD hS h
              · have h := (if_neg c1).symm.trans h
                refine lv_iconst (v := (1 : Int32)) hx hb dX5_told_114 (by decide) ?_
                refine lv_goto (tgt := 119) hx hb dX5_told_115 (by decide) ?_
                exact hret (1 : Int32) 119 ls H locs rfl dX5_told_119 hP hD hS h
            · have h := (if_neg c10).symm.trans h
              by_cases c11 : x1 = (6 : Int32)
              · have h := (if_pos c11).symm.trans h
                refine lv_tableIn (tgt := 120) hx hb dX5_told_1 (by rw [c11]; decide) (by rw [c11]; decide) (off := 119) (by rw [c11]; rfl) (by decide) ?_
                refine lv_aload_n hx hb dX5_told_120 rfl (lv_at hl 0 rfl) ?_
                refine va_get (D := D) (ci := 5) (v := .ref aP) (C := RX5) (T := TX5) (N := 3) hx hb hts i5 hown hK hP 0 rfl rfl 1 (by decide) (hts (.fieldLink RX5 20 RX5 "now" "LBidMosaic$Picture;") (List.mem_of_getElem? (i := 1) rfl)) (fun _ h9 => h9) rfl dX5_told_121 ?_
                refine va_getN (D := D) (ci := 3) (v := .ref aS) (C := RX3) (T := TX3) (N := 5) hx hb hts i3 hown hK hP 4 rfl rfl 4 (by decide) (hN.f (a := RX5) (i := 33) (b := RX3) (n := "sale") (d := "LBidMosaic$Sale;") (h := RX5) (nx_mem (i := 130) (by decide +kernel) rfl)) (fun _ h9 => h9) rfl dX5_told_124 ?_
                obtain ⟨r_127, q_127, h⟩ := bd1_some h
                refine fr_ro_i (S := Unit) (wc := [(aS, .inr (4, [.int vVa, .int vCo, .int vBi, .int vPh, .ref aPr, .ref aHo, .ref aHe, .ref aSt, .ref aPb, .ref aPs]))]) (fr_VN (As := []) (rest := []) (own := RX5) (host := RX5) (C := RX4) ⟨hx, hb, hml, hown, hts⟩ hN (tX4_isDone aS aPr aHo aHe aSt aPb aPs vVa vCo vBi vPh r_127 q_127) gX5_told_X4_isDone_n88 rfl (nx_mem (i := 222) (by decide +kernel) rfl) (List.mem_of_getElem? (i := 13) rfl) (List.mem_of_getElem? (i := 12) rfl) (List.mem_of_getElem? (i := 14) rfl) (fr_preV (As := []) (b := aS) (ci := 4) (q0 := 10) (wc := [(aS, .inr (4, [.int vVa, .int vCo, .int vBi, .int vPh, .ref aPr, .ref aHo, .ref aHe, .ref aSt, .ref aPb, .ref aPs]))]) hK hN hP hD [10] (by decide) rfl rfl rfl) (n := 0) (by decide +kernel) ⟨Nat.le_of_ble_eq_true rfl, Nat.le_of_ble_eq_true rfl⟩ rfl hl.1 rfl (Nat.le_of_ble_eq_true rfl) dX5_told_127 ⟨Nat.zero_le _, Nat.zero_le _⟩) hP hD hS hA [10] rfl (c2 := 0) (s2 := 0) rfl rfl (fun H locs hP hS => ?_)
                refine lv_if_eq (tgt := 137) hx hb dX5_told_130 (by decide) (fun c2 => ?_) (fun c2 => ?_)
                · have h := (if_pos c2).symm.trans h
                  refine lv_iconst (v := (0 : Int32)) hx hb dX5_told_137 (by decide) ?_
                  exact hret (0 : Int32) 138 ls H locs rfl dX5_told_138 hP hD hS h
                · have h := (if_neg c2).symm.trans h
                  refine lv_iconst (v := (1 : Int32)) hx hb dX5_told_133 (by decide) ?_
                  refine lv_goto (tgt := 138) hx hb dX5_told_134 (by decide) ?_
                  exact hret (1 : Int32) 138 ls H locs rfl dX5_told_138 hP hD hS h
              · have h := (if_neg c11).symm.trans h
                by_cases c12 : x1 = (7 : Int32)
                · have h := (if_pos c12).symm.trans h
                  refine lv_tableIn (tgt := 139) hx hb dX5_told_1 (by rw [c12]; decide) (by rw [c12]; decide) (off := 138) (by rw [c12]; rfl) (by decide) ?_
                  refine lv_aload_n hx hb dX5_told_139 rfl (lv_at hl 0 rfl) ?_
                  refine va_get (D := D) (ci := 5) (v := .ref aP) (C := RX5) (T := TX5) (N := 3) hx hb hts i5 hown hK hP 0 rfl rfl 1 (by decide) (hts (.fieldLink RX5 20 RX5 "now" "LBidMosaic$Picture;") (List.mem_of_getElem? (i := 1) rfl)) (fun _ h9 => h9) rfl dX5_told_140 ?_
                  refine va_getN (D := D) (ci := 3) (v := .ref aS) (C := RX3) (T := TX3) (N := 5) hx hb hts i3 hown hK hP 4 rfl rfl 4 (by decide) (hN.f (a := RX5) (i := 33) (b := RX3) (n := "sale") (d := "LBidMosaic$Sale;") (h := RX5) (nx_mem (i := 130) (by decide +kernel) rfl)) (fun _ h9 => h9) rfl dX5_told_143 ?_
                  refine va_getN (D := D) (ci := 4) (v := .int vVa) (C := RX4) (T := TX4) (N := 10) hx hb hts i4 hown hK hP 10 rfl rfl 0 (by decide) (hN.f (a := RX5) (i := 37) (b := RX4) (n := "valid") (d := "Z") (h := RX5) (nx_mem (i := 76) (by decide +kernel) rfl)) (fun _ h9 => h9) rfl dX5_told_146 ?_
                  refine lv_if_eq (tgt := 165) hx hb dX5_told_149 (by decide) (fun c3 => ?_) (fun c3 => ?_)
                  · have h := (if_pos c3).symm.trans h
                    refine lv_iconst (v := (0 : Int32)) hx hb dX5_told_165 (by decide) ?_
                    exact hret (0 : Int32) 166 ls H locs rfl dX5_told_166 hP hD hS h
                  · have h := (if_neg c3).symm.trans h
                    refine lv_aload_n hx hb dX5_told_152 rfl (lv_at hl 0 rfl) ?_
                    refine va_get (D := D) (ci := 5) (v := .ref aP) (C := RX5) (T := TX5) (N := 3) hx hb hts i5 hown hK hP 0 rfl rfl 1 (by decide) (hts (.fieldLink RX5 20 RX5 "now" "LBidMosaic$Picture;") (List.mem_of_getElem? (i := 1) rfl)) (fun _ h9 => h9) rfl dX5_told_153 ?_
                    refine va_getN (D := D) (ci := 3) (v := .ref aS) (C := RX3) (T := TX3) (N := 5) hx hb hts i3 hown hK hP 4 rfl rfl 4 (by decide) (hN.f (a := RX5) (i := 33) (b := RX3) (n := "sale") (d := "LBidMosaic$Sale;") (h := RX5) (nx_mem (i := 130) (by decide +kernel) rfl)) (fun _ h9 => h9) rfl dX5_told_156 ?_
                    refine va_getN (D := D) (ci := 4) (v := .int vPh) (C := RX4) (T := TX4) (N := 10) hx hb hts i4 hown hK hP 10 rfl rfl 3 (by decide) (hN.f (a := RX5) (i := 170) (b := RX4) (n := "phases") (d := "I") (h := RX5) (nx_mem (i := 82) (by decide +kernel) rfl)) (fun _ h9 => h9) rfl dX5_told_159 ?_
                    refine lv_goto (tgt := 166) hx hb dX5_told_162 (by decide) ?_
                    exact hret vPh 166 ls H locs rfl dX5_told_166 hP hD hS h
                · have h := (if_neg c12).symm.trans h
                  by_cases c13 : x1 = (8 : Int32)
                  · have h := (if_pos c13).symm.trans h
                    refine lv_tableIn (tgt := 167) hx hb dX5_told_1 (by rw [c13]; decide) (by rw [c13]; decide) (off := 166) (by rw [c13]; rfl) (by decide) ?_
                    refine lv_aload_n hx hb dX5_told_167 rfl (lv_at hl 0 rfl) ?_
                    refine va_get (D := D) (ci := 5) (v := .ref aP) (C := RX5) (T := TX5) (N := 3) hx hb hts i5 hown hK hP 0 rfl rfl 1 (by decide) (hts (.fieldLink RX5 20 RX5 "now" "LBidMosaic$Picture;") (List.mem_of_getElem? (i := 1) rfl)) (fun _ h9 => h9) rfl dX5_told_168 ?_
                    refine va_getN (D := D) (ci := 3) (v := .ref aS) (C := RX3) (T := TX3) (N := 5) hx hb hts i3 hown hK hP 4 rfl rfl 4 (by decide) (hN.f (a := RX5) (i := 33) (b := RX3) (n := "sale") (d := "LBidMosaic$Sale;") (h := RX5) (nx_mem (i := 130) (by decide +kernel) rfl)) (fun _ h9 => h9) rfl dX5_told_171 ?_
                    refine va_getN (D := D) (ci := 4) (v := .int vVa) (C := RX4) (T := TX4) (N := 10) hx hb hts i4 hown hK hP 10 rfl rfl 0 (by decide) (hN.f (a := RX5) (i := 37) (b := RX4) (n := "valid") (d := "Z") (h := RX5) (nx_mem (i := 76) (by decide +kernel) rfl)) (fun _ h9 => h9) rfl dX5_told_174 ?_
                    refine lv_if_eq (tgt := 193) hx hb dX5_told_177 (by decide) (fun c4 => ?_) (fun c4 => ?_)
                    · have h := (if_pos c4).symm.trans h
                      refine lv_iconst (v := (0 : Int32)) hx hb dX5_told_193 (by decide) ?_
                      exact hret (0 : Int32) 194 ls H locs rfl dX5_told_194 hP hD hS h
                    · have h := (if_neg c4).symm.trans h
                      refine lv_aload_n hx hb dX5_told_180 rfl (lv_at hl 0 rfl) ?_
                      refine va_get (D := D) (ci := 5) (v := .ref aP) (C := RX5) (T := TX5) (N := 3) hx hb hts i5 hown hK hP 0 rfl rfl 1 (by decide) (hts (.fieldLink RX5 20 RX5 "now" "LBidMosaic$Picture;") (List.mem_of_getElem? (i := 1) rfl)) (fun _ h9 => h9) rfl dX5_told_181 ?_
                      refine va_getN (D := D) (ci := 3) (v := .ref aS) (C := RX3) (T := TX3) (N := 5) hx hb hts i3 hown hK hP 4 rfl rfl 4 (by decide) (hN.f (a := RX5) (i := 33) (b := RX3) (n := "sale") (d := "LBidMosaic$Sale;") (h := RX5) (nx_mem (i := 130) (by decide +kernel) rfl)) (fun _ h9 => h9) rfl dX5_told_184 ?_
                      refine va_getN (D := D) (ci := 4) (v := .int vBi) (C := RX4) (T := TX4) (N := 10) hx hb hts i4 hown hK hP 10 rfl rfl 2 (by decide) (hN.f (a := RX5) (i := 173) (b := RX4) (n := "bids") (d := "I") (h := RX5) (nx_mem (i := 80) (by decide +kernel) rfl)) (fun _ h9 => h9) rfl dX5_told_187 ?_
                      refine lv_goto (tgt := 194) hx hb dX5_told_190 (by decide) ?_
                      exact hret vBi 194 ls H locs rfl dX5_told_194 hP hD hS h
                  · have h := (if_neg c13).symm.trans h
                    have nc5 := lv_neT c5 (show (0 : Int32).toInt = 0 from rfl)
                    have nc6 := lv_neT c6 (show (1 : Int32).toInt = 1 from rfl)
                    have nc7 := lv_neT c7 (show (2 : Int32).toInt = 2 from rfl)
                    have nc8 := lv_neT c8 (show (3 : Int32).toInt = 3 from rfl)
                    have nc9 := lv_neT c9 (show (4 : Int32).toInt = 4 from rfl)
                    have nc10 := lv_neT c10 (show (5 : Int32).toInt = 5 from rfl)
                    have nc11 := lv_neT c11 (show (6 : Int32).toInt = 6 from rfl)
                    have nc12 := lv_neT c12 (show (7 : Int32).toInt = 7 from rfl)
                    have nc13 := lv_neT c13 (show (8 : Int32).toInt = 8 from rfl)
                    refine lv_tableOut (tgt := 195) hx hb dX5_told_1 (by omega) (by decide) ?_
                    refine lv_aload_n hx hb dX5_told_195 rfl (lv_at hl 0 rfl) ?_
                    refine lv_iload_n hx hb dX5_told_196 rfl (lv_at hl 1 rfl) ?_
                    obtain ⟨r_197, q_197, h⟩ := bd1_some h
                    refine fr_ro_i (S := Unit) (wc := [(aX, .inr (5, [.ref aB, .ref aP, .ref aI])), (aP, .inr (3, [.int vMo, .int vSh, .ref aK, .ref aC, .ref aS])), (aC, .inr (1, [.int vCn, .ref aCd])), (aCd, .inl (cI, 12, .inl fCd))]) (fr_V (As := [.int x1]) (rest := []) (C := RX5) ⟨hx, hb, hml, hown, hts⟩ (tX5_toldOfCell aX aP aC aCd aB aI aK aS vMo vSh vCn fCd x1 r_197 q_197) gX5_told_X5_toldOfCell rfl (fr_preV (As := [.int x1]) (b := aX) (ci := 5) (q0 := 0) (wc := [(aX, .inr (5, [.ref aB, .ref aP, .ref aI])), (aP, .inr (3, [.int vMo, .int vSh, .ref aK, .ref aC, .ref aS])), (aC, .inr (1, [.int vCn, .ref aCd])), (aCd, .inl (cI, 12, .inl fCd))]) hK hN hP hD [0, 4, 8, 9] (by decide) rfl rfl rfl) (n := 1) (by decide +kernel) ⟨Nat.le_of_ble_eq_true rfl, Nat.le_of_ble_eq_true rfl⟩ rfl hl.1 rfl (Nat.le_of_ble_eq_true rfl) dX5_told_197 ⟨Nat.zero_le _, Nat.zero_le _⟩) hP hD hS hA [0, 4, 8, 9] rfl (c2 := 0) (s2 := 0) rfl rfl (fun H locs hP hS => ?_)
                    exact hret r_197 200 ls H locs rfl dX5_told_200 hP hD hS h
