def fX6_firstFree_b2 (fN : Nat → Int32) (fmi : Nat → Int32) : Nat → Int32 → Option (Int32)
  | 0, _ => none
  | n + 1, x1 =>
    if (fN 4) ≤ x1 then
      some (-6 : Int32)
    else
      if x1 < 0 ∨ 16 ≤ x1.toNatClampNeg then none else
      if 0 ≤ (fmi x1.toNatClampNeg) then
        fX6_firstFree_b2 fN fmi n (x1 + 1)
      else
        some x1
def fX6_firstFree (fN : Nat → Int32) (fmi : Nat → Int32) : Option (Int32) :=
  fX6_firstFree_b2 fN fmi FU (0 : Int32)
abbrev rX6_firstFree : Room := { frames := 0, cells := 0, slots := 0, locals := 0 }
set_option maxHeartbeats 4000000 in
set_option maxRecDepth 100000 in
theorem tX6_firstFree {l : Launch} {D : va_G} {cI cZ cP : ClassId} (aM mN mmi mkd mks mcd mpr msk mow mst mbi msu mke mik : Nat) (vka : Int32) (viw : Int32) (fN : Nat → Int32) (fmi : Nat → Int32) (r : Int32) (h : fX6_firstFree fN fmi = some r) : CtI l D cI cZ cP yX6_firstFree wsX6_firstFree rX6_firstFree [.ref aM] [(aM, .inr (6, [.ref mN, .ref mkd, .ref mks, .ref mcd, .ref mpr, .ref msk, .ref mow, .ref mmi, .ref mst, .ref mbi, .ref msu, .ref mke, .ref mik, .int vka, .int viw])), (mN, .inl (cI, 9, .inl fN)), (mmi, .inl (cI, 16, .inl fmi))] (fun _ : Unit => [(aM, .inr (6, [.ref mN, .ref mkd, .ref mks, .ref mcd, .ref mpr, .ref msk, .ref mow, .ref mmi, .ref mst, .ref mbi, .ref msu, .ref mke, .ref mik, .int vka, .int viw])), (mN, .inl (cI, 9, .inl fN)), (mmi, .inl (cI, 16, .inl fmi))]) r := by
  refine CtI.ofW (cc := cX6_firstFree) (maxL := 2) (by decide) rfl (Nat.le_of_ble_eq_true rfl) (lv := [(0, .ref aM)]) rfl ?_
  intro p e s m args below meth c A Q ls hx hb hml hown hts hK hN hP hD hS hA hl hret0
  have hown : s.vm.findClass RX6 = some m.cls := hown
  have i6 : ∀ w ∈ wsX60, w ∈ wsX6_firstFree := mem_ps [3, 4, 5, 6, 7, 8, 9, 10, 11, 12, 13, 14, 15, 16, 17] rfl
  have hret : ∀ (v : Int32) (pc : Nat) (ls : Array Slot) (H : Heap) (locs : List Loc), narrow .int (.int v) = .int v → decode cX6_firstFree pc = .ok (.ireturn, 1) → va_P D vwCl [(aM, .inr (6, [.ref mN, .ref mkd, .ref mks, .ref mcd, .ref mpr, .ref msk, .ref mow, .ref mmi, .ref mst, .ref mbi, .ref msu, .ref mke, .ref mik, .int vka, .int viw])), (mN, .inl (cI, 9, .inl fN)), (mmi, .inl (cI, 16, .inl fmi))] H → va_D A [(aM, .inr (6, [.ref mN, .ref mkd, .ref mks, .ref mcd, .ref mpr, .ref msk, .ref mow, .ref mmi, .ref mst, .ref mbi, .ref msu, .ref mke, .ref mik, .int vka, .int viw])), (mN, .inl (cI, 9, .inl fN)), (mmi, .inl (cI, 16, .inl fmi))] → va_S A s.heap H locs → some v = some r → W p l e rX6_firstFree s m args below meth c H locs 0 0 Q (F0 m pc ls [.int v]) := by
    intro v pc ls H locs hn hd hP hD hS h
    cases h
    exact hret0 pc ls H locs () hn hd hP hD hS
  clear hret0
  have hb2 : ∀ (n : Nat) (x1 : Int32) (H : Heap) (locs : List Loc) (ls : Array Slot), va_P D vwCl [(aM, .inr (6, [.ref mN, .ref mkd, .ref mks, .ref mcd, .ref mpr, .ref msk, .ref mow, .ref mmi, .ref mst, .ref mbi, .ref msu, .ref mke, .ref mik, .int vka, .int viw])), (mN, .inl (cI, 9, .inl fN)), (mmi, .inl (cI, 16, .inl fmi))] H → va_D A [(aM, .inr (6, [.ref mN, .ref mkd, .ref mks, .ref mcd, .ref mpr, .ref msk, .ref mow, .ref mmi, .ref mst, .ref mbi, .ref msu, .ref mke, .ref mik, .int vka, .int viw])), (mN, .inl (cI, 9, .inl fN)), (mmi, .inl (cI, 16, .inl fmi))] → va_S A s.heap H locs → lv_has ls 2 [(0, .ref aM), (1, .int x1)] → fX6_firstFree_b2 fN fmi n x1 = some r → W p l e rX6_firstFree s m args below meth c H locs 0 0 Q (F0 m 2 ls []) := by
    intro n
    induction n with
    | zero => intro x1 H locs ls hP hD hS hl h; exact absurd h (by rw [fX6_firstFree_b2]; exact fun z => by cases z)
    | succ n ih =>
      intro x1 H locs ls hP hD hS hl h
      rw [fX6_firstFree_b2] at h
      refine lv_iload_n hx hb dX6_firstFree_2 rfl (lv_at hl 1 rfl) ?_
      refine lv_aload_n hx hb dX6_firstFree_3 rfl (lv_at hl 0 rfl) ?_
      refine va_get (D := D) (ci := 6) (v := .ref mN) (C := RX6) (T := TX6) (N := 15) hx hb hts i6 hown hK hP 0 rfl rfl 0 (by decide) (hts (.fieldLink RX6 7 RX6 "now" "[I") (List.mem_of_getElem? (i := 1) rfl)) (fun _ h9 => h9) rfl dX6_firstFree_4 ?_
      refine lv_iconst (v := (4 : Int32)) hx hb dX6_firstFree_7 (by decide) ?_
      refine fr_iald (j := 4) hx hb hK hP 1 0 rfl rfl (by decide) (vin_of 4 9 (4 : Int32) (by decide) (by decide) (by decide)) dX6_firstFree_8 ?_
      refine lv_icmp_ge (tgt := 29) hx hb dX6_firstFree_9 (by decide) (fun c1 => ?_) (fun c1 => ?_)
      · have h := (if_pos c1).symm.trans h
        refine lv_bipush (v := (-6 : Int32)) hx hb dX6_firstFree_29 (by decide) ?_
        exact hret (-6 : Int32) 31 ls H locs rfl dX6_firstFree_31 hP hD hS h
      · have h := (if_neg c1).symm.trans h
        refine lv_aload_n hx hb dX6_firstFree_12 rfl (lv_at hl 0 rfl) ?_
        refine va_get (D := D) (ci := 6) (v := .ref mmi) (C := RX6) (T := TX6) (N := 15) hx hb hts i6 hown hK hP 0 rfl rfl 7 (by decide) (hts (.fieldLink RX6 31 RX6 "mine" "[I") (List.mem_of_getElem? (i := 2) rfl)) (fun _ h9 => h9) rfl dX6_firstFree_13 ?_
        refine lv_iload_n hx hb dX6_firstFree_16 rfl (lv_at hl 1 rfl) ?_
        obtain ⟨g2, h⟩ := no_some h
        refine va_iald hx hb hK hP 2 0 rfl rfl g2 dX6_firstFree_17 ?_
        refine lv_if_ge (tgt := 23) hx hb dX6_firstFree_18 (by decide) (fun c3 => ?_) (fun c3 => ?_)
        · have h := (if_pos c3).symm.trans h
          refine lv_iinc (v := x1 + 1) (lv' := [(1, .int (x1 + 1)), (0, .ref aM)]) hx hb dX6_firstFree_23 hl (k := 1) rfl rfl (by decide) rfl (fun ls hl => ?_)
          refine lv_goto (tgt := 2) hx hb dX6_firstFree_26 (by decide) ?_
          exact ih (x1 + 1) H locs ls hP hD hS (lv_sub hl [1, 0] rfl) h
        · have h := (if_neg c3).symm.trans h
          refine lv_iload_n hx hb dX6_firstFree_21 rfl (lv_at hl 1 rfl) ?_
          exact hret x1 22 ls H locs rfl dX6_firstFree_22 hP hD hS h
  unfold fX6_firstFree at h
  obtain ⟨H, hH⟩ : ∃ H, H = s.heap := ⟨_, rfl⟩
  have hP : va_P D vwCl [(aM, .inr (6, [.ref mN, .ref mkd, .ref mks, .ref mcd, .ref mpr, .ref msk, .ref mow, .ref mmi, .ref mst, .ref mbi, .ref msu, .ref mke, .ref mik, .int vka, .int viw])), (mN, .inl (cI, 9, .inl fN)), (mmi, .inl (cI, 16, .inl fmi))] H := by rw [hH]; exact hP
  obtain ⟨locs, hlocs⟩ : ∃ x : List Loc, x = [] := ⟨_, rfl⟩
  have hS : va_S A s.heap H locs := by rw [hH, hlocs]; exact hS
  suffices hgo : W p l e rX6_firstFree s m args below meth c H locs 0 0 Q (F0 m 0 ls []) by rw [hH, hlocs] at hgo; exact hgo
  refine lv_iconst (v := (0 : Int32)) hx hb dX6_firstFree_0 (by decide) ?_
  refine lv_istore_n (lv' := [(1, .int (0 : Int32)), (0, .ref aM)]) hx hb dX6_firstFree_1 rfl hl (by decide) rfl (fun ls hl => ?_)
  exact hb2 FU (0 : Int32) H locs ls hP hD hS (lv_sub hl [1, 0] rfl) h
def fX6_phaseOf_b7 (fN : Nat → Int32) (fkd : Nat → Int32) (fcd : Nat → Int32) (fsk : Nat → Int32) : Nat → Int32 → Int32 → Int32 → (Nat → Int32) → (Nat → Int32) → (Nat → Int32) → Option (Int32 × (Nat → Int32) × (Nat → Int32) × (Nat → Int32))
  | 0, _, _, _, _, _, _ => none
  | n + 1, x1, x2, x3, fpr, fow, fmi =>
    if x3 < 0 then
      some (x2, fpr, fow, fmi)
    else
      bd3 (fX6_bid fN fkd fcd fpr fsk fow fmi x3 x1) fun fpr_14 fow_14 fmi_14 =>
      bd1 (fX6_firstFree fN fmi_14) fun r_21 =>
      fX6_phaseOf_b7 fN fkd fcd fsk n x1 (x2 + 1) r_21 fpr_14 fow_14 fmi_14
def fX6_phaseOf (fN : Nat → Int32) (fkd : Nat → Int32) (fcd : Nat → Int32) (fpr : Nat → Int32) (fsk : Nat → Int32) (fow : Nat → Int32) (fmi : Nat → Int32) (x1 : Int32) : Option (Int32 × (Nat → Int32) × (Nat → Int32) × (Nat → Int32)) :=
  bd1 (fX6_firstFree fN fmi) fun r_3 =>
  fX6_phaseOf_b7 fN fkd fcd fsk FU x1 (0 : Int32) r_3 fpr fow fmi
abbrev rX6_phaseOf : Room := { frames := 4, cells := 0, slots := 0, locals := 98 }
set_option maxHeartbeats 4000000 in
set_option maxRecDepth 100000 in
theorem tX6_phaseOf {l : Launch} {D : va_G} {cI cZ cP : ClassId} (aM mN mkd mcd mpr msk mow mmi mks mst mbi msu mke mik : Nat) (vka : Int32) (viw : Int32) (fN : Nat → Int32) (fkd : Nat → Int32) (fcd : Nat → Int32) (fpr : Nat → Int32) (fsk : Nat → Int32) (fow : Nat → Int32) (fmi : Nat → Int32) (x1 : Int32) (r : Int32) (opr : Nat → Int32) (oow : Nat → Int32) (omi : Nat → Int32) (h : fX6_phaseOf fN fkd fcd fpr fsk fow fmi x1 = some (r, opr, oow, omi)) : CtI l D cI cZ cP yX6_phaseOf wsX6_phaseOf rX6_phaseOf [.ref aM, .int x1] [(aM, .inr (6, [.ref mN, .ref mkd, .ref mks, .ref mcd, .ref mpr, .ref msk, .ref mow, .ref mmi, .ref mst, .ref mbi, .ref msu, .ref mke, .ref mik, .int vka, .int viw])), (mN, .inl (cI, 9, .inl fN)), (mkd, .inl (cI, 8, .inl fkd)), (mcd, .inl (cI, 12, .inl fcd)), (mpr, .inl (cI, 16, .inl fpr)), (msk, .inl (cI, 16, .inl fsk)), (mow, .inl (cI, 16, .inl fow)), (mmi, .inl (cI, 16, .inl fmi))] (fun _ : Unit => [(aM, .inr (6, [.ref mN, .ref mkd, .ref mks, .ref mcd, .ref mpr, .ref msk, .ref mow, .ref mmi, .ref mst, .ref mbi, .ref msu, .ref mke, .ref mik, .int vka, .int viw])), (mN, .inl (cI, 9, .inl fN)), (mkd, .inl (cI, 8, .inl fkd)), (mcd, .inl (cI, 12, .inl fcd)), (mpr, .inl (cI, 16, .inl opr)), (msk, .inl (cI, 16, .inl fsk)), (mow, .inl (cI, 16, .inl oow)), (mmi, .inl (cI, 16, .inl omi))]) r := by
  refine CtI.ofW (cc := cX6_phaseOf) (maxL := 4) (by decide) rfl (Nat.le_of_ble_eq_true rfl) (lv := [(0, .ref aM), (1, .int x1)]) rfl ?_
  intro p e s m args below meth c A Q ls hx hb hml hown hts hK hN hP hD hS hA hl hret0
  have hown : s.vm.findClass RX6 = some m.cls := hown
  have i6 : ∀ w ∈ wsX60, w ∈ wsX6_phaseOf := mem_ps [33, 34, 35, 36, 37, 38, 39, 40, 41, 42, 43, 44, 45, 46, 47] rfl
  have hret : ∀ (v : Int32) (zpr : Nat → Int32) (zow : Nat → Int32) (zmi : Nat → Int32) (pc : Nat) (ls : Array Slot) (H : Heap) (locs : List Loc), narrow .int (.int v) = .int v → decode cX6_phaseOf pc = .ok (.ireturn, 1) → va_P D vwCl [(aM, .inr (6, [.ref mN, .ref mkd, .ref mks, .ref mcd, .ref mpr, .ref msk, .ref mow, .ref mmi, .ref mst, .ref mbi, .ref msu, .ref mke, .ref mik, .int vka, .int viw])), (mN, .inl (cI, 9, .inl fN)), (mkd, .inl (cI, 8, .inl fkd)), (mcd, .inl (cI, 12, .inl fcd)), (mpr, .inl (cI, 16, .inl zpr)), (msk, .inl (cI, 16, .inl fsk)), (mow, .inl (cI, 16, .inl zow)), (mmi, .inl (cI, 16, .inl zmi))] H → va_D A [(aM, .inr (6, [.ref mN, .ref mkd, .ref mks, .ref mcd, .ref mpr, .ref msk, .ref mow, .ref mmi, .ref mst, .ref mbi, .ref msu, .ref mke, .ref mik, .int vka, .int viw])), (mN, .inl (cI, 9, .inl fN)), (mkd, .inl (cI, 8, .inl fkd)), (mcd, .inl (cI, 12, .inl fcd)), (mpr, .inl (cI, 16, .inl zpr)), (msk, .inl (cI, 16, .inl fsk)), (mow, .inl (cI, 16, .inl zow)), (mmi, .inl (cI, 16, .inl zmi))] → va_S A s.heap H locs → some (v, zpr, zow, zmi) = some (r, opr, oow, omi) → W p l e rX6_phaseOf s m args below meth c H locs 0 0 Q (F0 m pc ls [.int v]) := by
    intro v zpr zow zmi pc ls H locs hn hd hP hD hS h
    cases h
    exact hret0 pc ls H locs () hn hd hP hD hS
  clear hret0
  have hb7 : ∀ (n : Nat) (x1 : Int32) (x2 : Int32) (x3 : Int32) (fpr : Nat → Int32) (fow : Nat → Int32) (fmi : Nat → Int32) (H : Heap) (locs : List Loc) (ls : Array Slot), va_P D vwCl [(aM, .inr (6, [.ref mN, .ref mkd, .ref mks, .ref mcd, .ref mpr, .ref msk, .ref mow, .ref mmi, .ref mst, .ref mbi, .ref msu, .ref mke, .ref mik, .int vka, .int viw])), (mN, .inl (cI, 9, .inl fN)), (mkd, .inl (cI, 8, .inl fkd)), (mcd, .inl (cI, 12, .inl fcd)), (mpr, .inl (cI, 16, .inl fpr)), (msk, .inl (cI, 16, .inl fsk)), (mow, .inl (cI, 16, .inl fow)), (mmi, .inl (cI, 16, .inl fmi))] H → va_D A [(aM, .inr (6, [.ref mN, .ref mkd, .ref mks, .ref mcd, .ref mpr, .ref msk, .ref mow, .ref mmi, .ref mst, .ref mbi, .ref msu, .ref mke, .ref mik, .int vka, .int viw])), (mN, .inl (cI, 9, .inl fN)), (mkd, .inl (cI, 8, .inl fkd)), (mcd, .inl (cI, 12, .inl fcd)), (mpr, .inl (cI, 16, .inl fpr)), (msk, .inl (cI, 16, .inl fsk)), (mow, .inl (cI, 16, .inl fow)), (mmi, .inl (cI, 16, .inl fmi))] → va_S A s.heap H locs → lv_has ls 4 [(0, .ref aM), (1, .int x1), (2, .int x2), (3, .int x3)] → fX6_phaseOf_b7 fN fkd fcd fsk n x1 x2 x3 fpr fow fmi = some (r, opr, oow, omi) → W p l e rX6_phaseOf s m args below meth c H locs 0 0 Q (F0 m 7 ls []) := by
    intro n
    induction n with
    | zero => intro x1 x2 x3 fpr fow fmi H locs ls hP hD hS hl h; exact absurd h (by rw [fX6_phaseOf_b7]; exact fun z => by cases z)
    | succ n ih =>
      intro x1 x2 x3 fpr fow fmi H locs ls hP hD hS hl h
      rw [fX6_phaseOf_b7] at h
      refine lv_iload_n hx hb dX6_phaseOf_7 rfl (lv_at hl 3 rfl) ?_
      refine lv_if_lt (tgt := 28) hx hb dX6_phaseOf_8 (by decide) (fun c1 => ?_) (fun c1 => ?_)
      · have h := (if_pos c1).symm.trans h
        refine lv_iload_n hx hb dX6_phaseOf_28 rfl (lv_at hl 2 rfl) ?_
        exact hret x2 fpr fow fmi 29 ls H locs rfl dX6_phaseOf_29 hP hD hS h
      · have h := (if_neg c1).symm.trans h
        refine lv_aload_n hx hb dX6_phaseOf_11 rfl (lv_at hl 0 rfl) ?_
        refine lv_iload_n hx hb dX6_phaseOf_12 rfl (lv_at hl 3 rfl) ?_
        refine lv_iload_n hx hb dX6_phaseOf_13 rfl (lv_at hl 1 rfl) ?_
        obtain ⟨fpr_14, fow_14, fmi_14, q_14, h⟩ := bd3_some h
        refine fr_rw_v (S := Unit) (wc := [(aM, .inr (6, [.ref mN, .ref mkd, .ref mks, .ref mcd, .ref mpr, .ref msk, .ref mow, .ref mmi, .ref mst, .ref mbi, .ref msu, .ref mke, .ref mik, .int vka, .int viw])), (mN, .inl (cI, 9, .inl fN)), (mkd, .inl (cI, 8, .inl fkd)), (mcd, .inl (cI, 12, .inl fcd)), (mpr, .inl (cI, 16, .inl fpr)), (msk, .inl (cI, 16, .inl fsk)), (mow, .inl (cI, 16, .inl fow)), (mmi, .inl (cI, 16, .inl fmi))]) (wc' := fun _ => [(aM, .inr (6, [.ref mN, .ref mkd, .ref mks, .ref mcd, .ref mpr, .ref msk, .ref mow, .ref mmi, .ref mst, .ref mbi, .ref msu, .ref mke, .ref mik, .int vka, .int viw])), (mN, .inl (cI, 9, .inl fN)), (mkd, .inl (cI, 8, .inl fkd)), (mcd, .inl (cI, 12, .inl fcd)), (mpr, .inl (cI, 16, .inl fpr_14)), (msk, .inl (cI, 16, .inl fsk)), (mow, .inl (cI, 16, .inl fow_14)), (mmi, .inl (cI, 16, .inl fmi_14))]) (wr := []) (w2 := fun _ => [(aM, .inr (6, [.ref mN, .ref mkd, .ref mks, .ref mcd, .ref mpr, .ref msk, .ref mow, .ref mmi, .ref mst, .ref mbi, .ref msu, .ref mke, .ref mik, .int vka, .int viw])), (mN, .inl (cI, 9, .inl fN)), (mkd, .inl (cI, 8, .inl fkd)), (mcd, .inl (cI, 12, .inl fcd)), (mpr, .inl (cI, 16, .inl fpr_14)), (msk, .inl (cI, 16, .inl fsk)), (mow, .inl (cI, 16, .inl fow_14)), (mmi, .inl (cI, 16, .inl fmi_14))]) (fr_Vv (As := [.int x3, .int x1]) (rest := []) (C := RX6) ⟨hx, hb, hml, hown, hts⟩ (tX6_bid aM mN mkd mcd mpr msk mow mmi mks mst mbi msu mke mik vka viw fN fkd fcd fpr fsk fow fmi x3 x1 fpr_14 fow_14 fmi_14 q_14) gX6_phaseOf_X6_bid rfl (fr_preV (As := [.int x3, .int x1]) (b := aM) (ci := 6) (q0 := 0) (wc := [(aM, .inr (6, [.ref mN, .ref mkd, .ref mks, .ref mcd, .ref mpr, .ref msk, .ref mow, .ref mmi, .ref mst, .ref mbi, .ref msu, .ref mke, .ref mik, .int vka, .int viw])), (mN, .inl (cI, 9, .inl fN)), (mkd, .inl (cI, 8, .inl fkd)), (mcd, .inl (cI, 12, .inl fcd)), (mpr, .inl (cI, 16, .inl fpr)), (msk, .inl (cI, 16, .inl fsk)), (mow, .inl (cI, 16, .inl fow)), (mmi, .inl (cI, 16, .inl fmi))]) hK hN hP hD [0, 1, 2, 3, 4, 5, 6, 7] (by decide) rfl rfl rfl) (n := 2) (by decide +kernel) ⟨Nat.le_of_ble_eq_true rfl, Nat.le_of_ble_eq_true rfl⟩ rfl hl.1 rfl (Nat.le_of_ble_eq_true rfl) dX6_phaseOf_14 ⟨Nat.zero_le _, Nat.zero_le _⟩) hP hD hS hA [0, 1, 2, 3, 4, 5, 6, 7] [] [0, 1, 2, 3, 4, 5, 6, 7] rfl rfl (by decide) (by decide) (by decide) (fun _ => rfl) (c2 := 0) (s2 := 0) rfl rfl (fun _ H locs hP hD hS => ?_)
        refine lv_iinc (v := x2 + 1) (lv' := [(2, .int (x2 + 1)), (0, .ref aM), (1, .int x1), (3, .int x3)]) hx hb dX6_phaseOf_17 hl (k := 2) rfl rfl (by decide) rfl (fun ls hl => ?_)
        refine lv_aload_n hx hb dX6_phaseOf_20 rfl (lv_at hl 1 rfl) ?_
        obtain ⟨r_21, q_21, h⟩ := bd1_some h
        refine fr_ro_i (S := Unit) (wc := [(aM, .inr (6, [.ref mN, .ref mkd, .ref mks, .ref mcd, .ref mpr, .ref msk, .ref mow, .ref mmi, .ref mst, .ref mbi, .ref msu, .ref mke, .ref mik, .int vka, .int viw])), (mN, .inl (cI, 9, .inl fN)), (mmi, .inl (cI, 16, .inl fmi_14))]) (fr_V (As := []) (rest := []) (C := RX6) ⟨hx, hb, hml, hown, hts⟩ (tX6_firstFree aM mN mmi mkd mks mcd mpr msk mow mst mbi msu mke mik vka viw fN fmi_14 r_21 q_21) gX6_phaseOf_X6_firstFree rfl (fr_preV (As := []) (b := aM) (ci := 6) (q0 := 0) (wc := [(aM, .inr (6, [.ref mN, .ref mkd, .ref mks, .ref mcd, .ref mpr, .ref msk, .ref mow, .ref mmi, .ref mst, .ref mbi, .ref msu, .ref mke, .ref mik, .int vka, .int viw])), (mN, .inl (cI, 9, .inl fN)), (mmi, .inl (cI, 16, .inl fmi_14))]) hK hN hP hD [0, 1, 7] (by decide) rfl rfl rfl) (n := 0) (by decide +kernel) ⟨Nat.le_of_ble_eq_true rfl, Nat.le_of_ble_eq_true rfl⟩ rfl hl.1 rfl (Nat.le_of_ble_eq_true rfl) dX6_phaseOf_21 ⟨Nat.zero_le _, Nat.zero_le _⟩) hP hD hS hA [0, 1, 7] rfl (c2 := 0) (s2 := 0) rfl rfl (fun H locs hP hS => ?_)
        refine lv_istore_n (lv' := [(3, .int r_21), (2, .int (x2 + 1)), (0, .ref aM), (1, .int x1)]) hx hb dX6_phaseOf_24 rfl hl (by decide) rfl (fun ls hl => ?_)
        refine lv_goto (tgt := 7) hx hb dX6_phaseOf_25 (by decide) ?_
        exact ih x1 (x2 + 1) r_21 fpr_14 fow_14 fmi_14 H locs ls hP hD hS (lv_sub hl [2, 3, 1, 0] rfl) h
  unfold fX6_phaseOf at h
  obtain ⟨H, hH⟩ : ∃ H, H = s.heap := ⟨_, rfl⟩
  have hP : va_P D vwCl [(aM, .inr (6, [.ref mN, .ref mkd, .ref mks, .ref mcd, .ref mpr, .ref msk, .ref mow, .ref mmi, .ref mst, .ref mbi, .ref msu, .ref mke, .ref mik, .int vka, .int viw])), (mN, .inl (cI, 9, .inl fN)), (mkd, .inl (cI, 8, .inl fkd)), (mcd, .inl (cI, 12, .inl fcd)), (mpr, .inl (cI, 16, .inl fpr)), (msk, .inl (cI, 16, .inl fsk)), (mow, .inl (cI, 16, .inl fow)), (mmi, .inl (cI, 16, .inl fmi))] H := by rw [hH]; exact hP
  obtain ⟨locs, hlocs⟩ : ∃ x : List Loc, x = [] := ⟨_, rfl⟩
  have hS : va_S A s.heap H locs := by rw [hH, hlocs]; exact hS
  suffices hgo : W p l e rX6_phaseOf s m args below meth c H locs 0 0 Q (F0 m 0 ls []) by rw [hH, hlocs] at hgo; exact hgo
  refine lv_iconst (v := (0 : Int32)) hx hb dX6_phaseOf_0 (by decide) ?_
  refine lv_istore_n (lv' := [(2, .int (0 : Int32)), (0, .ref aM), (1, .int x1)]) hx hb dX6_phaseOf_1 rfl hl (by decide) rfl (fun ls hl => ?_)
  refine lv_aload_n hx hb dX6_phaseOf_2 rfl (lv_at hl 1 rfl) ?_
  obtain ⟨r_3, q_3, h⟩ := bd1_some h
  refine fr_ro_i (S := Unit) (wc := [(aM, .inr (6, [.ref mN, .ref mkd, .ref mks, .ref mcd, .ref mpr, .ref msk, .ref mow, .ref mmi, .ref mst, .ref mbi, .ref msu, .ref mke, .ref mik, .int vka, .int viw])), (mN, .inl (cI, 9, .inl fN)), (mmi, .inl (cI, 16, .inl fmi))]) (fr_V (As := []) (rest := []) (C := RX6) ⟨hx, hb, hml, hown, hts⟩ (tX6_firstFree aM mN mmi mkd mks mcd mpr msk mow mst mbi msu mke mik vka viw fN fmi r_3 q_3) gX6_phaseOf_X6_firstFree rfl (fr_preV (As := []) (b := aM) (ci := 6) (q0 := 0) (wc := [(aM, .inr (6, [.ref mN, .ref mkd, .ref mks, .ref mcd, .ref mpr, .ref msk, .ref mow, .ref mmi, .ref mst, .ref mbi, .ref msu, .ref mke, .ref mik, .int vka, .int viw])), (mN, .inl (cI, 9, .inl fN)), (mmi, .inl (cI, 16, .inl fmi))]) hK hN hP hD [0, 1, 7] (by decide) rfl rfl rfl) (n := 0) (by decide +kernel) ⟨Nat.le_of_ble_eq_true rfl, Nat.le_of_ble_eq_true rfl⟩ rfl hl.1 rfl (Nat.le_of_ble_eq_true rfl) dX6_phaseOf_3 ⟨Nat.zero_le _, Nat.zero_le _⟩) hP hD hS hA [0, 1, 7] rfl (c2 := 0) (s2 := 0) rfl rfl (fun H locs hP hS => ?_)
  refine lv_istore_n (lv' := [(3, .int r_3), (2, .int (0 : Int32)), (0, .ref aM), (1, .int x1)]) hx hb dX6_phaseOf_6 rfl hl (by decide) rfl (fun ls hl => ?_)
  exact hb7 FU x1 (0 : Int32) r_3 fpr fow fmi H locs ls hP hD hS (lv_sub hl [2, 3, 1, 0] rfl) h
def fX6_freeAll_b2  : Nat → Int32 → (Nat → Int32) → (Nat → Int32) → Option ((Nat → Int32) × (Nat → Int32))
  | 0, _, _, _ => none
  | n + 1, x1, fow, fmi =>
    if (16 : Int32) ≤ x1 then
      some (fow, fmi)
    else
      if x1 < 0 ∨ 16 ≤ x1.toNatClampNeg then none else
      if x1 < 0 ∨ 16 ≤ x1.toNatClampNeg then none else
      fX6_freeAll_b2  n (x1 + 1) (upd fow x1.toNatClampNeg (-6 : Int32)) (upd fmi x1.toNatClampNeg (-6 : Int32))
def fX6_freeAll (fow : Nat → Int32) (fmi : Nat → Int32) : Option ((Nat → Int32) × (Nat → Int32)) :=
  fX6_freeAll_b2  FU (0 : Int32) fow fmi
abbrev rX6_freeAll : Room := { frames := 0, cells := 0, slots := 0, locals := 0 }
set_option maxHeartbeats 4000000 in
set_option maxRecDepth 100000 in
theorem tX6_freeAll {l : Launch} {D : va_G} {cI cZ cP : ClassId} (aM mow mmi mN mkd mks mcd mpr msk mst mbi msu mke mik : Nat) (vka : Int32) (viw : Int32) (fow : Nat → Int32) (fmi : Nat → Int32) (oow : Nat → Int32) (omi : Nat → Int32) (h : fX6_freeAll fow fmi = some (oow, omi)) : CtV l D cI cZ cP yX6_freeAll wsX6_freeAll rX6_freeAll [.ref aM] [(aM, .inr (6, [.ref mN, .ref mkd, .ref mks, .ref mcd, .ref mpr, .ref msk, .ref mow, .ref mmi, .ref mst, .ref mbi, .ref msu, .ref mke, .ref mik, .int vka, .int viw])), (mow, .inl (cI, 16, .inl fow)), (mmi, .inl (cI, 16, .inl fmi))] (fun _ : Unit => [(aM, .inr (6, [.ref mN, .ref mkd, .ref mks, .ref mcd, .ref mpr, .ref msk, .ref mow, .ref mmi, .ref mst, .ref mbi, .ref msu, .ref mke, .ref mik, .int vka, .int viw])), (mow, .inl (cI, 16, .inl oow)), (mmi, .inl (cI, 16, .inl omi))]) := by
  refine CtV.ofW (cc := cX6_freeAll) (maxL := 2) (by decide) rfl (Nat.le_of_ble_eq_true rfl) (lv := [(0, .ref aM)]) rfl ?_
  intro p e s m args below meth c A Q ls hx hb hml hown hts hK hN hP hD hS hA hl hin hret0
  have hown : s.vm.findClass RX6 = some m.cls := hown
  have i6 : ∀ w ∈ wsX60, w ∈ wsX6_freeAll := mem_ps [3, 4, 5, 6, 7, 8, 9, 10, 11, 12, 13, 14, 15, 16, 17] rfl
  have hret : ∀ (zow : Nat → Int32) (zmi : Nat → Int32) (pc : Nat) (ls : Array Slot) (H : Heap) (locs : List Loc), decode cX6_freeAll pc = .ok (.return_, 1) → va_P D vwCl [(aM, .inr (6, [.ref mN, .ref mkd, .ref mks, .ref mcd, .ref mpr, .ref msk, .ref mow, .ref mmi, .ref mst, .ref mbi, .ref msu, .ref mke, .ref mik, .int vka, .int viw])), (mow, .inl (cI, 16, .inl zow)), (mmi, .inl (cI, 16, .inl zmi))] H → va_D A [(aM, .inr (6, [.ref mN, .ref mkd, .ref mks, .ref mcd, .ref mpr, .ref msk, .ref mow, .ref mmi, .ref mst, .ref mbi, .ref msu, .ref mke, .ref mik, .int vka, .int viw])), (mow, .inl (cI, 16, .inl zow)), (mmi, .inl (cI, 16, .inl zmi))] → va_S A s.heap H locs → some (zow, zmi) = some (oow, omi) → W p l e rX6_freeAll s m args below meth c H locs 0 0 Q (F0 m pc ls []) := by
    intro zow zmi pc ls H locs hd hP hD hS h
    cases h
    exact hret0 pc ls H locs () hd hP hD hS
  clear hret0
  have hb2 : ∀ (n : Nat) (x1 : Int32) (fow : Nat → Int32) (fmi : Nat → Int32) (H : Heap) (locs : List Loc) (ls : Array Slot), va_P D vwCl [(aM, .inr (6, [.ref mN, .ref mkd, .ref mks, .ref mcd, .ref mpr, .ref msk, .ref mow, .ref mmi, .ref mst, .ref mbi, .ref msu, .ref mke, .ref mik, .int vka, .int viw])), (mow, .inl (cI, 16, .inl fow)), (mmi, .inl (cI, 16, .inl fmi))] H → va_D A [(aM, .inr (6, [.ref mN, .ref mkd, .ref mks, .ref mcd, .ref mpr, .ref msk, .ref mow, .ref mmi, .ref mst, .ref mbi, .ref msu, .ref mke, .ref mik, .int vka, .int viw])), (mow, .inl (cI, 16, .inl fow)), (mmi, .inl (cI, 16, .inl fmi))] → va_S A s.heap H locs → lv_has ls 2 [(0, .ref aM), (1, .int x1)] → fX6_freeAll_b2  n x1 fow fmi = some (oow, omi) → W p l e rX6_freeAll s m args below meth c H locs 0 0 Q (F0 m 2 ls []) := by
    intro n
    induction n with
    | zero => intro x1 fow fmi H locs ls hP hD hS hl h; exact absurd h (by rw [fX6_freeAll_b2]; exact fun z => by cases z)
    | succ n ih =>
      intro x1 fow fmi H locs ls hP hD hS hl h
      rw [fX6_freeAll_b2] at h
      refine lv_iload_n hx hb dX6_freeAll_2 rfl (lv_at hl 1 rfl) ?_
      refine lv_bipush (v := (16 : Int32)) hx hb dX6_freeAll_3 (by decide) ?_
      refine lv_icmp_ge (tgt := 30) hx hb dX6_freeAll_5 (by decide) (fun c1 => ?_) (fun c1 => ?_)
      · have h := (if_pos c1).symm.trans h
        exact hret fow fmi 30 ls H locs dX6_freeAll_30 hP hD hS h
      · have h := (if_neg c1).symm.trans h
        refine lv_aload_n hx hb dX6_freeAll_8 rfl (lv_at hl 0 rfl) ?_
        refine va_get (D := D) (ci := 6) (v := .ref mow) (C := RX6) (T := TX6) (N := 15) hx hb hts i6 hown hK hP 0 rfl rfl 6 (by decide) (hts (.fieldLink RX6 28 RX6 "owner" "[I") (List.mem_of_getElem? (i := 1) rfl)) (fun _ h9 => h9) rfl dX6_freeAll_9 ?_
        refine lv_iload_n hx hb dX6_freeAll_12 rfl (lv_at hl 1 rfl) ?_
        refine lv_bipush (v := (-6 : Int32)) hx hb dX6_freeAll_13 (by decide) ?_
        obtain ⟨g2, h⟩ := no_some h
        refine va_iast hx hb hK hP hD hS 1 0 rfl rfl g2 dX6_freeAll_15 (fun H locs hP hD hS => ?_)
        have hP : va_P D vwCl [(aM, .inr (6, [.ref mN, .ref mkd, .ref mks, .ref mcd, .ref mpr, .ref msk, .ref mow, .ref mmi, .ref mst, .ref mbi, .ref msu, .ref mke, .ref mik, .int vka, .int viw])), (mow, .inl (cI, 16, .inl (upd fow x1.toNatClampNeg (-6 : Int32)))), (mmi, .inl (cI, 16, .inl fmi))] H := hP
        have hD : va_D A [(aM, .inr (6, [.ref mN, .ref mkd, .ref mks, .ref mcd, .ref mpr, .ref msk, .ref mow, .ref mmi, .ref mst, .ref mbi, .ref msu, .ref mke, .ref mik, .int vka, .int viw])), (mow, .inl (cI, 16, .inl (upd fow x1.toNatClampNeg (-6 : Int32)))), (mmi, .inl (cI, 16, .inl fmi))] := hD
        refine lv_aload_n hx hb dX6_freeAll_16 rfl (lv_at hl 0 rfl) ?_
        refine va_get (D := D) (ci := 6) (v := .ref mmi) (C := RX6) (T := TX6) (N := 15) hx hb hts i6 hown hK hP 0 rfl rfl 7 (by decide) (hts (.fieldLink RX6 31 RX6 "mine" "[I") (List.mem_of_getElem? (i := 2) rfl)) (fun _ h9 => h9) rfl dX6_freeAll_17 ?_
        refine lv_iload_n hx hb dX6_freeAll_20 rfl (lv_at hl 1 rfl) ?_
        refine lv_bipush (v := (-6 : Int32)) hx hb dX6_freeAll_21 (by decide) ?_
        obtain ⟨g3, h⟩ := no_some h
        refine va_iast hx hb hK hP hD hS 2 0 rfl rfl g3 dX6_freeAll_23 (fun H locs hP hD hS => ?_)
        have hP : va_P D vwCl [(aM, .inr (6, [.ref mN, .ref mkd, .ref mks, .ref mcd, .ref mpr, .ref msk, .ref mow, .ref mmi, .ref mst, .ref mbi, .ref msu, .ref mke, .ref mik, .int vka, .int viw])), (mow, .inl (cI, 16, .inl (upd fow x1.toNatClampNeg (-6 : Int32)))), (mmi, .inl (cI, 16, .inl (upd fmi x1.toNatClampNeg (-6 : Int32))))] H := hP
        have hD : va_D A [(aM, .inr (6, [.ref mN, .ref mkd, .ref mks, .ref mcd, .ref mpr, .ref msk, .ref mow, .ref mmi, .ref mst, .ref mbi, .ref msu, .ref mke, .ref mik, .int vka, .int viw])), (mow, .inl (cI, 16, .inl (upd fow x1.toNatClampNeg (-6 : Int32)))), (mmi, .inl (cI, 16, .inl (upd fmi x1.toNatClampNeg (-6 : Int32))))] := hD
        refine lv_iinc (v := x1 + 1) (lv' := [(1, .int (x1 + 1)), (0, .ref aM)]) hx hb dX6_freeAll_24 hl (k := 1) rfl rfl (by decide) rfl (fun ls hl => ?_)
        refine lv_goto (tgt := 2) hx hb dX6_freeAll_27 (by decide) ?_
        exact ih (x1 + 1) (upd fow x1.toNatClampNeg (-6 : Int32)) (upd fmi x1.toNatClampNeg (-6 : Int32)) H locs ls hP hD hS (lv_sub hl [1, 0] rfl) h
  unfold fX6_freeAll at h
  obtain ⟨H, hH⟩ : ∃ H, H = s.heap := ⟨_, rfl⟩
  have hP : va_P D vwCl [(aM, .inr (6, [.ref mN, .ref mkd, .ref mks, .ref mcd, .ref mpr, .ref msk, .ref mow, .ref mmi, .ref mst, .ref mbi, .ref msu, .ref mke, .ref mik, .int vka, .int viw])), (mow, .inl (cI, 16, .inl fow)), (mmi, .inl (cI, 16, .inl fmi))] H := by rw [hH]; exact hP
  obtain ⟨locs, hlocs⟩ : ∃ x : List Loc, x = [] := ⟨_, rfl⟩
  have hS : va_S A s.heap H locs := by rw [hH, hlocs]; exact hS
  suffices hgo : W p l e rX6_freeAll s m args below meth c H locs 0 0 Q (F0 m 0 ls []) by rw [hH, hlocs] at hgo; exact hgo
  refine lv_iconst (v := (0 : Int32)) hx hb dX6_freeAll_0 (by decide) ?_
  refine lv_istore_n (lv' := [(1, .int (0 : Int32)), (0, .ref aM)]) hx hb dX6_freeAll_1 rfl hl (by decide) rfl (fun ls hl => ?_)
  exact hb2 FU (0 : Int32) fow fmi H locs ls hP hD hS (lv_sub hl [1, 0] rfl) h
def fX6_sumOf_b4 (fN : Nat → Int32) (fkd : Nat → Int32) (fcd : Nat → Int32) (fsk : Nat → Int32) (fmi : Nat → Int32) : Nat → Int32 → Int32 → Option (Int32)
  | 0, _, _ => none
  | n + 1, x1, x2 =>
    bd1 (fX6_cells fN) fun r_6 =>
    if r_6 ≤ x2 then
      some x1
    else
      if x2 < 0 ∨ 12 ≤ x2.toNatClampNeg then none else
      if x2 < 0 ∨ 16 ≤ x2.toNatClampNeg then none else
      if fmi x2.toNatClampNeg < 0 ∨ 16 ≤ (fmi x2.toNatClampNeg).toNatClampNeg then none else
      if fsk ((fmi x2.toNatClampNeg).toNatClampNeg) < 0 ∨ 8 ≤ (fsk ((fmi x2.toNatClampNeg).toNatClampNeg)).toNatClampNeg then none else
      bd1 (fX6_differenceOf fN (fcd x2.toNatClampNeg) (fkd ((fsk ((fmi x2.toNatClampNeg).toNatClampNeg)).toNatClampNeg))) fun r_36 =>
      bdv (x1 + r_36) fun x1_40 =>
      fX6_sumOf_b4 fN fkd fcd fsk fmi n x1_40 (x2 + 1)
def fX6_sumOf (fN : Nat → Int32) (fkd : Nat → Int32) (fcd : Nat → Int32) (fsk : Nat → Int32) (fmi : Nat → Int32) : Option (Int32) :=
  fX6_sumOf_b4 fN fkd fcd fsk fmi FU (0 : Int32) (0 : Int32)
abbrev rX6_sumOf : Room := { frames := 1, cells := 0, slots := 0, locals := 26 }
set_option maxHeartbeats 4000000 in
set_option maxRecDepth 100000 in
theorem tX6_sumOf {l : Launch} {D : va_G} {cI cZ cP : ClassId} (aM mN mkd mcd msk mmi mks mpr mow mst mbi msu mke mik : Nat) (vka : Int32) (viw : Int32) (fN : Nat → Int32) (fkd : Nat → Int32) (fcd : Nat → Int32) (fsk : Nat → Int32) (fmi : Nat → Int32) (r : Int32) (h : fX6_sumOf fN fkd fcd fsk fmi = some r) : CtI l D cI cZ cP yX6_sumOf wsX6_sumOf rX6_sumOf [.ref aM] [(aM, .inr (6, [.ref mN, .ref mkd, .ref mks, .ref mcd, .ref mpr, .ref msk, .ref mow, .ref mmi, .ref mst, .ref mbi, .ref msu, .ref mke, .ref mik, .int vka, .int viw])), (mN, .inl (cI, 9, .inl fN)), (mkd, .inl (cI, 8, .inl fkd)), (mcd, .inl (cI, 12, .inl fcd)), (msk, .inl (cI, 16, .inl fsk)), (mmi, .inl (cI, 16, .inl fmi))] (fun _ : Unit => [(aM, .inr (6, [.ref mN, .ref mkd, .ref mks, .ref mcd, .ref mpr, .ref msk, .ref mow, .ref mmi, .ref mst, .ref mbi, .ref msu, .ref mke, .ref mik, .int vka, .int viw])), (mN, .inl (cI, 9, .inl fN)), (mkd, .inl (cI, 8, .inl fkd)), (mcd, .inl (cI, 12, .inl fcd)), (msk, .inl (cI, 16, .inl fsk)), (mmi, .inl (cI, 16, .inl fmi))]) r := by
  refine CtI.ofW (cc := cX6_sumOf) (maxL := 3) (by decide) rfl (Nat.le_of_ble_eq_true rfl) (lv := [(0, .ref aM)]) rfl ?_
  intro p e s m args below meth c A Q ls hx hb hml hown hts hK hN hP hD hS hA hl hret0
  have hown : s.vm.findClass RX6 = some m.cls := hown
  have i6 : ∀ w ∈ wsX60, w ∈ wsX6_sumOf := mem_ps [15, 16, 17, 18, 19, 20, 21, 22, 23, 24, 25, 26, 27, 28, 29] rfl
  have hret : ∀ (v : Int32) (pc : Nat) (ls : Array Slot) (H : Heap) (locs : List Loc), narrow .int (.int v) = .int v → decode cX6_sumOf pc = .ok (.ireturn, 1) → va_P D vwCl [(aM, .inr (6, [.ref mN, .ref mkd, .ref mks, .ref mcd, .ref mpr, .ref msk, .ref mow, .ref mmi, .ref mst, .ref mbi, .ref msu, .ref mke, .ref mik, .int vka, .int viw])), (mN, .inl (cI, 9, .inl fN)), (mkd, .inl (cI, 8, .inl fkd)), (mcd, .inl (cI, 12, .inl fcd)), (msk, .inl (cI, 16, .inl fsk)), (mmi, .inl (cI, 16, .inl fmi))] H → va_D A [(aM, .inr (6, [.ref mN, .ref mkd, .ref mks, .ref mcd, .ref mpr, .ref msk, .ref mow, .ref mmi, .ref mst, .ref mbi, .ref msu, .ref mke, .ref mik, .int vka, .int viw])), (mN, .inl (cI, 9, .inl fN)), (mkd, .inl (cI, 8, .inl fkd)), (mcd, .inl (cI, 12, .inl fcd)), (msk, .inl (cI, 16, .inl fsk)), (mmi, .inl (cI, 16, .inl fmi))] → va_S A s.heap H locs → some v = some r → W p l e rX6_sumOf s m args below meth c H locs 0 0 Q (F0 m pc ls [.int v]) := by
    intro v pc ls H locs hn hd hP hD hS h
    cases h
    exact hret0 pc ls H locs () hn hd hP hD hS
  clear hret0
  have hb4 : ∀ (n : Nat) (x1 : Int32) (x2 : Int32) (H : Heap) (locs : List Loc) (ls : Array Slot), va_P D vwCl [(aM, .inr (6, [.ref mN, .ref mkd, .ref mks, .ref mcd, .ref mpr, .ref msk, .ref mow, .ref mmi, .ref mst, .ref mbi, .ref msu, .ref mke, .ref mik, .int vka, .int viw])), (mN, .inl (cI, 9, .inl fN)), (mkd, .inl (cI, 8, .inl fkd)), (mcd, .inl (cI, 12, .inl fcd)), (msk, .inl (cI, 16, .inl fsk)), (mmi, .inl (cI, 16, .inl fmi))] H → va_D A [(aM, .inr (6, [.ref mN, .ref mkd, .ref mks, .ref mcd, .ref mpr, .ref msk, .ref mow, .ref mmi, .ref mst, .ref mbi, .ref msu, .ref mke, .ref mik, .int vka, .int viw])), (mN, .inl (cI, 9, .inl fN)), (mkd, .inl (cI, 8, .inl fkd)), (mcd, .inl (cI, 12, .inl fcd)), (msk, .inl (cI, 16, .inl fsk)), (mmi, .inl (cI, 16, .inl fmi))] → va_S A s.heap H locs → lv_has ls 3 [(0, .ref aM), (1, .int x1), (2, .int x2)] → fX6_sumOf_b4 fN fkd fcd fsk fmi n x1 x2 = some r → W p l e rX6_sumOf s m args below meth c H locs 0 0 Q (F0 m 4 ls []) := by
    intro n
    induction n with
    | zero => intro x1 x2 H locs ls hP hD hS hl h; exact absurd h (by rw [fX6_sumOf_b4]; exact fun z => by cases z)
    | succ n ih =>
      intro x1 x2 H locs ls hP hD hS hl h
      rw [fX6_sumOf_b4] at h
      refine lv_iload_n hx hb dX6_sumOf_4 rfl (lv_at hl 2 rfl) ?_
      refine lv_aload_n hx hb dX6_sumOf_5 rfl (lv_at hl 0 rfl) ?_
      obtain ⟨r_6, q_6, h⟩ := bd1_some h
      refine fr_ro_i (S := Unit) (wc := [(aM, .inr (6, [.ref mN, .ref mkd, .ref mks, .ref mcd, .ref mpr, .ref msk, .ref mow, .ref mmi, .ref mst, .ref mbi, .ref msu, .ref mke, .ref mik, .int vka, .int viw])), (mN, .inl (cI, 9, .inl fN))]) (fr_V (As := []) (rest := [.int x2]) (C := RX6) ⟨hx, hb, hml, hown, hts⟩ (tX6_cells aM mN mkd mks mcd mpr msk mow mmi mst mbi msu mke mik vka viw fN r_6 q_6) gX6_sumOf_X6_cells rfl (fr_preV (As := []) (b := aM) (ci := 6) (q0 := 0) (wc := [(aM, .inr (6, [.ref mN, .ref mkd, .ref mks, .ref mcd, .ref mpr, .ref msk, .ref mow, .ref mmi, .ref mst, .ref mbi, .ref msu, .ref mke, .ref mik, .int vka, .int viw])), (mN, .inl (cI, 9, .inl fN))]) hK hN hP hD [0, 1] (by decide) rfl rfl rfl) (n := 0) (by decide +kernel) ⟨Nat.le_of_ble_eq_true rfl, Nat.le_of_ble_eq_true rfl⟩ rfl hl.1 rfl (Nat.le_of_ble_eq_true rfl) dX6_sumOf_6 ⟨Nat.zero_le _, Nat.zero_le _⟩) hP hD hS hA [0, 1] rfl (c2 := 0) (s2 := 0) rfl rfl (fun H locs hP hS => ?_)
      refine lv_icmp_ge (tgt := 47) hx hb dX6_sumOf_9 (by decide) (fun c1 => ?_) (fun c1 => ?_)
      · have h := (if_pos c1).symm.trans h
        refine lv_iload_n hx hb dX6_sumOf_47 rfl (lv_at hl 1 rfl) ?_
        exact hret x1 48 ls H locs rfl dX6_sumOf_48 hP hD hS h
      · have h := (if_neg c1).symm.trans h
        refine lv_iload_n hx hb dX6_sumOf_12 rfl (lv_at hl 1 rfl) ?_
        refine lv_aload_n hx hb dX6_sumOf_13 rfl (lv_at hl 0 rfl) ?_
        refine lv_aload_n hx hb dX6_sumOf_14 rfl (lv_at hl 0 rfl) ?_
        refine va_get (D := D) (ci := 6) (v := .ref mcd) (C := RX6) (T := TX6) (N := 15) hx hb hts i6 hown hK hP 0 rfl rfl 3 (by decide) (hts (.fieldLink RX6 19 RX6 "cellDots" "[I") (List.mem_of_getElem? (i := 1) rfl)) (fun _ h9 => h9) rfl dX6_sumOf_15 ?_
        refine lv_iload_n hx hb dX6_sumOf_18 rfl (lv_at hl 2 rfl) ?_
        obtain ⟨g2, h⟩ := no_some h
        refine va_iald hx hb hK hP 3 0 rfl rfl g2 dX6_sumOf_19 ?_
        refine lv_aload_n hx hb dX6_sumOf_20 rfl (lv_at hl 0 rfl) ?_
        refine va_get (D := D) (ci := 6) (v := .ref mkd) (C := RX6) (T := TX6) (N := 15) hx hb hts i6 hown hK hP 0 rfl rfl 1 (by decide) (hts (.fieldLink RX6 13 RX6 "kindDots" "[I") (List.mem_of_getElem? (i := 2) rfl)) (fun _ h9 => h9) rfl dX6_sumOf_21 ?_
        refine lv_aload_n hx hb dX6_sumOf_24 rfl (lv_at hl 0 rfl) ?_
        refine va_get (D := D) (ci := 6) (v := .ref msk) (C := RX6) (T := TX6) (N := 15) hx hb hts i6 hown hK hP 0 rfl rfl 5 (by decide) (hts (.fieldLink RX6 25 RX6 "slotKind" "[I") (List.mem_of_getElem? (i := 3) rfl)) (fun _ h9 => h9) rfl dX6_sumOf_25 ?_
        refine lv_aload_n hx hb dX6_sumOf_28 rfl (lv_at hl 0 rfl) ?_
        refine va_get (D := D) (ci := 6) (v := .ref mmi) (C := RX6) (T := TX6) (N := 15) hx hb hts i6 hown hK hP 0 rfl rfl 7 (by decide) (hts (.fieldLink RX6 31 RX6 "mine" "[I") (List.mem_of_getElem? (i := 4) rfl)) (fun _ h9 => h9) rfl dX6_sumOf_29 ?_
        refine lv_iload_n hx hb dX6_sumOf_32 rfl (lv_at hl 2 rfl) ?_
        obtain ⟨g3, h⟩ := no_some h
        refine va_iald hx hb hK hP 5 0 rfl rfl g3 dX6_sumOf_33 ?_
        obtain ⟨g4, h⟩ := no_some h
        refine va_iald hx hb hK hP 4 0 rfl rfl g4 dX6_sumOf_34 ?_
        obtain ⟨g5, h⟩ := no_some h
        refine va_iald hx hb hK hP 2 0 rfl rfl g5 dX6_sumOf_35 ?_
        obtain ⟨r_36, q_36, h⟩ := bd1_some h
        refine fr_ro_i (S := Unit) (wc := [(aM, .inr (6, [.ref mN, .ref mkd, .ref mks, .ref mcd, .ref mpr, .ref msk, .ref mow, .ref mmi, .ref mst, .ref mbi, .ref msu, .ref mke, .ref mik, .int vka, .int viw])), (mN, .inl (cI, 9, .inl fN))]) (fr_V (As := [.int (fcd x2.toNatClampNeg), .int (fkd ((fsk ((fmi x2.toNatClampNeg).toNatClampNeg)).toNatClampNeg))]) (rest := [.int x1]) (C := RX6) ⟨hx, hb, hml, hown, hts⟩ (tX6_differenceOf aM mN mkd mks mcd mpr msk mow mmi mst mbi msu mke mik vka viw fN (fcd x2.toNatClampNeg) (fkd ((fsk ((fmi x2.toNatClampNeg).toNatClampNeg)).toNatClampNeg)) r_36 q_36) gX6_sumOf_X6_differenceOf rfl (fr_preV (As := [.int (fcd x2.toNatClampNeg), .int (fkd ((fsk ((fmi x2.toNatClampNeg).toNatClampNeg)).toNatClampNeg))]) (b := aM) (ci := 6) (q0 := 0) (wc := [(aM, .inr (6, [.ref mN, .ref mkd, .ref mks, .ref mcd, .ref mpr, .ref msk, .ref mow, .ref mmi, .ref mst, .ref mbi, .ref msu, .ref mke, .ref mik, .int vka, .int viw])), (mN, .inl (cI, 9, .inl fN))]) hK hN hP hD [0, 1] (by decide) rfl rfl rfl) (n := 2) (by decide +kernel) ⟨Nat.le_of_ble_eq_true rfl, Nat.le_of_ble_eq_true rfl⟩ rfl hl.1 rfl (Nat.le_of_ble_eq_true rfl) dX6_sumOf_36 ⟨Nat.zero_le _, Nat.zero_le _⟩) hP hD hS hA [0, 1] rfl (c2 := 0) (s2 := 0) rfl rfl (fun H locs hP hS => ?_)
        refine lv_iadd hx hb dX6_sumOf_39 ?_
        refine lv_topi (fun x1_40 ex1_40 => ?_)
        have h := bdv_some ex1_40 h
        refine lv_istore_n (lv' := [(1, .int x1_40), (0, .ref aM), (2, .int x2)]) hx hb dX6_sumOf_40 rfl hl (by decide) rfl (fun ls hl => ?_)
        refine lv_iinc (v := x2 + 1) (lv' := [(2, .int (x2 + 1)), (1, .int x1_40), (0, .ref aM)]) hx hb dX6_sumOf_41 hl (k := 2) rfl rfl (by decide) rfl (fun ls hl => ?_)
        refine lv_goto (tgt := 4) hx hb dX6_sumOf_44 (by decide) ?_
        exact ih x1_40 (x2 + 1) H locs ls hP hD hS (lv_sub hl [2, 1, 0] rfl) h
  unfold fX6_sumOf at h
  obtain ⟨H, hH⟩ : ∃ H, H = s.heap := ⟨_, rfl⟩
  have hP : va_P D vwCl [(aM, .inr (6, [.ref mN, .ref mkd, .ref mks, .ref mcd, .ref mpr, .ref msk, .ref mow, .ref mmi, .ref mst, .ref mbi, .ref msu, .ref mke, .ref mik, .int vka, .int viw])), (mN, .inl (cI, 9, .inl fN)), (mkd, .inl (cI, 8, .inl fkd)), (mcd, .inl (cI, 12, .inl fcd)), (msk, .inl (cI, 16, .inl fsk)), (mmi, .inl (cI, 16, .inl fmi))] H := by rw [hH]; exact hP
  obtain ⟨locs, hlocs⟩ : ∃ x : List Loc, x = [] := ⟨_, rfl⟩
  have hS : va_S A s.heap H locs := by rw [hH, hlocs]; exact hS
  suffices hgo : W p l e rX6_sumOf s m args below meth c H locs 0 0 Q (F0 m 0 ls []) by rw [hH, hlocs] at hgo; exact hgo
  refine lv_iconst (v := (0 : Int32)) hx hb dX6_sumOf_0 (by decide) ?_
  refine lv_istore_n (lv' := [(1, .int (0 : Int32)), (0, .ref aM)]) hx hb dX6_sumOf_1 rfl hl (by decide) rfl (fun ls hl => ?_)
  refine lv_iconst (v := (0 : Int32)) hx hb dX6_sumOf_2 (by decide) ?_
  refine lv_istore_n (lv' := [(2, .int (0 : Int32)), (1, .int (0 : Int32)), (0, .ref aM)]) hx hb dX6_sumOf_3 rfl hl (by decide) rfl (fun ls hl => ?_)
  exact hb4 FU (0 : Int32) (0 : Int32) H locs ls hP hD hS (lv_sub hl [2, 1, 0] rfl) h
def fX6_greatest_b14 (fN : Nat → Int32) (fkd : Nat → Int32) (fcd : Nat → Int32) (k4 : Int32 → Int32 → Option (Int32)) : Nat → Int32 → Int32 → Int32 → Option (Int32)
  | 0, _, _, _ => none
  | n + 1, x1, x2, x3 =>
    bd1 (fX6_kinds fN) fun r_16 =>
    if r_16 ≤ x3 then
      k4 x1 (x2 + 1)
    else
      if x2 < 0 ∨ 12 ≤ x2.toNatClampNeg then none else
      if x3 < 0 ∨ 8 ≤ x3.toNatClampNeg then none else
      bd1 (fX6_differenceOf fN (fcd x2.toNatClampNeg) (fkd x3.toNatClampNeg)) fun r_35 =>
      if r_35 ≤ x1 then
        fX6_greatest_b14 fN fkd fcd k4 n x1 x2 (x3 + 1)
      else
        fX6_greatest_b14 fN fkd fcd k4 n r_35 x2 (x3 + 1)
def fX6_greatest_b4 (fN : Nat → Int32) (fkd : Nat → Int32) (fcd : Nat → Int32) : Nat → Int32 → Int32 → Option (Int32)
  | 0, _, _ => none
  | n + 1, x1, x2 =>
    bd1 (fX6_cells fN) fun r_6 =>
    if r_6 ≤ x2 then
      some x1
    else
      fX6_greatest_b14 fN fkd fcd (fun x1 x2 => fX6_greatest_b4 fN fkd fcd n x1 x2) FU x1 x2 (0 : Int32)
def fX6_greatest (fN : Nat → Int32) (fkd : Nat → Int32) (fcd : Nat → Int32) : Option (Int32) :=
  fX6_greatest_b4 fN fkd fcd FU (0 : Int32) (0 : Int32)
abbrev rX6_greatest : Room := { frames := 1, cells := 0, slots := 0, locals := 26 }
set_option maxHeartbeats 4000000 in
set_option maxRecDepth 100000 in
theorem tX6_greatest {l : Launch} {D : va_G} {cI cZ cP : ClassId} (aM mN mkd mcd mks mpr msk mow mmi mst mbi msu mke mik : Nat) (vka : Int32) (viw : Int32) (fN : Nat → Int32) (fkd : Nat → Int32) (fcd : Nat → Int32) (r : Int32) (h : fX6_greatest fN fkd fcd = some r) : CtI l D cI cZ cP yX6_greatest wsX6_greatest rX6_greatest [.ref aM] [(aM, .inr (6, [.ref mN, .ref mkd, .ref mks, .ref mcd, .ref mpr, .ref msk, .ref mow, .ref mmi, .ref mst, .ref mbi, .ref msu, .ref mke, .ref mik, .int vka, .int viw])), (mN, .inl (cI, 9, .inl fN)), (mkd, .inl (cI, 8, .inl fkd)), (mcd, .inl (cI, 12, .inl fcd))] (fun _ : Unit => [(aM, .inr (6, [.ref mN, .ref mkd, .ref mks, .ref mcd, .ref mpr, .ref msk, .ref mow, .ref mmi, .ref mst, .ref mbi, .ref msu, .ref mke, .ref mik, .int vka, .int viw])), (mN, .inl (cI, 9, .inl fN)), (mkd, .inl (cI, 8, .inl fkd)), (mcd, .inl (cI, 12, .inl fcd))]) r := by
  refine CtI.ofW (cc := cX6_greatest) (maxL := 5) (by decide) rfl (Nat.le_of_ble_eq_true rfl) (lv := [(0, .ref aM)]) rfl ?_
  intro p e s m args below meth c A Q ls hx hb hml hown hts hK hN hP hD hS hA hl hret0
  have hown : s.vm.findClass RX6 = some m.cls := hown
  have i6 : ∀ w ∈ wsX60, w ∈ wsX6_greatest := mem_ps [17, 18, 19, 20, 21, 22, 23, 24, 25, 26, 27, 28, 29, 30, 31] rfl
  have hret : ∀ (v : Int32) (pc : Nat) (ls : Array Slot) (H : Heap) (locs : List Loc), narrow .int (.int v) = .int v → decode cX6_greatest pc = .ok (.ireturn, 1) → va_P D vwCl [(aM, .inr (6, [.ref mN, .ref mkd, .ref mks, .ref mcd, .ref mpr, .ref msk, .ref mow, .ref mmi, .ref mst, .ref mbi, .ref msu, .ref mke, .ref mik, .int vka, .int viw])), (mN, .inl (cI, 9, .inl fN)), (mkd, .inl (cI, 8, .inl fkd)), (mcd, .inl (cI, 12, .inl fcd))] H → va_D A [(aM, .inr (6, [.ref mN, .ref mkd, .ref mks, .ref mcd, .ref mpr, .ref msk, .ref mow, .ref mmi, .ref mst, .ref mbi, .ref msu, .ref mke, .ref mik, .int vka, .int viw])), (mN, .inl (cI, 9, .inl fN)), (mkd, .inl (cI, 8, .inl fkd)), (mcd, .inl (cI, 12, .inl fcd))] → va_S A s.heap H locs → some v = some r → W p l e rX6_greatest s m args below meth c H locs 0 0 Q (F0 m pc ls [.int v]) := by
    intro v pc ls H locs hn hd hP hD hS h
    cases h
    exact hret0 pc ls H locs () hn hd hP hD hS
  clear hret0
  have hb14 : ∀ (k4 : Int32 → Int32 → Option (Int32)) (hk4 : ∀ (x1 : Int32) (x2 : Int32) (H : Heap) (locs : List Loc) (ls : Array Slot), va_P D vwCl [(aM, .inr (6, [.ref mN, .ref mkd, .ref mks, .ref mcd, .ref mpr, .ref msk, .ref mow, .ref mmi, .ref mst, .ref mbi, .ref msu, .ref mke, .ref mik, .int vka, .int viw])), (mN, .inl (cI, 9, .inl fN)), (mkd, .inl (cI, 8, .inl fkd)), (mcd, .inl (cI, 12, .inl fcd))] H → va_D A [(aM, .inr (6, [.ref mN, .ref mkd, .ref mks, .ref mcd, .ref mpr, .ref msk, .ref mow, .ref mmi, .ref mst, .ref mbi, .ref msu, .ref mke, .ref mik, .int vka, .int viw])), (mN, .inl (cI, 9, .inl fN)), (mkd, .inl (cI, 8, .inl fkd)), (mcd, .inl (cI, 12, .inl fcd))] → va_S A s.heap H locs → lv_has ls 5 [(0, .ref aM), (1, .int x1), (2, .int x2)] → k4 x1 x2 = some r → W p l e rX6_greatest s m args below meth c H locs 0 0 Q (F0 m 4 ls [])) (n : Nat) (x1 : Int32) (x2 : Int32) (x3 : Int32) (H : Heap) (locs : List Loc) (ls : Array Slot), va_P D vwCl [(aM, .inr (6, [.ref mN, .ref mkd, .ref mks, .ref mcd, .ref mpr, .ref msk, .ref mow, .ref mmi, .ref mst, .ref mbi, .ref msu, .ref mke, .ref mik, .int vka, .int viw])), (mN, .inl (cI, 9, .inl fN)), (mkd, .inl (cI, 8, .inl fkd)), (mcd, .inl (cI, 12, .inl fcd))] H → va_D A [(aM, .inr (6, [.ref mN, .ref mkd, .ref mks, .ref mcd, .ref mpr, .ref msk, .ref mow, .ref mmi, .ref mst, .ref mbi, .ref msu, .ref mke, .ref mik, .int vka, .int viw])), (mN, .inl (cI, 9, .inl fN)), (mkd, .inl (cI, 8, .inl fkd)), (mcd, .inl (cI, 12, .inl fcd))] → va_S A s.heap H locs → lv_has ls 5 [(0, .ref aM), (1, .int x1), (2, .int x2), (3, .int x3)] → fX6_greatest_b14 fN fkd fcd k4 n x1 x2 x3 = some r → W p l e rX6_greatest s m args below meth c H locs 0 0 Q (F0 m 14 ls []) := by
    intro k4 hk4 n
    induction n with
    | zero => intro x1 x2 x3 H locs ls hP hD hS hl h; exact absurd h (by rw [fX6_greatest_b14]; exact fun z => by cases z)
    | succ n ih =>
      intro x1 x2 x3 H locs ls hP hD hS hl h
      rw [fX6_greatest_b14] at h
      refine lv_iload_n hx hb dX6_greatest_14 rfl (lv_at hl 3 rfl) ?_
      refine lv_aload_n hx hb dX6_greatest_15 rfl (lv_at hl 0 rfl) ?_
      obtain ⟨r_16, q_16, h⟩ := bd1_some h
      refine fr_ro_i (S := Unit) (wc := [(aM, .inr (6, [.ref mN, .ref mkd, .ref mks, .ref mcd, .ref mpr, .ref msk, .ref mow, .ref mmi, .ref mst, .ref mbi, .ref msu, .ref mke, .ref mik, .int vka, .int viw])), (mN, .inl (cI, 9, .inl fN))]) (fr_V (As := []) (rest := [.int x3]) (C := RX6) ⟨hx, hb, hml, hown, hts⟩ (tX6_kinds aM mN mkd mks mcd mpr msk mow mmi mst mbi msu mke mik vka viw fN r_16 q_16) gX6_greatest_X6_kinds rfl (fr_preV (As := []) (b := aM) (ci := 6) (q0 := 0) (wc := [(aM, .inr (6, [.ref mN, .ref mkd, .ref mks, .ref mcd, .ref mpr, .ref msk, .ref mow, .ref mmi, .ref mst, .ref mbi, .ref msu, .ref mke, .ref mik, .int vka, .int viw])), (mN, .inl (cI, 9, .inl fN))]) hK hN hP hD [0, 1] (by decide) rfl rfl rfl) (n := 0) (by decide +kernel) ⟨Nat.le_of_ble_eq_true rfl, Nat.le_of_ble_eq_true rfl⟩ rfl hl.1 rfl (Nat.le_of_ble_eq_true rfl) dX6_greatest_16 ⟨Nat.zero_le _, Nat.zero_le _⟩) hP hD hS hA [0, 1] rfl (c2 := 0) (s2 := 0) rfl rfl (fun H locs hP hS => ?_)
      refine lv_icmp_ge (tgt := 59) hx hb dX6_greatest_19 (by decide) (fun c1 => ?_) (fun c1 => ?_)
      · have h := (if_pos c1).symm.trans h
        refine lv_iinc (v := x2 + 1) (lv' := [(2, .int (x2 + 1)), (0, .ref aM), (1, .int x1), (3, .int x3)]) hx hb dX6_greatest_59 hl (k := 2) rfl rfl (by decide) rfl (fun ls hl => ?_)
        refine lv_goto (tgt := 4) hx hb dX6_greatest_62 (by decide) ?_
        exact hk4 x1 (x2 + 1) H locs ls hP hD hS (lv_sub hl [1, 2, 0] rfl) h
      · have h := (if_neg c1).symm.trans h
        refine lv_aload_n hx hb dX6_greatest_22 rfl (lv_at hl 0 rfl) ?_
        refine lv_aload_n hx hb dX6_greatest_23 rfl (lv_at hl 0 rfl) ?_
        refine va_get (D := D) (ci := 6) (v := .ref mcd) (C := RX6) (T := TX6) (N := 15) hx hb hts i6 hown hK hP 0 rfl rfl 3 (by decide) (hts (.fieldLink RX6 19 RX6 "cellDots" "[I") (List.mem_of_getElem? (i := 1) rfl)) (fun _ h9 => h9) rfl dX6_greatest_24 ?_
        refine lv_iload_n hx hb dX6_greatest_27 rfl (lv_at hl 2 rfl) ?_
        obtain ⟨g2, h⟩ := no_some h
        refine va_iald hx hb hK hP 3 0 rfl rfl g2 dX6_greatest_28 ?_
        refine lv_aload_n hx hb dX6_greatest_29 rfl (lv_at hl 0 rfl) ?_
        refine va_get (D := D) (ci := 6) (v := .ref mkd) (C := RX6) (T := TX6) (N := 15) hx hb hts i6 hown hK hP 0 rfl rfl 1 (by decide) (hts (.fieldLink RX6 13 RX6 "kindDots" "[I") (List.mem_of_getElem? (i := 2) rfl)) (fun _ h9 => h9) rfl dX6_greatest_30 ?_
        refine lv_iload_n hx hb dX6_greatest_33 rfl (lv_at hl 3 rfl) ?_
        obtain ⟨g3, h⟩ := no_some h
        refine va_iald hx hb hK hP 2 0 rfl rfl g3 dX6_greatest_34 ?_
        obtain ⟨r_35, q_35, h⟩ := bd1_some h
        refine fr_ro_i (S := Unit) (wc := [(aM, .inr (6, [.ref mN, .ref mkd, .ref mks, .ref mcd, .ref mpr, .ref msk, .ref mow, .ref mmi, .ref mst, .ref mbi, .ref msu, .ref mke, .ref mik, .int vka, .int viw])), (mN, .inl (cI, 9, .inl fN))]) (fr_V (As := [.int (fcd x2.toNatClampNeg), .int (fkd x3.toNatClampNeg)]) (rest := []) (C := RX6) ⟨hx, hb, hml, hown, hts⟩ (tX6_differenceOf aM mN mkd mks mcd mpr msk mow mmi mst mbi msu mke mik vka viw fN (fcd x2.toNatClampNeg) (fkd x3.toNatClampNeg) r_35 q_35) gX6_greatest_X6_differenceOf rfl (fr_preV (As := [.int (fcd x2.toNatClampNeg), .int (fkd x3.toNatClampNeg)]) (b := aM) (ci := 6) (q0 := 0) (wc := [(aM, .inr (6, [.ref mN, .ref mkd, .ref mks, .ref mcd, .ref mpr, .ref msk, .ref mow, .ref mmi, .ref mst, .ref mbi, .ref msu, .ref mke, .ref mik, .int vka, .int viw])), (mN, .inl (cI, 9, .inl fN))]) hK hN hP hD [0, 1] (by decide) rfl rfl rfl) (n := 2) (by decide +kernel) ⟨Nat.le_of_ble_eq_true rfl, Nat.le_of_ble_eq_true rfl⟩ rfl hl.1 rfl (Nat.le_of_ble_eq_true rfl) dX6_greatest_35 ⟨Nat.zero_le _, Nat.zero_le _⟩) hP hD hS hA [0, 1] rfl (c2 := 0) (s2 := 0) rfl rfl (fun H locs hP hS => ?_)
        refine lv_istore (lv' := [(4, .int r_35), (0, .ref aM), (1, .int x1), (2, .int x2), (3, .int x3)]) hx hb dX6_greatest_38 hl (by decide) rfl (fun ls hl => ?_)
        refine lv_iload hx hb dX6_greatest_40 (lv_at hl 0 rfl) ?_
        refine lv_iload_n hx hb dX6_greatest_42 rfl (lv_at hl 2 rfl) ?_
        refine lv_icmp_le (tgt := 51) hx hb dX6_greatest_43 (by decide) (fun c4 => ?_) (fun c4 => ?_)
        · have h := (if_pos c4).symm.trans h
          refine lv_iload_n hx hb dX6_greatest_51 rfl (lv_at hl 2 rfl) ?_
          refine lv_istore_n (lv' := [(1, .int x1), (4, .int r_35), (0, .ref aM), (2, .int x2), (3, .int x3)]) hx hb dX6_greatest_52 rfl hl (by decide) rfl (fun ls hl => ?_)
          refine lv_iinc (v := x3 + 1) (lv' := [(3, .int (x3 + 1)), (1, .int x1), (4, .int r_35), (0, .ref aM), (2, .int x2)]) hx hb dX6_greatest_53 hl (k := 4) rfl rfl (by decide) rfl (fun ls hl => ?_)
          refine lv_goto (tgt := 14) hx hb dX6_greatest_56 (by decide) ?_
          exact ih x1 x2 (x3 + 1) H locs ls hP hD hS (lv_sub hl [3, 1, 4, 0] rfl) h
        · have h := (if_neg c4).symm.trans h
          refine lv_iload hx hb dX6_greatest_46 (lv_at hl 0 rfl) ?_
          refine lv_goto (tgt := 52) hx hb dX6_greatest_48 (by decide) ?_
          refine lv_istore_n (lv' := [(1, .int r_35), (4, .int r_35), (0, .ref aM), (2, .int x2), (3, .int x3)]) hx hb dX6_greatest_52 rfl hl (by decide) rfl (fun ls hl => ?_)
          refine lv_iinc (v := x3 + 1) (lv' := [(3, .int (x3 + 1)), (1, .int r_35), (4, .int r_35), (0, .ref aM), (2, .int x2)]) hx hb dX6_greatest_53 hl (k := 4) rfl rfl (by decide) rfl (fun ls hl => ?_)
          refine lv_goto (tgt := 14) hx hb dX6_greatest_56 (by decide) ?_
          exact ih r_35 x2 (x3 + 1) H locs ls hP hD hS (lv_sub hl [3, 1, 4, 0] rfl) h
  have hb4 : ∀ (n : Nat) (x1 : Int32) (x2 : Int32) (H : Heap) (locs : List Loc) (ls : Array Slot), va_P D vwCl [(aM, .inr (6, [.ref mN, .ref mkd, .ref mks, .ref mcd, .ref mpr, .ref msk, .ref mow, .ref mmi, .ref mst, .ref mbi, .ref msu, .ref mke, .ref mik, .int vka, .int viw])), (mN, .inl (cI, 9, .inl fN)), (mkd, .inl (cI, 8, .inl fkd)), (mcd, .inl (cI, 12, .inl fcd))] H → va_D A [(aM, .inr (6, [.ref mN, .ref mkd, .ref mks, .ref mcd, .ref mpr, .ref msk, .ref mow, .ref mmi, .ref mst, .ref mbi, .ref msu, .ref mke, .ref mik, .int vka, .int viw])), (mN, .inl (cI, 9, .inl fN)), (mkd, .inl (cI, 8, .inl fkd)), (mcd, .inl (cI, 12, .inl fcd))] → va_S A s.heap H locs → lv_has ls 5 [(0, .ref aM), (1, .int x1), (2, .int x2)] → fX6_greatest_b4 fN fkd fcd n x1 x2 = some r → W p l e rX6_greatest s m args below meth c H locs 0 0 Q (F0 m 4 ls []) := by
    intro n
    induction n with
    | zero => intro x1 x2 H locs ls hP hD hS hl h; exact absurd h (by rw [fX6_greatest_b4]; exact fun z => by cases z)
    | succ n ih =>
      intro x1 x2 H locs ls hP hD hS hl h
      rw [fX6_greatest_b4] at h
      refine lv_iload_n hx hb dX6_greatest_4 rfl (lv_at hl 2 rfl) ?_
      refine lv_aload_n hx hb dX6_greatest_5 rfl (lv_at hl 0 rfl) ?_
      obtain ⟨r_6, q_6, h⟩ := bd1_some h
      refine fr_ro_i (S := Unit) (wc := [(aM, .inr (6, [.ref mN, .ref mkd, .ref mks, .ref mcd, .ref mpr, .ref msk, .ref mow, .ref mmi, .ref mst, .ref mbi, .ref msu, .ref mke, .ref mik, .int vka, .int viw])), (mN, .inl (cI, 9, .inl fN))]) (fr_V (As := []) (rest := [.int x2]) (C := RX6) ⟨hx, hb, hml, hown, hts⟩ (tX6_cells aM mN mkd mks mcd mpr msk mow mmi mst mbi msu mke mik vka viw fN r_6 q_6) gX6_greatest_X6_cells rfl (fr_preV (As := []) (b := aM) (ci := 6) (q0 := 0) (wc := [(aM, .inr (6, [.ref mN, .ref mkd, .ref mks, .ref mcd, .ref mpr, .ref msk, .ref mow, .ref mmi, .ref mst, .ref mbi, .ref msu, .ref mke, .ref mik, .int vka, .int viw])), (mN, .inl (cI, 9, .inl fN))]) hK hN hP hD [0, 1] (by decide) rfl rfl rfl) (n := 0) (by decide +kernel) ⟨Nat.le_of_ble_eq_true rfl, Nat.le_of_ble_eq_true rfl⟩ rfl hl.1 rfl (Nat.le_of_ble_eq_true rfl) dX6_greatest_6 ⟨Nat.zero_le _, Nat.zero_le _⟩) hP hD hS hA [0, 1] rfl (c2 := 0) (s2 := 0) rfl rfl (fun H locs hP hS => ?_)
      refine lv_icmp_ge (tgt := 65) hx hb dX6_greatest_9 (by decide) (fun c5 => ?_) (fun c5 => ?_)
      · have h := (if_pos c5).symm.trans h
        refine lv_iload_n hx hb dX6_greatest_65 rfl (lv_at hl 1 rfl) ?_
        exact hret x1 66 ls H locs rfl dX6_greatest_66 hP hD hS h
      · have h := (if_neg c5).symm.trans h
        refine lv_iconst (v := (0 : Int32)) hx hb dX6_greatest_12 (by decide) ?_
        refine lv_istore_n (lv' := [(3, .int (0 : Int32)), (0, .ref aM), (1, .int x1), (2, .int x2)]) hx hb dX6_greatest_13 rfl hl (by decide) rfl (fun ls hl => ?_)
        exact hb14 (fun x1 x2 => fX6_greatest_b4 fN fkd fcd n x1 x2) ih FU x1 x2 (0 : Int32) H locs ls hP hD hS (lv_sub hl [1, 2, 3, 0] rfl) h
  unfold fX6_greatest at h
  obtain ⟨H, hH⟩ : ∃ H, H = s.heap := ⟨_, rfl⟩
  have hP : va_P D vwCl [(aM, .inr (6, [.ref mN, .ref mkd, .ref mks, .ref mcd, .ref mpr, .ref msk, .ref mow, .ref mmi, .ref mst, .ref mbi, .ref msu, .ref mke, .ref mik, .int vka, .int viw])), (mN, .inl (cI, 9, .inl fN)), (mkd, .inl (cI, 8, .inl fkd)), (mcd, .inl (cI, 12, .inl fcd))] H := by rw [hH]; exact hP
  obtain ⟨locs, hlocs⟩ : ∃ x : List Loc, x = [] := ⟨_, rfl⟩
  have hS : va_S A s.heap H locs := by rw [hH, hlocs]; exact hS
  suffices hgo : W p l e rX6_greatest s m args below meth c H locs 0 0 Q (F0 m 0 ls []) by rw [hH, hlocs] at hgo; exact hgo
  refine lv_iconst (v := (0 : Int32)) hx hb dX6_greatest_0 (by decide) ?_
  refine lv_istore_n (lv' := [(1, .int (0 : Int32)), (0, .ref aM)]) hx hb dX6_greatest_1 rfl hl (by decide) rfl (fun ls hl => ?_)
  refine lv_iconst (v := (0 : Int32)) hx hb dX6_greatest_2 (by decide) ?_
  refine lv_istore_n (lv' := [(2, .int (0 : Int32)), (1, .int (0 : Int32)), (0, .ref aM)]) hx hb dX6_greatest_3 rfl hl (by decide) rfl (fun ls hl => ?_)
  exact hb4 FU (0 : Int32) (0 : Int32) H locs ls hP hD hS (lv_sub hl [2, 1, 0] rfl) h
def fX6_oneAtLeast (x0 : Int32) : Option (Int32) :=
  if (1 : Int32) ≤ x0 then
    some x0
  else
    some (1 : Int32)
abbrev rX6_oneAtLeast : Room := { frames := 0, cells := 0, slots := 0, locals := 0 }
set_option maxHeartbeats 4000000 in
set_option maxRecDepth 100000 in
theorem tX6_oneAtLeast {l : Launch} {D : va_G} {cI cZ cP : ClassId} (x0 : Int32) (r : Int32) (h : fX6_oneAtLeast x0 = some r) : CtI l D cI cZ cP yX6_oneAtLeast wsX6_oneAtLeast rX6_oneAtLeast [.int x0] [] (fun _ : Unit => []) r := by
  refine CtI.ofW (cc := cX6_oneAtLeast) (maxL := 1) (by decide) rfl (Nat.le_of_ble_eq_true rfl) (lv := [(0, .int x0)]) rfl ?_
  intro p e s m args below meth c A Q ls hx hb hml hown hts hK hN hP hD hS hA hl hret0
  have hown : s.vm.findClass RX6 = some m.cls := hown
  have hret : ∀ (v : Int32) (pc : Nat) (ls : Array Slot) (H : Heap) (locs : List Loc), narrow .int (.int v) = .int v → decode cX6_oneAtLeast pc = .ok (.ireturn, 1) → va_P D vwCl [] H → va_D A [] → va_S A s.heap H locs → some v = some r → W p l e rX6_oneAtLeast s m args below meth c H locs 0 0 Q (F0 m pc ls [.int v]) := by
    intro v pc ls H locs hn hd hP hD hS h
    cases h
    exact hret0 pc ls H locs () hn hd hP hD hS
  clear hret0
  unfold fX6_oneAtLeast at h
  obtain ⟨H, hH⟩ : ∃ H, H = s.heap := ⟨_, rfl⟩
  have hP : va_P D vwCl [] H := by rw [hH]; exact hP
  obtain ⟨locs, hlocs⟩ : ∃ x : List Loc, x = [] := ⟨_, rfl⟩
  have hS : va_S A s.heap H locs := by rw [hH, hlocs]; exact hS
  suffices hgo : W p l e rX6_oneAtLeast s m args below meth c H locs 0 0 Q (F0 m 0 ls []) by rw [hH, hlocs] at hgo; exact hgo
  refine lv_iload_n hx hb dX6_oneAtLeast_0 rfl (lv_at hl 0 rfl) ?_
  refine lv_iconst (v := (1 : Int32)) hx hb dX6_oneAtLeast_1 (by decide) ?_
  refine lv_icmp_ge (tgt := 9) hx hb dX6_oneAtLeast_2 (by decide) (fun c1 => ?_) (fun c1 => ?_)
  · have h := (if_pos c1).symm.trans h
    refine lv_iload_n hx hb dX6_oneAtLeast_9 rfl (lv_at hl 0 rfl) ?_
    exact hret x0 10 ls H locs rfl dX6_oneAtLeast_10 hP hD hS h
  · have h := (if_neg c1).symm.trans h
    refine lv_iconst (v := (1 : Int32)) hx hb dX6_oneAtLeast_5 (by decide) ?_
    refine lv_goto (tgt := 10) hx hb dX6_oneAtLeast_6 (by decide) ?_
    exact hret (1 : Int32) 10 ls H locs rfl dX6_oneAtLeast_10 hP hD hS h
def fX6_laySlots_b14 (fks : Nat → Int32) (k4 : Int32 → Int32 → (Nat → Int32) → (Nat → Int32) → (Nat → Int32) → Option ((Nat → Int32) × (Nat → Int32) × (Nat → Int32))) : Nat → Int32 → Int32 → Int32 → (Nat → Int32) → (Nat → Int32) → (Nat → Int32) → Option ((Nat → Int32) × (Nat → Int32) × (Nat → Int32))
  | 0, _, _, _, _, _, _ => none
  | n + 1, x1, x2, x3, fN, fpr, fsk =>
    if x2 < 0 ∨ 8 ≤ x2.toNatClampNeg then none else
    if (fks x2.toNatClampNeg) ≤ x3 then
      k4 x1 (x2 + 1) fN fpr fsk
    else
      if x1 < 0 ∨ 16 ≤ x1.toNatClampNeg then none else
      fX6_laySlots_b14 fks k4 n (x1 + 1) x2 (x3 + 1) fN fpr (upd fsk x1.toNatClampNeg x2)
def fX6_laySlots_b55 (fks : Nat → Int32) : Nat → Int32 → (Nat → Int32) → (Nat → Int32) → (Nat → Int32) → Option ((Nat → Int32) × (Nat → Int32) × (Nat → Int32))
  | 0, _, _, _, _ => none
  | n + 1, x2, fN, fpr, fsk =>
    if (16 : Int32) ≤ x2 then
      some (fN, fpr, fsk)
    else
      if x2 < 0 ∨ 16 ≤ x2.toNatClampNeg then none else
      fX6_laySlots_b55 fks n (x2 + 1) fN (upd fpr x2.toNatClampNeg (0 : Int32)) fsk
def fX6_laySlots_b4 (fks : Nat → Int32) : Nat → Int32 → Int32 → (Nat → Int32) → (Nat → Int32) → (Nat → Int32) → Option ((Nat → Int32) × (Nat → Int32) × (Nat → Int32))
  | 0, _, _, _, _, _ => none
  | n + 1, x1, x2, fN, fpr, fsk =>
    bd1 (fX6_kinds fN) fun r_6 =>
    if r_6 ≤ x2 then
      fX6_laySlots_b55 fks FU (0 : Int32) (upd fN 4 x1) fpr fsk
    else
      fX6_laySlots_b14 fks (fun x1 x2 fN fpr fsk => fX6_laySlots_b4 fks n x1 x2 fN fpr fsk) FU x1 x2 (0 : Int32) fN fpr fsk
def fX6_laySlots (fN : Nat → Int32) (fks : Nat → Int32) (fpr : Nat → Int32) (fsk : Nat → Int32) : Option ((Nat → Int32) × (Nat → Int32) × (Nat → Int32)) :=
  fX6_laySlots_b4 fks FU (0 : Int32) (0 : Int32) fN fpr fsk
abbrev rX6_laySlots : Room := { frames := 1, cells := 0, slots := 0, locals := 20 }
set_option maxHeartbeats 4000000 in
set_option maxRecDepth 100000 in
theorem tX6_laySlots {l : Launch} {D : va_G} {cI cZ cP : ClassId} (aM mN mks mpr msk mkd mcd mow mmi mst mbi msu mke mik : Nat) (vka : Int32) (viw : Int32) (fN : Nat → Int32) (fks : Nat → Int32) (fpr : Nat → Int32) (fsk : Nat → Int32) (oN : Nat → Int32) (opr : Nat → Int32) (osk : Nat → Int32) (h : fX6_laySlots fN fks fpr fsk = some (oN, opr, osk)) : CtV l D cI cZ cP yX6_laySlots wsX6_laySlots rX6_laySlots [.ref aM] [(aM, .inr (6, [.ref mN, .ref mkd, .ref mks, .ref mcd, .ref mpr, .ref msk, .ref mow, .ref mmi, .ref mst, .ref mbi, .ref msu, .ref mke, .ref mik, .int vka, .int viw])), (mN, .inl (cI, 9, .inl fN)), (mks, .inl (cI, 8, .inl fks)), (mpr, .inl (cI, 16, .inl fpr)), (msk, .inl (cI, 16, .inl fsk))] (fun _ : Unit => [(aM, .inr (6, [.ref mN, .ref mkd, .ref mks, .ref mcd, .ref mpr, .ref msk, .ref mow, .ref mmi, .ref mst, .ref mbi, .ref msu, .ref mke, .ref mik, .int vka, .int viw])), (mN, .inl (cI, 9, .inl oN)), (mks, .inl (cI, 8, .inl fks)), (mpr, .inl (cI, 16, .inl opr)), (msk, .inl (cI, 16, .inl osk))]) := by
  refine CtV.ofW (cc := cX6_laySlots) (maxL := 4) (by decide) rfl (Nat.le_of_ble_eq_true rfl) (lv := [(0, .ref aM)]) rfl ?_
  intro p e s m args below meth c A Q ls hx hb hml hown hts hK hN hP hD hS hA hl hin hret0
  have hown : s.vm.findClass RX6 = some m.cls := hown
  have i6 : ∀ w ∈ wsX60, w ∈ wsX6_laySlots := mem_ps [10, 11, 12, 13, 14, 15, 16, 17, 18, 19, 20, 21, 22, 23, 24] rfl
  have hret : ∀ (zN : Nat → Int32) (zpr : Nat → Int32) (zsk : Nat → Int32) (pc : Nat) (ls : Array Slot) (H : Heap) (locs : List Loc), decode cX6_laySlots pc = .ok (.return_, 1) → va_P D vwCl [(aM, .inr (6, [.ref mN, .ref mkd, .ref mks, .ref mcd, .ref mpr, .ref msk, .ref mow, .ref mmi, .ref mst, .ref mbi, .ref msu, .ref mke, .ref mik, .int vka, .int viw])), (mN, .inl (cI, 9, .inl zN)), (mks, .inl (cI, 8, .inl fks)), (mpr, .inl (cI, 16, .inl zpr)), (msk, .inl (cI, 16, .inl zsk))] H → va_D A [(aM, .inr (6, [.ref mN, .ref mkd, .ref mks, .ref mcd, .ref mpr, .ref msk, .ref mow, .ref mmi, .ref mst, .ref mbi, .ref msu, .ref mke, .ref mik, .int vka, .int viw])), (mN, .inl (cI, 9, .inl zN)), (mks, .inl (cI, 8, .inl fks)), (mpr, .inl (cI, 16, .inl zpr)), (msk, .inl (cI, 16, .inl zsk))] → va_S A s.heap H locs → some (zN, zpr, zsk) = some (oN, opr, osk) → W p l e rX6_laySlots s m args below meth c H locs 0 0 Q (F0 m pc ls []) := by
    intro zN zpr zsk pc ls H locs hd hP hD hS h
    cases h
    exact hret0 pc ls H locs () hd hP hD hS
  clear hret0
  have hb14 : ∀ (k4 : Int32 → Int32 → (Nat → Int32) → (Nat → Int32) → (Nat → Int32) → Option ((Nat → Int32) × (Nat → Int32) × (Nat → Int32))) (hk4 : ∀ (x1 : Int32) (x2 : Int32) (fN : Nat → Int32) (fpr : Nat → Int32) (fsk : Nat → Int32) (H : Heap) (locs : List Loc) (ls : Array Slot), va_P D vwCl [(aM, .inr (6, [.ref mN, .ref mkd, .ref mks, .ref mcd, .ref mpr, .ref msk, .ref mow, .ref mmi, .ref mst, .ref mbi, .ref msu, .ref mke, .ref mik, .int vka, .int viw])), (mN, .inl (cI, 9, .inl fN)), (mks, .inl (cI, 8, .inl fks)), (mpr, .inl (cI, 16, .inl fpr)), (msk, .inl (cI, 16, .inl fsk))] H → va_D A [(aM, .inr (6, [.ref mN, .ref mkd, .ref mks, .ref mcd, .ref mpr, .ref msk, .ref mow, .ref mmi, .ref mst, .ref mbi, .ref msu, .ref mke, .ref mik, .int vka, .int viw])), (mN, .inl (cI, 9, .inl fN)), (mks, .inl (cI, 8, .inl fks)), (mpr, .inl (cI, 16, .inl fpr)), (msk, .inl (cI, 16, .inl fsk))] → va_S A s.heap H locs → lv_has ls 4 [(0, .ref aM), (1, .int x1), (2, .int x2)] → k4 x1 x2 fN fpr fsk = some (oN, opr, osk) → W p l e rX6_laySlots s m args below meth c H locs 0 0 Q (F0 m 4 ls [])) (n : Nat) (x1 : Int32) (x2 : Int32) (x3 : Int32) (fN : Nat → Int32) (fpr : Nat → Int32) (fsk : Nat → Int32) (H : Heap) (locs : List Loc) (ls : Array Slot), va_P D vwCl [(aM, .inr (6, [.ref mN, .ref mkd, .ref mks, .ref mcd, .ref mpr, .ref msk, .ref mow, .ref mmi, .ref mst, .ref mbi, .ref msu, .ref mke, .ref mik, .int vka, .int viw])), (mN, .inl (cI, 9, .inl fN)), (mks, .inl (cI, 8, .inl fks)), (mpr, .inl (cI, 16, .inl fpr)), (msk, .inl (cI, 16, .inl fsk))] H → va_D A [(aM, .inr (6, [.ref mN, .ref mkd, .ref mks, .ref mcd, .ref mpr, .ref msk, .ref mow, .ref mmi, .ref mst, .ref mbi, .ref msu, .ref mke, .ref mik, .int vka, .int viw])), (mN, .inl (cI, 9, .inl fN)), (mks, .inl (cI, 8, .inl fks)), (mpr, .inl (cI, 16, .inl fpr)), (msk, .inl (cI, 16, .inl fsk))] → va_S A s.heap H locs → lv_has ls 4 [(0, .ref aM), (1, .int x1), (2, .int x2), (3, .int x3)] → fX6_laySlots_b14 fks k4 n x1 x2 x3 fN fpr fsk = some (oN, opr, osk) → W p l e rX6_laySlots s m args below meth c H locs 0 0 Q (F0 m 14 ls []) := by
    intro k4 hk4 n
    induction n with
    | zero => intro x1 x2 x3 fN fpr fsk H locs ls hP hD hS hl h; exact absurd h (by rw [fX6_laySlots_b14]; exact fun z => by cases z)
    | succ n ih =>
      intro x1 x2 x3 fN fpr fsk H locs ls hP hD hS hl h
      rw [fX6_laySlots_b14] at h
      refine lv_iload_n hx hb dX6_laySlots_14 rfl (lv_at hl 3 rfl) ?_
      refine lv_aload_n hx hb dX6_laySlots_15 rfl (lv_at hl 0 rfl) ?_
      refine va_get (D := D) (ci := 6) (v := .ref mks) (C := RX6) (T := TX6) (N := 15) hx hb hts i6 hown hK hP 0 rfl rfl 2 (by decide) (hts (.fieldLink RX6 16 RX6 "kindStock" "[I") (List.mem_of_getElem? (i := 1) rfl)) (fun _ h9 => h9) rfl dX6_laySlots_16 ?_
      refine lv_iload_n hx hb dX6_laySlots_19 rfl (lv_at hl 2 rfl) ?_
      obtain ⟨g1, h⟩ := no_some h
      refine va_iald hx hb hK hP 2 0 rfl rfl g1 dX6_laySlots_20 ?_
      refine lv_icmp_ge (tgt := 40) hx hb dX6_laySlots_21 (by decide) (fun c2 => ?_) (fun c2 => ?_)
      · have h := (if_pos c2).symm.trans h
        refine lv_iinc (v := x2 + 1) (lv' := [(2, .int (x2 + 1)), (0, .ref aM), (1, .int x1), (3, .int x3)]) hx hb dX6_laySlots_40 hl (k := 2) rfl rfl (by decide) rfl (fun ls hl => ?_)
        refine lv_goto (tgt := 4) hx hb dX6_laySlots_43 (by decide) ?_
        exact hk4 x1 (x2 + 1) fN fpr fsk H locs ls hP hD hS (lv_sub hl [1, 2, 0] rfl) h
      · have h := (if_neg c2).symm.trans h
        refine lv_aload_n hx hb dX6_laySlots_24 rfl (lv_at hl 0 rfl) ?_
        refine va_get (D := D) (ci := 6) (v := .ref msk) (C := RX6) (T := TX6) (N := 15) hx hb hts i6 hown hK hP 0 rfl rfl 5 (by decide) (hts (.fieldLink RX6 25 RX6 "slotKind" "[I") (List.mem_of_getElem? (i := 2) rfl)) (fun _ h9 => h9) rfl dX6_laySlots_25 ?_
        refine lv_iload_n hx hb dX6_laySlots_28 rfl (lv_at hl 1 rfl) ?_
        refine lv_iload_n hx hb dX6_laySlots_29 rfl (lv_at hl 2 rfl) ?_
        obtain ⟨g3, h⟩ := no_some h
        refine va_iast hx hb hK hP hD hS 4 0 rfl rfl g3 dX6_laySlots_30 (fun H locs hP hD hS => ?_)
        have hP : va_P D vwCl [(aM, .inr (6, [.ref mN, .ref mkd, .ref mks, .ref mcd, .ref mpr, .ref msk, .ref mow, .ref mmi, .ref mst, .ref mbi, .ref msu, .ref mke, .ref mik, .int vka, .int viw])), (mN, .inl (cI, 9, .inl fN)), (mks, .inl (cI, 8, .inl fks)), (mpr, .inl (cI, 16, .inl fpr)), (msk, .inl (cI, 16, .inl (upd fsk x1.toNatClampNeg x2)))] H := hP
        have hD : va_D A [(aM, .inr (6, [.ref mN, .ref mkd, .ref mks, .ref mcd, .ref mpr, .ref msk, .ref mow, .ref mmi, .ref mst, .ref mbi, .ref msu, .ref mke, .ref mik, .int vka, .int viw])), (mN, .inl (cI, 9, .inl fN)), (mks, .inl (cI, 8, .inl fks)), (mpr, .inl (cI, 16, .inl fpr)), (msk, .inl (cI, 16, .inl (upd fsk x1.toNatClampNeg x2)))] := hD
        refine lv_iinc (v := x1 + 1) (lv' := [(1, .int (x1 + 1)), (0, .ref aM), (2, .int x2), (3, .int x3)]) hx hb dX6_laySlots_31 hl (k := 1) rfl rfl (by decide) rfl (fun ls hl => ?_)
        refine lv_iinc (v := x3 + 1) (lv' := [(3, .int (x3 + 1)), (1, .int (x1 + 1)), (0, .ref aM), (2, .int x2)]) hx hb dX6_laySlots_34 hl (k := 3) rfl rfl (by decide) rfl (fun ls hl => ?_)
        refine lv_goto (tgt := 14) hx hb dX6_laySlots_37 (by decide) ?_
        exact ih (x1 + 1) x2 (x3 + 1) fN fpr (upd fsk x1.toNatClampNeg x2) H locs ls hP hD hS (lv_sub hl [2, 1, 3, 0] rfl) h
  have hb55 : ∀ (n : Nat) (x2 : Int32) (fN : Nat → Int32) (fpr : Nat → Int32) (fsk : Nat → Int32) (H : Heap) (locs : List Loc) (ls : Array Slot), va_P D vwCl [(aM, .inr (6, [.ref mN, .ref mkd, .ref mks, .ref mcd, .ref mpr, .ref msk, .ref mow, .ref mmi, .ref mst, .ref mbi, .ref msu, .ref mke, .ref mik, .int vka, .int viw])), (mN, .inl (cI, 9, .inl fN)), (mks, .inl (cI, 8, .inl fks)), (mpr, .inl (cI, 16, .inl fpr)), (msk, .inl (cI, 16, .inl fsk))] H → va_D A [(aM, .inr (6, [.ref mN, .ref mkd, .ref mks, .ref mcd, .ref mpr, .ref msk, .ref mow, .ref mmi, .ref mst, .ref mbi, .ref msu, .ref mke, .ref mik, .int vka, .int viw])), (mN, .inl (cI, 9, .inl fN)), (mks, .inl (cI, 8, .inl fks)), (mpr, .inl (cI, 16, .inl fpr)), (msk, .inl (cI, 16, .inl fsk))] → va_S A s.heap H locs → lv_has ls 4 [(0, .ref aM), (2, .int x2)] → fX6_laySlots_b55 fks n x2 fN fpr fsk = some (oN, opr, osk) → W p l e rX6_laySlots s m args below meth c H locs 0 0 Q (F0 m 55 ls []) := by
    intro n
    induction n with
    | zero => intro x2 fN fpr fsk H locs ls hP hD hS hl h; exact absurd h (by rw [fX6_laySlots_b55]; exact fun z => by cases z)
    | succ n ih =>
      intro x2 fN fpr fsk H locs ls hP hD hS hl h
      rw [fX6_laySlots_b55] at h
      refine lv_iload_n hx hb dX6_laySlots_55 rfl (lv_at hl 1 rfl) ?_
      refine lv_bipush (v := (16 : Int32)) hx hb dX6_laySlots_56 (by decide) ?_
      refine lv_icmp_ge (tgt := 74) hx hb dX6_laySlots_58 (by decide) (fun c4 => ?_) (fun c4 => ?_)
      · have h := (if_pos c4).symm.trans h
        exact hret fN fpr fsk 74 ls H locs dX6_laySlots_74 hP hD hS h
      · have h := (if_neg c4).symm.trans h
        refine lv_aload_n hx hb dX6_laySlots_61 rfl (lv_at hl 0 rfl) ?_
        refine va_get (D := D) (ci := 6) (v := .ref mpr) (C := RX6) (T := TX6) (N := 15) hx hb hts i6 hown hK hP 0 rfl rfl 4 (by decide) (hts (.fieldLink RX6 22 RX6 "price" "[I") (List.mem_of_getElem? (i := 4) rfl)) (fun _ h9 => h9) rfl dX6_laySlots_62 ?_
        refine lv_iload_n hx hb dX6_laySlots_65 rfl (lv_at hl 1 rfl) ?_
        refine lv_iconst (v := (0 : Int32)) hx hb dX6_laySlots_66 (by decide) ?_
        obtain ⟨g5, h⟩ := no_some h
        refine va_iast hx hb hK hP hD hS 3 0 rfl rfl g5 dX6_laySlots_67 (fun H locs hP hD hS => ?_)
        have hP : va_P D vwCl [(aM, .inr (6, [.ref mN, .ref mkd, .ref mks, .ref mcd, .ref mpr, .ref msk, .ref mow, .ref mmi, .ref mst, .ref mbi, .ref msu, .ref mke, .ref mik, .int vka, .int viw])), (mN, .inl (cI, 9, .inl fN)), (mks, .inl (cI, 8, .inl fks)), (mpr, .inl (cI, 16, .inl (upd fpr x2.toNatClampNeg (0 : Int32)))), (msk, .inl (cI, 16, .inl fsk))] H := hP
        have hD : va_D A [(aM, .inr (6, [.ref mN, .ref mkd, .ref mks, .ref mcd, .ref mpr, .ref msk, .ref mow, .ref mmi, .ref mst, .ref mbi, .ref msu, .ref mke, .ref mik, .int vka, .int viw])), (mN, .inl (cI, 9, .inl fN)), (mks, .inl (cI, 8, .inl fks)), (mpr, .inl (cI, 16, .inl (upd fpr x2.toNatClampNeg (0 : Int32)))), (msk, .inl (cI, 16, .inl fsk))] := hD
        refine lv_iinc (v := x2 + 1) (lv' := [(2, .int (x2 + 1)), (0, .ref aM)]) hx hb dX6_laySlots_68 hl (k := 1) rfl rfl (by decide) rfl (fun ls hl => ?_)
        refine lv_goto (tgt := 55) hx hb dX6_laySlots_71 (by decide) ?_
        exact ih (x2 + 1) fN (upd fpr x2.toNatClampNeg (0 : Int32)) fsk H locs ls hP hD hS (lv_sub hl [1, 0] rfl) h
  have hb4 : ∀ (n : Nat) (x1 : Int32) (x2 : Int32) (fN : Nat → Int32) (fpr : Nat → Int32) (fsk : Nat → Int32) (H : Heap) (locs : List Loc) (ls : Array Slot), va_P D vwCl [(aM, .inr (6, [.ref mN, .ref mkd, .ref mks, .ref mcd, .ref mpr, .ref msk, .ref mow, .ref mmi, .ref mst, .ref mbi, .ref msu, .ref mke, .ref mik, .int vka, .int viw])), (mN, .inl (cI, 9, .inl fN)), (mks, .inl (cI, 8, .inl fks)), (mpr, .inl (cI, 16, .inl fpr)), (msk, .inl (cI, 16, .inl fsk))] H → va_D A [(aM, .inr (6, [.ref mN, .ref mkd, .ref mks, .ref mcd, .ref mpr, .ref msk, .ref mow, .ref mmi, .ref mst, .ref mbi, .ref msu, .ref mke, .ref mik, .int vka, .int viw])), (mN, .inl (cI, 9, .inl fN)), (mks, .inl (cI, 8, .inl fks)), (mpr, .inl (cI, 16, .inl fpr)), (msk, .inl (cI, 16, .inl fsk))] → va_S A s.heap H locs → lv_has ls 4 [(0, .ref aM), (1, .int x1), (2, .int x2)] → fX6_laySlots_b4 fks n x1 x2 fN fpr fsk = some (oN, opr, osk) → W p l e rX6_laySlots s m args below meth c H locs 0 0 Q (F0 m 4 ls []) := by
    intro n
    induction n with
    | zero => intro x1 x2 fN fpr fsk H locs ls hP hD hS hl h; exact absurd h (by rw [fX6_laySlots_b4]; exact fun z => by cases z)
    | succ n ih =>
      intro x1 x2 fN fpr fsk H locs ls hP hD hS hl h
      rw [fX6_laySlots_b4] at h
      refine lv_iload_n hx hb dX6_laySlots_4 rfl (lv_at hl 2 rfl) ?_
      refine lv_aload_n hx hb dX6_laySlots_5 rfl (lv_at hl 0 rfl) ?_
      obtain ⟨r_6, q_6, h⟩ := bd1_some h
      refine fr_ro_i (S := Unit) (wc := [(aM, .inr (6, [.ref mN, .ref mkd, .ref mks, .ref mcd, .ref mpr, .ref msk, .ref mow, .ref mmi, .ref mst, .ref mbi, .ref msu, .ref mke, .ref mik, .int vka, .int viw])), (mN, .inl (cI, 9, .inl fN))]) (fr_V (As := []) (rest := [.int x2]) (C := RX6) ⟨hx, hb, hml, hown, hts⟩ (tX6_kinds aM mN mkd mks mcd mpr msk mow mmi mst mbi msu mke mik vka viw fN r_6 q_6) gX6_laySlots_X6_kinds rfl (fr_preV (As := []) (b := aM) (ci := 6) (q0 := 0) (wc := [(aM, .inr (6, [.ref mN, .ref mkd, .ref mks, .ref mcd, .ref mpr, .ref msk, .ref mow, .ref mmi, .ref mst, .ref mbi, .ref msu, .ref mke, .ref mik, .int vka, .int viw])), (mN, .inl (cI, 9, .inl fN))]) hK hN hP hD [0, 1] (by decide) rfl rfl rfl) (n := 0) (by decide +kernel) ⟨Nat.le_of_ble_eq_true rfl, Nat.le_of_ble_eq_true rfl⟩ rfl hl.1 rfl (Nat.le_of_ble_eq_true rfl) dX6_laySlots_6 ⟨Nat.zero_le _, Nat.zero_le _⟩) hP hD hS hA [0, 1] rfl (c2 := 0) (s2 := 0) rfl rfl (fun H locs hP hS => ?_)
      refine lv_icmp_ge (tgt := 46) hx hb dX6_laySlots_9 (by decide) (fun c6 => ?_) (fun c6 => ?_)
      · have h := (if_pos c6).symm.trans h
        refine lv_aload_n hx hb dX6_laySlots_46 rfl (lv_at hl 0 rfl) ?_
        refine va_get (D := D) (ci := 6) (v := .ref mN) (C := RX6) (T := TX6) (N := 15) hx hb hts i6 hown hK hP 0 rfl rfl 0 (by decide) (hts (.fieldLink RX6 7 RX6 "now" "[I") (List.mem_of_getElem? (i := 3) rfl)) (fun _ h9 => h9) rfl dX6_laySlots_47 ?_
        refine lv_iconst (v := (4 : Int32)) hx hb dX6_laySlots_50 (by decide) ?_
        refine lv_iload_n hx hb dX6_laySlots_51 rfl (lv_at hl 1 rfl) ?_
        refine fr_iast (j := 4) hx hb hK hP hD hS 1 0 rfl rfl (by decide) (vin_of 4 9 (4 : Int32) (by decide) (by decide) (by decide)) dX6_laySlots_52 (fun H locs hP hD hS => ?_)
        have hP : va_P D vwCl [(aM, .inr (6, [.ref mN, .ref mkd, .ref mks, .ref mcd, .ref mpr, .ref msk, .ref mow, .ref mmi, .ref mst, .ref mbi, .ref msu, .ref mke, .ref mik, .int vka, .int viw])), (mN, .inl (cI, 9, .inl (upd fN 4 x1))), (mks, .inl (cI, 8, .inl fks)), (mpr, .inl (cI, 16, .inl fpr)), (msk, .inl (cI, 16, .inl fsk))] H := hP
        have hD : va_D A [(aM, .inr (6, [.ref mN, .ref mkd, .ref mks, .ref mcd, .ref mpr, .ref msk, .ref mow, .ref mmi, .ref mst, .ref mbi, .ref msu, .ref mke, .ref mik, .int vka, .int viw])), (mN, .inl (cI, 9, .inl (upd fN 4 x1))), (mks, .inl (cI, 8, .inl fks)), (mpr, .inl (cI, 16, .inl fpr)), (msk, .inl (cI, 16, .inl fsk))] := hD
        refine lv_iconst (v := (0 : Int32)) hx hb dX6_laySlots_53 (by decide) ?_
        refine lv_istore_n (lv' := [(2, .int (0 : Int32)), (0, .ref aM), (1, .int x1)]) hx hb dX6_laySlots_54 rfl hl (by decide) rfl (fun ls hl => ?_)
        exact hb55 FU (0 : Int32) (upd fN 4 x1) fpr fsk H locs ls hP hD hS (lv_sub hl [1, 0] rfl) h
      · have h := (if_neg c6).symm.trans h
        refine lv_iconst (v := (0 : Int32)) hx hb dX6_laySlots_12 (by decide) ?_
        refine lv_istore_n (lv' := [(3, .int (0 : Int32)), (0, .ref aM), (1, .int x1), (2, .int x2)]) hx hb dX6_laySlots_13 rfl hl (by decide) rfl (fun ls hl => ?_)
        exact hb14 (fun x1 x2 fN fpr fsk => fX6_laySlots_b4 fks n x1 x2 fN fpr fsk) ih FU x1 x2 (0 : Int32) fN fpr fsk H locs ls hP hD hS (lv_sub hl [1, 2, 3, 0] rfl) h
  unfold fX6_laySlots at h
  obtain ⟨H, hH⟩ : ∃ H, H = s.heap := ⟨_, rfl⟩
  have hP : va_P D vwCl [(aM, .inr (6, [.ref mN, .ref mkd, .ref mks, .ref mcd, .ref mpr, .ref msk, .ref mow, .ref mmi, .ref mst, .ref mbi, .ref msu, .ref mke, .ref mik, .int vka, .int viw])), (mN, .inl (cI, 9, .inl fN)), (mks, .inl (cI, 8, .inl fks)), (mpr, .inl (cI, 16, .inl fpr)), (msk, .inl (cI, 16, .inl fsk))] H := by rw [hH]; exact hP
  obtain ⟨locs, hlocs⟩ : ∃ x : List Loc, x = [] := ⟨_, rfl⟩
  have hS : va_S A s.heap H locs := by rw [hH, hlocs]; exact hS
  suffices hgo : W p l e rX6_laySlots s m args below meth c H locs 0 0 Q (F0 m 0 ls []) by rw [hH, hlocs] at hgo; exact hgo
  refine lv_iconst (v := (0 : Int32)) hx hb dX6_laySlots_0 (by decide) ?_
  refine lv_istore_n (lv' := [(1, .int (0 : Int32)), (0, .ref aM)]) hx hb dX6_laySlots_1 rfl hl (by decide) rfl (fun ls hl => ?_)
  refine lv_iconst (v := (0 : Int32)) hx hb dX6_laySlots_2 (by decide) ?_
  refine lv_istore_n (lv' := [(2, .int (0 : Int32)), (1, .int (0 : Int32)), (0, .ref aM)]) hx hb dX6_laySlots_3 rfl hl (by decide) rfl (fun ls hl => ?_)
  exact hb4 FU (0 : Int32) (0 : Int32) fN fpr fsk H locs ls hP hD hS (lv_sub hl [2, 1, 0] rfl) h
def fX6_auction_b159 (fkd : Nat → Int32) (fks : Nat → Int32) (fcd : Nat → Int32) (k62 : Int32 → Int32 → (Nat → Int32) → (Nat → Int32) → (Nat → Int32) → (Nat → Int32) → (Nat → Int32) → (Nat → Int32) → (Nat → Int32) → (Nat → Int32) → Option (Int32 × (Nat → Int32) × (Nat → Int32) × (Nat → Int32) × (Nat → Int32) × (Nat → Int32) × (Nat → Int32) × (Nat → Int32) × (Nat → Int32))) (x1 : Int32) (y0 : Int32) (fN : Nat → Int32) (fpr : Nat → Int32) (fsk : Nat → Int32) (fow : Nat → Int32) (fmi : Nat → Int32) (fst : Nat → Int32) (fbi : Nat → Int32) (fsu : Nat → Int32) : Option (Int32 × (Nat → Int32) × (Nat → Int32) × (Nat → Int32) × (Nat → Int32) × (Nat → Int32) × (Nat → Int32) × (Nat → Int32) × (Nat → Int32)) :=
  if fN 1 = 0 then none else
  bd1 (fX6_oneAtLeast (x1 / (fN 1))) fun r_168 =>
  k62 r_168 y0 fN fpr fsk fow fmi fst fbi fsu
def fX6_auction_b62 (fkd : Nat → Int32) (fks : Nat → Int32) (fcd : Nat → Int32) : Nat → Int32 → Int32 → (Nat → Int32) → (Nat → Int32) → (Nat → Int32) → (Nat → Int32) → (Nat → Int32) → (Nat → Int32) → (Nat → Int32) → (Nat → Int32) → Option (Int32 × (Nat → Int32) × (Nat → Int32) × (Nat → Int32) × (Nat → Int32) × (Nat → Int32) × (Nat → Int32) × (Nat → Int32) × (Nat → Int32))
  | 0, _, _, _, _, _, _, _, _, _, _ => none
  | n + 1, x1, x2, fN, fpr, fsk, fow, fmi, fst, fbi, fsu =>
    if x2 = 0 then
      some ((upd (upd fN 5 (1 : Int32)) 6 (1 : Int32)) 8, upd (upd fN 5 (1 : Int32)) 6 (1 : Int32), fpr, fsk, fow, fmi, fst, fbi, fsu)
    else
      bd2 (fX6_freeAll fow fmi) fun fow_67 fmi_67 =>
      if fN 7 < 0 ∨ 16 ≤ (fN 7).toNatClampNeg then none else
      bd4 (fX6_phaseOf fN fkd fcd fpr fsk fow_67 fmi_67 x1) fun r_96 fpr_96 fow_96 fmi_96 =>
      if fN 7 < 0 ∨ 16 ≤ (fN 7).toNatClampNeg then none else
      bd1 (fX6_sumOf fN fkd fcd fsk fmi_96) fun r_112 =>
      if fN 7 < 0 ∨ 16 ≤ (fN 7).toNatClampNeg then none else
      if fN 7 < 0 ∨ 16 ≤ (fN 7).toNatClampNeg then none else
      if x1 ≤ (1 : Int32) then
        fX6_auction_b159 fkd fks fcd (fun x1 x2 fN fpr fsk fow fmi fst fbi fsu => fX6_auction_b62 fkd fks fcd n x1 x2 fN fpr fsk fow fmi fst fbi fsu) x1 (0 : Int32) (upd (upd fN 8 ((fN 8) + ((upd fbi ((fN 7).toNatClampNeg) r_96) ((fN 7).toNatClampNeg)))) 7 (((upd fN 8 ((fN 8) + ((upd fbi ((fN 7).toNatClampNeg) r_96) ((fN 7).toNatClampNeg)))) 7) + (1 : Int32))) fpr_96 fsk fow_96 fmi_96 (upd fst ((fN 7).toNatClampNeg) x1) (upd fbi ((fN 7).toNatClampNeg) r_96) (upd fsu ((fN 7).toNatClampNeg) r_112)
      else
        fX6_auction_b159 fkd fks fcd (fun x1 x2 fN fpr fsk fow fmi fst fbi fsu => fX6_auction_b62 fkd fks fcd n x1 x2 fN fpr fsk fow fmi fst fbi fsu) x1 (1 : Int32) (upd (upd fN 8 ((fN 8) + ((upd fbi ((fN 7).toNatClampNeg) r_96) ((fN 7).toNatClampNeg)))) 7 (((upd fN 8 ((fN 8) + ((upd fbi ((fN 7).toNatClampNeg) r_96) ((fN 7).toNatClampNeg)))) 7) + (1 : Int32))) fpr_96 fsk fow_96 fmi_96 (upd fst ((fN 7).toNatClampNeg) x1) (upd fbi ((fN 7).toNatClampNeg) r_96) (upd fsu ((fN 7).toNatClampNeg) r_112)
def fX6_auction (fN : Nat → Int32) (fkd : Nat → Int32) (fks : Nat → Int32) (fcd : Nat → Int32) (fpr : Nat → Int32) (fsk : Nat → Int32) (fow : Nat → Int32) (fmi : Nat → Int32) (fst : Nat → Int32) (fbi : Nat → Int32) (fsu : Nat → Int32) : Option (Int32 × (Nat → Int32) × (Nat → Int32) × (Nat → Int32) × (Nat → Int32) × (Nat → Int32) × (Nat → Int32) × (Nat → Int32) × (Nat → Int32)) :=
  bd1 (fX6_stocks fN fks) fun r_1 =>
  if r_1 = 0 then
    some ((-5 : Int32), fN, fpr, fsk, fow, fmi, fst, fbi, fsu)
  else
    bd1 (fX6_stocks fN fks) fun r_8 =>
    bd1 (fX6_cells fN) fun r_12 =>
    if r_12 ≤ r_8 then
      bd3 (fX6_laySlots fN fks fpr fsk) fun fN_22 fpr_22 fsk_22 =>
      bd1 (fX6_greatest (upd (upd fN_22 7 (0 : Int32)) 8 (0 : Int32)) fkd fcd) fun r_42 =>
      bd1 (fX6_oneAtLeast ((r_42 * (((upd (upd fN_22 7 (0 : Int32)) 8 (0 : Int32)) 4) + (1 : Int32))) / (4 : Int32))) fun r_56 =>
      fX6_auction_b62 fkd fks fcd FU r_56 (1 : Int32) (upd (upd fN_22 7 (0 : Int32)) 8 (0 : Int32)) fpr_22 fsk_22 fow fmi fst fbi fsu
    else
      some ((-5 : Int32), fN, fpr, fsk, fow, fmi, fst, fbi, fsu)
abbrev rX6_auction : Room := { frames := 5, cells := 0, slots := 0, locals := 121 }
set_option maxHeartbeats 4000000 in
set_option maxRecDepth 100000 in
theorem tX6_auction {l : Launch} {D : va_G} {cI cZ cP : ClassId} (aM mN mkd mks mcd mpr msk mow mmi mst mbi msu mke mik : Nat) (vka : Int32) (viw : Int32) (fN : Nat → Int32) (fkd : Nat → Int32) (fks : Nat → Int32) (fcd : Nat → Int32) (fpr : Nat → Int32) (fsk : Nat → Int32) (fow : Nat → Int32) (fmi : Nat → Int32) (fst : Nat → Int32) (fbi : Nat → Int32) (fsu : Nat → Int32) (fke : Nat → Int32) (fik : Nat → Int32) (r : Int32) (oN : Nat → Int32) (opr : Nat → Int32) (osk : Nat → Int32) (oow : Nat → Int32) (omi : Nat → Int32) (ost : Nat → Int32) (obi : Nat → Int32) (osu : Nat → Int32) (h : fX6_auction fN fkd fks fcd fpr fsk fow fmi fst fbi fsu = some (r, oN, opr, osk, oow, omi, ost, obi, osu)) : CtI l D cI cZ cP yX6_auction wsX6_auction rX6_auction [.ref aM] [(aM, .inr (6, [.ref mN, .ref mkd, .ref mks, .ref mcd, .ref mpr, .ref msk, .ref mow, .ref mmi, .ref mst, .ref mbi, .ref msu, .ref mke, .ref mik, .int vka, .int viw])), (mN, .inl (cI, 9, .inl fN)), (mkd, .inl (cI, 8, .inl fkd)), (mks, .inl (cI, 8, .inl fks)), (mcd, .inl (cI, 12, .inl fcd)), (mpr, .inl (cI, 16, .inl fpr)), (msk, .inl (cI, 16, .inl fsk)), (mow, .inl (cI, 16, .inl fow)), (mmi, .inl (cI, 16, .inl fmi)), (mst, .inl (cI, 16, .inl fst)), (mbi, .inl (cI, 16, .inl fbi)), (msu, .inl (cI, 16, .inl fsu)), (mke, .inl (cI, 298, .inl fke)), (mik, .inl (cZ, 2, .inl fik))] (fun _ : Unit => [(aM, .inr (6, [.ref mN, .ref mkd, .ref mks, .ref mcd, .ref mpr, .ref msk, .ref mow, .ref mmi, .ref mst, .ref mbi, .ref msu, .ref mke, .ref mik, .int vka, .int viw])), (mN, .inl (cI, 9, .inl oN)), (mkd, .inl (cI, 8, .inl fkd)), (mks, .inl (cI, 8, .inl fks)), (mcd, .inl (cI, 12, .inl fcd)), (mpr, .inl (cI, 16, .inl opr)), (msk, .inl (cI, 16, .inl osk)), (mow, .inl (cI, 16, .inl oow)), (mmi, .inl (cI, 16, .inl omi)), (mst, .inl (cI, 16, .inl ost)), (mbi, .inl (cI, 16, .inl obi)), (msu, .inl (cI, 16, .inl osu)), (mke, .inl (cI, 298, .inl fke)), (mik, .inl (cZ, 2, .inl fik))]) r := by
  refine CtI.ofW (cc := cX6_auction) (maxL := 3) (by decide) rfl (Nat.le_of_ble_eq_true rfl) (lv := [(0, .ref aM)]) rfl ?_
  intro p e s m args below meth c A Q ls hx hb hml hown hts hK hN hP hD hS hA hl hret0
  have hown : s.vm.findClass RX6 = some m.cls := hown
  have i6 : ∀ w ∈ wsX60, w ∈ wsX6_auction := mem_ps [68, 69, 70, 71, 72, 73, 74, 75, 76, 77, 78, 79, 80, 81, 82] rfl
  have hret : ∀ (v : Int32) (zN : Nat → Int32) (zpr : Nat → Int32) (zsk : Nat → Int32) (zow : Nat → Int32) (zmi : Nat → Int32) (zst : Nat → Int32) (zbi : Nat → Int32) (zsu : Nat → Int32) (pc : Nat) (ls : Array Slot) (H : Heap) (locs : List Loc), narrow .int (.int v) = .int v → decode cX6_auction pc = .ok (.ireturn, 1) → va_P D vwCl [(aM, .inr (6, [.ref mN, .ref mkd, .ref mks, .ref mcd, .ref mpr, .ref msk, .ref mow, .ref mmi, .ref mst, .ref mbi, .ref msu, .ref mke, .ref mik, .int vka, .int viw])), (mN, .inl (cI, 9, .inl zN)), (mkd, .inl (cI, 8, .inl fkd)), (mks, .inl (cI, 8, .inl fks)), (mcd, .inl (cI, 12, .inl fcd)), (mpr, .inl (cI, 16, .inl zpr)), (msk, .inl (cI, 16, .inl zsk)), (mow, .inl (cI, 16, .inl zow)), (mmi, .inl (cI, 16, .inl zmi)), (mst, .inl (cI, 16, .inl zst)), (mbi, .inl (cI, 16, .inl zbi)), (msu, .inl (cI, 16, .inl zsu)), (mke, .inl (cI, 298, .inl fke)), (mik, .inl (cZ, 2, .inl fik))] H → va_D A [(aM, .inr (6, [.ref mN, .ref mkd, .ref mks, .ref mcd, .ref mpr, .ref msk, .ref mow, .ref mmi, .ref mst, .ref mbi, .ref msu, .ref mke, .ref mik, .int vka, .int viw])), (mN, .inl (cI, 9, .inl zN)), (mkd, .inl (cI, 8, .inl fkd)), (mks, .inl (cI, 8, .inl fks)), (mcd, .inl (cI, 12, .inl fcd)), (mpr, .inl (cI, 16, .inl zpr)), (msk, .inl (cI, 16, .inl zsk)), (mow, .inl (cI, 16, .inl zow)), (mmi, .inl (cI, 16, .inl zmi)), (mst, .inl (cI, 16, .inl zst)), (mbi, .inl (cI, 16, .inl zbi)), (msu, .inl (cI, 16, .inl zsu)), (mke, .inl (cI, 298, .inl fke)), (mik, .inl (cZ, 2, .inl fik))] → va_S A s.heap H locs → some (v, zN, zpr, zsk, zow, zmi, zst, zbi, zsu) = some (r, oN, opr, osk, oow, omi, ost, obi, osu) → W p l e rX6_auction s m args below meth c H locs 0 0 Q (F0 m pc ls [.int v]) := by
    intro v zN zpr zsk zow zmi zst zbi zsu pc ls H locs hn hd hP hD hS h
    cases h
    exact hret0 pc ls H locs () hn hd hP hD hS
  clear hret0
  have hb159 : ∀ (k62 : Int32 → Int32 → (Nat → Int32) → (Nat → Int32) → (Nat → Int32) → (Nat → Int32) → (Nat → Int32) → (Nat → Int32) → (Nat → Int32) → (Nat → Int32) → Option (Int32 × (Nat → Int32) × (Nat → Int32) × (Nat → Int32) × (Nat → Int32) × (Nat → Int32) × (Nat → Int32) × (Nat → Int32) × (Nat → Int32))) (hk62 : ∀ (x1 : Int32) (x2 : Int32) (fN : Nat → Int32) (fpr : Nat → Int32) (fsk : Nat → Int32) (fow : Nat → Int32) (fmi : Nat → Int32) (fst : Nat → Int32) (fbi : Nat → Int32) (fsu : Nat → Int32) (H : Heap) (locs : List Loc) (ls : Array Slot), va_P D vwCl [(aM, .inr (6, [.ref mN, .ref mkd, .ref mks, .ref mcd, .ref mpr, .ref msk, .ref mow, .ref mmi, .ref mst, .ref mbi, .ref msu, .ref mke, .ref mik, .int vka, .int viw])), (mN, .inl (cI, 9, .inl fN)), (mkd, .inl (cI, 8, .inl fkd)), (mks, .inl (cI, 8, .inl fks)), (mcd, .inl (cI, 12, .inl fcd)), (mpr, .inl (cI, 16, .inl fpr)), (msk, .inl (cI, 16, .inl fsk)), (mow, .inl (cI, 16, .inl fow)), (mmi, .inl (cI, 16, .inl fmi)), (mst, .inl (cI, 16, .inl fst)), (mbi, .inl (cI, 16, .inl fbi)), (msu, .inl (cI, 16, .inl fsu)), (mke, .inl (cI, 298, .inl fke)), (mik, .inl (cZ, 2, .inl fik))] H → va_D A [(aM, .inr (6, [.ref mN, .ref mkd, .ref mks, .ref mcd, .ref mpr, .ref msk, .ref mow, .ref mmi, .ref mst, .ref mbi, .ref msu, .ref mke, .ref mik, .int vka, .int viw])), (mN, .inl (cI, 9, .inl fN)), (mkd, .inl (cI, 8, .inl fkd)), (mks, .inl (cI, 8, .inl fks)), (mcd, .inl (cI, 12, .inl fcd)), (mpr, .inl (cI, 16, .inl fpr)), (msk, .inl (cI, 16, .inl fsk)), (mow, .inl (cI, 16, .inl fow)), (mmi, .inl (cI, 16, .inl fmi)), (mst, .inl (cI, 16, .inl fst)), (mbi, .inl (cI, 16, .inl fbi)), (msu, .inl (cI, 16, .inl fsu)), (mke, .inl (cI, 298, .inl fke)), (mik, .inl (cZ, 2, .inl fik))] → va_S A s.heap H locs → lv_has ls 3 [(0, .ref aM), (1, .int x1), (2, .int x2)] → k62 x1 x2 fN fpr fsk fow fmi fst fbi fsu = some (r, oN, opr, osk, oow, omi, ost, obi, osu) → W p l e rX6_auction s m args below meth c H locs 0 0 Q (F0 m 62 ls [])) (x1 : Int32) (y0 : Int32) (fN : Nat → Int32) (fpr : Nat → Int32) (fsk : Nat → Int32) (fow : Nat → Int32) (fmi : Nat → Int32) (fst : Nat → Int32) (fbi : Nat → Int32) (fsu : Nat → Int32) (H : Heap) (locs : List Loc) (ls : Array Slot), va_P D vwCl [(aM, .inr (6, [.ref mN, .ref mkd, .ref mks, .ref mcd, .ref mpr, .ref msk, .ref mow, .ref mmi, .ref mst, .ref mbi, .ref msu, .ref mke, .ref mik, .int vka, .int viw])), (mN, .inl (cI, 9, .inl fN)), (mkd, .inl (cI, 8, .inl fkd)), (mks, .inl (cI, 8, .inl fks)), (mcd, .inl (cI, 12, .inl fcd)), (mpr, .inl (cI, 16, .inl fpr)), (msk, .inl (cI, 16, .inl fsk)), (mow, .inl (cI, 16, .inl fow)), (mmi, .inl (cI, 16, .inl fmi)), (mst, .inl (cI, 16, .inl fst)), (mbi, .inl (cI, 16, .inl fbi)), (msu, .inl (cI, 16, .inl fsu)), (mke, .inl (cI, 298, .inl fke)), (mik, .inl (cZ, 2, .inl fik))] H → va_D A [(aM, .inr (6, [.ref mN, .ref mkd, .ref mks, .ref mcd, .ref mpr, .ref msk, .ref mow, .ref mmi, .ref mst, .ref mbi, .ref msu, .ref mke, .ref mik, .int vka, .int viw])), (mN, .inl (cI, 9, .inl fN)), (mkd, .inl (cI, 8, .inl fkd)), (mks, .inl (cI, 8, .inl fks)), (mcd, .inl (cI, 12, .inl fcd)), (mpr, .inl (cI, 16, .inl fpr)), (msk, .inl (cI, 16, .inl fsk)), (mow, .inl (cI, 16, .inl fow)), (mmi, .inl (cI, 16, .inl fmi)), (mst, .inl (cI, 16, .inl fst)), (mbi, .inl (cI, 16, .inl fbi)), (msu, .inl (cI, 16, .inl fsu)), (mke, .inl (cI, 298, .inl fke)), (mik, .inl (cZ, 2, .inl fik))] → va_S A s.heap H locs → lv_has ls 3 [(0, .ref aM), (1, .int x1)] → fX6_auction_b159 fkd fks fcd k62 x1 y0 fN fpr fsk fow fmi fst fbi fsu = some (r, oN, opr, osk, oow, omi, ost, obi, osu) → W p l e rX6_auction s m args below meth c H locs 0 0 Q (F0 m 159 ls [.int y0]) := by
    intro k62 hk62 x1 y0 fN fpr fsk fow fmi fst fbi fsu H locs ls hP hD hS hl h
    unfold fX6_auction_b159 at h
    refine lv_istore_n (lv' := [(2, .int y0), (0, .ref aM), (1, .int x1)]) hx hb dX6_auction_159 rfl hl (by decide) rfl (fun ls hl => ?_)
    refine lv_iload_n hx hb dX6_auction_160 rfl (lv_at hl 2 rfl) ?_
    refine lv_aload_n hx hb dX6_auction_161 rfl (lv_at hl 1 rfl) ?_
    refine va_get (D := D) (ci := 6) (v := .ref mN) (C := RX6) (T := TX6) (N := 15) hx hb hts i6 hown hK hP 0 rfl rfl 0 (by decide) (hts (.fieldLink RX6 7 RX6 "now" "[I") (List.mem_of_getElem? (i := 1) rfl)) (fun _ h9 => h9) rfl dX6_auction_162 ?_
    refine lv_iconst (v := (1 : Int32)) hx hb dX6_auction_165 (by decide) ?_
    refine fr_iald (j := 1) hx hb hK hP 1 0 rfl rfl (by decide) (vin_of 1 9 (1 : Int32) (by decide) (by decide) (by decide)) dX6_auction_166 ?_
    obtain ⟨g1, h⟩ := no_some h
    refine lv_idiv hx hb dX6_auction_167 g1 ?_
    obtain ⟨r_168, q_168, h⟩ := bd1_some h
    refine fr_ro_i (S := Unit) (wc := []) (fr_S (As := [.int (x1 / (fN 1))]) (rest := []) ⟨hx, hb, hml, hown, hts⟩ (tX6_oneAtLeast (x1 / (fN 1)) r_168 q_168) gX6_auction_X6_oneAtLeast rfl (fr_pre (As := [.int (x1 / (fN 1))]) (wc := []) hK hN hP hD [] (by decide) rfl) (n := 1) (by decide +kernel) ⟨Nat.le_of_ble_eq_true rfl, Nat.le_of_ble_eq_true rfl⟩ rfl hl.1 rfl (Nat.le_of_ble_eq_true rfl) dX6_auction_168 ⟨Nat.zero_le _, Nat.zero_le _⟩) hP hD hS hA [] rfl (c2 := 0) (s2 := 0) rfl rfl (fun H locs hP hS => ?_)
    refine lv_istore_n (lv' := [(1, .int r_168), (2, .int y0), (0, .ref aM)]) hx hb dX6_auction_171 rfl hl (by decide) rfl (fun ls hl => ?_)
    refine lv_goto (tgt := 62) hx hb dX6_auction_172 (by decide) ?_
    exact hk62 r_168 y0 fN fpr fsk fow fmi fst fbi fsu H locs ls hP hD hS (lv_sub hl [2, 0, 1] rfl) h
  have hb62 : ∀ (n : Nat) (x1 : Int32) (x2 : Int32) (fN : Nat → Int32) (fpr : Nat → Int32) (fsk : Nat → Int32) (fow : Nat → Int32) (fmi : Nat → Int32) (fst : Nat → Int32) (fbi : Nat → Int32) (fsu : Nat → Int32) (H : Heap) (locs : List Loc) (ls : Array Slot), va_P D vwCl [(aM, .inr (6, [.ref mN, .ref mkd, .ref mks, .ref mcd, .ref mpr, .ref msk, .ref mow, .ref mmi, .ref mst, .ref mbi, .ref msu, .ref mke, .ref mik, .int vka, .int viw])), (mN, .inl (cI, 9, .inl fN)), (mkd, .inl (cI, 8, .inl fkd)), (mks, .inl (cI, 8, .inl fks)), (mcd, .inl (cI, 12, .inl fcd)), (mpr, .inl (cI, 16, .inl fpr)), (msk, .inl (cI, 16, .inl fsk)), (mow, .inl (cI, 16, .inl fow)), (mmi, .inl (cI, 16, .inl fmi)), (mst, .inl (cI, 16, .inl fst)), (mbi, .inl (cI, 16, .inl fbi)), (msu, .inl (cI, 16, .inl fsu)), (mke, .inl (cI, 298, .inl fke)), (mik, .inl (cZ, 2, .inl fik))] H → va_D A [(aM, .inr (6, [.ref mN, .ref mkd, .ref mks, .ref mcd, .ref mpr, .ref msk, .ref mow, .ref mmi, .ref mst, .ref mbi, .ref msu, .ref mke, .ref mik, .int vka, .int viw])), (mN, .inl (cI, 9, .inl fN)), (mkd, .inl (cI, 8, .inl fkd)), (mks, .inl (cI, 8, .inl fks)), (mcd, .inl (cI, 12, .inl fcd)), (mpr, .inl (cI, 16, .inl fpr)), (msk, .inl (cI, 16, .inl fsk)), (mow, .inl (cI, 16, .inl fow)), (mmi, .inl (cI, 16, .inl fmi)), (mst, .inl (cI, 16, .inl fst)), (mbi, .inl (cI, 16, .inl fbi)), (msu, .inl (cI, 16, .inl fsu)), (mke, .inl (cI, 298, .inl fke)), (mik, .inl (cZ, 2, .inl fik))] → va_S A s.heap H locs → lv_has ls 3 [(0, .ref aM), (1, .int x1), (2, .int x2)] → fX6_auction_b62 fkd fks fcd n x1 x2 fN fpr fsk fow fmi fst fbi fsu = some (r, oN, opr, osk, oow, omi, ost, obi, osu) → W p l e rX6_auction s m args below meth c H locs 0 0 Q (F0 m 62 ls []) := by
    intro n
    induction n with
    | zero => intro x1 x2 fN fpr fsk fow fmi fst fbi fsu H locs ls hP hD hS hl h; exact absurd h (by rw [fX6_auction_b62]; exact fun z => by cases z)
    | succ n ih =>
      intro x1 x2 fN fpr fsk fow fmi fst fbi fsu H locs ls hP hD hS hl h
      rw [fX6_auction_b62] at h
      refine lv_iload_n hx hb dX6_auction_62 rfl (lv_at hl 2 rfl) ?_
      refine lv_if_eq (tgt := 175) hx hb dX6_auction_63 (by decide) (fun c2 => ?_) (fun c2 => ?_)
      · have h := (if_pos c2).symm.trans h
        refine lv_aload_n hx hb dX6_auction_175 rfl (lv_at hl 0 rfl) ?_
        refine va_get (D := D) (ci := 6) (v := .ref mN) (C := RX6) (T := TX6) (N := 15) hx hb hts i6 hown hK hP 0 rfl rfl 0 (by decide) (hts (.fieldLink RX6 7 RX6 "now" "[I") (List.mem_of_getElem? (i := 1) rfl)) (fun _ h9 => h9) rfl dX6_auction_176 ?_
        refine lv_iconst (v := (5 : Int32)) hx hb dX6_auction_179 (by decide) ?_
        refine lv_iconst (v := (1 : Int32)) hx hb dX6_auction_180 (by decide) ?_
        refine fr_iast (j := 5) hx hb hK hP hD hS 1 0 rfl rfl (by decide) (vin_of 5 9 (5 : Int32) (by decide) (by decide) (by decide)) dX6_auction_181 (fun H locs hP hD hS => ?_)
        have hP : va_P D vwCl [(aM, .inr (6, [.ref mN, .ref mkd, .ref mks, .ref mcd, .ref mpr, .ref msk, .ref mow, .ref mmi, .ref mst, .ref mbi, .ref msu, .ref mke, .ref mik, .int vka, .int viw])), (mN, .inl (cI, 9, .inl (upd fN 5 (1 : Int32)))), (mkd, .inl (cI, 8, .inl fkd)), (mks, .inl (cI, 8, .inl fks)), (mcd, .inl (cI, 12, .inl fcd)), (mpr, .inl (cI, 16, .inl fpr)), (msk, .inl (cI, 16, .inl fsk)), (mow, .inl (cI, 16, .inl fow)), (mmi, .inl (cI, 16, .inl fmi)), (mst, .inl (cI, 16, .inl fst)), (mbi, .inl (cI, 16, .inl fbi)), (msu, .inl (cI, 16, .inl fsu)), (mke, .inl (cI, 298, .inl fke)), (mik, .inl (cZ, 2, .inl fik))] H := hP
        have hD : va_D A [(aM, .inr (6, [.ref mN, .ref mkd, .ref mks, .ref mcd, .ref mpr, .ref msk, .ref mow, .ref mmi, .ref mst, .ref mbi, .ref msu, .ref mke, .ref mik, .int vka, .int viw])), (mN, .inl (cI, 9, .inl (upd fN 5 (1 : Int32)))), (mkd, .inl (cI, 8, .inl fkd)), (mks, .inl (cI, 8, .inl fks)), (mcd, .inl (cI, 12, .inl fcd)), (mpr, .inl (cI, 16, .inl fpr)), (msk, .inl (cI, 16, .inl fsk)), (mow, .inl (cI, 16, .inl fow)), (mmi, .inl (cI, 16, .inl fmi)), (mst, .inl (cI, 16, .inl fst)), (mbi, .inl (cI, 16, .inl fbi)), (msu, .inl (cI, 16, .inl fsu)), (mke, .inl (cI, 298, .inl fke)), (mik, .inl (cZ, 2, .inl fik))] := hD
        refine lv_aload_n hx hb dX6_auction_182 rfl (lv_at hl 0 rfl) ?_
        refine va_get (D := D) (ci := 6) (v := .ref mN) (C := RX6) (T := TX6) (N := 15) hx hb hts i6 hown hK hP 0 rfl rfl 0 (by decide) (hts (.fieldLink RX6 7 RX6 "now" "[I") (List.mem_of_getElem? (i := 1) rfl)) (fun _ h9 => h9) rfl dX6_auction_183 ?_
        refine lv_bipush (v := (6 : Int32)) hx hb dX6_auction_186 (by decide) ?_
        refine lv_iconst (v := (1 : Int32)) hx hb dX6_auction_188 (by decide) ?_
        refine fr_iast (j := 6) hx hb hK hP hD hS 1 0 rfl rfl (by decide) (vin_of 6 9 (6 : Int32) (by decide) (by decide) (by decide)) dX6_auction_189 (fun H locs hP hD hS => ?_)
        have hP : va_P D vwCl [(aM, .inr (6, [.ref mN, .ref mkd, .ref mks, .ref mcd, .ref mpr, .ref msk, .ref mow, .ref mmi, .ref mst, .ref mbi, .ref msu, .ref mke, .ref mik, .int vka, .int viw])), (mN, .inl (cI, 9, .inl (upd (upd fN 5 (1 : Int32)) 6 (1 : Int32)))), (mkd, .inl (cI, 8, .inl fkd)), (mks, .inl (cI, 8, .inl fks)), (mcd, .inl (cI, 12, .inl fcd)), (mpr, .inl (cI, 16, .inl fpr)), (msk, .inl (cI, 16, .inl fsk)), (mow, .inl (cI, 16, .inl fow)), (mmi, .inl (cI, 16, .inl fmi)), (mst, .inl (cI, 16, .inl fst)), (mbi, .inl (cI, 16, .inl fbi)), (msu, .inl (cI, 16, .inl fsu)), (mke, .inl (cI, 298, .inl fke)), (mik, .inl (cZ, 2, .inl fik))] H := hP
        have hD : va_D A [(aM, .inr (6, [.ref mN, .ref mkd, .ref mks, .ref mcd, .ref mpr, .ref msk, .ref mow, .ref mmi, .ref mst, .ref mbi, .ref msu, .ref mke, .ref mik, .int vka, .int viw])), (mN, .inl (cI, 9, .inl (upd (upd fN 5 (1 : Int32)) 6 (1 : Int32)))), (mkd, .inl (cI, 8, .inl fkd)), (mks, .inl (cI, 8, .inl fks)), (mcd, .inl (cI, 12, .inl fcd)), (mpr, .inl (cI, 16, .inl fpr)), (msk, .inl (cI, 16, .inl fsk)), (mow, .inl (cI, 16, .inl fow)), (mmi, .inl (cI, 16, .inl fmi)), (mst, .inl (cI, 16, .inl fst)), (mbi, .inl (cI, 16, .inl fbi)), (msu, .inl (cI, 16, .inl fsu)), (mke, .inl (cI, 298, .inl fke)), (mik, .inl (cZ, 2, .inl fik))] := hD
        refine lv_aload_n hx hb dX6_auction_190 rfl (lv_at hl 0 rfl) ?_
        refine va_get (D := D) (ci := 6) (v := .ref mN) (C := RX6) (T := TX6) (N := 15) hx hb hts i6 hown hK hP 0 rfl rfl 0 (by decide) (hts (.fieldLink RX6 7 RX6 "now" "[I") (List.mem_of_getElem? (i := 1) rfl)) (fun _ h9 => h9) rfl dX6_auction_191 ?_
        refine lv_bipush (v := (8 : Int32)) hx hb dX6_auction_194 (by decide) ?_
        refine fr_iald (j := 8) hx hb hK hP 1 0 rfl rfl (by decide) (vin_of 8 9 (8 : Int32) (by decide) (by decide) (by decide)) dX6_auction_196 ?_
        exact hret ((upd (upd fN 5 (1 : Int32)) 6 (1 : Int32)) 8) (upd (upd fN 5 (1 : Int32)) 6 (1 : Int32)) fpr fsk fow fmi fst fbi fsu 197 ls H locs rfl dX6_auction_197 hP hD hS h
      · have h := (if_neg c2).symm.trans h
        refine lv_aload_n hx hb dX6_auction_66 rfl (lv_at hl 0 rfl) ?_
        obtain ⟨fow_67, fmi_67, q_67, h⟩ := bd2_some h
        refine fr_rw_v (S := Unit) (wc := [(aM, .inr (6, [.ref mN, .ref mkd, .ref mks, .ref mcd, .ref mpr, .ref msk, .ref mow, .ref mmi, .ref mst, .ref mbi, .ref msu, .ref mke, .ref mik, .int vka, .int viw])), (mow, .inl (cI, 16, .inl fow)), (mmi, .inl (cI, 16, .inl fmi))]) (wc' := fun _ => [(aM, .inr (6, [.ref mN, .ref mkd, .ref mks, .ref mcd, .ref mpr, .ref msk, .ref mow, .ref mmi, .ref mst, .ref mbi, .ref msu, .ref mke, .ref mik, .int vka, .int viw])), (mow, .inl (cI, 16, .inl fow_67)), (mmi, .inl (cI, 16, .inl fmi_67))]) (wr := [(mN, .inl (cI, 9, .inl fN)), (mkd, .inl (cI, 8, .inl fkd)), (mks, .inl (cI, 8, .inl fks)), (mcd, .inl (cI, 12, .inl fcd)), (mpr, .inl (cI, 16, .inl fpr)), (msk, .inl (cI, 16, .inl fsk)), (mst, .inl (cI, 16, .inl fst)), (mbi, .inl (cI, 16, .inl fbi)), (msu, .inl (cI, 16, .inl fsu)), (mke, .inl (cI, 298, .inl fke)), (mik, .inl (cZ, 2, .inl fik))]) (w2 := fun _ => [(aM, .inr (6, [.ref mN, .ref mkd, .ref mks, .ref mcd, .ref mpr, .ref msk, .ref mow, .ref mmi, .ref mst, .ref mbi, .ref msu, .ref mke, .ref mik, .int vka, .int viw])), (mN, .inl (cI, 9, .inl fN)), (mkd, .inl (cI, 8, .inl fkd)), (mks, .inl (cI, 8, .inl fks)), (mcd, .inl (cI, 12, .inl fcd)), (mpr, .inl (cI, 16, .inl fpr)), (msk, .inl (cI, 16, .inl fsk)), (mow, .inl (cI, 16, .inl fow_67)), (mmi, .inl (cI, 16, .inl fmi_67)), (mst, .inl (cI, 16, .inl fst)), (mbi, .inl (cI, 16, .inl fbi)), (msu, .inl (cI, 16, .inl fsu)), (mke, .inl (cI, 298, .inl fke)), (mik, .inl (cZ, 2, .inl fik))]) (fr_Vv (As := []) (rest := []) (C := RX6) ⟨hx, hb, hml, hown, hts⟩ (tX6_freeAll aM mow mmi mN mkd mks mcd mpr msk mst mbi msu mke mik vka viw fow fmi fow_67 fmi_67 q_67) gX6_auction_X6_freeAll rfl (fr_preV (As := []) (b := aM) (ci := 6) (q0 := 0) (wc := [(aM, .inr (6, [.ref mN, .ref mkd, .ref mks, .ref mcd, .ref mpr, .ref msk, .ref mow, .ref mmi, .ref mst, .ref mbi, .ref msu, .ref mke, .ref mik, .int vka, .int viw])), (mow, .inl (cI, 16, .inl fow)), (mmi, .inl (cI, 16, .inl fmi))]) hK hN hP hD [0, 7, 8] (by decide) rfl rfl rfl) (n := 0) (by decide +kernel) ⟨Nat.le_of_ble_eq_true rfl, Nat.le_of_ble_eq_true rfl⟩ rfl hl.1 rfl (Nat.le_of_ble_eq_true rfl) dX6_auction_67 ⟨Nat.zero_le _, Nat.zero_le _⟩) hP hD hS hA [0, 7, 8] [1, 2, 3, 4, 5, 6, 9, 10, 11, 12, 13] [11, 0, 1, 2, 3, 4, 5, 12, 13, 6, 7, 8, 9, 10] rfl rfl (by decide) (by decide) (by decide) (fun _ => rfl) (c2 := 0) (s2 := 0) rfl rfl (fun _ H locs hP hD hS => ?_)
        refine lv_aload_n hx hb dX6_auction_70 rfl (lv_at hl 0 rfl) ?_
        refine va_get (D := D) (ci := 6) (v := .ref mst) (C := RX6) (T := TX6) (N := 15) hx hb hts i6 hown hK hP 0 rfl rfl 8 (by decide) (hts (.fieldLink RX6 34 RX6 "steps" "[I") (List.mem_of_getElem? (i := 2) rfl)) (fun _ h9 => h9) rfl dX6_auction_71 ?_
        refine lv_aload_n hx hb dX6_auction_74 rfl (lv_at hl 0 rfl) ?_
        refine va_get (D := D) (ci := 6) (v := .ref mN) (C := RX6) (T := TX6) (N := 15) hx hb hts i6 hown hK hP 0 rfl rfl 0 (by decide) (hts (.fieldLink RX6 7 RX6 "now" "[I") (List.mem_of_getElem? (i := 1) rfl)) (fun _ h9 => h9) rfl dX6_auction_75 ?_
        refine lv_bipush (v := (7 : Int32)) hx hb dX6_auction_78 (by decide) ?_
        refine fr_iald (j := 7) hx hb hK hP 1 0 rfl rfl (by decide) (vin_of 7 9 (7 : Int32) (by decide) (by decide) (by decide)) dX6_auction_80 ?_
        refine lv_iload_n hx hb dX6_auction_81 rfl (lv_at hl 1 rfl) ?_
        obtain ⟨g3, h⟩ := no_some h
        refine va_iast hx hb hK hP hD hS 9 0 rfl rfl g3 dX6_auction_82 (fun H locs hP hD hS => ?_)
        have hP : va_P D vwCl [(aM, .inr (6, [.ref mN, .ref mkd, .ref mks, .ref mcd, .ref mpr, .ref msk, .ref mow, .ref mmi, .ref mst, .ref mbi, .ref msu, .ref mke, .ref mik, .int vka, .int viw])), (mN, .inl (cI, 9, .inl fN)), (mkd, .inl (cI, 8, .inl fkd)), (mks, .inl (cI, 8, .inl fks)), (mcd, .inl (cI, 12, .inl fcd)), (mpr, .inl (cI, 16, .inl fpr)), (msk, .inl (cI, 16, .inl fsk)), (mow, .inl (cI, 16, .inl fow_67)), (mmi, .inl (cI, 16, .inl fmi_67)), (mst, .inl (cI, 16, .inl (upd fst ((fN 7).toNatClampNeg) x1))), (mbi, .inl (cI, 16, .inl fbi)), (msu, .inl (cI, 16, .inl fsu)), (mke, .inl (cI, 298, .inl fke)), (mik, .inl (cZ, 2, .inl fik))] H := hP
        have hD : va_D A [(aM, .inr (6, [.ref mN, .ref mkd, .ref mks, .ref mcd, .ref mpr, .ref msk, .ref mow, .ref mmi, .ref mst, .ref mbi, .ref msu, .ref mke, .ref mik, .int vka, .int viw])), (mN, .inl (cI, 9, .inl fN)), (mkd, .inl (cI, 8, .inl fkd)), (mks, .inl (cI, 8, .inl fks)), (mcd, .inl (cI, 12, .inl fcd)), (mpr, .inl (cI, 16, .inl fpr)), (msk, .inl (cI, 16, .inl fsk)), (mow, .inl (cI, 16, .inl fow_67)), (mmi, .inl (cI, 16, .inl fmi_67)), (mst, .inl (cI, 16, .inl (upd fst ((fN 7).toNatClampNeg) x1))), (mbi, .inl (cI, 16, .inl fbi)), (msu, .inl (cI, 16, .inl fsu)), (mke, .inl (cI, 298, .inl fke)), (mik, .inl (cZ, 2, .inl fik))] := hD
        refine lv_aload_n hx hb dX6_auction_83 rfl (lv_at hl 0 rfl) ?_
        refine va_get (D := D) (ci := 6) (v := .ref mbi) (C := RX6) (T := TX6) (N := 15) hx hb hts i6 hown hK hP 0 rfl rfl 9 (by decide) (hts (.fieldLink RX6 37 RX6 "bids" "[I") (List.mem_of_getElem? (i := 3) rfl)) (fun _ h9 => h9) rfl dX6_auction_84 ?_
        refine lv_aload_n hx hb dX6_auction_87 rfl (lv_at hl 0 rfl) ?_
        refine va_get (D := D) (ci := 6) (v := .ref mN) (C := RX6) (T := TX6) (N := 15) hx hb hts i6 hown hK hP 0 rfl rfl 0 (by decide) (hts (.fieldLink RX6 7 RX6 "now" "[I") (List.mem_of_getElem? (i := 1) rfl)) (fun _ h9 => h9) rfl dX6_auction_88 ?_
        refine lv_bipush (v := (7 : Int32)) hx hb dX6_auction_91 (by decide) ?_
        refine fr_iald (j := 7) hx hb hK hP 1 0 rfl rfl (by decide) (vin_of 7 9 (7 : Int32) (by decide) (by decide) (by decide)) dX6_auction_93 ?_
        refine lv_aload_n hx hb dX6_auction_94 rfl (lv_at hl 0 rfl) ?_
        refine lv_iload_n hx hb dX6_auction_95 rfl (lv_at hl 1 rfl) ?_
        obtain ⟨r_96, fpr_96, fow_96, fmi_96, q_96, h⟩ := bd4_some h
        refine fr_rw_i (S := Unit) (wc := [(aM, .inr (6, [.ref mN, .ref mkd, .ref mks, .ref mcd, .ref mpr, .ref msk, .ref mow, .ref mmi, .ref mst, .ref mbi, .ref msu, .ref mke, .ref mik, .int vka, .int viw])), (mN, .inl (cI, 9, .inl fN)), (mkd, .inl (cI, 8, .inl fkd)), (mcd, .inl (cI, 12, .inl fcd)), (mpr, .inl (cI, 16, .inl fpr)), (msk, .inl (cI, 16, .inl fsk)), (mow, .inl (cI, 16, .inl fow_67)), (mmi, .inl (cI, 16, .inl fmi_67))]) (wc' := fun _ => [(aM, .inr (6, [.ref mN, .ref mkd, .ref mks, .ref mcd, .ref mpr, .ref msk, .ref mow, .ref mmi, .ref mst, .ref mbi, .ref msu, .ref mke, .ref mik, .int vka, .int viw])), (mN, .inl (cI, 9, .inl fN)), (mkd, .inl (cI, 8, .inl fkd)), (mcd, .inl (cI, 12, .inl fcd)), (mpr, .inl (cI, 16, .inl fpr_96)), (msk, .inl (cI, 16, .inl fsk)), (mow, .inl (cI, 16, .inl fow_96)), (mmi, .inl (cI, 16, .inl fmi_96))]) (wr := [(mks, .inl (cI, 8, .inl fks)), (mst, .inl (cI, 16, .inl (upd fst ((fN 7).toNatClampNeg) x1))), (mbi, .inl (cI, 16, .inl fbi)), (msu, .inl (cI, 16, .inl fsu)), (mke, .inl (cI, 298, .inl fke)), (mik, .inl (cZ, 2, .inl fik))]) (w2 := fun _ => [(aM, .inr (6, [.ref mN, .ref mkd, .ref mks, .ref mcd, .ref mpr, .ref msk, .ref mow, .ref mmi, .ref mst, .ref mbi, .ref msu, .ref mke, .ref mik, .int vka, .int viw])), (mN, .inl (cI, 9, .inl fN)), (mkd, .inl (cI, 8, .inl fkd)), (mks, .inl (cI, 8, .inl fks)), (mcd, .inl (cI, 12, .inl fcd)), (mpr, .inl (cI, 16, .inl fpr_96)), (msk, .inl (cI, 16, .inl fsk)), (mow, .inl (cI, 16, .inl fow_96)), (mmi, .inl (cI, 16, .inl fmi_96)), (mst, .inl (cI, 16, .inl (upd fst ((fN 7).toNatClampNeg) x1))), (mbi, .inl (cI, 16, .inl fbi)), (msu, .inl (cI, 16, .inl fsu)), (mke, .inl (cI, 298, .inl fke)), (mik, .inl (cZ, 2, .inl fik))]) (fr_V (As := [.int x1]) (rest := [.int (fN 7), .ref mbi]) (C := RX6) ⟨hx, hb, hml, hown, hts⟩ (tX6_phaseOf aM mN mkd mcd mpr msk mow mmi mks mst mbi msu mke mik vka viw fN fkd fcd fpr fsk fow_67 fmi_67 x1 r_96 fpr_96 fow_96 fmi_96 q_96) gX6_auction_X6_phaseOf rfl (fr_preV (As := [.int x1]) (b := aM) (ci := 6) (q0 := 0) (wc := [(aM, .inr (6, [.ref mN, .ref mkd, .ref mks, .ref mcd, .ref mpr, .ref msk, .ref mow, .ref mmi, .ref mst, .ref mbi, .ref msu, .ref mke, .ref mik, .int vka, .int viw])), (mN, .inl (cI, 9, .inl fN)), (mkd, .inl (cI, 8, .inl fkd)), (mcd, .inl (cI, 12, .inl fcd)), (mpr, .inl (cI, 16, .inl fpr)), (msk, .inl (cI, 16, .inl fsk)), (mow, .inl (cI, 16, .inl fow_67)), (mmi, .inl (cI, 16, .inl fmi_67))]) hK hN hP hD [0, 1, 2, 4, 5, 6, 7, 8] (by decide) rfl rfl rfl) (n := 1) (by decide +kernel) ⟨Nat.le_of_ble_eq_true rfl, Nat.le_of_ble_eq_true rfl⟩ rfl hl.1 rfl (Nat.le_of_ble_eq_true rfl) dX6_auction_96 ⟨Nat.zero_le _, Nat.zero_le _⟩) hP hD hS hA [0, 1, 2, 4, 5, 6, 7, 8] [3, 9, 10, 11, 12, 13] [6, 7, 8, 0, 9, 10, 11, 12, 13, 1, 2, 3, 4, 5] rfl rfl (by decide) (by decide) (by decide) (fun _ => rfl) (c2 := 0) (s2 := 0) rfl rfl (fun _ H locs hP hD hS => ?_)
        obtain ⟨g4, h⟩ := no_some h
        refine va_iast hx hb hK hP hD hS 10 0 rfl rfl g4 dX6_auction_99 (fun H locs hP hD hS => ?_)
        have hP : va_P D vwCl [(aM, .inr (6, [.ref mN, .ref mkd, .ref mks, .ref mcd, .ref mpr, .ref msk, .ref mow, .ref mmi, .ref mst, .ref mbi, .ref msu, .ref mke, .ref mik, .int vka, .int viw])), (mN, .inl (cI, 9, .inl fN)), (mkd, .inl (cI, 8, .inl fkd)), (mks, .inl (cI, 8, .inl fks)), (mcd, .inl (cI, 12, .inl fcd)), (mpr, .inl (cI, 16, .inl fpr_96)), (msk, .inl (cI, 16, .inl fsk)), (mow, .inl (cI, 16, .inl fow_96)), (mmi, .inl (cI, 16, .inl fmi_96)), (mst, .inl (cI, 16, .inl (upd fst ((fN 7).toNatClampNeg) x1))), (mbi, .inl (cI, 16, .inl (upd fbi ((fN 7).toNatClampNeg) r_96))), (msu, .inl (cI, 16, .inl fsu)), (mke, .inl (cI, 298, .inl fke)), (mik, .inl (cZ, 2, .inl fik))] H := hP
        have hD : va_D A [(aM, .inr (6, [.ref mN, .ref mkd, .ref mks, .ref mcd, .ref mpr, .ref msk, .ref mow, .ref mmi, .ref mst, .ref mbi, .ref msu, .ref mke, .ref mik, .int vka, .int viw])), (mN, .inl (cI, 9, .inl fN)), (mkd, .inl (cI, 8, .inl fkd)), (mks, .inl (cI, 8, .inl fks)), (mcd, .inl (cI, 12, .inl fcd)), (mpr, .inl (cI, 16, .inl fpr_96)), (msk, .inl (cI, 16, .inl fsk)), (mow, .inl (cI, 16, .inl fow_96)), (mmi, .inl (cI, 16, .inl fmi_96)), (mst, .inl (cI, 16, .inl (upd fst ((fN 7).toNatClampNeg) x1))), (mbi, .inl (cI, 16, .inl (upd fbi ((fN 7).toNatClampNeg) r_96))), (msu, .inl (cI, 16, .inl fsu)), (mke, .inl (cI, 298, .inl fke)), (mik, .inl (cZ, 2, .inl fik))] := hD
        refine lv_aload_n hx hb dX6_auction_100 rfl (lv_at hl 0 rfl) ?_
        refine va_get (D := D) (ci := 6) (v := .ref msu) (C := RX6) (T := TX6) (N := 15) hx hb hts i6 hown hK hP 0 rfl rfl 10 (by decide) (hts (.fieldLink RX6 40 RX6 "sums" "[I") (List.mem_of_getElem? (i := 4) rfl)) (fun _ h9 => h9) rfl dX6_auction_101 ?_
        refine lv_aload_n hx hb dX6_auction_104 rfl (lv_at hl 0 rfl) ?_
        refine va_get (D := D) (ci := 6) (v := .ref mN) (C := RX6) (T := TX6) (N := 15) hx hb hts i6 hown hK hP 0 rfl rfl 0 (by decide) (hts (.fieldLink RX6 7 RX6 "now" "[I") (List.mem_of_getElem? (i := 1) rfl)) (fun _ h9 => h9) rfl dX6_auction_105 ?_
        refine lv_bipush (v := (7 : Int32)) hx hb dX6_auction_108 (by decide) ?_
        refine fr_iald (j := 7) hx hb hK hP 1 0 rfl rfl (by decide) (vin_of 7 9 (7 : Int32) (by decide) (by decide) (by decide)) dX6_auction_110 ?_
        refine lv_aload_n hx hb dX6_auction_111 rfl (lv_at hl 0 rfl) ?_
        obtain ⟨r_112, q_112, h⟩ := bd1_some h
        refine fr_ro_i (S := Unit) (wc := [(aM, .inr (6, [.ref mN, .ref mkd, .ref mks, .ref mcd, .ref mpr, .ref msk, .ref mow, .ref mmi, .ref mst, .ref mbi, .ref msu, .ref mke, .ref mik, .int vka, .int viw])), (mN, .inl (cI, 9, .inl fN)), (mkd, .inl (cI, 8, .inl fkd)), (mcd, .inl (cI, 12, .inl fcd)), (msk, .inl (cI, 16, .inl fsk)), (mmi, .inl (cI, 16, .inl fmi_96))]) (fr_V (As := []) (rest := [.int (fN 7), .ref msu]) (C := RX6) ⟨hx, hb, hml, hown, hts⟩ (tX6_sumOf aM mN mkd mcd msk mmi mks mpr mow mst mbi msu mke mik vka viw fN fkd fcd fsk fmi_96 r_112 q_112) gX6_auction_X6_sumOf rfl (fr_preV (As := []) (b := aM) (ci := 6) (q0 := 0) (wc := [(aM, .inr (6, [.ref mN, .ref mkd, .ref mks, .ref mcd, .ref mpr, .ref msk, .ref mow, .ref mmi, .ref mst, .ref mbi, .ref msu, .ref mke, .ref mik, .int vka, .int viw])), (mN, .inl (cI, 9, .inl fN)), (mkd, .inl (cI, 8, .inl fkd)), (mcd, .inl (cI, 12, .inl fcd)), (msk, .inl (cI, 16, .inl fsk)), (mmi, .inl (cI, 16, .inl fmi_96))]) hK hN hP hD [0, 1, 2, 4, 6, 8] (by decide) rfl rfl rfl) (n := 0) (by decide +kernel) ⟨Nat.le_of_ble_eq_true rfl, Nat.le_of_ble_eq_true rfl⟩ rfl hl.1 rfl (Nat.le_of_ble_eq_true rfl) dX6_auction_112 ⟨Nat.zero_le _, Nat.zero_le _⟩) hP hD hS hA [0, 1, 2, 4, 6, 8] rfl (c2 := 0) (s2 := 0) rfl rfl (fun H locs hP hS => ?_)
        obtain ⟨g5, h⟩ := no_some h
        refine va_iast hx hb hK hP hD hS 11 0 rfl rfl g5 dX6_auction_115 (fun H locs hP hD hS => ?_)
        have hP : va_P D vwCl [(aM, .inr (6, [.ref mN, .ref mkd, .ref mks, .ref mcd, .ref mpr, .ref msk, .ref mow, .ref mmi, .ref mst, .ref mbi, .ref msu, .ref mke, .ref mik, .int vka, .int viw])), (mN, .inl (cI, 9, .inl fN)), (mkd, .inl (cI, 8, .inl fkd)), (mks, .inl (cI, 8, .inl fks)), (mcd, .inl (cI, 12, .inl fcd)), (mpr, .inl (cI, 16, .inl fpr_96)), (msk, .inl (cI, 16, .inl fsk)), (mow, .inl (cI, 16, .inl fow_96)), (mmi, .inl (cI, 16, .inl fmi_96)), (mst, .inl (cI, 16, .inl (upd fst ((fN 7).toNatClampNeg) x1))), (mbi, .inl (cI, 16, .inl (upd fbi ((fN 7).toNatClampNeg) r_96))), (msu, .inl (cI, 16, .inl (upd fsu ((fN 7).toNatClampNeg) r_112))), (mke, .inl (cI, 298, .inl fke)), (mik, .inl (cZ, 2, .inl fik))] H := hP
        have hD : va_D A [(aM, .inr (6, [.ref mN, .ref mkd, .ref mks, .ref mcd, .ref mpr, .ref msk, .ref mow, .ref mmi, .ref mst, .ref mbi, .ref msu, .ref mke, .ref mik, .int vka, .int viw])), (mN, .inl (cI, 9, .inl fN)), (mkd, .inl (cI, 8, .inl fkd)), (mks, .inl (cI, 8, .inl fks)), (mcd, .inl (cI, 12, .inl fcd)), (mpr, .inl (cI, 16, .inl fpr_96)), (msk, .inl (cI, 16, .inl fsk)), (mow, .inl (cI, 16, .inl fow_96)), (mmi, .inl (cI, 16, .inl fmi_96)), (mst, .inl (cI, 16, .inl (upd fst ((fN 7).toNatClampNeg) x1))), (mbi, .inl (cI, 16, .inl (upd fbi ((fN 7).toNatClampNeg) r_96))), (msu, .inl (cI, 16, .inl (upd fsu ((fN 7).toNatClampNeg) r_112))), (mke, .inl (cI, 298, .inl fke)), (mik, .inl (cZ, 2, .inl fik))] := hD
        refine lv_aload_n hx hb dX6_auction_116 rfl (lv_at hl 0 rfl) ?_
        refine va_get (D := D) (ci := 6) (v := .ref mN) (C := RX6) (T := TX6) (N := 15) hx hb hts i6 hown hK hP 0 rfl rfl 0 (by decide) (hts (.fieldLink RX6 7 RX6 "now" "[I") (List.mem_of_getElem? (i := 1) rfl)) (fun _ h9 => h9) rfl dX6_auction_117 ?_
        refine lv_bipush (v := (8 : Int32)) hx hb dX6_auction_120 (by decide) ?_
        refine lv_dup2_11 hx hb dX6_auction_122 rfl rfl ?_
        refine fr_iald (j := 8) hx hb hK hP 1 0 rfl rfl (by decide) (vin_of 8 9 (8 : Int32) (by decide) (by decide) (by decide)) dX6_auction_123 ?_
        refine lv_aload_n hx hb dX6_auction_124 rfl (lv_at hl 0 rfl) ?_
        refine va_get (D := D) (ci := 6) (v := .ref mbi) (C := RX6) (T := TX6) (N := 15) hx hb hts i6 hown hK hP 0 rfl rfl 9 (by decide) (hts (.fieldLink RX6 37 RX6 "bids" "[I") (List.mem_of_getElem? (i := 3) rfl)) (fun _ h9 => h9) rfl dX6_auction_125 ?_
        refine lv_aload_n hx hb dX6_auction_128 rfl (lv_at hl 0 rfl) ?_
        refine va_get (D := D) (ci := 6) (v := .ref mN) (C := RX6) (T := TX6) (N := 15) hx hb hts i6 hown hK hP 0 rfl rfl 0 (by decide) (hts (.fieldLink RX6 7 RX6 "now" "[I") (List.mem_of_getElem? (i := 1) rfl)) (fun _ h9 => h9) rfl dX6_auction_129 ?_
        refine lv_bipush (v := (7 : Int32)) hx hb dX6_auction_132 (by decide) ?_
        refine fr_iald (j := 7) hx hb hK hP 1 0 rfl rfl (by decide) (vin_of 7 9 (7 : Int32) (by decide) (by decide) (by decide)) dX6_auction_134 ?_
        obtain ⟨g6, h⟩ := no_some h
        refine va_iald hx hb hK hP 10 0 rfl rfl g6 dX6_auction_135 ?_
        refine lv_iadd hx hb dX6_auction_136 ?_
        refine fr_iast (j := 8) hx hb hK hP hD hS 1 0 rfl rfl (by decide) (vin_of 8 9 (8 : Int32) (by decide) (by decide) (by decide)) dX6_auction_137 (fun H locs hP hD hS => ?_)
        have hP : va_P D vwCl [(aM, .inr (6, [.ref mN, .ref mkd, .ref mks, .ref mcd, .ref mpr, .ref msk, .ref mow, .ref mmi, .ref mst, .ref mbi, .ref msu, .ref mke, .ref mik, .int vka, .int viw])), (mN, .inl (cI, 9, .inl (upd fN 8 ((fN 8) + ((upd fbi ((fN 7).toNatClampNeg) r_96) ((fN 7).toNatClampNeg)))))), (mkd, .inl (cI, 8, .inl fkd)), (mks, .inl (cI, 8, .inl fks)), (mcd, .inl (cI, 12, .inl fcd)), (mpr, .inl (cI, 16, .inl fpr_96)), (msk, .inl (cI, 16, .inl fsk)), (mow, .inl (cI, 16, .inl fow_96)), (mmi, .inl (cI, 16, .inl fmi_96)), (mst, .inl (cI, 16, .inl (upd fst ((fN 7).toNatClampNeg) x1))), (mbi, .inl (cI, 16, .inl (upd fbi ((fN 7).toNatClampNeg) r_96))), (msu, .inl (cI, 16, .inl (upd fsu ((fN 7).toNatClampNeg) r_112))), (mke, .inl (cI, 298, .inl fke)), (mik, .inl (cZ, 2, .inl fik))] H := hP
        have hD : va_D A [(aM, .inr (6, [.ref mN, .ref mkd, .ref mks, .ref mcd, .ref mpr, .ref msk, .ref mow, .ref mmi, .ref mst, .ref mbi, .ref msu, .ref mke, .ref mik, .int vka, .int viw])), (mN, .inl (cI, 9, .inl (upd fN 8 ((fN 8) + ((upd fbi ((fN 7).toNatClampNeg) r_96) ((fN 7).toNatClampNeg)))))), (mkd, .inl (cI, 8, .inl fkd)), (mks, .inl (cI, 8, .inl fks)), (mcd, .inl (cI, 12, .inl fcd)), (mpr, .inl (cI, 16, .inl fpr_96)), (msk, .inl (cI, 16, .inl fsk)), (mow, .inl (cI, 16, .inl fow_96)), (mmi, .inl (cI, 16, .inl fmi_96)), (mst, .inl (cI, 16, .inl (upd fst ((fN 7).toNatClampNeg) x1))), (mbi, .inl (cI, 16, .inl (upd fbi ((fN 7).toNatClampNeg) r_96))), (msu, .inl (cI, 16, .inl (upd fsu ((fN 7).toNatClampNeg) r_112))), (mke, .inl (cI, 298, .inl fke)), (mik, .inl (cZ, 2, .inl fik))] := hD
        refine lv_aload_n hx hb dX6_auction_138 rfl (lv_at hl 0 rfl) ?_
        refine va_get (D := D) (ci := 6) (v := .ref mN) (C := RX6) (T := TX6) (N := 15) hx hb hts i6 hown hK hP 0 rfl rfl 0 (by decide) (hts (.fieldLink RX6 7 RX6 "now" "[I") (List.mem_of_getElem? (i := 1) rfl)) (fun _ h9 => h9) rfl dX6_auction_139 ?_
        refine lv_bipush (v := (7 : Int32)) hx hb dX6_auction_142 (by decide) ?_
        refine lv_dup2_11 hx hb dX6_auction_144 rfl rfl ?_
        refine fr_iald (j := 7) hx hb hK hP 1 0 rfl rfl (by decide) (vin_of 7 9 (7 : Int32) (by decide) (by decide) (by decide)) dX6_auction_145 ?_
        refine lv_iconst (v := (1 : Int32)) hx hb dX6_auction_146 (by decide) ?_
        refine lv_iadd hx hb dX6_auction_147 ?_
        refine fr_iast (j := 7) hx hb hK hP hD hS 1 0 rfl rfl (by decide) (vin_of 7 9 (7 : Int32) (by decide) (by decide) (by decide)) dX6_auction_148 (fun H locs hP hD hS => ?_)
        have hP : va_P D vwCl [(aM, .inr (6, [.ref mN, .ref mkd, .ref mks, .ref mcd, .ref mpr, .ref msk, .ref mow, .ref mmi, .ref mst, .ref mbi, .ref msu, .ref mke, .ref mik, .int vka, .int viw])), (mN, .inl (cI, 9, .inl (upd (upd fN 8 ((fN 8) + ((upd fbi ((fN 7).toNatClampNeg) r_96) ((fN 7).toNatClampNeg)))) 7 (((upd fN 8 ((fN 8) + ((upd fbi ((fN 7).toNatClampNeg) r_96) ((fN 7).toNatClampNeg)))) 7) + (1 : Int32))))), (mkd, .inl (cI, 8, .inl fkd)), (mks, .inl (cI, 8, .inl fks)), (mcd, .inl (cI, 12, .inl fcd)), (mpr, .inl (cI, 16, .inl fpr_96)), (msk, .inl (cI, 16, .inl fsk)), (mow, .inl (cI, 16, .inl fow_96)), (mmi, .inl (cI, 16, .inl fmi_96)), (mst, .inl (cI, 16, .inl (upd fst ((fN 7).toNatClampNeg) x1))), (mbi, .inl (cI, 16, .inl (upd fbi ((fN 7).toNatClampNeg) r_96))), (msu, .inl (cI, 16, .inl (upd fsu ((fN 7).toNatClampNeg) r_112))), (mke, .inl (cI, 298, .inl fke)), (mik, .inl (cZ, 2, .inl fik))] H := hP
        have hD : va_D A [(aM, .inr (6, [.ref mN, .ref mkd, .ref mks, .ref mcd, .ref mpr, .ref msk, .ref mow, .ref mmi, .ref mst, .ref mbi, .ref msu, .ref mke, .ref mik, .int vka, .int viw])), (mN, .inl (cI, 9, .inl (upd (upd fN 8 ((fN 8) + ((upd fbi ((fN 7).toNatClampNeg) r_96) ((fN 7).toNatClampNeg)))) 7 (((upd fN 8 ((fN 8) + ((upd fbi ((fN 7).toNatClampNeg) r_96) ((fN 7).toNatClampNeg)))) 7) + (1 : Int32))))), (mkd, .inl (cI, 8, .inl fkd)), (mks, .inl (cI, 8, .inl fks)), (mcd, .inl (cI, 12, .inl fcd)), (mpr, .inl (cI, 16, .inl fpr_96)), (msk, .inl (cI, 16, .inl fsk)), (mow, .inl (cI, 16, .inl fow_96)), (mmi, .inl (cI, 16, .inl fmi_96)), (mst, .inl (cI, 16, .inl (upd fst ((fN 7).toNatClampNeg) x1))), (mbi, .inl (cI, 16, .inl (upd fbi ((fN 7).toNatClampNeg) r_96))), (msu, .inl (cI, 16, .inl (upd fsu ((fN 7).toNatClampNeg) r_112))), (mke, .inl (cI, 298, .inl fke)), (mik, .inl (cZ, 2, .inl fik))] := hD
        refine lv_iload_n hx hb dX6_auction_149 rfl (lv_at hl 1 rfl) ?_
        refine lv_iconst (v := (1 : Int32)) hx hb dX6_auction_150 (by decide) ?_
        refine lv_icmp_le (tgt := 158) hx hb dX6_auction_151 (by decide) (fun c7 => ?_) (fun c7 => ?_)
        · have h := (if_pos c7).symm.trans h
          refine lv_iconst (v := (0 : Int32)) hx hb dX6_auction_158 (by decide) ?_
          exact hb159 (fun x1 x2 fN fpr fsk fow fmi fst fbi fsu => fX6_auction_b62 fkd fks fcd n x1 x2 fN fpr fsk fow fmi fst fbi fsu) ih x1 (0 : Int32) (upd (upd fN 8 ((fN 8) + ((upd fbi ((fN 7).toNatClampNeg) r_96) ((fN 7).toNatClampNeg)))) 7 (((upd fN 8 ((fN 8) + ((upd fbi ((fN 7).toNatClampNeg) r_96) ((fN 7).toNatClampNeg)))) 7) + (1 : Int32))) fpr_96 fsk fow_96 fmi_96 (upd fst ((fN 7).toNatClampNeg) x1) (upd fbi ((fN 7).toNatClampNeg) r_96) (upd fsu ((fN 7).toNatClampNeg) r_112) H locs ls hP hD hS (lv_sub hl [0, 1] rfl) h
        · have h := (if_neg c7).symm.trans h
          refine lv_iconst (v := (1 : Int32)) hx hb dX6_auction_154 (by decide) ?_
          refine lv_goto (tgt := 159) hx hb dX6_auction_155 (by decide) ?_
          exact hb159 (fun x1 x2 fN fpr fsk fow fmi fst fbi fsu => fX6_auction_b62 fkd fks fcd n x1 x2 fN fpr fsk fow fmi fst fbi fsu) ih x1 (1 : Int32) (upd (upd fN 8 ((fN 8) + ((upd fbi ((fN 7).toNatClampNeg) r_96) ((fN 7).toNatClampNeg)))) 7 (((upd fN 8 ((fN 8) + ((upd fbi ((fN 7).toNatClampNeg) r_96) ((fN 7).toNatClampNeg)))) 7) + (1 : Int32))) fpr_96 fsk fow_96 fmi_96 (upd fst ((fN 7).toNatClampNeg) x1) (upd fbi ((fN 7).toNatClampNeg) r_96) (upd fsu ((fN 7).toNatClampNeg) r_112) H locs ls hP hD hS (lv_sub hl [0, 1] rfl) h
  unfold fX6_auction at h
  obtain ⟨H, hH⟩ : ∃ H, H = s.heap := ⟨_, rfl⟩
  have hP : va_P D vwCl [(aM, .inr (6, [.ref mN, .ref mkd, .ref mks, .ref mcd, .ref mpr, .ref msk, .ref mow, .ref mmi, .ref mst, .ref mbi, .ref msu, .ref mke, .ref mik, .int vka, .int viw])), (mN, .inl (cI, 9, .inl fN)), (mkd, .inl (cI, 8, .inl fkd)), (mks, .inl (cI, 8, .inl fks)), (mcd, .inl (cI, 12, .inl fcd)), (mpr, .inl (cI, 16, .inl fpr)), (msk, .inl (cI, 16, .inl fsk)), (mow, .inl (cI, 16, .inl fow)), (mmi, .inl (cI, 16, .inl fmi)), (mst, .inl (cI, 16, .inl fst)), (mbi, .inl (cI, 16, .inl fbi)), (msu, .inl (cI, 16, .inl fsu)), (mke, .inl (cI, 298, .inl fke)), (mik, .inl (cZ, 2, .inl fik))] H := by rw [hH]; exact hP
  obtain ⟨locs, hlocs⟩ : ∃ x : List Loc, x = [] := ⟨_, rfl⟩
  have hS : va_S A s.heap H locs := by rw [hH, hlocs]; exact hS
  suffices hgo : W p l e rX6_auction s m args below meth c H locs 0 0 Q (F0 m 0 ls []) by rw [hH, hlocs] at hgo; exact hgo
  refine lv_aload_n hx hb dX6_auction_0 rfl (lv_at hl 0 rfl) ?_
  obtain ⟨r_1, q_1, h⟩ := bd1_some h
  refine fr_ro_i (S := Unit) (wc := [(aM, .inr (6, [.ref mN, .ref mkd, .ref mks, .ref mcd, .ref mpr, .ref msk, .ref mow, .ref mmi, .ref mst, .ref mbi, .ref msu, .ref mke, .ref mik, .int vka, .int viw])), (mN, .inl (cI, 9, .inl fN)), (mks, .inl (cI, 8, .inl fks))]) (fr_V (As := []) (rest := []) (C := RX6) ⟨hx, hb, hml, hown, hts⟩ (tX6_stocks aM mN mks mkd mcd mpr msk mow mmi mst mbi msu mke mik vka viw fN fks r_1 q_1) gX6_auction_X6_stocks rfl (fr_preV (As := []) (b := aM) (ci := 6) (q0 := 0) (wc := [(aM, .inr (6, [.ref mN, .ref mkd, .ref mks, .ref mcd, .ref mpr, .ref msk, .ref mow, .ref mmi, .ref mst, .ref mbi, .ref msu, .ref mke, .ref mik, .int vka, .int viw])), (mN, .inl (cI, 9, .inl fN)), (mks, .inl (cI, 8, .inl fks))]) hK hN hP hD [0, 1, 3] (by decide) rfl rfl rfl) (n := 0) (by decide +kernel) ⟨Nat.le_of_ble_eq_true rfl, Nat.le_of_ble_eq_true rfl⟩ rfl hl.1 rfl (Nat.le_of_ble_eq_true rfl) dX6_auction_1 ⟨Nat.zero_le _, Nat.zero_le _⟩) hP hD hS hA [0, 1, 3] rfl (c2 := 0) (s2 := 0) rfl rfl (fun H locs hP hS => ?_)
  refine lv_if_eq (tgt := 18) hx hb dX6_auction_4 (by decide) (fun c8 => ?_) (fun c8 => ?_)
  · have h := (if_pos c8).symm.trans h
    refine lv_bipush (v := (-5 : Int32)) hx hb dX6_auction_18 (by decide) ?_
    exact hret (-5 : Int32) fN fpr fsk fow fmi fst fbi fsu 20 ls H locs rfl dX6_auction_20 hP hD hS h
  · have h := (if_neg c8).symm.trans h
    refine lv_aload_n hx hb dX6_auction_7 rfl (lv_at hl 0 rfl) ?_
    obtain ⟨r_8, q_8, h⟩ := bd1_some h
    refine fr_ro_i (S := Unit) (wc := [(aM, .inr (6, [.ref mN, .ref mkd, .ref mks, .ref mcd, .ref mpr, .ref msk, .ref mow, .ref mmi, .ref mst, .ref mbi, .ref msu, .ref mke, .ref mik, .int vka, .int viw])), (mN, .inl (cI, 9, .inl fN)), (mks, .inl (cI, 8, .inl fks))]) (fr_V (As := []) (rest := []) (C := RX6) ⟨hx, hb, hml, hown, hts⟩ (tX6_stocks aM mN mks mkd mcd mpr msk mow mmi mst mbi msu mke mik vka viw fN fks r_8 q_8) gX6_auction_X6_stocks rfl (fr_preV (As := []) (b := aM) (ci := 6) (q0 := 0) (wc := [(aM, .inr (6, [.ref mN, .ref mkd, .ref mks, .ref mcd, .ref mpr, .ref msk, .ref mow, .ref mmi, .ref mst, .ref mbi, .ref msu, .ref mke, .ref mik, .int vka, .int viw])), (mN, .inl (cI, 9, .inl fN)), (mks, .inl (cI, 8, .inl fks))]) hK hN hP hD [0, 1, 3] (by decide) rfl rfl rfl) (n := 0) (by decide +kernel) ⟨Nat.le_of_ble_eq_true rfl, Nat.le_of_ble_eq_true rfl⟩ rfl hl.1 rfl (Nat.le_of_ble_eq_true rfl) dX6_auction_8 ⟨Nat.zero_le _, Nat.zero_le _⟩) hP hD hS hA [0, 1, 3] rfl (c2 := 0) (s2 := 0) rfl rfl (fun H locs hP hS => ?_)
    refine lv_aload_n hx hb dX6_auction_11 rfl (lv_at hl 0 rfl) ?_
    obtain ⟨r_12, q_12, h⟩ := bd1_some h
    refine fr_ro_i (S := Unit) (wc := [(aM, .inr (6, [.ref mN, .ref mkd, .ref mks, .ref mcd, .ref mpr, .ref msk, .ref mow, .ref mmi, .ref mst, .ref mbi, .ref msu, .ref mke, .ref mik, .int vka, .int viw])), (mN, .inl (cI, 9, .inl fN))]) (fr_V (As := []) (rest := [.int r_8]) (C := RX6) ⟨hx, hb, hml, hown, hts⟩ (tX6_cells aM mN mkd mks mcd mpr msk mow mmi mst mbi msu mke mik vka viw fN r_12 q_12) gX6_auction_X6_cells rfl (fr_preV (As := []) (b := aM) (ci := 6) (q0 := 0) (wc := [(aM, .inr (6, [.ref mN, .ref mkd, .ref mks, .ref mcd, .ref mpr, .ref msk, .ref mow, .ref mmi, .ref mst, .ref mbi, .ref msu, .ref mke, .ref mik, .int vka, .int viw])), (mN, .inl (cI, 9, .inl fN))]) hK hN hP hD [0, 1] (by decide) rfl rfl rfl) (n := 0) (by decide +kernel) ⟨Nat.le_of_ble_eq_true rfl, Nat.le_of_ble_eq_true rfl⟩ rfl hl.1 rfl (Nat.le_of_ble_eq_true rfl) dX6_auction_12 ⟨Nat.zero_le _, Nat.zero_le _⟩) hP hD hS hA [0, 1] rfl (c2 := 0) (s2 := 0) rfl rfl (fun H locs hP hS => ?_)
    refine lv_icmp_ge (tgt := 21) hx hb dX6_auction_15 (by decide) (fun c9 => ?_) (fun c9 => ?_)
    · have h := (if_pos c9).symm.trans h
      refine lv_aload_n hx hb dX6_auction_21 rfl (lv_at hl 0 rfl) ?_
      obtain ⟨fN_22, fpr_22, fsk_22, q_22, h⟩ := bd3_some h
      refine fr_rw_v (S := Unit) (wc := [(aM, .inr (6, [.ref mN, .ref mkd, .ref mks, .ref mcd, .ref mpr, .ref msk, .ref mow, .ref mmi, .ref mst, .ref mbi, .ref msu, .ref mke, .ref mik, .int vka, .int viw])), (mN, .inl (cI, 9, .inl fN)), (mks, .inl (cI, 8, .inl fks)), (mpr, .inl (cI, 16, .inl fpr)), (msk, .inl (cI, 16, .inl fsk))]) (wc' := fun _ => [(aM, .inr (6, [.ref mN, .ref mkd, .ref mks, .ref mcd, .ref mpr, .ref msk, .ref mow, .ref mmi, .ref mst, .ref mbi, .ref msu, .ref mke, .ref mik, .int vka, .int viw])), (mN, .inl (cI, 9, .inl fN_22)), (mks, .inl (cI, 8, .inl fks)), (mpr, .inl (cI, 16, .inl fpr_22)), (msk, .inl (cI, 16, .inl fsk_22))]) (wr := [(mkd, .inl (cI, 8, .inl fkd)), (mcd, .inl (cI, 12, .inl fcd)), (mow, .inl (cI, 16, .inl fow)), (mmi, .inl (cI, 16, .inl fmi)), (mst, .inl (cI, 16, .inl fst)), (mbi, .inl (cI, 16, .inl fbi)), (msu, .inl (cI, 16, .inl fsu)), (mke, .inl (cI, 298, .inl fke)), (mik, .inl (cZ, 2, .inl fik))]) (w2 := fun _ => [(aM, .inr (6, [.ref mN, .ref mkd, .ref mks, .ref mcd, .ref mpr, .ref msk, .ref mow, .ref mmi, .ref mst, .ref mbi, .ref msu, .ref mke, .ref mik, .int vka, .int viw])), (mN, .inl (cI, 9, .inl fN_22)), (mkd, .inl (cI, 8, .inl fkd)), (mks, .inl (cI, 8, .inl fks)), (mcd, .inl (cI, 12, .inl fcd)), (mpr, .inl (cI, 16, .inl fpr_22)), (msk, .inl (cI, 16, .inl fsk_22)), (mow, .inl (cI, 16, .inl fow)), (mmi, .inl (cI, 16, .inl fmi)), (mst, .inl (cI, 16, .inl fst)), (mbi, .inl (cI, 16, .inl fbi)), (msu, .inl (cI, 16, .inl fsu)), (mke, .inl (cI, 298, .inl fke)), (mik, .inl (cZ, 2, .inl fik))]) (fr_Vv (As := []) (rest := []) (C := RX6) ⟨hx, hb, hml, hown, hts⟩ (tX6_laySlots aM mN mks mpr msk mkd mcd mow mmi mst mbi msu mke mik vka viw fN fks fpr fsk fN_22 fpr_22 fsk_22 q_22) gX6_auction_X6_laySlots rfl (fr_preV (As := []) (b := aM) (ci := 6) (q0 := 0) (wc := [(aM, .inr (6, [.ref mN, .ref mkd, .ref mks, .ref mcd, .ref mpr, .ref msk, .ref mow, .ref mmi, .ref mst, .ref mbi, .ref msu, .ref mke, .ref mik, .int vka, .int viw])), (mN, .inl (cI, 9, .inl fN)), (mks, .inl (cI, 8, .inl fks)), (mpr, .inl (cI, 16, .inl fpr)), (msk, .inl (cI, 16, .inl fsk))]) hK hN hP hD [0, 1, 3, 5, 6] (by decide) rfl rfl rfl) (n := 0) (by decide +kernel) ⟨Nat.le_of_ble_eq_true rfl, Nat.le_of_ble_eq_true rfl⟩ rfl hl.1 rfl (Nat.le_of_ble_eq_true rfl) dX6_auction_22 ⟨Nat.zero_le _, Nat.zero_le _⟩) hP hD hS hA [0, 1, 3, 5, 6] [2, 4, 7, 8, 9, 10, 11, 12, 13] [9, 10, 0, 11, 1, 12, 13, 2, 3, 4, 5, 6, 7, 8] rfl rfl (by decide) (by decide) (by decide) (fun _ => rfl) (c2 := 0) (s2 := 0) rfl rfl (fun _ H locs hP hD hS => ?_)
      refine lv_aload_n hx hb dX6_auction_25 rfl (lv_at hl 0 rfl) ?_
      refine va_get (D := D) (ci := 6) (v := .ref mN) (C := RX6) (T := TX6) (N := 15) hx hb hts i6 hown hK hP 0 rfl rfl 0 (by decide) (hts (.fieldLink RX6 7 RX6 "now" "[I") (List.mem_of_getElem? (i := 1) rfl)) (fun _ h9 => h9) rfl dX6_auction_26 ?_
      refine lv_bipush (v := (7 : Int32)) hx hb dX6_auction_29 (by decide) ?_
      refine lv_iconst (v := (0 : Int32)) hx hb dX6_auction_31 (by decide) ?_
      refine fr_iast (j := 7) hx hb hK hP hD hS 1 0 rfl rfl (by decide) (vin_of 7 9 (7 : Int32) (by decide) (by decide) (by decide)) dX6_auction_32 (fun H locs hP hD hS => ?_)
      have hP : va_P D vwCl [(aM, .inr (6, [.ref mN, .ref mkd, .ref mks, .ref mcd, .ref mpr, .ref msk, .ref mow, .ref mmi, .ref mst, .ref mbi, .ref msu, .ref mke, .ref mik, .int vka, .int viw])), (mN, .inl (cI, 9, .inl (upd fN_22 7 (0 : Int32)))), (mkd, .inl (cI, 8, .inl fkd)), (mks, .inl (cI, 8, .inl fks)), (mcd, .inl (cI, 12, .inl fcd)), (mpr, .inl (cI, 16, .inl fpr_22)), (msk, .inl (cI, 16, .inl fsk_22)), (mow, .inl (cI, 16, .inl fow)), (mmi, .inl (cI, 16, .inl fmi)), (mst, .inl (cI, 16, .inl fst)), (mbi, .inl (cI, 16, .inl fbi)), (msu, .inl (cI, 16, .inl fsu)), (mke, .inl (cI, 298, .inl fke)), (mik, .inl (cZ, 2, .inl fik))] H := hP
      have hD : va_D A [(aM, .inr (6, [.ref mN, .ref mkd, .ref mks, .ref mcd, .ref mpr, .ref msk, .ref mow, .ref mmi, .ref mst, .ref mbi, .ref msu, .ref mke, .ref mik, .int vka, .int viw])), (mN, .inl (cI, 9, .inl (upd fN_22 7 (0 : Int32)))), (mkd, .inl (cI, 8, .inl fkd)), (mks, .inl (cI, 8, .inl fks)), (mcd, .inl (cI, 12, .inl fcd)), (mpr, .inl (cI, 16, .inl fpr_22)), (msk, .inl (cI, 16, .inl fsk_22)), (mow, .inl (cI, 16, .inl fow)), (mmi, .inl (cI, 16, .inl fmi)), (mst, .inl (cI, 16, .inl fst)), (mbi, .inl (cI, 16, .inl fbi)), (msu, .inl (cI, 16, .inl fsu)), (mke, .inl (cI, 298, .inl fke)), (mik, .inl (cZ, 2, .inl fik))] := hD
      refine lv_aload_n hx hb dX6_auction_33 rfl (lv_at hl 0 rfl) ?_
      refine va_get (D := D) (ci := 6) (v := .ref mN) (C := RX6) (T := TX6) (N := 15) hx hb hts i6 hown hK hP 0 rfl rfl 0 (by decide) (hts (.fieldLink RX6 7 RX6 "now" "[I") (List.mem_of_getElem? (i := 1) rfl)) (fun _ h9 => h9) rfl dX6_auction_34 ?_
      refine lv_bipush (v := (8 : Int32)) hx hb dX6_auction_37 (by decide) ?_
      refine lv_iconst (v := (0 : Int32)) hx hb dX6_auction_39 (by decide) ?_
      refine fr_iast (j := 8) hx hb hK hP hD hS 1 0 rfl rfl (by decide) (vin_of 8 9 (8 : Int32) (by decide) (by decide) (by decide)) dX6_auction_40 (fun H locs hP hD hS => ?_)
      have hP : va_P D vwCl [(aM, .inr (6, [.ref mN, .ref mkd, .ref mks, .ref mcd, .ref mpr, .ref msk, .ref mow, .ref mmi, .ref mst, .ref mbi, .ref msu, .ref mke, .ref mik, .int vka, .int viw])), (mN, .inl (cI, 9, .inl (upd (upd fN_22 7 (0 : Int32)) 8 (0 : Int32)))), (mkd, .inl (cI, 8, .inl fkd)), (mks, .inl (cI, 8, .inl fks)), (mcd, .inl (cI, 12, .inl fcd)), (mpr, .inl (cI, 16, .inl fpr_22)), (msk, .inl (cI, 16, .inl fsk_22)), (mow, .inl (cI, 16, .inl fow)), (mmi, .inl (cI, 16, .inl fmi)), (mst, .inl (cI, 16, .inl fst)), (mbi, .inl (cI, 16, .inl fbi)), (msu, .inl (cI, 16, .inl fsu)), (mke, .inl (cI, 298, .inl fke)), (mik, .inl (cZ, 2, .inl fik))] H := hP
      have hD : va_D A [(aM, .inr (6, [.ref mN, .ref mkd, .ref mks, .ref mcd, .ref mpr, .ref msk, .ref mow, .ref mmi, .ref mst, .ref mbi, .ref msu, .ref mke, .ref mik, .int vka, .int viw])), (mN, .inl (cI, 9, .inl (upd (upd fN_22 7 (0 : Int32)) 8 (0 : Int32)))), (mkd, .inl (cI, 8, .inl fkd)), (mks, .inl (cI, 8, .inl fks)), (mcd, .inl (cI, 12, .inl fcd)), (mpr, .inl (cI, 16, .inl fpr_22)), (msk, .inl (cI, 16, .inl fsk_22)), (mow, .inl (cI, 16, .inl fow)), (mmi, .inl (cI, 16, .inl fmi)), (mst, .inl (cI, 16, .inl fst)), (mbi, .inl (cI, 16, .inl fbi)), (msu, .inl (cI, 16, .inl fsu)), (mke, .inl (cI, 298, .inl fke)), (mik, .inl (cZ, 2, .inl fik))] := hD
      refine lv_aload_n hx hb dX6_auction_41 rfl (lv_at hl 0 rfl) ?_
      obtain ⟨r_42, q_42, h⟩ := bd1_some h
      refine fr_ro_i (S := Unit) (wc := [(aM, .inr (6, [.ref mN, .ref mkd, .ref mks, .ref mcd, .ref mpr, .ref msk, .ref mow, .ref mmi, .ref mst, .ref mbi, .ref msu, .ref mke, .ref mik, .int vka, .int viw])), (mN, .inl (cI, 9, .inl (upd (upd fN_22 7 (0 : Int32)) 8 (0 : Int32)))), (mkd, .inl (cI, 8, .inl fkd)), (mcd, .inl (cI, 12, .inl fcd))]) (fr_V (As := []) (rest := []) (C := RX6) ⟨hx, hb, hml, hown, hts⟩ (tX6_greatest aM mN mkd mcd mks mpr msk mow mmi mst mbi msu mke mik vka viw (upd (upd fN_22 7 (0 : Int32)) 8 (0 : Int32)) fkd fcd r_42 q_42) gX6_auction_X6_greatest rfl (fr_preV (As := []) (b := aM) (ci := 6) (q0 := 0) (wc := [(aM, .inr (6, [.ref mN, .ref mkd, .ref mks, .ref mcd, .ref mpr, .ref msk, .ref mow, .ref mmi, .ref mst, .ref mbi, .ref msu, .ref mke, .ref mik, .int vka, .int viw])), (mN, .inl (cI, 9, .inl (upd (upd fN_22 7 (0 : Int32)) 8 (0 : Int32)))), (mkd, .inl (cI, 8, .inl fkd)), (mcd, .inl (cI, 12, .inl fcd))]) hK hN hP hD [0, 1, 2, 4] (by decide) rfl rfl rfl) (n := 0) (by decide +kernel) ⟨Nat.le_of_ble_eq_true rfl, Nat.le_of_ble_eq_true rfl⟩ rfl hl.1 rfl (Nat.le_of_ble_eq_true rfl) dX6_auction_42 ⟨Nat.zero_le _, Nat.zero_le _⟩) hP hD hS hA [0, 1, 2, 4] rfl (c2 := 0) (s2 := 0) rfl rfl (fun H locs hP hS => ?_)
      refine lv_aload_n hx hb dX6_auction_45 rfl (lv_at hl 0 rfl) ?_
      refine va_get (D := D) (ci := 6) (v := .ref mN) (C := RX6) (T := TX6) (N := 15) hx hb hts i6 hown hK hP 0 rfl rfl 0 (by decide) (hts (.fieldLink RX6 7 RX6 "now" "[I") (List.mem_of_getElem? (i := 1) rfl)) (fun _ h9 => h9) rfl dX6_auction_46 ?_
      refine lv_iconst (v := (4 : Int32)) hx hb dX6_auction_49 (by decide) ?_
      refine fr_iald (j := 4) hx hb hK hP 1 0 rfl rfl (by decide) (vin_of 4 9 (4 : Int32) (by decide) (by decide) (by decide)) dX6_auction_50 ?_
      refine lv_iconst (v := (1 : Int32)) hx hb dX6_auction_51 (by decide) ?_
      refine lv_iadd hx hb dX6_auction_52 ?_
      refine lv_imul hx hb dX6_auction_53 ?_
      refine lv_iconst (v := (4 : Int32)) hx hb dX6_auction_54 (by decide) ?_
      refine lv_idiv hx hb dX6_auction_55 (by decide) ?_
      obtain ⟨r_56, q_56, h⟩ := bd1_some h
      refine fr_ro_i (S := Unit) (wc := []) (fr_S (As := [.int ((r_42 * (((upd (upd fN_22 7 (0 : Int32)) 8 (0 : Int32)) 4) + (1 : Int32))) / (4 : Int32))]) (rest := []) ⟨hx, hb, hml, hown, hts⟩ (tX6_oneAtLeast ((r_42 * (((upd (upd fN_22 7 (0 : Int32)) 8 (0 : Int32)) 4) + (1 : Int32))) / (4 : Int32)) r_56 q_56) gX6_auction_X6_oneAtLeast rfl (fr_pre (As := [.int ((r_42 * (((upd (upd fN_22 7 (0 : Int32)) 8 (0 : Int32)) 4) + (1 : Int32))) / (4 : Int32))]) (wc := []) hK hN hP hD [] (by decide) rfl) (n := 1) (by decide +kernel) ⟨Nat.le_of_ble_eq_true rfl, Nat.le_of_ble_eq_true rfl⟩ rfl hl.1 rfl (Nat.le_of_ble_eq_true rfl) dX6_auction_56 ⟨Nat.zero_le _, Nat.zero_le _⟩) hP hD hS hA [] rfl (c2 := 0) (s2 := 0) rfl rfl (fun H locs hP hS => ?_)
      refine lv_istore_n (lv' := [(1, .int r_56), (0, .ref aM)]) hx hb dX6_auction_59 rfl hl (by decide) rfl (fun ls hl => ?_)
      refine lv_iconst (v := (1 : Int32)) hx hb dX6_auction_60 (by decide) ?_
      refine lv_istore_n (lv' := [(2, .int (1 : Int32)), (1, .int r_56), (0, .ref aM)]) hx hb dX6_auction_61 rfl hl (by decide) rfl (fun ls hl => ?_)
      exact hb62 FU r_56 (1 : Int32) (upd (upd fN_22 7 (0 : Int32)) 8 (0 : Int32)) fpr_22 fsk_22 fow fmi fst fbi fsu H locs ls hP hD hS (lv_sub hl [2, 1, 0] rfl) h
    · have h := (if_neg c9).symm.trans h
      refine lv_bipush (v := (-5 : Int32)) hx hb dX6_auction_18 (by decide) ?_
      exact hret (-5 : Int32) fN fpr fsk fow fmi fst fbi fsu 20 ls H locs rfl dX6_auction_20 hP hD hS h
def fX6_repair_b21 (fkd : Nat → Int32) (fcd : Nat → Int32) (fsk : Nat → Int32) : Nat → Int32 → (Nat → Int32) → (Nat → Int32) → (Nat → Int32) → (Nat → Int32) → Option (Int32 × (Nat → Int32) × (Nat → Int32) × (Nat → Int32) × (Nat → Int32))
  | 0, _, _, _, _, _ => none
  | n + 1, x1, fN, fpr, fow, fmi =>
    if (fN 4) ≤ x1 then
      bd4 (fX6_phaseOf fN fkd fcd fpr fsk fow fmi (1 : Int32)) fun r_94 fpr_94 fow_94 fmi_94 =>
      some ((upd (upd fN 8 r_94) 6 (1 : Int32)) 8, upd (upd fN 8 r_94) 6 (1 : Int32), fpr_94, fow_94, fmi_94)
    else
      if x1 < 0 ∨ 16 ≤ x1.toNatClampNeg then none else
      bd1 (fX6_gainOf fN fkd fcd fpr fsk x1 (fmi x1.toNatClampNeg)) fun r_39 =>
      bd1 (fX6_bestFor fN fkd fcd fpr fsk x1 (-6 : Int32)) fun r_48 =>
      bd1 (fX6_gainOf fN fkd fcd fpr fsk x1 r_48) fun r_51 =>
      if (r_51 - (1 : Int32)) ≤ r_39 then
        fX6_repair_b21 fkd fcd fsk n (x1 + 1) fN fpr fow fmi
      else
        if x1 < 0 ∨ 16 ≤ x1.toNatClampNeg then none else
        if fmi x1.toNatClampNeg < 0 ∨ 16 ≤ (fmi x1.toNatClampNeg).toNatClampNeg then none else
        if x1 < 0 ∨ 16 ≤ x1.toNatClampNeg then none else
        fX6_repair_b21 fkd fcd fsk n (x1 + 1) fN fpr (upd fow ((fmi x1.toNatClampNeg).toNatClampNeg) (-6 : Int32)) (upd fmi x1.toNatClampNeg (-6 : Int32))
def fX6_repair (fN : Nat → Int32) (fkd : Nat → Int32) (fcd : Nat → Int32) (fpr : Nat → Int32) (fsk : Nat → Int32) (fow : Nat → Int32) (fmi : Nat → Int32) : Option (Int32 × (Nat → Int32) × (Nat → Int32) × (Nat → Int32) × (Nat → Int32)) :=
  bd1 (fX6_isValid fN) fun r_1 =>
  if r_1 = 0 then
    some ((-3 : Int32), fN, fpr, fow, fmi)
  else
    bd1 (fX6_isDone fN) fun r_11 =>
    if r_11 = 0 then
      fX6_repair_b21 fkd fcd fsk FU (0 : Int32) fN fpr fow fmi
    else
      some ((0 : Int32), fN, fpr, fow, fmi)
abbrev rX6_repair : Room := { frames := 5, cells := 0, slots := 0, locals := 121 }
set_option maxHeartbeats 4000000 in
set_option maxRecDepth 100000 in
theorem tX6_repair {l : Launch} {D : va_G} {cI cZ cP : ClassId} (aM mN mkd mks mcd mpr msk mow mmi mst mbi msu mke mik : Nat) (vka : Int32) (viw : Int32) (fN : Nat → Int32) (fkd : Nat → Int32) (fks : Nat → Int32) (fcd : Nat → Int32) (fpr : Nat → Int32) (fsk : Nat → Int32) (fow : Nat → Int32) (fmi : Nat → Int32) (fst : Nat → Int32) (fbi : Nat → Int32) (fsu : Nat → Int32) (fke : Nat → Int32) (fik : Nat → Int32) (r : Int32) (oN : Nat → Int32) (opr : Nat → Int32) (oow : Nat → Int32) (omi : Nat → Int32) (h : fX6_repair fN fkd fcd fpr fsk fow fmi = some (r, oN, opr, oow, omi)) : CtI l D cI cZ cP yX6_repair wsX6_repair rX6_repair [.ref aM] [(aM, .inr (6, [.ref mN, .ref mkd, .ref mks, .ref mcd, .ref mpr, .ref msk, .ref mow, .ref mmi, .ref mst, .ref mbi, .ref msu, .ref mke, .ref mik, .int vka, .int viw])), (mN, .inl (cI, 9, .inl fN)), (mkd, .inl (cI, 8, .inl fkd)), (mks, .inl (cI, 8, .inl fks)), (mcd, .inl (cI, 12, .inl fcd)), (mpr, .inl (cI, 16, .inl fpr)), (msk, .inl (cI, 16, .inl fsk)), (mow, .inl (cI, 16, .inl fow)), (mmi, .inl (cI, 16, .inl fmi)), (mst, .inl (cI, 16, .inl fst)), (mbi, .inl (cI, 16, .inl fbi)), (msu, .inl (cI, 16, .inl fsu)), (mke, .inl (cI, 298, .inl fke)), (mik, .inl (cZ, 2, .inl fik))] (fun _ : Unit => [(aM, .inr (6, [.ref mN, .ref mkd, .ref mks, .ref mcd, .ref mpr, .ref msk, .ref mow, .ref mmi, .ref mst, .ref mbi, .ref msu, .ref mke, .ref mik, .int vka, .int viw])), (mN, .inl (cI, 9, .inl oN)), (mkd, .inl (cI, 8, .inl fkd)), (mks, .inl (cI, 8, .inl fks)), (mcd, .inl (cI, 12, .inl fcd)), (mpr, .inl (cI, 16, .inl opr)), (msk, .inl (cI, 16, .inl fsk)), (mow, .inl (cI, 16, .inl oow)), (mmi, .inl (cI, 16, .inl omi)), (mst, .inl (cI, 16, .inl fst)), (mbi, .inl (cI, 16, .inl fbi)), (msu, .inl (cI, 16, .inl fsu)), (mke, .inl (cI, 298, .inl fke)), (mik, .inl (cZ, 2, .inl fik))]) r := by
  refine CtI.ofW (cc := cX6_repair) (maxL := 2) (by decide) rfl (Nat.le_of_ble_eq_true rfl) (lv := [(0, .ref aM)]) rfl ?_
  intro p e s m args below meth c A Q ls hx hb hml hown hts hK hN hP hD hS hA hl hret0
  have hown : s.vm.findClass RX6 = some m.cls := hown
  have i6 : ∀ w ∈ wsX60, w ∈ wsX6_repair := mem_ps [45, 46, 47, 48, 49, 50, 51, 52, 53, 54, 55, 56, 57, 58, 59] rfl
  have hret : ∀ (v : Int32) (zN : Nat → Int32) (zpr : Nat → Int32) (zow : Nat → Int32) (zmi : Nat → Int32) (pc : Nat) (ls : Array Slot) (H : Heap) (locs : List Loc), narrow .int (.int v) = .int v → decode cX6_repair pc = .ok (.ireturn, 1) → va_P D vwCl [(aM, .inr (6, [.ref mN, .ref mkd, .ref mks, .ref mcd, .ref mpr, .ref msk, .ref mow, .ref mmi, .ref mst, .ref mbi, .ref msu, .ref mke, .ref mik, .int vka, .int viw])), (mN, .inl (cI, 9, .inl zN)), (mkd, .inl (cI, 8, .inl fkd)), (mks, .inl (cI, 8, .inl fks)), (mcd, .inl (cI, 12, .inl fcd)), (mpr, .inl (cI, 16, .inl zpr)), (msk, .inl (cI, 16, .inl fsk)), (mow, .inl (cI, 16, .inl zow)), (mmi, .inl (cI, 16, .inl zmi)), (mst, .inl (cI, 16, .inl fst)), (mbi, .inl (cI, 16, .inl fbi)), (msu, .inl (cI, 16, .inl fsu)), (mke, .inl (cI, 298, .inl fke)), (mik, .inl (cZ, 2, .inl fik))] H → va_D A [(aM, .inr (6, [.ref mN, .ref mkd, .ref mks, .ref mcd, .ref mpr, .ref msk, .ref mow, .ref mmi, .ref mst, .ref mbi, .ref msu, .ref mke, .ref mik, .int vka, .int viw])), (mN, .inl (cI, 9, .inl zN)), (mkd, .inl (cI, 8, .inl fkd)), (mks, .inl (cI, 8, .inl fks)), (mcd, .inl (cI, 12, .inl fcd)), (mpr, .inl (cI, 16, .inl zpr)), (msk, .inl (cI, 16, .inl fsk)), (mow, .inl (cI, 16, .inl zow)), (mmi, .inl (cI, 16, .inl zmi)), (mst, .inl (cI, 16, .inl fst)), (mbi, .inl (cI, 16, .inl fbi)), (msu, .inl (cI, 16, .inl fsu)), (mke, .inl (cI, 298, .inl fke)), (mik, .inl (cZ, 2, .inl fik))] → va_S A s.heap H locs → some (v, zN, zpr, zow, zmi) = some (r, oN, opr, oow, omi) → W p l e rX6_repair s m args below meth c H locs 0 0 Q (F0 m pc ls [.int v]) := by
    intro v zN zpr zow zmi pc ls H locs hn hd hP hD hS h
    cases h
    exact hret0 pc ls H locs () hn hd hP hD hS
  clear hret0
  have hb21 : ∀ (n : Nat) (x1 : Int32) (fN : Nat → Int32) (fpr : Nat → Int32) (fow : Nat → Int32) (fmi : Nat → Int32) (H : Heap) (locs : List Loc) (ls : Array Slot), va_P D vwCl [(aM, .inr (6, [.ref mN, .ref mkd, .ref mks, .ref mcd, .ref mpr, .ref msk, .ref mow, .ref mmi, .ref mst, .ref mbi, .ref msu, .ref mke, .ref mik, .int vka, .int viw])), (mN, .inl (cI, 9, .inl fN)), (mkd, .inl (cI, 8, .inl fkd)), (mks, .inl (cI, 8, .inl fks)), (mcd, .inl (cI, 12, .inl fcd)), (mpr, .inl (cI, 16, .inl fpr)), (msk, .inl (cI, 16, .inl fsk)), (mow, .inl (cI, 16, .inl fow)), (mmi, .inl (cI, 16, .inl fmi)), (mst, .inl (cI, 16, .inl fst)), (mbi, .inl (cI, 16, .inl fbi)), (msu, .inl (cI, 16, .inl fsu)), (mke, .inl (cI, 298, .inl fke)), (mik, .inl (cZ, 2, .inl fik))] H → va_D A [(aM, .inr (6, [.ref mN, .ref mkd, .ref mks, .ref mcd, .ref mpr, .ref msk, .ref mow, .ref mmi, .ref mst, .ref mbi, .ref msu, .ref mke, .ref mik, .int vka, .int viw])), (mN, .inl (cI, 9, .inl fN)), (mkd, .inl (cI, 8, .inl fkd)), (mks, .inl (cI, 8, .inl fks)), (mcd, .inl (cI, 12, .inl fcd)), (mpr, .inl (cI, 16, .inl fpr)), (msk, .inl (cI, 16, .inl fsk)), (mow, .inl (cI, 16, .inl fow)), (mmi, .inl (cI, 16, .inl fmi)), (mst, .inl (cI, 16, .inl fst)), (mbi, .inl (cI, 16, .inl fbi)), (msu, .inl (cI, 16, .inl fsu)), (mke, .inl (cI, 298, .inl fke)), (mik, .inl (cZ, 2, .inl fik))] → va_S A s.heap H locs → lv_has ls 2 [(0, .ref aM), (1, .int x1)] → fX6_repair_b21 fkd fcd fsk n x1 fN fpr fow fmi = some (r, oN, opr, oow, omi) → W p l e rX6_repair s m args below meth c H locs 0 0 Q (F0 m 21 ls []) := by
    intro n
    induction n with
    | zero => intro x1 fN fpr fow fmi H locs ls hP hD hS hl h; exact absurd h (by rw [fX6_repair_b21]; exact fun z => by cases z)
    | succ n ih =>
      intro x1 fN fpr fow fmi H locs ls hP hD hS hl h
      rw [fX6_repair_b21] at h
      refine lv_iload_n hx hb dX6_repair_21 rfl (lv_at hl 1 rfl) ?_
      refine lv_aload_n hx hb dX6_repair_22 rfl (lv_at hl 0 rfl) ?_
      refine va_get (D := D) (ci := 6) (v := .ref mN) (C := RX6) (T := TX6) (N := 15) hx hb hts i6 hown hK hP 0 rfl rfl 0 (by decide) (hts (.fieldLink RX6 7 RX6 "now" "[I") (List.mem_of_getElem? (i := 1) rfl)) (fun _ h9 => h9) rfl dX6_repair_23 ?_
      refine lv_iconst (v := (4 : Int32)) hx hb dX6_repair_26 (by decide) ?_
      refine fr_iald (j := 4) hx hb hK hP 1 0 rfl rfl (by decide) (vin_of 4 9 (4 : Int32) (by decide) (by decide) (by decide)) dX6_repair_27 ?_
      refine lv_icmp_ge (tgt := 86) hx hb dX6_repair_28 (by decide) (fun c1 => ?_) (fun c1 => ?_)
      · have h := (if_pos c1).symm.trans h
        refine lv_aload_n hx hb dX6_repair_86 rfl (lv_at hl 0 rfl) ?_
        refine va_get (D := D) (ci := 6) (v := .ref mN) (C := RX6) (T := TX6) (N := 15) hx hb hts i6 hown hK hP 0 rfl rfl 0 (by decide) (hts (.fieldLink RX6 7 RX6 "now" "[I") (List.mem_of_getElem? (i := 1) rfl)) (fun _ h9 => h9) rfl dX6_repair_87 ?_
        refine lv_bipush (v := (8 : Int32)) hx hb dX6_repair_90 (by decide) ?_
        refine lv_aload_n hx hb dX6_repair_92 rfl (lv_at hl 0 rfl) ?_
        refine lv_iconst (v := (1 : Int32)) hx hb dX6_repair_93 (by decide) ?_
        obtain ⟨r_94, fpr_94, fow_94, fmi_94, q_94, h⟩ := bd4_some h
        refine fr_rw_i (S := Unit) (wc := [(aM, .inr (6, [.ref mN, .ref mkd, .ref mks, .ref mcd, .ref mpr, .ref msk, .ref mow, .ref mmi, .ref mst, .ref mbi, .ref msu, .ref mke, .ref mik, .int vka, .int viw])), (mN, .inl (cI, 9, .inl fN)), (mkd, .inl (cI, 8, .inl fkd)), (mcd, .inl (cI, 12, .inl fcd)), (mpr, .inl (cI, 16, .inl fpr)), (msk, .inl (cI, 16, .inl fsk)), (mow, .inl (cI, 16, .inl fow)), (mmi, .inl (cI, 16, .inl fmi))]) (wc' := fun _ => [(aM, .inr (6, [.ref mN, .ref mkd, .ref mks, .ref mcd, .ref mpr, .ref msk, .ref mow, .ref mmi, .ref mst, .ref mbi, .ref msu, .ref mke, .ref mik, .int vka, .int viw])), (mN, .inl (cI, 9, .inl fN)), (mkd, .inl (cI, 8, .inl fkd)), (mcd, .inl (cI, 12, .inl fcd)), (mpr, .inl (cI, 16, .inl fpr_94)), (msk, .inl (cI, 16, .inl fsk)), (mow, .inl (cI, 16, .inl fow_94)), (mmi, .inl (cI, 16, .inl fmi_94))]) (wr := [(mks, .inl (cI, 8, .inl fks)), (mst, .inl (cI, 16, .inl fst)), (mbi, .inl (cI, 16, .inl fbi)), (msu, .inl (cI, 16, .inl fsu)), (mke, .inl (cI, 298, .inl fke)), (mik, .inl (cZ, 2, .inl fik))]) (w2 := fun _ => [(aM, .inr (6, [.ref mN, .ref mkd, .ref mks, .ref mcd, .ref mpr, .ref msk, .ref mow, .ref mmi, .ref mst, .ref mbi, .ref msu, .ref mke, .ref mik, .int vka, .int viw])), (mN, .inl (cI, 9, .inl fN)), (mkd, .inl (cI, 8, .inl fkd)), (mks, .inl (cI, 8, .inl fks)), (mcd, .inl (cI, 12, .inl fcd)), (mpr, .inl (cI, 16, .inl fpr_94)), (msk, .inl (cI, 16, .inl fsk)), (mow, .inl (cI, 16, .inl fow_94)), (mmi, .inl (cI, 16, .inl fmi_94)), (mst, .inl (cI, 16, .inl fst)), (mbi, .inl (cI, 16, .inl fbi)), (msu, .inl (cI, 16, .inl fsu)), (mke, .inl (cI, 298, .inl fke)), (mik, .inl (cZ, 2, .inl fik))]) (fr_V (As := [.int (1 : Int32)]) (rest := [.int (8 : Int32), .ref mN]) (C := RX6) ⟨hx, hb, hml, hown, hts⟩ (tX6_phaseOf aM mN mkd mcd mpr msk mow mmi mks mst mbi msu mke mik vka viw fN fkd fcd fpr fsk fow fmi (1 : Int32) r_94 fpr_94 fow_94 fmi_94 q_94) gX6_repair_X6_phaseOf rfl (fr_preV (As := [.int (1 : Int32)]) (b := aM) (ci := 6) (q0 := 0) (wc := [(aM, .inr (6, [.ref mN, .ref mkd, .ref mks, .ref mcd, .ref mpr, .ref msk, .ref mow, .ref mmi, .ref mst, .ref mbi, .ref msu, .ref mke, .ref mik, .int vka, .int viw])), (mN, .inl (cI, 9, .inl fN)), (mkd, .inl (cI, 8, .inl fkd)), (mcd, .inl (cI, 12, .inl fcd)), (mpr, .inl (cI, 16, .inl fpr)), (msk, .inl (cI, 16, .inl fsk)), (mow, .inl (cI, 16, .inl fow)), (mmi, .inl (cI, 16, .inl fmi))]) hK hN hP hD [0, 1, 2, 4, 5, 6, 7, 8] (by decide) rfl rfl rfl) (n := 1) (by decide +kernel) ⟨Nat.le_of_ble_eq_true rfl, Nat.le_of_ble_eq_true rfl⟩ rfl hl.1 rfl (Nat.le_of_ble_eq_true rfl) dX6_repair_94 ⟨Nat.zero_le _, Nat.zero_le _⟩) hP hD hS hA [0, 1, 2, 4, 5, 6, 7, 8] [3, 9, 10, 11, 12, 13] [6, 7, 8, 0, 9, 10, 11, 12, 13, 1, 2, 3, 4, 5] rfl rfl (by decide) (by decide) (by decide) (fun _ => rfl) (c2 := 0) (s2 := 0) rfl rfl (fun _ H locs hP hD hS => ?_)
        refine fr_iast (j := 8) hx hb hK hP hD hS 1 0 rfl rfl (by decide) (vin_of 8 9 (8 : Int32) (by decide) (by decide) (by decide)) dX6_repair_97 (fun H locs hP hD hS => ?_)
        have hP : va_P D vwCl [(aM, .inr (6, [.ref mN, .ref mkd, .ref mks, .ref mcd, .ref mpr, .ref msk, .ref mow, .ref mmi, .ref mst, .ref mbi, .ref msu, .ref mke, .ref mik, .int vka, .int viw])), (mN, .inl (cI, 9, .inl (upd fN 8 r_94))), (mkd, .inl (cI, 8, .inl fkd)), (mks, .inl (cI, 8, .inl fks)), (mcd, .inl (cI, 12, .inl fcd)), (mpr, .inl (cI, 16, .inl fpr_94)), (msk, .inl (cI, 16, .inl fsk)), (mow, .inl (cI, 16, .inl fow_94)), (mmi, .inl (cI, 16, .inl fmi_94)), (mst, .inl (cI, 16, .inl fst)), (mbi, .inl (cI, 16, .inl fbi)), (msu, .inl (cI, 16, .inl fsu)), (mke, .inl (cI, 298, .inl fke)), (mik, .inl (cZ, 2, .inl fik))] H := hP
        have hD : va_D A [(aM, .inr (6, [.ref mN, .ref mkd, .ref mks, .ref mcd, .ref mpr, .ref msk, .ref mow, .ref mmi, .ref mst, .ref mbi, .ref msu, .ref mke, .ref mik, .int vka, .int viw])), (mN, .inl (cI, 9, .inl (upd fN 8 r_94))), (mkd, .inl (cI, 8, .inl fkd)), (mks, .inl (cI, 8, .inl fks)), (mcd, .inl (cI, 12, .inl fcd)), (mpr, .inl (cI, 16, .inl fpr_94)), (msk, .inl (cI, 16, .inl fsk)), (mow, .inl (cI, 16, .inl fow_94)), (mmi, .inl (cI, 16, .inl fmi_94)), (mst, .inl (cI, 16, .inl fst)), (mbi, .inl (cI, 16, .inl fbi)), (msu, .inl (cI, 16, .inl fsu)), (mke, .inl (cI, 298, .inl fke)), (mik, .inl (cZ, 2, .inl fik))] := hD
        refine lv_aload_n hx hb dX6_repair_98 rfl (lv_at hl 0 rfl) ?_
        refine va_get (D := D) (ci := 6) (v := .ref mN) (C := RX6) (T := TX6) (N := 15) hx hb hts i6 hown hK hP 0 rfl rfl 0 (by decide) (hts (.fieldLink RX6 7 RX6 "now" "[I") (List.mem_of_getElem? (i := 1) rfl)) (fun _ h9 => h9) rfl dX6_repair_99 ?_
        refine lv_bipush (v := (6 : Int32)) hx hb dX6_repair_102 (by decide) ?_
        refine lv_iconst (v := (1 : Int32)) hx hb dX6_repair_104 (by decide) ?_
        refine fr_iast (j := 6) hx hb hK hP hD hS 1 0 rfl rfl (by decide) (vin_of 6 9 (6 : Int32) (by decide) (by decide) (by decide)) dX6_repair_105 (fun H locs hP hD hS => ?_)
        have hP : va_P D vwCl [(aM, .inr (6, [.ref mN, .ref mkd, .ref mks, .ref mcd, .ref mpr, .ref msk, .ref mow, .ref mmi, .ref mst, .ref mbi, .ref msu, .ref mke, .ref mik, .int vka, .int viw])), (mN, .inl (cI, 9, .inl (upd (upd fN 8 r_94) 6 (1 : Int32)))), (mkd, .inl (cI, 8, .inl fkd)), (mks, .inl (cI, 8, .inl fks)), (mcd, .inl (cI, 12, .inl fcd)), (mpr, .inl (cI, 16, .inl fpr_94)), (msk, .inl (cI, 16, .inl fsk)), (mow, .inl (cI, 16, .inl fow_94)), (mmi, .inl (cI, 16, .inl fmi_94)), (mst, .inl (cI, 16, .inl fst)), (mbi, .inl (cI, 16, .inl fbi)), (msu, .inl (cI, 16, .inl fsu)), (mke, .inl (cI, 298, .inl fke)), (mik, .inl (cZ, 2, .inl fik))] H := hP
        have hD : va_D A [(aM, .inr (6, [.ref mN, .ref mkd, .ref mks, .ref mcd, .ref mpr, .ref msk, .ref mow, .ref mmi, .ref mst, .ref mbi, .ref msu, .ref mke, .ref mik, .int vka, .int viw])), (mN, .inl (cI, 9, .inl (upd (upd fN 8 r_94) 6 (1 : Int32)))), (mkd, .inl (cI, 8, .inl fkd)), (mks, .inl (cI, 8, .inl fks)), (mcd, .inl (cI, 12, .inl fcd)), (mpr, .inl (cI, 16, .inl fpr_94)), (msk, .inl (cI, 16, .inl fsk)), (mow, .inl (cI, 16, .inl fow_94)), (mmi, .inl (cI, 16, .inl fmi_94)), (mst, .inl (cI, 16, .inl fst)), (mbi, .inl (cI, 16, .inl fbi)), (msu, .inl (cI, 16, .inl fsu)), (mke, .inl (cI, 298, .inl fke)), (mik, .inl (cZ, 2, .inl fik))] := hD
        refine lv_aload_n hx hb dX6_repair_106 rfl (lv_at hl 0 rfl) ?_
        refine va_get (D := D) (ci := 6) (v := .ref mN) (C := RX6) (T := TX6) (N := 15) hx hb hts i6 hown hK hP 0 rfl rfl 0 (by decide) (hts (.fieldLink RX6 7 RX6 "now" "[I") (List.mem_of_getElem? (i := 1) rfl)) (fun _ h9 => h9) rfl dX6_repair_107 ?_
        refine lv_bipush (v := (8 : Int32)) hx hb dX6_repair_110 (by decide) ?_
        refine fr_iald (j := 8) hx hb hK hP 1 0 rfl rfl (by decide) (vin_of 8 9 (8 : Int32) (by decide) (by decide) (by decide)) dX6_repair_112 ?_
        exact hret ((upd (upd fN 8 r_94) 6 (1 : Int32)) 8) (upd (upd fN 8 r_94) 6 (1 : Int32)) fpr_94 fow_94 fmi_94 113 ls H locs rfl dX6_repair_113 hP hD hS h
      · have h := (if_neg c1).symm.trans h
        refine lv_aload_n hx hb dX6_repair_31 rfl (lv_at hl 0 rfl) ?_
        refine lv_iload_n hx hb dX6_repair_32 rfl (lv_at hl 1 rfl) ?_
        refine lv_aload_n hx hb dX6_repair_33 rfl (lv_at hl 0 rfl) ?_
        refine va_get (D := D) (ci := 6) (v := .ref mmi) (C := RX6) (T := TX6) (N := 15) hx hb hts i6 hown hK hP 0 rfl rfl 7 (by decide) (hts (.fieldLink RX6 31 RX6 "mine" "[I") (List.mem_of_getElem? (i := 2) rfl)) (fun _ h9 => h9) rfl dX6_repair_34 ?_
        refine lv_iload_n hx hb dX6_repair_37 rfl (lv_at hl 1 rfl) ?_
        obtain ⟨g2, h⟩ := no_some h
        refine va_iald hx hb hK hP 8 0 rfl rfl g2 dX6_repair_38 ?_
        obtain ⟨r_39, q_39, h⟩ := bd1_some h
        refine fr_ro_i (S := Unit) (wc := [(aM, .inr (6, [.ref mN, .ref mkd, .ref mks, .ref mcd, .ref mpr, .ref msk, .ref mow, .ref mmi, .ref mst, .ref mbi, .ref msu, .ref mke, .ref mik, .int vka, .int viw])), (mN, .inl (cI, 9, .inl fN)), (mkd, .inl (cI, 8, .inl fkd)), (mcd, .inl (cI, 12, .inl fcd)), (mpr, .inl (cI, 16, .inl fpr)), (msk, .inl (cI, 16, .inl fsk))]) (fr_V (As := [.int x1, .int (fmi x1.toNatClampNeg)]) (rest := []) (C := RX6) ⟨hx, hb, hml, hown, hts⟩ (tX6_gainOf aM mN mkd mcd mpr msk mks mow mmi mst mbi msu mke mik vka viw fN fkd fcd fpr fsk x1 (fmi x1.toNatClampNeg) r_39 q_39) gX6_repair_X6_gainOf rfl (fr_preV (As := [.int x1, .int (fmi x1.toNatClampNeg)]) (b := aM) (ci := 6) (q0 := 0) (wc := [(aM, .inr (6, [.ref mN, .ref mkd, .ref mks, .ref mcd, .ref mpr, .ref msk, .ref mow, .ref mmi, .ref mst, .ref mbi, .ref msu, .ref mke, .ref mik, .int vka, .int viw])), (mN, .inl (cI, 9, .inl fN)), (mkd, .inl (cI, 8, .inl fkd)), (mcd, .inl (cI, 12, .inl fcd)), (mpr, .inl (cI, 16, .inl fpr)), (msk, .inl (cI, 16, .inl fsk))]) hK hN hP hD [0, 1, 2, 4, 5, 6] (by decide) rfl rfl rfl) (n := 2) (by decide +kernel) ⟨Nat.le_of_ble_eq_true rfl, Nat.le_of_ble_eq_true rfl⟩ rfl hl.1 rfl (Nat.le_of_ble_eq_true rfl) dX6_repair_39 ⟨Nat.zero_le _, Nat.zero_le _⟩) hP hD hS hA [0, 1, 2, 4, 5, 6] rfl (c2 := 0) (s2 := 0) rfl rfl (fun H locs hP hS => ?_)
        refine lv_aload_n hx hb dX6_repair_42 rfl (lv_at hl 0 rfl) ?_
        refine lv_iload_n hx hb dX6_repair_43 rfl (lv_at hl 1 rfl) ?_
        refine lv_aload_n hx hb dX6_repair_44 rfl (lv_at hl 0 rfl) ?_
        refine lv_iload_n hx hb dX6_repair_45 rfl (lv_at hl 1 rfl) ?_
        refine lv_bipush (v := (-6 : Int32)) hx hb dX6_repair_46 (by decide) ?_
        obtain ⟨r_48, q_48, h⟩ := bd1_some h
        refine fr_ro_i (S := Unit) (wc := [(aM, .inr (6, [.ref mN, .ref mkd, .ref mks, .ref mcd, .ref mpr, .ref msk, .ref mow, .ref mmi, .ref mst, .ref mbi, .ref msu, .ref mke, .ref mik, .int vka, .int viw])), (mN, .inl (cI, 9, .inl fN)), (mkd, .inl (cI, 8, .inl fkd)), (mcd, .inl (cI, 12, .inl fcd)), (mpr, .inl (cI, 16, .inl fpr)), (msk, .inl (cI, 16, .inl fsk))]) (fr_V (As := [.int x1, .int (-6 : Int32)]) (rest := [.int x1, .ref aM, .int r_39]) (C := RX6) ⟨hx, hb, hml, hown, hts⟩ (tX6_bestFor aM mN mkd mcd mpr msk mks mow mmi mst mbi msu mke mik vka viw fN fkd fcd fpr fsk x1 (-6 : Int32) r_48 q_48) gX6_repair_X6_bestFor rfl (fr_preV (As := [.int x1, .int (-6 : Int32)]) (b := aM) (ci := 6) (q0 := 0) (wc := [(aM, .inr (6, [.ref mN, .ref mkd, .ref mks, .ref mcd, .ref mpr, .ref msk, .ref mow, .ref mmi, .ref mst, .ref mbi, .ref msu, .ref mke, .ref mik, .int vka, .int viw])), (mN, .inl (cI, 9, .inl fN)), (mkd, .inl (cI, 8, .inl fkd)), (mcd, .inl (cI, 12, .inl fcd)), (mpr, .inl (cI, 16, .inl fpr)), (msk, .inl (cI, 16, .inl fsk))]) hK hN hP hD [0, 1, 2, 4, 5, 6] (by decide) rfl rfl rfl) (n := 2) (by decide +kernel) ⟨Nat.le_of_ble_eq_true rfl, Nat.le_of_ble_eq_true rfl⟩ rfl hl.1 rfl (Nat.le_of_ble_eq_true rfl) dX6_repair_48 ⟨Nat.zero_le _, Nat.zero_le _⟩) hP hD hS hA [0, 1, 2, 4, 5, 6] rfl (c2 := 0) (s2 := 0) rfl rfl (fun H locs hP hS => ?_)
        obtain ⟨r_51, q_51, h⟩ := bd1_some h
        refine fr_ro_i (S := Unit) (wc := [(aM, .inr (6, [.ref mN, .ref mkd, .ref mks, .ref mcd, .ref mpr, .ref msk, .ref mow, .ref mmi, .ref mst, .ref mbi, .ref msu, .ref mke, .ref mik, .int vka, .int viw])), (mN, .inl (cI, 9, .inl fN)), (mkd, .inl (cI, 8, .inl fkd)), (mcd, .inl (cI, 12, .inl fcd)), (mpr, .inl (cI, 16, .inl fpr)), (msk, .inl (cI, 16, .inl fsk))]) (fr_V (As := [.int x1, .int r_48]) (rest := [.int r_39]) (C := RX6) ⟨hx, hb, hml, hown, hts⟩ (tX6_gainOf aM mN mkd mcd mpr msk mks mow mmi mst mbi msu mke mik vka viw fN fkd fcd fpr fsk x1 r_48 r_51 q_51) gX6_repair_X6_gainOf rfl (fr_preV (As := [.int x1, .int r_48]) (b := aM) (ci := 6) (q0 := 0) (wc := [(aM, .inr (6, [.ref mN, .ref mkd, .ref mks, .ref mcd, .ref mpr, .ref msk, .ref mow, .ref mmi, .ref mst, .ref mbi, .ref msu, .ref mke, .ref mik, .int vka, .int viw])), (mN, .inl (cI, 9, .inl fN)), (mkd, .inl (cI, 8, .inl fkd)), (mcd, .inl (cI, 12, .inl fcd)), (mpr, .inl (cI, 16, .inl fpr)), (msk, .inl (cI, 16, .inl fsk))]) hK hN hP hD [0, 1, 2, 4, 5, 6] (by decide) rfl rfl rfl) (n := 2) (by decide +kernel) ⟨Nat.le_of_ble_eq_true rfl, Nat.le_of_ble_eq_true rfl⟩ rfl hl.1 rfl (Nat.le_of_ble_eq_true rfl) dX6_repair_51 ⟨Nat.zero_le _, Nat.zero_le _⟩) hP hD hS hA [0, 1, 2, 4, 5, 6] rfl (c2 := 0) (s2 := 0) rfl rfl (fun H locs hP hS => ?_)
        refine lv_iconst (v := (1 : Int32)) hx hb dX6_repair_54 (by decide) ?_
        refine lv_isub hx hb dX6_repair_55 ?_
        refine lv_icmp_ge (tgt := 80) hx hb dX6_repair_56 (by decide) (fun c3 => ?_) (fun c3 => ?_)
        · have h := (if_pos c3).symm.trans h
          refine lv_iinc (v := x1 + 1) (lv' := [(1, .int (x1 + 1)), (0, .ref aM)]) hx hb dX6_repair_80 hl (k := 1) rfl rfl (by decide) rfl (fun ls hl => ?_)
          refine lv_goto (tgt := 21) hx hb dX6_repair_83 (by decide) ?_
          exact ih (x1 + 1) fN fpr fow fmi H locs ls hP hD hS (lv_sub hl [1, 0] rfl) h
        · have h := (if_neg c3).symm.trans h
          refine lv_aload_n hx hb dX6_repair_59 rfl (lv_at hl 0 rfl) ?_
          refine va_get (D := D) (ci := 6) (v := .ref mow) (C := RX6) (T := TX6) (N := 15) hx hb hts i6 hown hK hP 0 rfl rfl 6 (by decide) (hts (.fieldLink RX6 28 RX6 "owner" "[I") (List.mem_of_getElem? (i := 3) rfl)) (fun _ h9 => h9) rfl dX6_repair_60 ?_
          refine lv_aload_n hx hb dX6_repair_63 rfl (lv_at hl 0 rfl) ?_
          refine va_get (D := D) (ci := 6) (v := .ref mmi) (C := RX6) (T := TX6) (N := 15) hx hb hts i6 hown hK hP 0 rfl rfl 7 (by decide) (hts (.fieldLink RX6 31 RX6 "mine" "[I") (List.mem_of_getElem? (i := 2) rfl)) (fun _ h9 => h9) rfl dX6_repair_64 ?_
          refine lv_iload_n hx hb dX6_repair_67 rfl (lv_at hl 1 rfl) ?_
          obtain ⟨g4, h⟩ := no_some h
          refine va_iald hx hb hK hP 8 0 rfl rfl g4 dX6_repair_68 ?_
          refine lv_bipush (v := (-6 : Int32)) hx hb dX6_repair_69 (by decide) ?_
          obtain ⟨g5, h⟩ := no_some h
          refine va_iast hx hb hK hP hD hS 7 0 rfl rfl g5 dX6_repair_71 (fun H locs hP hD hS => ?_)
          have hP : va_P D vwCl [(aM, .inr (6, [.ref mN, .ref mkd, .ref mks, .ref mcd, .ref mpr, .ref msk, .ref mow, .ref mmi, .ref mst, .ref mbi, .ref msu, .ref mke, .ref mik, .int vka, .int viw])), (mN, .inl (cI, 9, .inl fN)), (mkd, .inl (cI, 8, .inl fkd)), (mks, .inl (cI, 8, .inl fks)), (mcd, .inl (cI, 12, .inl fcd)), (mpr, .inl (cI, 16, .inl fpr)), (msk, .inl (cI, 16, .inl fsk)), (mow, .inl (cI, 16, .inl (upd fow ((fmi x1.toNatClampNeg).toNatClampNeg) (-6 : Int32)))), (mmi, .inl (cI, 16, .inl fmi)), (mst, .inl (cI, 16, .inl fst)), (mbi, .inl (cI, 16, .inl fbi)), (msu, .inl (cI, 16, .inl fsu)), (mke, .inl (cI, 298, .inl fke)), (mik, .inl (cZ, 2, .inl fik))] H := hP
          have hD : va_D A [(aM, .inr (6, [.ref mN, .ref mkd, .ref mks, .ref mcd, .ref mpr, .ref msk, .ref mow, .ref mmi, .ref mst, .ref mbi, .ref msu, .ref mke, .ref mik, .int vka, .int viw])), (mN, .inl (cI, 9, .inl fN)), (mkd, .inl (cI, 8, .inl fkd)), (mks, .inl (cI, 8, .inl fks)), (mcd, .inl (cI, 12, .inl fcd)), (mpr, .inl (cI, 16, .inl fpr)), (msk, .inl (cI, 16, .inl fsk)), (mow, .inl (cI, 16, .inl (upd fow ((fmi x1.toNatClampNeg).toNatClampNeg) (-6 : Int32)))), (mmi, .inl (cI, 16, .inl fmi)), (mst, .inl (cI, 16, .inl fst)), (mbi, .inl (cI, 16, .inl fbi)), (msu, .inl (cI, 16, .inl fsu)), (mke, .inl (cI, 298, .inl fke)), (mik, .inl (cZ, 2, .inl fik))] := hD
          refine lv_aload_n hx hb dX6_repair_72 rfl (lv_at hl 0 rfl) ?_
          refine va_get (D := D) (ci := 6) (v := .ref mmi) (C := RX6) (T := TX6) (N := 15) hx hb hts i6 hown hK hP 0 rfl rfl 7 (by decide) (hts (.fieldLink RX6 31 RX6 "mine" "[I") (List.mem_of_getElem? (i := 2) rfl)) (fun _ h9 => h9) rfl dX6_repair_73 ?_
          refine lv_iload_n hx hb dX6_repair_76 rfl (lv_at hl 1 rfl) ?_
          refine lv_bipush (v := (-6 : Int32)) hx hb dX6_repair_77 (by decide) ?_
          obtain ⟨g6, h⟩ := no_some h
          refine va_iast hx hb hK hP hD hS 8 0 rfl rfl g6 dX6_repair_79 (fun H locs hP hD hS => ?_)
          have hP : va_P D vwCl [(aM, .inr (6, [.ref mN, .ref mkd, .ref mks, .ref mcd, .ref mpr, .ref msk, .ref mow, .ref mmi, .ref mst, .ref mbi, .ref msu, .ref mke, .ref mik, .int vka, .int viw])), (mN, .inl (cI, 9, .inl fN)), (mkd, .inl (cI, 8, .inl fkd)), (mks, .inl (cI, 8, .inl fks)), (mcd, .inl (cI, 12, .inl fcd)), (mpr, .inl (cI, 16, .inl fpr)), (msk, .inl (cI, 16, .inl fsk)), (mow, .inl (cI, 16, .inl (upd fow ((fmi x1.toNatClampNeg).toNatClampNeg) (-6 : Int32)))), (mmi, .inl (cI, 16, .inl (upd fmi x1.toNatClampNeg (-6 : Int32)))), (mst, .inl (cI, 16, .inl fst)), (mbi, .inl (cI, 16, .inl fbi)), (msu, .inl (cI, 16, .inl fsu)), (mke, .inl (cI, 298, .inl fke)), (mik, .inl (cZ, 2, .inl fik))] H := hP
          have hD : va_D A [(aM, .inr (6, [.ref mN, .ref mkd, .ref mks, .ref mcd, .ref mpr, .ref msk, .ref mow, .ref mmi, .ref mst, .ref mbi, .ref msu, .ref mke, .ref mik, .int vka, .int viw])), (mN, .inl (cI, 9, .inl fN)), (mkd, .inl (cI, 8, .inl fkd)), (mks, .inl (cI, 8, .inl fks)), (mcd, .inl (cI, 12, .inl fcd)), (mpr, .inl (cI, 16, .inl fpr)), (msk, .inl (cI, 16, .inl fsk)), (mow, .inl (cI, 16, .inl (upd fow ((fmi x1.toNatClampNeg).toNatClampNeg) (-6 : Int32)))), (mmi, .inl (cI, 16, .inl (upd fmi x1.toNatClampNeg (-6 : Int32)))), (mst, .inl (cI, 16, .inl fst)), (mbi, .inl (cI, 16, .inl fbi)), (msu, .inl (cI, 16, .inl fsu)), (mke, .inl (cI, 298, .inl fke)), (mik, .inl (cZ, 2, .inl fik))] := hD
          refine lv_iinc (v := x1 + 1) (lv' := [(1, .int (x1 + 1)), (0, .ref aM)]) hx hb dX6_repair_80 hl (k := 1) rfl rfl (by decide) rfl (fun ls hl => ?_)
          refine lv_goto (tgt := 21) hx hb dX6_repair_83 (by decide) ?_
          exact ih (x1 + 1) fN fpr (upd fow ((fmi x1.toNatClampNeg).toNatClampNeg) (-6 : Int32)) (upd fmi x1.toNatClampNeg (-6 : Int32)) H locs ls hP hD hS (lv_sub hl [1, 0] rfl) h
  unfold fX6_repair at h
  obtain ⟨H, hH⟩ : ∃ H, H = s.heap := ⟨_, rfl⟩
  have hP : va_P D vwCl [(aM, .inr (6, [.ref mN, .ref mkd, .ref mks, .ref mcd, .ref mpr, .ref msk, .ref mow, .ref mmi, .ref mst, .ref mbi, .ref msu, .ref mke, .ref mik, .int vka, .int viw])), (mN, .inl (cI, 9, .inl fN)), (mkd, .inl (cI, 8, .inl fkd)), (mks, .inl (cI, 8, .inl fks)), (mcd, .inl (cI, 12, .inl fcd)), (mpr, .inl (cI, 16, .inl fpr)), (msk, .inl (cI, 16, .inl fsk)), (mow, .inl (cI, 16, .inl fow)), (mmi, .inl (cI, 16, .inl fmi)), (mst, .inl (cI, 16, .inl fst)), (mbi, .inl (cI, 16, .inl fbi)), (msu, .inl (cI, 16, .inl fsu)), (mke, .inl (cI, 298, .inl fke)), (mik, .inl (cZ, 2, .inl fik))] H := by rw [hH]; exact hP
  obtain ⟨locs, hlocs⟩ : ∃ x : List Loc, x = [] := ⟨_, rfl⟩
  have hS : va_S A s.heap H locs := by rw [hH, hlocs]; exact hS
  suffices hgo : W p l e rX6_repair s m args below meth c H locs 0 0 Q (F0 m 0 ls []) by rw [hH, hlocs] at hgo; exact hgo
  refine lv_aload_n hx hb dX6_repair_0 rfl (lv_at hl 0 rfl) ?_
  obtain ⟨r_1, q_1, h⟩ := bd1_some h
  refine fr_ro_i (S := Unit) (wc := [(aM, .inr (6, [.ref mN, .ref mkd, .ref mks, .ref mcd, .ref mpr, .ref msk, .ref mow, .ref mmi, .ref mst, .ref mbi, .ref msu, .ref mke, .ref mik, .int vka, .int viw])), (mN, .inl (cI, 9, .inl fN))]) (fr_V (As := []) (rest := []) (C := RX6) ⟨hx, hb, hml, hown, hts⟩ (tX6_isValid aM mN mkd mks mcd mpr msk mow mmi mst mbi msu mke mik vka viw fN r_1 q_1) gX6_repair_X6_isValid rfl (fr_preV (As := []) (b := aM) (ci := 6) (q0 := 0) (wc := [(aM, .inr (6, [.ref mN, .ref mkd, .ref mks, .ref mcd, .ref mpr, .ref msk, .ref mow, .ref mmi, .ref mst, .ref mbi, .ref msu, .ref mke, .ref mik, .int vka, .int viw])), (mN, .inl (cI, 9, .inl fN))]) hK hN hP hD [0, 1] (by decide) rfl rfl rfl) (n := 0) (by decide +kernel) ⟨Nat.le_of_ble_eq_true rfl, Nat.le_of_ble_eq_true rfl⟩ rfl hl.1 rfl (Nat.le_of_ble_eq_true rfl) dX6_repair_1 ⟨Nat.zero_le _, Nat.zero_le _⟩) hP hD hS hA [0, 1] rfl (c2 := 0) (s2 := 0) rfl rfl (fun H locs hP hS => ?_)
  refine lv_if_ne (tgt := 10) hx hb dX6_repair_4 (by decide) (fun c7 => ?_) (fun c7 => ?_)
  · have h := (if_neg c7).symm.trans h
    refine lv_aload_n hx hb dX6_repair_10 rfl (lv_at hl 0 rfl) ?_
    obtain ⟨r_11, q_11, h⟩ := bd1_some h
    refine fr_ro_i (S := Unit) (wc := [(aM, .inr (6, [.ref mN, .ref mkd, .ref mks, .ref mcd, .ref mpr, .ref msk, .ref mow, .ref mmi, .ref mst, .ref mbi, .ref msu, .ref mke, .ref mik, .int vka, .int viw])), (mN, .inl (cI, 9, .inl fN))]) (fr_V (As := []) (rest := []) (C := RX6) ⟨hx, hb, hml, hown, hts⟩ (tX6_isDone aM mN mkd mks mcd mpr msk mow mmi mst mbi msu mke mik vka viw fN r_11 q_11) gX6_repair_X6_isDone rfl (fr_preV (As := []) (b := aM) (ci := 6) (q0 := 0) (wc := [(aM, .inr (6, [.ref mN, .ref mkd, .ref mks, .ref mcd, .ref mpr, .ref msk, .ref mow, .ref mmi, .ref mst, .ref mbi, .ref msu, .ref mke, .ref mik, .int vka, .int viw])), (mN, .inl (cI, 9, .inl fN))]) hK hN hP hD [0, 1] (by decide) rfl rfl rfl) (n := 0) (by decide +kernel) ⟨Nat.le_of_ble_eq_true rfl, Nat.le_of_ble_eq_true rfl⟩ rfl hl.1 rfl (Nat.le_of_ble_eq_true rfl) dX6_repair_11 ⟨Nat.zero_le _, Nat.zero_le _⟩) hP hD hS hA [0, 1] rfl (c2 := 0) (s2 := 0) rfl rfl (fun H locs hP hS => ?_)
    refine lv_if_eq (tgt := 19) hx hb dX6_repair_14 (by decide) (fun c8 => ?_) (fun c8 => ?_)
    · have h := (if_pos c8).symm.trans h
      refine lv_iconst (v := (0 : Int32)) hx hb dX6_repair_19 (by decide) ?_
      refine lv_istore_n (lv' := [(1, .int (0 : Int32)), (0, .ref aM)]) hx hb dX6_repair_20 rfl hl (by decide) rfl (fun ls hl => ?_)
      exact hb21 FU (0 : Int32) fN fpr fow fmi H locs ls hP hD hS (lv_sub hl [1, 0] rfl) h
    · have h := (if_neg c8).symm.trans h
      refine lv_iconst (v := (0 : Int32)) hx hb dX6_repair_17 (by decide) ?_
      exact hret (0 : Int32) fN fpr fow fmi 18 ls H locs rfl dX6_repair_18 hP hD hS h
  · have h := (if_pos c7).symm.trans h
    refine lv_bipush (v := (-3 : Int32)) hx hb dX6_repair_7 (by decide) ?_
    exact hret (-3 : Int32) fN fpr fow fmi 9 ls H locs rfl dX6_repair_9 hP hD hS h
def fX6_phase (fN : Nat → Int32) (fst : Nat → Int32) (fbi : Nat → Int32) (fsu : Nat → Int32) (x1 : Int32) (x2 : Int32) : Option (Int32) :=
  bd1 (fX6_isValid fN) fun r_1 =>
  if r_1 = 0 then
    some (-3 : Int32)
  else
    bd1 (fX6_in x1.toInt64 (0 : Int64) (((fN 7) - (1 : Int32)).toInt64)) fun r_23 =>
    if r_23 = 0 then
      some (-1 : Int32)
    else
      if x2 = 0 then
        if x1 < 0 ∨ 16 ≤ x1.toNatClampNeg then none else
        some (fst x1.toNatClampNeg)
      else
        if x2 = (1 : Int32) then
          if x1 < 0 ∨ 16 ≤ x1.toNatClampNeg then none else
          some (fbi x1.toNatClampNeg)
        else
          if x2 = (2 : Int32) then
            if x1 < 0 ∨ 16 ≤ x1.toNatClampNeg then none else
            some (fsu x1.toNatClampNeg)
          else
            some (-2 : Int32)
abbrev rX6_phase : Room := { frames := 1, cells := 0, slots := 0, locals := 25 }
set_option maxHeartbeats 4000000 in
set_option maxRecDepth 100000 in
theorem tX6_phase {l : Launch} {D : va_G} {cI cZ cP : ClassId} (aM mN mkd mks mcd mpr msk mow mmi mst mbi msu mke mik : Nat) (vka : Int32) (viw : Int32) (fN : Nat → Int32) (fkd : Nat → Int32) (fks : Nat → Int32) (fcd : Nat → Int32) (fpr : Nat → Int32) (fsk : Nat → Int32) (fow : Nat → Int32) (fmi : Nat → Int32) (fst : Nat → Int32) (fbi : Nat → Int32) (fsu : Nat → Int32) (fke : Nat → Int32) (fik : Nat → Int32) (x1 : Int32) (x2 : Int32) (r : Int32) (h : fX6_phase fN fst fbi fsu x1 x2 = some r) : CtI l D cI cZ cP yX6_phase wsX6_phase rX6_phase [.ref aM, .int x1, .int x2] [(aM, .inr (6, [.ref mN, .ref mkd, .ref mks, .ref mcd, .ref mpr, .ref msk, .ref mow, .ref mmi, .ref mst, .ref mbi, .ref msu, .ref mke, .ref mik, .int vka, .int viw])), (mN, .inl (cI, 9, .inl fN)), (mkd, .inl (cI, 8, .inl fkd)), (mks, .inl (cI, 8, .inl fks)), (mcd, .inl (cI, 12, .inl fcd)), (mpr, .inl (cI, 16, .inl fpr)), (msk, .inl (cI, 16, .inl fsk)), (mow, .inl (cI, 16, .inl fow)), (mmi, .inl (cI, 16, .inl fmi)), (mst, .inl (cI, 16, .inl fst)), (mbi, .inl (cI, 16, .inl fbi)), (msu, .inl (cI, 16, .inl fsu)), (mke, .inl (cI, 298, .inl fke)), (mik, .inl (cZ, 2, .inl fik))] (fun _ : Unit => [(aM, .inr (6, [.ref mN, .ref mkd, .ref mks, .ref mcd, .ref mpr, .ref msk, .ref mow, .ref mmi, .ref mst, .ref mbi, .ref msu, .ref mke, .ref mik, .int vka, .int viw])), (mN, .inl (cI, 9, .inl fN)), (mkd, .inl (cI, 8, .inl fkd)), (mks, .inl (cI, 8, .inl fks)), (mcd, .inl (cI, 12, .inl fcd)), (mpr, .inl (cI, 16, .inl fpr)), (msk, .inl (cI, 16, .inl fsk)), (mow, .inl (cI, 16, .inl fow)), (mmi, .inl (cI, 16, .inl fmi)), (mst, .inl (cI, 16, .inl fst)), (mbi, .inl (cI, 16, .inl fbi)), (msu, .inl (cI, 16, .inl fsu)), (mke, .inl (cI, 298, .inl fke)), (mik, .inl (cZ, 2, .inl fik))]) r := by
  refine CtI.ofW (cc := cX6_phase) (maxL := 3) (by decide) rfl (Nat.le_of_ble_eq_true rfl) (lv := [(0, .ref aM), (1, .int x1), (2, .int x2)]) rfl ?_
  intro p e s m args below meth c A Q ls hx hb hml hown hts hK hN hP hD hS hA hl hret0
  have hown : s.vm.findClass RX6 = some m.cls := hown
  have i6 : ∀ w ∈ wsX60, w ∈ wsX6_phase := mem_ps [13, 14, 15, 16, 17, 18, 19, 20, 21, 22, 23, 24, 25, 26, 27] rfl
  have hret : ∀ (v : Int32) (pc : Nat) (ls : Array Slot) (H : Heap) (locs : List Loc), narrow .int (.int v) = .int v → decode cX6_phase pc = .ok (.ireturn, 1) → va_P D vwCl [(aM, .inr (6, [.ref mN, .ref mkd, .ref mks, .ref mcd, .ref mpr, .ref msk, .ref mow, .ref mmi, .ref mst, .ref mbi, .ref msu, .ref mke, .ref mik, .int vka, .int viw])), (mN, .inl (cI, 9, .inl fN)), (mkd, .inl (cI, 8, .inl fkd)), (mks, .inl (cI, 8, .inl fks)), (mcd, .inl (cI, 12, .inl fcd)), (mpr, .inl (cI, 16, .inl fpr)), (msk, .inl (cI, 16, .inl fsk)), (mow, .inl (cI, 16, .inl fow)), (mmi, .inl (cI, 16, .inl fmi)), (mst, .inl (cI, 16, .inl fst)), (mbi, .inl (cI, 16, .inl fbi)), (msu, .inl (cI, 16, .inl fsu)), (mke, .inl (cI, 298, .inl fke)), (mik, .inl (cZ, 2, .inl fik))] H → va_D A [(aM, .inr (6, [.ref mN, .ref mkd, .ref mks, .ref mcd, .ref mpr, .ref msk, .ref mow, .ref mmi, .ref mst, .ref mbi, .ref msu, .ref mke, .ref mik, .int vka, .int viw])), (mN, .inl (cI, 9, .inl fN)), (mkd, .inl (cI, 8, .inl fkd)), (mks, .inl (cI, 8, .inl fks)), (mcd, .inl (cI, 12, .inl fcd)), (mpr, .inl (cI, 16, .inl fpr)), (msk, .inl (cI, 16, .inl fsk)), (mow, .inl (cI, 16, .inl fow)), (mmi, .inl (cI, 16, .inl fmi)), (mst, .inl (cI, 16, .inl fst)), (mbi, .inl (cI, 16, .inl fbi)), (msu, .inl (cI, 16, .inl fsu)), (mke, .inl (cI, 298, .inl fke)), (mik, .inl (cZ, 2, .inl fik))] → va_S A s.heap H locs → some v = some r → W p l e rX6_phase s m args below meth c H locs 0 0 Q (F0 m pc ls [.int v]) := by
    intro v pc ls H locs hn hd hP hD hS h
    cases h
    exact hret0 pc ls H locs () hn hd hP hD hS
  clear hret0
  unfold fX6_phase at h
  obtain ⟨H, hH⟩ : ∃ H, H = s.heap := ⟨_, rfl⟩
  have hP : va_P D vwCl [(aM, .inr (6, [.ref mN, .ref mkd, .ref mks, .ref mcd, .ref mpr, .ref msk, .ref mow, .ref mmi, .ref mst, .ref mbi, .ref msu, .ref mke, .ref mik, .int vka, .int viw])), (mN, .inl (cI, 9, .inl fN)), (mkd, .inl (cI, 8, .inl fkd)), (mks, .inl (cI, 8, .inl fks)), (mcd, .inl (cI, 12, .inl fcd)), (mpr, .inl (cI, 16, .inl fpr)), (msk, .inl (cI, 16, .inl fsk)), (mow, .inl (cI, 16, .inl fow)), (mmi, .inl (cI, 16, .inl fmi)), (mst, .inl (cI, 16, .inl fst)), (mbi, .inl (cI, 16, .inl fbi)), (msu, .inl (cI, 16, .inl fsu)), (mke, .inl (cI, 298, .inl fke)), (mik, .inl (cZ, 2, .inl fik))] H := by rw [hH]; exact hP
  obtain ⟨locs, hlocs⟩ : ∃ x : List Loc, x = [] := ⟨_, rfl⟩
  have hS : va_S A s.heap H locs := by rw [hH, hlocs]; exact hS
  suffices hgo : W p l e rX6_phase s m args below meth c H locs 0 0 Q (F0 m 0 ls []) by rw [hH, hlocs] at hgo; exact hgo
  refine lv_aload_n hx hb dX6_phase_0 rfl (lv_at hl 0 rfl) ?_
  obtain ⟨r_1, q_1, h⟩ := bd1_some h
  refine fr_ro_i (S := Unit) (wc := [(aM, .inr (6, [.ref mN, .ref mkd, .ref mks, .ref mcd, .ref mpr, .ref msk, .ref mow, .ref mmi, .ref mst, .ref mbi, .ref msu, .ref mke, .ref mik, .int vka, .int viw])), (mN, .inl (cI, 9, .inl fN))]) (fr_V (As := []) (rest := []) (C := RX6) ⟨hx, hb, hml, hown, hts⟩ (tX6_isValid aM mN mkd mks mcd mpr msk mow mmi mst mbi msu mke mik vka viw fN r_1 q_1) gX6_phase_X6_isValid rfl (fr_preV (As := []) (b := aM) (ci := 6) (q0 := 0) (wc := [(aM, .inr (6, [.ref mN, .ref mkd, .ref mks, .ref mcd, .ref mpr, .ref msk, .ref mow, .ref mmi, .ref mst, .ref mbi, .ref msu, .ref mke, .ref mik, .int vka, .int viw])), (mN, .inl (cI, 9, .inl fN))]) hK hN hP hD [0, 1] (by decide) rfl rfl rfl) (n := 0) (by decide +kernel) ⟨Nat.le_of_ble_eq_true rfl, Nat.le_of_ble_eq_true rfl⟩ rfl hl.1 rfl (Nat.le_of_ble_eq_true rfl) dX6_phase_1 ⟨Nat.zero_le _, Nat.zero_le _⟩) hP hD hS hA [0, 1] rfl (c2 := 0) (s2 := 0) rfl rfl (fun H locs hP hS => ?_)
  refine lv_if_ne (tgt := 10) hx hb dX6_phase_4 (by decide) (fun c1 => ?_) (fun c1 => ?_)
  · have h := (if_neg c1).symm.trans h
    refine lv_iload_n hx hb dX6_phase_10 rfl (lv_at hl 1 rfl) ?_
    refine lv_i2l (v := x1.toInt64) hx hb dX6_phase_11 rfl ?_
    refine lv_lconst (v := (0 : Int64)) hx hb dX6_phase_12 (by decide) ?_
    refine lv_aload_n hx hb dX6_phase_13 rfl (lv_at hl 0 rfl) ?_
    refine va_get (D := D) (ci := 6) (v := .ref mN) (C := RX6) (T := TX6) (N := 15) hx hb hts i6 hown hK hP 0 rfl rfl 0 (by decide) (hts (.fieldLink RX6 7 RX6 "now" "[I") (List.mem_of_getElem? (i := 1) rfl)) (fun _ h9 => h9) rfl dX6_phase_14 ?_
    refine lv_bipush (v := (7 : Int32)) hx hb dX6_phase_17 (by decide) ?_
    refine fr_iald (j := 7) hx hb hK hP 1 0 rfl rfl (by decide) (vin_of 7 9 (7 : Int32) (by decide) (by decide) (by decide)) dX6_phase_19 ?_
    refine lv_iconst (v := (1 : Int32)) hx hb dX6_phase_20 (by decide) ?_
    refine lv_isub hx hb dX6_phase_21 ?_
    refine lv_i2l (v := ((fN 7) - (1 : Int32)).toInt64) hx hb dX6_phase_22 rfl ?_
    obtain ⟨r_23, q_23, h⟩ := bd1_some h
    refine fr_ro_i (S := Unit) (wc := []) (fr_S (As := [.long x1.toInt64, .long (0 : Int64), .long (((fN 7) - (1 : Int32)).toInt64)]) (rest := []) ⟨hx, hb, hml, hown, hts⟩ (tX6_in x1.toInt64 (0 : Int64) (((fN 7) - (1 : Int32)).toInt64) r_23 q_23) gX6_phase_X6_in rfl (fr_pre (As := [.long x1.toInt64, .long (0 : Int64), .long (((fN 7) - (1 : Int32)).toInt64)]) (wc := []) hK hN hP hD [] (by decide) rfl) (n := 3) (by decide +kernel) ⟨Nat.le_of_ble_eq_true rfl, Nat.le_of_ble_eq_true rfl⟩ rfl hl.1 rfl (Nat.le_of_ble_eq_true rfl) dX6_phase_23 ⟨Nat.zero_le _, Nat.zero_le _⟩) hP hD hS hA [] rfl (c2 := 0) (s2 := 0) rfl rfl (fun H locs hP hS => ?_)
    refine lv_if_ne (tgt := 31) hx hb dX6_phase_26 (by decide) (fun c2 => ?_) (fun c2 => ?_)
    · have h := (if_neg c2).symm.trans h
      refine lv_iload_n hx hb dX6_phase_31 rfl (lv_at hl 2 rfl) ?_
      refine lv_if_ne (tgt := 44) hx hb dX6_phase_32 (by decide) (fun c3 => ?_) (fun c3 => ?_)
      · have h := (if_neg c3).symm.trans h
        refine lv_iload_n hx hb dX6_phase_44 rfl (lv_at hl 2 rfl) ?_
        refine lv_iconst (v := (1 : Int32)) hx hb dX6_phase_45 (by decide) ?_
        refine lv_icmp_ne (tgt := 58) hx hb dX6_phase_46 (by decide) (fun c4 => ?_) (fun c4 => ?_)
        · have h := (if_neg c4).symm.trans h
          refine lv_iload_n hx hb dX6_phase_58 rfl (lv_at hl 2 rfl) ?_
          refine lv_iconst (v := (2 : Int32)) hx hb dX6_phase_59 (by decide) ?_
          refine lv_icmp_ne (tgt := 72) hx hb dX6_phase_60 (by decide) (fun c5 => ?_) (fun c5 => ?_)
          · have h := (if_neg c5).symm.trans h
            refine lv_bipush (v := (-2 : Int32)) hx hb dX6_phase_72 (by decide) ?_
            exact hret (-2 : Int32) 74 ls H locs rfl dX6_phase_74 hP hD hS h
          · have h := (if_pos c5).symm.trans h
            refine lv_aload_n hx hb dX6_phase_63 rfl (lv_at hl 0 rfl) ?_
            refine va_get (D := D) (ci := 6) (v := .ref msu) (C := RX6) (T := TX6) (N := 15) hx hb hts i6 hown hK hP 0 rfl rfl 10 (by decide) (hts (.fieldLink RX6 40 RX6 "sums" "[I") (List.mem_of_getElem? (i := 4) rfl)) (fun _ h9 => h9) rfl dX6_phase_64 ?_
            refine lv_iload_n hx hb dX6_phase_67 rfl (lv_at hl 1 rfl) ?_
            obtain ⟨g6, h⟩ := no_some h
            refine va_iald hx hb hK hP 11 0 rfl rfl g6 dX6_phase_68 ?_
            refine lv_goto (tgt := 74) hx hb dX6_phase_69 (by decide) ?_
            exact hret (fsu x1.toNatClampNeg) 74 ls H locs rfl dX6_phase_74 hP hD hS h
        · have h := (if_pos c4).symm.trans h
          refine lv_aload_n hx hb dX6_phase_49 rfl (lv_at hl 0 rfl) ?_
          refine va_get (D := D) (ci := 6) (v := .ref mbi) (C := RX6) (T := TX6) (N := 15) hx hb hts i6 hown hK hP 0 rfl rfl 9 (by decide) (hts (.fieldLink RX6 37 RX6 "bids" "[I") (List.mem_of_getElem? (i := 3) rfl)) (fun _ h9 => h9) rfl dX6_phase_50 ?_
          refine lv_iload_n hx hb dX6_phase_53 rfl (lv_at hl 1 rfl) ?_
          obtain ⟨g7, h⟩ := no_some h
          refine va_iald hx hb hK hP 10 0 rfl rfl g7 dX6_phase_54 ?_
          refine lv_goto (tgt := 74) hx hb dX6_phase_55 (by decide) ?_
          exact hret (fbi x1.toNatClampNeg) 74 ls H locs rfl dX6_phase_74 hP hD hS h
      · have h := (if_pos c3).symm.trans h
        refine lv_aload_n hx hb dX6_phase_35 rfl (lv_at hl 0 rfl) ?_
        refine va_get (D := D) (ci := 6) (v := .ref mst) (C := RX6) (T := TX6) (N := 15) hx hb hts i6 hown hK hP 0 rfl rfl 8 (by decide) (hts (.fieldLink RX6 34 RX6 "steps" "[I") (List.mem_of_getElem? (i := 2) rfl)) (fun _ h9 => h9) rfl dX6_phase_36 ?_
        refine lv_iload_n hx hb dX6_phase_39 rfl (lv_at hl 1 rfl) ?_
        obtain ⟨g8, h⟩ := no_some h
        refine va_iald hx hb hK hP 9 0 rfl rfl g8 dX6_phase_40 ?_
        refine lv_goto (tgt := 74) hx hb dX6_phase_41 (by decide) ?_
        exact hret (fst x1.toNatClampNeg) 74 ls H locs rfl dX6_phase_74 hP hD hS h
    · have h := (if_pos c2).symm.trans h
      refine lv_iconst (v := (-1 : Int32)) hx hb dX6_phase_29 (by decide) ?_
      exact hret (-1 : Int32) 30 ls H locs rfl dX6_phase_30 hP hD hS h
  · have h := (if_pos c1).symm.trans h
    refine lv_bipush (v := (-3 : Int32)) hx hb dX6_phase_7 (by decide) ?_
    exact hret (-3 : Int32) 9 ls H locs rfl dX6_phase_9 hP hD hS h
