def fX4_begin_b7  : Nat → Int32 → Int32 → (Nat → Int32) → Option (Int32 × (Nat → Int32))
  | 0, _, _, _ => none
  | n + 1, x1, vPh, fPr =>
    if (16 : Int32) ≤ x1 then
      some (vPh, fPr)
    else
      if x1 < 0 ∨ 16 ≤ x1.toNatClampNeg then none else
      fX4_begin_b7  n (x1 + 1) vPh (upd fPr x1.toNatClampNeg (0 : Int32))
def fX4_begin (vPh : Int32) (fPr : Nat → Int32) : Option (Int32 × (Nat → Int32)) :=
  fX4_begin_b7  FU (0 : Int32) (0 : Int32) fPr
abbrev rX4_begin : Room := { frames := 0, cells := 0, slots := 0, locals := 0 }
set_option maxHeartbeats 4000000 in
set_option maxRecDepth 100000 in
theorem tX4_begin {l : Launch} {D : va_G} {cI cZ cP : ClassId} (aS aPr aHo aHe aSt aPb aPs : Nat) (vVa : Int32) (vCo : Int32) (vBi : Int32) (vPh : Int32) (fPr : Nat → Int32) (oPh : Int32) (oPr : Nat → Int32) (h : fX4_begin vPh fPr = some (oPh, oPr)) : CtV l D cI cZ cP yX4_begin wsX4_begin rX4_begin [.ref aS] [(aS, .inr (4, [.int vVa, .int vCo, .int vBi, .int vPh, .ref aPr, .ref aHo, .ref aHe, .ref aSt, .ref aPb, .ref aPs])), (aPr, .inl (cI, 16, .inl fPr))] (fun _ : Unit => [(aS, .inr (4, [.int vVa, .int vCo, .int vBi, .int oPh, .ref aPr, .ref aHo, .ref aHe, .ref aSt, .ref aPb, .ref aPs])), (aPr, .inl (cI, 16, .inl oPr))]) := by
  refine CtV.ofW (cc := cX4_begin) (maxL := 2) (by decide) rfl (Nat.le_of_ble_eq_true rfl) (lv := [(0, .ref aS)]) rfl ?_
  intro p e s m args below meth c A Q ls hx hb hml hown hts hK hN hP hD hS hA hl hin hret0
  have hown : s.vm.findClass RX4 = some m.cls := hown
  have i4 : ∀ w ∈ wsX40, w ∈ wsX4_begin := mem_ps [3, 4, 5, 6, 7, 8, 9, 10, 11, 12] rfl
  have hret : ∀ (zPh : Int32) (zPr : Nat → Int32) (pc : Nat) (ls : Array Slot) (H : Heap) (locs : List Loc), decode cX4_begin pc = .ok (.return_, 1) → va_P D vwCl [(aS, .inr (4, [.int vVa, .int vCo, .int vBi, .int zPh, .ref aPr, .ref aHo, .ref aHe, .ref aSt, .ref aPb, .ref aPs])), (aPr, .inl (cI, 16, .inl zPr))] H → va_D A [(aS, .inr (4, [.int vVa, .int vCo, .int vBi, .int zPh, .ref aPr, .ref aHo, .ref aHe, .ref aSt, .ref aPb, .ref aPs])), (aPr, .inl (cI, 16, .inl zPr))] → va_S A s.heap H locs → some (zPh, zPr) = some (oPh, oPr) → W p l e rX4_begin s m args below meth c H locs 0 0 Q (F0 m pc ls []) := by
    intro zPh zPr pc ls H locs hd hP hD hS h
    cases h
    exact hret0 pc ls H locs () hd hP hD hS
  clear hret0
  have hb7 : ∀ (n : Nat) (x1 : Int32) (vPh : Int32) (fPr : Nat → Int32) (H : Heap) (locs : List Loc) (ls : Array Slot), va_P D vwCl [(aS, .inr (4, [.int vVa, .int vCo, .int vBi, .int vPh, .ref aPr, .ref aHo, .ref aHe, .ref aSt, .ref aPb, .ref aPs])), (aPr, .inl (cI, 16, .inl fPr))] H → va_D A [(aS, .inr (4, [.int vVa, .int vCo, .int vBi, .int vPh, .ref aPr, .ref aHo, .ref aHe, .ref aSt, .ref aPb, .ref aPs])), (aPr, .inl (cI, 16, .inl fPr))] → va_S A s.heap H locs → lv_has ls 2 [(0, .ref aS), (1, .int x1)] → fX4_begin_b7  n x1 vPh fPr = some (oPh, oPr) → W p l e rX4_begin s m args below meth c H locs 0 0 Q (F0 m 7 ls []) := by
    intro n
    induction n with
    | zero => intro x1 vPh fPr H locs ls hP hD hS hl h; exact absurd h (by rw [fX4_begin_b7]; exact fun z => by cases z)
    | succ n ih =>
      intro x1 vPh fPr H locs ls hP hD hS hl h
      rw [fX4_begin_b7] at h
      refine lv_iload_n hx hb dX4_begin_7 rfl (lv_at hl 1 rfl) ?_
      refine lv_bipush (v := (16 : Int32)) hx hb dX4_begin_8 (by decide) ?_
      refine lv_icmp_ge (tgt := 26) hx hb dX4_begin_10 (by decide) (fun c1 => ?_) (fun c1 => ?_)
      · have h := (if_pos c1).symm.trans h
        exact hret vPh fPr 26 ls H locs dX4_begin_26 hP hD hS h
      · have h := (if_neg c1).symm.trans h
        refine lv_aload_n hx hb dX4_begin_13 rfl (lv_at hl 0 rfl) ?_
        refine va_get (D := D) (ci := 4) (v := .ref aPr) (C := RX4) (T := TX4) (N := 10) hx hb hts i4 hown hK hP 0 rfl rfl 4 (by decide) (hts (.fieldLink RX4 9 RX4 "prices" "[I") (List.mem_of_getElem? (i := 2) rfl)) (fun _ h9 => h9) rfl dX4_begin_14 ?_
        refine lv_iload_n hx hb dX4_begin_17 rfl (lv_at hl 1 rfl) ?_
        refine lv_iconst (v := (0 : Int32)) hx hb dX4_begin_18 (by decide) ?_
        obtain ⟨g2, h⟩ := no_some h
        refine va_iast hx hb hK hP hD hS 1 0 rfl rfl g2 dX4_begin_19 (fun H locs hP hD hS => ?_)
        have hP : va_P D vwCl [(aS, .inr (4, [.int vVa, .int vCo, .int vBi, .int vPh, .ref aPr, .ref aHo, .ref aHe, .ref aSt, .ref aPb, .ref aPs])), (aPr, .inl (cI, 16, .inl (upd fPr x1.toNatClampNeg (0 : Int32))))] H := hP
        have hD : va_D A [(aS, .inr (4, [.int vVa, .int vCo, .int vBi, .int vPh, .ref aPr, .ref aHo, .ref aHe, .ref aSt, .ref aPb, .ref aPs])), (aPr, .inl (cI, 16, .inl (upd fPr x1.toNatClampNeg (0 : Int32))))] := hD
        refine lv_iinc (v := x1 + 1) (lv' := [(1, .int (x1 + 1)), (0, .ref aS)]) hx hb dX4_begin_20 hl (k := 1) rfl rfl (by decide) rfl (fun ls hl => ?_)
        refine lv_goto (tgt := 7) hx hb dX4_begin_23 (by decide) ?_
        exact ih (x1 + 1) vPh (upd fPr x1.toNatClampNeg (0 : Int32)) H locs ls hP hD hS (lv_sub hl [1, 0] rfl) h
  unfold fX4_begin at h
  obtain ⟨H, hH⟩ : ∃ H, H = s.heap := ⟨_, rfl⟩
  have hP : va_P D vwCl [(aS, .inr (4, [.int vVa, .int vCo, .int vBi, .int vPh, .ref aPr, .ref aHo, .ref aHe, .ref aSt, .ref aPb, .ref aPs])), (aPr, .inl (cI, 16, .inl fPr))] H := by rw [hH]; exact hP
  obtain ⟨locs, hlocs⟩ : ∃ x : List Loc, x = [] := ⟨_, rfl⟩
  have hS : va_S A s.heap H locs := by rw [hH, hlocs]; exact hS
  suffices hgo : W p l e rX4_begin s m args below meth c H locs 0 0 Q (F0 m 0 ls []) by rw [hH, hlocs] at hgo; exact hgo
  refine lv_aload_n hx hb dX4_begin_0 rfl (lv_at hl 0 rfl) ?_
  refine lv_iconst (v := (0 : Int32)) hx hb dX4_begin_1 (by decide) ?_
  refine va_put (D := D) (ci := 4) (v := .int (0 : Int32)) (ty := .int) (C := RX4) (T := TX4) (N := 10) hx hb hts i4 tyX4 tyX4_ok nmX4 hown hK hP hD hS 0 rfl rfl 3 (by decide) (hts (.fieldLink RX4 37 RX4 "phases" "I") (List.mem_of_getElem? (i := 1) rfl)) (fun _ h9 => h9) rfl (by decide +kernel) rfl rfl (Nat.le_of_ble_eq_true rfl) dX4_begin_2 (fun H locs hP hD hS => ?_)
  have hP : va_P D vwCl [(aS, .inr (4, [.int vVa, .int vCo, .int vBi, .int (0 : Int32), .ref aPr, .ref aHo, .ref aHe, .ref aSt, .ref aPb, .ref aPs])), (aPr, .inl (cI, 16, .inl fPr))] H := hP
  have hD : va_D A [(aS, .inr (4, [.int vVa, .int vCo, .int vBi, .int (0 : Int32), .ref aPr, .ref aHo, .ref aHe, .ref aSt, .ref aPb, .ref aPs])), (aPr, .inl (cI, 16, .inl fPr))] := hD
  refine lv_iconst (v := (0 : Int32)) hx hb dX4_begin_5 (by decide) ?_
  refine lv_istore_n (lv' := [(1, .int (0 : Int32)), (0, .ref aS)]) hx hb dX4_begin_6 rfl hl (by decide) rfl (fun ls hl => ?_)
  exact hb7 FU (0 : Int32) (0 : Int32) fPr H locs ls hP hD hS (lv_sub hl [1, 0] rfl) h
def fX4_freeAll_b2  : Nat → Int32 → (Nat → Int32) → (Nat → Int32) → Option ((Nat → Int32) × (Nat → Int32))
  | 0, _, _, _ => none
  | n + 1, x1, fHo, fHe =>
    if (16 : Int32) ≤ x1 then
      some (fHo, fHe)
    else
      if x1 < 0 ∨ 16 ≤ x1.toNatClampNeg then none else
      if x1 < 0 ∨ 16 ≤ x1.toNatClampNeg then none else
      fX4_freeAll_b2  n (x1 + 1) (upd fHo x1.toNatClampNeg (-6 : Int32)) (upd fHe x1.toNatClampNeg (-6 : Int32))
def fX4_freeAll (fHo : Nat → Int32) (fHe : Nat → Int32) : Option ((Nat → Int32) × (Nat → Int32)) :=
  fX4_freeAll_b2  FU (0 : Int32) fHo fHe
abbrev rX4_freeAll : Room := { frames := 0, cells := 0, slots := 0, locals := 0 }
set_option maxHeartbeats 4000000 in
set_option maxRecDepth 100000 in
theorem tX4_freeAll {l : Launch} {D : va_G} {cI cZ cP : ClassId} (aS aHo aHe aPr aSt aPb aPs : Nat) (vVa : Int32) (vCo : Int32) (vBi : Int32) (vPh : Int32) (fHo : Nat → Int32) (fHe : Nat → Int32) (oHo : Nat → Int32) (oHe : Nat → Int32) (h : fX4_freeAll fHo fHe = some (oHo, oHe)) : CtV l D cI cZ cP yX4_freeAll wsX4_freeAll rX4_freeAll [.ref aS] [(aS, .inr (4, [.int vVa, .int vCo, .int vBi, .int vPh, .ref aPr, .ref aHo, .ref aHe, .ref aSt, .ref aPb, .ref aPs])), (aHo, .inl (cI, 16, .inl fHo)), (aHe, .inl (cI, 16, .inl fHe))] (fun _ : Unit => [(aS, .inr (4, [.int vVa, .int vCo, .int vBi, .int vPh, .ref aPr, .ref aHo, .ref aHe, .ref aSt, .ref aPb, .ref aPs])), (aHo, .inl (cI, 16, .inl oHo)), (aHe, .inl (cI, 16, .inl oHe))]) := by
  refine CtV.ofW (cc := cX4_freeAll) (maxL := 2) (by decide) rfl (Nat.le_of_ble_eq_true rfl) (lv := [(0, .ref aS)]) rfl ?_
  intro p e s m args below meth c A Q ls hx hb hml hown hts hK hN hP hD hS hA hl hin hret0
  have hown : s.vm.findClass RX4 = some m.cls := hown
  have i4 : ∀ w ∈ wsX40, w ∈ wsX4_freeAll := mem_ps [3, 4, 5, 6, 7, 8, 9, 10, 11, 12] rfl
  have hret : ∀ (zHo : Nat → Int32) (zHe : Nat → Int32) (pc : Nat) (ls : Array Slot) (H : Heap) (locs : List Loc), decode cX4_freeAll pc = .ok (.return_, 1) → va_P D vwCl [(aS, .inr (4, [.int vVa, .int vCo, .int vBi, .int vPh, .ref aPr, .ref aHo, .ref aHe, .ref aSt, .ref aPb, .ref aPs])), (aHo, .inl (cI, 16, .inl zHo)), (aHe, .inl (cI, 16, .inl zHe))] H → va_D A [(aS, .inr (4, [.int vVa, .int vCo, .int vBi, .int vPh, .ref aPr, .ref aHo, .ref aHe, .ref aSt, .ref aPb, .ref aPs])), (aHo, .inl (cI, 16, .inl zHo)), (aHe, .inl (cI, 16, .inl zHe))] → va_S A s.heap H locs → some (zHo, zHe) = some (oHo, oHe) → W p l e rX4_freeAll s m args below meth c H locs 0 0 Q (F0 m pc ls []) := by
    intro zHo zHe pc ls H locs hd hP hD hS h
    cases h
    exact hret0 pc ls H locs () hd hP hD hS
  clear hret0
  have hb2 : ∀ (n : Nat) (x1 : Int32) (fHo : Nat → Int32) (fHe : Nat → Int32) (H : Heap) (locs : List Loc) (ls : Array Slot), va_P D vwCl [(aS, .inr (4, [.int vVa, .int vCo, .int vBi, .int vPh, .ref aPr, .ref aHo, .ref aHe, .ref aSt, .ref aPb, .ref aPs])), (aHo, .inl (cI, 16, .inl fHo)), (aHe, .inl (cI, 16, .inl fHe))] H → va_D A [(aS, .inr (4, [.int vVa, .int vCo, .int vBi, .int vPh, .ref aPr, .ref aHo, .ref aHe, .ref aSt, .ref aPb, .ref aPs])), (aHo, .inl (cI, 16, .inl fHo)), (aHe, .inl (cI, 16, .inl fHe))] → va_S A s.heap H locs → lv_has ls 2 [(0, .ref aS), (1, .int x1)] → fX4_freeAll_b2  n x1 fHo fHe = some (oHo, oHe) → W p l e rX4_freeAll s m args below meth c H locs 0 0 Q (F0 m 2 ls []) := by
    intro n
    induction n with
    | zero => intro x1 fHo fHe H locs ls hP hD hS hl h; exact absurd h (by rw [fX4_freeAll_b2]; exact fun z => by cases z)
    | succ n ih =>
      intro x1 fHo fHe H locs ls hP hD hS hl h
      rw [fX4_freeAll_b2] at h
      refine lv_iload_n hx hb dX4_freeAll_2 rfl (lv_at hl 1 rfl) ?_
      refine lv_bipush (v := (16 : Int32)) hx hb dX4_freeAll_3 (by decide) ?_
      refine lv_icmp_ge (tgt := 30) hx hb dX4_freeAll_5 (by decide) (fun c1 => ?_) (fun c1 => ?_)
      · have h := (if_pos c1).symm.trans h
        exact hret fHo fHe 30 ls H locs dX4_freeAll_30 hP hD hS h
      · have h := (if_neg c1).symm.trans h
        refine lv_aload_n hx hb dX4_freeAll_8 rfl (lv_at hl 0 rfl) ?_
        refine va_get (D := D) (ci := 4) (v := .ref aHo) (C := RX4) (T := TX4) (N := 10) hx hb hts i4 hown hK hP 0 rfl rfl 5 (by decide) (hts (.fieldLink RX4 15 RX4 "holders" "[I") (List.mem_of_getElem? (i := 1) rfl)) (fun _ h9 => h9) rfl dX4_freeAll_9 ?_
        refine lv_iload_n hx hb dX4_freeAll_12 rfl (lv_at hl 1 rfl) ?_
        refine lv_bipush (v := (-6 : Int32)) hx hb dX4_freeAll_13 (by decide) ?_
        obtain ⟨g2, h⟩ := no_some h
        refine va_iast hx hb hK hP hD hS 1 0 rfl rfl g2 dX4_freeAll_15 (fun H locs hP hD hS => ?_)
        have hP : va_P D vwCl [(aS, .inr (4, [.int vVa, .int vCo, .int vBi, .int vPh, .ref aPr, .ref aHo, .ref aHe, .ref aSt, .ref aPb, .ref aPs])), (aHo, .inl (cI, 16, .inl (upd fHo x1.toNatClampNeg (-6 : Int32)))), (aHe, .inl (cI, 16, .inl fHe))] H := hP
        have hD : va_D A [(aS, .inr (4, [.int vVa, .int vCo, .int vBi, .int vPh, .ref aPr, .ref aHo, .ref aHe, .ref aSt, .ref aPb, .ref aPs])), (aHo, .inl (cI, 16, .inl (upd fHo x1.toNatClampNeg (-6 : Int32)))), (aHe, .inl (cI, 16, .inl fHe))] := hD
        refine lv_aload_n hx hb dX4_freeAll_16 rfl (lv_at hl 0 rfl) ?_
        refine va_get (D := D) (ci := 4) (v := .ref aHe) (C := RX4) (T := TX4) (N := 10) hx hb hts i4 hown hK hP 0 rfl rfl 6 (by decide) (hts (.fieldLink RX4 18 RX4 "held" "[I") (List.mem_of_getElem? (i := 2) rfl)) (fun _ h9 => h9) rfl dX4_freeAll_17 ?_
        refine lv_iload_n hx hb dX4_freeAll_20 rfl (lv_at hl 1 rfl) ?_
        refine lv_bipush (v := (-6 : Int32)) hx hb dX4_freeAll_21 (by decide) ?_
        obtain ⟨g3, h⟩ := no_some h
        refine va_iast hx hb hK hP hD hS 2 0 rfl rfl g3 dX4_freeAll_23 (fun H locs hP hD hS => ?_)
        have hP : va_P D vwCl [(aS, .inr (4, [.int vVa, .int vCo, .int vBi, .int vPh, .ref aPr, .ref aHo, .ref aHe, .ref aSt, .ref aPb, .ref aPs])), (aHo, .inl (cI, 16, .inl (upd fHo x1.toNatClampNeg (-6 : Int32)))), (aHe, .inl (cI, 16, .inl (upd fHe x1.toNatClampNeg (-6 : Int32))))] H := hP
        have hD : va_D A [(aS, .inr (4, [.int vVa, .int vCo, .int vBi, .int vPh, .ref aPr, .ref aHo, .ref aHe, .ref aSt, .ref aPb, .ref aPs])), (aHo, .inl (cI, 16, .inl (upd fHo x1.toNatClampNeg (-6 : Int32)))), (aHe, .inl (cI, 16, .inl (upd fHe x1.toNatClampNeg (-6 : Int32))))] := hD
        refine lv_iinc (v := x1 + 1) (lv' := [(1, .int (x1 + 1)), (0, .ref aS)]) hx hb dX4_freeAll_24 hl (k := 1) rfl rfl (by decide) rfl (fun ls hl => ?_)
        refine lv_goto (tgt := 2) hx hb dX4_freeAll_27 (by decide) ?_
        exact ih (x1 + 1) (upd fHo x1.toNatClampNeg (-6 : Int32)) (upd fHe x1.toNatClampNeg (-6 : Int32)) H locs ls hP hD hS (lv_sub hl [1, 0] rfl) h
  unfold fX4_freeAll at h
  obtain ⟨H, hH⟩ : ∃ H, H = s.heap := ⟨_, rfl⟩
  have hP : va_P D vwCl [(aS, .inr (4, [.int vVa, .int vCo, .int vBi, .int vPh, .ref aPr, .ref aHo, .ref aHe, .ref aSt, .ref aPb, .ref aPs])), (aHo, .inl (cI, 16, .inl fHo)), (aHe, .inl (cI, 16, .inl fHe))] H := by rw [hH]; exact hP
  obtain ⟨locs, hlocs⟩ : ∃ x : List Loc, x = [] := ⟨_, rfl⟩
  have hS : va_S A s.heap H locs := by rw [hH, hlocs]; exact hS
  suffices hgo : W p l e rX4_freeAll s m args below meth c H locs 0 0 Q (F0 m 0 ls []) by rw [hH, hlocs] at hgo; exact hgo
  refine lv_iconst (v := (0 : Int32)) hx hb dX4_freeAll_0 (by decide) ?_
  refine lv_istore_n (lv' := [(1, .int (0 : Int32)), (0, .ref aS)]) hx hb dX4_freeAll_1 rfl hl (by decide) rfl (fun ls hl => ?_)
  exact hb2 FU (0 : Int32) fHo fHe H locs ls hP hD hS (lv_sub hl [1, 0] rfl) h
def fX4_isInRow (x0 : Int32) : Option (Int32) :=
  if x0 < 0 then
    some (0 : Int32)
  else
    if (16 : Int32) ≤ x0 then
      some (0 : Int32)
    else
      some (1 : Int32)
abbrev rX4_isInRow : Room := { frames := 0, cells := 0, slots := 0, locals := 0 }
set_option maxHeartbeats 4000000 in
set_option maxRecDepth 100000 in
theorem tX4_isInRow {l : Launch} {D : va_G} {cI cZ cP : ClassId} (x0 : Int32) (r : Int32) (h : fX4_isInRow x0 = some r) : CtI l D cI cZ cP yX4_isInRow wsX4_isInRow rX4_isInRow [.int x0] [] (fun _ : Unit => []) r := by
  refine CtI.ofW (cc := cX4_isInRow) (maxL := 1) (by decide) rfl (Nat.le_of_ble_eq_true rfl) (lv := [(0, .int x0)]) rfl ?_
  intro p e s m args below meth c A Q ls hx hb hml hown hts hK hN hP hD hS hA hl hret0
  have hown : s.vm.findClass RX4 = some m.cls := hown
  have hret : ∀ (v : Int32) (pc : Nat) (ls : Array Slot) (H : Heap) (locs : List Loc), narrow .boolean (.int v) = .int v → decode cX4_isInRow pc = .ok (.ireturn, 1) → va_P D vwCl [] H → va_D A [] → va_S A s.heap H locs → some v = some r → W p l e rX4_isInRow s m args below meth c H locs 0 0 Q (F0 m pc ls [.int v]) := by
    intro v pc ls H locs hn hd hP hD hS h
    cases h
    exact hret0 pc ls H locs () hn hd hP hD hS
  clear hret0
  unfold fX4_isInRow at h
  obtain ⟨H, hH⟩ : ∃ H, H = s.heap := ⟨_, rfl⟩
  have hP : va_P D vwCl [] H := by rw [hH]; exact hP
  obtain ⟨locs, hlocs⟩ : ∃ x : List Loc, x = [] := ⟨_, rfl⟩
  have hS : va_S A s.heap H locs := by rw [hH, hlocs]; exact hS
  suffices hgo : W p l e rX4_isInRow s m args below meth c H locs 0 0 Q (F0 m 0 ls []) by rw [hH, hlocs] at hgo; exact hgo
  refine lv_iload_n hx hb dX4_isInRow_0 rfl (lv_at hl 0 rfl) ?_
  refine lv_if_lt (tgt := 14) hx hb dX4_isInRow_1 (by decide) (fun c1 => ?_) (fun c1 => ?_)
  · have h := (if_pos c1).symm.trans h
    refine lv_iconst (v := (0 : Int32)) hx hb dX4_isInRow_14 (by decide) ?_
    exact hret (0 : Int32) 15 ls H locs rfl dX4_isInRow_15 hP hD hS h
  · have h := (if_neg c1).symm.trans h
    refine lv_iload_n hx hb dX4_isInRow_4 rfl (lv_at hl 0 rfl) ?_
    refine lv_bipush (v := (16 : Int32)) hx hb dX4_isInRow_5 (by decide) ?_
    refine lv_icmp_ge (tgt := 14) hx hb dX4_isInRow_7 (by decide) (fun c2 => ?_) (fun c2 => ?_)
    · have h := (if_pos c2).symm.trans h
      refine lv_iconst (v := (0 : Int32)) hx hb dX4_isInRow_14 (by decide) ?_
      exact hret (0 : Int32) 15 ls H locs rfl dX4_isInRow_15 hP hD hS h
    · have h := (if_neg c2).symm.trans h
      refine lv_iconst (v := (1 : Int32)) hx hb dX4_isInRow_10 (by decide) ?_
      refine lv_goto (tgt := 15) hx hb dX4_isInRow_11 (by decide) ?_
      exact hret (1 : Int32) 15 ls H locs rfl dX4_isInRow_15 hP hD hS h
def fX4_give_b37  (x1 : Int32) (x2 : Int32) (fHo : Nat → Int32) (fHe : Nat → Int32) : Option ((Nat → Int32) × (Nat → Int32)) :=
  if x1 < 0 ∨ 16 ≤ x1.toNatClampNeg then none else
  if x2 < 0 ∨ 16 ≤ x2.toNatClampNeg then none else
  some (upd fHo x1.toNatClampNeg x2, upd fHe x2.toNatClampNeg x1)
def fX4_give (fHo : Nat → Int32) (fHe : Nat → Int32) (x1 : Int32) (x2 : Int32) : Option ((Nat → Int32) × (Nat → Int32)) :=
  bd1 (fX4_isInRow x1) fun r_1 =>
  if r_1 = 0 then
    some (fHo, fHe)
  else
    bd1 (fX4_isInRow x2) fun r_8 =>
    if r_8 = 0 then
      some (fHo, fHe)
    else
      if x1 < 0 ∨ 16 ≤ x1.toNatClampNeg then none else
      bdv (fHo x1.toNatClampNeg) fun x3_21 =>
      bd1 (fX4_isInRow x3_21) fun r_23 =>
      if r_23 = 0 then
        fX4_give_b37  x1 x2 fHo fHe
      else
        if x3_21 < 0 ∨ 16 ≤ x3_21.toNatClampNeg then none else
        fX4_give_b37  x1 x2 fHo (upd fHe x3_21.toNatClampNeg (-6 : Int32))
abbrev rX4_give : Room := { frames := 1, cells := 0, slots := 0, locals := 20 }
set_option maxHeartbeats 4000000 in
set_option maxRecDepth 100000 in
theorem tX4_give {l : Launch} {D : va_G} {cI cZ cP : ClassId} (aS aHo aHe aPr aSt aPb aPs : Nat) (vVa : Int32) (vCo : Int32) (vBi : Int32) (vPh : Int32) (fHo : Nat → Int32) (fHe : Nat → Int32) (x1 : Int32) (x2 : Int32) (oHo : Nat → Int32) (oHe : Nat → Int32) (h : fX4_give fHo fHe x1 x2 = some (oHo, oHe)) : CtV l D cI cZ cP yX4_give wsX4_give rX4_give [.ref aS, .int x1, .int x2] [(aS, .inr (4, [.int vVa, .int vCo, .int vBi, .int vPh, .ref aPr, .ref aHo, .ref aHe, .ref aSt, .ref aPb, .ref aPs])), (aHo, .inl (cI, 16, .inl fHo)), (aHe, .inl (cI, 16, .inl fHe))] (fun _ : Unit => [(aS, .inr (4, [.int vVa, .int vCo, .int vBi, .int vPh, .ref aPr, .ref aHo, .ref aHe, .ref aSt, .ref aPb, .ref aPs])), (aHo, .inl (cI, 16, .inl oHo)), (aHe, .inl (cI, 16, .inl oHe))]) := by
  refine CtV.ofW (cc := cX4_give) (maxL := 4) (by decide) rfl (Nat.le_of_ble_eq_true rfl) (lv := [(0, .ref aS), (1, .int x1), (2, .int x2)]) rfl ?_
  intro p e s m args below meth c A Q ls hx hb hml hown hts hK hN hP hD hS hA hl hin hret0
  have hown : s.vm.findClass RX4 = some m.cls := hown
  have i4 : ∀ w ∈ wsX40, w ∈ wsX4_give := mem_ps [7, 8, 9, 10, 11, 12, 13, 14, 15, 16] rfl
  have hret : ∀ (zHo : Nat → Int32) (zHe : Nat → Int32) (pc : Nat) (ls : Array Slot) (H : Heap) (locs : List Loc), decode cX4_give pc = .ok (.return_, 1) → va_P D vwCl [(aS, .inr (4, [.int vVa, .int vCo, .int vBi, .int vPh, .ref aPr, .ref aHo, .ref aHe, .ref aSt, .ref aPb, .ref aPs])), (aHo, .inl (cI, 16, .inl zHo)), (aHe, .inl (cI, 16, .inl zHe))] H → va_D A [(aS, .inr (4, [.int vVa, .int vCo, .int vBi, .int vPh, .ref aPr, .ref aHo, .ref aHe, .ref aSt, .ref aPb, .ref aPs])), (aHo, .inl (cI, 16, .inl zHo)), (aHe, .inl (cI, 16, .inl zHe))] → va_S A s.heap H locs → some (zHo, zHe) = some (oHo, oHe) → W p l e rX4_give s m args below meth c H locs 0 0 Q (F0 m pc ls []) := by
    intro zHo zHe pc ls H locs hd hP hD hS h
    cases h
    exact hret0 pc ls H locs () hd hP hD hS
  clear hret0
  have hb37 : ∀ (x1 : Int32) (x2 : Int32) (fHo : Nat → Int32) (fHe : Nat → Int32) (H : Heap) (locs : List Loc) (ls : Array Slot), va_P D vwCl [(aS, .inr (4, [.int vVa, .int vCo, .int vBi, .int vPh, .ref aPr, .ref aHo, .ref aHe, .ref aSt, .ref aPb, .ref aPs])), (aHo, .inl (cI, 16, .inl fHo)), (aHe, .inl (cI, 16, .inl fHe))] H → va_D A [(aS, .inr (4, [.int vVa, .int vCo, .int vBi, .int vPh, .ref aPr, .ref aHo, .ref aHe, .ref aSt, .ref aPb, .ref aPs])), (aHo, .inl (cI, 16, .inl fHo)), (aHe, .inl (cI, 16, .inl fHe))] → va_S A s.heap H locs → lv_has ls 4 [(0, .ref aS), (1, .int x1), (2, .int x2)] → fX4_give_b37  x1 x2 fHo fHe = some (oHo, oHe) → W p l e rX4_give s m args below meth c H locs 0 0 Q (F0 m 37 ls []) := by
    intro x1 x2 fHo fHe H locs ls hP hD hS hl h
    unfold fX4_give_b37 at h
    refine lv_aload_n hx hb dX4_give_37 rfl (lv_at hl 0 rfl) ?_
    refine va_get (D := D) (ci := 4) (v := .ref aHo) (C := RX4) (T := TX4) (N := 10) hx hb hts i4 hown hK hP 0 rfl rfl 5 (by decide) (hts (.fieldLink RX4 15 RX4 "holders" "[I") (List.mem_of_getElem? (i := 1) rfl)) (fun _ h9 => h9) rfl dX4_give_38 ?_
    refine lv_iload_n hx hb dX4_give_41 rfl (lv_at hl 1 rfl) ?_
    refine lv_iload_n hx hb dX4_give_42 rfl (lv_at hl 2 rfl) ?_
    obtain ⟨g1, h⟩ := no_some h
    refine va_iast hx hb hK hP hD hS 1 0 rfl rfl g1 dX4_give_43 (fun H locs hP hD hS => ?_)
    have hP : va_P D vwCl [(aS, .inr (4, [.int vVa, .int vCo, .int vBi, .int vPh, .ref aPr, .ref aHo, .ref aHe, .ref aSt, .ref aPb, .ref aPs])), (aHo, .inl (cI, 16, .inl (upd fHo x1.toNatClampNeg x2))), (aHe, .inl (cI, 16, .inl fHe))] H := hP
    have hD : va_D A [(aS, .inr (4, [.int vVa, .int vCo, .int vBi, .int vPh, .ref aPr, .ref aHo, .ref aHe, .ref aSt, .ref aPb, .ref aPs])), (aHo, .inl (cI, 16, .inl (upd fHo x1.toNatClampNeg x2))), (aHe, .inl (cI, 16, .inl fHe))] := hD
    refine lv_aload_n hx hb dX4_give_44 rfl (lv_at hl 0 rfl) ?_
    refine va_get (D := D) (ci := 4) (v := .ref aHe) (C := RX4) (T := TX4) (N := 10) hx hb hts i4 hown hK hP 0 rfl rfl 6 (by decide) (hts (.fieldLink RX4 18 RX4 "held" "[I") (List.mem_of_getElem? (i := 2) rfl)) (fun _ h9 => h9) rfl dX4_give_45 ?_
    refine lv_iload_n hx hb dX4_give_48 rfl (lv_at hl 2 rfl) ?_
    refine lv_iload_n hx hb dX4_give_49 rfl (lv_at hl 1 rfl) ?_
    obtain ⟨g2, h⟩ := no_some h
    refine va_iast hx hb hK hP hD hS 2 0 rfl rfl g2 dX4_give_50 (fun H locs hP hD hS => ?_)
    have hP : va_P D vwCl [(aS, .inr (4, [.int vVa, .int vCo, .int vBi, .int vPh, .ref aPr, .ref aHo, .ref aHe, .ref aSt, .ref aPb, .ref aPs])), (aHo, .inl (cI, 16, .inl (upd fHo x1.toNatClampNeg x2))), (aHe, .inl (cI, 16, .inl (upd fHe x2.toNatClampNeg x1)))] H := hP
    have hD : va_D A [(aS, .inr (4, [.int vVa, .int vCo, .int vBi, .int vPh, .ref aPr, .ref aHo, .ref aHe, .ref aSt, .ref aPb, .ref aPs])), (aHo, .inl (cI, 16, .inl (upd fHo x1.toNatClampNeg x2))), (aHe, .inl (cI, 16, .inl (upd fHe x2.toNatClampNeg x1)))] := hD
    exact hret (upd fHo x1.toNatClampNeg x2) (upd fHe x2.toNatClampNeg x1) 51 ls H locs dX4_give_51 hP hD hS h
  unfold fX4_give at h
  obtain ⟨H, hH⟩ : ∃ H, H = s.heap := ⟨_, rfl⟩
  have hP : va_P D vwCl [(aS, .inr (4, [.int vVa, .int vCo, .int vBi, .int vPh, .ref aPr, .ref aHo, .ref aHe, .ref aSt, .ref aPb, .ref aPs])), (aHo, .inl (cI, 16, .inl fHo)), (aHe, .inl (cI, 16, .inl fHe))] H := by rw [hH]; exact hP
  obtain ⟨locs, hlocs⟩ : ∃ x : List Loc, x = [] := ⟨_, rfl⟩
  have hS : va_S A s.heap H locs := by rw [hH, hlocs]; exact hS
  suffices hgo : W p l e rX4_give s m args below meth c H locs 0 0 Q (F0 m 0 ls []) by rw [hH, hlocs] at hgo; exact hgo
  refine lv_iload_n hx hb dX4_give_0 rfl (lv_at hl 1 rfl) ?_
  obtain ⟨r_1, q_1, h⟩ := bd1_some h
  refine fr_ro_i (S := Unit) (wc := []) (fr_S (As := [.int x1]) (rest := []) ⟨hx, hb, hml, hown, hts⟩ (tX4_isInRow x1 r_1 q_1) gX4_give_X4_isInRow rfl (fr_pre (As := [.int x1]) (wc := []) hK hN hP hD [] (by decide) rfl) (n := 1) (by decide +kernel) ⟨Nat.le_of_ble_eq_true rfl, Nat.le_of_ble_eq_true rfl⟩ rfl hl.1 rfl (Nat.le_of_ble_eq_true rfl) dX4_give_1 ⟨Nat.zero_le _, Nat.zero_le _⟩) hP hD hS hA [] rfl (c2 := 0) (s2 := 0) rfl rfl (fun H locs hP hS => ?_)
  refine lv_if_eq (tgt := 14) hx hb dX4_give_4 (by decide) (fun c3 => ?_) (fun c3 => ?_)
  · have h := (if_pos c3).symm.trans h
    exact hret fHo fHe 14 ls H locs dX4_give_14 hP hD hS h
  · have h := (if_neg c3).symm.trans h
    refine lv_iload_n hx hb dX4_give_7 rfl (lv_at hl 2 rfl) ?_
    obtain ⟨r_8, q_8, h⟩ := bd1_some h
    refine fr_ro_i (S := Unit) (wc := []) (fr_S (As := [.int x2]) (rest := []) ⟨hx, hb, hml, hown, hts⟩ (tX4_isInRow x2 r_8 q_8) gX4_give_X4_isInRow rfl (fr_pre (As := [.int x2]) (wc := []) hK hN hP hD [] (by decide) rfl) (n := 1) (by decide +kernel) ⟨Nat.le_of_ble_eq_true rfl, Nat.le_of_ble_eq_true rfl⟩ rfl hl.1 rfl (Nat.le_of_ble_eq_true rfl) dX4_give_8 ⟨Nat.zero_le _, Nat.zero_le _⟩) hP hD hS hA [] rfl (c2 := 0) (s2 := 0) rfl rfl (fun H locs hP hS => ?_)
    refine lv_if_ne (tgt := 15) hx hb dX4_give_11 (by decide) (fun c4 => ?_) (fun c4 => ?_)
    · have h := (if_neg c4).symm.trans h
      refine lv_aload_n hx hb dX4_give_15 rfl (lv_at hl 0 rfl) ?_
      refine va_get (D := D) (ci := 4) (v := .ref aHo) (C := RX4) (T := TX4) (N := 10) hx hb hts i4 hown hK hP 0 rfl rfl 5 (by decide) (hts (.fieldLink RX4 15 RX4 "holders" "[I") (List.mem_of_getElem? (i := 1) rfl)) (fun _ h9 => h9) rfl dX4_give_16 ?_
      refine lv_iload_n hx hb dX4_give_19 rfl (lv_at hl 1 rfl) ?_
      obtain ⟨g5, h⟩ := no_some h
      refine va_iald hx hb hK hP 1 0 rfl rfl g5 dX4_give_20 ?_
      refine lv_topi (fun x3_21 ex3_21 => ?_)
      have h := bdv_some ex3_21 h
      refine lv_istore_n (lv' := [(3, .int x3_21), (0, .ref aS), (1, .int x1), (2, .int x2)]) hx hb dX4_give_21 rfl hl (by decide) rfl (fun ls hl => ?_)
      refine lv_iload_n hx hb dX4_give_22 rfl (lv_at hl 0 rfl) ?_
      obtain ⟨r_23, q_23, h⟩ := bd1_some h
      refine fr_ro_i (S := Unit) (wc := []) (fr_S (As := [.int x3_21]) (rest := []) ⟨hx, hb, hml, hown, hts⟩ (tX4_isInRow x3_21 r_23 q_23) gX4_give_X4_isInRow rfl (fr_pre (As := [.int x3_21]) (wc := []) hK hN hP hD [] (by decide) rfl) (n := 1) (by decide +kernel) ⟨Nat.le_of_ble_eq_true rfl, Nat.le_of_ble_eq_true rfl⟩ rfl hl.1 rfl (Nat.le_of_ble_eq_true rfl) dX4_give_23 ⟨Nat.zero_le _, Nat.zero_le _⟩) hP hD hS hA [] rfl (c2 := 0) (s2 := 0) rfl rfl (fun H locs hP hS => ?_)
      refine lv_if_eq (tgt := 37) hx hb dX4_give_26 (by decide) (fun c6 => ?_) (fun c6 => ?_)
      · have h := (if_pos c6).symm.trans h
        exact hb37 x1 x2 fHo fHe H locs ls hP hD hS (lv_sub hl [1, 2, 3] rfl) h
      · have h := (if_neg c6).symm.trans h
        refine lv_aload_n hx hb dX4_give_29 rfl (lv_at hl 1 rfl) ?_
        refine va_get (D := D) (ci := 4) (v := .ref aHe) (C := RX4) (T := TX4) (N := 10) hx hb hts i4 hown hK hP 0 rfl rfl 6 (by decide) (hts (.fieldLink RX4 18 RX4 "held" "[I") (List.mem_of_getElem? (i := 2) rfl)) (fun _ h9 => h9) rfl dX4_give_30 ?_
        refine lv_iload_n hx hb dX4_give_33 rfl (lv_at hl 0 rfl) ?_
        refine lv_bipush (v := (-6 : Int32)) hx hb dX4_give_34 (by decide) ?_
        obtain ⟨g7, h⟩ := no_some h
        refine va_iast hx hb hK hP hD hS 2 0 rfl rfl g7 dX4_give_36 (fun H locs hP hD hS => ?_)
        have hP : va_P D vwCl [(aS, .inr (4, [.int vVa, .int vCo, .int vBi, .int vPh, .ref aPr, .ref aHo, .ref aHe, .ref aSt, .ref aPb, .ref aPs])), (aHo, .inl (cI, 16, .inl fHo)), (aHe, .inl (cI, 16, .inl (upd fHe x3_21.toNatClampNeg (-6 : Int32))))] H := hP
        have hD : va_D A [(aS, .inr (4, [.int vVa, .int vCo, .int vBi, .int vPh, .ref aPr, .ref aHo, .ref aHe, .ref aSt, .ref aPb, .ref aPs])), (aHo, .inl (cI, 16, .inl fHo)), (aHe, .inl (cI, 16, .inl (upd fHe x3_21.toNatClampNeg (-6 : Int32))))] := hD
        exact hb37 x1 x2 fHo (upd fHe x3_21.toNatClampNeg (-6 : Int32)) H locs ls hP hD hS (lv_sub hl [1, 2, 3] rfl) h
    · have h := (if_pos c4).symm.trans h
      exact hret fHo fHe 14 ls H locs dX4_give_14 hP hD hS h
def fX4_slotOf (fHe : Nat → Int32) (x1 : Int32) : Option (Int32) :=
  bd1 (fX4_isInRow x1) fun r_1 =>
  if r_1 = 0 then
    some (-6 : Int32)
  else
    if x1 < 0 ∨ 16 ≤ x1.toNatClampNeg then none else
    some (fHe x1.toNatClampNeg)
abbrev rX4_slotOf : Room := { frames := 1, cells := 0, slots := 0, locals := 20 }
set_option maxHeartbeats 4000000 in
set_option maxRecDepth 100000 in
theorem tX4_slotOf {l : Launch} {D : va_G} {cI cZ cP : ClassId} (aS aHe aPr aHo aSt aPb aPs : Nat) (vVa : Int32) (vCo : Int32) (vBi : Int32) (vPh : Int32) (fHe : Nat → Int32) (x1 : Int32) (r : Int32) (h : fX4_slotOf fHe x1 = some r) : CtI l D cI cZ cP yX4_slotOf wsX4_slotOf rX4_slotOf [.ref aS, .int x1] [(aS, .inr (4, [.int vVa, .int vCo, .int vBi, .int vPh, .ref aPr, .ref aHo, .ref aHe, .ref aSt, .ref aPb, .ref aPs])), (aHe, .inl (cI, 16, .inl fHe))] (fun _ : Unit => [(aS, .inr (4, [.int vVa, .int vCo, .int vBi, .int vPh, .ref aPr, .ref aHo, .ref aHe, .ref aSt, .ref aPb, .ref aPs])), (aHe, .inl (cI, 16, .inl fHe))]) r := by
  refine CtI.ofW (cc := cX4_slotOf) (maxL := 2) (by decide) rfl (Nat.le_of_ble_eq_true rfl) (lv := [(0, .ref aS), (1, .int x1)]) rfl ?_
  intro p e s m args below meth c A Q ls hx hb hml hown hts hK hN hP hD hS hA hl hret0
  have hown : s.vm.findClass RX4 = some m.cls := hown
  have i4 : ∀ w ∈ wsX40, w ∈ wsX4_slotOf := mem_ps [6, 7, 8, 9, 10, 11, 12, 13, 14, 15] rfl
  have hret : ∀ (v : Int32) (pc : Nat) (ls : Array Slot) (H : Heap) (locs : List Loc), narrow .int (.int v) = .int v → decode cX4_slotOf pc = .ok (.ireturn, 1) → va_P D vwCl [(aS, .inr (4, [.int vVa, .int vCo, .int vBi, .int vPh, .ref aPr, .ref aHo, .ref aHe, .ref aSt, .ref aPb, .ref aPs])), (aHe, .inl (cI, 16, .inl fHe))] H → va_D A [(aS, .inr (4, [.int vVa, .int vCo, .int vBi, .int vPh, .ref aPr, .ref aHo, .ref aHe, .ref aSt, .ref aPb, .ref aPs])), (aHe, .inl (cI, 16, .inl fHe))] → va_S A s.heap H locs → some v = some r → W p l e rX4_slotOf s m args below meth c H locs 0 0 Q (F0 m pc ls [.int v]) := by
    intro v pc ls H locs hn hd hP hD hS h
    cases h
    exact hret0 pc ls H locs () hn hd hP hD hS
  clear hret0
  unfold fX4_slotOf at h
  obtain ⟨H, hH⟩ : ∃ H, H = s.heap := ⟨_, rfl⟩
  have hP : va_P D vwCl [(aS, .inr (4, [.int vVa, .int vCo, .int vBi, .int vPh, .ref aPr, .ref aHo, .ref aHe, .ref aSt, .ref aPb, .ref aPs])), (aHe, .inl (cI, 16, .inl fHe))] H := by rw [hH]; exact hP
  obtain ⟨locs, hlocs⟩ : ∃ x : List Loc, x = [] := ⟨_, rfl⟩
  have hS : va_S A s.heap H locs := by rw [hH, hlocs]; exact hS
  suffices hgo : W p l e rX4_slotOf s m args below meth c H locs 0 0 Q (F0 m 0 ls []) by rw [hH, hlocs] at hgo; exact hgo
  refine lv_iload_n hx hb dX4_slotOf_0 rfl (lv_at hl 1 rfl) ?_
  obtain ⟨r_1, q_1, h⟩ := bd1_some h
  refine fr_ro_i (S := Unit) (wc := []) (fr_S (As := [.int x1]) (rest := []) ⟨hx, hb, hml, hown, hts⟩ (tX4_isInRow x1 r_1 q_1) gX4_slotOf_X4_isInRow rfl (fr_pre (As := [.int x1]) (wc := []) hK hN hP hD [] (by decide) rfl) (n := 1) (by decide +kernel) ⟨Nat.le_of_ble_eq_true rfl, Nat.le_of_ble_eq_true rfl⟩ rfl hl.1 rfl (Nat.le_of_ble_eq_true rfl) dX4_slotOf_1 ⟨Nat.zero_le _, Nat.zero_le _⟩) hP hD hS hA [] rfl (c2 := 0) (s2 := 0) rfl rfl (fun H locs hP hS => ?_)
  refine lv_if_eq (tgt := 16) hx hb dX4_slotOf_4 (by decide) (fun c1 => ?_) (fun c1 => ?_)
  · have h := (if_pos c1).symm.trans h
    refine lv_bipush (v := (-6 : Int32)) hx hb dX4_slotOf_16 (by decide) ?_
    exact hret (-6 : Int32) 18 ls H locs rfl dX4_slotOf_18 hP hD hS h
  · have h := (if_neg c1).symm.trans h
    refine lv_aload_n hx hb dX4_slotOf_7 rfl (lv_at hl 0 rfl) ?_
    refine va_get (D := D) (ci := 4) (v := .ref aHe) (C := RX4) (T := TX4) (N := 10) hx hb hts i4 hown hK hP 0 rfl rfl 6 (by decide) (hts (.fieldLink RX4 18 RX4 "held" "[I") (List.mem_of_getElem? (i := 1) rfl)) (fun _ h9 => h9) rfl dX4_slotOf_8 ?_
    refine lv_iload_n hx hb dX4_slotOf_11 rfl (lv_at hl 1 rfl) ?_
    obtain ⟨g2, h⟩ := no_some h
    refine va_iald hx hb hK hP 1 0 rfl rfl g2 dX4_slotOf_12 ?_
    refine lv_goto (tgt := 18) hx hb dX4_slotOf_13 (by decide) ?_
    exact hret (fHe x1.toNatClampNeg) 18 ls H locs rfl dX4_slotOf_18 hP hD hS h
def fX4_notePhase (vPh : Int32) (fSt : Nat → Int32) (fPb : Nat → Int32) (fPs : Nat → Int32) (x1 : Int32) (x2 : Int32) (x3 : Int32) : Option (Int32 × (Nat → Int32) × (Nat → Int32) × (Nat → Int32)) :=
  if vPh < 0 then
    some (vPh, fSt, fPb, fPs)
  else
    if vPh < (16 : Int32) then
      if vPh < 0 ∨ 16 ≤ vPh.toNatClampNeg then none else
      if vPh < 0 ∨ 16 ≤ vPh.toNatClampNeg then none else
      if vPh < 0 ∨ 16 ≤ vPh.toNatClampNeg then none else
      some (vPh + (1 : Int32), upd fSt vPh.toNatClampNeg x1, upd fPb vPh.toNatClampNeg x2, upd fPs vPh.toNatClampNeg x3)
    else
      some (vPh, fSt, fPb, fPs)
abbrev rX4_notePhase : Room := { frames := 0, cells := 0, slots := 0, locals := 0 }
set_option maxHeartbeats 4000000 in
set_option maxRecDepth 100000 in
theorem tX4_notePhase {l : Launch} {D : va_G} {cI cZ cP : ClassId} (aS aSt aPb aPs aPr aHo aHe : Nat) (vVa : Int32) (vCo : Int32) (vBi : Int32) (vPh : Int32) (fSt : Nat → Int32) (fPb : Nat → Int32) (fPs : Nat → Int32) (x1 : Int32) (x2 : Int32) (x3 : Int32) (oPh : Int32) (oSt : Nat → Int32) (oPb : Nat → Int32) (oPs : Nat → Int32) (h : fX4_notePhase vPh fSt fPb fPs x1 x2 x3 = some (oPh, oSt, oPb, oPs)) : CtV l D cI cZ cP yX4_notePhase wsX4_notePhase rX4_notePhase [.ref aS, .int x1, .int x2, .int x3] [(aS, .inr (4, [.int vVa, .int vCo, .int vBi, .int vPh, .ref aPr, .ref aHo, .ref aHe, .ref aSt, .ref aPb, .ref aPs])), (aSt, .inl (cI, 16, .inl fSt)), (aPb, .inl (cI, 16, .inl fPb)), (aPs, .inl (cI, 16, .inl fPs))] (fun _ : Unit => [(aS, .inr (4, [.int vVa, .int vCo, .int vBi, .int oPh, .ref aPr, .ref aHo, .ref aHe, .ref aSt, .ref aPb, .ref aPs])), (aSt, .inl (cI, 16, .inl oSt)), (aPb, .inl (cI, 16, .inl oPb)), (aPs, .inl (cI, 16, .inl oPs))]) := by
  refine CtV.ofW (cc := cX4_notePhase) (maxL := 4) (by decide) rfl (Nat.le_of_ble_eq_true rfl) (lv := [(0, .ref aS), (1, .int x1), (2, .int x2), (3, .int x3)]) rfl ?_
  intro p e s m args below meth c A Q ls hx hb hml hown hts hK hN hP hD hS hA hl hin hret0
  have hown : s.vm.findClass RX4 = some m.cls := hown
  have i4 : ∀ w ∈ wsX40, w ∈ wsX4_notePhase := mem_ps [5, 6, 7, 8, 9, 10, 11, 12, 13, 14] rfl
  have hret : ∀ (zPh : Int32) (zSt : Nat → Int32) (zPb : Nat → Int32) (zPs : Nat → Int32) (pc : Nat) (ls : Array Slot) (H : Heap) (locs : List Loc), decode cX4_notePhase pc = .ok (.return_, 1) → va_P D vwCl [(aS, .inr (4, [.int vVa, .int vCo, .int vBi, .int zPh, .ref aPr, .ref aHo, .ref aHe, .ref aSt, .ref aPb, .ref aPs])), (aSt, .inl (cI, 16, .inl zSt)), (aPb, .inl (cI, 16, .inl zPb)), (aPs, .inl (cI, 16, .inl zPs))] H → va_D A [(aS, .inr (4, [.int vVa, .int vCo, .int vBi, .int zPh, .ref aPr, .ref aHo, .ref aHe, .ref aSt, .ref aPb, .ref aPs])), (aSt, .inl (cI, 16, .inl zSt)), (aPb, .inl (cI, 16, .inl zPb)), (aPs, .inl (cI, 16, .inl zPs))] → va_S A s.heap H locs → some (zPh, zSt, zPb, zPs) = some (oPh, oSt, oPb, oPs) → W p l e rX4_notePhase s m args below meth c H locs 0 0 Q (F0 m pc ls []) := by
    intro zPh zSt zPb zPs pc ls H locs hd hP hD hS h
    cases h
    exact hret0 pc ls H locs () hd hP hD hS
  clear hret0
  unfold fX4_notePhase at h
  obtain ⟨H, hH⟩ : ∃ H, H = s.heap := ⟨_, rfl⟩
  have hP : va_P D vwCl [(aS, .inr (4, [.int vVa, .int vCo, .int vBi, .int vPh, .ref aPr, .ref aHo, .ref aHe, .ref aSt, .ref aPb, .ref aPs])), (aSt, .inl (cI, 16, .inl fSt)), (aPb, .inl (cI, 16, .inl fPb)), (aPs, .inl (cI, 16, .inl fPs))] H := by rw [hH]; exact hP
  obtain ⟨locs, hlocs⟩ : ∃ x : List Loc, x = [] := ⟨_, rfl⟩
  have hS : va_S A s.heap H locs := by rw [hH, hlocs]; exact hS
  suffices hgo : W p l e rX4_notePhase s m args below meth c H locs 0 0 Q (F0 m 0 ls []) by rw [hH, hlocs] at hgo; exact hgo
  refine lv_aload_n hx hb dX4_notePhase_0 rfl (lv_at hl 0 rfl) ?_
  refine va_get (D := D) (ci := 4) (v := .int vPh) (C := RX4) (T := TX4) (N := 10) hx hb hts i4 hown hK hP 0 rfl rfl 3 (by decide) (hts (.fieldLink RX4 37 RX4 "phases" "I") (List.mem_of_getElem? (i := 1) rfl)) (fun _ h9 => h9) rfl dX4_notePhase_1 ?_
  refine lv_if_lt (tgt := 16) hx hb dX4_notePhase_4 (by decide) (fun c1 => ?_) (fun c1 => ?_)
  · have h := (if_pos c1).symm.trans h
    exact hret vPh fSt fPb fPs 16 ls H locs dX4_notePhase_16 hP hD hS h
  · have h := (if_neg c1).symm.trans h
    refine lv_aload_n hx hb dX4_notePhase_7 rfl (lv_at hl 0 rfl) ?_
    refine va_get (D := D) (ci := 4) (v := .int vPh) (C := RX4) (T := TX4) (N := 10) hx hb hts i4 hown hK hP 0 rfl rfl 3 (by decide) (hts (.fieldLink RX4 37 RX4 "phases" "I") (List.mem_of_getElem? (i := 1) rfl)) (fun _ h9 => h9) rfl dX4_notePhase_8 ?_
    refine lv_bipush (v := (16 : Int32)) hx hb dX4_notePhase_11 (by decide) ?_
    refine lv_icmp_lt (tgt := 17) hx hb dX4_notePhase_13 (by decide) (fun c2 => ?_) (fun c2 => ?_)
    · have h := (if_pos c2).symm.trans h
      refine lv_aload_n hx hb dX4_notePhase_17 rfl (lv_at hl 0 rfl) ?_
      refine va_get (D := D) (ci := 4) (v := .ref aSt) (C := RX4) (T := TX4) (N := 10) hx hb hts i4 hown hK hP 0 rfl rfl 7 (by decide) (hts (.fieldLink RX4 21 RX4 "steps" "[I") (List.mem_of_getElem? (i := 2) rfl)) (fun _ h9 => h9) rfl dX4_notePhase_18 ?_
      refine lv_aload_n hx hb dX4_notePhase_21 rfl (lv_at hl 0 rfl) ?_
      refine va_get (D := D) (ci := 4) (v := .int vPh) (C := RX4) (T := TX4) (N := 10) hx hb hts i4 hown hK hP 0 rfl rfl 3 (by decide) (hts (.fieldLink RX4 37 RX4 "phases" "I") (List.mem_of_getElem? (i := 1) rfl)) (fun _ h9 => h9) rfl dX4_notePhase_22 ?_
      refine lv_iload_n hx hb dX4_notePhase_25 rfl (lv_at hl 1 rfl) ?_
      obtain ⟨g3, h⟩ := no_some h
      refine va_iast hx hb hK hP hD hS 1 0 rfl rfl g3 dX4_notePhase_26 (fun H locs hP hD hS => ?_)
      have hP : va_P D vwCl [(aS, .inr (4, [.int vVa, .int vCo, .int vBi, .int vPh, .ref aPr, .ref aHo, .ref aHe, .ref aSt, .ref aPb, .ref aPs])), (aSt, .inl (cI, 16, .inl (upd fSt vPh.toNatClampNeg x1))), (aPb, .inl (cI, 16, .inl fPb)), (aPs, .inl (cI, 16, .inl fPs))] H := hP
      have hD : va_D A [(aS, .inr (4, [.int vVa, .int vCo, .int vBi, .int vPh, .ref aPr, .ref aHo, .ref aHe, .ref aSt, .ref aPb, .ref aPs])), (aSt, .inl (cI, 16, .inl (upd fSt vPh.toNatClampNeg x1))), (aPb, .inl (cI, 16, .inl fPb)), (aPs, .inl (cI, 16, .inl fPs))] := hD
      refine lv_aload_n hx hb dX4_notePhase_27 rfl (lv_at hl 0 rfl) ?_
      refine va_get (D := D) (ci := 4) (v := .ref aPb) (C := RX4) (T := TX4) (N := 10) hx hb hts i4 hown hK hP 0 rfl rfl 8 (by decide) (hts (.fieldLink RX4 24 RX4 "phaseBids" "[I") (List.mem_of_getElem? (i := 3) rfl)) (fun _ h9 => h9) rfl dX4_notePhase_28 ?_
      refine lv_aload_n hx hb dX4_notePhase_31 rfl (lv_at hl 0 rfl) ?_
      refine va_get (D := D) (ci := 4) (v := .int vPh) (C := RX4) (T := TX4) (N := 10) hx hb hts i4 hown hK hP 0 rfl rfl 3 (by decide) (hts (.fieldLink RX4 37 RX4 "phases" "I") (List.mem_of_getElem? (i := 1) rfl)) (fun _ h9 => h9) rfl dX4_notePhase_32 ?_
      refine lv_iload_n hx hb dX4_notePhase_35 rfl (lv_at hl 2 rfl) ?_
      obtain ⟨g4, h⟩ := no_some h
      refine va_iast hx hb hK hP hD hS 2 0 rfl rfl g4 dX4_notePhase_36 (fun H locs hP hD hS => ?_)
      have hP : va_P D vwCl [(aS, .inr (4, [.int vVa, .int vCo, .int vBi, .int vPh, .ref aPr, .ref aHo, .ref aHe, .ref aSt, .ref aPb, .ref aPs])), (aSt, .inl (cI, 16, .inl (upd fSt vPh.toNatClampNeg x1))), (aPb, .inl (cI, 16, .inl (upd fPb vPh.toNatClampNeg x2))), (aPs, .inl (cI, 16, .inl fPs))] H := hP
      have hD : va_D A [(aS, .inr (4, [.int vVa, .int vCo, .int vBi, .int vPh, .ref aPr, .ref aHo, .ref aHe, .ref aSt, .ref aPb, .ref aPs])), (aSt, .inl (cI, 16, .inl (upd fSt vPh.toNatClampNeg x1))), (aPb, .inl (cI, 16, .inl (upd fPb vPh.toNatClampNeg x2))), (aPs, .inl (cI, 16, .inl fPs))] := hD
      refine lv_aload_n hx hb dX4_notePhase_37 rfl (lv_at hl 0 rfl) ?_
      refine va_get (D := D) (ci := 4) (v := .ref aPs) (C := RX4) (T := TX4) (N := 10) hx hb hts i4 hown hK hP 0 rfl rfl 9 (by decide) (hts (.fieldLink RX4 27 RX4 "phaseSums" "[I") (List.mem_of_getElem? (i := 4) rfl)) (fun _ h9 => h9) rfl dX4_notePhase_38 ?_
      refine lv_aload_n hx hb dX4_notePhase_41 rfl (lv_at hl 0 rfl) ?_
      refine va_get (D := D) (ci := 4) (v := .int vPh) (C := RX4) (T := TX4) (N := 10) hx hb hts i4 hown hK hP 0 rfl rfl 3 (by decide) (hts (.fieldLink RX4 37 RX4 "phases" "I") (List.mem_of_getElem? (i := 1) rfl)) (fun _ h9 => h9) rfl dX4_notePhase_42 ?_
      refine lv_iload_n hx hb dX4_notePhase_45 rfl (lv_at hl 3 rfl) ?_
      obtain ⟨g5, h⟩ := no_some h
      refine va_iast hx hb hK hP hD hS 3 0 rfl rfl g5 dX4_notePhase_46 (fun H locs hP hD hS => ?_)
      have hP : va_P D vwCl [(aS, .inr (4, [.int vVa, .int vCo, .int vBi, .int vPh, .ref aPr, .ref aHo, .ref aHe, .ref aSt, .ref aPb, .ref aPs])), (aSt, .inl (cI, 16, .inl (upd fSt vPh.toNatClampNeg x1))), (aPb, .inl (cI, 16, .inl (upd fPb vPh.toNatClampNeg x2))), (aPs, .inl (cI, 16, .inl (upd fPs vPh.toNatClampNeg x3)))] H := hP
      have hD : va_D A [(aS, .inr (4, [.int vVa, .int vCo, .int vBi, .int vPh, .ref aPr, .ref aHo, .ref aHe, .ref aSt, .ref aPb, .ref aPs])), (aSt, .inl (cI, 16, .inl (upd fSt vPh.toNatClampNeg x1))), (aPb, .inl (cI, 16, .inl (upd fPb vPh.toNatClampNeg x2))), (aPs, .inl (cI, 16, .inl (upd fPs vPh.toNatClampNeg x3)))] := hD
      refine lv_aload_n hx hb dX4_notePhase_47 rfl (lv_at hl 0 rfl) ?_
      refine lv_dup hx hb dX4_notePhase_48 rfl ?_
      refine va_get (D := D) (ci := 4) (v := .int vPh) (C := RX4) (T := TX4) (N := 10) hx hb hts i4 hown hK hP 0 rfl rfl 3 (by decide) (hts (.fieldLink RX4 37 RX4 "phases" "I") (List.mem_of_getElem? (i := 1) rfl)) (fun _ h9 => h9) rfl dX4_notePhase_49 ?_
      refine lv_iconst (v := (1 : Int32)) hx hb dX4_notePhase_52 (by decide) ?_
      refine lv_iadd hx hb dX4_notePhase_53 ?_
      refine va_put (D := D) (ci := 4) (v := .int (vPh + (1 : Int32))) (ty := .int) (C := RX4) (T := TX4) (N := 10) hx hb hts i4 tyX4 tyX4_ok nmX4 hown hK hP hD hS 0 rfl rfl 3 (by decide) (hts (.fieldLink RX4 37 RX4 "phases" "I") (List.mem_of_getElem? (i := 1) rfl)) (fun _ h9 => h9) rfl (by decide +kernel) rfl rfl (Nat.le_of_ble_eq_true rfl) dX4_notePhase_54 (fun H locs hP hD hS => ?_)
      have hP : va_P D vwCl [(aS, .inr (4, [.int vVa, .int vCo, .int vBi, .int (vPh + (1 : Int32)), .ref aPr, .ref aHo, .ref aHe, .ref aSt, .ref aPb, .ref aPs])), (aSt, .inl (cI, 16, .inl (upd fSt vPh.toNatClampNeg x1))), (aPb, .inl (cI, 16, .inl (upd fPb vPh.toNatClampNeg x2))), (aPs, .inl (cI, 16, .inl (upd fPs vPh.toNatClampNeg x3)))] H := hP
      have hD : va_D A [(aS, .inr (4, [.int vVa, .int vCo, .int vBi, .int (vPh + (1 : Int32)), .ref aPr, .ref aHo, .ref aHe, .ref aSt, .ref aPb, .ref aPs])), (aSt, .inl (cI, 16, .inl (upd fSt vPh.toNatClampNeg x1))), (aPb, .inl (cI, 16, .inl (upd fPb vPh.toNatClampNeg x2))), (aPs, .inl (cI, 16, .inl (upd fPs vPh.toNatClampNeg x3)))] := hD
      exact hret (vPh + (1 : Int32)) (upd fSt vPh.toNatClampNeg x1) (upd fPb vPh.toNatClampNeg x2) (upd fPs vPh.toNatClampNeg x3) 57 ls H locs dX4_notePhase_57 hP hD hS h
    · have h := (if_neg c2).symm.trans h
      exact hret vPh fSt fPb fPs 16 ls H locs dX4_notePhase_16 hP hD hS h
def fX4_finish (vVa : Int32) (vCo : Int32) (vBi : Int32) (x1 : Int32) : Option (Int32 × Int32 × Int32) :=
  some ((1 : Int32), (1 : Int32), x1)
abbrev rX4_finish : Room := { frames := 0, cells := 0, slots := 0, locals := 0 }
set_option maxHeartbeats 4000000 in
set_option maxRecDepth 100000 in
theorem tX4_finish {l : Launch} {D : va_G} {cI cZ cP : ClassId} (aS aPr aHo aHe aSt aPb aPs : Nat) (vVa : Int32) (vCo : Int32) (vBi : Int32) (vPh : Int32) (x1 : Int32) (oVa : Int32) (oCo : Int32) (oBi : Int32) (h : fX4_finish vVa vCo vBi x1 = some (oVa, oCo, oBi)) : CtV l D cI cZ cP yX4_finish wsX4_finish rX4_finish [.ref aS, .int x1] [(aS, .inr (4, [.int vVa, .int vCo, .int vBi, .int vPh, .ref aPr, .ref aHo, .ref aHe, .ref aSt, .ref aPb, .ref aPs]))] (fun _ : Unit => [(aS, .inr (4, [.int oVa, .int oCo, .int oBi, .int vPh, .ref aPr, .ref aHo, .ref aHe, .ref aSt, .ref aPb, .ref aPs]))]) := by
  refine CtV.ofW (cc := cX4_finish) (maxL := 2) (by decide) rfl (Nat.le_of_ble_eq_true rfl) (lv := [(0, .ref aS), (1, .int x1)]) rfl ?_
  intro p e s m args below meth c A Q ls hx hb hml hown hts hK hN hP hD hS hA hl hin hret0
  have hown : s.vm.findClass RX4 = some m.cls := hown
  have i4 : ∀ w ∈ wsX40, w ∈ wsX4_finish := mem_ps [4, 5, 6, 7, 8, 9, 10, 11, 12, 13] rfl
  have hret : ∀ (zVa : Int32) (zCo : Int32) (zBi : Int32) (pc : Nat) (ls : Array Slot) (H : Heap) (locs : List Loc), decode cX4_finish pc = .ok (.return_, 1) → va_P D vwCl [(aS, .inr (4, [.int zVa, .int zCo, .int zBi, .int vPh, .ref aPr, .ref aHo, .ref aHe, .ref aSt, .ref aPb, .ref aPs]))] H → va_D A [(aS, .inr (4, [.int zVa, .int zCo, .int zBi, .int vPh, .ref aPr, .ref aHo, .ref aHe, .ref aSt, .ref aPb, .ref aPs]))] → va_S A s.heap H locs → some (zVa, zCo, zBi) = some (oVa, oCo, oBi) → W p l e rX4_finish s m args below meth c H locs 0 0 Q (F0 m pc ls []) := by
    intro zVa zCo zBi pc ls H locs hd hP hD hS h
    cases h
    exact hret0 pc ls H locs () hd hP hD hS
  clear hret0
  unfold fX4_finish at h
  obtain ⟨H, hH⟩ : ∃ H, H = s.heap := ⟨_, rfl⟩
  have hP : va_P D vwCl [(aS, .inr (4, [.int vVa, .int vCo, .int vBi, .int vPh, .ref aPr, .ref aHo, .ref aHe, .ref aSt, .ref aPb, .ref aPs]))] H := by rw [hH]; exact hP
  obtain ⟨locs, hlocs⟩ : ∃ x : List Loc, x = [] := ⟨_, rfl⟩
  have hS : va_S A s.heap H locs := by rw [hH, hlocs]; exact hS
  suffices hgo : W p l e rX4_finish s m args below meth c H locs 0 0 Q (F0 m 0 ls []) by rw [hH, hlocs] at hgo; exact hgo
  refine lv_aload_n hx hb dX4_finish_0 rfl (lv_at hl 0 rfl) ?_
  refine lv_iload_n hx hb dX4_finish_1 rfl (lv_at hl 1 rfl) ?_
  refine va_put (D := D) (ci := 4) (v := .int x1) (ty := .int) (C := RX4) (T := TX4) (N := 10) hx hb hts i4 tyX4 tyX4_ok nmX4 hown hK hP hD hS 0 rfl rfl 2 (by decide) (hts (.fieldLink RX4 41 RX4 "bids" "I") (List.mem_of_getElem? (i := 1) rfl)) (fun _ h9 => h9) rfl (by decide +kernel) rfl rfl (Nat.le_of_ble_eq_true rfl) dX4_finish_2 (fun H locs hP hD hS => ?_)
  have hP : va_P D vwCl [(aS, .inr (4, [.int vVa, .int vCo, .int x1, .int vPh, .ref aPr, .ref aHo, .ref aHe, .ref aSt, .ref aPb, .ref aPs]))] H := hP
  have hD : va_D A [(aS, .inr (4, [.int vVa, .int vCo, .int x1, .int vPh, .ref aPr, .ref aHo, .ref aHe, .ref aSt, .ref aPb, .ref aPs]))] := hD
  refine lv_aload_n hx hb dX4_finish_5 rfl (lv_at hl 0 rfl) ?_
  refine lv_iconst (v := (1 : Int32)) hx hb dX4_finish_6 (by decide) ?_
  refine va_put (D := D) (ci := 4) (v := .int (1 : Int32)) (ty := .boolean) (C := RX4) (T := TX4) (N := 10) hx hb hts i4 tyX4 tyX4_ok nmX4 hown hK hP hD hS 0 rfl rfl 0 (by decide) (hts (.fieldLink RX4 30 RX4 "valid" "Z") (List.mem_of_getElem? (i := 2) rfl)) (fun _ h9 => h9) rfl (by decide +kernel) rfl rfl (Nat.le_of_ble_eq_true rfl) dX4_finish_7 (fun H locs hP hD hS => ?_)
  have hP : va_P D vwCl [(aS, .inr (4, [.int (1 : Int32), .int vCo, .int x1, .int vPh, .ref aPr, .ref aHo, .ref aHe, .ref aSt, .ref aPb, .ref aPs]))] H := hP
  have hD : va_D A [(aS, .inr (4, [.int (1 : Int32), .int vCo, .int x1, .int vPh, .ref aPr, .ref aHo, .ref aHe, .ref aSt, .ref aPb, .ref aPs]))] := hD
  refine lv_aload_n hx hb dX4_finish_10 rfl (lv_at hl 0 rfl) ?_
  refine lv_iconst (v := (1 : Int32)) hx hb dX4_finish_11 (by decide) ?_
  refine va_put (D := D) (ci := 4) (v := .int (1 : Int32)) (ty := .boolean) (C := RX4) (T := TX4) (N := 10) hx hb hts i4 tyX4 tyX4_ok nmX4 hown hK hP hD hS 0 rfl rfl 1 (by decide) (hts (.fieldLink RX4 34 RX4 "content" "Z") (List.mem_of_getElem? (i := 3) rfl)) (fun _ h9 => h9) rfl (by decide +kernel) rfl rfl (Nat.le_of_ble_eq_true rfl) dX4_finish_12 (fun H locs hP hD hS => ?_)
  have hP : va_P D vwCl [(aS, .inr (4, [.int (1 : Int32), .int (1 : Int32), .int x1, .int vPh, .ref aPr, .ref aHo, .ref aHe, .ref aSt, .ref aPb, .ref aPs]))] H := hP
  have hD : va_D A [(aS, .inr (4, [.int (1 : Int32), .int (1 : Int32), .int x1, .int vPh, .ref aPr, .ref aHo, .ref aHe, .ref aSt, .ref aPb, .ref aPs]))] := hD
  exact hret (1 : Int32) (1 : Int32) x1 15 ls H locs dX4_finish_15 hP hD hS h
def fX4_setFree (fHo : Nat → Int32) (fHe : Nat → Int32) (x1 : Int32) : Option ((Nat → Int32) × (Nat → Int32)) :=
  bd1 (fX4_isInRow x1) fun r_1 =>
  if r_1 = 0 then
    some (fHo, fHe)
  else
    if x1 < 0 ∨ 16 ≤ x1.toNatClampNeg then none else
    bdv (fHe x1.toNatClampNeg) fun x2_14 =>
    bd1 (fX4_isInRow x2_14) fun r_16 =>
    if r_16 = 0 then
      if x1 < 0 ∨ 16 ≤ x1.toNatClampNeg then none else
      some (fHo, upd fHe x1.toNatClampNeg (-6 : Int32))
    else
      if x2_14 < 0 ∨ 16 ≤ x2_14.toNatClampNeg then none else
      if x1 < 0 ∨ 16 ≤ x1.toNatClampNeg then none else
      some (upd fHo x2_14.toNatClampNeg (-6 : Int32), upd fHe x1.toNatClampNeg (-6 : Int32))
abbrev rX4_setFree : Room := { frames := 1, cells := 0, slots := 0, locals := 20 }
set_option maxHeartbeats 4000000 in
set_option maxRecDepth 100000 in
theorem tX4_setFree {l : Launch} {D : va_G} {cI cZ cP : ClassId} (aS aHo aHe aPr aSt aPb aPs : Nat) (vVa : Int32) (vCo : Int32) (vBi : Int32) (vPh : Int32) (fHo : Nat → Int32) (fHe : Nat → Int32) (x1 : Int32) (oHo : Nat → Int32) (oHe : Nat → Int32) (h : fX4_setFree fHo fHe x1 = some (oHo, oHe)) : CtV l D cI cZ cP yX4_setFree wsX4_setFree rX4_setFree [.ref aS, .int x1] [(aS, .inr (4, [.int vVa, .int vCo, .int vBi, .int vPh, .ref aPr, .ref aHo, .ref aHe, .ref aSt, .ref aPb, .ref aPs])), (aHo, .inl (cI, 16, .inl fHo)), (aHe, .inl (cI, 16, .inl fHe))] (fun _ : Unit => [(aS, .inr (4, [.int vVa, .int vCo, .int vBi, .int vPh, .ref aPr, .ref aHo, .ref aHe, .ref aSt, .ref aPb, .ref aPs])), (aHo, .inl (cI, 16, .inl oHo)), (aHe, .inl (cI, 16, .inl oHe))]) := by
  refine CtV.ofW (cc := cX4_setFree) (maxL := 3) (by decide) rfl (Nat.le_of_ble_eq_true rfl) (lv := [(0, .ref aS), (1, .int x1)]) rfl ?_
  intro p e s m args below meth c A Q ls hx hb hml hown hts hK hN hP hD hS hA hl hin hret0
  have hown : s.vm.findClass RX4 = some m.cls := hown
  have i4 : ∀ w ∈ wsX40, w ∈ wsX4_setFree := mem_ps [7, 8, 9, 10, 11, 12, 13, 14, 15, 16] rfl
  have hret : ∀ (zHo : Nat → Int32) (zHe : Nat → Int32) (pc : Nat) (ls : Array Slot) (H : Heap) (locs : List Loc), decode cX4_setFree pc = .ok (.return_, 1) → va_P D vwCl [(aS, .inr (4, [.int vVa, .int vCo, .int vBi, .int vPh, .ref aPr, .ref aHo, .ref aHe, .ref aSt, .ref aPb, .ref aPs])), (aHo, .inl (cI, 16, .inl zHo)), (aHe, .inl (cI, 16, .inl zHe))] H → va_D A [(aS, .inr (4, [.int vVa, .int vCo, .int vBi, .int vPh, .ref aPr, .ref aHo, .ref aHe, .ref aSt, .ref aPb, .ref aPs])), (aHo, .inl (cI, 16, .inl zHo)), (aHe, .inl (cI, 16, .inl zHe))] → va_S A s.heap H locs → some (zHo, zHe) = some (oHo, oHe) → W p l e rX4_setFree s m args below meth c H locs 0 0 Q (F0 m pc ls []) := by
    intro zHo zHe pc ls H locs hd hP hD hS h
    cases h
    exact hret0 pc ls H locs () hd hP hD hS
  clear hret0
  unfold fX4_setFree at h
  obtain ⟨H, hH⟩ : ∃ H, H = s.heap := ⟨_, rfl⟩
  have hP : va_P D vwCl [(aS, .inr (4, [.int vVa, .int vCo, .int vBi, .int vPh, .ref aPr, .ref aHo, .ref aHe, .ref aSt, .ref aPb, .ref aPs])), (aHo, .inl (cI, 16, .inl fHo)), (aHe, .inl (cI, 16, .inl fHe))] H := by rw [hH]; exact hP
  obtain ⟨locs, hlocs⟩ : ∃ x : List Loc, x = [] := ⟨_, rfl⟩
  have hS : va_S A s.heap H locs := by rw [hH, hlocs]; exact hS
  suffices hgo : W p l e rX4_setFree s m args below meth c H locs 0 0 Q (F0 m 0 ls []) by rw [hH, hlocs] at hgo; exact hgo
  refine lv_iload_n hx hb dX4_setFree_0 rfl (lv_at hl 1 rfl) ?_
  obtain ⟨r_1, q_1, h⟩ := bd1_some h
  refine fr_ro_i (S := Unit) (wc := []) (fr_S (As := [.int x1]) (rest := []) ⟨hx, hb, hml, hown, hts⟩ (tX4_isInRow x1 r_1 q_1) gX4_setFree_X4_isInRow rfl (fr_pre (As := [.int x1]) (wc := []) hK hN hP hD [] (by decide) rfl) (n := 1) (by decide +kernel) ⟨Nat.le_of_ble_eq_true rfl, Nat.le_of_ble_eq_true rfl⟩ rfl hl.1 rfl (Nat.le_of_ble_eq_true rfl) dX4_setFree_1 ⟨Nat.zero_le _, Nat.zero_le _⟩) hP hD hS hA [] rfl (c2 := 0) (s2 := 0) rfl rfl (fun H locs hP hS => ?_)
  refine lv_if_ne (tgt := 8) hx hb dX4_setFree_4 (by decide) (fun c1 => ?_) (fun c1 => ?_)
  · have h := (if_neg c1).symm.trans h
    refine lv_aload_n hx hb dX4_setFree_8 rfl (lv_at hl 0 rfl) ?_
    refine va_get (D := D) (ci := 4) (v := .ref aHe) (C := RX4) (T := TX4) (N := 10) hx hb hts i4 hown hK hP 0 rfl rfl 6 (by decide) (hts (.fieldLink RX4 18 RX4 "held" "[I") (List.mem_of_getElem? (i := 1) rfl)) (fun _ h9 => h9) rfl dX4_setFree_9 ?_
    refine lv_iload_n hx hb dX4_setFree_12 rfl (lv_at hl 1 rfl) ?_
    obtain ⟨g2, h⟩ := no_some h
    refine va_iald hx hb hK hP 2 0 rfl rfl g2 dX4_setFree_13 ?_
    refine lv_topi (fun x2_14 ex2_14 => ?_)
    have h := bdv_some ex2_14 h
    refine lv_istore_n (lv' := [(2, .int x2_14), (0, .ref aS), (1, .int x1)]) hx hb dX4_setFree_14 rfl hl (by decide) rfl (fun ls hl => ?_)
    refine lv_iload_n hx hb dX4_setFree_15 rfl (lv_at hl 0 rfl) ?_
    obtain ⟨r_16, q_16, h⟩ := bd1_some h
    refine fr_ro_i (S := Unit) (wc := []) (fr_S (As := [.int x2_14]) (rest := []) ⟨hx, hb, hml, hown, hts⟩ (tX4_isInRow x2_14 r_16 q_16) gX4_setFree_X4_isInRow rfl (fr_pre (As := [.int x2_14]) (wc := []) hK hN hP hD [] (by decide) rfl) (n := 1) (by decide +kernel) ⟨Nat.le_of_ble_eq_true rfl, Nat.le_of_ble_eq_true rfl⟩ rfl hl.1 rfl (Nat.le_of_ble_eq_true rfl) dX4_setFree_16 ⟨Nat.zero_le _, Nat.zero_le _⟩) hP hD hS hA [] rfl (c2 := 0) (s2 := 0) rfl rfl (fun H locs hP hS => ?_)
    refine lv_if_eq (tgt := 30) hx hb dX4_setFree_19 (by decide) (fun c3 => ?_) (fun c3 => ?_)
    · have h := (if_pos c3).symm.trans h
      refine lv_aload_n hx hb dX4_setFree_30 rfl (lv_at hl 1 rfl) ?_
      refine va_get (D := D) (ci := 4) (v := .ref aHe) (C := RX4) (T := TX4) (N := 10) hx hb hts i4 hown hK hP 0 rfl rfl 6 (by decide) (hts (.fieldLink RX4 18 RX4 "held" "[I") (List.mem_of_getElem? (i := 1) rfl)) (fun _ h9 => h9) rfl dX4_setFree_31 ?_
      refine lv_iload_n hx hb dX4_setFree_34 rfl (lv_at hl 2 rfl) ?_
      refine lv_bipush (v := (-6 : Int32)) hx hb dX4_setFree_35 (by decide) ?_
      obtain ⟨g4, h⟩ := no_some h
      refine va_iast hx hb hK hP hD hS 2 0 rfl rfl g4 dX4_setFree_37 (fun H locs hP hD hS => ?_)
      have hP : va_P D vwCl [(aS, .inr (4, [.int vVa, .int vCo, .int vBi, .int vPh, .ref aPr, .ref aHo, .ref aHe, .ref aSt, .ref aPb, .ref aPs])), (aHo, .inl (cI, 16, .inl fHo)), (aHe, .inl (cI, 16, .inl (upd fHe x1.toNatClampNeg (-6 : Int32))))] H := hP
      have hD : va_D A [(aS, .inr (4, [.int vVa, .int vCo, .int vBi, .int vPh, .ref aPr, .ref aHo, .ref aHe, .ref aSt, .ref aPb, .ref aPs])), (aHo, .inl (cI, 16, .inl fHo)), (aHe, .inl (cI, 16, .inl (upd fHe x1.toNatClampNeg (-6 : Int32))))] := hD
      exact hret fHo (upd fHe x1.toNatClampNeg (-6 : Int32)) 38 ls H locs dX4_setFree_38 hP hD hS h
    · have h := (if_neg c3).symm.trans h
      refine lv_aload_n hx hb dX4_setFree_22 rfl (lv_at hl 1 rfl) ?_
      refine va_get (D := D) (ci := 4) (v := .ref aHo) (C := RX4) (T := TX4) (N := 10) hx hb hts i4 hown hK hP 0 rfl rfl 5 (by decide) (hts (.fieldLink RX4 15 RX4 "holders" "[I") (List.mem_of_getElem? (i := 2) rfl)) (fun _ h9 => h9) rfl dX4_setFree_23 ?_
      refine lv_iload_n hx hb dX4_setFree_26 rfl (lv_at hl 0 rfl) ?_
      refine lv_bipush (v := (-6 : Int32)) hx hb dX4_setFree_27 (by decide) ?_
      obtain ⟨g5, h⟩ := no_some h
      refine va_iast hx hb hK hP hD hS 1 0 rfl rfl g5 dX4_setFree_29 (fun H locs hP hD hS => ?_)
      have hP : va_P D vwCl [(aS, .inr (4, [.int vVa, .int vCo, .int vBi, .int vPh, .ref aPr, .ref aHo, .ref aHe, .ref aSt, .ref aPb, .ref aPs])), (aHo, .inl (cI, 16, .inl (upd fHo x2_14.toNatClampNeg (-6 : Int32)))), (aHe, .inl (cI, 16, .inl fHe))] H := hP
      have hD : va_D A [(aS, .inr (4, [.int vVa, .int vCo, .int vBi, .int vPh, .ref aPr, .ref aHo, .ref aHe, .ref aSt, .ref aPb, .ref aPs])), (aHo, .inl (cI, 16, .inl (upd fHo x2_14.toNatClampNeg (-6 : Int32)))), (aHe, .inl (cI, 16, .inl fHe))] := hD
      refine lv_aload_n hx hb dX4_setFree_30 rfl (lv_at hl 1 rfl) ?_
      refine va_get (D := D) (ci := 4) (v := .ref aHe) (C := RX4) (T := TX4) (N := 10) hx hb hts i4 hown hK hP 0 rfl rfl 6 (by decide) (hts (.fieldLink RX4 18 RX4 "held" "[I") (List.mem_of_getElem? (i := 1) rfl)) (fun _ h9 => h9) rfl dX4_setFree_31 ?_
      refine lv_iload_n hx hb dX4_setFree_34 rfl (lv_at hl 2 rfl) ?_
      refine lv_bipush (v := (-6 : Int32)) hx hb dX4_setFree_35 (by decide) ?_
      obtain ⟨g6, h⟩ := no_some h
      refine va_iast hx hb hK hP hD hS 2 0 rfl rfl g6 dX4_setFree_37 (fun H locs hP hD hS => ?_)
      have hP : va_P D vwCl [(aS, .inr (4, [.int vVa, .int vCo, .int vBi, .int vPh, .ref aPr, .ref aHo, .ref aHe, .ref aSt, .ref aPb, .ref aPs])), (aHo, .inl (cI, 16, .inl (upd fHo x2_14.toNatClampNeg (-6 : Int32)))), (aHe, .inl (cI, 16, .inl (upd fHe x1.toNatClampNeg (-6 : Int32))))] H := hP
      have hD : va_D A [(aS, .inr (4, [.int vVa, .int vCo, .int vBi, .int vPh, .ref aPr, .ref aHo, .ref aHe, .ref aSt, .ref aPb, .ref aPs])), (aHo, .inl (cI, 16, .inl (upd fHo x2_14.toNatClampNeg (-6 : Int32)))), (aHe, .inl (cI, 16, .inl (upd fHe x1.toNatClampNeg (-6 : Int32))))] := hD
      exact hret (upd fHo x2_14.toNatClampNeg (-6 : Int32)) (upd fHe x1.toNatClampNeg (-6 : Int32)) 38 ls H locs dX4_setFree_38 hP hD hS h
  · have h := (if_pos c1).symm.trans h
    exact hret fHo fHe 7 ls H locs dX4_setFree_7 hP hD hS h
def fX4_copyFrom (vVa : Int32) (vCo : Int32) (vBi : Int32) (vPh : Int32) (fPr : Nat → Int32) (fHo : Nat → Int32) (fHe : Nat → Int32) (fSt : Nat → Int32) (fPb : Nat → Int32) (fPs : Nat → Int32) (vVa2 : Int32) (vCo2 : Int32) (vBi2 : Int32) (vPh2 : Int32) (fPr2 : Nat → Int32) (fHo2 : Nat → Int32) (fHe2 : Nat → Int32) (fSt2 : Nat → Int32) (fPb2 : Nat → Int32) (fPs2 : Nat → Int32) : Option (Int32 × Int32 × Int32 × Int32 × (Nat → Int32) × (Nat → Int32) × (Nat → Int32) × (Nat → Int32) × (Nat → Int32) × (Nat → Int32)) :=
  if vVa2 = 0 ∨ vVa2 = 1 then
    if vCo2 = 0 ∨ vCo2 = 1 then
      some (vVa2, vCo2, vBi2, vPh2, va_cpy fPr2 fPr 0 0 16, va_cpy fHo2 fHo 0 0 16, va_cpy fHe2 fHe 0 0 16, va_cpy fSt2 fSt 0 0 16, va_cpy fPb2 fPb 0 0 16, va_cpy fPs2 fPs 0 0 16)
    else none
  else none
abbrev rX4_copyFrom : Room := { frames := 1, cells := 0, slots := 0, locals := 60 }
set_option maxHeartbeats 4000000 in
set_option maxRecDepth 100000 in
theorem tX4_copyFrom {l : Launch} {D : va_G} {cI cZ cP : ClassId} (aS aPr aHo aHe aSt aPb aPs aS2 aPr2 aHo2 aHe2 aSt2 aPb2 aPs2 : Nat) (vVa : Int32) (vCo : Int32) (vBi : Int32) (vPh : Int32) (fPr : Nat → Int32) (fHo : Nat → Int32) (fHe : Nat → Int32) (fSt : Nat → Int32) (fPb : Nat → Int32) (fPs : Nat → Int32) (vVa2 : Int32) (vCo2 : Int32) (vBi2 : Int32) (vPh2 : Int32) (fPr2 : Nat → Int32) (fHo2 : Nat → Int32) (fHe2 : Nat → Int32) (fSt2 : Nat → Int32) (fPb2 : Nat → Int32) (fPs2 : Nat → Int32) (oVa : Int32) (oCo : Int32) (oBi : Int32) (oPh : Int32) (oPr : Nat → Int32) (oHo : Nat → Int32) (oHe : Nat → Int32) (oSt : Nat → Int32) (oPb : Nat → Int32) (oPs : Nat → Int32) (h : fX4_copyFrom vVa vCo vBi vPh fPr fHo fHe fSt fPb fPs vVa2 vCo2 vBi2 vPh2 fPr2 fHo2 fHe2 fSt2 fPb2 fPs2 = some (oVa, oCo, oBi, oPh, oPr, oHo, oHe, oSt, oPb, oPs)) : CtV l D cI cZ cP yX4_copyFrom wsX4_copyFrom rX4_copyFrom [.ref aS, .ref aS2] [(aS, .inr (4, [.int vVa, .int vCo, .int vBi, .int vPh, .ref aPr, .ref aHo, .ref aHe, .ref aSt, .ref aPb, .ref aPs])), (aPr, .inl (cI, 16, .inl fPr)), (aHo, .inl (cI, 16, .inl fHo)), (aHe, .inl (cI, 16, .inl fHe)), (aSt, .inl (cI, 16, .inl fSt)), (aPb, .inl (cI, 16, .inl fPb)), (aPs, .inl (cI, 16, .inl fPs)), (aS2, .inr (4, [.int vVa2, .int vCo2, .int vBi2, .int vPh2, .ref aPr2, .ref aHo2, .ref aHe2, .ref aSt2, .ref aPb2, .ref aPs2])), (aPr2, .inl (cI, 16, .inl fPr2)), (aHo2, .inl (cI, 16, .inl fHo2)), (aHe2, .inl (cI, 16, .inl fHe2)), (aSt2, .inl (cI, 16, .inl fSt2)), (aPb2, .inl (cI, 16, .inl fPb2)), (aPs2, .inl (cI, 16, .inl fPs2))] (fun _ : Unit => [(aS, .inr (4, [.int oVa, .int oCo, .int oBi, .int oPh, .ref aPr, .ref aHo, .ref aHe, .ref aSt, .ref aPb, .ref aPs])), (aPr, .inl (cI, 16, .inl oPr)), (aHo, .inl (cI, 16, .inl oHo)), (aHe, .inl (cI, 16, .inl oHe)), (aSt, .inl (cI, 16, .inl oSt)), (aPb, .inl (cI, 16, .inl oPb)), (aPs, .inl (cI, 16, .inl oPs)), (aS2, .inr (4, [.int vVa2, .int vCo2, .int vBi2, .int vPh2, .ref aPr2, .ref aHo2, .ref aHe2, .ref aSt2, .ref aPb2, .ref aPs2])), (aPr2, .inl (cI, 16, .inl fPr2)), (aHo2, .inl (cI, 16, .inl fHo2)), (aHe2, .inl (cI, 16, .inl fHe2)), (aSt2, .inl (cI, 16, .inl fSt2)), (aPb2, .inl (cI, 16, .inl fPb2)), (aPs2, .inl (cI, 16, .inl fPs2))]) := by
  refine CtV.ofW (cc := cX4_copyFrom) (maxL := 2) (by decide) rfl (Nat.le_of_ble_eq_true rfl) (lv := [(0, .ref aS), (1, .ref aS2)]) rfl ?_
  intro p e s m args below meth c A Q ls hx hb hml hown hts hK hN hP hD hS hA hl hin hret0
  have hown : s.vm.findClass RX4 = some m.cls := hown
  have i4 : ∀ w ∈ wsX40, w ∈ wsX4_copyFrom := mem_ps [15, 16, 17, 18, 19, 20, 21, 22, 23, 24] rfl
  have hret : ∀ (zVa : Int32) (zCo : Int32) (zBi : Int32) (zPh : Int32) (zPr : Nat → Int32) (zHo : Nat → Int32) (zHe : Nat → Int32) (zSt : Nat → Int32) (zPb : Nat → Int32) (zPs : Nat → Int32) (pc : Nat) (ls : Array Slot) (H : Heap) (locs : List Loc), decode cX4_copyFrom pc = .ok (.return_, 1) → va_P D vwCl [(aS, .inr (4, [.int zVa, .int zCo, .int zBi, .int zPh, .ref aPr, .ref aHo, .ref aHe, .ref aSt, .ref aPb, .ref aPs])), (aPr, .inl (cI, 16, .inl zPr)), (aHo, .inl (cI, 16, .inl zHo)), (aHe, .inl (cI, 16, .inl zHe)), (aSt, .inl (cI, 16, .inl zSt)), (aPb, .inl (cI, 16, .inl zPb)), (aPs, .inl (cI, 16, .inl zPs)), (aS2, .inr (4, [.int vVa2, .int vCo2, .int vBi2, .int vPh2, .ref aPr2, .ref aHo2, .ref aHe2, .ref aSt2, .ref aPb2, .ref aPs2])), (aPr2, .inl (cI, 16, .inl fPr2)), (aHo2, .inl (cI, 16, .inl fHo2)), (aHe2, .inl (cI, 16, .inl fHe2)), (aSt2, .inl (cI, 16, .inl fSt2)), (aPb2, .inl (cI, 16, .inl fPb2)), (aPs2, .inl (cI, 16, .inl fPs2))] H → va_D A [(aS, .inr (4, [.int zVa, .int zCo, .int zBi, .int zPh, .ref aPr, .ref aHo, .ref aHe, .ref aSt, .ref aPb, .ref aPs])), (aPr, .inl (cI, 16, .inl zPr)), (aHo, .inl (cI, 16, .inl zHo)), (aHe, .inl (cI, 16, .inl zHe)), (aSt, .inl (cI, 16, .inl zSt)), (aPb, .inl (cI, 16, .inl zPb)), (aPs, .inl (cI, 16, .inl zPs)), (aS2, .inr (4, [.int vVa2, .int vCo2, .int vBi2, .int vPh2, .ref aPr2, .ref aHo2, .ref aHe2, .ref aSt2, .ref aPb2, .ref aPs2])), (aPr2, .inl (cI, 16, .inl fPr2)), (aHo2, .inl (cI, 16, .inl fHo2)), (aHe2, .inl (cI, 16, .inl fHe2)), (aSt2, .inl (cI, 16, .inl fSt2)), (aPb2, .inl (cI, 16, .inl fPb2)), (aPs2, .inl (cI, 16, .inl fPs2))] → va_S A s.heap H locs → some (zVa, zCo, zBi, zPh, zPr, zHo, zHe, zSt, zPb, zPs) = some (oVa, oCo, oBi, oPh, oPr, oHo, oHe, oSt, oPb, oPs) → W p l e rX4_copyFrom s m args below meth c H locs 0 0 Q (F0 m pc ls []) := by
    intro zVa zCo zBi zPh zPr zHo zHe zSt zPb zPs pc ls H locs hd hP hD hS h
    cases h
    exact hret0 pc ls H locs () hd hP hD hS
  clear hret0
  unfold fX4_copyFrom at h
  obtain ⟨H, hH⟩ : ∃ H, H = s.heap := ⟨_, rfl⟩
  have hP : va_P D vwCl [(aS, .inr (4, [.int vVa, .int vCo, .int vBi, .int vPh, .ref aPr, .ref aHo, .ref aHe, .ref aSt, .ref aPb, .ref aPs])), (aPr, .inl (cI, 16, .inl fPr)), (aHo, .inl (cI, 16, .inl fHo)), (aHe, .inl (cI, 16, .inl fHe)), (aSt, .inl (cI, 16, .inl fSt)), (aPb, .inl (cI, 16, .inl fPb)), (aPs, .inl (cI, 16, .inl fPs)), (aS2, .inr (4, [.int vVa2, .int vCo2, .int vBi2, .int vPh2, .ref aPr2, .ref aHo2, .ref aHe2, .ref aSt2, .ref aPb2, .ref aPs2])), (aPr2, .inl (cI, 16, .inl fPr2)), (aHo2, .inl (cI, 16, .inl fHo2)), (aHe2, .inl (cI, 16, .inl fHe2)), (aSt2, .inl (cI, 16, .inl fSt2)), (aPb2, .inl (cI, 16, .inl fPb2)), (aPs2, .inl (cI, 16, .inl fPs2))] H := by rw [hH]; exact hP
  obtain ⟨locs, hlocs⟩ : ∃ x : List Loc, x = [] := ⟨_, rfl⟩
  have hS : va_S A s.heap H locs := by rw [hH, hlocs]; exact hS
  suffices hgo : W p l e rX4_copyFrom s m args below meth c H locs 0 0 Q (F0 m 0 ls []) by rw [hH, hlocs] at hgo; exact hgo
  refine lv_aload_n hx hb dX4_copyFrom_0 rfl (lv_at hl 0 rfl) ?_
  refine lv_aload_n hx hb dX4_copyFrom_1 rfl (lv_at hl 1 rfl) ?_
  refine va_get (D := D) (ci := 4) (v := .int vVa2) (C := RX4) (T := TX4) (N := 10) hx hb hts i4 hown hK hP 7 rfl rfl 0 (by decide) (hts (.fieldLink RX4 30 RX4 "valid" "Z") (List.mem_of_getElem? (i := 1) rfl)) (fun _ h9 => h9) rfl dX4_copyFrom_2 ?_
  obtain ⟨z1, h⟩ := yes_some h
  refine va_put (D := D) (ci := 4) (v := .int vVa2) (ty := .boolean) (C := RX4) (T := TX4) (N := 10) hx hb hts i4 tyX4 tyX4_ok nmX4 hown hK hP hD hS 0 rfl rfl 0 (by decide) (hts (.fieldLink RX4 30 RX4 "valid" "Z") (List.mem_of_getElem? (i := 1) rfl)) (fun _ h9 => h9) rfl (by decide +kernel) (zz_nar z1) (zz_fit z1) (Nat.le_of_ble_eq_true rfl) dX4_copyFrom_5 (fun H locs hP hD hS => ?_)
  have hP : va_P D vwCl [(aS, .inr (4, [.int vVa2, .int vCo, .int vBi, .int vPh, .ref aPr, .ref aHo, .ref aHe, .ref aSt, .ref aPb, .ref aPs])), (aPr, .inl (cI, 16, .inl fPr)), (aHo, .inl (cI, 16, .inl fHo)), (aHe, .inl (cI, 16, .inl fHe)), (aSt, .inl (cI, 16, .inl fSt)), (aPb, .inl (cI, 16, .inl fPb)), (aPs, .inl (cI, 16, .inl fPs)), (aS2, .inr (4, [.int vVa2, .int vCo2, .int vBi2, .int vPh2, .ref aPr2, .ref aHo2, .ref aHe2, .ref aSt2, .ref aPb2, .ref aPs2])), (aPr2, .inl (cI, 16, .inl fPr2)), (aHo2, .inl (cI, 16, .inl fHo2)), (aHe2, .inl (cI, 16, .inl fHe2)), (aSt2, .inl (cI, 16, .inl fSt2)), (aPb2, .inl (cI, 16, .inl fPb2)), (aPs2, .inl (cI, 16, .inl fPs2))] H := hP
  have hD : va_D A [(aS, .inr (4, [.int vVa2, .int vCo, .int vBi, .int vPh, .ref aPr, .ref aHo, .ref aHe, .ref aSt, .ref aPb, .ref aPs])), (aPr, .inl (cI, 16, .inl fPr)), (aHo, .inl (cI, 16, .inl fHo)), (aHe, .inl (cI, 16, .inl fHe)), (aSt, .inl (cI, 16, .inl fSt)), (aPb, .inl (cI, 16, .inl fPb)), (aPs, .inl (cI, 16, .inl fPs)), (aS2, .inr (4, [.int vVa2, .int vCo2, .int vBi2, .int vPh2, .ref aPr2, .ref aHo2, .ref aHe2, .ref aSt2, .ref aPb2, .ref aPs2])), (aPr2, .inl (cI, 16, .inl fPr2)), (aHo2, .inl (cI, 16, .inl fHo2)), (aHe2, .inl (cI, 16, .inl fHe2)), (aSt2, .inl (cI, 16, .inl fSt2)), (aPb2, .inl (cI, 16, .inl fPb2)), (aPs2, .inl (cI, 16, .inl fPs2))] := hD
  refine lv_aload_n hx hb dX4_copyFrom_8 rfl (lv_at hl 0 rfl) ?_
  refine lv_aload_n hx hb dX4_copyFrom_9 rfl (lv_at hl 1 rfl) ?_
  refine va_get (D := D) (ci := 4) (v := .int vCo2) (C := RX4) (T := TX4) (N := 10) hx hb hts i4 hown hK hP 7 rfl rfl 1 (by decide) (hts (.fieldLink RX4 34 RX4 "content" "Z") (List.mem_of_getElem? (i := 2) rfl)) (fun _ h9 => h9) rfl dX4_copyFrom_10 ?_
  obtain ⟨z2, h⟩ := yes_some h
  refine va_put (D := D) (ci := 4) (v := .int vCo2) (ty := .boolean) (C := RX4) (T := TX4) (N := 10) hx hb hts i4 tyX4 tyX4_ok nmX4 hown hK hP hD hS 0 rfl rfl 1 (by decide) (hts (.fieldLink RX4 34 RX4 "content" "Z") (List.mem_of_getElem? (i := 2) rfl)) (fun _ h9 => h9) rfl (by decide +kernel) (zz_nar z2) (zz_fit z2) (Nat.le_of_ble_eq_true rfl) dX4_copyFrom_13 (fun H locs hP hD hS => ?_)
  have hP : va_P D vwCl [(aS, .inr (4, [.int vVa2, .int vCo2, .int vBi, .int vPh, .ref aPr, .ref aHo, .ref aHe, .ref aSt, .ref aPb, .ref aPs])), (aPr, .inl (cI, 16, .inl fPr)), (aHo, .inl (cI, 16, .inl fHo)), (aHe, .inl (cI, 16, .inl fHe)), (aSt, .inl (cI, 16, .inl fSt)), (aPb, .inl (cI, 16, .inl fPb)), (aPs, .inl (cI, 16, .inl fPs)), (aS2, .inr (4, [.int vVa2, .int vCo2, .int vBi2, .int vPh2, .ref aPr2, .ref aHo2, .ref aHe2, .ref aSt2, .ref aPb2, .ref aPs2])), (aPr2, .inl (cI, 16, .inl fPr2)), (aHo2, .inl (cI, 16, .inl fHo2)), (aHe2, .inl (cI, 16, .inl fHe2)), (aSt2, .inl (cI, 16, .inl fSt2)), (aPb2, .inl (cI, 16, .inl fPb2)), (aPs2, .inl (cI, 16, .inl fPs2))] H := hP
  have hD : va_D A [(aS, .inr (4, [.int vVa2, .int vCo2, .int vBi, .int vPh, .ref aPr, .ref aHo, .ref aHe, .ref aSt, .ref aPb, .ref aPs])), (aPr, .inl (cI, 16, .inl fPr)), (aHo, .inl (cI, 16, .inl fHo)), (aHe, .inl (cI, 16, .inl fHe)), (aSt, .inl (cI, 16, .inl fSt)), (aPb, .inl (cI, 16, .inl fPb)), (aPs, .inl (cI, 16, .inl fPs)), (aS2, .inr (4, [.int vVa2, .int vCo2, .int vBi2, .int vPh2, .ref aPr2, .ref aHo2, .ref aHe2, .ref aSt2, .ref aPb2, .ref aPs2])), (aPr2, .inl (cI, 16, .inl fPr2)), (aHo2, .inl (cI, 16, .inl fHo2)), (aHe2, .inl (cI, 16, .inl fHe2)), (aSt2, .inl (cI, 16, .inl fSt2)), (aPb2, .inl (cI, 16, .inl fPb2)), (aPs2, .inl (cI, 16, .inl fPs2))] := hD
  refine lv_aload_n hx hb dX4_copyFrom_16 rfl (lv_at hl 0 rfl) ?_
  refine lv_aload_n hx hb dX4_copyFrom_17 rfl (lv_at hl 1 rfl) ?_
  refine va_get (D := D) (ci := 4) (v := .int vBi2) (C := RX4) (T := TX4) (N := 10) hx hb hts i4 hown hK hP 7 rfl rfl 2 (by decide) (hts (.fieldLink RX4 41 RX4 "bids" "I") (List.mem_of_getElem? (i := 3) rfl)) (fun _ h9 => h9) rfl dX4_copyFrom_18 ?_
  refine va_put (D := D) (ci := 4) (v := .int vBi2) (ty := .int) (C := RX4) (T := TX4) (N := 10) hx hb hts i4 tyX4 tyX4_ok nmX4 hown hK hP hD hS 0 rfl rfl 2 (by decide) (hts (.fieldLink RX4 41 RX4 "bids" "I") (List.mem_of_getElem? (i := 3) rfl)) (fun _ h9 => h9) rfl (by decide +kernel) rfl rfl (Nat.le_of_ble_eq_true rfl) dX4_copyFrom_21 (fun H locs hP hD hS => ?_)
  have hP : va_P D vwCl [(aS, .inr (4, [.int vVa2, .int vCo2, .int vBi2, .int vPh, .ref aPr, .ref aHo, .ref aHe, .ref aSt, .ref aPb, .ref aPs])), (aPr, .inl (cI, 16, .inl fPr)), (aHo, .inl (cI, 16, .inl fHo)), (aHe, .inl (cI, 16, .inl fHe)), (aSt, .inl (cI, 16, .inl fSt)), (aPb, .inl (cI, 16, .inl fPb)), (aPs, .inl (cI, 16, .inl fPs)), (aS2, .inr (4, [.int vVa2, .int vCo2, .int vBi2, .int vPh2, .ref aPr2, .ref aHo2, .ref aHe2, .ref aSt2, .ref aPb2, .ref aPs2])), (aPr2, .inl (cI, 16, .inl fPr2)), (aHo2, .inl (cI, 16, .inl fHo2)), (aHe2, .inl (cI, 16, .inl fHe2)), (aSt2, .inl (cI, 16, .inl fSt2)), (aPb2, .inl (cI, 16, .inl fPb2)), (aPs2, .inl (cI, 16, .inl fPs2))] H := hP
  have hD : va_D A [(aS, .inr (4, [.int vVa2, .int vCo2, .int vBi2, .int vPh, .ref aPr, .ref aHo, .ref aHe, .ref aSt, .ref aPb, .ref aPs])), (aPr, .inl (cI, 16, .inl fPr)), (aHo, .inl (cI, 16, .inl fHo)), (aHe, .inl (cI, 16, .inl fHe)), (aSt, .inl (cI, 16, .inl fSt)), (aPb, .inl (cI, 16, .inl fPb)), (aPs, .inl (cI, 16, .inl fPs)), (aS2, .inr (4, [.int vVa2, .int vCo2, .int vBi2, .int vPh2, .ref aPr2, .ref aHo2, .ref aHe2, .ref aSt2, .ref aPb2, .ref aPs2])), (aPr2, .inl (cI, 16, .inl fPr2)), (aHo2, .inl (cI, 16, .inl fHo2)), (aHe2, .inl (cI, 16, .inl fHe2)), (aSt2, .inl (cI, 16, .inl fSt2)), (aPb2, .inl (cI, 16, .inl fPb2)), (aPs2, .inl (cI, 16, .inl fPs2))] := hD
  refine lv_aload_n hx hb dX4_copyFrom_24 rfl (lv_at hl 0 rfl) ?_
  refine lv_aload_n hx hb dX4_copyFrom_25 rfl (lv_at hl 1 rfl) ?_
  refine va_get (D := D) (ci := 4) (v := .int vPh2) (C := RX4) (T := TX4) (N := 10) hx hb hts i4 hown hK hP 7 rfl rfl 3 (by decide) (hts (.fieldLink RX4 37 RX4 "phases" "I") (List.mem_of_getElem? (i := 4) rfl)) (fun _ h9 => h9) rfl dX4_copyFrom_26 ?_
  refine va_put (D := D) (ci := 4) (v := .int vPh2) (ty := .int) (C := RX4) (T := TX4) (N := 10) hx hb hts i4 tyX4 tyX4_ok nmX4 hown hK hP hD hS 0 rfl rfl 3 (by decide) (hts (.fieldLink RX4 37 RX4 "phases" "I") (List.mem_of_getElem? (i := 4) rfl)) (fun _ h9 => h9) rfl (by decide +kernel) rfl rfl (Nat.le_of_ble_eq_true rfl) dX4_copyFrom_29 (fun H locs hP hD hS => ?_)
  have hP : va_P D vwCl [(aS, .inr (4, [.int vVa2, .int vCo2, .int vBi2, .int vPh2, .ref aPr, .ref aHo, .ref aHe, .ref aSt, .ref aPb, .ref aPs])), (aPr, .inl (cI, 16, .inl fPr)), (aHo, .inl (cI, 16, .inl fHo)), (aHe, .inl (cI, 16, .inl fHe)), (aSt, .inl (cI, 16, .inl fSt)), (aPb, .inl (cI, 16, .inl fPb)), (aPs, .inl (cI, 16, .inl fPs)), (aS2, .inr (4, [.int vVa2, .int vCo2, .int vBi2, .int vPh2, .ref aPr2, .ref aHo2, .ref aHe2, .ref aSt2, .ref aPb2, .ref aPs2])), (aPr2, .inl (cI, 16, .inl fPr2)), (aHo2, .inl (cI, 16, .inl fHo2)), (aHe2, .inl (cI, 16, .inl fHe2)), (aSt2, .inl (cI, 16, .inl fSt2)), (aPb2, .inl (cI, 16, .inl fPb2)), (aPs2, .inl (cI, 16, .inl fPs2))] H := hP
  have hD : va_D A [(aS, .inr (4, [.int vVa2, .int vCo2, .int vBi2, .int vPh2, .ref aPr, .ref aHo, .ref aHe, .ref aSt, .ref aPb, .ref aPs])), (aPr, .inl (cI, 16, .inl fPr)), (aHo, .inl (cI, 16, .inl fHo)), (aHe, .inl (cI, 16, .inl fHe)), (aSt, .inl (cI, 16, .inl fSt)), (aPb, .inl (cI, 16, .inl fPb)), (aPs, .inl (cI, 16, .inl fPs)), (aS2, .inr (4, [.int vVa2, .int vCo2, .int vBi2, .int vPh2, .ref aPr2, .ref aHo2, .ref aHe2, .ref aSt2, .ref aPb2, .ref aPs2])), (aPr2, .inl (cI, 16, .inl fPr2)), (aHo2, .inl (cI, 16, .inl fHo2)), (aHe2, .inl (cI, 16, .inl fHe2)), (aSt2, .inl (cI, 16, .inl fSt2)), (aPb2, .inl (cI, 16, .inl fPb2)), (aPs2, .inl (cI, 16, .inl fPs2))] := hD
  refine lv_aload_n hx hb dX4_copyFrom_32 rfl (lv_at hl 1 rfl) ?_
  refine va_get (D := D) (ci := 4) (v := .ref aPr2) (C := RX4) (T := TX4) (N := 10) hx hb hts i4 hown hK hP 7 rfl rfl 4 (by decide) (hts (.fieldLink RX4 9 RX4 "prices" "[I") (List.mem_of_getElem? (i := 5) rfl)) (fun _ h9 => h9) rfl dX4_copyFrom_33 ?_
  refine lv_iconst (v := (0 : Int32)) hx hb dX4_copyFrom_36 (by decide) ?_
  refine lv_aload_n hx hb dX4_copyFrom_37 rfl (lv_at hl 0 rfl) ?_
  refine va_get (D := D) (ci := 4) (v := .ref aPr) (C := RX4) (T := TX4) (N := 10) hx hb hts i4 hown hK hP 0 rfl rfl 4 (by decide) (hts (.fieldLink RX4 9 RX4 "prices" "[I") (List.mem_of_getElem? (i := 5) rfl)) (fun _ h9 => h9) rfl dX4_copyFrom_38 ?_
  refine lv_iconst (v := (0 : Int32)) hx hb dX4_copyFrom_41 (by decide) ?_
  refine lv_bipush (v := (16 : Int32)) hx hb dX4_copyFrom_42 (by decide) ?_
  refine va_copyi hx hb (hml.trans hl.1.symm) hown (hts (.methodLink RX4 48 arraycopyName) (List.mem_of_getElem? (i := 6) rfl)) (hts (.native arraycopyName) (List.mem_of_getElem? (i := 7) rfl)) (hts (.static arraycopyName) (List.mem_of_getElem? (i := 8) rfl)) (hts (.initialized "java/lang/System") (List.mem_of_getElem? (i := 9) rfl)) hK hP hD hS 8 1 0 0 (ty := .int) rfl rfl rfl rfl rfl (by decide) (by decide) (by decide) (by decide) (by decide) (fun _ _ => rfl) (Nat.le_of_ble_eq_true rfl) (Nat.le_of_ble_eq_true rfl) dX4_copyFrom_44 (fun H locs hP hD hS => ?_)
  have hP : va_P D vwCl [(aS, .inr (4, [.int vVa2, .int vCo2, .int vBi2, .int vPh2, .ref aPr, .ref aHo, .ref aHe, .ref aSt, .ref aPb, .ref aPs])), (aPr, .inl (cI, 16, .inl (va_cpy fPr2 fPr 0 0 16))), (aHo, .inl (cI, 16, .inl fHo)), (aHe, .inl (cI, 16, .inl fHe)), (aSt, .inl (cI, 16, .inl fSt)), (aPb, .inl (cI, 16, .inl fPb)), (aPs, .inl (cI, 16, .inl fPs)), (aS2, .inr (4, [.int vVa2, .int vCo2, .int vBi2, .int vPh2, .ref aPr2, .ref aHo2, .ref aHe2, .ref aSt2, .ref aPb2, .ref aPs2])), (aPr2, .inl (cI, 16, .inl fPr2)), (aHo2, .inl (cI, 16, .inl fHo2)), (aHe2, .inl (cI, 16, .inl fHe2)), (aSt2, .inl (cI, 16, .inl fSt2)), (aPb2, .inl (cI, 16, .inl fPb2)), (aPs2, .inl (cI, 16, .inl fPs2))] H := hP
  have hD : va_D A [(aS, .inr (4, [.int vVa2, .int vCo2, .int vBi2, .int vPh2, .ref aPr, .ref aHo, .ref aHe, .ref aSt, .ref aPb, .ref aPs])), (aPr, .inl (cI, 16, .inl (va_cpy fPr2 fPr 0 0 16))), (aHo, .inl (cI, 16, .inl fHo)), (aHe, .inl (cI, 16, .inl fHe)), (aSt, .inl (cI, 16, .inl fSt)), (aPb, .inl (cI, 16, .inl fPb)), (aPs, .inl (cI, 16, .inl fPs)), (aS2, .inr (4, [.int vVa2, .int vCo2, .int vBi2, .int vPh2, .ref aPr2, .ref aHo2, .ref aHe2, .ref aSt2, .ref aPb2, .ref aPs2])), (aPr2, .inl (cI, 16, .inl fPr2)), (aHo2, .inl (cI, 16, .inl fHo2)), (aHe2, .inl (cI, 16, .inl fHe2)), (aSt2, .inl (cI, 16, .inl fSt2)), (aPb2, .inl (cI, 16, .inl fPb2)), (aPs2, .inl (cI, 16, .inl fPs2))] := hD
  refine lv_aload_n hx hb dX4_copyFrom_47 rfl (lv_at hl 1 rfl) ?_
  refine va_get (D := D) (ci := 4) (v := .ref aHo2) (C := RX4) (T := TX4) (N := 10) hx hb hts i4 hown hK hP 7 rfl rfl 5 (by decide) (hts (.fieldLink RX4 15 RX4 "holders" "[I") (List.mem_of_getElem? (i := 10) rfl)) (fun _ h9 => h9) rfl dX4_copyFrom_48 ?_
  refine lv_iconst (v := (0 : Int32)) hx hb dX4_copyFrom_51 (by decide) ?_
  refine lv_aload_n hx hb dX4_copyFrom_52 rfl (lv_at hl 0 rfl) ?_
  refine va_get (D := D) (ci := 4) (v := .ref aHo) (C := RX4) (T := TX4) (N := 10) hx hb hts i4 hown hK hP 0 rfl rfl 5 (by decide) (hts (.fieldLink RX4 15 RX4 "holders" "[I") (List.mem_of_getElem? (i := 10) rfl)) (fun _ h9 => h9) rfl dX4_copyFrom_53 ?_
  refine lv_iconst (v := (0 : Int32)) hx hb dX4_copyFrom_56 (by decide) ?_
  refine lv_bipush (v := (16 : Int32)) hx hb dX4_copyFrom_57 (by decide) ?_
  refine va_copyi hx hb (hml.trans hl.1.symm) hown (hts (.methodLink RX4 48 arraycopyName) (List.mem_of_getElem? (i := 6) rfl)) (hts (.native arraycopyName) (List.mem_of_getElem? (i := 7) rfl)) (hts (.static arraycopyName) (List.mem_of_getElem? (i := 8) rfl)) (hts (.initialized "java/lang/System") (List.mem_of_getElem? (i := 9) rfl)) hK hP hD hS 9 2 0 0 (ty := .int) rfl rfl rfl rfl rfl (by decide) (by decide) (by decide) (by decide) (by decide) (fun _ _ => rfl) (Nat.le_of_ble_eq_true rfl) (Nat.le_of_ble_eq_true rfl) dX4_copyFrom_59 (fun H locs hP hD hS => ?_)
  have hP : va_P D vwCl [(aS, .inr (4, [.int vVa2, .int vCo2, .int vBi2, .int vPh2, .ref aPr, .ref aHo, .ref aHe, .ref aSt, .ref aPb, .ref aPs])), (aPr, .inl (cI, 16, .inl (va_cpy fPr2 fPr 0 0 16))), (aHo, .inl (cI, 16, .inl (va_cpy fHo2 fHo 0 0 16))), (aHe, .inl (cI, 16, .inl fHe)), (aSt, .inl (cI, 16, .inl fSt)), (aPb, .inl (cI, 16, .inl fPb)), (aPs, .inl (cI, 16, .inl fPs)), (aS2, .inr (4, [.int vVa2, .int vCo2, .int vBi2, .int vPh2, .ref aPr2, .ref aHo2, .ref aHe2, .ref aSt2, .ref aPb2, .ref aPs2])), (aPr2, .inl (cI, 16, .inl fPr2)), (aHo2, .inl (cI, 16, .inl fHo2)), (aHe2, .inl (cI, 16, .inl fHe2)), (aSt2, .inl (cI, 16, .inl fSt2)), (aPb2, .inl (cI, 16, .inl fPb2)), (aPs2, .inl (cI, 16, .inl fPs2))] H := hP
  have hD : va_D A [(aS, .inr (4, [.int vVa2, .int vCo2, .int vBi2, .int vPh2, .ref aPr, .ref aHo, .ref aHe, .ref aSt, .ref aPb, .ref aPs])), (aPr, .inl (cI, 16, .inl (va_cpy fPr2 fPr 0 0 16))), (aHo, .inl (cI, 16, .inl (va_cpy fHo2 fHo 0 0 16))), (aHe, .inl (cI, 16, .inl fHe)), (aSt, .inl (cI, 16, .inl fSt)), (aPb, .inl (cI, 16, .inl fPb)), (aPs, .inl (cI, 16, .inl fPs)), (aS2, .inr (4, [.int vVa2, .int vCo2, .int vBi2, .int vPh2, .ref aPr2, .ref aHo2, .ref aHe2, .ref aSt2, .ref aPb2, .ref aPs2])), (aPr2, .inl (cI, 16, .inl fPr2)), (aHo2, .inl (cI, 16, .inl fHo2)), (aHe2, .inl (cI, 16, .inl fHe2)), (aSt2, .inl (cI, 16, .inl fSt2)), (aPb2, .inl (cI, 16, .inl fPb2)), (aPs2, .inl (cI, 16, .inl fPs2))] := hD
  refine lv_aload_n hx hb dX4_copyFrom_62 rfl (lv_at hl 1 rfl) ?_
  refine va_get (D := D) (ci := 4) (v := .ref aHe2) (C := RX4) (T := TX4) (N := 10) hx hb hts i4 hown hK hP 7 rfl rfl 6 (by decide) (hts (.fieldLink RX4 18 RX4 "held" "[I") (List.mem_of_getElem? (i := 11) rfl)) (fun _ h9 => h9) rfl dX4_copyFrom_63 ?_
  refine lv_iconst (v := (0 : Int32)) hx hb dX4_copyFrom_66 (by decide) ?_
  refine lv_aload_n hx hb dX4_copyFrom_67 rfl (lv_at hl 0 rfl) ?_
  refine va_get (D := D) (ci := 4) (v := .ref aHe) (C := RX4) (T := TX4) (N := 10) hx hb hts i4 hown hK hP 0 rfl rfl 6 (by decide) (hts (.fieldLink RX4 18 RX4 "held" "[I") (List.mem_of_getElem? (i := 11) rfl)) (fun _ h9 => h9) rfl dX4_copyFrom_68 ?_
  refine lv_iconst (v := (0 : Int32)) hx hb dX4_copyFrom_71 (by decide) ?_
  refine lv_bipush (v := (16 : Int32)) hx hb dX4_copyFrom_72 (by decide) ?_
  refine va_copyi hx hb (hml.trans hl.1.symm) hown (hts (.methodLink RX4 48 arraycopyName) (List.mem_of_getElem? (i := 6) rfl)) (hts (.native arraycopyName) (List.mem_of_getElem? (i := 7) rfl)) (hts (.static arraycopyName) (List.mem_of_getElem? (i := 8) rfl)) (hts (.initialized "java/lang/System") (List.mem_of_getElem? (i := 9) rfl)) hK hP hD hS 10 3 0 0 (ty := .int) rfl rfl rfl rfl rfl (by decide) (by decide) (by decide) (by decide) (by decide) (fun _ _ => rfl) (Nat.le_of_ble_eq_true rfl) (Nat.le_of_ble_eq_true rfl) dX4_copyFrom_74 (fun H locs hP hD hS => ?_)
  have hP : va_P D vwCl [(aS, .inr (4, [.int vVa2, .int vCo2, .int vBi2, .int vPh2, .ref aPr, .ref aHo, .ref aHe, .ref aSt, .ref aPb, .ref aPs])), (aPr, .inl (cI, 16, .inl (va_cpy fPr2 fPr 0 0 16))), (aHo, .inl (cI, 16, .inl (va_cpy fHo2 fHo 0 0 16))), (aHe, .inl (cI, 16, .inl (va_cpy fHe2 fHe 0 0 16))), (aSt, .inl (cI, 16, .inl fSt)), (aPb, .inl (cI, 16, .inl fPb)), (aPs, .inl (cI, 16, .inl fPs)), (aS2, .inr (4, [.int vVa2, .int vCo2, .int vBi2, .int vPh2, .ref aPr2, .ref aHo2, .ref aHe2, .ref aSt2, .ref aPb2, .ref aPs2])), (aPr2, .inl (cI, 16, .inl fPr2)), (aHo2, .inl (cI, 16, .inl fHo2)), (aHe2, .inl (cI, 16, .inl fHe2)), (aSt2, .inl (cI, 16, .inl fSt2)), (aPb2, .inl (cI, 16, .inl fPb2)), (aPs2, .inl (cI, 16, .inl fPs2))] H := hP
  have hD : va_D A [(aS, .inr (4, [.int vVa2, .int vCo2, .int vBi2, .int vPh2, .ref aPr, .ref aHo, .ref aHe, .ref aSt, .ref aPb, .ref aPs])), (aPr, .inl (cI, 16, .inl (va_cpy fPr2 fPr 0 0 16))), (aHo, .inl (cI, 16, .inl (va_cpy fHo2 fHo 0 0 16))), (aHe, .inl (cI, 16, .inl (va_cpy fHe2 fHe 0 0 16))), (aSt, .inl (cI, 16, .inl fSt)), (aPb, .inl (cI, 16, .inl fPb)), (aPs, .inl (cI, 16, .inl fPs)), (aS2, .inr (4, [.int vVa2, .int vCo2, .int vBi2, .int vPh2, .ref aPr2, .ref aHo2, .ref aHe2, .ref aSt2, .ref aPb2, .ref aPs2])), (aPr2, .inl (cI, 16, .inl fPr2)), (aHo2, .inl (cI, 16, .inl fHo2)), (aHe2, .inl (cI, 16, .inl fHe2)), (aSt2, .inl (cI, 16, .inl fSt2)), (aPb2, .inl (cI, 16, .inl fPb2)), (aPs2, .inl (cI, 16, .inl fPs2))] := hD
  refine lv_aload_n hx hb dX4_copyFrom_77 rfl (lv_at hl 1 rfl) ?_
  refine va_get (D := D) (ci := 4) (v := .ref aSt2) (C := RX4) (T := TX4) (N := 10) hx hb hts i4 hown hK hP 7 rfl rfl 7 (by decide) (hts (.fieldLink RX4 21 RX4 "steps" "[I") (List.mem_of_getElem? (i := 12) rfl)) (fun _ h9 => h9) rfl dX4_copyFrom_78 ?_
  refine lv_iconst (v := (0 : Int32)) hx hb dX4_copyFrom_81 (by decide) ?_
  refine lv_aload_n hx hb dX4_copyFrom_82 rfl (lv_at hl 0 rfl) ?_
  refine va_get (D := D) (ci := 4) (v := .ref aSt) (C := RX4) (T := TX4) (N := 10) hx hb hts i4 hown hK hP 0 rfl rfl 7 (by decide) (hts (.fieldLink RX4 21 RX4 "steps" "[I") (List.mem_of_getElem? (i := 12) rfl)) (fun _ h9 => h9) rfl dX4_copyFrom_83 ?_
  refine lv_iconst (v := (0 : Int32)) hx hb dX4_copyFrom_86 (by decide) ?_
  refine lv_bipush (v := (16 : Int32)) hx hb dX4_copyFrom_87 (by decide) ?_
  refine va_copyi hx hb (hml.trans hl.1.symm) hown (hts (.methodLink RX4 48 arraycopyName) (List.mem_of_getElem? (i := 6) rfl)) (hts (.native arraycopyName) (List.mem_of_getElem? (i := 7) rfl)) (hts (.static arraycopyName) (List.mem_of_getElem? (i := 8) rfl)) (hts (.initialized "java/lang/System") (List.mem_of_getElem? (i := 9) rfl)) hK hP hD hS 11 4 0 0 (ty := .int) rfl rfl rfl rfl rfl (by decide) (by decide) (by decide) (by decide) (by decide) (fun _ _ => rfl) (Nat.le_of_ble_eq_true rfl) (Nat.le_of_ble_eq_true rfl) dX4_copyFrom_89 (fun H locs hP hD hS => ?_)
  have hP : va_P D vwCl [(aS, .inr (4, [.int vVa2, .int vCo2, .int vBi2, .int vPh2, .ref aPr, .ref aHo, .ref aHe, .ref aSt, .ref aPb, .ref aPs])), (aPr, .inl (cI, 16, .inl (va_cpy fPr2 fPr 0 0 16))), (aHo, .inl (cI, 16, .inl (va_cpy fHo2 fHo 0 0 16))), (aHe, .inl (cI, 16, .inl (va_cpy fHe2 fHe 0 0 16))), (aSt, .inl (cI, 16, .inl (va_cpy fSt2 fSt 0 0 16))), (aPb, .inl (cI, 16, .inl fPb)), (aPs, .inl (cI, 16, .inl fPs)), (aS2, .inr (4, [.int vVa2, .int vCo2, .int vBi2, .int vPh2, .ref aPr2, .ref aHo2, .ref aHe2, .ref aSt2, .ref aPb2, .ref aPs2])), (aPr2, .inl (cI, 16, .inl fPr2)), (aHo2, .inl (cI, 16, .inl fHo2)), (aHe2, .inl (cI, 16, .inl fHe2)), (aSt2, .inl (cI, 16, .inl fSt2)), (aPb2, .inl (cI, 16, .inl fPb2)), (aPs2, .inl (cI, 16, .inl fPs2))] H := hP
  have hD : va_D A [(aS, .inr (4, [.int vVa2, .int vCo2, .int vBi2, .int vPh2, .ref aPr, .ref aHo, .ref aHe, .ref aSt, .ref aPb, .ref aPs])), (aPr, .inl (cI, 16, .inl (va_cpy fPr2 fPr 0 0 16))), (aHo, .inl (cI, 16, .inl (va_cpy fHo2 fHo 0 0 16))), (aHe, .inl (cI, 16, .inl (va_cpy fHe2 fHe 0 0 16))), (aSt, .inl (cI, 16, .inl (va_cpy fSt2 fSt 0 0 16))), (aPb, .inl (cI, 16, .inl fPb)), (aPs, .inl (cI, 16, .inl fPs)), (aS2, .inr (4, [.int vVa2, .int vCo2, .int vBi2, .int vPh2, .ref aPr2, .ref aHo2, .ref aHe2, .ref aSt2, .ref aPb2, .ref aPs2])), (aPr2, .inl (cI, 16, .inl fPr2)), (aHo2, .inl (cI, 16, .inl fHo2)), (aHe2, .inl (cI, 16, .inl fHe2)), (aSt2, .inl (cI, 16, .inl fSt2)), (aPb2, .inl (cI, 16, .inl fPb2)), (aPs2, .inl (cI, 16, .inl fPs2))] := hD
  refine lv_aload_n hx hb dX4_copyFrom_92 rfl (lv_at hl 1 rfl) ?_
  refine va_get (D := D) (ci := 4) (v := .ref aPb2) (C := RX4) (T := TX4) (N := 10) hx hb hts i4 hown hK hP 7 rfl rfl 8 (by decide) (hts (.fieldLink RX4 24 RX4 "phaseBids" "[I") (List.mem_of_getElem? (i := 13) rfl)) (fun _ h9 => h9) rfl dX4_copyFrom_93 ?_
  refine lv_iconst (v := (0 : Int32)) hx hb dX4_copyFrom_96 (by decide) ?_
  refine lv_aload_n hx hb dX4_copyFrom_97 rfl (lv_at hl 0 rfl) ?_
  refine va_get (D := D) (ci := 4) (v := .ref aPb) (C := RX4) (T := TX4) (N := 10) hx hb hts i4 hown hK hP 0 rfl rfl 8 (by decide) (hts (.fieldLink RX4 24 RX4 "phaseBids" "[I") (List.mem_of_getElem? (i := 13) rfl)) (fun _ h9 => h9) rfl dX4_copyFrom_98 ?_
  refine lv_iconst (v := (0 : Int32)) hx hb dX4_copyFrom_101 (by decide) ?_
  refine lv_bipush (v := (16 : Int32)) hx hb dX4_copyFrom_102 (by decide) ?_
  refine va_copyi hx hb (hml.trans hl.1.symm) hown (hts (.methodLink RX4 48 arraycopyName) (List.mem_of_getElem? (i := 6) rfl)) (hts (.native arraycopyName) (List.mem_of_getElem? (i := 7) rfl)) (hts (.static arraycopyName) (List.mem_of_getElem? (i := 8) rfl)) (hts (.initialized "java/lang/System") (List.mem_of_getElem? (i := 9) rfl)) hK hP hD hS 12 5 0 0 (ty := .int) rfl rfl rfl rfl rfl (by decide) (by decide) (by decide) (by decide) (by decide) (fun _ _ => rfl) (Nat.le_of_ble_eq_true rfl) (Nat.le_of_ble_eq_true rfl) dX4_copyFrom_104 (fun H locs hP hD hS => ?_)
  have hP : va_P D vwCl [(aS, .inr (4, [.int vVa2, .int vCo2, .int vBi2, .int vPh2, .ref aPr, .ref aHo, .ref aHe, .ref aSt, .ref aPb, .ref aPs])), (aPr, .inl (cI, 16, .inl (va_cpy fPr2 fPr 0 0 16))), (aHo, .inl (cI, 16, .inl (va_cpy fHo2 fHo 0 0 16))), (aHe, .inl (cI, 16, .inl (va_cpy fHe2 fHe 0 0 16))), (aSt, .inl (cI, 16, .inl (va_cpy fSt2 fSt 0 0 16))), (aPb, .inl (cI, 16, .inl (va_cpy fPb2 fPb 0 0 16))), (aPs, .inl (cI, 16, .inl fPs)), (aS2, .inr (4, [.int vVa2, .int vCo2, .int vBi2, .int vPh2, .ref aPr2, .ref aHo2, .ref aHe2, .ref aSt2, .ref aPb2, .ref aPs2])), (aPr2, .inl (cI, 16, .inl fPr2)), (aHo2, .inl (cI, 16, .inl fHo2)), (aHe2, .inl (cI, 16, .inl fHe2)), (aSt2, .inl (cI, 16, .inl fSt2)), (aPb2, .inl (cI, 16, .inl fPb2)), (aPs2, .inl (cI, 16, .inl fPs2))] H := hP
  have hD : va_D A [(aS, .inr (4, [.int vVa2, .int vCo2, .int vBi2, .int vPh2, .ref aPr, .ref aHo, .ref aHe, .ref aSt, .ref aPb, .ref aPs])), (aPr, .inl (cI, 16, .inl (va_cpy fPr2 fPr 0 0 16))), (aHo, .inl (cI, 16, .inl (va_cpy fHo2 fHo 0 0 16))), (aHe, .inl (cI, 16, .inl (va_cpy fHe2 fHe 0 0 16))), (aSt, .inl (cI, 16, .inl (va_cpy fSt2 fSt 0 0 16))), (aPb, .inl (cI, 16, .inl (va_cpy fPb2 fPb 0 0 16))), (aPs, .inl (cI, 16, .inl fPs)), (aS2, .inr (4, [.int vVa2, .int vCo2, .int vBi2, .int vPh2, .ref aPr2, .ref aHo2, .ref aHe2, .ref aSt2, .ref aPb2, .ref aPs2])), (aPr2, .inl (cI, 16, .inl fPr2)), (aHo2, .inl (cI, 16, .inl fHo2)), (aHe2, .inl (cI, 16, .inl fHe2)), (aSt2, .inl (cI, 16, .inl fSt2)), (aPb2, .inl (cI, 16, .inl fPb2)), (aPs2, .inl (cI, 16, .inl fPs2))] := hD
  refine lv_aload_n hx hb dX4_copyFrom_107 rfl (lv_at hl 1 rfl) ?_
  refine va_get (D := D) (ci := 4) (v := .ref aPs2) (C := RX4) (T := TX4) (N := 10) hx hb hts i4 hown hK hP 7 rfl rfl 9 (by decide) (hts (.fieldLink RX4 27 RX4 "phaseSums" "[I") (List.mem_of_getElem? (i := 14) rfl)) (fun _ h9 => h9) rfl dX4_copyFrom_108 ?_
  refine lv_iconst (v := (0 : Int32)) hx hb dX4_copyFrom_111 (by decide) ?_
  refine lv_aload_n hx hb dX4_copyFrom_112 rfl (lv_at hl 0 rfl) ?_
  refine va_get (D := D) (ci := 4) (v := .ref aPs) (C := RX4) (T := TX4) (N := 10) hx hb hts i4 hown hK hP 0 rfl rfl 9 (by decide) (hts (.fieldLink RX4 27 RX4 "phaseSums" "[I") (List.mem_of_getElem? (i := 14) rfl)) (fun _ h9 => h9) rfl dX4_copyFrom_113 ?_
  refine lv_iconst (v := (0 : Int32)) hx hb dX4_copyFrom_116 (by decide) ?_
  refine lv_bipush (v := (16 : Int32)) hx hb dX4_copyFrom_117 (by decide) ?_
  refine va_copyi hx hb (hml.trans hl.1.symm) hown (hts (.methodLink RX4 48 arraycopyName) (List.mem_of_getElem? (i := 6) rfl)) (hts (.native arraycopyName) (List.mem_of_getElem? (i := 7) rfl)) (hts (.static arraycopyName) (List.mem_of_getElem? (i := 8) rfl)) (hts (.initialized "java/lang/System") (List.mem_of_getElem? (i := 9) rfl)) hK hP hD hS 13 6 0 0 (ty := .int) rfl rfl rfl rfl rfl (by decide) (by decide) (by decide) (by decide) (by decide) (fun _ _ => rfl) (Nat.le_of_ble_eq_true rfl) (Nat.le_of_ble_eq_true rfl) dX4_copyFrom_119 (fun H locs hP hD hS => ?_)
  have hP : va_P D vwCl [(aS, .inr (4, [.int vVa2, .int vCo2, .int vBi2, .int vPh2, .ref aPr, .ref aHo, .ref aHe, .ref aSt, .ref aPb, .ref aPs])), (aPr, .inl (cI, 16, .inl (va_cpy fPr2 fPr 0 0 16))), (aHo, .inl (cI, 16, .inl (va_cpy fHo2 fHo 0 0 16))), (aHe, .inl (cI, 16, .inl (va_cpy fHe2 fHe 0 0 16))), (aSt, .inl (cI, 16, .inl (va_cpy fSt2 fSt 0 0 16))), (aPb, .inl (cI, 16, .inl (va_cpy fPb2 fPb 0 0 16))), (aPs, .inl (cI, 16, .inl (va_cpy fPs2 fPs 0 0 16))), (aS2, .inr (4, [.int vVa2, .int vCo2, .int vBi2, .int vPh2, .ref aPr2, .ref aHo2, .ref aHe2, .ref aSt2, .ref aPb2, .ref aPs2])), (aPr2, .inl (cI, 16, .inl fPr2)), (aHo2, .inl (cI, 16, .inl fHo2)), (aHe2, .inl (cI, 16, .inl fHe2)), (aSt2, .inl (cI, 16, .inl fSt2)), (aPb2, .inl (cI, 16, .inl fPb2)), (aPs2, .inl (cI, 16, .inl fPs2))] H := hP
  have hD : va_D A [(aS, .inr (4, [.int vVa2, .int vCo2, .int vBi2, .int vPh2, .ref aPr, .ref aHo, .ref aHe, .ref aSt, .ref aPb, .ref aPs])), (aPr, .inl (cI, 16, .inl (va_cpy fPr2 fPr 0 0 16))), (aHo, .inl (cI, 16, .inl (va_cpy fHo2 fHo 0 0 16))), (aHe, .inl (cI, 16, .inl (va_cpy fHe2 fHe 0 0 16))), (aSt, .inl (cI, 16, .inl (va_cpy fSt2 fSt 0 0 16))), (aPb, .inl (cI, 16, .inl (va_cpy fPb2 fPb 0 0 16))), (aPs, .inl (cI, 16, .inl (va_cpy fPs2 fPs 0 0 16))), (aS2, .inr (4, [.int vVa2, .int vCo2, .int vBi2, .int vPh2, .ref aPr2, .ref aHo2, .ref aHe2, .ref aSt2, .ref aPb2, .ref aPs2])), (aPr2, .inl (cI, 16, .inl fPr2)), (aHo2, .inl (cI, 16, .inl fHo2)), (aHe2, .inl (cI, 16, .inl fHe2)), (aSt2, .inl (cI, 16, .inl fSt2)), (aPb2, .inl (cI, 16, .inl fPb2)), (aPs2, .inl (cI, 16, .inl fPs2))] := hD
  exact hret vVa2 vCo2 vBi2 vPh2 (va_cpy fPr2 fPr 0 0 16) (va_cpy fHo2 fHo 0 0 16) (va_cpy fHe2 fHe 0 0 16) (va_cpy fSt2 fSt 0 0 16) (va_cpy fPb2 fPb 0 0 16) (va_cpy fPs2 fPs 0 0 16) 122 ls H locs dX4_copyFrom_122 hP hD hS h
def fX4_isDone (vVa : Int32) (vCo : Int32) : Option (Int32) :=
  if vVa = 0 then
    some (0 : Int32)
  else
    if vCo = 0 then
      some (0 : Int32)
    else
      some (1 : Int32)
abbrev rX4_isDone : Room := { frames := 0, cells := 0, slots := 0, locals := 0 }
set_option maxHeartbeats 4000000 in
set_option maxRecDepth 100000 in
theorem tX4_isDone {l : Launch} {D : va_G} {cI cZ cP : ClassId} (aS aPr aHo aHe aSt aPb aPs : Nat) (vVa : Int32) (vCo : Int32) (vBi : Int32) (vPh : Int32) (r : Int32) (h : fX4_isDone vVa vCo = some r) : CtI l D cI cZ cP yX4_isDone wsX4_isDone rX4_isDone [.ref aS] [(aS, .inr (4, [.int vVa, .int vCo, .int vBi, .int vPh, .ref aPr, .ref aHo, .ref aHe, .ref aSt, .ref aPb, .ref aPs]))] (fun _ : Unit => [(aS, .inr (4, [.int vVa, .int vCo, .int vBi, .int vPh, .ref aPr, .ref aHo, .ref aHe, .ref aSt, .ref aPb, .ref aPs]))]) r := by
  refine CtI.ofW (cc := cX4_isDone) (maxL := 1) (by decide) rfl (Nat.le_of_ble_eq_true rfl) (lv := [(0, .ref aS)]) rfl ?_
  intro p e s m args below meth c A Q ls hx hb hml hown hts hK hN hP hD hS hA hl hret0
  have hown : s.vm.findClass RX4 = some m.cls := hown
  have i4 : ∀ w ∈ wsX40, w ∈ wsX4_isDone := mem_ps [3, 4, 5, 6, 7, 8, 9, 10, 11, 12] rfl
  have hret : ∀ (v : Int32) (pc : Nat) (ls : Array Slot) (H : Heap) (locs : List Loc), narrow .boolean (.int v) = .int v → decode cX4_isDone pc = .ok (.ireturn, 1) → va_P D vwCl [(aS, .inr (4, [.int vVa, .int vCo, .int vBi, .int vPh, .ref aPr, .ref aHo, .ref aHe, .ref aSt, .ref aPb, .ref aPs]))] H → va_D A [(aS, .inr (4, [.int vVa, .int vCo, .int vBi, .int vPh, .ref aPr, .ref aHo, .ref aHe, .ref aSt, .ref aPb, .ref aPs]))] → va_S A s.heap H locs → some v = some r → W p l e rX4_isDone s m args below meth c H locs 0 0 Q (F0 m pc ls [.int v]) := by
    intro v pc ls H locs hn hd hP hD hS h
    cases h
    exact hret0 pc ls H locs () hn hd hP hD hS
  clear hret0
  unfold fX4_isDone at h
  obtain ⟨H, hH⟩ : ∃ H, H = s.heap := ⟨_, rfl⟩
  have hP : va_P D vwCl [(aS, .inr (4, [.int vVa, .int vCo, .int vBi, .int vPh, .ref aPr, .ref aHo, .ref aHe, .ref aSt, .ref aPb, .ref aPs]))] H := by rw [hH]; exact hP
  obtain ⟨locs, hlocs⟩ : ∃ x : List Loc, x = [] := ⟨_, rfl⟩
  have hS : va_S A s.heap H locs := by rw [hH, hlocs]; exact hS
  suffices hgo : W p l e rX4_isDone s m args below meth c H locs 0 0 Q (F0 m 0 ls []) by rw [hH, hlocs] at hgo; exact hgo
  refine lv_aload_n hx hb dX4_isDone_0 rfl (lv_at hl 0 rfl) ?_
  refine va_get (D := D) (ci := 4) (v := .int vVa) (C := RX4) (T := TX4) (N := 10) hx hb hts i4 hown hK hP 0 rfl rfl 0 (by decide) (hts (.fieldLink RX4 30 RX4 "valid" "Z") (List.mem_of_getElem? (i := 1) rfl)) (fun _ h9 => h9) rfl dX4_isDone_1 ?_
  refine lv_if_eq (tgt := 18) hx hb dX4_isDone_4 (by decide) (fun c1 => ?_) (fun c1 => ?_)
  · have h := (if_pos c1).symm.trans h
    refine lv_iconst (v := (0 : Int32)) hx hb dX4_isDone_18 (by decide) ?_
    exact hret (0 : Int32) 19 ls H locs rfl dX4_isDone_19 hP hD hS h
  · have h := (if_neg c1).symm.trans h
    refine lv_aload_n hx hb dX4_isDone_7 rfl (lv_at hl 0 rfl) ?_
    refine va_get (D := D) (ci := 4) (v := .int vCo) (C := RX4) (T := TX4) (N := 10) hx hb hts i4 hown hK hP 0 rfl rfl 1 (by decide) (hts (.fieldLink RX4 34 RX4 "content" "Z") (List.mem_of_getElem? (i := 2) rfl)) (fun _ h9 => h9) rfl dX4_isDone_8 ?_
    refine lv_if_eq (tgt := 18) hx hb dX4_isDone_11 (by decide) (fun c2 => ?_) (fun c2 => ?_)
    · have h := (if_pos c2).symm.trans h
      refine lv_iconst (v := (0 : Int32)) hx hb dX4_isDone_18 (by decide) ?_
      exact hret (0 : Int32) 19 ls H locs rfl dX4_isDone_19 hP hD hS h
    · have h := (if_neg c2).symm.trans h
      refine lv_iconst (v := (1 : Int32)) hx hb dX4_isDone_14 (by decide) ?_
      refine lv_goto (tgt := 19) hx hb dX4_isDone_15 (by decide) ?_
      exact hret (1 : Int32) 19 ls H locs rfl dX4_isDone_19 hP hD hS h
def fX4_hasPhase (vPh : Int32) (x1 : Int32) : Option (Int32) :=
  if x1 < 0 then
    some (0 : Int32)
  else
    if vPh ≤ x1 then
      some (0 : Int32)
    else
      if (16 : Int32) ≤ x1 then
        some (0 : Int32)
      else
        some (1 : Int32)
abbrev rX4_hasPhase : Room := { frames := 0, cells := 0, slots := 0, locals := 0 }
set_option maxHeartbeats 4000000 in
set_option maxRecDepth 100000 in
theorem tX4_hasPhase {l : Launch} {D : va_G} {cI cZ cP : ClassId} (aS aPr aHo aHe aSt aPb aPs : Nat) (vVa : Int32) (vCo : Int32) (vBi : Int32) (vPh : Int32) (x1 : Int32) (r : Int32) (h : fX4_hasPhase vPh x1 = some r) : CtI l D cI cZ cP yX4_hasPhase wsX4_hasPhase rX4_hasPhase [.ref aS, .int x1] [(aS, .inr (4, [.int vVa, .int vCo, .int vBi, .int vPh, .ref aPr, .ref aHo, .ref aHe, .ref aSt, .ref aPb, .ref aPs]))] (fun _ : Unit => [(aS, .inr (4, [.int vVa, .int vCo, .int vBi, .int vPh, .ref aPr, .ref aHo, .ref aHe, .ref aSt, .ref aPb, .ref aPs]))]) r := by
  refine CtI.ofW (cc := cX4_hasPhase) (maxL := 2) (by decide) rfl (Nat.le_of_ble_eq_true rfl) (lv := [(0, .ref aS), (1, .int x1)]) rfl ?_
  intro p e s m args below meth c A Q ls hx hb hml hown hts hK hN hP hD hS hA hl hret0
  have hown : s.vm.findClass RX4 = some m.cls := hown
  have i4 : ∀ w ∈ wsX40, w ∈ wsX4_hasPhase := mem_ps [2, 3, 4, 5, 6, 7, 8, 9, 10, 11] rfl
  have hret : ∀ (v : Int32) (pc : Nat) (ls : Array Slot) (H : Heap) (locs : List Loc), narrow .boolean (.int v) = .int v → decode cX4_hasPhase pc = .ok (.ireturn, 1) → va_P D vwCl [(aS, .inr (4, [.int vVa, .int vCo, .int vBi, .int vPh, .ref aPr, .ref aHo, .ref aHe, .ref aSt, .ref aPb, .ref aPs]))] H → va_D A [(aS, .inr (4, [.int vVa, .int vCo, .int vBi, .int vPh, .ref aPr, .ref aHo, .ref aHe, .ref aSt, .ref aPb, .ref aPs]))] → va_S A s.heap H locs → some v = some r → W p l e rX4_hasPhase s m args below meth c H locs 0 0 Q (F0 m pc ls [.int v]) := by
    intro v pc ls H locs hn hd hP hD hS h
    cases h
    exact hret0 pc ls H locs () hn hd hP hD hS
  clear hret0
  unfold fX4_hasPhase at h
  obtain ⟨H, hH⟩ : ∃ H, H = s.heap := ⟨_, rfl⟩
  have hP : va_P D vwCl [(aS, .inr (4, [.int vVa, .int vCo, .int vBi, .int vPh, .ref aPr, .ref aHo, .ref aHe, .ref aSt, .ref aPb, .ref aPs]))] H := by rw [hH]; exact hP
  obtain ⟨locs, hlocs⟩ : ∃ x : List Loc, x = [] := ⟨_, rfl⟩
  have hS : va_S A s.heap H locs := by rw [hH, hlocs]; exact hS
  suffices hgo : W p l e rX4_hasPhase s m args below meth c H locs 0 0 Q (F0 m 0 ls []) by rw [hH, hlocs] at hgo; exact hgo
  refine lv_iload_n hx hb dX4_hasPhase_0 rfl (lv_at hl 1 rfl) ?_
  refine lv_if_lt (tgt := 22) hx hb dX4_hasPhase_1 (by decide) (fun c1 => ?_) (fun c1 => ?_)
  · have h := (if_pos c1).symm.trans h
    refine lv_iconst (v := (0 : Int32)) hx hb dX4_hasPhase_22 (by decide) ?_
    exact hret (0 : Int32) 23 ls H locs rfl dX4_hasPhase_23 hP hD hS h
  · have h := (if_neg c1).symm.trans h
    refine lv_iload_n hx hb dX4_hasPhase_4 rfl (lv_at hl 1 rfl) ?_
    refine lv_aload_n hx hb dX4_hasPhase_5 rfl (lv_at hl 0 rfl) ?_
    refine va_get (D := D) (ci := 4) (v := .int vPh) (C := RX4) (T := TX4) (N := 10) hx hb hts i4 hown hK hP 0 rfl rfl 3 (by decide) (hts (.fieldLink RX4 37 RX4 "phases" "I") (List.mem_of_getElem? (i := 1) rfl)) (fun _ h9 => h9) rfl dX4_hasPhase_6 ?_
    refine lv_icmp_ge (tgt := 22) hx hb dX4_hasPhase_9 (by decide) (fun c2 => ?_) (fun c2 => ?_)
    · have h := (if_pos c2).symm.trans h
      refine lv_iconst (v := (0 : Int32)) hx hb dX4_hasPhase_22 (by decide) ?_
      exact hret (0 : Int32) 23 ls H locs rfl dX4_hasPhase_23 hP hD hS h
    · have h := (if_neg c2).symm.trans h
      refine lv_iload_n hx hb dX4_hasPhase_12 rfl (lv_at hl 1 rfl) ?_
      refine lv_bipush (v := (16 : Int32)) hx hb dX4_hasPhase_13 (by decide) ?_
      refine lv_icmp_ge (tgt := 22) hx hb dX4_hasPhase_15 (by decide) (fun c3 => ?_) (fun c3 => ?_)
      · have h := (if_pos c3).symm.trans h
        refine lv_iconst (v := (0 : Int32)) hx hb dX4_hasPhase_22 (by decide) ?_
        exact hret (0 : Int32) 23 ls H locs rfl dX4_hasPhase_23 hP hD hS h
      · have h := (if_neg c3).symm.trans h
        refine lv_iconst (v := (1 : Int32)) hx hb dX4_hasPhase_18 (by decide) ?_
        refine lv_goto (tgt := 23) hx hb dX4_hasPhase_19 (by decide) ?_
        exact hret (1 : Int32) 23 ls H locs rfl dX4_hasPhase_23 hP hD hS h
