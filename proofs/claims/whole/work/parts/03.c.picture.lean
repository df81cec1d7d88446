def fX3_apart (vMo : Int32) (vKn : Int32) (fKd : Nat → Int32) (vCn : Int32) (fCd : Nat → Int32) (x1 : Int32) (x2 : Int32) : Option (Int32) :=
  bd1 (fX1_has vCn x1) fun r_5 =>
  if r_5 = 0 then
    some (0 : Int32)
  else
    bd1 (fX2_has vKn x2) fun r_16 =>
    if r_16 = 0 then
      some (0 : Int32)
    else
      if x1 < 0 ∨ 12 ≤ x1.toNatClampNeg then none else
      if x2 < 0 ∨ 8 ≤ x2.toNatClampNeg then none else
      bd1 (fX5_dotsApart (fCd x1.toNatClampNeg) (fKd x2.toNatClampNeg) vMo) fun r_46 =>
      some r_46
abbrev rX3_apart : Room := { frames := 2, cells := 0, slots := 0, locals := 40 }
set_option maxHeartbeats 4000000 in
set_option maxRecDepth 100000 in
theorem tX3_apart {l : Launch} {D : va_G} {cI cZ cP : ClassId} (aP aK aKd aC aCd aS aKs : Nat) (vMo : Int32) (vSh : Int32) (vKn : Int32) (fKd : Nat → Int32) (vCn : Int32) (fCd : Nat → Int32) (x1 : Int32) (x2 : Int32) (r : Int32) (h : fX3_apart vMo vKn fKd vCn fCd x1 x2 = some r) : CtI l D cI cZ cP yX3_apart wsX3_apart rX3_apart [.ref aP, .int x1, .int x2] [(aP, .inr (3, [.int vMo, .int vSh, .ref aK, .ref aC, .ref aS])), (aK, .inr (2, [.int vKn, .ref aKd, .ref aKs])), (aKd, .inl (cI, 8, .inl fKd)), (aC, .inr (1, [.int vCn, .ref aCd])), (aCd, .inl (cI, 12, .inl fCd))] (fun _ : Unit => [(aP, .inr (3, [.int vMo, .int vSh, .ref aK, .ref aC, .ref aS])), (aK, .inr (2, [.int vKn, .ref aKd, .ref aKs])), (aKd, .inl (cI, 8, .inl fKd)), (aC, .inr (1, [.int vCn, .ref aCd])), (aCd, .inl (cI, 12, .inl fCd))]) r := by
  refine CtI.ofW (cc := cX3_apart) (maxL := 3) (by decide) rfl (Nat.le_of_ble_eq_true rfl) (lv := [(0, .ref aP), (1, .int x1), (2, .int x2)]) rfl ?_
  intro p e s m args below meth c A Q ls hx hb hml hown hts hK hN hP hD hS hA hl hret0
  have hown : s.vm.findClass RX3 = some m.cls := hown
  have i1 : ∀ w ∈ wsX10, w ∈ wsX3_apart := mem_ps [26, 27] rfl
  have i2 : ∀ w ∈ wsX20, w ∈ wsX3_apart := mem_ps [28, 29, 30] rfl
  have i3 : ∀ w ∈ wsX30, w ∈ wsX3_apart := mem_ps [21, 22, 23, 24, 25] rfl
  have hret : ∀ (v : Int32) (pc : Nat) (ls : Array Slot) (H : Heap) (locs : List Loc), narrow .int (.int v) = .int v → decode cX3_apart pc = .ok (.ireturn, 1) → va_P D vwCl [(aP, .inr (3, [.int vMo, .int vSh, .ref aK, .ref aC, .ref aS])), (aK, .inr (2, [.int vKn, .ref aKd, .ref aKs])), (aKd, .inl (cI, 8, .inl fKd)), (aC, .inr (1, [.int vCn, .ref aCd])), (aCd, .inl (cI, 12, .inl fCd))] H → va_D A [(aP, .inr (3, [.int vMo, .int vSh, .ref aK, .ref aC, .ref aS])), (aK, .inr (2, [.int vKn, .ref aKd, .ref aKs])), (aKd, .inl (cI, 8, .inl fKd)), (aC, .inr (1, [.int vCn, .ref aCd])), (aCd, .inl (cI, 12, .inl fCd))] → va_S A s.heap H locs → some v = some r → W p l e rX3_apart s m args below meth c H locs 0 0 Q (F0 m pc ls [.int v]) := by
    intro v pc ls H locs hn hd hP hD hS h
    cases h
    exact hret0 pc ls H locs () hn hd hP hD hS
  clear hret0
  unfold fX3_apart at h
  obtain ⟨H, hH⟩ : ∃ H, H = s.heap := ⟨_, rfl⟩
  have hP : va_P D vwCl [(aP, .inr (3, [.int vMo, .int vSh, .ref aK, .ref aC, .ref aS])), (aK, .inr (2, [.int vKn, .ref aKd, .ref aKs])), (aKd, .inl (cI, 8, .inl fKd)), (aC, .inr (1, [.int vCn, .ref aCd])), (aCd, .inl (cI, 12, .inl fCd))] H := by rw [hH]; exact hP
  obtain ⟨locs, hlocs⟩ : ∃ x : List Loc, x = [] := ⟨_, rfl⟩
  have hS : va_S A s.heap H locs := by rw [hH, hlocs]; exact hS
  suffices hgo : W p l e rX3_apart s m args below meth c H locs 0 0 Q (F0 m 0 ls []) by rw [hH, hlocs] at hgo; exact hgo
  refine lv_aload_n hx hb dX3_apart_0 rfl (lv_at hl 0 rfl) ?_
  refine va_get (D := D) (ci := 3) (v := .ref aC) (C := RX3) (T := TX3) (N := 5) hx hb hts i3 hown hK hP 0 rfl rfl 3 (by decide) (hts (.fieldLink RX3 28 RX3 "cells" "LBidMosaic$Cells;") (List.mem_of_getElem? (i := 1) rfl)) (fun _ h9 => h9) rfl dX3_apart_1 ?_
  refine lv_iload_n hx hb dX3_apart_4 rfl (lv_at hl 1 rfl) ?_
  obtain ⟨r_5, q_5, h⟩ := bd1_some h
  refine fr_ro_i (S := Unit) (wc := [(aC, .inr (1, [.int vCn, .ref aCd]))]) (fr_VN (As := [.int x1]) (rest := []) (own := RX3) (host := RX5) (C := RX1) ⟨hx, hb, hml, hown, hts⟩ hN (tX1_has aC aCd vCn x1 r_5 q_5) gX3_apart_X1_has_n39 rfl (nx_mem (i := 282) (by decide +kernel) rfl) (List.mem_of_getElem? (i := 5) rfl) (List.mem_of_getElem? (i := 4) rfl) (List.mem_of_getElem? (i := 6) rfl) (fr_preV (As := [.int x1]) (b := aC) (ci := 1) (q0 := 3) (wc := [(aC, .inr (1, [.int vCn, .ref aCd]))]) hK hN hP hD [3] (by decide) rfl rfl rfl) (n := 1) (by decide +kernel) ⟨Nat.le_of_ble_eq_true rfl, Nat.le_of_ble_eq_true rfl⟩ rfl hl.1 rfl (Nat.le_of_ble_eq_true rfl) dX3_apart_5 ⟨Nat.zero_le _, Nat.zero_le _⟩) hP hD hS hA [3] rfl (c2 := 0) (s2 := 0) rfl rfl (fun H locs hP hS => ?_)
  refine lv_if_eq (tgt := 22) hx hb dX3_apart_8 (by decide) (fun c1 => ?_) (fun c1 => ?_)
  · have h := (if_pos c1).symm.trans h
    refine lv_iconst (v := (0 : Int32)) hx hb dX3_apart_22 (by decide) ?_
    exact hret (0 : Int32) 23 ls H locs rfl dX3_apart_23 hP hD hS h
  · have h := (if_neg c1).symm.trans h
    refine lv_aload_n hx hb dX3_apart_11 rfl (lv_at hl 0 rfl) ?_
    refine va_get (D := D) (ci := 3) (v := .ref aK) (C := RX3) (T := TX3) (N := 5) hx hb hts i3 hown hK hP 0 rfl rfl 2 (by decide) (hts (.fieldLink RX3 21 RX3 "kinds" "LBidMosaic$Kinds;") (List.mem_of_getElem? (i := 2) rfl)) (fun _ h9 => h9) rfl dX3_apart_12 ?_
    refine lv_iload_n hx hb dX3_apart_15 rfl (lv_at hl 2 rfl) ?_
    obtain ⟨r_16, q_16, h⟩ := bd1_some h
    refine fr_ro_i (S := Unit) (wc := [(aK, .inr (2, [.int vKn, .ref aKd, .ref aKs]))]) (fr_VN (As := [.int x2]) (rest := []) (own := RX3) (host := RX5) (C := RX2) ⟨hx, hb, hml, hown, hts⟩ hN (tX2_has aK aKd aKs vKn x2 r_16 q_16) gX3_apart_X2_has_n43 rfl (nx_mem (i := 283) (by decide +kernel) rfl) (List.mem_of_getElem? (i := 10) rfl) (List.mem_of_getElem? (i := 9) rfl) (List.mem_of_getElem? (i := 11) rfl) (fr_preV (As := [.int x2]) (b := aK) (ci := 2) (q0 := 1) (wc := [(aK, .inr (2, [.int vKn, .ref aKd, .ref aKs]))]) hK hN hP hD [1] (by decide) rfl rfl rfl) (n := 1) (by decide +kernel) ⟨Nat.le_of_ble_eq_true rfl, Nat.le_of_ble_eq_true rfl⟩ rfl hl.1 rfl (Nat.le_of_ble_eq_true rfl) dX3_apart_16 ⟨Nat.zero_le _, Nat.zero_le _⟩) hP hD hS hA [1] rfl (c2 := 0) (s2 := 0) rfl rfl (fun H locs hP hS => ?_)
    refine lv_if_ne (tgt := 24) hx hb dX3_apart_19 (by decide) (fun c2 => ?_) (fun c2 => ?_)
    · have h := (if_neg c2).symm.trans h
      refine lv_aload_n hx hb dX3_apart_24 rfl (lv_at hl 0 rfl) ?_
      refine va_get (D := D) (ci := 3) (v := .ref aC) (C := RX3) (T := TX3) (N := 5) hx hb hts i3 hown hK hP 0 rfl rfl 3 (by decide) (hts (.fieldLink RX3 28 RX3 "cells" "LBidMosaic$Cells;") (List.mem_of_getElem? (i := 1) rfl)) (fun _ h9 => h9) rfl dX3_apart_25 ?_
      refine va_getN (D := D) (ci := 1) (v := .ref aCd) (C := RX1) (T := TX1) (N := 2) hx hb hts i1 hown hK hP 3 rfl rfl 1 (by decide) (hN.f (a := RX3) (i := 44) (b := RX1) (n := "dots") (d := "[I") (h := RX5) (nx_mem (i := 62) (by decide +kernel) rfl)) (fun _ h9 => h9) rfl dX3_apart_28 ?_
      refine lv_iload_n hx hb dX3_apart_31 rfl (lv_at hl 1 rfl) ?_
      obtain ⟨g3, h⟩ := no_some h
      refine va_iald hx hb hK hP 4 0 rfl rfl g3 dX3_apart_32 ?_
      refine lv_aload_n hx hb dX3_apart_33 rfl (lv_at hl 0 rfl) ?_
      refine va_get (D := D) (ci := 3) (v := .ref aK) (C := RX3) (T := TX3) (N := 5) hx hb hts i3 hown hK hP 0 rfl rfl 2 (by decide) (hts (.fieldLink RX3 21 RX3 "kinds" "LBidMosaic$Kinds;") (List.mem_of_getElem? (i := 2) rfl)) (fun _ h9 => h9) rfl dX3_apart_34 ?_
      refine va_getN (D := D) (ci := 2) (v := .ref aKd) (C := RX2) (T := TX2) (N := 3) hx hb hts i2 hown hK hP 1 rfl rfl 1 (by decide) (hN.f (a := RX3) (i := 48) (b := RX2) (n := "dots") (d := "[I") (h := RX5) (nx_mem (i := 40) (by decide +kernel) rfl)) (fun _ h9 => h9) rfl dX3_apart_37 ?_
      refine lv_iload_n hx hb dX3_apart_40 rfl (lv_at hl 2 rfl) ?_
      obtain ⟨g4, h⟩ := no_some h
      refine va_iald hx hb hK hP 2 0 rfl rfl g4 dX3_apart_41 ?_
      refine lv_aload_n hx hb dX3_apart_42 rfl (lv_at hl 0 rfl) ?_
      refine va_get (D := D) (ci := 3) (v := .int vMo) (C := RX3) (T := TX3) (N := 5) hx hb hts i3 hown hK hP 0 rfl rfl 0 (by decide) (hts (.fieldLink RX3 9 RX3 "mode" "I") (List.mem_of_getElem? (i := 3) rfl)) (fun _ h9 => h9) rfl dX3_apart_43 ?_
      obtain ⟨r_46, q_46, h⟩ := bd1_some h
      refine fr_ro_i (S := Unit) (wc := []) (fr_SN (As := [.int (fCd x1.toNatClampNeg), .int (fKd x2.toNatClampNeg), .int vMo]) (rest := []) (own := RX3) (host := RX5) ⟨hx, hb, hml, hown, hts⟩ hN (tX5_dotsApart (fCd x1.toNatClampNeg) (fKd x2.toNatClampNeg) vMo r_46 q_46) gX3_apart_X5_dotsApart_n49 rfl (nx_mem (i := 284) (by decide +kernel) rfl) (List.mem_of_getElem? (i := 15) rfl) (List.mem_of_getElem? (i := 14) rfl) (fr_pre (As := [.int (fCd x1.toNatClampNeg), .int (fKd x2.toNatClampNeg), .int vMo]) (wc := []) hK hN hP hD [] (by decide) rfl) (n := 3) (by decide +kernel) ⟨Nat.le_of_ble_eq_true rfl, Nat.le_of_ble_eq_true rfl⟩ rfl hl.1 rfl (Nat.le_of_ble_eq_true rfl) dX3_apart_46 ⟨Nat.zero_le _, Nat.zero_le _⟩) hP hD hS hA [] rfl (c2 := 0) (s2 := 0) rfl rfl (fun H locs hP hS => ?_)
      exact hret r_46 49 ls H locs rfl dX3_apart_49 hP hD hS h
    · have h := (if_pos c2).symm.trans h
      refine lv_iconst (v := (0 : Int32)) hx hb dX3_apart_22 (by decide) ?_
      exact hret (0 : Int32) 23 ls H locs rfl dX3_apart_23 hP hD hS h
def fX3_greatestDifference_b17 (vMo : Int32) (vKn : Int32) (fKd : Nat → Int32) (vCn : Int32) (fCd : Nat → Int32) (k4 : Int32 → Int32 → Option (Int32)) : Nat → Int32 → Int32 → Int32 → Option (Int32)
  | 0, _, _, _ => none
  | n + 1, x1, x2, x3 =>
    if vKn ≤ x3 then
      k4 x1 (x2 + 1)
    else
      bd1 (fX3_apart vMo vKn fKd vCn fCd x2 x3) fun r_32 =>
      bdv (if x1 < r_32 then r_32 else x1) fun x_35 =>
      fX3_greatestDifference_b17 vMo vKn fKd vCn fCd k4 n x_35 x2 (x3 + 1)
def fX3_greatestDifference_b4 (vMo : Int32) (vKn : Int32) (fKd : Nat → Int32) (vCn : Int32) (fCd : Nat → Int32) : Nat → Int32 → Int32 → Option (Int32)
  | 0, _, _ => none
  | n + 1, x1, x2 =>
    if vCn ≤ x2 then
      some x1
    else
      fX3_greatestDifference_b17 vMo vKn fKd vCn fCd (fun x1 x2 => fX3_greatestDifference_b4 vMo vKn fKd vCn fCd n x1 x2) FU x1 x2 (0 : Int32)
def fX3_greatestDifference (vMo : Int32) (vKn : Int32) (fKd : Nat → Int32) (vCn : Int32) (fCd : Nat → Int32) : Option (Int32) :=
  fX3_greatestDifference_b4 vMo vKn fKd vCn fCd FU (0 : Int32) (0 : Int32)
abbrev rX3_greatestDifference : Room := { frames := 3, cells := 0, slots := 0, locals := 62 }
set_option maxHeartbeats 4000000 in
set_option maxRecDepth 100000 in
theorem tX3_greatestDifference {l : Launch} {D : va_G} {cI cZ cP : ClassId} (aP aK aKd aC aCd aS aKs : Nat) (vMo : Int32) (vSh : Int32) (vKn : Int32) (fKd : Nat → Int32) (vCn : Int32) (fCd : Nat → Int32) (r : Int32) (h : fX3_greatestDifference vMo vKn fKd vCn fCd = some r) : CtI l D cI cZ cP yX3_greatestDifference wsX3_greatestDifference rX3_greatestDifference [.ref aP] [(aP, .inr (3, [.int vMo, .int vSh, .ref aK, .ref aC, .ref aS])), (aK, .inr (2, [.int vKn, .ref aKd, .ref aKs])), (aKd, .inl (cI, 8, .inl fKd)), (aC, .inr (1, [.int vCn, .ref aCd])), (aCd, .inl (cI, 12, .inl fCd))] (fun _ : Unit => [(aP, .inr (3, [.int vMo, .int vSh, .ref aK, .ref aC, .ref aS])), (aK, .inr (2, [.int vKn, .ref aKd, .ref aKs])), (aKd, .inl (cI, 8, .inl fKd)), (aC, .inr (1, [.int vCn, .ref aCd])), (aCd, .inl (cI, 12, .inl fCd))]) r := by
  refine CtI.ofW (cc := cX3_greatestDifference) (maxL := 4) (by decide) rfl (Nat.le_of_ble_eq_true rfl) (lv := [(0, .ref aP)]) rfl ?_
  intro p e s m args below meth c A Q ls hx hb hml hown hts hK hN hP hD hS hA hl hret0
  have hown : s.vm.findClass RX3 = some m.cls := hown
  have i1 : ∀ w ∈ wsX10, w ∈ wsX3_greatestDifference := mem_ps [34, 35] rfl
  have i2 : ∀ w ∈ wsX20, w ∈ wsX3_greatestDifference := mem_ps [36, 37, 38] rfl
  have i3 : ∀ w ∈ wsX30, w ∈ wsX3_greatestDifference := mem_ps [29, 30, 31, 32, 33] rfl
  have hret : ∀ (v : Int32) (pc : Nat) (ls : Array Slot) (H : Heap) (locs : List Loc), narrow .int (.int v) = .int v → decode cX3_greatestDifference pc = .ok (.ireturn, 1) → va_P D vwCl [(aP, .inr (3, [.int vMo, .int vSh, .ref aK, .ref aC, .ref aS])), (aK, .inr (2, [.int vKn, .ref aKd, .ref aKs])), (aKd, .inl (cI, 8, .inl fKd)), (aC, .inr (1, [.int vCn, .ref aCd])), (aCd, .inl (cI, 12, .inl fCd))] H → va_D A [(aP, .inr (3, [.int vMo, .int vSh, .ref aK, .ref aC, .ref aS])), (aK, .inr (2, [.int vKn, .ref aKd, .ref aKs])), (aKd, .inl (cI, 8, .inl fKd)), (aC, .inr (1, [.int vCn, .ref aCd])), (aCd, .inl (cI, 12, .inl fCd))] → va_S A s.heap H locs → some v = some r → W p l e rX3_greatestDifference s m args below meth c H locs 0 0 Q (F0 m pc ls [.int v]) := by
    intro v pc ls H locs hn hd hP hD hS h
    cases h
    exact hret0 pc ls H locs () hn hd hP hD hS
  clear hret0
  have hb17 : ∀ (k4 : Int32 → Int32 → Option (Int32)) (hk4 : ∀ (x1 : Int32) (x2 : Int32) (H : Heap) (locs : List Loc) (ls : Array Slot), va_P D vwCl [(aP, .inr (3, [.int vMo, .int vSh, .ref aK, .ref aC, .ref aS])), (aK, .inr (2, [.int vKn, .ref aKd, .ref aKs])), (aKd, .inl (cI, 8, .inl fKd)), (aC, .inr (1, [.int vCn, .ref aCd])), (aCd, .inl (cI, 12, .inl fCd))] H → va_D A [(aP, .inr (3, [.int vMo, .int vSh, .ref aK, .ref aC, .ref aS])), (aK, .inr (2, [.int vKn, .ref aKd, .ref aKs])), (aKd, .inl (cI, 8, .inl fKd)), (aC, .inr (1, [.int vCn, .ref aCd])), (aCd, .inl (cI, 12, .inl fCd))] → va_S A s.heap H locs → lv_has ls 4 [(0, .ref aP), (1, .int x1), (2, .int x2)] → k4 x1 x2 = some r → W p l e rX3_greatestDifference s m args below meth c H locs 0 0 Q (F0 m 4 ls [])) (n : Nat) (x1 : Int32) (x2 : Int32) (x3 : Int32) (H : Heap) (locs : List Loc) (ls : Array Slot), va_P D vwCl [(aP, .inr (3, [.int vMo, .int vSh, .ref aK, .ref aC, .ref aS])), (aK, .inr (2, [.int vKn, .ref aKd, .ref aKs])), (aKd, .inl (cI, 8, .inl fKd)), (aC, .inr (1, [.int vCn, .ref aCd])), (aCd, .inl (cI, 12, .inl fCd))] H → va_D A [(aP, .inr (3, [.int vMo, .int vSh, .ref aK, .ref aC, .ref aS])), (aK, .inr (2, [.int vKn, .ref aKd, .ref aKs])), (aKd, .inl (cI, 8, .inl fKd)), (aC, .inr (1, [.int vCn, .ref aCd])), (aCd, .inl (cI, 12, .inl fCd))] → va_S A s.heap H locs → lv_has ls 4 [(0, .ref aP), (1, .int x1), (2, .int x2), (3, .int x3)] → fX3_greatestDifference_b17 vMo vKn fKd vCn fCd k4 n x1 x2 x3 = some r → W p l e rX3_greatestDifference s m args below meth c H locs 0 0 Q (F0 m 17 ls []) := by
    intro k4 hk4 n
    induction n with
    | zero => intro x1 x2 x3 H locs ls hP hD hS hl h; exact absurd h (by rw [fX3_greatestDifference_b17]; exact fun z => by cases z)
    | succ n ih =>
      intro x1 x2 x3 H locs ls hP hD hS hl h
      rw [fX3_greatestDifference_b17] at h
      refine lv_iload_n hx hb dX3_greatestDifference_17 rfl (lv_at hl 3 rfl) ?_
      refine lv_aload_n hx hb dX3_greatestDifference_18 rfl (lv_at hl 0 rfl) ?_
      refine va_get (D := D) (ci := 3) (v := .ref aK) (C := RX3) (T := TX3) (N := 5) hx hb hts i3 hown hK hP 0 rfl rfl 2 (by decide) (hts (.fieldLink RX3 21 RX3 "kinds" "LBidMosaic$Kinds;") (List.mem_of_getElem? (i := 2) rfl)) (fun _ h9 => h9) rfl dX3_greatestDifference_19 ?_
      refine va_getN (D := D) (ci := 2) (v := .int vKn) (C := RX2) (T := TX2) (N := 3) hx hb hts i2 hown hK hP 1 rfl rfl 0 (by decide) (hN.f (a := RX3) (i := 56) (b := RX2) (n := "count") (d := "I") (h := RX5) (nx_mem (i := 37) (by decide +kernel) rfl)) (fun _ h9 => h9) rfl dX3_greatestDifference_22 ?_
      refine lv_icmp_ge (tgt := 45) hx hb dX3_greatestDifference_25 (by decide) (fun c1 => ?_) (fun c1 => ?_)
      · have h := (if_pos c1).symm.trans h
        refine lv_iinc (v := x2 + 1) (lv' := [(2, .int (x2 + 1)), (0, .ref aP), (1, .int x1), (3, .int x3)]) hx hb dX3_greatestDifference_45 hl (k := 2) rfl rfl (by decide) rfl (fun ls hl => ?_)
        refine lv_goto (tgt := 4) hx hb dX3_greatestDifference_48 (by decide) ?_
        exact hk4 x1 (x2 + 1) H locs ls hP hD hS (lv_sub hl [1, 2, 0] rfl) h
      · have h := (if_neg c1).symm.trans h
        refine lv_iload_n hx hb dX3_greatestDifference_28 rfl (lv_at hl 1 rfl) ?_
        refine lv_aload_n hx hb dX3_greatestDifference_29 rfl (lv_at hl 0 rfl) ?_
        refine lv_iload_n hx hb dX3_greatestDifference_30 rfl (lv_at hl 2 rfl) ?_
        refine lv_iload_n hx hb dX3_greatestDifference_31 rfl (lv_at hl 3 rfl) ?_
        obtain ⟨r_32, q_32, h⟩ := bd1_some h
        refine fr_ro_i (S := Unit) (wc := [(aP, .inr (3, [.int vMo, .int vSh, .ref aK, .ref aC, .ref aS])), (aK, .inr (2, [.int vKn, .ref aKd, .ref aKs])), (aKd, .inl (cI, 8, .inl fKd)), (aC, .inr (1, [.int vCn, .ref aCd])), (aCd, .inl (cI, 12, .inl fCd))]) (fr_V (As := [.int x2, .int x3]) (rest := [.int x1]) (C := RX3) ⟨hx, hb, hml, hown, hts⟩ (tX3_apart aP aK aKd aC aCd aS aKs vMo vSh vKn fKd vCn fCd x2 x3 r_32 q_32) gX3_greatestDifference_X3_apart rfl (fr_preV (As := [.int x2, .int x3]) (b := aP) (ci := 3) (q0 := 0) (wc := [(aP, .inr (3, [.int vMo, .int vSh, .ref aK, .ref aC, .ref aS])), (aK, .inr (2, [.int vKn, .ref aKd, .ref aKs])), (aKd, .inl (cI, 8, .inl fKd)), (aC, .inr (1, [.int vCn, .ref aCd])), (aCd, .inl (cI, 12, .inl fCd))]) hK hN hP hD [0, 1, 2, 3, 4] (by decide) rfl rfl rfl) (n := 2) (by decide +kernel) ⟨Nat.le_of_ble_eq_true rfl, Nat.le_of_ble_eq_true rfl⟩ rfl hl.1 rfl (Nat.le_of_ble_eq_true rfl) dX3_greatestDifference_32 ⟨Nat.zero_le _, Nat.zero_le _⟩) hP hD hS hA [0, 1, 2, 3, 4] rfl (c2 := 0) (s2 := 0) rfl rfl (fun H locs hP hS => ?_)
        refine va_mmax hx hb (hml.trans hl.1.symm) hown (hts (.methodLink RX3 61 Lib.Math.max.name) (List.mem_of_getElem? (i := 3) rfl)) (hts (.static Lib.Math.max.name) (List.mem_of_getElem? (i := 4) rfl)) (hts (.initialized "java/lang/Math") (List.mem_of_getElem? (i := 5) rfl)) (hts (.code Lib.Math.max.name Lib.Math.max.code 2 (some .int)) (List.mem_of_getElem? (i := 6) rfl)) (Nat.le_of_ble_eq_true rfl) (Nat.le_of_ble_eq_true rfl) (Nat.zero_le _) (Nat.zero_le _) dX3_greatestDifference_35 ?_
        refine lv_topi (fun x_35 ex_35 => ?_)
        have h := bdv_some ex_35 h
        refine lv_istore_n (lv' := [(1, .int x_35), (0, .ref aP), (2, .int x2), (3, .int x3)]) hx hb dX3_greatestDifference_38 rfl hl (by decide) rfl (fun ls hl => ?_)
        refine lv_iinc (v := x3 + 1) (lv' := [(3, .int (x3 + 1)), (1, .int x_35), (0, .ref aP), (2, .int x2)]) hx hb dX3_greatestDifference_39 hl (k := 3) rfl rfl (by decide) rfl (fun ls hl => ?_)
        refine lv_goto (tgt := 17) hx hb dX3_greatestDifference_42 (by decide) ?_
        exact ih x_35 x2 (x3 + 1) H locs ls hP hD hS (lv_sub hl [2, 1, 3, 0] rfl) h
  have hb4 : ∀ (n : Nat) (x1 : Int32) (x2 : Int32) (H : Heap) (locs : List Loc) (ls : Array Slot), va_P D vwCl [(aP, .inr (3, [.int vMo, .int vSh, .ref aK, .ref aC, .ref aS])), (aK, .inr (2, [.int vKn, .ref aKd, .ref aKs])), (aKd, .inl (cI, 8, .inl fKd)), (aC, .inr (1, [.int vCn, .ref aCd])), (aCd, .inl (cI, 12, .inl fCd))] H → va_D A [(aP, .inr (3, [.int vMo, .int vSh, .ref aK, .ref aC, .ref aS])), (aK, .inr (2, [.int vKn, .ref aKd, .ref aKs])), (aKd, .inl (cI, 8, .inl fKd)), (aC, .inr (1, [.int vCn, .ref aCd])), (aCd, .inl (cI, 12, .inl fCd))] → va_S A s.heap H locs → lv_has ls 4 [(0, .ref aP), (1, .int x1), (2, .int x2)] → fX3_greatestDifference_b4 vMo vKn fKd vCn fCd n x1 x2 = some r → W p l e rX3_greatestDifference s m args below meth c H locs 0 0 Q (F0 m 4 ls []) := by
    intro n
    induction n with
    | zero => intro x1 x2 H locs ls hP hD hS hl h; exact absurd h (by rw [fX3_greatestDifference_b4]; exact fun z => by cases z)
    | succ n ih =>
      intro x1 x2 H locs ls hP hD hS hl h
      rw [fX3_greatestDifference_b4] at h
      refine lv_iload_n hx hb dX3_greatestDifference_4 rfl (lv_at hl 2 rfl) ?_
      refine lv_aload_n hx hb dX3_greatestDifference_5 rfl (lv_at hl 0 rfl) ?_
      refine va_get (D := D) (ci := 3) (v := .ref aC) (C := RX3) (T := TX3) (N := 5) hx hb hts i3 hown hK hP 0 rfl rfl 3 (by decide) (hts (.fieldLink RX3 28 RX3 "cells" "LBidMosaic$Cells;") (List.mem_of_getElem? (i := 1) rfl)) (fun _ h9 => h9) rfl dX3_greatestDifference_6 ?_
      refine va_getN (D := D) (ci := 1) (v := .int vCn) (C := RX1) (T := TX1) (N := 2) hx hb hts i1 hown hK hP 3 rfl rfl 0 (by decide) (hN.f (a := RX3) (i := 53) (b := RX1) (n := "count") (d := "I") (h := RX5) (nx_mem (i := 59) (by decide +kernel) rfl)) (fun _ h9 => h9) rfl dX3_greatestDifference_9 ?_
      refine lv_icmp_ge (tgt := 51) hx hb dX3_greatestDifference_12 (by decide) (fun c2 => ?_) (fun c2 => ?_)
      · have h := (if_pos c2).symm.trans h
        refine lv_iload_n hx hb dX3_greatestDifference_51 rfl (lv_at hl 1 rfl) ?_
        exact hret x1 52 ls H locs rfl dX3_greatestDifference_52 hP hD hS h
      · have h := (if_neg c2).symm.trans h
        refine lv_iconst (v := (0 : Int32)) hx hb dX3_greatestDifference_15 (by decide) ?_
        refine lv_istore_n (lv' := [(3, .int (0 : Int32)), (0, .ref aP), (1, .int x1), (2, .int x2)]) hx hb dX3_greatestDifference_16 rfl hl (by decide) rfl (fun ls hl => ?_)
        exact hb17 (fun x1 x2 => fX3_greatestDifference_b4 vMo vKn fKd vCn fCd n x1 x2) ih FU x1 x2 (0 : Int32) H locs ls hP hD hS (lv_sub hl [1, 2, 3, 0] rfl) h
  unfold fX3_greatestDifference at h
  obtain ⟨H, hH⟩ : ∃ H, H = s.heap := ⟨_, rfl⟩
  have hP : va_P D vwCl [(aP, .inr (3, [.int vMo, .int vSh, .ref aK, .ref aC, .ref aS])), (aK, .inr (2, [.int vKn, .ref aKd, .ref aKs])), (aKd, .inl (cI, 8, .inl fKd)), (aC, .inr (1, [.int vCn, .ref aCd])), (aCd, .inl (cI, 12, .inl fCd))] H := by rw [hH]; exact hP
  obtain ⟨locs, hlocs⟩ : ∃ x : List Loc, x = [] := ⟨_, rfl⟩
  have hS : va_S A s.heap H locs := by rw [hH, hlocs]; exact hS
  suffices hgo : W p l e rX3_greatestDifference s m args below meth c H locs 0 0 Q (F0 m 0 ls []) by rw [hH, hlocs] at hgo; exact hgo
  refine lv_iconst (v := (0 : Int32)) hx hb dX3_greatestDifference_0 (by decide) ?_
  refine lv_istore_n (lv' := [(1, .int (0 : Int32)), (0, .ref aP)]) hx hb dX3_greatestDifference_1 rfl hl (by decide) rfl (fun ls hl => ?_)
  refine lv_iconst (v := (0 : Int32)) hx hb dX3_greatestDifference_2 (by decide) ?_
  refine lv_istore_n (lv' := [(2, .int (0 : Int32)), (1, .int (0 : Int32)), (0, .ref aP)]) hx hb dX3_greatestDifference_3 rfl hl (by decide) rfl (fun ls hl => ?_)
  exact hb4 FU (0 : Int32) (0 : Int32) H locs ls hP hD hS (lv_sub hl [2, 1, 0] rfl) h
def fX3_kindOf (vKn : Int32) (fKs : Nat → Int32) (fHe : Nat → Int32) (x1 : Int32) : Option (Int32) :=
  bd1 (fX4_slotOf fHe x1) fun r_9 =>
  bd1 (fX2_ofSlot vKn fKs r_9) fun r_12 =>
  some r_12
abbrev rX3_kindOf : Room := { frames := 2, cells := 0, slots := 0, locals := 41 }
set_option maxHeartbeats 4000000 in
set_option maxRecDepth 100000 in
theorem tX3_kindOf {l : Launch} {D : va_G} {cI cZ cP : ClassId} (aP aK aKs aS aHe aC aKd aPr aHo aSt aPb aPs : Nat) (vMo : Int32) (vSh : Int32) (vKn : Int32) (fKs : Nat → Int32) (vVa : Int32) (vCo : Int32) (vBi : Int32) (vPh : Int32) (fHe : Nat → Int32) (x1 : Int32) (r : Int32) (h : fX3_kindOf vKn fKs fHe x1 = some r) : CtI l D cI cZ cP yX3_kindOf wsX3_kindOf rX3_kindOf [.ref aP, .int x1] [(aP, .inr (3, [.int vMo, .int vSh, .ref aK, .ref aC, .ref aS])), (aK, .inr (2, [.int vKn, .ref aKd, .ref aKs])), (aKs, .inl (cI, 8, .inl fKs)), (aS, .inr (4, [.int vVa, .int vCo, .int vBi, .int vPh, .ref aPr, .ref aHo, .ref aHe, .ref aSt, .ref aPb, .ref aPs])), (aHe, .inl (cI, 16, .inl fHe))] (fun _ : Unit => [(aP, .inr (3, [.int vMo, .int vSh, .ref aK, .ref aC, .ref aS])), (aK, .inr (2, [.int vKn, .ref aKd, .ref aKs])), (aKs, .inl (cI, 8, .inl fKs)), (aS, .inr (4, [.int vVa, .int vCo, .int vBi, .int vPh, .ref aPr, .ref aHo, .ref aHe, .ref aSt, .ref aPb, .ref aPs])), (aHe, .inl (cI, 16, .inl fHe))]) r := by
  refine CtI.ofW (cc := cX3_kindOf) (maxL := 2) (by decide) rfl (Nat.le_of_ble_eq_true rfl) (lv := [(0, .ref aP), (1, .int x1)]) rfl ?_
  intro p e s m args below meth c A Q ls hx hb hml hown hts hK hN hP hD hS hA hl hret0
  have hown : s.vm.findClass RX3 = some m.cls := hown
  have i2 : ∀ w ∈ wsX20, w ∈ wsX3_kindOf := mem_ps [32, 33, 34] rfl
  have i3 : ∀ w ∈ wsX30, w ∈ wsX3_kindOf := mem_ps [17, 18, 19, 20, 21] rfl
  have i4 : ∀ w ∈ wsX40, w ∈ wsX3_kindOf := mem_ps [22, 23, 24, 25, 26, 27, 28, 29, 30, 31] rfl
  have hret : ∀ (v : Int32) (pc : Nat) (ls : Array Slot) (H : Heap) (locs : List Loc), narrow .int (.int v) = .int v → decode cX3_kindOf pc = .ok (.ireturn, 1) → va_P D vwCl [(aP, .inr (3, [.int vMo, .int vSh, .ref aK, .ref aC, .ref aS])), (aK, .inr (2, [.int vKn, .ref aKd, .ref aKs])), (aKs, .inl (cI, 8, .inl fKs)), (aS, .inr (4, [.int vVa, .int vCo, .int vBi, .int vPh, .ref aPr, .ref aHo, .ref aHe, .ref aSt, .ref aPb, .ref aPs])), (aHe, .inl (cI, 16, .inl fHe))] H → va_D A [(aP, .inr (3, [.int vMo, .int vSh, .ref aK, .ref aC, .ref aS])), (aK, .inr (2, [.int vKn, .ref aKd, .ref aKs])), (aKs, .inl (cI, 8, .inl fKs)), (aS, .inr (4, [.int vVa, .int vCo, .int vBi, .int vPh, .ref aPr, .ref aHo, .ref aHe, .ref aSt, .ref aPb, .ref aPs])), (aHe, .inl (cI, 16, .inl fHe))] → va_S A s.heap H locs → some v = some r → W p l e rX3_kindOf s m args below meth c H locs 0 0 Q (F0 m pc ls [.int v]) := by
    intro v pc ls H locs hn hd hP hD hS h
    cases h
    exact hret0 pc ls H locs () hn hd hP hD hS
  clear hret0
  unfold fX3_kindOf at h
  obtain ⟨H, hH⟩ : ∃ H, H = s.heap := ⟨_, rfl⟩
  have hP : va_P D vwCl [(aP, .inr (3, [.int vMo, .int vSh, .ref aK, .ref aC, .ref aS])), (aK, .inr (2, [.int vKn, .ref aKd, .ref aKs])), (aKs, .inl (cI, 8, .inl fKs)), (aS, .inr (4, [.int vVa, .int vCo, .int vBi, .int vPh, .ref aPr, .ref aHo, .ref aHe, .ref aSt, .ref aPb, .ref aPs])), (aHe, .inl (cI, 16, .inl fHe))] H := by rw [hH]; exact hP
  obtain ⟨locs, hlocs⟩ : ∃ x : List Loc, x = [] := ⟨_, rfl⟩
  have hS : va_S A s.heap H locs := by rw [hH, hlocs]; exact hS
  suffices hgo : W p l e rX3_kindOf s m args below meth c H locs 0 0 Q (F0 m 0 ls []) by rw [hH, hlocs] at hgo; exact hgo
  refine lv_aload_n hx hb dX3_kindOf_0 rfl (lv_at hl 0 rfl) ?_
  refine va_get (D := D) (ci := 3) (v := .ref aK) (C := RX3) (T := TX3) (N := 5) hx hb hts i3 hown hK hP 0 rfl rfl 2 (by decide) (hts (.fieldLink RX3 21 RX3 "kinds" "LBidMosaic$Kinds;") (List.mem_of_getElem? (i := 1) rfl)) (fun _ h9 => h9) rfl dX3_kindOf_1 ?_
  refine lv_aload_n hx hb dX3_kindOf_4 rfl (lv_at hl 0 rfl) ?_
  refine va_get (D := D) (ci := 3) (v := .ref aS) (C := RX3) (T := TX3) (N := 5) hx hb hts i3 hown hK hP 0 rfl rfl 4 (by decide) (hts (.fieldLink RX3 35 RX3 "sale" "LBidMosaic$Sale;") (List.mem_of_getElem? (i := 2) rfl)) (fun _ h9 => h9) rfl dX3_kindOf_5 ?_
  refine lv_iload_n hx hb dX3_kindOf_8 rfl (lv_at hl 1 rfl) ?_
  obtain ⟨r_9, q_9, h⟩ := bd1_some h
  refine fr_ro_i (S := Unit) (wc := [(aS, .inr (4, [.int vVa, .int vCo, .int vBi, .int vPh, .ref aPr, .ref aHo, .ref aHe, .ref aSt, .ref aPb, .ref aPs])), (aHe, .inl (cI, 16, .inl fHe))]) (fr_VN (As := [.int x1]) (rest := [.ref aK]) (own := RX3) (host := RX5) (C := RX4) ⟨hx, hb, hml, hown, hts⟩ hN (tX4_slotOf aS aHe aPr aHo aSt aPb aPs vVa vCo vBi vPh fHe x1 r_9 q_9) gX3_kindOf_X4_slotOf_n66 rfl (nx_mem (i := 234) (by decide +kernel) rfl) (List.mem_of_getElem? (i := 4) rfl) (List.mem_of_getElem? (i := 3) rfl) (List.mem_of_getElem? (i := 5) rfl) (fr_preV (As := [.int x1]) (b := aS) (ci := 4) (q0 := 3) (wc := [(aS, .inr (4, [.int vVa, .int vCo, .int vBi, .int vPh, .ref aPr, .ref aHo, .ref aHe, .ref aSt, .ref aPb, .ref aPs])), (aHe, .inl (cI, 16, .inl fHe))]) hK hN hP hD [3, 4] (by decide) rfl rfl rfl) (n := 1) (by decide +kernel) ⟨Nat.le_of_ble_eq_true rfl, Nat.le_of_ble_eq_true rfl⟩ rfl hl.1 rfl (Nat.le_of_ble_eq_true rfl) dX3_kindOf_9 ⟨Nat.zero_le _, Nat.zero_le _⟩) hP hD hS hA [3, 4] rfl (c2 := 0) (s2 := 0) rfl rfl (fun H locs hP hS => ?_)
  obtain ⟨r_12, q_12, h⟩ := bd1_some h
  refine fr_ro_i (S := Unit) (wc := [(aK, .inr (2, [.int vKn, .ref aKd, .ref aKs])), (aKs, .inl (cI, 8, .inl fKs))]) (fr_VN (As := [.int r_9]) (rest := []) (own := RX3) (host := RX5) (C := RX2) ⟨hx, hb, hml, hown, hts⟩ hN (tX2_ofSlot aK aKs aKd vKn fKs r_9 r_12 q_12) gX3_kindOf_X2_ofSlot_n70 rfl (nx_mem (i := 241) (by decide +kernel) rfl) (List.mem_of_getElem? (i := 12) rfl) (List.mem_of_getElem? (i := 11) rfl) (List.mem_of_getElem? (i := 13) rfl) (fr_preV (As := [.int r_9]) (b := aK) (ci := 2) (q0 := 1) (wc := [(aK, .inr (2, [.int vKn, .ref aKd, .ref aKs])), (aKs, .inl (cI, 8, .inl fKs))]) hK hN hP hD [1, 2] (by decide) rfl rfl rfl) (n := 1) (by decide +kernel) ⟨Nat.le_of_ble_eq_true rfl, Nat.le_of_ble_eq_true rfl⟩ rfl hl.1 rfl (Nat.le_of_ble_eq_true rfl) dX3_kindOf_12 ⟨Nat.zero_le _, Nat.zero_le _⟩) hP hD hS hA [1, 2] rfl (c2 := 0) (s2 := 0) rfl rfl (fun H locs hP hS => ?_)
  exact hret r_12 15 ls H locs rfl dX3_kindOf_15 hP hD hS h
def fX3_sumOfDifferences_b4 (vMo : Int32) (vKn : Int32) (fKd : Nat → Int32) (fKs : Nat → Int32) (vCn : Int32) (fCd : Nat → Int32) (fHe : Nat → Int32) : Nat → Int32 → Int32 → Option (Int32)
  | 0, _, _ => none
  | n + 1, x1, x2 =>
    if vCn ≤ x2 then
      some x1
    else
      bd1 (fX3_kindOf vKn fKs fHe x2) fun r_20 =>
      bd1 (fX3_apart vMo vKn fKd vCn fCd x2 r_20) fun r_23 =>
      bdv (x1 + r_23) fun x1_27 =>
      fX3_sumOfDifferences_b4 vMo vKn fKd fKs vCn fCd fHe n x1_27 (x2 + 1)
def fX3_sumOfDifferences (vMo : Int32) (vKn : Int32) (fKd : Nat → Int32) (fKs : Nat → Int32) (vCn : Int32) (fCd : Nat → Int32) (fHe : Nat → Int32) : Option (Int32) :=
  fX3_sumOfDifferences_b4 vMo vKn fKd fKs vCn fCd fHe FU (0 : Int32) (0 : Int32)
abbrev rX3_sumOfDifferences : Room := { frames := 3, cells := 0, slots := 0, locals := 62 }
set_option maxHeartbeats 4000000 in
set_option maxRecDepth 100000 in
theorem tX3_sumOfDifferences {l : Launch} {D : va_G} {cI cZ cP : ClassId} (aP aK aKd aKs aC aCd aS aHe aPr aHo aSt aPb aPs : Nat) (vMo : Int32) (vSh : Int32) (vKn : Int32) (fKd : Nat → Int32) (fKs : Nat → Int32) (vCn : Int32) (fCd : Nat → Int32) (vVa : Int32) (vCo : Int32) (vBi : Int32) (vPh : Int32) (fHe : Nat → Int32) (r : Int32) (h : fX3_sumOfDifferences vMo vKn fKd fKs vCn fCd fHe = some r) : CtI l D cI cZ cP yX3_sumOfDifferences wsX3_sumOfDifferences rX3_sumOfDifferences [.ref aP] [(aP, .inr (3, [.int vMo, .int vSh, .ref aK, .ref aC, .ref aS])), (aK, .inr (2, [.int vKn, .ref aKd, .ref aKs])), (aKd, .inl (cI, 8, .inl fKd)), (aKs, .inl (cI, 8, .inl fKs)), (aC, .inr (1, [.int vCn, .ref aCd])), (aCd, .inl (cI, 12, .inl fCd)), (aS, .inr (4, [.int vVa, .int vCo, .int vBi, .int vPh, .ref aPr, .ref aHo, .ref aHe, .ref aSt, .ref aPb, .ref aPs])), (aHe, .inl (cI, 16, .inl fHe))] (fun _ : Unit => [(aP, .inr (3, [.int vMo, .int vSh, .ref aK, .ref aC, .ref aS])), (aK, .inr (2, [.int vKn, .ref aKd, .ref aKs])), (aKd, .inl (cI, 8, .inl fKd)), (aKs, .inl (cI, 8, .inl fKs)), (aC, .inr (1, [.int vCn, .ref aCd])), (aCd, .inl (cI, 12, .inl fCd)), (aS, .inr (4, [.int vVa, .int vCo, .int vBi, .int vPh, .ref aPr, .ref aHo, .ref aHe, .ref aSt, .ref aPb, .ref aPs])), (aHe, .inl (cI, 16, .inl fHe))]) r := by
  refine CtI.ofW (cc := cX3_sumOfDifferences) (maxL := 3) (by decide) rfl (Nat.le_of_ble_eq_true rfl) (lv := [(0, .ref aP)]) rfl ?_
  intro p e s m args below meth c A Q ls hx hb hml hown hts hK hN hP hD hS hA hl hret0
  have hown : s.vm.findClass RX3 = some m.cls := hown
  have i1 : ∀ w ∈ wsX10, w ∈ wsX3_sumOfDifferences := mem_ps [48, 49] rfl
  have i2 : ∀ w ∈ wsX20, w ∈ wsX3_sumOfDifferences := mem_ps [60, 61, 62] rfl
  have i3 : ∀ w ∈ wsX30, w ∈ wsX3_sumOfDifferences := mem_ps [43, 44, 45, 46, 47] rfl
  have i4 : ∀ w ∈ wsX40, w ∈ wsX3_sumOfDifferences := mem_ps [50, 51, 52, 53, 54, 55, 56, 57, 58, 59] rfl
  have hret : ∀ (v : Int32) (pc : Nat) (ls : Array Slot) (H : Heap) (locs : List Loc), narrow .int (.int v) = .int v → decode cX3_sumOfDifferences pc = .ok (.ireturn, 1) → va_P D vwCl [(aP, .inr (3, [.int vMo, .int vSh, .ref aK, .ref aC, .ref aS])), (aK, .inr (2, [.int vKn, .ref aKd, .ref aKs])), (aKd, .inl (cI, 8, .inl fKd)), (aKs, .inl (cI, 8, .inl fKs)), (aC, .inr (1, [.int vCn, .ref aCd])), (aCd, .inl (cI, 12, .inl fCd)), (aS, .inr (4, [.int vVa, .int vCo, .int vBi, .int vPh, .ref aPr, .ref aHo, .ref aHe, .ref aSt, .ref aPb, .ref aPs])), (aHe, .inl (cI, 16, .inl fHe))] H → va_D A [(aP, .inr (3, [.int vMo, .int vSh, .ref aK, .ref aC, .ref aS])), (aK, .inr (2, [.int vKn, .ref aKd, .ref aKs])), (aKd, .inl (cI, 8, .inl fKd)), (aKs, .inl (cI, 8, .inl fKs)), (aC, .inr (1, [.int vCn, .ref aCd])), (aCd, .inl (cI, 12, .inl fCd)), (aS, .inr (4, [.int vVa, .int vCo, .int vBi, .int vPh, .ref aPr, .ref aHo, .ref aHe, .ref aSt, .ref aPb, .ref aPs])), (aHe, .inl (cI, 16, .inl fHe))] → va_S A s.heap H locs → some v = some r → W p l e rX3_sumOfDifferences s m args below meth c H locs 0 0 Q (F0 m pc ls [.int v]) := by
    intro v pc ls H locs hn hd hP hD hS h
    cases h
    exact hret0 pc ls H locs () hn hd hP hD hS
  clear hret0
  have hb4 : ∀ (n : Nat) (x1 : Int32) (x2 : Int32) (H : Heap) (locs : List Loc) (ls : Array Slot), va_P D vwCl [(aP, .inr (3, [.int vMo, .int vSh, .ref aK, .ref aC, .ref aS])), (aK, .inr (2, [.int vKn, .ref aKd, .ref aKs])), (aKd, .inl (cI, 8, .inl fKd)), (aKs, .inl (cI, 8, .inl fKs)), (aC, .inr (1, [.int vCn, .ref aCd])), (aCd, .inl (cI, 12, .inl fCd)), (aS, .inr (4, [.int vVa, .int vCo, .int vBi, .int vPh, .ref aPr, .ref aHo, .ref aHe, .ref aSt, .ref aPb, .ref aPs])), (aHe, .inl (cI, 16, .inl fHe))] H → va_D A [(aP, .inr (3, [.int vMo, .int vSh, .ref aK, .ref aC, .ref aS])), (aK, .inr (2, [.int vKn, .ref aKd, .ref aKs])), (aKd, .inl (cI, 8, .inl fKd)), (aKs, .inl (cI, 8, .inl fKs)), (aC, .inr (1, [.int vCn, .ref aCd])), (aCd, .inl (cI, 12, .inl fCd)), (aS, .inr (4, [.int vVa, .int vCo, .int vBi, .int vPh, .ref aPr, .ref aHo, .ref aHe, .ref aSt, .ref aPb, .ref aPs])), (aHe, .inl (cI, 16, .inl fHe))] → va_S A s.heap H locs → lv_has ls 3 [(0, .ref aP), (1, .int x1), (2, .int x2)] → fX3_sumOfDifferences_b4 vMo vKn fKd fKs vCn fCd fHe n x1 x2 = some r → W p l e rX3_sumOfDifferences s m args below meth c H locs 0 0 Q (F0 m 4 ls []) := by
    intro n
    induction n with
    | zero => intro x1 x2 H locs ls hP hD hS hl h; exact absurd h (by rw [fX3_sumOfDifferences_b4]; exact fun z => by cases z)
    | succ n ih =>
      intro x1 x2 H locs ls hP hD hS hl h
      rw [fX3_sumOfDifferences_b4] at h
      refine lv_iload_n hx hb dX3_sumOfDifferences_4 rfl (lv_at hl 2 rfl) ?_
      refine lv_aload_n hx hb dX3_sumOfDifferences_5 rfl (lv_at hl 0 rfl) ?_
      refine va_get (D := D) (ci := 3) (v := .ref aC) (C := RX3) (T := TX3) (N := 5) hx hb hts i3 hown hK hP 0 rfl rfl 3 (by decide) (hts (.fieldLink RX3 28 RX3 "cells" "LBidMosaic$Cells;") (List.mem_of_getElem? (i := 1) rfl)) (fun _ h9 => h9) rfl dX3_sumOfDifferences_6 ?_
      refine va_getN (D := D) (ci := 1) (v := .int vCn) (C := RX1) (T := TX1) (N := 2) hx hb hts i1 hown hK hP 4 rfl rfl 0 (by decide) (hN.f (a := RX3) (i := 53) (b := RX1) (n := "count") (d := "I") (h := RX5) (nx_mem (i := 59) (by decide +kernel) rfl)) (fun _ h9 => h9) rfl dX3_sumOfDifferences_9 ?_
      refine lv_icmp_ge (tgt := 34) hx hb dX3_sumOfDifferences_12 (by decide) (fun c1 => ?_) (fun c1 => ?_)
      · have h := (if_pos c1).symm.trans h
        refine lv_iload_n hx hb dX3_sumOfDifferences_34 rfl (lv_at hl 1 rfl) ?_
        exact hret x1 35 ls H locs rfl dX3_sumOfDifferences_35 hP hD hS h
      · have h := (if_neg c1).symm.trans h
        refine lv_iload_n hx hb dX3_sumOfDifferences_15 rfl (lv_at hl 1 rfl) ?_
        refine lv_aload_n hx hb dX3_sumOfDifferences_16 rfl (lv_at hl 0 rfl) ?_
        refine lv_iload_n hx hb dX3_sumOfDifferences_17 rfl (lv_at hl 2 rfl) ?_
        refine lv_aload_n hx hb dX3_sumOfDifferences_18 rfl (lv_at hl 0 rfl) ?_
        refine lv_iload_n hx hb dX3_sumOfDifferences_19 rfl (lv_at hl 2 rfl) ?_
        obtain ⟨r_20, q_20, h⟩ := bd1_some h
        refine fr_ro_i (S := Unit) (wc := [(aP, .inr (3, [.int vMo, .int vSh, .ref aK, .ref aC, .ref aS])), (aK, .inr (2, [.int vKn, .ref aKd, .ref aKs])), (aKs, .inl (cI, 8, .inl fKs)), (aS, .inr (4, [.int vVa, .int vCo, .int vBi, .int vPh, .ref aPr, .ref aHo, .ref aHe, .ref aSt, .ref aPb, .ref aPs])), (aHe, .inl (cI, 16, .inl fHe))]) (fr_V (As := [.int x2]) (rest := [.int x2, .ref aP, .int x1]) (C := RX3) ⟨hx, hb, hml, hown, hts⟩ (tX3_kindOf aP aK aKs aS aHe aC aKd aPr aHo aSt aPb aPs vMo vSh vKn fKs vVa vCo vBi vPh fHe x2 r_20 q_20) gX3_sumOfDifferences_X3_kindOf rfl (fr_preV (As := [.int x2]) (b := aP) (ci := 3) (q0 := 0) (wc := [(aP, .inr (3, [.int vMo, .int vSh, .ref aK, .ref aC, .ref aS])), (aK, .inr (2, [.int vKn, .ref aKd, .ref aKs])), (aKs, .inl (cI, 8, .inl fKs)), (aS, .inr (4, [.int vVa, .int vCo, .int vBi, .int vPh, .ref aPr, .ref aHo, .ref aHe, .ref aSt, .ref aPb, .ref aPs])), (aHe, .inl (cI, 16, .inl fHe))]) hK hN hP hD [0, 1, 3, 6, 7] (by decide) rfl rfl rfl) (n := 1) (by decide +kernel) ⟨Nat.le_of_ble_eq_true rfl, Nat.le_of_ble_eq_true rfl⟩ rfl hl.1 rfl (Nat.le_of_ble_eq_true rfl) dX3_sumOfDifferences_20 ⟨Nat.zero_le _, Nat.zero_le _⟩) hP hD hS hA [0, 1, 3, 6, 7] rfl (c2 := 0) (s2 := 0) rfl rfl (fun H locs hP hS => ?_)
        obtain ⟨r_23, q_23, h⟩ := bd1_some h
        refine fr_ro_i (S := Unit) (wc := [(aP, .inr (3, [.int vMo, .int vSh, .ref aK, .ref aC, .ref aS])), (aK, .inr (2, [.int vKn, .ref aKd, .ref aKs])), (aKd, .inl (cI, 8, .inl fKd)), (aC, .inr (1, [.int vCn, .ref aCd])), (aCd, .inl (cI, 12, .inl fCd))]) (fr_V (As := [.int x2, .int r_20]) (rest := [.int x1]) (C := RX3) ⟨hx, hb, hml, hown, hts⟩ (tX3_apart aP aK aKd aC aCd aS aKs vMo vSh vKn fKd vCn fCd x2 r_20 r_23 q_23) gX3_sumOfDifferences_X3_apart rfl (fr_preV (As := [.int x2, .int r_20]) (b := aP) (ci := 3) (q0 := 0) (wc := [(aP, .inr (3, [.int vMo, .int vSh, .ref aK, .ref aC, .ref aS])), (aK, .inr (2, [.int vKn, .ref aKd, .ref aKs])), (aKd, .inl (cI, 8, .inl fKd)), (aC, .inr (1, [.int vCn, .ref aCd])), (aCd, .inl (cI, 12, .inl fCd))]) hK hN hP hD [0, 1, 2, 4, 5] (by decide) rfl rfl rfl) (n := 2) (by decide +kernel) ⟨Nat.le_of_ble_eq_true rfl, Nat.le_of_ble_eq_true rfl⟩ rfl hl.1 rfl (Nat.le_of_ble_eq_true rfl) dX3_sumOfDifferences_23 ⟨Nat.zero_le _, Nat.zero_le _⟩) hP hD hS hA [0, 1, 2, 4, 5] rfl (c2 := 0) (s2 := 0) rfl rfl (fun H locs hP hS => ?_)
        refine lv_iadd hx hb dX3_sumOfDifferences_26 ?_
        refine lv_topi (fun x1_27 ex1_27 => ?_)
        have h := bdv_some ex1_27 h
        refine lv_istore_n (lv' := [(1, .int x1_27), (0, .ref aP), (2, .int x2)]) hx hb dX3_sumOfDifferences_27 rfl hl (by decide) rfl (fun ls hl => ?_)
        refine lv_iinc (v := x2 + 1) (lv' := [(2, .int (x2 + 1)), (1, .int x1_27), (0, .ref aP)]) hx hb dX3_sumOfDifferences_28 hl (k := 2) rfl rfl (by decide) rfl (fun ls hl => ?_)
        refine lv_goto (tgt := 4) hx hb dX3_sumOfDifferences_31 (by decide) ?_
        exact ih x1_27 (x2 + 1) H locs ls hP hD hS (lv_sub hl [2, 1, 0] rfl) h
  unfold fX3_sumOfDifferences at h
  obtain ⟨H, hH⟩ : ∃ H, H = s.heap := ⟨_, rfl⟩
  have hP : va_P D vwCl [(aP, .inr (3, [.int vMo, .int vSh, .ref aK, .ref aC, .ref aS])), (aK, .inr (2, [.int vKn, .ref aKd, .ref aKs])), (aKd, .inl (cI, 8, .inl fKd)), (aKs, .inl (cI, 8, .inl fKs)), (aC, .inr (1, [.int vCn, .ref aCd])), (aCd, .inl (cI, 12, .inl fCd)), (aS, .inr (4, [.int vVa, .int vCo, .int vBi, .int vPh, .ref aPr, .ref aHo, .ref aHe, .ref aSt, .ref aPb, .ref aPs])), (aHe, .inl (cI, 16, .inl fHe))] H := by rw [hH]; exact hP
  obtain ⟨locs, hlocs⟩ : ∃ x : List Loc, x = [] := ⟨_, rfl⟩
  have hS : va_S A s.heap H locs := by rw [hH, hlocs]; exact hS
  suffices hgo : W p l e rX3_sumOfDifferences s m args below meth c H locs 0 0 Q (F0 m 0 ls []) by rw [hH, hlocs] at hgo; exact hgo
  refine lv_iconst (v := (0 : Int32)) hx hb dX3_sumOfDifferences_0 (by decide) ?_
  refine lv_istore_n (lv' := [(1, .int (0 : Int32)), (0, .ref aP)]) hx hb dX3_sumOfDifferences_1 rfl hl (by decide) rfl (fun ls hl => ?_)
  refine lv_iconst (v := (0 : Int32)) hx hb dX3_sumOfDifferences_2 (by decide) ?_
  refine lv_istore_n (lv' := [(2, .int (0 : Int32)), (1, .int (0 : Int32)), (0, .ref aP)]) hx hb dX3_sumOfDifferences_3 rfl hl (by decide) rfl (fun ls hl => ?_)
  exact hb4 FU (0 : Int32) (0 : Int32) H locs ls hP hD hS (lv_sub hl [2, 1, 0] rfl) h
def fX3_cellOf (vCn : Int32) (fHo : Nat → Int32) (x1 : Int32) : Option (Int32) :=
  bd1 (fX4_isInRow x1) fun r_1 =>
  if r_1 = 0 then
    some (-6 : Int32)
  else
    if x1 < 0 ∨ 16 ≤ x1.toNatClampNeg then none else
    bdv (fHo x1.toNatClampNeg) fun x2_19 =>
    bd1 (fX1_has vCn x2_19) fun r_25 =>
    if r_25 = 0 then
      some (-6 : Int32)
    else
      some x2_19
abbrev rX3_cellOf : Room := { frames := 1, cells := 0, slots := 0, locals := 21 }
set_option maxHeartbeats 4000000 in
set_option maxRecDepth 100000 in
theorem tX3_cellOf {l : Launch} {D : va_G} {cI cZ cP : ClassId} (aP aC aS aHo aK aCd aPr aHe aSt aPb aPs : Nat) (vMo : Int32) (vSh : Int32) (vCn : Int32) (vVa : Int32) (vCo : Int32) (vBi : Int32) (vPh : Int32) (fHo : Nat → Int32) (x1 : Int32) (r : Int32) (h : fX3_cellOf vCn fHo x1 = some r) : CtI l D cI cZ cP yX3_cellOf wsX3_cellOf rX3_cellOf [.ref aP, .int x1] [(aP, .inr (3, [.int vMo, .int vSh, .ref aK, .ref aC, .ref aS])), (aC, .inr (1, [.int vCn, .ref aCd])), (aS, .inr (4, [.int vVa, .int vCo, .int vBi, .int vPh, .ref aPr, .ref aHo, .ref aHe, .ref aSt, .ref aPb, .ref aPs])), (aHo, .inl (cI, 16, .inl fHo))] (fun _ : Unit => [(aP, .inr (3, [.int vMo, .int vSh, .ref aK, .ref aC, .ref aS])), (aC, .inr (1, [.int vCn, .ref aCd])), (aS, .inr (4, [.int vVa, .int vCo, .int vBi, .int vPh, .ref aPr, .ref aHo, .ref aHe, .ref aSt, .ref aPb, .ref aPs])), (aHo, .inl (cI, 16, .inl fHo))]) r := by
  refine CtI.ofW (cc := cX3_cellOf) (maxL := 3) (by decide) rfl (Nat.le_of_ble_eq_true rfl) (lv := [(0, .ref aP), (1, .int x1)]) rfl ?_
  intro p e s m args below meth c A Q ls hx hb hml hown hts hK hN hP hD hS hA hl hret0
  have hown : s.vm.findClass RX3 = some m.cls := hown
  have i1 : ∀ w ∈ wsX10, w ∈ wsX3_cellOf := mem_ps [26, 27] rfl
  have i3 : ∀ w ∈ wsX30, w ∈ wsX3_cellOf := mem_ps [11, 12, 13, 14, 15] rfl
  have i4 : ∀ w ∈ wsX40, w ∈ wsX3_cellOf := mem_ps [16, 17, 18, 19, 20, 21, 22, 23, 24, 25] rfl
  have hret : ∀ (v : Int32) (pc : Nat) (ls : Array Slot) (H : Heap) (locs : List Loc), narrow .int (.int v) = .int v → decode cX3_cellOf pc = .ok (.ireturn, 1) → va_P D vwCl [(aP, .inr (3, [.int vMo, .int vSh, .ref aK, .ref aC, .ref aS])), (aC, .inr (1, [.int vCn, .ref aCd])), (aS, .inr (4, [.int vVa, .int vCo, .int vBi, .int vPh, .ref aPr, .ref aHo, .ref aHe, .ref aSt, .ref aPb, .ref aPs])), (aHo, .inl (cI, 16, .inl fHo))] H → va_D A [(aP, .inr (3, [.int vMo, .int vSh, .ref aK, .ref aC, .ref aS])), (aC, .inr (1, [.int vCn, .ref aCd])), (aS, .inr (4, [.int vVa, .int vCo, .int vBi, .int vPh, .ref aPr, .ref aHo, .ref aHe, .ref aSt, .ref aPb, .ref aPs])), (aHo, .inl (cI, 16, .inl fHo))] → va_S A s.heap H locs → some v = some r → W p l e rX3_cellOf s m args below meth c H locs 0 0 Q (F0 m pc ls [.int v]) := by
    intro v pc ls H locs hn hd hP hD hS h
    cases h
    exact hret0 pc ls H locs () hn hd hP hD hS
  clear hret0
  unfold fX3_cellOf at h
  obtain ⟨H, hH⟩ : ∃ H, H = s.heap := ⟨_, rfl⟩
  have hP : va_P D vwCl [(aP, .inr (3, [.int vMo, .int vSh, .ref aK, .ref aC, .ref aS])), (aC, .inr (1, [.int vCn, .ref aCd])), (aS, .inr (4, [.int vVa, .int vCo, .int vBi, .int vPh, .ref aPr, .ref aHo, .ref aHe, .ref aSt, .ref aPb, .ref aPs])), (aHo, .inl (cI, 16, .inl fHo))] H := by rw [hH]; exact hP
  obtain ⟨locs, hlocs⟩ : ∃ x : List Loc, x = [] := ⟨_, rfl⟩
  have hS : va_S A s.heap H locs := by rw [hH, hlocs]; exact hS
  suffices hgo : W p l e rX3_cellOf s m args below meth c H locs 0 0 Q (F0 m 0 ls []) by rw [hH, hlocs] at hgo; exact hgo
  refine lv_iload_n hx hb dX3_cellOf_0 rfl (lv_at hl 1 rfl) ?_
  obtain ⟨r_1, q_1, h⟩ := bd1_some h
  refine fr_ro_i (S := Unit) (wc := []) (fr_SN (As := [.int x1]) (rest := []) (own := RX3) (host := RX5) ⟨hx, hb, hml, hown, hts⟩ hN (tX4_isInRow x1 r_1 q_1) gX3_cellOf_X4_isInRow_n73 rfl (nx_mem (i := 413) (by decide +kernel) rfl) (List.mem_of_getElem? (i := 4) rfl) (List.mem_of_getElem? (i := 3) rfl) (fr_pre (As := [.int x1]) (wc := []) hK hN hP hD [] (by decide) rfl) (n := 1) (by decide +kernel) ⟨Nat.le_of_ble_eq_true rfl, Nat.le_of_ble_eq_true rfl⟩ rfl hl.1 rfl (Nat.le_of_ble_eq_true rfl) dX3_cellOf_1 ⟨Nat.zero_le _, Nat.zero_le _⟩) hP hD hS hA [] rfl (c2 := 0) (s2 := 0) rfl rfl (fun H locs hP hS => ?_)
  refine lv_if_ne (tgt := 10) hx hb dX3_cellOf_4 (by decide) (fun c1 => ?_) (fun c1 => ?_)
  · have h := (if_neg c1).symm.trans h
    refine lv_aload_n hx hb dX3_cellOf_10 rfl (lv_at hl 0 rfl) ?_
    refine va_get (D := D) (ci := 3) (v := .ref aS) (C := RX3) (T := TX3) (N := 5) hx hb hts i3 hown hK hP 0 rfl rfl 4 (by decide) (hts (.fieldLink RX3 35 RX3 "sale" "LBidMosaic$Sale;") (List.mem_of_getElem? (i := 1) rfl)) (fun _ h9 => h9) rfl dX3_cellOf_11 ?_
    refine va_getN (D := D) (ci := 4) (v := .ref aHo) (C := RX4) (T := TX4) (N := 10) hx hb hts i4 hown hK hP 2 rfl rfl 5 (by decide) (hN.f (a := RX3) (i := 76) (b := RX4) (n := "holders") (d := "[I") (h := RX5) (nx_mem (i := 87) (by decide +kernel) rfl)) (fun _ h9 => h9) rfl dX3_cellOf_14 ?_
    refine lv_iload_n hx hb dX3_cellOf_17 rfl (lv_at hl 1 rfl) ?_
    obtain ⟨g2, h⟩ := no_some h
    refine va_iald hx hb hK hP 3 0 rfl rfl g2 dX3_cellOf_18 ?_
    refine lv_topi (fun x2_19 ex2_19 => ?_)
    have h := bdv_some ex2_19 h
    refine lv_istore_n (lv' := [(2, .int x2_19), (0, .ref aP), (1, .int x1)]) hx hb dX3_cellOf_19 rfl hl (by decide) rfl (fun ls hl => ?_)
    refine lv_aload_n hx hb dX3_cellOf_20 rfl (lv_at hl 1 rfl) ?_
    refine va_get (D := D) (ci := 3) (v := .ref aC) (C := RX3) (T := TX3) (N := 5) hx hb hts i3 hown hK hP 0 rfl rfl 3 (by decide) (hts (.fieldLink RX3 28 RX3 "cells" "LBidMosaic$Cells;") (List.mem_of_getElem? (i := 2) rfl)) (fun _ h9 => h9) rfl dX3_cellOf_21 ?_
    refine lv_iload_n hx hb dX3_cellOf_24 rfl (lv_at hl 0 rfl) ?_
    obtain ⟨r_25, q_25, h⟩ := bd1_some h
    refine fr_ro_i (S := Unit) (wc := [(aC, .inr (1, [.int vCn, .ref aCd]))]) (fr_VN (As := [.int x2_19]) (rest := []) (own := RX3) (host := RX5) (C := RX1) ⟨hx, hb, hml, hown, hts⟩ hN (tX1_has aC aCd vCn x2_19 r_25 q_25) gX3_cellOf_X1_has_n39 rfl (nx_mem (i := 282) (by decide +kernel) rfl) (List.mem_of_getElem? (i := 7) rfl) (List.mem_of_getElem? (i := 6) rfl) (List.mem_of_getElem? (i := 8) rfl) (fr_preV (As := [.int x2_19]) (b := aC) (ci := 1) (q0 := 1) (wc := [(aC, .inr (1, [.int vCn, .ref aCd]))]) hK hN hP hD [1] (by decide) rfl rfl rfl) (n := 1) (by decide +kernel) ⟨Nat.le_of_ble_eq_true rfl, Nat.le_of_ble_eq_true rfl⟩ rfl hl.1 rfl (Nat.le_of_ble_eq_true rfl) dX3_cellOf_25 ⟨Nat.zero_le _, Nat.zero_le _⟩) hP hD hS hA [1] rfl (c2 := 0) (s2 := 0) rfl rfl (fun H locs hP hS => ?_)
    refine lv_if_eq (tgt := 35) hx hb dX3_cellOf_28 (by decide) (fun c3 => ?_) (fun c3 => ?_)
    · have h := (if_pos c3).symm.trans h
      refine lv_bipush (v := (-6 : Int32)) hx hb dX3_cellOf_35 (by decide) ?_
      exact hret (-6 : Int32) 37 ls H locs rfl dX3_cellOf_37 hP hD hS h
    · have h := (if_neg c3).symm.trans h
      refine lv_iload_n hx hb dX3_cellOf_31 rfl (lv_at hl 0 rfl) ?_
      refine lv_goto (tgt := 37) hx hb dX3_cellOf_32 (by decide) ?_
      exact hret x2_19 37 ls H locs rfl dX3_cellOf_37 hP hD hS h
  · have h := (if_pos c1).symm.trans h
    refine lv_bipush (v := (-6 : Int32)) hx hb dX3_cellOf_7 (by decide) ?_
    exact hret (-6 : Int32) 9 ls H locs rfl dX3_cellOf_9 hP hD hS h
def fX3_cellsThatHave_b4 (vKn : Int32) (fKs : Nat → Int32) (vCn : Int32) (fHe : Nat → Int32) : Nat → Int32 → Int32 → Int32 → Option (Int32)
  | 0, _, _, _ => none
  | n + 1, x1, x2, x3 =>
    if vCn ≤ x3 then
      some x2
    else
      bd1 (fX3_kindOf vKn fKs fHe x3) fun r_17 =>
      if r_17 = x1 then
        fX3_cellsThatHave_b4 vKn fKs vCn fHe n x1 (x2 + 1) (x3 + 1)
      else
        fX3_cellsThatHave_b4 vKn fKs vCn fHe n x1 x2 (x3 + 1)
def fX3_cellsThatHave (vKn : Int32) (fKs : Nat → Int32) (vCn : Int32) (fHe : Nat → Int32) (x1 : Int32) : Option (Int32) :=
  fX3_cellsThatHave_b4 vKn fKs vCn fHe FU x1 (0 : Int32) (0 : Int32)
abbrev rX3_cellsThatHave : Room := { frames := 3, cells := 0, slots := 0, locals := 62 }
set_option maxHeartbeats 4000000 in
set_option maxRecDepth 100000 in
theorem tX3_cellsThatHave {l : Launch} {D : va_G} {cI cZ cP : ClassId} (aP aK aKs aC aS aHe aKd aCd aPr aHo aSt aPb aPs : Nat) (vMo : Int32) (vSh : Int32) (vKn : Int32) (fKs : Nat → Int32) (vCn : Int32) (vVa : Int32) (vCo : Int32) (vBi : Int32) (vPh : Int32) (fHe : Nat → Int32) (x1 : Int32) (r : Int32) (h : fX3_cellsThatHave vKn fKs vCn fHe x1 = some r) : CtI l D cI cZ cP yX3_cellsThatHave wsX3_cellsThatHave rX3_cellsThatHave [.ref aP, .int x1] [(aP, .inr (3, [.int vMo, .int vSh, .ref aK, .ref aC, .ref aS])), (aK, .inr (2, [.int vKn, .ref aKd, .ref aKs])), (aKs, .inl (cI, 8, .inl fKs)), (aC, .inr (1, [.int vCn, .ref aCd])), (aS, .inr (4, [.int vVa, .int vCo, .int vBi, .int vPh, .ref aPr, .ref aHo, .ref aHe, .ref aSt, .ref aPb, .ref aPs])), (aHe, .inl (cI, 16, .inl fHe))] (fun _ : Unit => [(aP, .inr (3, [.int vMo, .int vSh, .ref aK, .ref aC, .ref aS])), (aK, .inr (2, [.int vKn, .ref aKd, .ref aKs])), (aKs, .inl (cI, 8, .inl fKs)), (aC, .inr (1, [.int vCn, .ref aCd])), (aS, .inr (4, [.int vVa, .int vCo, .int vBi, .int vPh, .ref aPr, .ref aHo, .ref aHe, .ref aSt, .ref aPb, .ref aPs])), (aHe, .inl (cI, 16, .inl fHe))]) r := by
  refine CtI.ofW (cc := cX3_cellsThatHave) (maxL := 4) (by decide) rfl (Nat.le_of_ble_eq_true rfl) (lv := [(0, .ref aP), (1, .int x1)]) rfl ?_
  intro p e s m args below meth c A Q ls hx hb hml hown hts hK hN hP hD hS hA hl hret0
  have hown : s.vm.findClass RX3 = some m.cls := hown
  have i1 : ∀ w ∈ wsX10, w ∈ wsX3_cellsThatHave := mem_ps [28, 29] rfl
  have i2 : ∀ w ∈ wsX20, w ∈ wsX3_cellsThatHave := mem_ps [40, 41, 42] rfl
  have i3 : ∀ w ∈ wsX30, w ∈ wsX3_cellsThatHave := mem_ps [23, 24, 25, 26, 27] rfl
  have i4 : ∀ w ∈ wsX40, w ∈ wsX3_cellsThatHave := mem_ps [30, 31, 32, 33, 34, 35, 36, 37, 38, 39] rfl
  have hret : ∀ (v : Int32) (pc : Nat) (ls : Array Slot) (H : Heap) (locs : List Loc), narrow .int (.int v) = .int v → decode cX3_cellsThatHave pc = .ok (.ireturn, 1) → va_P D vwCl [(aP, .inr (3, [.int vMo, .int vSh, .ref aK, .ref aC, .ref aS])), (aK, .inr (2, [.int vKn, .ref aKd, .ref aKs])), (aKs, .inl (cI, 8, .inl fKs)), (aC, .inr (1, [.int vCn, .ref aCd])), (aS, .inr (4, [.int vVa, .int vCo, .int vBi, .int vPh, .ref aPr, .ref aHo, .ref aHe, .ref aSt, .ref aPb, .ref aPs])), (aHe, .inl (cI, 16, .inl fHe))] H → va_D A [(aP, .inr (3, [.int vMo, .int vSh, .ref aK, .ref aC, .ref aS])), (aK, .inr (2, [.int vKn, .ref aKd, .ref aKs])), (aKs, .inl (cI, 8, .inl fKs)), (aC, .inr (1, [.int vCn, .ref aCd])), (aS, .inr (4, [.int vVa, .int vCo, .int vBi, .int vPh, .ref aPr, .ref aHo, .ref aHe, .ref aSt, .ref aPb, .ref aPs])), (aHe, .inl (cI, 16, .inl fHe))] → va_S A s.heap H locs → some v = some r → W p l e rX3_cellsThatHave s m args below meth c H locs 0 0 Q (F0 m pc ls [.int v]) := by
    intro v pc ls H locs hn hd hP hD hS h
    cases h
    exact hret0 pc ls H locs () hn hd hP hD hS
  clear hret0
  have hb4 : ∀ (n : Nat) (x1 : Int32) (x2 : Int32) (x3 : Int32) (H : Heap) (locs : List Loc) (ls : Array Slot), va_P D vwCl [(aP, .inr (3, [.int vMo, .int vSh, .ref aK, .ref aC, .ref aS])), (aK, .inr (2, [.int vKn, .ref aKd, .ref aKs])), (aKs, .inl (cI, 8, .inl fKs)), (aC, .inr (1, [.int vCn, .ref aCd])), (aS, .inr (4, [.int vVa, .int vCo, .int vBi, .int vPh, .ref aPr, .ref aHo, .ref aHe, .ref aSt, .ref aPb, .ref aPs])), (aHe, .inl (cI, 16, .inl fHe))] H → va_D A [(aP, .inr (3, [.int vMo, .int vSh, .ref aK, .ref aC, .ref aS])), (aK, .inr (2, [.int vKn, .ref aKd, .ref aKs])), (aKs, .inl (cI, 8, .inl fKs)), (aC, .inr (1, [.int vCn, .ref aCd])), (aS, .inr (4, [.int vVa, .int vCo, .int vBi, .int vPh, .ref aPr, .ref aHo, .ref aHe, .ref aSt, .ref aPb, .ref aPs])), (aHe, .inl (cI, 16, .inl fHe))] → va_S A s.heap H locs → lv_has ls 4 [(0, .ref aP), (1, .int x1), (2, .int x2), (3, .int x3)] → fX3_cellsThatHave_b4 vKn fKs vCn fHe n x1 x2 x3 = some r → W p l e rX3_cellsThatHave s m args below meth c H locs 0 0 Q (F0 m 4 ls []) := by
    intro n
    induction n with
    | zero => intro x1 x2 x3 H locs ls hP hD hS hl h; exact absurd h (by rw [fX3_cellsThatHave_b4]; exact fun z => by cases z)
    | succ n ih =>
      intro x1 x2 x3 H locs ls hP hD hS hl h
      rw [fX3_cellsThatHave_b4] at h
      refine lv_iload_n hx hb dX3_cellsThatHave_4 rfl (lv_at hl 3 rfl) ?_
      refine lv_aload_n hx hb dX3_cellsThatHave_5 rfl (lv_at hl 0 rfl) ?_
      refine va_get (D := D) (ci := 3) (v := .ref aC) (C := RX3) (T := TX3) (N := 5) hx hb hts i3 hown hK hP 0 rfl rfl 3 (by decide) (hts (.fieldLink RX3 28 RX3 "cells" "LBidMosaic$Cells;") (List.mem_of_getElem? (i := 1) rfl)) (fun _ h9 => h9) rfl dX3_cellsThatHave_6 ?_
      refine va_getN (D := D) (ci := 1) (v := .int vCn) (C := RX1) (T := TX1) (N := 2) hx hb hts i1 hown hK hP 3 rfl rfl 0 (by decide) (hN.f (a := RX3) (i := 53) (b := RX1) (n := "count") (d := "I") (h := RX5) (nx_mem (i := 59) (by decide +kernel) rfl)) (fun _ h9 => h9) rfl dX3_cellsThatHave_9 ?_
      refine lv_icmp_ge (tgt := 33) hx hb dX3_cellsThatHave_12 (by decide) (fun c1 => ?_) (fun c1 => ?_)
      · have h := (if_pos c1).symm.trans h
        refine lv_iload_n hx hb dX3_cellsThatHave_33 rfl (lv_at hl 2 rfl) ?_
        exact hret x2 34 ls H locs rfl dX3_cellsThatHave_34 hP hD hS h
      · have h := (if_neg c1).symm.trans h
        refine lv_aload_n hx hb dX3_cellsThatHave_15 rfl (lv_at hl 0 rfl) ?_
        refine lv_iload_n hx hb dX3_cellsThatHave_16 rfl (lv_at hl 3 rfl) ?_
        obtain ⟨r_17, q_17, h⟩ := bd1_some h
        refine fr_ro_i (S := Unit) (wc := [(aP, .inr (3, [.int vMo, .int vSh, .ref aK, .ref aC, .ref aS])), (aK, .inr (2, [.int vKn, .ref aKd, .ref aKs])), (aKs, .inl (cI, 8, .inl fKs)), (aS, .inr (4, [.int vVa, .int vCo, .int vBi, .int vPh, .ref aPr, .ref aHo, .ref aHe, .ref aSt, .ref aPb, .ref aPs])), (aHe, .inl (cI, 16, .inl fHe))]) (fr_V (As := [.int x3]) (rest := []) (C := RX3) ⟨hx, hb, hml, hown, hts⟩ (tX3_kindOf aP aK aKs aS aHe aC aKd aPr aHo aSt aPb aPs vMo vSh vKn fKs vVa vCo vBi vPh fHe x3 r_17 q_17) gX3_cellsThatHave_X3_kindOf rfl (fr_preV (As := [.int x3]) (b := aP) (ci := 3) (q0 := 0) (wc := [(aP, .inr (3, [.int vMo, .int vSh, .ref aK, .ref aC, .ref aS])), (aK, .inr (2, [.int vKn, .ref aKd, .ref aKs])), (aKs, .inl (cI, 8, .inl fKs)), (aS, .inr (4, [.int vVa, .int vCo, .int vBi, .int vPh, .ref aPr, .ref aHo, .ref aHe, .ref aSt, .ref aPb, .ref aPs])), (aHe, .inl (cI, 16, .inl fHe))]) hK hN hP hD [0, 1, 2, 4, 5] (by decide) rfl rfl rfl) (n := 1) (by decide +kernel) ⟨Nat.le_of_ble_eq_true rfl, Nat.le_of_ble_eq_true rfl⟩ rfl hl.1 rfl (Nat.le_of_ble_eq_true rfl) dX3_cellsThatHave_17 ⟨Nat.zero_le _, Nat.zero_le _⟩) hP hD hS hA [0, 1, 2, 4, 5] rfl (c2 := 0) (s2 := 0) rfl rfl (fun H locs hP hS => ?_)
        refine lv_iload_n hx hb dX3_cellsThatHave_20 rfl (lv_at hl 1 rfl) ?_
        refine lv_icmp_ne (tgt := 27) hx hb dX3_cellsThatHave_21 (by decide) (fun c2 => ?_) (fun c2 => ?_)
        · have h := (if_neg c2).symm.trans h
          refine lv_iinc (v := x3 + 1) (lv' := [(3, .int (x3 + 1)), (0, .ref aP), (1, .int x1), (2, .int x2)]) hx hb dX3_cellsThatHave_27 hl (k := 3) rfl rfl (by decide) rfl (fun ls hl => ?_)
          refine lv_goto (tgt := 4) hx hb dX3_cellsThatHave_30 (by decide) ?_
          exact ih x1 x2 (x3 + 1) H locs ls hP hD hS (lv_sub hl [1, 2, 3, 0] rfl) h
        · have h := (if_pos c2).symm.trans h
          refine lv_iinc (v := x2 + 1) (lv' := [(2, .int (x2 + 1)), (0, .ref aP), (1, .int x1), (3, .int x3)]) hx hb dX3_cellsThatHave_24 hl (k := 2) rfl rfl (by decide) rfl (fun ls hl => ?_)
          refine lv_iinc (v := x3 + 1) (lv' := [(3, .int (x3 + 1)), (2, .int (x2 + 1)), (0, .ref aP), (1, .int x1)]) hx hb dX3_cellsThatHave_27 hl (k := 3) rfl rfl (by decide) rfl (fun ls hl => ?_)
          refine lv_goto (tgt := 4) hx hb dX3_cellsThatHave_30 (by decide) ?_
          exact ih x1 (x2 + 1) (x3 + 1) H locs ls hP hD hS (lv_sub hl [2, 3, 1, 0] rfl) h
  unfold fX3_cellsThatHave at h
  obtain ⟨H, hH⟩ : ∃ H, H = s.heap := ⟨_, rfl⟩
  have hP : va_P D vwCl [(aP, .inr (3, [.int vMo, .int vSh, .ref aK, .ref aC, .ref aS])), (aK, .inr (2, [.int vKn, .ref aKd, .ref aKs])), (aKs, .inl (cI, 8, .inl fKs)), (aC, .inr (1, [.int vCn, .ref aCd])), (aS, .inr (4, [.int vVa, .int vCo, .int vBi, .int vPh, .ref aPr, .ref aHo, .ref aHe, .ref aSt, .ref aPb, .ref aPs])), (aHe, .inl (cI, 16, .inl fHe))] H := by rw [hH]; exact hP
  obtain ⟨locs, hlocs⟩ : ∃ x : List Loc, x = [] := ⟨_, rfl⟩
  have hS : va_S A s.heap H locs := by rw [hH, hlocs]; exact hS
  suffices hgo : W p l e rX3_cellsThatHave s m args below meth c H locs 0 0 Q (F0 m 0 ls []) by rw [hH, hlocs] at hgo; exact hgo
  refine lv_iconst (v := (0 : Int32)) hx hb dX3_cellsThatHave_0 (by decide) ?_
  refine lv_istore_n (lv' := [(2, .int (0 : Int32)), (0, .ref aP), (1, .int x1)]) hx hb dX3_cellsThatHave_1 rfl hl (by decide) rfl (fun ls hl => ?_)
  refine lv_iconst (v := (0 : Int32)) hx hb dX3_cellsThatHave_2 (by decide) ?_
  refine lv_istore_n (lv' := [(3, .int (0 : Int32)), (2, .int (0 : Int32)), (0, .ref aP), (1, .int x1)]) hx hb dX3_cellsThatHave_3 rfl hl (by decide) rfl (fun ls hl => ?_)
  exact hb4 FU x1 (0 : Int32) (0 : Int32) H locs ls hP hD hS (lv_sub hl [2, 3, 1, 0] rfl) h
def fX3_copyFrom (vMo : Int32) (vSh : Int32) (vKn : Int32) (fKd : Nat → Int32) (fKs : Nat → Int32) (vCn : Int32) (fCd : Nat → Int32) (vVa : Int32) (vCo : Int32) (vBi : Int32) (vPh : Int32) (fPr : Nat → Int32) (fHo : Nat → Int32) (fHe : Nat → Int32) (fSt : Nat → Int32) (fPb : Nat → Int32) (fPs : Nat → Int32) (vMo2 : Int32) (vSh2 : Int32) (vKn2 : Int32) (fKd2 : Nat → Int32) (fKs2 : Nat → Int32) (vCn2 : Int32) (fCd2 : Nat → Int32) (vVa2 : Int32) (vCo2 : Int32) (vBi2 : Int32) (vPh2 : Int32) (fPr2 : Nat → Int32) (fHo2 : Nat → Int32) (fHe2 : Nat → Int32) (fSt2 : Nat → Int32) (fPb2 : Nat → Int32) (fPs2 : Nat → Int32) : Option (Int32 × Int32 × Int32 × (Nat → Int32) × (Nat → Int32) × Int32 × (Nat → Int32) × Int32 × Int32 × Int32 × Int32 × (Nat → Int32) × (Nat → Int32) × (Nat → Int32) × (Nat → Int32) × (Nat → Int32) × (Nat → Int32)) :=
  bd3 (fX2_copyFrom vKn fKd fKs vKn2 fKd2 fKs2) fun vKn_24 fKd_24 fKs_24 =>
  bd2 (fX1_copyFrom vCn fCd vCn2 fCd2) fun vCn_35 fCd_35 =>
  bd10 (fX4_copyFrom vVa vCo vBi vPh fPr fHo fHe fSt fPb fPs vVa2 vCo2 vBi2 vPh2 fPr2 fHo2 fHe2 fSt2 fPb2 fPs2) fun vVa_46 vCo_46 vBi_46 vPh_46 fPr_46 fHo_46 fHe_46 fSt_46 fPb_46 fPs_46 =>
  some (vMo2, vSh2, vKn_24, fKd_24, fKs_24, vCn_35, fCd_35, vVa_46, vCo_46, vBi_46, vPh_46, fPr_46, fHo_46, fHe_46, fSt_46, fPb_46, fPs_46)
abbrev rX3_copyFrom : Room := { frames := 2, cells := 0, slots := 0, locals := 81 }
set_option maxHeartbeats 4000000 in
set_option maxRecDepth 100000 in
theorem tX3_copyFrom {l : Launch} {D : va_G} {cI cZ cP : ClassId} (aP aK aKd aKs aC aCd aS aPr aHo aHe aSt aPb aPs aP2 aK2 aKd2 aKs2 aC2 aCd2 aS2 aPr2 aHo2 aHe2 aSt2 aPb2 aPs2 : Nat) (vMo : Int32) (vSh : Int32) (vKn : Int32) (fKd : Nat → Int32) (fKs : Nat → Int32) (vCn : Int32) (fCd : Nat → Int32) (vVa : Int32) (vCo : Int32) (vBi : Int32) (vPh : Int32) (fPr : Nat → Int32) (fHo : Nat → Int32) (fHe : Nat → Int32) (fSt : Nat → Int32) (fPb : Nat → Int32) (fPs : Nat → Int32) (vMo2 : Int32) (vSh2 : Int32) (vKn2 : Int32) (fKd2 : Nat → Int32) (fKs2 : Nat → Int32) (vCn2 : Int32) (fCd2 : Nat → Int32) (vVa2 : Int32) (vCo2 : Int32) (vBi2 : Int32) (vPh2 : Int32) (fPr2 : Nat → Int32) (fHo2 : Nat → Int32) (fHe2 : Nat → Int32) (fSt2 : Nat → Int32) (fPb2 : Nat → Int32) (fPs2 : Nat → Int32) (oMo : Int32) (oSh : Int32) (oKn : Int32) (oKd : Nat → Int32) (oKs : Nat → Int32) (oCn : Int32) (oCd : Nat → Int32) (oVa : Int32) (oCo : Int32) (oBi : Int32) (oPh : Int32) (oPr : Nat → Int32) (oHo : Nat → Int32) (oHe : Nat → Int32) (oSt : Nat → Int32) (oPb : Nat → Int32) (oPs : Nat → Int32) (h : fX3_copyFrom vMo vSh vKn fKd fKs vCn fCd vVa vCo vBi vPh fPr fHo fHe fSt fPb fPs vMo2 vSh2 vKn2 fKd2 fKs2 vCn2 fCd2 vVa2 vCo2 vBi2 vPh2 fPr2 fHo2 fHe2 fSt2 fPb2 fPs2 = some (oMo, oSh, oKn, oKd, oKs, oCn, oCd, oVa, oCo, oBi, oPh, oPr, oHo, oHe, oSt, oPb, oPs)) : CtV l D cI cZ cP yX3_copyFrom wsX3_copyFrom rX3_copyFrom [.ref aP, .ref aP2] [(aP, .inr (3, [.int vMo, .int vSh, .ref aK, .ref aC, .ref aS])), (aK, .inr (2, [.int vKn, .ref aKd, .ref aKs])), (aKd, .inl (cI, 8, .inl fKd)), (aKs, .inl (cI, 8, .inl fKs)), (aC, .inr (1, [.int vCn, .ref aCd])), (aCd, .inl (cI, 12, .inl fCd)), (aS, .inr (4, [.int vVa, .int vCo, .int vBi, .int vPh, .ref aPr, .ref aHo, .ref aHe, .ref aSt, .ref aPb, .ref aPs])), (aPr, .inl (cI, 16, .inl fPr)), (aHo, .inl (cI, 16, .inl fHo)), (aHe, .inl (cI, 16, .inl fHe)), (aSt, .inl (cI, 16, .inl fSt)), (aPb, .inl (cI, 16, .inl fPb)), (aPs, .inl (cI, 16, .inl fPs)), (aP2, .inr (3, [.int vMo2, .int vSh2, .ref aK2, .ref aC2, .ref aS2])), (aK2, .inr (2, [.int vKn2, .ref aKd2, .ref aKs2])), (aKd2, .inl (cI, 8, .inl fKd2)), (aKs2, .inl (cI, 8, .inl fKs2)), (aC2, .inr (1, [.int vCn2, .ref aCd2])), (aCd2, .inl (cI, 12, .inl fCd2)), (aS2, .inr (4, [.int vVa2, .int vCo2, .int vBi2, .int vPh2, .ref aPr2, .ref aHo2, .ref aHe2, .ref aSt2, .ref aPb2, .ref aPs2])), (aPr2, .inl (cI, 16, .inl fPr2)), (aHo2, .inl (cI, 16, .inl fHo2)), (aHe2, .inl (cI, 16, .inl fHe2)), (aSt2, .inl (cI, 16, .inl fSt2)), (aPb2, .inl (cI, 16, .inl fPb2)), (aPs2, .inl (cI, 16, .inl fPs2))] (fun _ : Unit => [(aP, .inr (3, [.int oMo, .int oSh, .ref aK, .ref aC, .ref aS])), (aK, .inr (2, [.int oKn, .ref aKd, .ref aKs])), (aKd, .inl (cI, 8, .inl oKd)), (aKs, .inl (cI, 8, .inl oKs)), (aC, .inr (1, [.int oCn, .ref aCd])), (aCd, .inl (cI, 12, .inl oCd)), (aS, .inr (4, [.int oVa, .int oCo, .int oBi, .int oPh, .ref aPr, .ref aHo, .ref aHe, .ref aSt, .ref aPb, .ref aPs])), (aPr, .inl (cI, 16, .inl oPr)), (aHo, .inl (cI, 16, .inl oHo)), (aHe, .inl (cI, 16, .inl oHe)), (aSt, .inl (cI, 16, .inl oSt)), (aPb, .inl (cI, 16, .inl oPb)), (aPs, .inl (cI, 16, .inl oPs)), (aP2, .inr (3, [.int vMo2, .int vSh2, .ref aK2, .ref aC2, .ref aS2])), (aK2, .inr (2, [.int vKn2, .ref aKd2, .ref aKs2])), (aKd2, .inl (cI, 8, .inl fKd2)), (aKs2, .inl (cI, 8, .inl fKs2)), (aC2, .inr (1, [.int vCn2, .ref aCd2])), (aCd2, .inl (cI, 12, .inl fCd2)), (aS2, .inr (4, [.int vVa2, .int vCo2, .int vBi2, .int vPh2, .ref aPr2, .ref aHo2, .ref aHe2, .ref aSt2, .ref aPb2, .ref aPs2])), (aPr2, .inl (cI, 16, .inl fPr2)), (aHo2, .inl (cI, 16, .inl fHo2)), (aHe2, .inl (cI, 16, .inl fHe2)), (aSt2, .inl (cI, 16, .inl fSt2)), (aPb2, .inl (cI, 16, .inl fPb2)), (aPs2, .inl (cI, 16, .inl fPs2))]) := by
  refine CtV.ofW (cc := cX3_copyFrom) (maxL := 2) (by decide) rfl (Nat.le_of_ble_eq_true rfl) (lv := [(0, .ref aP), (1, .ref aP2)]) rfl ?_
  intro p e s m args below meth c A Q ls hx hb hml hown hts hK hN hP hD hS hA hl hin hret0
  have hown : s.vm.findClass RX3 = some m.cls := hown
  have i1 : ∀ w ∈ wsX10, w ∈ wsX3_copyFrom := mem_ps [47, 48] rfl
  have i2 : ∀ w ∈ wsX20, w ∈ wsX3_copyFrom := mem_ps [44, 45, 46] rfl
  have i3 : ∀ w ∈ wsX30, w ∈ wsX3_copyFrom := mem_ps [39, 40, 41, 42, 43] rfl
  have i4 : ∀ w ∈ wsX40, w ∈ wsX3_copyFrom := mem_ps [49, 50, 51, 52, 53, 54, 55, 56, 57, 58] rfl
  have hret : ∀ (zMo : Int32) (zSh : Int32) (zKn : Int32) (zKd : Nat → Int32) (zKs : Nat → Int32) (zCn : Int32) (zCd : Nat → Int32) (zVa : Int32) (zCo : Int32) (zBi : Int32) (zPh : Int32) (zPr : Nat → Int32) (zHo : Nat → Int32) (zHe : Nat → Int32) (zSt : Nat → Int32) (zPb : Nat → Int32) (zPs : Nat → Int32) (pc : Nat) (ls : Array Slot) (H : Heap) (locs : List Loc), decode cX3_copyFrom pc = .ok (.return_, 1) → va_P D vwCl [(aP, .inr (3, [.int zMo, .int zSh, .ref aK, .ref aC, .ref aS])), (aK, .inr (2, [.int zKn, .ref aKd, .ref aKs])), (aKd, .inl (cI, 8, .inl zKd)), (aKs, .inl (cI, 8, .inl zKs)), (aC, .inr (1, [.int zCn, .ref aCd])), (aCd, .inl (cI, 12, .inl zCd)), (aS, .inr (4, [.int zVa, .int zCo, .int zBi, .int zPh, .ref aPr, .ref aHo, .ref aHe, .ref aSt, .ref aPb, .ref aPs])), (aPr, .inl (cI, 16, .inl zPr)), (aHo, .inl (cI, 16, .inl zHo)), (aHe, .inl (cI, 16, .inl zHe)), (aSt, .inl (cI, 16, .inl zSt)), (aPb, .inl (cI, 16, .inl zPb)), (aPs, .inl (cI, 16, .inl zPs)), (aP2, .inr (3, [.int vMo2, .int vSh2, .ref aK2, .ref aC2, .ref aS2])), (aK2, .inr (2, [.int vKn2, .ref aKd2, .ref aKs2])), (aKd2, .inl (cI, 8, .inl fKd2)), (aKs2, .inl (cI, 8, .inl fKs2)), (aC2, .inr (1, [.int vCn2, .ref aCd2])), (aCd2, .inl (cI, 12, .inl fCd2)), (aS2, .inr (4, [.int vVa2, .int vCo2, .int vBi2, .int vPh2, .ref aPr2, .ref aHo2, .ref aHe2, .ref aSt2, .ref aPb2, .ref aPs2])), (aPr2, .inl (cI, 16, .inl fPr2)), (aHo2, .inl (cI, 16, .inl fHo2)), (aHe2, .inl (cI, 16, .inl fHe2)), (aSt2, .inl (cI, 16, .inl fSt2)), (aPb2, .inl (cI, 16, .inl fPb2)), (aPs2, .inl (cI, 16, .inl fPs2))] H → va_D A [(aP, .inr (3, [.int zMo, .int zSh, .ref aK, .ref aC, .ref aS])), (aK, .inr (2, [.int zKn, .ref aKd, .ref aKs])), (aKd, .inl (cI, 8, .inl zKd)), (aKs, .inl (cI, 8, .inl zKs)), (aC, .inr (1, [.int zCn, .ref aCd])), (aCd, .inl (cI, 12, .inl zCd)), (aS, .inr (4, [.int zVa, .int zCo, .int zBi, .int zPh, .ref aPr, .ref aHo, .ref aHe, .ref aSt, .ref aPb, .ref aPs])), (aPr, .inl (cI, 16, .inl zPr)), (aHo, .inl (cI, 16, .inl zHo)), (aHe, .inl (cI, 16, .inl zHe)), (aSt, .inl (cI, 16, .inl zSt)), (aPb, .inl (cI, 16, .inl zPb)), (aPs, .inl (cI, 16, .inl zPs)), (aP2, .inr (3, [.int vMo2, .int vSh2, .ref aK2, .ref aC2, .ref aS2])), (aK2, .inr (2, [.int vKn2, .ref aKd2, .ref aKs2])), (aKd2, .inl (cI, 8, .inl fKd2)), (aKs2, .inl (cI, 8, .inl fKs2)), (aC2, .inr (1, [.int vCn2, .ref aCd2])), (aCd2, .inl (cI, 12, .inl fCd2)), (aS2, .inr (4, [.int vVa2, .int vCo2, .int vBi2, .int vPh2, .ref aPr2, .ref aHo2, .ref aHe2, .ref aSt2, .ref aPb2, .ref aPs2])), (aPr2, .inl (cI, 16, .inl fPr2)), (aHo2, .inl (cI, 16, .inl fHo2)), (aHe2, .inl (cI, 16, .inl fHe2)), (aSt2, .inl (cI, 16, .inl fSt2)), (aPb2, .inl (cI, 16, .inl fPb2)), (aPs2, .inl (cI, 16, .inl fPs2))] → va_S A s.heap H locs → some (zMo, zSh, zKn, zKd, zKs, zCn, zCd, zVa, zCo, zBi, zPh, zPr, zHo, zHe, zSt, zPb, zPs) = some (oMo, oSh, oKn, oKd, oKs, oCn, oCd, oVa, oCo, oBi, oPh, oPr, oHo, oHe, oSt, oPb, oPs) → W p l e rX3_copyFrom s m args below meth c H locs 0 0 Q (F0 m pc ls []) := by
    intro zMo zSh zKn zKd zKs zCn zCd zVa zCo zBi zPh zPr zHo zHe zSt zPb zPs pc ls H locs hd hP hD hS h
    cases h
    exact hret0 pc ls H locs () hd hP hD hS
  clear hret0
  unfold fX3_copyFrom at h
  obtain ⟨H, hH⟩ : ∃ H, H = s.heap := ⟨_, rfl⟩
  have hP : va_P D vwCl [(aP, .inr (3, [.int vMo, .int vSh, .ref aK, .ref aC, .ref aS])), (aK, .inr (2, [.int vKn, .ref aKd, .ref aKs])), (aKd, .inl (cI, 8, .inl fKd)), (aKs, .inl (cI, 8, .inl fKs)), (aC, .inr (1, [.int vCn, .ref aCd])), (aCd, .inl (cI, 12, .inl fCd)), (aS, .inr (4, [.int vVa, .int vCo, .int vBi, .int vPh, .ref aPr, .ref aHo, .ref aHe, .ref aSt, .ref aPb, .ref aPs])), (aPr, .inl (cI, 16, .inl fPr)), (aHo, .inl (cI, 16, .inl fHo)), (aHe, .inl (cI, 16, .inl fHe)), (aSt, .inl (cI, 16, .inl fSt)), (aPb, .inl (cI, 16, .inl fPb)), (aPs, .inl (cI, 16, .inl fPs)), (aP2, .inr (3, [.int vMo2, .int vSh2, .ref aK2, .ref aC2, .ref aS2])), (aK2, .inr (2, [.int vKn2, .ref aKd2, .ref aKs2])), (aKd2, .inl (cI, 8, .inl fKd2)), (aKs2, .inl (cI, 8, .inl fKs2)), (aC2, .inr (1, [.int vCn2, .ref aCd2])), (aCd2, .inl (cI, 12, .inl fCd2)), (aS2, .inr (4, [.int vVa2, .int vCo2, .int vBi2, .int vPh2, .ref aPr2, .ref aHo2, .ref aHe2, .ref aSt2, .ref aPb2, .ref aPs2])), (aPr2, .inl (cI, 16, .inl fPr2)), (aHo2, .inl (cI, 16, .inl fHo2)), (aHe2, .inl (cI, 16, .inl fHe2)), (aSt2, .inl (cI, 16, .inl fSt2)), (aPb2, .inl (cI, 16, .inl fPb2)), (aPs2, .inl (cI, 16, .inl fPs2))] H := by rw [hH]; exact hP
  obtain ⟨locs, hlocs⟩ : ∃ x : List Loc, x = [] := ⟨_, rfl⟩
  have hS : va_S A s.heap H locs := by rw [hH, hlocs]; exact hS
  suffices hgo : W p l e rX3_copyFrom s m args below meth c H locs 0 0 Q (F0 m 0 ls []) by rw [hH, hlocs] at hgo; exact hgo
  refine lv_aload_n hx hb dX3_copyFrom_0 rfl (lv_at hl 0 rfl) ?_
  refine lv_aload_n hx hb dX3_copyFrom_1 rfl (lv_at hl 1 rfl) ?_
  refine va_get (D := D) (ci := 3) (v := .int vMo2) (C := RX3) (T := TX3) (N := 5) hx hb hts i3 hown hK hP 13 rfl rfl 0 (by decide) (hts (.fieldLink RX3 9 RX3 "mode" "I") (List.mem_of_getElem? (i := 1) rfl)) (fun _ h9 => h9) rfl dX3_copyFrom_2 ?_
  refine va_put (D := D) (ci := 3) (v := .int vMo2) (ty := .int) (C := RX3) (T := TX3) (N := 5) hx hb hts i3 tyX3 tyX3_ok nmX3 hown hK hP hD hS 0 rfl rfl 0 (by decide) (hts (.fieldLink RX3 9 RX3 "mode" "I") (List.mem_of_getElem? (i := 1) rfl)) (fun _ h9 => h9) rfl (by decide +kernel) rfl rfl (Nat.le_of_ble_eq_true rfl) dX3_copyFrom_5 (fun H locs hP hD hS => ?_)
  have hP : va_P D vwCl [(aP, .inr (3, [.int vMo2, .int vSh, .ref aK, .ref aC, .ref aS])), (aK, .inr (2, [.int vKn, .ref aKd, .ref aKs])), (aKd, .inl (cI, 8, .inl fKd)), (aKs, .inl (cI, 8, .inl fKs)), (aC, .inr (1, [.int vCn, .ref aCd])), (aCd, .inl (cI, 12, .inl fCd)), (aS, .inr (4, [.int vVa, .int vCo, .int vBi, .int vPh, .ref aPr, .ref aHo, .ref aHe, .ref aSt, .ref aPb, .ref aPs])), (aPr, .inl (cI, 16, .inl fPr)), (aHo, .inl (cI, 16, .inl fHo)), (aHe, .inl (cI, 16, .inl fHe)), (aSt, .inl (cI, 16, .inl fSt)), (aPb, .inl (cI, 16, .inl fPb)), (aPs, .inl (cI, 16, .inl fPs)), (aP2, .inr (3, [.int vMo2, .int vSh2, .ref aK2, .ref aC2, .ref aS2])), (aK2, .inr (2, [.int vKn2, .ref aKd2, .ref aKs2])), (aKd2, .inl (cI, 8, .inl fKd2)), (aKs2, .inl (cI, 8, .inl fKs2)), (aC2, .inr (1, [.int vCn2, .ref aCd2])), (aCd2, .inl (cI, 12, .inl fCd2)), (aS2, .inr (4, [.int vVa2, .int vCo2, .int vBi2, .int vPh2, .ref aPr2, .ref aHo2, .ref aHe2, .ref aSt2, .ref aPb2, .ref aPs2])), (aPr2, .inl (cI, 16, .inl fPr2)), (aHo2, .inl (cI, 16, .inl fHo2)), (aHe2, .inl (cI, 16, .inl fHe2)), (aSt2, .inl (cI, 16, .inl fSt2)), (aPb2, .inl (cI, 16, .inl fPb2)), (aPs2, .inl (cI, 16, .inl fPs2))] H := hP
  have hD : va_D A [(aP, .inr (3, [.int vMo2, .int vSh, .ref aK, .ref aC, .ref aS])), (aK, .inr (2, [.int vKn, .ref aKd, .ref aKs])), (aKd, .inl (cI, 8, .inl fKd)), (aKs, .inl (cI, 8, .inl fKs)), (aC, .inr (1, [.int vCn, .ref aCd])), (aCd, .inl (cI, 12, .inl fCd)), (aS, .inr (4, [.int vVa, .int vCo, .int vBi, .int vPh, .ref aPr, .ref aHo, .ref aHe, .ref aSt, .ref aPb, .ref aPs])), (aPr, .inl (cI, 16, .inl fPr)), (aHo, .inl (cI, 16, .inl fHo)), (aHe, .inl (cI, 16, .inl fHe)), (aSt, .inl (cI, 16, .inl fSt)), (aPb, .inl (cI, 16, .inl fPb)), (aPs, .inl (cI, 16, .inl fPs)), (aP2, .inr (3, [.int vMo2, .int vSh2, .ref aK2, .ref aC2, .ref aS2])), (aK2, .inr (2, [.int vKn2, .ref aKd2, .ref aKs2])), (aKd2, .inl (cI, 8, .inl fKd2)), (aKs2, .inl (cI, 8, .inl fKs2)), (aC2, .inr (1, [.int vCn2, .ref aCd2])), (aCd2, .inl (cI, 12, .inl fCd2)), (aS2, .inr (4, [.int vVa2, .int vCo2, .int vBi2, .int vPh2, .ref aPr2, .ref aHo2, .ref aHe2, .ref aSt2, .ref aPb2, .ref aPs2])), (aPr2, .inl (cI, 16, .inl fPr2)), (aHo2, .inl (cI, 16, .inl fHo2)), (aHe2, .inl (cI, 16, .inl fHe2)), (aSt2, .inl (cI, 16, .inl fSt2)), (aPb2, .inl (cI, 16, .inl fPb2)), (aPs2, .inl (cI, 16, .inl fPs2))] := hD
  refine lv_aload_n hx hb dX3_copyFrom_8 rfl (lv_at hl 0 rfl) ?_
  refine lv_aload_n hx hb dX3_copyFrom_9 rfl (lv_at hl 1 rfl) ?_
  refine va_get (D := D) (ci := 3) (v := .int vSh2) (C := RX3) (T := TX3) (N := 5) hx hb hts i3 hown hK hP 13 rfl rfl 1 (by decide) (hts (.fieldLink RX3 15 RX3 "shrink" "I") (List.mem_of_getElem? (i := 2) rfl)) (fun _ h9 => h9) rfl dX3_copyFrom_10 ?_
  refine va_put (D := D) (ci := 3) (v := .int vSh2) (ty := .int) (C := RX3) (T := TX3) (N := 5) hx hb hts i3 tyX3 tyX3_ok nmX3 hown hK hP hD hS 0 rfl rfl 1 (by decide) (hts (.fieldLink RX3 15 RX3 "shrink" "I") (List.mem_of_getElem? (i := 2) rfl)) (fun _ h9 => h9) rfl (by decide +kernel) rfl rfl (Nat.le_of_ble_eq_true rfl) dX3_copyFrom_13 (fun H locs hP hD hS => ?_)
  have hP : va_P D vwCl [(aP, .inr (3, [.int vMo2, .int vSh2, .ref aK, .ref aC, .ref aS])), (aK, .inr (2, [.int vKn, .ref aKd, .ref aKs])), (aKd, .inl (cI, 8, .inl fKd)), (aKs, .inl (cI, 8, .inl fKs)), (aC, .inr (1, [.int vCn, .ref aCd])), (aCd, .inl (cI, 12, .inl fCd)), (aS, .inr (4, [.int vVa, .int vCo, .int vBi, .int vPh, .ref aPr, .ref aHo, .ref aHe, .ref aSt, .ref aPb, .ref aPs])), (aPr, .inl (cI, 16, .inl fPr)), (aHo, .inl (cI, 16, .inl fHo)), (aHe, .inl (cI, 16, .inl fHe)), (aSt, .inl (cI, 16, .inl fSt)), (aPb, .inl (cI, 16, .inl fPb)), (aPs, .inl (cI, 16, .inl fPs)), (aP2, .inr (3, [.int vMo2, .int vSh2, .ref aK2, .ref aC2, .ref aS2])), (aK2, .inr (2, [.int vKn2, .ref aKd2, .ref aKs2])), (aKd2, .inl (cI, 8, .inl fKd2)), (aKs2, .inl (cI, 8, .inl fKs2)), (aC2, .inr (1, [.int vCn2, .ref aCd2])), (aCd2, .inl (cI, 12, .inl fCd2)), (aS2, .inr (4, [.int vVa2, .int vCo2, .int vBi2, .int vPh2, .ref aPr2, .ref aHo2, .ref aHe2, .ref aSt2, .ref aPb2, .ref aPs2])), (aPr2, .inl (cI, 16, .inl fPr2)), (aHo2, .inl (cI, 16, .inl fHo2)), (aHe2, .inl (cI, 16, .inl fHe2)), (aSt2, .inl (cI, 16, .inl fSt2)), (aPb2, .inl (cI, 16, .inl fPb2)), (aPs2, .inl (cI, 16, .inl fPs2))] H := hP
  have hD : va_D A [(aP, .inr (3, [.int vMo2, .int vSh2, .ref aK, .ref aC, .ref aS])), (aK, .inr (2, [.int vKn, .ref aKd, .ref aKs])), (aKd, .inl (cI, 8, .inl fKd)), (aKs, .inl (cI, 8, .inl fKs)), (aC, .inr (1, [.int vCn, .ref aCd])), (aCd, .inl (cI, 12, .inl fCd)), (aS, .inr (4, [.int vVa, .int vCo, .int vBi, .int vPh, .ref aPr, .ref aHo, .ref aHe, .ref aSt, .ref aPb, .ref aPs])), (aPr, .inl (cI, 16, .inl fPr)), (aHo, .inl (cI, 16, .inl fHo)), (aHe, .inl (cI, 16, .inl fHe)), (aSt, .inl (cI, 16, .inl fSt)), (aPb, .inl (cI, 16, .inl fPb)), (aPs, .inl (cI, 16, .inl fPs)), (aP2, .inr (3, [.int vMo2, .int vSh2, .ref aK2, .ref aC2, .ref aS2])), (aK2, .inr (2, [.int vKn2, .ref aKd2, .ref aKs2])), (aKd2, .inl (cI, 8, .inl fKd2)), (aKs2, .inl (cI, 8, .inl fKs2)), (aC2, .inr (1, [.int vCn2, .ref aCd2])), (aCd2, .inl (cI, 12, .inl fCd2)), (aS2, .inr (4, [.int vVa2, .int vCo2, .int vBi2, .int vPh2, .ref aPr2, .ref aHo2, .ref aHe2, .ref aSt2, .ref aPb2, .ref aPs2])), (aPr2, .inl (cI, 16, .inl fPr2)), (aHo2, .inl (cI, 16, .inl fHo2)), (aHe2, .inl (cI, 16, .inl fHe2)), (aSt2, .inl (cI, 16, .inl fSt2)), (aPb2, .inl (cI, 16, .inl fPb2)), (aPs2, .inl (cI, 16, .inl fPs2))] := hD
  refine lv_aload_n hx hb dX3_copyFrom_16 rfl (lv_at hl 0 rfl) ?_
  refine va_get (D := D) (ci := 3) (v := .ref aK) (C := RX3) (T := TX3) (N := 5) hx hb hts i3 hown hK hP 0 rfl rfl 2 (by decide) (hts (.fieldLink RX3 21 RX3 "kinds" "LBidMosaic$Kinds;") (List.mem_of_getElem? (i := 3) rfl)) (fun _ h9 => h9) rfl dX3_copyFrom_17 ?_
  refine lv_aload_n hx hb dX3_copyFrom_20 rfl (lv_at hl 1 rfl) ?_
  refine va_get (D := D) (ci := 3) (v := .ref aK2) (C := RX3) (T := TX3) (N := 5) hx hb hts i3 hown hK hP 13 rfl rfl 2 (by decide) (hts (.fieldLink RX3 21 RX3 "kinds" "LBidMosaic$Kinds;") (List.mem_of_getElem? (i := 3) rfl)) (fun _ h9 => h9) rfl dX3_copyFrom_21 ?_
  obtain ⟨vKn_24, fKd_24, fKs_24, q_24, h⟩ := bd3_some h
  refine fr_rw_v (S := Unit) (wc := [(aK, .inr (2, [.int vKn, .ref aKd, .ref aKs])), (aKd, .inl (cI, 8, .inl fKd)), (aKs, .inl (cI, 8, .inl fKs)), (aK2, .inr (2, [.int vKn2, .ref aKd2, .ref aKs2])), (aKd2, .inl (cI, 8, .inl fKd2)), (aKs2, .inl (cI, 8, .inl fKs2))]) (wc' := fun _ => [(aK, .inr (2, [.int vKn_24, .ref aKd, .ref aKs])), (aKd, .inl (cI, 8, .inl fKd_24)), (aKs, .inl (cI, 8, .inl fKs_24)), (aK2, .inr (2, [.int vKn2, .ref aKd2, .ref aKs2])), (aKd2, .inl (cI, 8, .inl fKd2)), (aKs2, .inl (cI, 8, .inl fKs2))]) (wr := [(aP, .inr (3, [.int vMo2, .int vSh2, .ref aK, .ref aC, .ref aS])), (aC, .inr (1, [.int vCn, .ref aCd])), (aCd, .inl (cI, 12, .inl fCd)), (aS, .inr (4, [.int vVa, .int vCo, .int vBi, .int vPh, .ref aPr, .ref aHo, .ref aHe, .ref aSt, .ref aPb, .ref aPs])), (aPr, .inl (cI, 16, .inl fPr)), (aHo, .inl (cI, 16, .inl fHo)), (aHe, .inl (cI, 16, .inl fHe)), (aSt, .inl (cI, 16, .inl fSt)), (aPb, .inl (cI, 16, .inl fPb)), (aPs, .inl (cI, 16, .inl fPs)), (aP2, .inr (3, [.int vMo2, .int vSh2, .ref aK2, .ref aC2, .ref aS2])), (aC2, .inr (1, [.int vCn2, .ref aCd2])), (aCd2, .inl (cI, 12, .inl fCd2)), (aS2, .inr (4, [.int vVa2, .int vCo2, .int vBi2, .int vPh2, .ref aPr2, .ref aHo2, .ref aHe2, .ref aSt2, .ref aPb2, .ref aPs2])), (aPr2, .inl (cI, 16, .inl fPr2)), (aHo2, .inl (cI, 16, .inl fHo2)), (aHe2, .inl (cI, 16, .inl fHe2)), (aSt2, .inl (cI, 16, .inl fSt2)), (aPb2, .inl (cI, 16, .inl fPb2)), (aPs2, .inl (cI, 16, .inl fPs2))]) (w2 := fun _ => [(aP, .inr (3, [.int vMo2, .int vSh2, .ref aK, .ref aC, .ref aS])), (aK, .inr (2, [.int vKn_24, .ref aKd, .ref aKs])), (aKd, .inl (cI, 8, .inl fKd_24)), (aKs, .inl (cI, 8, .inl fKs_24)), (aC, .inr (1, [.int vCn, .ref aCd])), (aCd, .inl (cI, 12, .inl fCd)), (aS, .inr (4, [.int vVa, .int vCo, .int vBi, .int vPh, .ref aPr, .ref aHo, .ref aHe, .ref aSt, .ref aPb, .ref aPs])), (aPr, .inl (cI, 16, .inl fPr)), (aHo, .inl (cI, 16, .inl fHo)), (aHe, .inl (cI, 16, .inl fHe)), (aSt, .inl (cI, 16, .inl fSt)), (aPb, .inl (cI, 16, .inl fPb)), (aPs, .inl (cI, 16, .inl fPs)), (aP2, .inr (3, [.int vMo2, .int vSh2, .ref aK2, .ref aC2, .ref aS2])), (aK2, .inr (2, [.int vKn2, .ref aKd2, .ref aKs2])), (aKd2, .inl (cI, 8, .inl fKd2)), (aKs2, .inl (cI, 8, .inl fKs2)), (aC2, .inr (1, [.int vCn2, .ref aCd2])), (aCd2, .inl (cI, 12, .inl fCd2)), (aS2, .inr (4, [.int vVa2, .int vCo2, .int vBi2, .int vPh2, .ref aPr2, .ref aHo2, .ref aHe2, .ref aSt2, .ref aPb2, .ref aPs2])), (aPr2, .inl (cI, 16, .inl fPr2)), (aHo2, .inl (cI, 16, .inl fHo2)), (aHe2, .inl (cI, 16, .inl fHe2)), (aSt2, .inl (cI, 16, .inl fSt2)), (aPb2, .inl (cI, 16, .inl fPb2)), (aPs2, .inl (cI, 16, .inl fPs2))]) (fr_VNv (As := [.ref aK2]) (rest := []) (own := RX3) (host := RX5) (C := RX2) ⟨hx, hb, hml, hown, hts⟩ hN (tX2_copyFrom aK aKd aKs aK2 aKd2 aKs2 vKn fKd fKs vKn2 fKd2 fKs2 vKn_24 fKd_24 fKs_24 q_24) gX3_copyFrom_X2_copyFrom_n82 rfl (nx_mem (i := 438) (by decide +kernel) rfl) (List.mem_of_getElem? (i := 7) rfl) (List.mem_of_getElem? (i := 6) rfl) (List.mem_of_getElem? (i := 8) rfl) (fr_preV (As := [.ref aK2]) (b := aK) (ci := 2) (q0 := 1) (wc := [(aK, .inr (2, [.int vKn, .ref aKd, .ref aKs])), (aKd, .inl (cI, 8, .inl fKd)), (aKs, .inl (cI, 8, .inl fKs)), (aK2, .inr (2, [.int vKn2, .ref aKd2, .ref aKs2])), (aKd2, .inl (cI, 8, .inl fKd2)), (aKs2, .inl (cI, 8, .inl fKs2))]) hK hN hP hD [1, 2, 3, 14, 15, 16] (by decide) rfl rfl rfl) (n := 1) (by decide +kernel) ⟨Nat.le_of_ble_eq_true rfl, Nat.le_of_ble_eq_true rfl⟩ rfl hl.1 rfl (Nat.le_of_ble_eq_true rfl) dX3_copyFrom_24 ⟨Nat.zero_le _, Nat.zero_le _⟩) hP hD hS hA [1, 2, 3, 14, 15, 16] [0, 4, 5, 6, 7, 8, 9, 10, 11, 12, 13, 17, 18, 19, 20, 21, 22, 23, 24, 25] [0, 20, 21, 22, 1, 2, 3, 4, 5, 6, 7, 8, 9, 10, 23, 24, 25, 11, 12, 13, 14, 15, 16, 17, 18, 19] rfl rfl (by decide) (by decide) (by decide) (fun _ => rfl) (c2 := 0) (s2 := 0) rfl rfl (fun _ H locs hP hD hS => ?_)
  refine lv_aload_n hx hb dX3_copyFrom_27 rfl (lv_at hl 0 rfl) ?_
  refine va_get (D := D) (ci := 3) (v := .ref aC) (C := RX3) (T := TX3) (N := 5) hx hb hts i3 hown hK hP 0 rfl rfl 3 (by decide) (hts (.fieldLink RX3 28 RX3 "cells" "LBidMosaic$Cells;") (List.mem_of_getElem? (i := 4) rfl)) (fun _ h9 => h9) rfl dX3_copyFrom_28 ?_
  refine lv_aload_n hx hb dX3_copyFrom_31 rfl (lv_at hl 1 rfl) ?_
  refine va_get (D := D) (ci := 3) (v := .ref aC2) (C := RX3) (T := TX3) (N := 5) hx hb hts i3 hown hK hP 13 rfl rfl 3 (by decide) (hts (.fieldLink RX3 28 RX3 "cells" "LBidMosaic$Cells;") (List.mem_of_getElem? (i := 4) rfl)) (fun _ h9 => h9) rfl dX3_copyFrom_32 ?_
  obtain ⟨vCn_35, fCd_35, q_35, h⟩ := bd2_some h
  refine fr_rw_v (S := Unit) (wc := [(aC, .inr (1, [.int vCn, .ref aCd])), (aCd, .inl (cI, 12, .inl fCd)), (aC2, .inr (1, [.int vCn2, .ref aCd2])), (aCd2, .inl (cI, 12, .inl fCd2))]) (wc' := fun _ => [(aC, .inr (1, [.int vCn_35, .ref aCd])), (aCd, .inl (cI, 12, .inl fCd_35)), (aC2, .inr (1, [.int vCn2, .ref aCd2])), (aCd2, .inl (cI, 12, .inl fCd2))]) (wr := [(aP, .inr (3, [.int vMo2, .int vSh2, .ref aK, .ref aC, .ref aS])), (aK, .inr (2, [.int vKn_24, .ref aKd, .ref aKs])), (aKd, .inl (cI, 8, .inl fKd_24)), (aKs, .inl (cI, 8, .inl fKs_24)), (aS, .inr (4, [.int vVa, .int vCo, .int vBi, .int vPh, .ref aPr, .ref aHo, .ref aHe, .ref aSt, .ref aPb, .ref aPs])), (aPr, .inl (cI, 16, .inl fPr)), (aHo, .inl (cI, 16, .inl fHo)), (aHe, .inl (cI, 16, .inl fHe)), (aSt, .inl (cI, 16, .inl fSt)), (aPb, .inl (cI, 16, .inl fPb)), (aPs, .inl (cI, 16, .inl fPs)), (aP2, .inr (3, [.int vMo2, .int vSh2, .ref aK2, .ref aC2, .ref aS2])), (aK2, .inr (2, [.int vKn2, .ref aKd2, .ref aKs2])), (aKd2, .inl (cI, 8, .inl fKd2)), (aKs2, .inl (cI, 8, .inl fKs2)), (aS2, .inr (4, [.int vVa2, .int vCo2, .int vBi2, .int vPh2, .ref aPr2, .ref aHo2, .ref aHe2, .ref aSt2, .ref aPb2, .ref aPs2])), (aPr2, .inl (cI, 16, .inl fPr2)), (aHo2, .inl (cI, 16, .inl fHo2)), (aHe2, .inl (cI, 16, .inl fHe2)), (aSt2, .inl (cI, 16, .inl fSt2)), (aPb2, .inl (cI, 16, .inl fPb2)), (aPs2, .inl (cI, 16, .inl fPs2))]) (w2 := fun _ => [(aP, .inr (3, [.int vMo2, .int vSh2, .ref aK, .ref aC, .ref aS])), (aK, .inr (2, [.int vKn_24, .ref aKd, .ref aKs])), (aKd, .inl (cI, 8, .inl fKd_24)), (aKs, .inl (cI, 8, .inl fKs_24)), (aC, .inr (1, [.int vCn_35, .ref aCd])), (aCd, .inl (cI, 12, .inl fCd_35)), (aS, .inr (4, [.int vVa, .int vCo, .int vBi, .int vPh, .ref aPr, .ref aHo, .ref aHe, .ref aSt, .ref aPb, .ref aPs])), (aPr, .inl (cI, 16, .inl fPr)), (aHo, .inl (cI, 16, .inl fHo)), (aHe, .inl (cI, 16, .inl fHe)), (aSt, .inl (cI, 16, .inl fSt)), (aPb, .inl (cI, 16, .inl fPb)), (aPs, .inl (cI, 16, .inl fPs)), (aP2, .inr (3, [.int vMo2, .int vSh2, .ref aK2, .ref aC2, .ref aS2])), (aK2, .inr (2, [.int vKn2, .ref aKd2, .ref aKs2])), (aKd2, .inl (cI, 8, .inl fKd2)), (aKs2, .inl (cI, 8, .inl fKs2)), (aC2, .inr (1, [.int vCn2, .ref aCd2])), (aCd2, .inl (cI, 12, .inl fCd2)), (aS2, .inr (4, [.int vVa2, .int vCo2, .int vBi2, .int vPh2, .ref aPr2, .ref aHo2, .ref aHe2, .ref aSt2, .ref aPb2, .ref aPs2])), (aPr2, .inl (cI, 16, .inl fPr2)), (aHo2, .inl (cI, 16, .inl fHo2)), (aHe2, .inl (cI, 16, .inl fHe2)), (aSt2, .inl (cI, 16, .inl fSt2)), (aPb2, .inl (cI, 16, .inl fPb2)), (aPs2, .inl (cI, 16, .inl fPs2))]) (fr_VNv (As := [.ref aC2]) (rest := []) (own := RX3) (host := RX5) (C := RX1) ⟨hx, hb, hml, hown, hts⟩ hN (tX1_copyFrom aC aCd aC2 aCd2 vCn fCd vCn2 fCd2 vCn_35 fCd_35 q_35) gX3_copyFrom_X1_copyFrom_n86 rfl (nx_mem (i := 445) (by decide +kernel) rfl) (List.mem_of_getElem? (i := 18) rfl) (List.mem_of_getElem? (i := 17) rfl) (List.mem_of_getElem? (i := 19) rfl) (fr_preV (As := [.ref aC2]) (b := aC) (ci := 1) (q0 := 4) (wc := [(aC, .inr (1, [.int vCn, .ref aCd])), (aCd, .inl (cI, 12, .inl fCd)), (aC2, .inr (1, [.int vCn2, .ref aCd2])), (aCd2, .inl (cI, 12, .inl fCd2))]) hK hN hP hD [4, 5, 17, 18] (by decide) rfl rfl rfl) (n := 1) (by decide +kernel) ⟨Nat.le_of_ble_eq_true rfl, Nat.le_of_ble_eq_true rfl⟩ rfl hl.1 rfl (Nat.le_of_ble_eq_true rfl) dX3_copyFrom_35 ⟨Nat.zero_le _, Nat.zero_le _⟩) hP hD hS hA [4, 5, 17, 18] [0, 1, 2, 3, 6, 7, 8, 9, 10, 11, 12, 13, 14, 15, 16, 19, 20, 21, 22, 23, 24, 25] [0, 1, 2, 3, 22, 23, 4, 5, 6, 7, 8, 9, 10, 11, 12, 13, 14, 24, 25, 15, 16, 17, 18, 19, 20, 21] rfl rfl (by decide) (by decide) (by decide) (fun _ => rfl) (c2 := 0) (s2 := 0) rfl rfl (fun _ H locs hP hD hS => ?_)
  refine lv_aload_n hx hb dX3_copyFrom_38 rfl (lv_at hl 0 rfl) ?_
  refine va_get (D := D) (ci := 3) (v := .ref aS) (C := RX3) (T := TX3) (N := 5) hx hb hts i3 hown hK hP 0 rfl rfl 4 (by decide) (hts (.fieldLink RX3 35 RX3 "sale" "LBidMosaic$Sale;") (List.mem_of_getElem? (i := 5) rfl)) (fun _ h9 => h9) rfl dX3_copyFrom_39 ?_
  refine lv_aload_n hx hb dX3_copyFrom_42 rfl (lv_at hl 1 rfl) ?_
  refine va_get (D := D) (ci := 3) (v := .ref aS2) (C := RX3) (T := TX3) (N := 5) hx hb hts i3 hown hK hP 13 rfl rfl 4 (by decide) (hts (.fieldLink RX3 35 RX3 "sale" "LBidMosaic$Sale;") (List.mem_of_getElem? (i := 5) rfl)) (fun _ h9 => h9) rfl dX3_copyFrom_43 ?_
  obtain ⟨vVa_46, vCo_46, vBi_46, vPh_46, fPr_46, fHo_46, fHe_46, fSt_46, fPb_46, fPs_46, q_46, h⟩ := bd10_some h
  refine fr_rw_v (S := Unit) (wc := [(aS, .inr (4, [.int vVa, .int vCo, .int vBi, .int vPh, .ref aPr, .ref aHo, .ref aHe, .ref aSt, .ref aPb, .ref aPs])), (aPr, .inl (cI, 16, .inl fPr)), (aHo, .inl (cI, 16, .inl fHo)), (aHe, .inl (cI, 16, .inl fHe)), (aSt, .inl (cI, 16, .inl fSt)), (aPb, .inl (cI, 16, .inl fPb)), (aPs, .inl (cI, 16, .inl fPs)), (aS2, .inr (4, [.int vVa2, .int vCo2, .int vBi2, .int vPh2, .ref aPr2, .ref aHo2, .ref aHe2, .ref aSt2, .ref aPb2, .ref aPs2])), (aPr2, .inl (cI, 16, .inl fPr2)), (aHo2, .inl (cI, 16, .inl fHo2)), (aHe2, .inl (cI, 16, .inl fHe2)), (aSt2, .inl (cI, 16, .inl fSt2)), (aPb2, .inl (cI, 16, .inl fPb2)), (aPs2, .inl (cI, 16, .inl fPs2))]) (wc' := fun _ => [(aS, .inr (4, [.int vVa_46, .int vCo_46, .int vBi_46, .int vPh_46, .ref aPr, .ref aHo, .ref aHe, .ref aSt, .ref aPb, .ref aPs])), (aPr, .inl (cI, 16, .inl fPr_46)), (aHo, .inl (cI, 16, .inl fHo_46)), (aHe, .inl (cI, 16, .inl fHe_46)), (aSt, .inl (cI, 16, .inl fSt_46)), (aPb, .inl (cI, 16, .inl fPb_46)), (aPs, .inl (cI, 16, .inl fPs_46)), (aS2, .inr (4, [.int vVa2, .int vCo2, .int vBi2, .int vPh2, .ref aPr2, .ref aHo2, .ref aHe2, .ref aSt2, .ref aPb2, .ref aPs2])), (aPr2, .inl (cI, 16, .inl fPr2)), (aHo2, .inl (cI, 16, .inl fHo2)), (aHe2, .inl (cI, 16, .inl fHe2)), (aSt2, .inl (cI, 16, .inl fSt2)), (aPb2, .inl (cI, 16, .inl fPb2)), (aPs2, .inl (cI, 16, .inl fPs2))]) (wr := [(aP, .inr (3, [.int vMo2, .int vSh2, .ref aK, .ref aC, .ref aS])), (aK, .inr (2, [.int vKn_24, .ref aKd, .ref aKs])), (aKd, .inl (cI, 8, .inl fKd_24)), (aKs, .inl (cI, 8, .inl fKs_24)), (aC, .inr (1, [.int vCn_35, .ref aCd])), (aCd, .inl (cI, 12, .inl fCd_35)), (aP2, .inr (3, [.int vMo2, .int vSh2, .ref aK2, .ref aC2, .ref aS2])), (aK2, .inr (2, [.int vKn2, .ref aKd2, .ref aKs2])), (aKd2, .inl (cI, 8, .inl fKd2)), (aKs2, .inl (cI, 8, .inl fKs2)), (aC2, .inr (1, [.int vCn2, .ref aCd2])), (aCd2, .inl (cI, 12, .inl fCd2))]) (w2 := fun _ => [(aP, .inr (3, [.int vMo2, .int vSh2, .ref aK, .ref aC, .ref aS])), (aK, .inr (2, [.int vKn_24, .ref aKd, .ref aKs])), (aKd, .inl (cI, 8, .inl fKd_24)), (aKs, .inl (cI, 8, .inl fKs_24)), (aC, .inr (1, [.int vCn_35, .ref aCd])), (aCd, .inl (cI, 12, .inl fCd_35)), (aS, .inr (4, [.int vVa_46, .int vCo_46, .int vBi_46, .int vPh_46, .ref aPr, .ref aHo, .ref aHe, .ref aSt, .ref aPb, .ref aPs])), (aPr, .inl (cI, 16, .inl fPr_46)), (aHo, .inl (cI, 16, .inl fHo_46)), (aHe, .inl (cI, 16, .inl fHe_46)), (aSt, .inl (cI, 16, .inl fSt_46)), (aPb, .inl (cI, 16, .inl fPb_46)), (aPs, .inl (cI, 16, .inl fPs_46)), (aP2, .inr (3, [.int vMo2, .int vSh2, .ref aK2, .ref aC2, .ref aS2])), (aK2, .inr (2, [.int vKn2, .ref aKd2, .ref aKs2])), (aKd2, .inl (cI, 8, .inl fKd2)), (aKs2, .inl (cI, 8, .inl fKs2)), (aC2, .inr (1, [.int vCn2, .ref aCd2])), (aCd2, .inl (cI, 12, .inl fCd2)), (aS2, .inr (4, [.int vVa2, .int vCo2, .int vBi2, .int vPh2, .ref aPr2, .ref aHo2, .ref aHe2, .ref aSt2, .ref aPb2, .ref aPs2])), (aPr2, .inl (cI, 16, .inl fPr2)), (aHo2, .inl (cI, 16, .inl fHo2)), (aHe2, .inl (cI, 16, .inl fHe2)), (aSt2, .inl (cI, 16, .inl fSt2)), (aPb2, .inl (cI, 16, .inl fPb2)), (aPs2, .inl (cI, 16, .inl fPs2))]) (fr_VNv (As := [.ref aS2]) (rest := []) (own := RX3) (host := RX5) (C := RX4) ⟨hx, hb, hml, hown, hts⟩ hN (tX4_copyFrom aS aPr aHo aHe aSt aPb aPs aS2 aPr2 aHo2 aHe2 aSt2 aPb2 aPs2 vVa vCo vBi vPh fPr fHo fHe fSt fPb fPs vVa2 vCo2 vBi2 vPh2 fPr2 fHo2 fHe2 fSt2 fPb2 fPs2 vVa_46 vCo_46 vBi_46 vPh_46 fPr_46 fHo_46 fHe_46 fSt_46 fPb_46 fPs_46 q_46) gX3_copyFrom_X4_copyFrom_n89 rfl (nx_mem (i := 450) (by decide +kernel) rfl) (List.mem_of_getElem? (i := 25) rfl) (List.mem_of_getElem? (i := 24) rfl) (List.mem_of_getElem? (i := 26) rfl) (fr_preV (As := [.ref aS2]) (b := aS) (ci := 4) (q0 := 6) (wc := [(aS, .inr (4, [.int vVa, .int vCo, .int vBi, .int vPh, .ref aPr, .ref aHo, .ref aHe, .ref aSt, .ref aPb, .ref aPs])), (aPr, .inl (cI, 16, .inl fPr)), (aHo, .inl (cI, 16, .inl fHo)), (aHe, .inl (cI, 16, .inl fHe)), (aSt, .inl (cI, 16, .inl fSt)), (aPb, .inl (cI, 16, .inl fPb)), (aPs, .inl (cI, 16, .inl fPs)), (aS2, .inr (4, [.int vVa2, .int vCo2, .int vBi2, .int vPh2, .ref aPr2, .ref aHo2, .ref aHe2, .ref aSt2, .ref aPb2, .ref aPs2])), (aPr2, .inl (cI, 16, .inl fPr2)), (aHo2, .inl (cI, 16, .inl fHo2)), (aHe2, .inl (cI, 16, .inl fHe2)), (aSt2, .inl (cI, 16, .inl fSt2)), (aPb2, .inl (cI, 16, .inl fPb2)), (aPs2, .inl (cI, 16, .inl fPs2))]) hK hN hP hD [6, 7, 8, 9, 10, 11, 12, 19, 20, 21, 22, 23, 24, 25] (by decide) rfl rfl rfl) (n := 1) (by decide +kernel) ⟨Nat.le_of_ble_eq_true rfl, Nat.le_of_ble_eq_true rfl⟩ rfl hl.1 rfl (Nat.le_of_ble_eq_true rfl) dX3_copyFrom_46 ⟨Nat.zero_le _, Nat.zero_le _⟩) hP hD hS hA [6, 7, 8, 9, 10, 11, 12, 19, 20, 21, 22, 23, 24, 25] [0, 1, 2, 3, 4, 5, 13, 14, 15, 16, 17, 18] [0, 1, 2, 3, 4, 5, 12, 13, 14, 15, 16, 17, 18, 6, 7, 8, 9, 10, 11, 19, 20, 21, 22, 23, 24, 25] rfl rfl (by decide) (by decide) (by decide) (fun _ => rfl) (c2 := 0) (s2 := 0) rfl rfl (fun _ H locs hP hD hS => ?_)
  exact hret vMo2 vSh2 vKn_24 fKd_24 fKs_24 vCn_35 fCd_35 vVa_46 vCo_46 vBi_46 vPh_46 fPr_46 fHo_46 fHe_46 fSt_46 fPb_46 fPs_46 49 ls H locs dX3_copyFrom_49 hP hD hS h
