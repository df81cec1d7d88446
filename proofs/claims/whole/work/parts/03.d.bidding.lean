def fX0_worth_b19 (vSl : Int32) (vMo : Int32) (vKn : Int32) (fKd : Nat → Int32) (vCn : Int32) (fCd : Nat → Int32) (x1 : Int32) (x2 : Int32) (y0 : Int32) : Option (Int32) :=
  if y0 = 0 then
    bd1 (fX3_apart vMo vKn fKd vCn fCd x1 x2) fun r_34 =>
    some ((-r_34) * (vSl + (1 : Int32)))
  else
    some (0 : Int32)
def fX0_worth (vSl : Int32) (vMo : Int32) (vKn : Int32) (fKd : Nat → Int32) (vCn : Int32) (fCd : Nat → Int32) (x1 : Int32) (x2 : Int32) : Option (Int32) :=
  bd1 (fX1_has vCn x1) fun r_8 =>
  if r_8 = 0 then
    fX0_worth_b19 vSl vMo vKn fKd vCn fCd x1 x2 (1 : Int32)
  else
    fX0_worth_b19 vSl vMo vKn fKd vCn fCd x1 x2 (0 : Int32)
abbrev rX0_worth : Room := { frames := 3, cells := 0, slots := 0, locals := 62 }
set_option maxHeartbeats 4000000 in
set_option maxRecDepth 100000 in
theorem tX0_worth {l : Launch} {D : va_G} {cI cZ cP : ClassId} (aB aP aK aKd aC aCd aS aW aKs : Nat) (vSl : Int32) (vMo : Int32) (vSh : Int32) (vKn : Int32) (fKd : Nat → Int32) (vCn : Int32) (fCd : Nat → Int32) (x1 : Int32) (x2 : Int32) (r : Int32) (h : fX0_worth vSl vMo vKn fKd vCn fCd x1 x2 = some r) : CtI l D cI cZ cP yX0_worth wsX0_worth rX0_worth [.ref aB, .int x1, .int x2] [(aB, .inr (0, [.ref aP, .ref aS, .ref aW, .int vSl])), (aP, .inr (3, [.int vMo, .int vSh, .ref aK, .ref aC, .ref aS])), (aK, .inr (2, [.int vKn, .ref aKd, .ref aKs])), (aKd, .inl (cI, 8, .inl fKd)), (aC, .inr (1, [.int vCn, .ref aCd])), (aCd, .inl (cI, 12, .inl fCd))] (fun _ : Unit => [(aB, .inr (0, [.ref aP, .ref aS, .ref aW, .int vSl])), (aP, .inr (3, [.int vMo, .int vSh, .ref aK, .ref aC, .ref aS])), (aK, .inr (2, [.int vKn, .ref aKd, .ref aKs])), (aKd, .inl (cI, 8, .inl fKd)), (aC, .inr (1, [.int vCn, .ref aCd])), (aCd, .inl (cI, 12, .inl fCd))]) r := by
  refine CtI.ofW (cc := cX0_worth) (maxL := 4) (by decide) rfl (Nat.le_of_ble_eq_true rfl) (lv := [(0, .ref aB), (1, .int x1), (2, .int x2)]) rfl ?_
  intro p e s m args below meth c A Q ls hx hb hml hown hts hK hN hP hD hS hA hl hret0
  have hown : s.vm.findClass RX0 = some m.cls := hown
  have i0 : ∀ w ∈ wsX00, w ∈ wsX0_worth := mem_ps [27, 28, 29, 30] rfl
  have i1 : ∀ w ∈ wsX10, w ∈ wsX0_worth := mem_ps [36, 37] rfl
  have i2 : ∀ w ∈ wsX20, w ∈ wsX0_worth := mem_ps [38, 39, 40] rfl
  have i3 : ∀ w ∈ wsX30, w ∈ wsX0_worth := mem_ps [31, 32, 33, 34, 35] rfl
  have hret : ∀ (v : Int32) (pc : Nat) (ls : Array Slot) (H : Heap) (locs : List Loc), narrow .int (.int v) = .int v → decode cX0_worth pc = .ok (.ireturn, 1) → va_P D vwCl [(aB, .inr (0, [.ref aP, .ref aS, .ref aW, .int vSl])), (aP, .inr (3, [.int vMo, .int vSh, .ref aK, .ref aC, .ref aS])), (aK, .inr (2, [.int vKn, .ref aKd, .ref aKs])), (aKd, .inl (cI, 8, .inl fKd)), (aC, .inr (1, [.int vCn, .ref aCd])), (aCd, .inl (cI, 12, .inl fCd))] H → va_D A [(aB, .inr (0, [.ref aP, .ref aS, .ref aW, .int vSl])), (aP, .inr (3, [.int vMo, .int vSh, .ref aK, .ref aC, .ref aS])), (aK, .inr (2, [.int vKn, .ref aKd, .ref aKs])), (aKd, .inl (cI, 8, .inl fKd)), (aC, .inr (1, [.int vCn, .ref aCd])), (aCd, .inl (cI, 12, .inl fCd))] → va_S A s.heap H locs → some v = some r → W p l e rX0_worth s m args below meth c H locs 0 0 Q (F0 m pc ls [.int v]) := by
    intro v pc ls H locs hn hd hP hD hS h
    cases h
    exact hret0 pc ls H locs () hn hd hP hD hS
  clear hret0
  have hb19 : ∀ (x1 : Int32) (x2 : Int32) (y0 : Int32) (H : Heap) (locs : List Loc) (ls : Array Slot), va_P D vwCl [(aB, .inr (0, [.ref aP, .ref aS, .ref aW, .int vSl])), (aP, .inr (3, [.int vMo, .int vSh, .ref aK, .ref aC, .ref aS])), (aK, .inr (2, [.int vKn, .ref aKd, .ref aKs])), (aKd, .inl (cI, 8, .inl fKd)), (aC, .inr (1, [.int vCn, .ref aCd])), (aCd, .inl (cI, 12, .inl fCd))] H → va_D A [(aB, .inr (0, [.ref aP, .ref aS, .ref aW, .int vSl])), (aP, .inr (3, [.int vMo, .int vSh, .ref aK, .ref aC, .ref aS])), (aK, .inr (2, [.int vKn, .ref aKd, .ref aKs])), (aKd, .inl (cI, 8, .inl fKd)), (aC, .inr (1, [.int vCn, .ref aCd])), (aCd, .inl (cI, 12, .inl fCd))] → va_S A s.heap H locs → lv_has ls 4 [(0, .ref aB), (1, .int x1), (2, .int x2)] → fX0_worth_b19 vSl vMo vKn fKd vCn fCd x1 x2 y0 = some r → W p l e rX0_worth s m args below meth c H locs 0 0 Q (F0 m 19 ls [.int y0]) := by
    intro x1 x2 y0 H locs ls hP hD hS hl h
    unfold fX0_worth_b19 at h
    refine lv_istore_n (lv' := [(3, .int y0), (0, .ref aB), (1, .int x1), (2, .int x2)]) hx hb dX0_worth_19 rfl hl (by decide) rfl (fun ls hl => ?_)
    refine lv_iload_n hx hb dX0_worth_20 rfl (lv_at hl 0 rfl) ?_
    refine lv_if_eq (tgt := 28) hx hb dX0_worth_21 (by decide) (fun c1 => ?_) (fun c1 => ?_)
    · have h := (if_pos c1).symm.trans h
      refine lv_aload_n hx hb dX0_worth_28 rfl (lv_at hl 1 rfl) ?_
      refine va_get (D := D) (ci := 0) (v := .ref aP) (C := RX0) (T := TX0) (N := 4) hx hb hts i0 hown hK hP 0 rfl rfl 0 (by decide) (hts (.fieldLink RX0 12 RX0 "picture" "LBidMosaic$Picture;") (List.mem_of_getElem? (i := 1) rfl)) (fun _ h9 => h9) rfl dX0_worth_29 ?_
      refine lv_iload_n hx hb dX0_worth_32 rfl (lv_at hl 2 rfl) ?_
      refine lv_iload_n hx hb dX0_worth_33 rfl (lv_at hl 3 rfl) ?_
      obtain ⟨r_34, q_34, h⟩ := bd1_some h
      refine fr_ro_i (S := Unit) (wc := [(aP, .inr (3, [.int vMo, .int vSh, .ref aK, .ref aC, .ref aS])), (aK, .inr (2, [.int vKn, .ref aKd, .ref aKs])), (aKd, .inl (cI, 8, .inl fKd)), (aC, .inr (1, [.int vCn, .ref aCd])), (aCd, .inl (cI, 12, .inl fCd))]) (fr_VN (As := [.int x1, .int x2]) (rest := []) (own := RX0) (host := RX5) (C := RX3) ⟨hx, hb, hml, hown, hts⟩ hN (tX3_apart aP aK aKd aC aCd aS aKs vMo vSh vKn fKd vCn fCd x1 x2 r_34 q_34) gX0_worth_X3_apart_n63 rfl (nx_mem (i := 313) (by decide +kernel) rfl) (List.mem_of_getElem? (i := 9) rfl) (List.mem_of_getElem? (i := 8) rfl) (List.mem_of_getElem? (i := 10) rfl) (fr_preV (As := [.int x1, .int x2]) (b := aP) (ci := 3) (q0 := 1) (wc := [(aP, .inr (3, [.int vMo, .int vSh, .ref aK, .ref aC, .ref aS])), (aK, .inr (2, [.int vKn, .ref aKd, .ref aKs])), (aKd, .inl (cI, 8, .inl fKd)), (aC, .inr (1, [.int vCn, .ref aCd])), (aCd, .inl (cI, 12, .inl fCd))]) hK hN hP hD [1, 2, 3, 4, 5] (by decide) rfl rfl rfl) (n := 2) (by decide +kernel) ⟨Nat.le_of_ble_eq_true rfl, Nat.le_of_ble_eq_true rfl⟩ rfl hl.1 rfl (Nat.le_of_ble_eq_true rfl) dX0_worth_34 ⟨Nat.zero_le _, Nat.zero_le _⟩) hP hD hS hA [1, 2, 3, 4, 5] rfl (c2 := 0) (s2 := 0) rfl rfl (fun H locs hP hS => ?_)
      refine lv_ineg hx hb dX0_worth_37 ?_
      refine lv_aload_n hx hb dX0_worth_38 rfl (lv_at hl 1 rfl) ?_
      refine va_get (D := D) (ci := 0) (v := .int vSl) (C := RX0) (T := TX0) (N := 4) hx hb hts i0 hown hK hP 0 rfl rfl 3 (by decide) (hts (.fieldLink RX0 43 RX0 "slots" "I") (List.mem_of_getElem? (i := 2) rfl)) (fun _ h9 => h9) rfl dX0_worth_39 ?_
      refine lv_iconst (v := (1 : Int32)) hx hb dX0_worth_42 (by decide) ?_
      refine lv_iadd hx hb dX0_worth_43 ?_
      refine lv_imul hx hb dX0_worth_44 ?_
      exact hret ((-r_34) * (vSl + (1 : Int32))) 45 ls H locs rfl dX0_worth_45 hP hD hS h
    · have h := (if_neg c1).symm.trans h
      refine lv_iconst (v := (0 : Int32)) hx hb dX0_worth_24 (by decide) ?_
      refine lv_goto (tgt := 45) hx hb dX0_worth_25 (by decide) ?_
      exact hret (0 : Int32) 45 ls H locs rfl dX0_worth_45 hP hD hS h
  unfold fX0_worth at h
  obtain ⟨H, hH⟩ : ∃ H, H = s.heap := ⟨_, rfl⟩
  have hP : va_P D vwCl [(aB, .inr (0, [.ref aP, .ref aS, .ref aW, .int vSl])), (aP, .inr (3, [.int vMo, .int vSh, .ref aK, .ref aC, .ref aS])), (aK, .inr (2, [.int vKn, .ref aKd, .ref aKs])), (aKd, .inl (cI, 8, .inl fKd)), (aC, .inr (1, [.int vCn, .ref aCd])), (aCd, .inl (cI, 12, .inl fCd))] H := by rw [hH]; exact hP
  obtain ⟨locs, hlocs⟩ : ∃ x : List Loc, x = [] := ⟨_, rfl⟩
  have hS : va_S A s.heap H locs := by rw [hH, hlocs]; exact hS
  suffices hgo : W p l e rX0_worth s m args below meth c H locs 0 0 Q (F0 m 0 ls []) by rw [hH, hlocs] at hgo; exact hgo
  refine lv_aload_n hx hb dX0_worth_0 rfl (lv_at hl 0 rfl) ?_
  refine va_get (D := D) (ci := 0) (v := .ref aP) (C := RX0) (T := TX0) (N := 4) hx hb hts i0 hown hK hP 0 rfl rfl 0 (by decide) (hts (.fieldLink RX0 12 RX0 "picture" "LBidMosaic$Picture;") (List.mem_of_getElem? (i := 1) rfl)) (fun _ h9 => h9) rfl dX0_worth_1 ?_
  refine va_getN (D := D) (ci := 3) (v := .ref aC) (C := RX3) (T := TX3) (N := 5) hx hb hts i3 hown hK hP 1 rfl rfl 3 (by decide) (hN.f (a := RX0) (i := 53) (b := RX3) (n := "cells") (d := "LBidMosaic$Cells;") (h := RX5) (nx_mem (i := 126) (by decide +kernel) rfl)) (fun _ h9 => h9) rfl dX0_worth_4 ?_
  refine lv_iload_n hx hb dX0_worth_7 rfl (lv_at hl 1 rfl) ?_
  obtain ⟨r_8, q_8, h⟩ := bd1_some h
  refine fr_ro_i (S := Unit) (wc := [(aC, .inr (1, [.int vCn, .ref aCd]))]) (fr_VN (As := [.int x1]) (rest := []) (own := RX0) (host := RX5) (C := RX1) ⟨hx, hb, hml, hown, hts⟩ hN (tX1_has aC aCd vCn x1 r_8 q_8) gX0_worth_X1_has_n57 rfl (nx_mem (i := 312) (by decide +kernel) rfl) (List.mem_of_getElem? (i := 4) rfl) (List.mem_of_getElem? (i := 3) rfl) (List.mem_of_getElem? (i := 5) rfl) (fr_preV (As := [.int x1]) (b := aC) (ci := 1) (q0 := 4) (wc := [(aC, .inr (1, [.int vCn, .ref aCd]))]) hK hN hP hD [4] (by decide) rfl rfl rfl) (n := 1) (by decide +kernel) ⟨Nat.le_of_ble_eq_true rfl, Nat.le_of_ble_eq_true rfl⟩ rfl hl.1 rfl (Nat.le_of_ble_eq_true rfl) dX0_worth_8 ⟨Nat.zero_le _, Nat.zero_le _⟩) hP hD hS hA [4] rfl (c2 := 0) (s2 := 0) rfl rfl (fun H locs hP hS => ?_)
  refine lv_if_ne (tgt := 18) hx hb dX0_worth_11 (by decide) (fun c2 => ?_) (fun c2 => ?_)
  · have h := (if_neg c2).symm.trans h
    refine lv_iconst (v := (0 : Int32)) hx hb dX0_worth_18 (by decide) ?_
    exact hb19 x1 x2 (0 : Int32) H locs ls hP hD hS (lv_sub hl [0, 1, 2] rfl) h
  · have h := (if_pos c2).symm.trans h
    refine lv_iconst (v := (1 : Int32)) hx hb dX0_worth_14 (by decide) ?_
    refine lv_goto (tgt := 19) hx hb dX0_worth_15 (by decide) ?_
    exact hb19 x1 x2 (1 : Int32) H locs ls hP hD hS (lv_sub hl [0, 1, 2] rfl) h
def fX0_readWorths_b43 (vMo : Int32) (vKn : Int32) (fKd : Nat → Int32) (fKs : Nat → Int32) (vCn : Int32) (fCd : Nat → Int32) (k21 : Int32 → Int32 → (Nat → Int32) → Option (Int32 × (Nat → Int32))) : Nat → Int32 → Int32 → Int32 → Int32 → (Nat → Int32) → Option (Int32 × (Nat → Int32))
  | 0, _, _, _, _, _ => none
  | n + 1, x1, x2, x3, vSl, fWo =>
    if vSl ≤ x3 then
      k21 (x1 + 1) vSl fWo
    else
      bd1 (fX0_worth vSl vMo vKn fKd vCn fCd x3 x2) fun r_64 =>
      if (x3 * (16 : Int32)) + x1 < 0 ∨ 256 ≤ ((x3 * (16 : Int32)) + x1).toNatClampNeg then none else
      fX0_readWorths_b43 vMo vKn fKd fKs vCn fCd k21 n x1 x2 (x3 + 1) vSl (upd fWo (((x3 * (16 : Int32)) + x1).toNatClampNeg) r_64)
def fX0_readWorths_b21 (vMo : Int32) (vKn : Int32) (fKd : Nat → Int32) (fKs : Nat → Int32) (vCn : Int32) (fCd : Nat → Int32) : Nat → Int32 → Int32 → (Nat → Int32) → Option (Int32 × (Nat → Int32))
  | 0, _, _, _ => none
  | n + 1, x1, vSl, fWo =>
    if vSl ≤ x1 then
      some (vSl, fWo)
    else
      bd1 (fX2_ofSlot vKn fKs x1) fun r_37 =>
      fX0_readWorths_b43 vMo vKn fKd fKs vCn fCd (fun x1 vSl fWo => fX0_readWorths_b21 vMo vKn fKd fKs vCn fCd n x1 vSl fWo) FU x1 r_37 (0 : Int32) vSl fWo
def fX0_readWorths (vSl : Int32) (fWo : Nat → Int32) (vMo : Int32) (vKn : Int32) (fKd : Nat → Int32) (fKs : Nat → Int32) (vCn : Int32) (fCd : Nat → Int32) : Option (Int32 × (Nat → Int32)) :=
  bd1 (fX2_slots vKn fKs) fun r_8 =>
  bdv (if (16 : Int32) < r_8 then (16 : Int32) else r_8) fun x_13 =>
  fX0_readWorths_b21 vMo vKn fKd fKs vCn fCd FU (0 : Int32) x_13 fWo
abbrev rX0_readWorths : Room := { frames := 4, cells := 0, slots := 0, locals := 85 }
set_option maxHeartbeats 4000000 in
set_option maxRecDepth 100000 in
theorem tX0_readWorths {l : Launch} {D : va_G} {cI cZ cP : ClassId} (aB aW aP aK aKd aKs aC aCd aS : Nat) (vSl : Int32) (fWo : Nat → Int32) (vMo : Int32) (vSh : Int32) (vKn : Int32) (fKd : Nat → Int32) (fKs : Nat → Int32) (vCn : Int32) (fCd : Nat → Int32) (oSl : Int32) (oWo : Nat → Int32) (h : fX0_readWorths vSl fWo vMo vKn fKd fKs vCn fCd = some (oSl, oWo)) : CtV l D cI cZ cP yX0_readWorths wsX0_readWorths rX0_readWorths [.ref aB] [(aB, .inr (0, [.ref aP, .ref aS, .ref aW, .int vSl])), (aW, .inl (cI, 256, .inl fWo)), (aP, .inr (3, [.int vMo, .int vSh, .ref aK, .ref aC, .ref aS])), (aK, .inr (2, [.int vKn, .ref aKd, .ref aKs])), (aKd, .inl (cI, 8, .inl fKd)), (aKs, .inl (cI, 8, .inl fKs)), (aC, .inr (1, [.int vCn, .ref aCd])), (aCd, .inl (cI, 12, .inl fCd))] (fun _ : Unit => [(aB, .inr (0, [.ref aP, .ref aS, .ref aW, .int oSl])), (aW, .inl (cI, 256, .inl oWo)), (aP, .inr (3, [.int vMo, .int vSh, .ref aK, .ref aC, .ref aS])), (aK, .inr (2, [.int vKn, .ref aKd, .ref aKs])), (aKd, .inl (cI, 8, .inl fKd)), (aKs, .inl (cI, 8, .inl fKs)), (aC, .inr (1, [.int vCn, .ref aCd])), (aCd, .inl (cI, 12, .inl fCd))]) := by
  refine CtV.ofW (cc := cX0_readWorths) (maxL := 4) (by decide) rfl (Nat.le_of_ble_eq_true rfl) (lv := [(0, .ref aB)]) rfl ?_
  intro p e s m args below meth c A Q ls hx hb hml hown hts hK hN hP hD hS hA hl hin hret0
  have hown : s.vm.findClass RX0 = some m.cls := hown
  have i0 : ∀ w ∈ wsX00, w ∈ wsX0_readWorths := mem_ps [47, 48, 49, 50] rfl
  have i1 : ∀ w ∈ wsX10, w ∈ wsX0_readWorths := mem_ps [59, 60] rfl
  have i2 : ∀ w ∈ wsX20, w ∈ wsX0_readWorths := mem_ps [56, 57, 58] rfl
  have i3 : ∀ w ∈ wsX30, w ∈ wsX0_readWorths := mem_ps [51, 52, 53, 54, 55] rfl
  have hret : ∀ (zSl : Int32) (zWo : Nat → Int32) (pc : Nat) (ls : Array Slot) (H : Heap) (locs : List Loc), decode cX0_readWorths pc = .ok (.return_, 1) → va_P D vwCl [(aB, .inr (0, [.ref aP, .ref aS, .ref aW, .int zSl])), (aW, .inl (cI, 256, .inl zWo)), (aP, .inr (3, [.int vMo, .int vSh, .ref aK, .ref aC, .ref aS])), (aK, .inr (2, [.int vKn, .ref aKd, .ref aKs])), (aKd, .inl (cI, 8, .inl fKd)), (aKs, .inl (cI, 8, .inl fKs)), (aC, .inr (1, [.int vCn, .ref aCd])), (aCd, .inl (cI, 12, .inl fCd))] H → va_D A [(aB, .inr (0, [.ref aP, .ref aS, .ref aW, .int zSl])), (aW, .inl (cI, 256, .inl zWo)), (aP, .inr (3, [.int vMo, .int vSh, .ref aK, .ref aC, .ref aS])), (aK, .inr (2, [.int vKn, .ref aKd, .ref aKs])), (aKd, .inl (cI, 8, .inl fKd)), (aKs, .inl (cI, 8, .inl fKs)), (aC, .inr (1, [.int vCn, .ref aCd])), (aCd, .inl (cI, 12, .inl fCd))] → va_S A s.heap H locs → some (zSl, zWo) = some (oSl, oWo) → W p l e rX0_readWorths s m args below meth c H locs 0 0 Q (F0 m pc ls []) := by
    intro zSl zWo pc ls H locs hd hP hD hS h
    cases h
    exact hret0 pc ls H locs () hd hP hD hS
  clear hret0
  have hb43 : ∀ (k21 : Int32 → Int32 → (Nat → Int32) → Option (Int32 × (Nat → Int32))) (hk21 : ∀ (x1 : Int32) (vSl : Int32) (fWo : Nat → Int32) (H : Heap) (locs : List Loc) (ls : Array Slot), va_P D vwCl [(aB, .inr (0, [.ref aP, .ref aS, .ref aW, .int vSl])), (aW, .inl (cI, 256, .inl fWo)), (aP, .inr (3, [.int vMo, .int vSh, .ref aK, .ref aC, .ref aS])), (aK, .inr (2, [.int vKn, .ref aKd, .ref aKs])), (aKd, .inl (cI, 8, .inl fKd)), (aKs, .inl (cI, 8, .inl fKs)), (aC, .inr (1, [.int vCn, .ref aCd])), (aCd, .inl (cI, 12, .inl fCd))] H → va_D A [(aB, .inr (0, [.ref aP, .ref aS, .ref aW, .int vSl])), (aW, .inl (cI, 256, .inl fWo)), (aP, .inr (3, [.int vMo, .int vSh, .ref aK, .ref aC, .ref aS])), (aK, .inr (2, [.int vKn, .ref aKd, .ref aKs])), (aKd, .inl (cI, 8, .inl fKd)), (aKs, .inl (cI, 8, .inl fKs)), (aC, .inr (1, [.int vCn, .ref aCd])), (aCd, .inl (cI, 12, .inl fCd))] → va_S A s.heap H locs → lv_has ls 4 [(0, .ref aB), (1, .int x1)] → k21 x1 vSl fWo = some (oSl, oWo) → W p l e rX0_readWorths s m args below meth c H locs 0 0 Q (F0 m 21 ls [])) (n : Nat) (x1 : Int32) (x2 : Int32) (x3 : Int32) (vSl : Int32) (fWo : Nat → Int32) (H : Heap) (locs : List Loc) (ls : Array Slot), va_P D vwCl [(aB, .inr (0, [.ref aP, .ref aS, .ref aW, .int vSl])), (aW, .inl (cI, 256, .inl fWo)), (aP, .inr (3, [.int vMo, .int vSh, .ref aK, .ref aC, .ref aS])), (aK, .inr (2, [.int vKn, .ref aKd, .ref aKs])), (aKd, .inl (cI, 8, .inl fKd)), (aKs, .inl (cI, 8, .inl fKs)), (aC, .inr (1, [.int vCn, .ref aCd])), (aCd, .inl (cI, 12, .inl fCd))] H → va_D A [(aB, .inr (0, [.ref aP, .ref aS, .ref aW, .int vSl])), (aW, .inl (cI, 256, .inl fWo)), (aP, .inr (3, [.int vMo, .int vSh, .ref aK, .ref aC, .ref aS])), (aK, .inr (2, [.int vKn, .ref aKd, .ref aKs])), (aKd, .inl (cI, 8, .inl fKd)), (aKs, .inl (cI, 8, .inl fKs)), (aC, .inr (1, [.int vCn, .ref aCd])), (aCd, .inl (cI, 12, .inl fCd))] → va_S A s.heap H locs → lv_has ls 4 [(0, .ref aB), (1, .int x1), (2, .int x2), (3, .int x3)] → fX0_readWorths_b43 vMo vKn fKd fKs vCn fCd k21 n x1 x2 x3 vSl fWo = some (oSl, oWo) → W p l e rX0_readWorths s m args below meth c H locs 0 0 Q (F0 m 43 ls []) := by
    intro k21 hk21 n
    induction n with
    | zero => intro x1 x2 x3 vSl fWo H locs ls hP hD hS hl h; exact absurd h (by rw [fX0_readWorths_b43]; exact fun z => by cases z)
    | succ n ih =>
      intro x1 x2 x3 vSl fWo H locs ls hP hD hS hl h
      rw [fX0_readWorths_b43] at h
      refine lv_iload_n hx hb dX0_readWorths_43 rfl (lv_at hl 3 rfl) ?_
      refine lv_aload_n hx hb dX0_readWorths_44 rfl (lv_at hl 0 rfl) ?_
      refine va_get (D := D) (ci := 0) (v := .int vSl) (C := RX0) (T := TX0) (N := 4) hx hb hts i0 hown hK hP 0 rfl rfl 3 (by decide) (hts (.fieldLink RX0 43 RX0 "slots" "I") (List.mem_of_getElem? (i := 6) rfl)) (fun _ h9 => h9) rfl dX0_readWorths_45 ?_
      refine lv_icmp_ge (tgt := 74) hx hb dX0_readWorths_48 (by decide) (fun c1 => ?_) (fun c1 => ?_)
      · have h := (if_pos c1).symm.trans h
        refine lv_iinc (v := x1 + 1) (lv' := [(1, .int (x1 + 1)), (0, .ref aB), (2, .int x2), (3, .int x3)]) hx hb dX0_readWorths_74 hl (k := 1) rfl rfl (by decide) rfl (fun ls hl => ?_)
        refine lv_goto (tgt := 21) hx hb dX0_readWorths_77 (by decide) ?_
        exact hk21 (x1 + 1) vSl fWo H locs ls hP hD hS (lv_sub hl [1, 0] rfl) h
      · have h := (if_neg c1).symm.trans h
        refine lv_aload_n hx hb dX0_readWorths_51 rfl (lv_at hl 0 rfl) ?_
        refine va_get (D := D) (ci := 0) (v := .ref aW) (C := RX0) (T := TX0) (N := 4) hx hb hts i0 hown hK hP 0 rfl rfl 2 (by decide) (hts (.fieldLink RX0 23 RX0 "worths" "[I") (List.mem_of_getElem? (i := 7) rfl)) (fun _ h9 => h9) rfl dX0_readWorths_52 ?_
        refine lv_iload_n hx hb dX0_readWorths_55 rfl (lv_at hl 3 rfl) ?_
        refine lv_bipush (v := (16 : Int32)) hx hb dX0_readWorths_56 (by decide) ?_
        refine lv_imul hx hb dX0_readWorths_58 ?_
        refine lv_iload_n hx hb dX0_readWorths_59 rfl (lv_at hl 1 rfl) ?_
        refine lv_iadd hx hb dX0_readWorths_60 ?_
        refine lv_aload_n hx hb dX0_readWorths_61 rfl (lv_at hl 0 rfl) ?_
        refine lv_iload_n hx hb dX0_readWorths_62 rfl (lv_at hl 3 rfl) ?_
        refine lv_iload_n hx hb dX0_readWorths_63 rfl (lv_at hl 2 rfl) ?_
        obtain ⟨r_64, q_64, h⟩ := bd1_some h
        refine fr_ro_i (S := Unit) (wc := [(aB, .inr (0, [.ref aP, .ref aS, .ref aW, .int vSl])), (aP, .inr (3, [.int vMo, .int vSh, .ref aK, .ref aC, .ref aS])), (aK, .inr (2, [.int vKn, .ref aKd, .ref aKs])), (aKd, .inl (cI, 8, .inl fKd)), (aC, .inr (1, [.int vCn, .ref aCd])), (aCd, .inl (cI, 12, .inl fCd))]) (fr_V (As := [.int x3, .int x2]) (rest := [.int ((x3 * (16 : Int32)) + x1), .ref aW]) (C := RX0) ⟨hx, hb, hml, hown, hts⟩ (tX0_worth aB aP aK aKd aC aCd aS aW aKs vSl vMo vSh vKn fKd vCn fCd x3 x2 r_64 q_64) gX0_readWorths_X0_worth rfl (fr_preV (As := [.int x3, .int x2]) (b := aB) (ci := 0) (q0 := 0) (wc := [(aB, .inr (0, [.ref aP, .ref aS, .ref aW, .int vSl])), (aP, .inr (3, [.int vMo, .int vSh, .ref aK, .ref aC, .ref aS])), (aK, .inr (2, [.int vKn, .ref aKd, .ref aKs])), (aKd, .inl (cI, 8, .inl fKd)), (aC, .inr (1, [.int vCn, .ref aCd])), (aCd, .inl (cI, 12, .inl fCd))]) hK hN hP hD [0, 2, 3, 4, 6, 7] (by decide) rfl rfl rfl) (n := 2) (by decide +kernel) ⟨Nat.le_of_ble_eq_true rfl, Nat.le_of_ble_eq_true rfl⟩ rfl hl.1 rfl (Nat.le_of_ble_eq_true rfl) dX0_readWorths_64 ⟨Nat.zero_le _, Nat.zero_le _⟩) hP hD hS hA [0, 2, 3, 4, 6, 7] rfl (c2 := 0) (s2 := 0) rfl rfl (fun H locs hP hS => ?_)
        obtain ⟨g2, h⟩ := no_some h
        refine va_iast hx hb hK hP hD hS 1 0 rfl rfl g2 dX0_readWorths_67 (fun H locs hP hD hS => ?_)
        have hP : va_P D vwCl [(aB, .inr (0, [.ref aP, .ref aS, .ref aW, .int vSl])), (aW, .inl (cI, 256, .inl (upd fWo (((x3 * (16 : Int32)) + x1).toNatClampNeg) r_64))), (aP, .inr (3, [.int vMo, .int vSh, .ref aK, .ref aC, .ref aS])), (aK, .inr (2, [.int vKn, .ref aKd, .ref aKs])), (aKd, .inl (cI, 8, .inl fKd)), (aKs, .inl (cI, 8, .inl fKs)), (aC, .inr (1, [.int vCn, .ref aCd])), (aCd, .inl (cI, 12, .inl fCd))] H := hP
        have hD : va_D A [(aB, .inr (0, [.ref aP, .ref aS, .ref aW, .int vSl])), (aW, .inl (cI, 256, .inl (upd fWo (((x3 * (16 : Int32)) + x1).toNatClampNeg) r_64))), (aP, .inr (3, [.int vMo, .int vSh, .ref aK, .ref aC, .ref aS])), (aK, .inr (2, [.int vKn, .ref aKd, .ref aKs])), (aKd, .inl (cI, 8, .inl fKd)), (aKs, .inl (cI, 8, .inl fKs)), (aC, .inr (1, [.int vCn, .ref aCd])), (aCd, .inl (cI, 12, .inl fCd))] := hD
        refine lv_iinc (v := x3 + 1) (lv' := [(3, .int (x3 + 1)), (0, .ref aB), (1, .int x1), (2, .int x2)]) hx hb dX0_readWorths_68 hl (k := 3) rfl rfl (by decide) rfl (fun ls hl => ?_)
        refine lv_goto (tgt := 43) hx hb dX0_readWorths_71 (by decide) ?_
        exact ih x1 x2 (x3 + 1) vSl (upd fWo (((x3 * (16 : Int32)) + x1).toNatClampNeg) r_64) H locs ls hP hD hS (lv_sub hl [1, 2, 3, 0] rfl) h
  have hb21 : ∀ (n : Nat) (x1 : Int32) (vSl : Int32) (fWo : Nat → Int32) (H : Heap) (locs : List Loc) (ls : Array Slot), va_P D vwCl [(aB, .inr (0, [.ref aP, .ref aS, .ref aW, .int vSl])), (aW, .inl (cI, 256, .inl fWo)), (aP, .inr (3, [.int vMo, .int vSh, .ref aK, .ref aC, .ref aS])), (aK, .inr (2, [.int vKn, .ref aKd, .ref aKs])), (aKd, .inl (cI, 8, .inl fKd)), (aKs, .inl (cI, 8, .inl fKs)), (aC, .inr (1, [.int vCn, .ref aCd])), (aCd, .inl (cI, 12, .inl fCd))] H → va_D A [(aB, .inr (0, [.ref aP, .ref aS, .ref aW, .int vSl])), (aW, .inl (cI, 256, .inl fWo)), (aP, .inr (3, [.int vMo, .int vSh, .ref aK, .ref aC, .ref aS])), (aK, .inr (2, [.int vKn, .ref aKd, .ref aKs])), (aKd, .inl (cI, 8, .inl fKd)), (aKs, .inl (cI, 8, .inl fKs)), (aC, .inr (1, [.int vCn, .ref aCd])), (aCd, .inl (cI, 12, .inl fCd))] → va_S A s.heap H locs → lv_has ls 4 [(0, .ref aB), (1, .int x1)] → fX0_readWorths_b21 vMo vKn fKd fKs vCn fCd n x1 vSl fWo = some (oSl, oWo) → W p l e rX0_readWorths s m args below meth c H locs 0 0 Q (F0 m 21 ls []) := by
    intro n
    induction n with
    | zero => intro x1 vSl fWo H locs ls hP hD hS hl h; exact absurd h (by rw [fX0_readWorths_b21]; exact fun z => by cases z)
    | succ n ih =>
      intro x1 vSl fWo H locs ls hP hD hS hl h
      rw [fX0_readWorths_b21] at h
      refine lv_iload_n hx hb dX0_readWorths_21 rfl (lv_at hl 1 rfl) ?_
      refine lv_aload_n hx hb dX0_readWorths_22 rfl (lv_at hl 0 rfl) ?_
      refine va_get (D := D) (ci := 0) (v := .int vSl) (C := RX0) (T := TX0) (N := 4) hx hb hts i0 hown hK hP 0 rfl rfl 3 (by decide) (hts (.fieldLink RX0 43 RX0 "slots" "I") (List.mem_of_getElem? (i := 6) rfl)) (fun _ h9 => h9) rfl dX0_readWorths_23 ?_
      refine lv_icmp_ge (tgt := 80) hx hb dX0_readWorths_26 (by decide) (fun c3 => ?_) (fun c3 => ?_)
      · have h := (if_pos c3).symm.trans h
        exact hret vSl fWo 80 ls H locs dX0_readWorths_80 hP hD hS h
      · have h := (if_neg c3).symm.trans h
        refine lv_aload_n hx hb dX0_readWorths_29 rfl (lv_at hl 0 rfl) ?_
        refine va_get (D := D) (ci := 0) (v := .ref aP) (C := RX0) (T := TX0) (N := 4) hx hb hts i0 hown hK hP 0 rfl rfl 0 (by decide) (hts (.fieldLink RX0 12 RX0 "picture" "LBidMosaic$Picture;") (List.mem_of_getElem? (i := 1) rfl)) (fun _ h9 => h9) rfl dX0_readWorths_30 ?_
        refine va_getN (D := D) (ci := 3) (v := .ref aK) (C := RX3) (T := TX3) (N := 5) hx hb hts i3 hown hK hP 2 rfl rfl 2 (by decide) (hN.f (a := RX0) (i := 27) (b := RX3) (n := "kinds") (d := "LBidMosaic$Kinds;") (h := RX5) (nx_mem (i := 123) (by decide +kernel) rfl)) (fun _ h9 => h9) rfl dX0_readWorths_33 ?_
        refine lv_iload_n hx hb dX0_readWorths_36 rfl (lv_at hl 1 rfl) ?_
        obtain ⟨r_37, q_37, h⟩ := bd1_some h
        refine fr_ro_i (S := Unit) (wc := [(aK, .inr (2, [.int vKn, .ref aKd, .ref aKs])), (aKs, .inl (cI, 8, .inl fKs))]) (fr_VN (As := [.int x1]) (rest := []) (own := RX0) (host := RX5) (C := RX2) ⟨hx, hb, hml, hown, hts⟩ hN (tX2_ofSlot aK aKs aKd vKn fKs x1 r_37 q_37) gX0_readWorths_X2_ofSlot_n46 rfl (nx_mem (i := 307) (by decide +kernel) rfl) (List.mem_of_getElem? (i := 9) rfl) (List.mem_of_getElem? (i := 18) rfl) (List.mem_of_getElem? (i := 19) rfl) (fr_preV (As := [.int x1]) (b := aK) (ci := 2) (q0 := 3) (wc := [(aK, .inr (2, [.int vKn, .ref aKd, .ref aKs])), (aKs, .inl (cI, 8, .inl fKs))]) hK hN hP hD [3, 5] (by decide) rfl rfl rfl) (n := 1) (by decide +kernel) ⟨Nat.le_of_ble_eq_true rfl, Nat.le_of_ble_eq_true rfl⟩ rfl hl.1 rfl (Nat.le_of_ble_eq_true rfl) dX0_readWorths_37 ⟨Nat.zero_le _, Nat.zero_le _⟩) hP hD hS hA [3, 5] rfl (c2 := 0) (s2 := 0) rfl rfl (fun H locs hP hS => ?_)
        refine lv_istore_n (lv' := [(2, .int r_37), (0, .ref aB), (1, .int x1)]) hx hb dX0_readWorths_40 rfl hl (by decide) rfl (fun ls hl => ?_)
        refine lv_iconst (v := (0 : Int32)) hx hb dX0_readWorths_41 (by decide) ?_
        refine lv_istore_n (lv' := [(3, .int (0 : Int32)), (2, .int r_37), (0, .ref aB), (1, .int x1)]) hx hb dX0_readWorths_42 rfl hl (by decide) rfl (fun ls hl => ?_)
        exact hb43 (fun x1 vSl fWo => fX0_readWorths_b21 vMo vKn fKd fKs vCn fCd n x1 vSl fWo) ih FU x1 r_37 (0 : Int32) vSl fWo H locs ls hP hD hS (lv_sub hl [2, 3, 1, 0] rfl) h
  unfold fX0_readWorths at h
  obtain ⟨H, hH⟩ : ∃ H, H = s.heap := ⟨_, rfl⟩
  have hP : va_P D vwCl [(aB, .inr (0, [.ref aP, .ref aS, .ref aW, .int vSl])), (aW, .inl (cI, 256, .inl fWo)), (aP, .inr (3, [.int vMo, .int vSh, .ref aK, .ref aC, .ref aS])), (aK, .inr (2, [.int vKn, .ref aKd, .ref aKs])), (aKd, .inl (cI, 8, .inl fKd)), (aKs, .inl (cI, 8, .inl fKs)), (aC, .inr (1, [.int vCn, .ref aCd])), (aCd, .inl (cI, 12, .inl fCd))] H := by rw [hH]; exact hP
  obtain ⟨locs, hlocs⟩ : ∃ x : List Loc, x = [] := ⟨_, rfl⟩
  have hS : va_S A s.heap H locs := by rw [hH, hlocs]; exact hS
  suffices hgo : W p l e rX0_readWorths s m args below meth c H locs 0 0 Q (F0 m 0 ls []) by rw [hH, hlocs] at hgo; exact hgo
  refine lv_aload_n hx hb dX0_readWorths_0 rfl (lv_at hl 0 rfl) ?_
  refine lv_aload_n hx hb dX0_readWorths_1 rfl (lv_at hl 0 rfl) ?_
  refine va_get (D := D) (ci := 0) (v := .ref aP) (C := RX0) (T := TX0) (N := 4) hx hb hts i0 hown hK hP 0 rfl rfl 0 (by decide) (hts (.fieldLink RX0 12 RX0 "picture" "LBidMosaic$Picture;") (List.mem_of_getElem? (i := 1) rfl)) (fun _ h9 => h9) rfl dX0_readWorths_2 ?_
  refine va_getN (D := D) (ci := 3) (v := .ref aK) (C := RX3) (T := TX3) (N := 5) hx hb hts i3 hown hK hP 2 rfl rfl 2 (by decide) (hN.f (a := RX0) (i := 27) (b := RX3) (n := "kinds") (d := "LBidMosaic$Kinds;") (h := RX5) (nx_mem (i := 123) (by decide +kernel) rfl)) (fun _ h9 => h9) rfl dX0_readWorths_5 ?_
  obtain ⟨r_8, q_8, h⟩ := bd1_some h
  refine fr_ro_i (S := Unit) (wc := [(aK, .inr (2, [.int vKn, .ref aKd, .ref aKs])), (aKs, .inl (cI, 8, .inl fKs))]) (fr_VN (As := []) (rest := [.ref aB]) (own := RX0) (host := RX5) (C := RX2) ⟨hx, hb, hml, hown, hts⟩ hN (tX2_slots aK aKs aKd vKn fKs r_8 q_8) gX0_readWorths_X2_slots_n31 rfl (nx_mem (i := 303) (by decide +kernel) rfl) (List.mem_of_getElem? (i := 9) rfl) (List.mem_of_getElem? (i := 8) rfl) (List.mem_of_getElem? (i := 10) rfl) (fr_preV (As := []) (b := aK) (ci := 2) (q0 := 3) (wc := [(aK, .inr (2, [.int vKn, .ref aKd, .ref aKs])), (aKs, .inl (cI, 8, .inl fKs))]) hK hN hP hD [3, 5] (by decide) rfl rfl rfl) (n := 0) (by decide +kernel) ⟨Nat.le_of_ble_eq_true rfl, Nat.le_of_ble_eq_true rfl⟩ rfl hl.1 rfl (Nat.le_of_ble_eq_true rfl) dX0_readWorths_8 ⟨Nat.zero_le _, Nat.zero_le _⟩) hP hD hS hA [3, 5] rfl (c2 := 0) (s2 := 0) rfl rfl (fun H locs hP hS => ?_)
  refine lv_bipush (v := (16 : Int32)) hx hb dX0_readWorths_11 (by decide) ?_
  refine va_mmin hx hb (hml.trans hl.1.symm) hown (hts (.methodLink RX0 37 Lib.Math.min.name) (List.mem_of_getElem? (i := 2) rfl)) (hts (.static Lib.Math.min.name) (List.mem_of_getElem? (i := 3) rfl)) (hts (.initialized "java/lang/Math") (List.mem_of_getElem? (i := 4) rfl)) (hts (.code Lib.Math.min.name Lib.Math.min.code 2 (some .int)) (List.mem_of_getElem? (i := 5) rfl)) (Nat.le_of_ble_eq_true rfl) (Nat.le_of_ble_eq_true rfl) (Nat.zero_le _) (Nat.zero_le _) dX0_readWorths_13 ?_
  refine lv_topi (fun x_13 ex_13 => ?_)
  have h := bdv_some ex_13 h
  refine va_put (D := D) (ci := 0) (v := .int x_13) (ty := .int) (C := RX0) (T := TX0) (N := 4) hx hb hts i0 tyX0 tyX0_ok nmX0 hown hK hP hD hS 0 rfl rfl 3 (by decide) (hts (.fieldLink RX0 43 RX0 "slots" "I") (List.mem_of_getElem? (i := 6) rfl)) (fun _ h9 => h9) rfl (by decide +kernel) rfl rfl (Nat.le_of_ble_eq_true rfl) dX0_readWorths_16 (fun H locs hP hD hS => ?_)
  have hP : va_P D vwCl [(aB, .inr (0, [.ref aP, .ref aS, .ref aW, .int x_13])), (aW, .inl (cI, 256, .inl fWo)), (aP, .inr (3, [.int vMo, .int vSh, .ref aK, .ref aC, .ref aS])), (aK, .inr (2, [.int vKn, .ref aKd, .ref aKs])), (aKd, .inl (cI, 8, .inl fKd)), (aKs, .inl (cI, 8, .inl fKs)), (aC, .inr (1, [.int vCn, .ref aCd])), (aCd, .inl (cI, 12, .inl fCd))] H := hP
  have hD : va_D A [(aB, .inr (0, [.ref aP, .ref aS, .ref aW, .int x_13])), (aW, .inl (cI, 256, .inl fWo)), (aP, .inr (3, [.int vMo, .int vSh, .ref aK, .ref aC, .ref aS])), (aK, .inr (2, [.int vKn, .ref aKd, .ref aKs])), (aKd, .inl (cI, 8, .inl fKd)), (aKs, .inl (cI, 8, .inl fKs)), (aC, .inr (1, [.int vCn, .ref aCd])), (aCd, .inl (cI, 12, .inl fCd))] := hD
  refine lv_iconst (v := (0 : Int32)) hx hb dX0_readWorths_19 (by decide) ?_
  refine lv_istore_n (lv' := [(1, .int (0 : Int32)), (0, .ref aB)]) hx hb dX0_readWorths_20 rfl hl (by decide) rfl (fun ls hl => ?_)
  exact hb21 FU (0 : Int32) x_13 fWo H locs ls hP hD hS (lv_sub hl [1, 0] rfl) h
def fX0_leastFree_b10 (vSl : Int32) (fHe : Nat → Int32) : Nat → Int32 → Option (Int32)
  | 0, _ => none
  | n + 1, x2 =>
    if vSl ≤ x2 then
      some (-6 : Int32)
    else
      if (16 : Int32) ≤ x2 then
        some (-6 : Int32)
      else
        if x2 < 0 ∨ 16 ≤ x2.toNatClampNeg then none else
        if (fHe x2.toNatClampNeg) = (-6 : Int32) then
          some x2
        else
          fX0_leastFree_b10 vSl fHe n (x2 + 1)
def fX0_leastFree (vSl : Int32) (fHe : Nat → Int32) : Option (Int32) :=
  fX0_leastFree_b10 vSl fHe FU (0 : Int32)
abbrev rX0_leastFree : Room := { frames := 0, cells := 0, slots := 0, locals := 0 }
set_option maxHeartbeats 4000000 in
set_option maxRecDepth 100000 in
theorem tX0_leastFree {l : Launch} {D : va_G} {cI cZ cP : ClassId} (aB aS aHe aP aW aPr aHo aSt aPb aPs : Nat) (vSl : Int32) (vVa : Int32) (vCo : Int32) (vBi : Int32) (vPh : Int32) (fHe : Nat → Int32) (r : Int32) (h : fX0_leastFree vSl fHe = some r) : CtI l D cI cZ cP yX0_leastFree wsX0_leastFree rX0_leastFree [.ref aB] [(aB, .inr (0, [.ref aP, .ref aS, .ref aW, .int vSl])), (aS, .inr (4, [.int vVa, .int vCo, .int vBi, .int vPh, .ref aPr, .ref aHo, .ref aHe, .ref aSt, .ref aPb, .ref aPs])), (aHe, .inl (cI, 16, .inl fHe))] (fun _ : Unit => [(aB, .inr (0, [.ref aP, .ref aS, .ref aW, .int vSl])), (aS, .inr (4, [.int vVa, .int vCo, .int vBi, .int vPh, .ref aPr, .ref aHo, .ref aHe, .ref aSt, .ref aPb, .ref aPs])), (aHe, .inl (cI, 16, .inl fHe))]) r := by
  refine CtI.ofW (cc := cX0_leastFree) (maxL := 3) (by decide) rfl (Nat.le_of_ble_eq_true rfl) (lv := [(0, .ref aB)]) rfl ?_
  intro p e s m args below meth c A Q ls hx hb hml hown hts hK hN hP hD hS hA hl hret0
  have hown : s.vm.findClass RX0 = some m.cls := hown
  have i0 : ∀ w ∈ wsX00, w ∈ wsX0_leastFree := mem_ps [3, 4, 5, 6] rfl
  have i4 : ∀ w ∈ wsX40, w ∈ wsX0_leastFree := mem_ps [7, 8, 9, 10, 11, 12, 13, 14, 15, 16] rfl
  have hret : ∀ (v : Int32) (pc : Nat) (ls : Array Slot) (H : Heap) (locs : List Loc), narrow .int (.int v) = .int v → decode cX0_leastFree pc = .ok (.ireturn, 1) → va_P D vwCl [(aB, .inr (0, [.ref aP, .ref aS, .ref aW, .int vSl])), (aS, .inr (4, [.int vVa, .int vCo, .int vBi, .int vPh, .ref aPr, .ref aHo, .ref aHe, .ref aSt, .ref aPb, .ref aPs])), (aHe, .inl (cI, 16, .inl fHe))] H → va_D A [(aB, .inr (0, [.ref aP, .ref aS, .ref aW, .int vSl])), (aS, .inr (4, [.int vVa, .int vCo, .int vBi, .int vPh, .ref aPr, .ref aHo, .ref aHe, .ref aSt, .ref aPb, .ref aPs])), (aHe, .inl (cI, 16, .inl fHe))] → va_S A s.heap H locs → some v = some r → W p l e rX0_leastFree s m args below meth c H locs 0 0 Q (F0 m pc ls [.int v]) := by
    intro v pc ls H locs hn hd hP hD hS h
    cases h
    exact hret0 pc ls H locs () hn hd hP hD hS
  clear hret0
  have hb10 : ∀ (n : Nat) (x2 : Int32) (H : Heap) (locs : List Loc) (ls : Array Slot), va_P D vwCl [(aB, .inr (0, [.ref aP, .ref aS, .ref aW, .int vSl])), (aS, .inr (4, [.int vVa, .int vCo, .int vBi, .int vPh, .ref aPr, .ref aHo, .ref aHe, .ref aSt, .ref aPb, .ref aPs])), (aHe, .inl (cI, 16, .inl fHe))] H → va_D A [(aB, .inr (0, [.ref aP, .ref aS, .ref aW, .int vSl])), (aS, .inr (4, [.int vVa, .int vCo, .int vBi, .int vPh, .ref aPr, .ref aHo, .ref aHe, .ref aSt, .ref aPb, .ref aPs])), (aHe, .inl (cI, 16, .inl fHe))] → va_S A s.heap H locs → lv_has ls 3 [(0, .ref aB), (1, .ref aHe), (2, .int x2)] → fX0_leastFree_b10 vSl fHe n x2 = some r → W p l e rX0_leastFree s m args below meth c H locs 0 0 Q (F0 m 10 ls []) := by
    intro n
    induction n with
    | zero => intro x2 H locs ls hP hD hS hl h; exact absurd h (by rw [fX0_leastFree_b10]; exact fun z => by cases z)
    | succ n ih =>
      intro x2 H locs ls hP hD hS hl h
      rw [fX0_leastFree_b10] at h
      refine lv_iload_n hx hb dX0_leastFree_10 rfl (lv_at hl 2 rfl) ?_
      refine lv_aload_n hx hb dX0_leastFree_11 rfl (lv_at hl 0 rfl) ?_
      refine va_get (D := D) (ci := 0) (v := .int vSl) (C := RX0) (T := TX0) (N := 4) hx hb hts i0 hown hK hP 0 rfl rfl 3 (by decide) (hts (.fieldLink RX0 43 RX0 "slots" "I") (List.mem_of_getElem? (i := 2) rfl)) (fun _ h9 => h9) rfl dX0_leastFree_12 ?_
      refine lv_icmp_ge (tgt := 40) hx hb dX0_leastFree_15 (by decide) (fun c1 => ?_) (fun c1 => ?_)
      · have h := (if_pos c1).symm.trans h
        refine lv_bipush (v := (-6 : Int32)) hx hb dX0_leastFree_40 (by decide) ?_
        exact hret (-6 : Int32) 42 ls H locs rfl dX0_leastFree_42 hP hD hS h
      · have h := (if_neg c1).symm.trans h
        refine lv_iload_n hx hb dX0_leastFree_18 rfl (lv_at hl 2 rfl) ?_
        refine lv_aload_n hx hb dX0_leastFree_19 rfl (lv_at hl 1 rfl) ?_
        refine va_alen (v := (16 : Int32)) hx hb hK hP 2 0 rfl rfl rfl dX0_leastFree_20 ?_
        refine lv_icmp_ge (tgt := 40) hx hb dX0_leastFree_21 (by decide) (fun c2 => ?_) (fun c2 => ?_)
        · have h := (if_pos c2).symm.trans h
          refine lv_bipush (v := (-6 : Int32)) hx hb dX0_leastFree_40 (by decide) ?_
          exact hret (-6 : Int32) 42 ls H locs rfl dX0_leastFree_42 hP hD hS h
        · have h := (if_neg c2).symm.trans h
          refine lv_aload_n hx hb dX0_leastFree_24 rfl (lv_at hl 1 rfl) ?_
          refine lv_iload_n hx hb dX0_leastFree_25 rfl (lv_at hl 2 rfl) ?_
          obtain ⟨g3, h⟩ := no_some h
          refine va_iald hx hb hK hP 2 0 rfl rfl g3 dX0_leastFree_26 ?_
          refine lv_bipush (v := (-6 : Int32)) hx hb dX0_leastFree_27 (by decide) ?_
          refine lv_icmp_ne (tgt := 34) hx hb dX0_leastFree_29 (by decide) (fun c4 => ?_) (fun c4 => ?_)
          · have h := (if_neg c4).symm.trans h
            refine lv_iinc (v := x2 + 1) (lv' := [(2, .int (x2 + 1)), (0, .ref aB), (1, .ref aHe)]) hx hb dX0_leastFree_34 hl (k := 2) rfl rfl (by decide) rfl (fun ls hl => ?_)
            refine lv_goto (tgt := 10) hx hb dX0_leastFree_37 (by decide) ?_
            exact ih (x2 + 1) H locs ls hP hD hS (lv_sub hl [1, 2, 0] rfl) h
          · have h := (if_pos c4).symm.trans h
            refine lv_iload_n hx hb dX0_leastFree_32 rfl (lv_at hl 2 rfl) ?_
            exact hret x2 33 ls H locs rfl dX0_leastFree_33 hP hD hS h
  unfold fX0_leastFree at h
  obtain ⟨H, hH⟩ : ∃ H, H = s.heap := ⟨_, rfl⟩
  have hP : va_P D vwCl [(aB, .inr (0, [.ref aP, .ref aS, .ref aW, .int vSl])), (aS, .inr (4, [.int vVa, .int vCo, .int vBi, .int vPh, .ref aPr, .ref aHo, .ref aHe, .ref aSt, .ref aPb, .ref aPs])), (aHe, .inl (cI, 16, .inl fHe))] H := by rw [hH]; exact hP
  obtain ⟨locs, hlocs⟩ : ∃ x : List Loc, x = [] := ⟨_, rfl⟩
  have hS : va_S A s.heap H locs := by rw [hH, hlocs]; exact hS
  suffices hgo : W p l e rX0_leastFree s m args below meth c H locs 0 0 Q (F0 m 0 ls []) by rw [hH, hlocs] at hgo; exact hgo
  refine lv_aload_n hx hb dX0_leastFree_0 rfl (lv_at hl 0 rfl) ?_
  refine va_get (D := D) (ci := 0) (v := .ref aS) (C := RX0) (T := TX0) (N := 4) hx hb hts i0 hown hK hP 0 rfl rfl 1 (by decide) (hts (.fieldLink RX0 22 RX0 "sale" "LBidMosaic$Sale;") (List.mem_of_getElem? (i := 1) rfl)) (fun _ h9 => h9) rfl dX0_leastFree_1 ?_
  refine va_getN (D := D) (ci := 4) (v := .ref aHe) (C := RX4) (T := TX4) (N := 10) hx hb hts i4 hown hK hP 1 rfl rfl 6 (by decide) (hN.f (a := RX0) (i := 120) (b := RX4) (n := "held") (d := "[I") (h := RX5) (nx_mem (i := 89) (by decide +kernel) rfl)) (fun _ h9 => h9) rfl dX0_leastFree_4 ?_
  refine lv_astore_n (lv' := [(1, .ref aHe), (0, .ref aB)]) hx hb dX0_leastFree_7 rfl hl (by decide) rfl (fun ls hl => ?_)
  refine lv_iconst (v := (0 : Int32)) hx hb dX0_leastFree_8 (by decide) ?_
  refine lv_istore_n (lv' := [(2, .int (0 : Int32)), (1, .ref aHe), (0, .ref aB)]) hx hb dX0_leastFree_9 rfl hl (by decide) rfl (fun ls hl => ?_)
  exact hb10 FU (0 : Int32) H locs ls hP hD hS (lv_sub hl [2, 1, 0] rfl) h
def fX0_makeBid_b54 (vSl : Int32) (fWo : Nat → Int32) : Nat → Int32 → Int32 → Int32 → Int32 → Int32 → Int32 → Int32 → (Nat → Int32) → (Nat → Int32) → (Nat → Int32) → Option ((Nat → Int32) × (Nat → Int32) × (Nat → Int32))
  | 0, _, _, _, _, _, _, _, _, _, _ => none
  | n + 1, x1, x2, x4, x5, x6, x7, x8, fPr, fHo, fHe =>
    if vSl ≤ x8 then
      if x5 < 0 ∨ 16 ≤ x5.toNatClampNeg then none else
      if x5 < 0 ∨ 16 ≤ x5.toNatClampNeg then none else
      bd2 (fX4_give fHo fHe x5 x1) fun fHo_146 fHe_146 =>
      some (upd fPr x5.toNatClampNeg ((fPr x5.toNatClampNeg) + ((x6 - x7) + x2)), fHo_146, fHe_146)
    else
      if x4 + x8 < 0 ∨ 256 ≤ (x4 + x8).toNatClampNeg then none else
      if x8 < 0 ∨ 16 ≤ x8.toNatClampNeg then none else
      bdv ((fWo ((x4 + x8).toNatClampNeg)) - (fPr x8.toNatClampNeg)) fun x9_78 =>
      if x9_78 ≤ x6 then
        if x8 = (1 : Int32) then
          fX0_makeBid_b54 vSl fWo n x1 x2 x4 x5 x6 x9_78 (x8 + 1) fPr fHo fHe
        else
          if x9_78 ≤ x7 then
            fX0_makeBid_b54 vSl fWo n x1 x2 x4 x5 x6 x7 (x8 + 1) fPr fHo fHe
          else
            fX0_makeBid_b54 vSl fWo n x1 x2 x4 x5 x6 x9_78 (x8 + 1) fPr fHo fHe
      else
        fX0_makeBid_b54 vSl fWo n x1 x2 x4 x8 x9_78 x6 (x8 + 1) fPr fHo fHe
def fX0_makeBid (vSl : Int32) (fWo : Nat → Int32) (fPr : Nat → Int32) (fHo : Nat → Int32) (fHe : Nat → Int32) (x1 : Int32) (x2 : Int32) : Option ((Nat → Int32) × (Nat → Int32) × (Nat → Int32)) :=
  bd1 (fX4_isInRow x1) fun r_1 =>
  if r_1 = 0 then
    some (fPr, fHo, fHe)
  else
    if vSl ≤ (16 : Int32) then
      bdv (x1 * (16 : Int32)) fun x4_29 =>
      if x4_29 < 0 ∨ 256 ≤ x4_29.toNatClampNeg then none else
      bdv ((fWo x4_29.toNatClampNeg) - (fPr 0)) fun x6_45 =>
      fX0_makeBid_b54 vSl fWo FU x1 x2 x4_29 (0 : Int32) x6_45 x6_45 (1 : Int32) fPr fHo fHe
    else
      some (fPr, fHo, fHe)
abbrev rX0_makeBid : Room := { frames := 2, cells := 0, slots := 0, locals := 43 }
set_option maxHeartbeats 4000000 in
set_option maxRecDepth 100000 in
theorem tX0_makeBid {l : Launch} {D : va_G} {cI cZ cP : ClassId} (aB aW aS aPr aHo aHe aP aSt aPb aPs : Nat) (vSl : Int32) (fWo : Nat → Int32) (vVa : Int32) (vCo : Int32) (vBi : Int32) (vPh : Int32) (fPr : Nat → Int32) (fHo : Nat → Int32) (fHe : Nat → Int32) (x1 : Int32) (x2 : Int32) (oPr : Nat → Int32) (oHo : Nat → Int32) (oHe : Nat → Int32) (h : fX0_makeBid vSl fWo fPr fHo fHe x1 x2 = some (oPr, oHo, oHe)) : CtV l D cI cZ cP yX0_makeBid wsX0_makeBid rX0_makeBid [.ref aB, .int x1, .int x2] [(aB, .inr (0, [.ref aP, .ref aS, .ref aW, .int vSl])), (aW, .inl (cI, 256, .inl fWo)), (aS, .inr (4, [.int vVa, .int vCo, .int vBi, .int vPh, .ref aPr, .ref aHo, .ref aHe, .ref aSt, .ref aPb, .ref aPs])), (aPr, .inl (cI, 16, .inl fPr)), (aHo, .inl (cI, 16, .inl fHo)), (aHe, .inl (cI, 16, .inl fHe))] (fun _ : Unit => [(aB, .inr (0, [.ref aP, .ref aS, .ref aW, .int vSl])), (aW, .inl (cI, 256, .inl fWo)), (aS, .inr (4, [.int vVa, .int vCo, .int vBi, .int vPh, .ref aPr, .ref aHo, .ref aHe, .ref aSt, .ref aPb, .ref aPs])), (aPr, .inl (cI, 16, .inl oPr)), (aHo, .inl (cI, 16, .inl oHo)), (aHe, .inl (cI, 16, .inl oHe))]) := by
  refine CtV.ofW (cc := cX0_makeBid) (maxL := 10) (by decide) rfl (Nat.le_of_ble_eq_true rfl) (lv := [(0, .ref aB), (1, .int x1), (2, .int x2)]) rfl ?_
  intro p e s m args below meth c A Q ls hx hb hml hown hts hK hN hP hD hS hA hl hin hret0
  have hown : s.vm.findClass RX0 = some m.cls := hown
  have i0 : ∀ w ∈ wsX00, w ∈ wsX0_makeBid := mem_ps [13, 14, 15, 16] rfl
  have i4 : ∀ w ∈ wsX40, w ∈ wsX0_makeBid := mem_ps [17, 18, 19, 20, 21, 22, 23, 24, 25, 26] rfl
  have hret : ∀ (zPr : Nat → Int32) (zHo : Nat → Int32) (zHe : Nat → Int32) (pc : Nat) (ls : Array Slot) (H : Heap) (locs : List Loc), decode cX0_makeBid pc = .ok (.return_, 1) → va_P D vwCl [(aB, .inr (0, [.ref aP, .ref aS, .ref aW, .int vSl])), (aW, .inl (cI, 256, .inl fWo)), (aS, .inr (4, [.int vVa, .int vCo, .int vBi, .int vPh, .ref aPr, .ref aHo, .ref aHe, .ref aSt, .ref aPb, .ref aPs])), (aPr, .inl (cI, 16, .inl zPr)), (aHo, .inl (cI, 16, .inl zHo)), (aHe, .inl (cI, 16, .inl zHe))] H → va_D A [(aB, .inr (0, [.ref aP, .ref aS, .ref aW, .int vSl])), (aW, .inl (cI, 256, .inl fWo)), (aS, .inr (4, [.int vVa, .int vCo, .int vBi, .int vPh, .ref aPr, .ref aHo, .ref aHe, .ref aSt, .ref aPb, .ref aPs])), (aPr, .inl (cI, 16, .inl zPr)), (aHo, .inl (cI, 16, .inl zHo)), (aHe, .inl (cI, 16, .inl zHe))] → va_S A s.heap H locs → some (zPr, zHo, zHe) = some (oPr, oHo, oHe) → W p l e rX0_makeBid s m args below meth c H locs 0 0 Q (F0 m pc ls []) := by
    intro zPr zHo zHe pc ls H locs hd hP hD hS h
    cases h
    exact hret0 pc ls H locs () hd hP hD hS
  clear hret0
  have hb54 : ∀ (n : Nat) (x1 : Int32) (x2 : Int32) (x4 : Int32) (x5 : Int32) (x6 : Int32) (x7 : Int32) (x8 : Int32) (fPr : Nat → Int32) (fHo : Nat → Int32) (fHe : Nat → Int32) (H : Heap) (locs : List Loc) (ls : Array Slot), va_P D vwCl [(aB, .inr (0, [.ref aP, .ref aS, .ref aW, .int vSl])), (aW, .inl (cI, 256, .inl fWo)), (aS, .inr (4, [.int vVa, .int vCo, .int vBi, .int vPh, .ref aPr, .ref aHo, .ref aHe, .ref aSt, .ref aPb, .ref aPs])), (aPr, .inl (cI, 16, .inl fPr)), (aHo, .inl (cI, 16, .inl fHo)), (aHe, .inl (cI, 16, .inl fHe))] H → va_D A [(aB, .inr (0, [.ref aP, .ref aS, .ref aW, .int vSl])), (aW, .inl (cI, 256, .inl fWo)), (aS, .inr (4, [.int vVa, .int vCo, .int vBi, .int vPh, .ref aPr, .ref aHo, .ref aHe, .ref aSt, .ref aPb, .ref aPs])), (aPr, .inl (cI, 16, .inl fPr)), (aHo, .inl (cI, 16, .inl fHo)), (aHe, .inl (cI, 16, .inl fHe))] → va_S A s.heap H locs → lv_has ls 10 [(0, .ref aB), (1, .int x1), (2, .int x2), (3, .ref aPr), (4, .int x4), (5, .int x5), (6, .int x6), (7, .int x7), (8, .int x8)] → fX0_makeBid_b54 vSl fWo n x1 x2 x4 x5 x6 x7 x8 fPr fHo fHe = some (oPr, oHo, oHe) → W p l e rX0_makeBid s m args below meth c H locs 0 0 Q (F0 m 54 ls []) := by
    intro n
    induction n with
    | zero => intro x1 x2 x4 x5 x6 x7 x8 fPr fHo fHe H locs ls hP hD hS hl h; exact absurd h (by rw [fX0_makeBid_b54]; exact fun z => by cases z)
    | succ n ih =>
      intro x1 x2 x4 x5 x6 x7 x8 fPr fHo fHe H locs ls hP hD hS hl h
      rw [fX0_makeBid_b54] at h
      refine lv_iload hx hb dX0_makeBid_54 (lv_at hl 8 rfl) ?_
      refine lv_aload_n hx hb dX0_makeBid_56 rfl (lv_at hl 0 rfl) ?_
      refine va_get (D := D) (ci := 0) (v := .int vSl) (C := RX0) (T := TX0) (N := 4) hx hb hts i0 hown hK hP 0 rfl rfl 3 (by decide) (hts (.fieldLink RX0 43 RX0 "slots" "I") (List.mem_of_getElem? (i := 1) rfl)) (fun _ h9 => h9) rfl dX0_makeBid_57 ?_
      refine lv_icmp_ge (tgt := 125) hx hb dX0_makeBid_60 (by decide) (fun c1 => ?_) (fun c1 => ?_)
      · have h := (if_pos c1).symm.trans h
        refine lv_aload_n hx hb dX0_makeBid_125 rfl (lv_at hl 3 rfl) ?_
        refine lv_iload hx hb dX0_makeBid_126 (lv_at hl 5 rfl) ?_
        refine lv_dup2_11 hx hb dX0_makeBid_128 rfl rfl ?_
        obtain ⟨g2, h⟩ := no_some h
        refine va_iald hx hb hK hP 3 0 rfl rfl g2 dX0_makeBid_129 ?_
        refine lv_iload hx hb dX0_makeBid_130 (lv_at hl 6 rfl) ?_
        refine lv_iload hx hb dX0_makeBid_132 (lv_at hl 7 rfl) ?_
        refine lv_isub hx hb dX0_makeBid_134 ?_
        refine lv_iload_n hx hb dX0_makeBid_135 rfl (lv_at hl 2 rfl) ?_
        refine lv_iadd hx hb dX0_makeBid_136 ?_
        refine lv_iadd hx hb dX0_makeBid_137 ?_
        obtain ⟨g3, h⟩ := no_some h
        refine va_iast hx hb hK hP hD hS 3 0 rfl rfl g3 dX0_makeBid_138 (fun H locs hP hD hS => ?_)
        have hP : va_P D vwCl [(aB, .inr (0, [.ref aP, .ref aS, .ref aW, .int vSl])), (aW, .inl (cI, 256, .inl fWo)), (aS, .inr (4, [.int vVa, .int vCo, .int vBi, .int vPh, .ref aPr, .ref aHo, .ref aHe, .ref aSt, .ref aPb, .ref aPs])), (aPr, .inl (cI, 16, .inl (upd fPr x5.toNatClampNeg ((fPr x5.toNatClampNeg) + ((x6 - x7) + x2))))), (aHo, .inl (cI, 16, .inl fHo)), (aHe, .inl (cI, 16, .inl fHe))] H := hP
        have hD : va_D A [(aB, .inr (0, [.ref aP, .ref aS, .ref aW, .int vSl])), (aW, .inl (cI, 256, .inl fWo)), (aS, .inr (4, [.int vVa, .int vCo, .int vBi, .int vPh, .ref aPr, .ref aHo, .ref aHe, .ref aSt, .ref aPb, .ref aPs])), (aPr, .inl (cI, 16, .inl (upd fPr x5.toNatClampNeg ((fPr x5.toNatClampNeg) + ((x6 - x7) + x2))))), (aHo, .inl (cI, 16, .inl fHo)), (aHe, .inl (cI, 16, .inl fHe))] := hD
        refine lv_aload_n hx hb dX0_makeBid_139 rfl (lv_at hl 0 rfl) ?_
        refine va_get (D := D) (ci := 0) (v := .ref aS) (C := RX0) (T := TX0) (N := 4) hx hb hts i0 hown hK hP 0 rfl rfl 1 (by decide) (hts (.fieldLink RX0 22 RX0 "sale" "LBidMosaic$Sale;") (List.mem_of_getElem? (i := 2) rfl)) (fun _ h9 => h9) rfl dX0_makeBid_140 ?_
        refine lv_iload hx hb dX0_makeBid_143 (lv_at hl 5 rfl) ?_
        refine lv_iload_n hx hb dX0_makeBid_145 rfl (lv_at hl 1 rfl) ?_
        obtain ⟨fHo_146, fHe_146, q_146, h⟩ := bd2_some h
        refine fr_rw_v (S := Unit) (wc := [(aS, .inr (4, [.int vVa, .int vCo, .int vBi, .int vPh, .ref aPr, .ref aHo, .ref aHe, .ref aSt, .ref aPb, .ref aPs])), (aHo, .inl (cI, 16, .inl fHo)), (aHe, .inl (cI, 16, .inl fHe))]) (wc' := fun _ => [(aS, .inr (4, [.int vVa, .int vCo, .int vBi, .int vPh, .ref aPr, .ref aHo, .ref aHe, .ref aSt, .ref aPb, .ref aPs])), (aHo, .inl (cI, 16, .inl fHo_146)), (aHe, .inl (cI, 16, .inl fHe_146))]) (wr := [(aB, .inr (0, [.ref aP, .ref aS, .ref aW, .int vSl])), (aW, .inl (cI, 256, .inl fWo)), (aPr, .inl (cI, 16, .inl (upd fPr x5.toNatClampNeg ((fPr x5.toNatClampNeg) + ((x6 - x7) + x2)))))]) (w2 := fun _ => [(aB, .inr (0, [.ref aP, .ref aS, .ref aW, .int vSl])), (aW, .inl (cI, 256, .inl fWo)), (aS, .inr (4, [.int vVa, .int vCo, .int vBi, .int vPh, .ref aPr, .ref aHo, .ref aHe, .ref aSt, .ref aPb, .ref aPs])), (aPr, .inl (cI, 16, .inl (upd fPr x5.toNatClampNeg ((fPr x5.toNatClampNeg) + ((x6 - x7) + x2))))), (aHo, .inl (cI, 16, .inl fHo_146)), (aHe, .inl (cI, 16, .inl fHe_146))]) (fr_VNv (As := [.int x5, .int x1]) (rest := []) (own := RX0) (host := RX5) (C := RX4) ⟨hx, hb, hml, hown, hts⟩ hN (tX4_give aS aHo aHe aPr aSt aPb aPs vVa vCo vBi vPh fHo fHe x5 x1 fHo_146 fHe_146 q_146) gX0_makeBid_X4_give_n129 rfl (nx_mem (i := 349) (by decide +kernel) rfl) (List.mem_of_getElem? (i := 5) rfl) (List.mem_of_getElem? (i := 7) rfl) (List.mem_of_getElem? (i := 8) rfl) (fr_preV (As := [.int x5, .int x1]) (b := aS) (ci := 4) (q0 := 2) (wc := [(aS, .inr (4, [.int vVa, .int vCo, .int vBi, .int vPh, .ref aPr, .ref aHo, .ref aHe, .ref aSt, .ref aPb, .ref aPs])), (aHo, .inl (cI, 16, .inl fHo)), (aHe, .inl (cI, 16, .inl fHe))]) hK hN hP hD [2, 4, 5] (by decide) rfl rfl rfl) (n := 2) (by decide +kernel) ⟨Nat.le_of_ble_eq_true rfl, Nat.le_of_ble_eq_true rfl⟩ rfl hl.1 rfl (Nat.le_of_ble_eq_true rfl) dX0_makeBid_146 ⟨Nat.zero_le _, Nat.zero_le _⟩) hP hD hS hA [2, 4, 5] [0, 1, 3] [0, 1, 3, 2, 4, 5] rfl rfl (by decide) (by decide) (by decide) (fun _ => rfl) (c2 := 0) (s2 := 0) rfl rfl (fun _ H locs hP hD hS => ?_)
        exact hret (upd fPr x5.toNatClampNeg ((fPr x5.toNatClampNeg) + ((x6 - x7) + x2))) fHo_146 fHe_146 149 ls H locs dX0_makeBid_149 hP hD hS h
      · have h := (if_neg c1).symm.trans h
        refine lv_aload_n hx hb dX0_makeBid_63 rfl (lv_at hl 0 rfl) ?_
        refine va_get (D := D) (ci := 0) (v := .ref aW) (C := RX0) (T := TX0) (N := 4) hx hb hts i0 hown hK hP 0 rfl rfl 2 (by decide) (hts (.fieldLink RX0 23 RX0 "worths" "[I") (List.mem_of_getElem? (i := 3) rfl)) (fun _ h9 => h9) rfl dX0_makeBid_64 ?_
        refine lv_iload hx hb dX0_makeBid_67 (lv_at hl 4 rfl) ?_
        refine lv_iload hx hb dX0_makeBid_69 (lv_at hl 8 rfl) ?_
        refine lv_iadd hx hb dX0_makeBid_71 ?_
        obtain ⟨g4, h⟩ := no_some h
        refine va_iald hx hb hK hP 1 0 rfl rfl g4 dX0_makeBid_72 ?_
        refine lv_aload_n hx hb dX0_makeBid_73 rfl (lv_at hl 3 rfl) ?_
        refine lv_iload hx hb dX0_makeBid_74 (lv_at hl 8 rfl) ?_
        obtain ⟨g5, h⟩ := no_some h
        refine va_iald hx hb hK hP 3 0 rfl rfl g5 dX0_makeBid_76 ?_
        refine lv_isub hx hb dX0_makeBid_77 ?_
        refine lv_topi (fun x9_78 ex9_78 => ?_)
        have h := bdv_some ex9_78 h
        refine lv_istore (lv' := [(9, .int x9_78), (0, .ref aB), (1, .int x1), (2, .int x2), (3, .ref aPr), (4, .int x4), (5, .int x5), (6, .int x6), (7, .int x7), (8, .int x8)]) hx hb dX0_makeBid_78 hl (by decide) rfl (fun ls hl => ?_)
        refine lv_iload hx hb dX0_makeBid_80 (lv_at hl 0 rfl) ?_
        refine lv_iload hx hb dX0_makeBid_82 (lv_at hl 7 rfl) ?_
        refine lv_icmp_le (tgt := 102) hx hb dX0_makeBid_84 (by decide) (fun c6 => ?_) (fun c6 => ?_)
        · have h := (if_pos c6).symm.trans h
          refine lv_iload hx hb dX0_makeBid_102 (lv_at hl 9 rfl) ?_
          refine lv_iconst (v := (1 : Int32)) hx hb dX0_makeBid_104 (by decide) ?_
          refine lv_icmp_eq (tgt := 115) hx hb dX0_makeBid_105 (by decide) (fun c7 => ?_) (fun c7 => ?_)
          · have h := (if_pos c7).symm.trans h
            refine lv_iload hx hb dX0_makeBid_115 (lv_at hl 0 rfl) ?_
            refine lv_istore (lv' := [(7, .int x9_78), (9, .int x9_78), (0, .ref aB), (1, .int x1), (2, .int x2), (3, .ref aPr), (4, .int x4), (5, .int x5), (6, .int x6), (8, .int x8)]) hx hb dX0_makeBid_117 hl (by decide) rfl (fun ls hl => ?_)
            refine lv_iinc (v := x8 + 1) (lv' := [(8, .int (x8 + 1)), (7, .int x9_78), (9, .int x9_78), (0, .ref aB), (1, .int x1), (2, .int x2), (3, .ref aPr), (4, .int x4), (5, .int x5), (6, .int x6)]) hx hb dX0_makeBid_119 hl (k := 9) rfl rfl (by decide) rfl (fun ls hl => ?_)
            refine lv_goto (tgt := 54) hx hb dX0_makeBid_122 (by decide) ?_
            exact ih x1 x2 x4 x5 x6 x9_78 (x8 + 1) fPr fHo fHe H locs ls hP hD hS (lv_sub hl [3, 4, 5, 6, 7, 8, 9, 1, 0] rfl) h
          · have h := (if_neg c7).symm.trans h
            refine lv_iload hx hb dX0_makeBid_108 (lv_at hl 0 rfl) ?_
            refine lv_iload hx hb dX0_makeBid_110 (lv_at hl 8 rfl) ?_
            refine lv_icmp_le (tgt := 119) hx hb dX0_makeBid_112 (by decide) (fun c8 => ?_) (fun c8 => ?_)
            · have h := (if_pos c8).symm.trans h
              refine lv_iinc (v := x8 + 1) (lv' := [(8, .int (x8 + 1)), (9, .int x9_78), (0, .ref aB), (1, .int x1), (2, .int x2), (3, .ref aPr), (4, .int x4), (5, .int x5), (6, .int x6), (7, .int x7)]) hx hb dX0_makeBid_119 hl (k := 9) rfl rfl (by decide) rfl (fun ls hl => ?_)
              refine lv_goto (tgt := 54) hx hb dX0_makeBid_122 (by decide) ?_
              exact ih x1 x2 x4 x5 x6 x7 (x8 + 1) fPr fHo fHe H locs ls hP hD hS (lv_sub hl [2, 3, 4, 5, 6, 7, 8, 9, 0] rfl) h
            · have h := (if_neg c8).symm.trans h
              refine lv_iload hx hb dX0_makeBid_115 (lv_at hl 0 rfl) ?_
              refine lv_istore (lv' := [(7, .int x9_78), (9, .int x9_78), (0, .ref aB), (1, .int x1), (2, .int x2), (3, .ref aPr), (4, .int x4), (5, .int x5), (6, .int x6), (8, .int x8)]) hx hb dX0_makeBid_117 hl (by decide) rfl (fun ls hl => ?_)
              refine lv_iinc (v := x8 + 1) (lv' := [(8, .int (x8 + 1)), (7, .int x9_78), (9, .int x9_78), (0, .ref aB), (1, .int x1), (2, .int x2), (3, .ref aPr), (4, .int x4), (5, .int x5), (6, .int x6)]) hx hb dX0_makeBid_119 hl (k := 9) rfl rfl (by decide) rfl (fun ls hl => ?_)
              refine lv_goto (tgt := 54) hx hb dX0_makeBid_122 (by decide) ?_
              exact ih x1 x2 x4 x5 x6 x9_78 (x8 + 1) fPr fHo fHe H locs ls hP hD hS (lv_sub hl [3, 4, 5, 6, 7, 8, 9, 1, 0] rfl) h
        · have h := (if_neg c6).symm.trans h
          refine lv_iload hx hb dX0_makeBid_87 (lv_at hl 7 rfl) ?_
          refine lv_istore (lv' := [(7, .int x6), (9, .int x9_78), (0, .ref aB), (1, .int x1), (2, .int x2), (3, .ref aPr), (4, .int x4), (5, .int x5), (6, .int x6), (8, .int x8)]) hx hb dX0_makeBid_89 hl (by decide) rfl (fun ls hl => ?_)
          refine lv_iload hx hb dX0_makeBid_91 (lv_at hl 1 rfl) ?_
          refine lv_istore (lv' := [(6, .int x9_78), (7, .int x6), (9, .int x9_78), (0, .ref aB), (1, .int x1), (2, .int x2), (3, .ref aPr), (4, .int x4), (5, .int x5), (8, .int x8)]) hx hb dX0_makeBid_93 hl (by decide) rfl (fun ls hl => ?_)
          refine lv_iload hx hb dX0_makeBid_95 (lv_at hl 9 rfl) ?_
          refine lv_istore (lv' := [(5, .int x8), (6, .int x9_78), (7, .int x6), (9, .int x9_78), (0, .ref aB), (1, .int x1), (2, .int x2), (3, .ref aPr), (4, .int x4), (8, .int x8)]) hx hb dX0_makeBid_97 hl (by decide) rfl (fun ls hl => ?_)
          refine lv_goto (tgt := 119) hx hb dX0_makeBid_99 (by decide) ?_
          refine lv_iinc (v := x8 + 1) (lv' := [(8, .int (x8 + 1)), (5, .int x8), (6, .int x9_78), (7, .int x6), (9, .int x9_78), (0, .ref aB), (1, .int x1), (2, .int x2), (3, .ref aPr), (4, .int x4)]) hx hb dX0_makeBid_119 hl (k := 9) rfl rfl (by decide) rfl (fun ls hl => ?_)
          refine lv_goto (tgt := 54) hx hb dX0_makeBid_122 (by decide) ?_
          exact ih x1 x2 x4 x8 x9_78 x6 (x8 + 1) fPr fHo fHe H locs ls hP hD hS (lv_sub hl [5, 6, 7, 8, 9, 1, 2, 3, 0] rfl) h
  unfold fX0_makeBid at h
  obtain ⟨H, hH⟩ : ∃ H, H = s.heap := ⟨_, rfl⟩
  have hP : va_P D vwCl [(aB, .inr (0, [.ref aP, .ref aS, .ref aW, .int vSl])), (aW, .inl (cI, 256, .inl fWo)), (aS, .inr (4, [.int vVa, .int vCo, .int vBi, .int vPh, .ref aPr, .ref aHo, .ref aHe, .ref aSt, .ref aPb, .ref aPs])), (aPr, .inl (cI, 16, .inl fPr)), (aHo, .inl (cI, 16, .inl fHo)), (aHe, .inl (cI, 16, .inl fHe))] H := by rw [hH]; exact hP
  obtain ⟨locs, hlocs⟩ : ∃ x : List Loc, x = [] := ⟨_, rfl⟩
  have hS : va_S A s.heap H locs := by rw [hH, hlocs]; exact hS
  suffices hgo : W p l e rX0_makeBid s m args below meth c H locs 0 0 Q (F0 m 0 ls []) by rw [hH, hlocs] at hgo; exact hgo
  refine lv_iload_n hx hb dX0_makeBid_0 rfl (lv_at hl 1 rfl) ?_
  obtain ⟨r_1, q_1, h⟩ := bd1_some h
  refine fr_ro_i (S := Unit) (wc := []) (fr_SN (As := [.int x1]) (rest := []) (own := RX0) (host := RX5) ⟨hx, hb, hml, hown, hts⟩ hN (tX4_isInRow x1 r_1 q_1) gX0_makeBid_X4_isInRow_n123 rfl (nx_mem (i := 348) (by decide +kernel) rfl) (List.mem_of_getElem? (i := 5) rfl) (List.mem_of_getElem? (i := 4) rfl) (fr_pre (As := [.int x1]) (wc := []) hK hN hP hD [] (by decide) rfl) (n := 1) (by decide +kernel) ⟨Nat.le_of_ble_eq_true rfl, Nat.le_of_ble_eq_true rfl⟩ rfl hl.1 rfl (Nat.le_of_ble_eq_true rfl) dX0_makeBid_1 ⟨Nat.zero_le _, Nat.zero_le _⟩) hP hD hS hA [] rfl (c2 := 0) (s2 := 0) rfl rfl (fun H locs hP hS => ?_)
  refine lv_if_eq (tgt := 16) hx hb dX0_makeBid_4 (by decide) (fun c9 => ?_) (fun c9 => ?_)
  · have h := (if_pos c9).symm.trans h
    exact hret fPr fHo fHe 16 ls H locs dX0_makeBid_16 hP hD hS h
  · have h := (if_neg c9).symm.trans h
    refine lv_aload_n hx hb dX0_makeBid_7 rfl (lv_at hl 0 rfl) ?_
    refine va_get (D := D) (ci := 0) (v := .int vSl) (C := RX0) (T := TX0) (N := 4) hx hb hts i0 hown hK hP 0 rfl rfl 3 (by decide) (hts (.fieldLink RX0 43 RX0 "slots" "I") (List.mem_of_getElem? (i := 1) rfl)) (fun _ h9 => h9) rfl dX0_makeBid_8 ?_
    refine lv_bipush (v := (16 : Int32)) hx hb dX0_makeBid_11 (by decide) ?_
    refine lv_icmp_le (tgt := 17) hx hb dX0_makeBid_13 (by decide) (fun c10 => ?_) (fun c10 => ?_)
    · have h := (if_pos c10).symm.trans h
      refine lv_aload_n hx hb dX0_makeBid_17 rfl (lv_at hl 0 rfl) ?_
      refine va_get (D := D) (ci := 0) (v := .ref aS) (C := RX0) (T := TX0) (N := 4) hx hb hts i0 hown hK hP 0 rfl rfl 1 (by decide) (hts (.fieldLink RX0 22 RX0 "sale" "LBidMosaic$Sale;") (List.mem_of_getElem? (i := 2) rfl)) (fun _ h9 => h9) rfl dX0_makeBid_18 ?_
      refine va_getN (D := D) (ci := 4) (v := .ref aPr) (C := RX4) (T := TX4) (N := 10) hx hb hts i4 hown hK hP 2 rfl rfl 4 (by decide) (hN.f (a := RX0) (i := 126) (b := RX4) (n := "prices") (d := "[I") (h := RX5) (nx_mem (i := 84) (by decide +kernel) rfl)) (fun _ h9 => h9) rfl dX0_makeBid_21 ?_
      refine lv_astore_n (lv' := [(3, .ref aPr), (0, .ref aB), (1, .int x1), (2, .int x2)]) hx hb dX0_makeBid_24 rfl hl (by decide) rfl (fun ls hl => ?_)
      refine lv_iload_n hx hb dX0_makeBid_25 rfl (lv_at hl 2 rfl) ?_
      refine lv_bipush (v := (16 : Int32)) hx hb dX0_makeBid_26 (by decide) ?_
      refine lv_imul hx hb dX0_makeBid_28 ?_
      refine lv_topi (fun x4_29 ex4_29 => ?_)
      have h := bdv_some ex4_29 h
      refine lv_istore (lv' := [(4, .int x4_29), (3, .ref aPr), (0, .ref aB), (1, .int x1), (2, .int x2)]) hx hb dX0_makeBid_29 hl (by decide) rfl (fun ls hl => ?_)
      refine lv_iconst (v := (0 : Int32)) hx hb dX0_makeBid_31 (by decide) ?_
      refine lv_istore (lv' := [(5, .int (0 : Int32)), (4, .int x4_29), (3, .ref aPr), (0, .ref aB), (1, .int x1), (2, .int x2)]) hx hb dX0_makeBid_32 hl (by decide) rfl (fun ls hl => ?_)
      refine lv_aload_n hx hb dX0_makeBid_34 rfl (lv_at hl 3 rfl) ?_
      refine va_get (D := D) (ci := 0) (v := .ref aW) (C := RX0) (T := TX0) (N := 4) hx hb hts i0 hown hK hP 0 rfl rfl 2 (by decide) (hts (.fieldLink RX0 23 RX0 "worths" "[I") (List.mem_of_getElem? (i := 3) rfl)) (fun _ h9 => h9) rfl dX0_makeBid_35 ?_
      refine lv_iload hx hb dX0_makeBid_38 (lv_at hl 1 rfl) ?_
      obtain ⟨g11, h⟩ := no_some h
      refine va_iald hx hb hK hP 1 0 rfl rfl g11 dX0_makeBid_40 ?_
      refine lv_aload_n hx hb dX0_makeBid_41 rfl (lv_at hl 2 rfl) ?_
      refine lv_iconst (v := (0 : Int32)) hx hb dX0_makeBid_42 (by decide) ?_
      refine fr_iald (j := 0) hx hb hK hP 3 0 rfl rfl (by decide) (vin_of 0 16 (0 : Int32) (by decide) (by decide) (by decide)) dX0_makeBid_43 ?_
      refine lv_isub hx hb dX0_makeBid_44 ?_
      refine lv_topi (fun x6_45 ex6_45 => ?_)
      have h := bdv_some ex6_45 h
      refine lv_istore (lv' := [(6, .int x6_45), (5, .int (0 : Int32)), (4, .int x4_29), (3, .ref aPr), (0, .ref aB), (1, .int x1), (2, .int x2)]) hx hb dX0_makeBid_45 hl (by decide) rfl (fun ls hl => ?_)
      refine lv_iload hx hb dX0_makeBid_47 (lv_at hl 0 rfl) ?_
      refine lv_istore (lv' := [(7, .int x6_45), (6, .int x6_45), (5, .int (0 : Int32)), (4, .int x4_29), (3, .ref aPr), (0, .ref aB), (1, .int x1), (2, .int x2)]) hx hb dX0_makeBid_49 hl (by decide) rfl (fun ls hl => ?_)
      refine lv_iconst (v := (1 : Int32)) hx hb dX0_makeBid_51 (by decide) ?_
      refine lv_istore (lv' := [(8, .int (1 : Int32)), (7, .int x6_45), (6, .int x6_45), (5, .int (0 : Int32)), (4, .int x4_29), (3, .ref aPr), (0, .ref aB), (1, .int x1), (2, .int x2)]) hx hb dX0_makeBid_52 hl (by decide) rfl (fun ls hl => ?_)
      exact hb54 FU x1 x2 x4_29 (0 : Int32) x6_45 x6_45 (1 : Int32) fPr fHo fHe H locs ls hP hD hS (lv_sub hl [6, 7, 8, 5, 4, 3, 2, 1, 0] rfl) h
    · have h := (if_neg c10).symm.trans h
      exact hret fPr fHo fHe 16 ls H locs dX0_makeBid_16 hP hD hS h
def fX0_bidTillNoneIsFree_b2 (vSl : Int32) (fWo : Nat → Int32) : Nat → Int32 → Int32 → (Nat → Int32) → (Nat → Int32) → (Nat → Int32) → Option (Int32 × (Nat → Int32) × (Nat → Int32) × (Nat → Int32))
  | 0, _, _, _, _, _ => none
  | n + 1, x1, x2, fPr, fHo, fHe =>
    if (1000000 : Int32) ≤ x2 then
      some ((1000000 : Int32), fPr, fHo, fHe)
    else
      bd1 (fX0_leastFree vSl fHe) fun r_9 =>
      if r_9 = (-6 : Int32) then
        some (x2, fPr, fHo, fHe)
      else
        bd3 (fX0_makeBid vSl fWo fPr fHo fHe r_9 x1) fun fPr_24 fHo_24 fHe_24 =>
        fX0_bidTillNoneIsFree_b2 vSl fWo n x1 (x2 + 1) fPr_24 fHo_24 fHe_24
def fX0_bidTillNoneIsFree (vSl : Int32) (fWo : Nat → Int32) (fPr : Nat → Int32) (fHo : Nat → Int32) (fHe : Nat → Int32) (x1 : Int32) : Option (Int32 × (Nat → Int32) × (Nat → Int32) × (Nat → Int32)) :=
  fX0_bidTillNoneIsFree_b2 vSl fWo FU x1 (0 : Int32) fPr fHo fHe
abbrev rX0_bidTillNoneIsFree : Room := { frames := 3, cells := 0, slots := 0, locals := 72 }
set_option maxHeartbeats 4000000 in
set_option maxRecDepth 100000 in
theorem tX0_bidTillNoneIsFree {l : Launch} {D : va_G} {cI cZ cP : ClassId} (aB aW aS aPr aHo aHe aP aSt aPb aPs : Nat) (vSl : Int32) (fWo : Nat → Int32) (vVa : Int32) (vCo : Int32) (vBi : Int32) (vPh : Int32) (fPr : Nat → Int32) (fHo : Nat → Int32) (fHe : Nat → Int32) (x1 : Int32) (r : Int32) (oPr : Nat → Int32) (oHo : Nat → Int32) (oHe : Nat → Int32) (h : fX0_bidTillNoneIsFree vSl fWo fPr fHo fHe x1 = some (r, oPr, oHo, oHe)) : CtI l D cI cZ cP yX0_bidTillNoneIsFree wsX0_bidTillNoneIsFree rX0_bidTillNoneIsFree [.ref aB, .int x1] [(aB, .inr (0, [.ref aP, .ref aS, .ref aW, .int vSl])), (aW, .inl (cI, 256, .inl fWo)), (aS, .inr (4, [.int vVa, .int vCo, .int vBi, .int vPh, .ref aPr, .ref aHo, .ref aHe, .ref aSt, .ref aPb, .ref aPs])), (aPr, .inl (cI, 16, .inl fPr)), (aHo, .inl (cI, 16, .inl fHo)), (aHe, .inl (cI, 16, .inl fHe))] (fun _ : Unit => [(aB, .inr (0, [.ref aP, .ref aS, .ref aW, .int vSl])), (aW, .inl (cI, 256, .inl fWo)), (aS, .inr (4, [.int vVa, .int vCo, .int vBi, .int vPh, .ref aPr, .ref aHo, .ref aHe, .ref aSt, .ref aPb, .ref aPs])), (aPr, .inl (cI, 16, .inl oPr)), (aHo, .inl (cI, 16, .inl oHo)), (aHe, .inl (cI, 16, .inl oHe))]) r := by
  refine CtI.ofW (cc := cX0_bidTillNoneIsFree) (maxL := 4) (by decide) rfl (Nat.le_of_ble_eq_true rfl) (lv := [(0, .ref aB), (1, .int x1)]) rfl ?_
  intro p e s m args below meth c A Q ls hx hb hml hown hts hK hN hP hD hS hA hl hret0
  have hown : s.vm.findClass RX0 = some m.cls := hown
  have i0 : ∀ w ∈ wsX00, w ∈ wsX0_bidTillNoneIsFree := mem_ps [23, 24, 25, 26] rfl
  have i4 : ∀ w ∈ wsX40, w ∈ wsX0_bidTillNoneIsFree := mem_ps [27, 28, 29, 30, 31, 32, 33, 34, 35, 36] rfl
  have hret : ∀ (v : Int32) (zPr : Nat → Int32) (zHo : Nat → Int32) (zHe : Nat → Int32) (pc : Nat) (ls : Array Slot) (H : Heap) (locs : List Loc), narrow .int (.int v) = .int v → decode cX0_bidTillNoneIsFree pc = .ok (.ireturn, 1) → va_P D vwCl [(aB, .inr (0, [.ref aP, .ref aS, .ref aW, .int vSl])), (aW, .inl (cI, 256, .inl fWo)), (aS, .inr (4, [.int vVa, .int vCo, .int vBi, .int vPh, .ref aPr, .ref aHo, .ref aHe, .ref aSt, .ref aPb, .ref aPs])), (aPr, .inl (cI, 16, .inl zPr)), (aHo, .inl (cI, 16, .inl zHo)), (aHe, .inl (cI, 16, .inl zHe))] H → va_D A [(aB, .inr (0, [.ref aP, .ref aS, .ref aW, .int vSl])), (aW, .inl (cI, 256, .inl fWo)), (aS, .inr (4, [.int vVa, .int vCo, .int vBi, .int vPh, .ref aPr, .ref aHo, .ref aHe, .ref aSt, .ref aPb, .ref aPs])), (aPr, .inl (cI, 16, .inl zPr)), (aHo, .inl (cI, 16, .inl zHo)), (aHe, .inl (cI, 16, .inl zHe))] → va_S A s.heap H locs → some (v, zPr, zHo, zHe) = some (r, oPr, oHo, oHe) → W p l e rX0_bidTillNoneIsFree s m args below meth c H locs 0 0 Q (F0 m pc ls [.int v]) := by
    intro v zPr zHo zHe pc ls H locs hn hd hP hD hS h
    cases h
    exact hret0 pc ls H locs () hn hd hP hD hS
  clear hret0
  have hb2 : ∀ (n : Nat) (x1 : Int32) (x2 : Int32) (fPr : Nat → Int32) (fHo : Nat → Int32) (fHe : Nat → Int32) (H : Heap) (locs : List Loc) (ls : Array Slot), va_P D vwCl [(aB, .inr (0, [.ref aP, .ref aS, .ref aW, .int vSl])), (aW, .inl (cI, 256, .inl fWo)), (aS, .inr (4, [.int vVa, .int vCo, .int vBi, .int vPh, .ref aPr, .ref aHo, .ref aHe, .ref aSt, .ref aPb, .ref aPs])), (aPr, .inl (cI, 16, .inl fPr)), (aHo, .inl (cI, 16, .inl fHo)), (aHe, .inl (cI, 16, .inl fHe))] H → va_D A [(aB, .inr (0, [.ref aP, .ref aS, .ref aW, .int vSl])), (aW, .inl (cI, 256, .inl fWo)), (aS, .inr (4, [.int vVa, .int vCo, .int vBi, .int vPh, .ref aPr, .ref aHo, .ref aHe, .ref aSt, .ref aPb, .ref aPs])), (aPr, .inl (cI, 16, .inl fPr)), (aHo, .inl (cI, 16, .inl fHo)), (aHe, .inl (cI, 16, .inl fHe))] → va_S A s.heap H locs → lv_has ls 4 [(0, .ref aB), (1, .int x1), (2, .int x2)] → fX0_bidTillNoneIsFree_b2 vSl fWo n x1 x2 fPr fHo fHe = some (r, oPr, oHo, oHe) → W p l e rX0_bidTillNoneIsFree s m args below meth c H locs 0 0 Q (F0 m 2 ls []) := by
    intro n
    induction n with
    | zero => intro x1 x2 fPr fHo fHe H locs ls hP hD hS hl h; exact absurd h (by rw [fX0_bidTillNoneIsFree_b2]; exact fun z => by cases z)
    | succ n ih =>
      intro x1 x2 fPr fHo fHe H locs ls hP hD hS hl h
      rw [fX0_bidTillNoneIsFree_b2] at h
      refine lv_iload_n hx hb dX0_bidTillNoneIsFree_2 rfl (lv_at hl 2 rfl) ?_
      refine lv_ldc (v := (1000000 : Int32)) hx hb hown (hts (.constant RX0 112 (1000000 : Int32)) (List.mem_of_getElem? (i := 1) rfl)) dX0_bidTillNoneIsFree_3 ?_
      refine lv_icmp_ge (tgt := 33) hx hb dX0_bidTillNoneIsFree_5 (by decide) (fun c1 => ?_) (fun c1 => ?_)
      · have h := (if_pos c1).symm.trans h
        refine lv_ldc (v := (1000000 : Int32)) hx hb hown (hts (.constant RX0 112 (1000000 : Int32)) (List.mem_of_getElem? (i := 1) rfl)) dX0_bidTillNoneIsFree_33 ?_
        exact hret (1000000 : Int32) fPr fHo fHe 35 ls H locs rfl dX0_bidTillNoneIsFree_35 hP hD hS h
      · have h := (if_neg c1).symm.trans h
        refine lv_aload_n hx hb dX0_bidTillNoneIsFree_8 rfl (lv_at hl 0 rfl) ?_
        obtain ⟨r_9, q_9, h⟩ := bd1_some h
        refine fr_ro_i (S := Unit) (wc := [(aB, .inr (0, [.ref aP, .ref aS, .ref aW, .int vSl])), (aS, .inr (4, [.int vVa, .int vCo, .int vBi, .int vPh, .ref aPr, .ref aHo, .ref aHe, .ref aSt, .ref aPb, .ref aPs])), (aHe, .inl (cI, 16, .inl fHe))]) (fr_V (As := []) (rest := []) (C := RX0) ⟨hx, hb, hml, hown, hts⟩ (tX0_leastFree aB aS aHe aP aW aPr aHo aSt aPb aPs vSl vVa vCo vBi vPh fHe r_9 q_9) gX0_bidTillNoneIsFree_X0_leastFree rfl (fr_preV (As := []) (b := aB) (ci := 0) (q0 := 0) (wc := [(aB, .inr (0, [.ref aP, .ref aS, .ref aW, .int vSl])), (aS, .inr (4, [.int vVa, .int vCo, .int vBi, .int vPh, .ref aPr, .ref aHo, .ref aHe, .ref aSt, .ref aPb, .ref aPs])), (aHe, .inl (cI, 16, .inl fHe))]) hK hN hP hD [0, 2, 5] (by decide) rfl rfl rfl) (n := 0) (by decide +kernel) ⟨Nat.le_of_ble_eq_true rfl, Nat.le_of_ble_eq_true rfl⟩ rfl hl.1 rfl (Nat.le_of_ble_eq_true rfl) dX0_bidTillNoneIsFree_9 ⟨Nat.zero_le _, Nat.zero_le _⟩) hP hD hS hA [0, 2, 5] rfl (c2 := 0) (s2 := 0) rfl rfl (fun H locs hP hS => ?_)
        refine lv_istore_n (lv' := [(3, .int r_9), (0, .ref aB), (1, .int x1), (2, .int x2)]) hx hb dX0_bidTillNoneIsFree_12 rfl hl (by decide) rfl (fun ls hl => ?_)
        refine lv_iload_n hx hb dX0_bidTillNoneIsFree_13 rfl (lv_at hl 0 rfl) ?_
        refine lv_bipush (v := (-6 : Int32)) hx hb dX0_bidTillNoneIsFree_14 (by decide) ?_
        refine lv_icmp_ne (tgt := 21) hx hb dX0_bidTillNoneIsFree_16 (by decide) (fun c2 => ?_) (fun c2 => ?_)
        · have h := (if_neg c2).symm.trans h
          refine lv_aload_n hx hb dX0_bidTillNoneIsFree_21 rfl (lv_at hl 1 rfl) ?_
          refine lv_iload_n hx hb dX0_bidTillNoneIsFree_22 rfl (lv_at hl 0 rfl) ?_
          refine lv_iload_n hx hb dX0_bidTillNoneIsFree_23 rfl (lv_at hl 2 rfl) ?_
          obtain ⟨fPr_24, fHo_24, fHe_24, q_24, h⟩ := bd3_some h
          refine fr_rw_v (S := Unit) (wc := [(aB, .inr (0, [.ref aP, .ref aS, .ref aW, .int vSl])), (aW, .inl (cI, 256, .inl fWo)), (aS, .inr (4, [.int vVa, .int vCo, .int vBi, .int vPh, .ref aPr, .ref aHo, .ref aHe, .ref aSt, .ref aPb, .ref aPs])), (aPr, .inl (cI, 16, .inl fPr)), (aHo, .inl (cI, 16, .inl fHo)), (aHe, .inl (cI, 16, .inl fHe))]) (wc' := fun _ => [(aB, .inr (0, [.ref aP, .ref aS, .ref aW, .int vSl])), (aW, .inl (cI, 256, .inl fWo)), (aS, .inr (4, [.int vVa, .int vCo, .int vBi, .int vPh, .ref aPr, .ref aHo, .ref aHe, .ref aSt, .ref aPb, .ref aPs])), (aPr, .inl (cI, 16, .inl fPr_24)), (aHo, .inl (cI, 16, .inl fHo_24)), (aHe, .inl (cI, 16, .inl fHe_24))]) (wr := []) (w2 := fun _ => [(aB, .inr (0, [.ref aP, .ref aS, .ref aW, .int vSl])), (aW, .inl (cI, 256, .inl fWo)), (aS, .inr (4, [.int vVa, .int vCo, .int vBi, .int vPh, .ref aPr, .ref aHo, .ref aHe, .ref aSt, .ref aPb, .ref aPs])), (aPr, .inl (cI, 16, .inl fPr_24)), (aHo, .inl (cI, 16, .inl fHo_24)), (aHe, .inl (cI, 16, .inl fHe_24))]) (fr_Vv (As := [.int r_9, .int x1]) (rest := []) (C := RX0) ⟨hx, hb, hml, hown, hts⟩ (tX0_makeBid aB aW aS aPr aHo aHe aP aSt aPb aPs vSl fWo vVa vCo vBi vPh fPr fHo fHe r_9 x1 fPr_24 fHo_24 fHe_24 q_24) gX0_bidTillNoneIsFree_X0_makeBid rfl (fr_preV (As := [.int r_9, .int x1]) (b := aB) (ci := 0) (q0 := 0) (wc := [(aB, .inr (0, [.ref aP, .ref aS, .ref aW, .int vSl])), (aW, .inl (cI, 256, .inl fWo)), (aS, .inr (4, [.int vVa, .int vCo, .int vBi, .int vPh, .ref aPr, .ref aHo, .ref aHe, .ref aSt, .ref aPb, .ref aPs])), (aPr, .inl (cI, 16, .inl fPr)), (aHo, .inl (cI, 16, .inl fHo)), (aHe, .inl (cI, 16, .inl fHe))]) hK hN hP hD [0, 1, 2, 3, 4, 5] (by decide) rfl rfl rfl) (n := 2) (by decide +kernel) ⟨Nat.le_of_ble_eq_true rfl, Nat.le_of_ble_eq_true rfl⟩ rfl hl.1 rfl (Nat.le_of_ble_eq_true rfl) dX0_bidTillNoneIsFree_24 ⟨Nat.zero_le _, Nat.zero_le _⟩) hP hD hS hA [0, 1, 2, 3, 4, 5] [] [0, 1, 2, 3, 4, 5] rfl rfl (by decide) (by decide) (by decide) (fun _ => rfl) (c2 := 0) (s2 := 0) rfl rfl (fun _ H locs hP hD hS => ?_)
          refine lv_iinc (v := x2 + 1) (lv' := [(2, .int (x2 + 1)), (3, .int r_9), (0, .ref aB), (1, .int x1)]) hx hb dX0_bidTillNoneIsFree_27 hl (k := 3) rfl rfl (by decide) rfl (fun ls hl => ?_)
          refine lv_goto (tgt := 2) hx hb dX0_bidTillNoneIsFree_30 (by decide) ?_
          exact ih x1 (x2 + 1) fPr_24 fHo_24 fHe_24 H locs ls hP hD hS (lv_sub hl [2, 3, 0] rfl) h
        · have h := (if_pos c2).symm.trans h
          refine lv_iload_n hx hb dX0_bidTillNoneIsFree_19 rfl (lv_at hl 3 rfl) ?_
          exact hret x2 fPr fHo fHe 20 ls H locs rfl dX0_bidTillNoneIsFree_20 hP hD hS h
  unfold fX0_bidTillNoneIsFree at h
  obtain ⟨H, hH⟩ : ∃ H, H = s.heap := ⟨_, rfl⟩
  have hP : va_P D vwCl [(aB, .inr (0, [.ref aP, .ref aS, .ref aW, .int vSl])), (aW, .inl (cI, 256, .inl fWo)), (aS, .inr (4, [.int vVa, .int vCo, .int vBi, .int vPh, .ref aPr, .ref aHo, .ref aHe, .ref aSt, .ref aPb, .ref aPs])), (aPr, .inl (cI, 16, .inl fPr)), (aHo, .inl (cI, 16, .inl fHo)), (aHe, .inl (cI, 16, .inl fHe))] H := by rw [hH]; exact hP
  obtain ⟨locs, hlocs⟩ : ∃ x : List Loc, x = [] := ⟨_, rfl⟩
  have hS : va_S A s.heap H locs := by rw [hH, hlocs]; exact hS
  suffices hgo : W p l e rX0_bidTillNoneIsFree s m args below meth c H locs 0 0 Q (F0 m 0 ls []) by rw [hH, hlocs] at hgo; exact hgo
  refine lv_iconst (v := (0 : Int32)) hx hb dX0_bidTillNoneIsFree_0 (by decide) ?_
  refine lv_istore_n (lv' := [(2, .int (0 : Int32)), (0, .ref aB), (1, .int x1)]) hx hb dX0_bidTillNoneIsFree_1 rfl hl (by decide) rfl (fun ls hl => ?_)
  exact hb2 FU x1 (0 : Int32) fPr fHo fHe H locs ls hP hD hS (lv_sub hl [1, 2, 0] rfl) h
def fX0_auctionPhase (vSl : Int32) (fWo : Nat → Int32) (vMo : Int32) (vKn : Int32) (fKd : Nat → Int32) (fKs : Nat → Int32) (vCn : Int32) (fCd : Nat → Int32) (vPh : Int32) (fPr : Nat → Int32) (fHo : Nat → Int32) (fHe : Nat → Int32) (fSt : Nat → Int32) (fPb : Nat → Int32) (fPs : Nat → Int32) (x1 : Int32) : Option (Int32 × Int32 × (Nat → Int32) × (Nat → Int32) × (Nat → Int32) × (Nat → Int32) × (Nat → Int32) × (Nat → Int32)) :=
  bd2 (fX4_freeAll fHo fHe) fun fHo_4 fHe_4 =>
  bd4 (fX0_bidTillNoneIsFree vSl fWo fPr fHo_4 fHe_4 x1) fun r_9 fPr_9 fHo_9 fHe_9 =>
  bd1 (fX3_sumOfDifferences vMo vKn fKd fKs vCn fCd fHe_9) fun r_23 =>
  bd4 (fX4_notePhase vPh fSt fPb fPs x1 r_9 r_23) fun vPh_26 fSt_26 fPb_26 fPs_26 =>
  some (r_9, vPh_26, fPr_9, fHo_9, fHe_9, fSt_26, fPb_26, fPs_26)
abbrev rX0_auctionPhase : Room := { frames := 4, cells := 0, slots := 0, locals := 95 }
set_option maxHeartbeats 4000000 in
set_option maxRecDepth 100000 in
theorem tX0_auctionPhase {l : Launch} {D : va_G} {cI cZ cP : ClassId} (aB aW aP aK aKd aKs aC aCd aS aPr aHo aHe aSt aPb aPs : Nat) (vSl : Int32) (fWo : Nat → Int32) (vMo : Int32) (vSh : Int32) (vKn : Int32) (fKd : Nat → Int32) (fKs : Nat → Int32) (vCn : Int32) (fCd : Nat → Int32) (vVa : Int32) (vCo : Int32) (vBi : Int32) (vPh : Int32) (fPr : Nat → Int32) (fHo : Nat → Int32) (fHe : Nat → Int32) (fSt : Nat → Int32) (fPb : Nat → Int32) (fPs : Nat → Int32) (x1 : Int32) (r : Int32) (oPh : Int32) (oPr : Nat → Int32) (oHo : Nat → Int32) (oHe : Nat → Int32) (oSt : Nat → Int32) (oPb : Nat → Int32) (oPs : Nat → Int32) (h : fX0_auctionPhase vSl fWo vMo vKn fKd fKs vCn fCd vPh fPr fHo fHe fSt fPb fPs x1 = some (r, oPh, oPr, oHo, oHe, oSt, oPb, oPs)) : CtI l D cI cZ cP yX0_auctionPhase wsX0_auctionPhase rX0_auctionPhase [.ref aB, .int x1] [(aB, .inr (0, [.ref aP, .ref aS, .ref aW, .int vSl])), (aW, .inl (cI, 256, .inl fWo)), (aP, .inr (3, [.int vMo, .int vSh, .ref aK, .ref aC, .ref aS])), (aK, .inr (2, [.int vKn, .ref aKd, .ref aKs])), (aKd, .inl (cI, 8, .inl fKd)), (aKs, .inl (cI, 8, .inl fKs)), (aC, .inr (1, [.int vCn, .ref aCd])), (aCd, .inl (cI, 12, .inl fCd)), (aS, .inr (4, [.int vVa, .int vCo, .int vBi, .int vPh, .ref aPr, .ref aHo, .ref aHe, .ref aSt, .ref aPb, .ref aPs])), (aPr, .inl (cI, 16, .inl fPr)), (aHo, .inl (cI, 16, .inl fHo)), (aHe, .inl (cI, 16, .inl fHe)), (aSt, .inl (cI, 16, .inl fSt)), (aPb, .inl (cI, 16, .inl fPb)), (aPs, .inl (cI, 16, .inl fPs))] (fun _ : Unit => [(aB, .inr (0, [.ref aP, .ref aS, .ref aW, .int vSl])), (aW, .inl (cI, 256, .inl fWo)), (aP, .inr (3, [.int vMo, .int vSh, .ref aK, .ref aC, .ref aS])), (aK, .inr (2, [.int vKn, .ref aKd, .ref aKs])), (aKd, .inl (cI, 8, .inl fKd)), (aKs, .inl (cI, 8, .inl fKs)), (aC, .inr (1, [.int vCn, .ref aCd])), (aCd, .inl (cI, 12, .inl fCd)), (aS, .inr (4, [.int vVa, .int vCo, .int vBi, .int oPh, .ref aPr, .ref aHo, .ref aHe, .ref aSt, .ref aPb, .ref aPs])), (aPr, .inl (cI, 16, .inl oPr)), (aHo, .inl (cI, 16, .inl oHo)), (aHe, .inl (cI, 16, .inl oHe)), (aSt, .inl (cI, 16, .inl oSt)), (aPb, .inl (cI, 16, .inl oPb)), (aPs, .inl (cI, 16, .inl oPs))]) r := by
  refine CtI.ofW (cc := cX0_auctionPhase) (maxL := 3) (by decide) rfl (Nat.le_of_ble_eq_true rfl) (lv := [(0, .ref aB), (1, .int x1)]) rfl ?_
  intro p e s m args below meth c A Q ls hx hb hml hown hts hK hN hP hD hS hA hl hret0
  have hown : s.vm.findClass RX0 = some m.cls := hown
  have i0 : ∀ w ∈ wsX00, w ∈ wsX0_auctionPhase := mem_ps [78, 79, 80, 81] rfl
  have i1 : ∀ w ∈ wsX10, w ∈ wsX0_auctionPhase := mem_ps [97, 98] rfl
  have i2 : ∀ w ∈ wsX20, w ∈ wsX0_auctionPhase := mem_ps [99, 100, 101] rfl
  have i3 : ∀ w ∈ wsX30, w ∈ wsX0_auctionPhase := mem_ps [92, 93, 94, 95, 96] rfl
  have i4 : ∀ w ∈ wsX40, w ∈ wsX0_auctionPhase := mem_ps [82, 83, 84, 85, 86, 87, 88, 89, 90, 91] rfl
  have hret : ∀ (v : Int32) (zPh : Int32) (zPr : Nat → Int32) (zHo : Nat → Int32) (zHe : Nat → Int32) (zSt : Nat → Int32) (zPb : Nat → Int32) (zPs : Nat → Int32) (pc : Nat) (ls : Array Slot) (H : Heap) (locs : List Loc), narrow .int (.int v) = .int v → decode cX0_auctionPhase pc = .ok (.ireturn, 1) → va_P D vwCl [(aB, .inr (0, [.ref aP, .ref aS, .ref aW, .int vSl])), (aW, .inl (cI, 256, .inl fWo)), (aP, .inr (3, [.int vMo, .int vSh, .ref aK, .ref aC, .ref aS])), (aK, .inr (2, [.int vKn, .ref aKd, .ref aKs])), (aKd, .inl (cI, 8, .inl fKd)), (aKs, .inl (cI, 8, .inl fKs)), (aC, .inr (1, [.int vCn, .ref aCd])), (aCd, .inl (cI, 12, .inl fCd)), (aS, .inr (4, [.int vVa, .int vCo, .int vBi, .int zPh, .ref aPr, .ref aHo, .ref aHe, .ref aSt, .ref aPb, .ref aPs])), (aPr, .inl (cI, 16, .inl zPr)), (aHo, .inl (cI, 16, .inl zHo)), (aHe, .inl (cI, 16, .inl zHe)), (aSt, .inl (cI, 16, .inl zSt)), (aPb, .inl (cI, 16, .inl zPb)), (aPs, .inl (cI, 16, .inl zPs))] H → va_D A [(aB, .inr (0, [.ref aP, .ref aS, .ref aW, .int vSl])), (aW, .inl (cI, 256, .inl fWo)), (aP, .inr (3, [.int vMo, .int vSh, .ref aK, .ref aC, .ref aS])), (aK, .inr (2, [.int vKn, .ref aKd, .ref aKs])), (aKd, .inl (cI, 8, .inl fKd)), (aKs, .inl (cI, 8, .inl fKs)), (aC, .inr (1, [.int vCn, .ref aCd])), (aCd, .inl (cI, 12, .inl fCd)), (aS, .inr (4, [.int vVa, .int vCo, .int vBi, .int zPh, .ref aPr, .ref aHo, .ref aHe, .ref aSt, .ref aPb, .ref aPs])), (aPr, .inl (cI, 16, .inl zPr)), (aHo, .inl (cI, 16, .inl zHo)), (aHe, .inl (cI, 16, .inl zHe)), (aSt, .inl (cI, 16, .inl zSt)), (aPb, .inl (cI, 16, .inl zPb)), (aPs, .inl (cI, 16, .inl zPs))] → va_S A s.heap H locs → some (v, zPh, zPr, zHo, zHe, zSt, zPb, zPs) = some (r, oPh, oPr, oHo, oHe, oSt, oPb, oPs) → W p l e rX0_auctionPhase s m args below meth c H locs 0 0 Q (F0 m pc ls [.int v]) := by
    intro v zPh zPr zHo zHe zSt zPb zPs pc ls H locs hn hd hP hD hS h
    cases h
    exact hret0 pc ls H locs () hn hd hP hD hS
  clear hret0
  unfold fX0_auctionPhase at h
  obtain ⟨H, hH⟩ : ∃ H, H = s.heap := ⟨_, rfl⟩
  have hP : va_P D vwCl [(aB, .inr (0, [.ref aP, .ref aS, .ref aW, .int vSl])), (aW, .inl (cI, 256, .inl fWo)), (aP, .inr (3, [.int vMo, .int vSh, .ref aK, .ref aC, .ref aS])), (aK, .inr (2, [.int vKn, .ref aKd, .ref aKs])), (aKd, .inl (cI, 8, .inl fKd)), (aKs, .inl (cI, 8, .inl fKs)), (aC, .inr (1, [.int vCn, .ref aCd])), (aCd, .inl (cI, 12, .inl fCd)), (aS, .inr (4, [.int vVa, .int vCo, .int vBi, .int vPh, .ref aPr, .ref aHo, .ref aHe, .ref aSt, .ref aPb, .ref aPs])), (aPr, .inl (cI, 16, .inl fPr)), (aHo, .inl (cI, 16, .inl fHo)), (aHe, .inl (cI, 16, .inl fHe)), (aSt, .inl (cI, 16, .inl fSt)), (aPb, .inl (cI, 16, .inl fPb)), (aPs, .inl (cI, 16, .inl fPs))] H := by rw [hH]; exact hP
  obtain ⟨locs, hlocs⟩ : ∃ x : List Loc, x = [] := ⟨_, rfl⟩
  have hS : va_S A s.heap H locs := by rw [hH, hlocs]; exact hS
  suffices hgo : W p l e rX0_auctionPhase s m args below meth c H locs 0 0 Q (F0 m 0 ls []) by rw [hH, hlocs] at hgo; exact hgo
  refine lv_aload_n hx hb dX0_auctionPhase_0 rfl (lv_at hl 0 rfl) ?_
  refine va_get (D := D) (ci := 0) (v := .ref aS) (C := RX0) (T := TX0) (N := 4) hx hb hts i0 hown hK hP 0 rfl rfl 1 (by decide) (hts (.fieldLink RX0 22 RX0 "sale" "LBidMosaic$Sale;") (List.mem_of_getElem? (i := 1) rfl)) (fun _ h9 => h9) rfl dX0_auctionPhase_1 ?_
  obtain ⟨fHo_4, fHe_4, q_4, h⟩ := bd2_some h
  refine fr_rw_v (S := Unit) (wc := [(aS, .inr (4, [.int vVa, .int vCo, .int vBi, .int vPh, .ref aPr, .ref aHo, .ref aHe, .ref aSt, .ref aPb, .ref aPs])), (aHo, .inl (cI, 16, .inl fHo)), (aHe, .inl (cI, 16, .inl fHe))]) (wc' := fun _ => [(aS, .inr (4, [.int vVa, .int vCo, .int vBi, .int vPh, .ref aPr, .ref aHo, .ref aHe, .ref aSt, .ref aPb, .ref aPs])), (aHo, .inl (cI, 16, .inl fHo_4)), (aHe, .inl (cI, 16, .inl fHe_4))]) (wr := [(aB, .inr (0, [.ref aP, .ref aS, .ref aW, .int vSl])), (aW, .inl (cI, 256, .inl fWo)), (aP, .inr (3, [.int vMo, .int vSh, .ref aK, .ref aC, .ref aS])), (aK, .inr (2, [.int vKn, .ref aKd, .ref aKs])), (aKd, .inl (cI, 8, .inl fKd)), (aKs, .inl (cI, 8, .inl fKs)), (aC, .inr (1, [.int vCn, .ref aCd])), (aCd, .inl (cI, 12, .inl fCd)), (aPr, .inl (cI, 16, .inl fPr)), (aSt, .inl (cI, 16, .inl fSt)), (aPb, .inl (cI, 16, .inl fPb)), (aPs, .inl (cI, 16, .inl fPs))]) (w2 := fun _ => [(aB, .inr (0, [.ref aP, .ref aS, .ref aW, .int vSl])), (aW, .inl (cI, 256, .inl fWo)), (aP, .inr (3, [.int vMo, .int vSh, .ref aK, .ref aC, .ref aS])), (aK, .inr (2, [.int vKn, .ref aKd, .ref aKs])), (aKd, .inl (cI, 8, .inl fKd)), (aKs, .inl (cI, 8, .inl fKs)), (aC, .inr (1, [.int vCn, .ref aCd])), (aCd, .inl (cI, 12, .inl fCd)), (aS, .inr (4, [.int vVa, .int vCo, .int vBi, .int vPh, .ref aPr, .ref aHo, .ref aHe, .ref aSt, .ref aPb, .ref aPs])), (aPr, .inl (cI, 16, .inl fPr)), (aHo, .inl (cI, 16, .inl fHo_4)), (aHe, .inl (cI, 16, .inl fHe_4)), (aSt, .inl (cI, 16, .inl fSt)), (aPb, .inl (cI, 16, .inl fPb)), (aPs, .inl (cI, 16, .inl fPs))]) (fr_VNv (As := []) (rest := []) (own := RX0) (host := RX5) (C := RX4) ⟨hx, hb, hml, hown, hts⟩ hN (tX4_freeAll aS aHo aHe aPr aSt aPb aPs vVa vCo vBi vPh fHo fHe fHo_4 fHe_4 q_4) gX0_auctionPhase_X4_freeAll_n90 rfl (nx_mem (i := 331) (by decide +kernel) rfl) (List.mem_of_getElem? (i := 4) rfl) (List.mem_of_getElem? (i := 3) rfl) (List.mem_of_getElem? (i := 5) rfl) (fr_preV (As := []) (b := aS) (ci := 4) (q0 := 8) (wc := [(aS, .inr (4, [.int vVa, .int vCo, .int vBi, .int vPh, .ref aPr, .ref aHo, .ref aHe, .ref aSt, .ref aPb, .ref aPs])), (aHo, .inl (cI, 16, .inl fHo)), (aHe, .inl (cI, 16, .inl fHe))]) hK hN hP hD [8, 10, 11] (by decide) rfl rfl rfl) (n := 0) (by decide +kernel) ⟨Nat.le_of_ble_eq_true rfl, Nat.le_of_ble_eq_true rfl⟩ rfl hl.1 rfl (Nat.le_of_ble_eq_true rfl) dX0_auctionPhase_4 ⟨Nat.zero_le _, Nat.zero_le _⟩) hP hD hS hA [8, 10, 11] [0, 1, 2, 3, 4, 5, 6, 7, 9, 12, 13, 14] [0, 1, 2, 3, 4, 5, 6, 7, 12, 8, 13, 14, 9, 10, 11] rfl rfl (by decide) (by decide) (by decide) (fun _ => rfl) (c2 := 0) (s2 := 0) rfl rfl (fun _ H locs hP hD hS => ?_)
  refine lv_aload_n hx hb dX0_auctionPhase_7 rfl (lv_at hl 0 rfl) ?_
  refine lv_iload_n hx hb dX0_auctionPhase_8 rfl (lv_at hl 1 rfl) ?_
  obtain ⟨r_9, fPr_9, fHo_9, fHe_9, q_9, h⟩ := bd4_some h
  refine fr_rw_i (S := Unit) (wc := [(aB, .inr (0, [.ref aP, .ref aS, .ref aW, .int vSl])), (aW, .inl (cI, 256, .inl fWo)), (aS, .inr (4, [.int vVa, .int vCo, .int vBi, .int vPh, .ref aPr, .ref aHo, .ref aHe, .ref aSt, .ref aPb, .ref aPs])), (aPr, .inl (cI, 16, .inl fPr)), (aHo, .inl (cI, 16, .inl fHo_4)), (aHe, .inl (cI, 16, .inl fHe_4))]) (wc' := fun _ => [(aB, .inr (0, [.ref aP, .ref aS, .ref aW, .int vSl])), (aW, .inl (cI, 256, .inl fWo)), (aS, .inr (4, [.int vVa, .int vCo, .int vBi, .int vPh, .ref aPr, .ref aHo, .ref aHe, .ref aSt, .ref aPb, .ref aPs])), (aPr, .inl (cI, 16, .inl fPr_9)), (aHo, .inl (cI, 16, .inl fHo_9)), (aHe, .inl (cI, 16, .inl fHe_9))]) (wr := [(aP, .inr (3, [.int vMo, .int vSh, .ref aK, .ref aC, .ref aS])), (aK, .inr (2, [.int vKn, .ref aKd, .ref aKs])), (aKd, .inl (cI, 8, .inl fKd)), (aKs, .inl (cI, 8, .inl fKs)), (aC, .inr (1, [.int vCn, .ref aCd])), (aCd, .inl (cI, 12, .inl fCd)), (aSt, .inl (cI, 16, .inl fSt)), (aPb, .inl (cI, 16, .inl fPb)), (aPs, .inl (cI, 16, .inl fPs))]) (w2 := fun _ => [(aB, .inr (0, [.ref aP, .ref aS, .ref aW, .int vSl])), (aW, .inl (cI, 256, .inl fWo)), (aP, .inr (3, [.int vMo, .int vSh, .ref aK, .ref aC, .ref aS])), (aK, .inr (2, [.int vKn, .ref aKd, .ref aKs])), (aKd, .inl (cI, 8, .inl fKd)), (aKs, .inl (cI, 8, .inl fKs)), (aC, .inr (1, [.int vCn, .ref aCd])), (aCd, .inl (cI, 12, .inl fCd)), (aS, .inr (4, [.int vVa, .int vCo, .int vBi, .int vPh, .ref aPr, .ref aHo, .ref aHe, .ref aSt, .ref aPb, .ref aPs])), (aPr, .inl (cI, 16, .inl fPr_9)), (aHo, .inl (cI, 16, .inl fHo_9)), (aHe, .inl (cI, 16, .inl fHe_9)), (aSt, .inl (cI, 16, .inl fSt)), (aPb, .inl (cI, 16, .inl fPb)), (aPs, .inl (cI, 16, .inl fPs))]) (fr_V (As := [.int x1]) (rest := []) (C := RX0) ⟨hx, hb, hml, hown, hts⟩ (tX0_bidTillNoneIsFree aB aW aS aPr aHo aHe aP aSt aPb aPs vSl fWo vVa vCo vBi vPh fPr fHo_4 fHe_4 x1 r_9 fPr_9 fHo_9 fHe_9 q_9) gX0_auctionPhase_X0_bidTillNoneIsFree rfl (fr_preV (As := [.int x1]) (b := aB) (ci := 0) (q0 := 0) (wc := [(aB, .inr (0, [.ref aP, .ref aS, .ref aW, .int vSl])), (aW, .inl (cI, 256, .inl fWo)), (aS, .inr (4, [.int vVa, .int vCo, .int vBi, .int vPh, .ref aPr, .ref aHo, .ref aHe, .ref aSt, .ref aPb, .ref aPs])), (aPr, .inl (cI, 16, .inl fPr)), (aHo, .inl (cI, 16, .inl fHo_4)), (aHe, .inl (cI, 16, .inl fHe_4))]) hK hN hP hD [0, 1, 8, 9, 10, 11] (by decide) rfl rfl rfl) (n := 1) (by decide +kernel) ⟨Nat.le_of_ble_eq_true rfl, Nat.le_of_ble_eq_true rfl⟩ rfl hl.1 rfl (Nat.le_of_ble_eq_true rfl) dX0_auctionPhase_9 ⟨Nat.zero_le _, Nat.zero_le _⟩) hP hD hS hA [0, 1, 8, 9, 10, 11] [2, 3, 4, 5, 6, 7, 12, 13, 14] [9, 10, 0, 1, 2, 3, 4, 5, 11, 12, 13, 14, 6, 7, 8] rfl rfl (by decide) (by decide) (by decide) (fun _ => rfl) (c2 := 0) (s2 := 0) rfl rfl (fun _ H locs hP hD hS => ?_)
  refine lv_istore_n (lv' := [(2, .int r_9), (0, .ref aB), (1, .int x1)]) hx hb dX0_auctionPhase_12 rfl hl (by decide) rfl (fun ls hl => ?_)
  refine lv_aload_n hx hb dX0_auctionPhase_13 rfl (lv_at hl 1 rfl) ?_
  refine va_get (D := D) (ci := 0) (v := .ref aS) (C := RX0) (T := TX0) (N := 4) hx hb hts i0 hown hK hP 0 rfl rfl 1 (by decide) (hts (.fieldLink RX0 22 RX0 "sale" "LBidMosaic$Sale;") (List.mem_of_getElem? (i := 1) rfl)) (fun _ h9 => h9) rfl dX0_auctionPhase_14 ?_
  refine lv_iload_n hx hb dX0_auctionPhase_17 rfl (lv_at hl 2 rfl) ?_
  refine lv_iload_n hx hb dX0_auctionPhase_18 rfl (lv_at hl 0 rfl) ?_
  refine lv_aload_n hx hb dX0_auctionPhase_19 rfl (lv_at hl 1 rfl) ?_
  refine va_get (D := D) (ci := 0) (v := .ref aP) (C := RX0) (T := TX0) (N := 4) hx hb hts i0 hown hK hP 0 rfl rfl 0 (by decide) (hts (.fieldLink RX0 12 RX0 "picture" "LBidMosaic$Picture;") (List.mem_of_getElem? (i := 2) rfl)) (fun _ h9 => h9) rfl dX0_auctionPhase_20 ?_
  obtain ⟨r_23, q_23, h⟩ := bd1_some h
  refine fr_ro_i (S := Unit) (wc := [(aP, .inr (3, [.int vMo, .int vSh, .ref aK, .ref aC, .ref aS])), (aK, .inr (2, [.int vKn, .ref aKd, .ref aKs])), (aKd, .inl (cI, 8, .inl fKd)), (aKs, .inl (cI, 8, .inl fKs)), (aC, .inr (1, [.int vCn, .ref aCd])), (aCd, .inl (cI, 12, .inl fCd)), (aS, .inr (4, [.int vVa, .int vCo, .int vBi, .int vPh, .ref aPr, .ref aHo, .ref aHe, .ref aSt, .ref aPb, .ref aPs])), (aHe, .inl (cI, 16, .inl fHe_9))]) (fr_VN (As := []) (rest := [.int r_9, .int x1, .ref aS]) (own := RX0) (host := RX5) (C := RX3) ⟨hx, hb, hml, hown, hts⟩ hN (tX3_sumOfDifferences aP aK aKd aKs aC aCd aS aHe aPr aHo aSt aPb aPs vMo vSh vKn fKd fKs vCn fCd vVa vCo vBi vPh fHe_9 r_23 q_23) gX0_auctionPhase_X3_sumOfDifferences_n96 rfl (nx_mem (i := 353) (by decide +kernel) rfl) (List.mem_of_getElem? (i := 32) rfl) (List.mem_of_getElem? (i := 31) rfl) (List.mem_of_getElem? (i := 33) rfl) (fr_preV (As := []) (b := aP) (ci := 3) (q0 := 2) (wc := [(aP, .inr (3, [.int vMo, .int vSh, .ref aK, .ref aC, .ref aS])), (aK, .inr (2, [.int vKn, .ref aKd, .ref aKs])), (aKd, .inl (cI, 8, .inl fKd)), (aKs, .inl (cI, 8, .inl fKs)), (aC, .inr (1, [.int vCn, .ref aCd])), (aCd, .inl (cI, 12, .inl fCd)), (aS, .inr (4, [.int vVa, .int vCo, .int vBi, .int vPh, .ref aPr, .ref aHo, .ref aHe, .ref aSt, .ref aPb, .ref aPs])), (aHe, .inl (cI, 16, .inl fHe_9))]) hK hN hP hD [2, 3, 4, 5, 6, 7, 8, 11] (by decide) rfl rfl rfl) (n := 0) (by decide +kernel) ⟨Nat.le_of_ble_eq_true rfl, Nat.le_of_ble_eq_true rfl⟩ rfl hl.1 rfl (Nat.le_of_ble_eq_true rfl) dX0_auctionPhase_23 ⟨Nat.zero_le _, Nat.zero_le _⟩) hP hD hS hA [2, 3, 4, 5, 6, 7, 8, 11] rfl (c2 := 0) (s2 := 0) rfl rfl (fun H locs hP hS => ?_)
  obtain ⟨vPh_26, fSt_26, fPb_26, fPs_26, q_26, h⟩ := bd4_some h
  refine fr_rw_v (S := Unit) (wc := [(aS, .inr (4, [.int vVa, .int vCo, .int vBi, .int vPh, .ref aPr, .ref aHo, .ref aHe, .ref aSt, .ref aPb, .ref aPs])), (aSt, .inl (cI, 16, .inl fSt)), (aPb, .inl (cI, 16, .inl fPb)), (aPs, .inl (cI, 16, .inl fPs))]) (wc' := fun _ => [(aS, .inr (4, [.int vVa, .int vCo, .int vBi, .int vPh_26, .ref aPr, .ref aHo, .ref aHe, .ref aSt, .ref aPb, .ref aPs])), (aSt, .inl (cI, 16, .inl fSt_26)), (aPb, .inl (cI, 16, .inl fPb_26)), (aPs, .inl (cI, 16, .inl fPs_26))]) (wr := [(aB, .inr (0, [.ref aP, .ref aS, .ref aW, .int vSl])), (aW, .inl (cI, 256, .inl fWo)), (aP, .inr (3, [.int vMo, .int vSh, .ref aK, .ref aC, .ref aS])), (aK, .inr (2, [.int vKn, .ref aKd, .ref aKs])), (aKd, .inl (cI, 8, .inl fKd)), (aKs, .inl (cI, 8, .inl fKs)), (aC, .inr (1, [.int vCn, .ref aCd])), (aCd, .inl (cI, 12, .inl fCd)), (aPr, .inl (cI, 16, .inl fPr_9)), (aHo, .inl (cI, 16, .inl fHo_9)), (aHe, .inl (cI, 16, .inl fHe_9))]) (w2 := fun _ => [(aB, .inr (0, [.ref aP, .ref aS, .ref aW, .int vSl])), (aW, .inl (cI, 256, .inl fWo)), (aP, .inr (3, [.int vMo, .int vSh, .ref aK, .ref aC, .ref aS])), (aK, .inr (2, [.int vKn, .ref aKd, .ref aKs])), (aKd, .inl (cI, 8, .inl fKd)), (aKs, .inl (cI, 8, .inl fKs)), (aC, .inr (1, [.int vCn, .ref aCd])), (aCd, .inl (cI, 12, .inl fCd)), (aS, .inr (4, [.int vVa, .int vCo, .int vBi, .int vPh_26, .ref aPr, .ref aHo, .ref aHe, .ref aSt, .ref aPb, .ref aPs])), (aPr, .inl (cI, 16, .inl fPr_9)), (aHo, .inl (cI, 16, .inl fHo_9)), (aHe, .inl (cI, 16, .inl fHe_9)), (aSt, .inl (cI, 16, .inl fSt_26)), (aPb, .inl (cI, 16, .inl fPb_26)), (aPs, .inl (cI, 16, .inl fPs_26))]) (fr_VNv (As := [.int x1, .int r_9, .int r_23]) (rest := []) (own := RX0) (host := RX5) (C := RX4) ⟨hx, hb, hml, hown, hts⟩ hN (tX4_notePhase aS aSt aPb aPs aPr aHo aHe vVa vCo vBi vPh fSt fPb fPs x1 r_9 r_23 vPh_26 fSt_26 fPb_26 fPs_26 q_26) gX0_auctionPhase_X4_notePhase_n99 rfl (nx_mem (i := 357) (by decide +kernel) rfl) (List.mem_of_getElem? (i := 4) rfl) (List.mem_of_getElem? (i := 71) rfl) (List.mem_of_getElem? (i := 72) rfl) (fr_preV (As := [.int x1, .int r_9, .int r_23]) (b := aS) (ci := 4) (q0 := 8) (wc := [(aS, .inr (4, [.int vVa, .int vCo, .int vBi, .int vPh, .ref aPr, .ref aHo, .ref aHe, .ref aSt, .ref aPb, .ref aPs])), (aSt, .inl (cI, 16, .inl fSt)), (aPb, .inl (cI, 16, .inl fPb)), (aPs, .inl (cI, 16, .inl fPs))]) hK hN hP hD [8, 12, 13, 14] (by decide) rfl rfl rfl) (n := 3) (by decide +kernel) ⟨Nat.le_of_ble_eq_true rfl, Nat.le_of_ble_eq_true rfl⟩ rfl hl.1 rfl (Nat.le_of_ble_eq_true rfl) dX0_auctionPhase_26 ⟨Nat.zero_le _, Nat.zero_le _⟩) hP hD hS hA [8, 12, 13, 14] [0, 1, 2, 3, 4, 5, 6, 7, 9, 10, 11] [0, 1, 2, 3, 4, 5, 6, 7, 11, 8, 9, 10, 12, 13, 14] rfl rfl (by decide) (by decide) (by decide) (fun _ => rfl) (c2 := 0) (s2 := 0) rfl rfl (fun _ H locs hP hD hS => ?_)
  refine lv_iload_n hx hb dX0_auctionPhase_29 rfl (lv_at hl 0 rfl) ?_
  exact hret r_9 vPh_26 fPr_9 fHo_9 fHe_9 fSt_26 fPb_26 fPs_26 30 ls H locs rfl dX0_auctionPhase_30 hP hD hS h
def fX0_holdAuction_b83 (vMo : Int32) (vSh : Int32) (vKn : Int32) (fKd : Nat → Int32) (fKs : Nat → Int32) (vCn : Int32) (fCd : Nat → Int32) (x2 : Int32) (vSl : Int32) (fWo : Nat → Int32) (vVa : Int32) (vCo : Int32) (vBi : Int32) (vPh : Int32) (fPr : Nat → Int32) (fHo : Nat → Int32) (fHe : Nat → Int32) (fSt : Nat → Int32) (fPb : Nat → Int32) (fPs : Nat → Int32) : Option (Int32 × Int32 × (Nat → Int32) × Int32 × Int32 × Int32 × Int32 × (Nat → Int32) × (Nat → Int32) × (Nat → Int32) × (Nat → Int32) × (Nat → Int32) × (Nat → Int32)) :=
  bd3 (fX4_finish vVa vCo vBi x2) fun vVa_88 vCo_88 vBi_88 =>
  some (x2, vSl, fWo, vVa_88, vCo_88, vBi_88, vPh, fPr, fHo, fHe, fSt, fPb, fPs)
def fX0_holdAuction_b40 (vMo : Int32) (vSh : Int32) (vKn : Int32) (fKd : Nat → Int32) (fKs : Nat → Int32) (vCn : Int32) (fCd : Nat → Int32) : Nat → Int32 → Int32 → Int32 → Int32 → (Nat → Int32) → Int32 → Int32 → Int32 → Int32 → (Nat → Int32) → (Nat → Int32) → (Nat → Int32) → (Nat → Int32) → (Nat → Int32) → (Nat → Int32) → Option (Int32 × Int32 × (Nat → Int32) × Int32 × Int32 × Int32 × Int32 × (Nat → Int32) × (Nat → Int32) × (Nat → Int32) × (Nat → Int32) × (Nat → Int32) × (Nat → Int32))
  | 0, _, _, _, _, _, _, _, _, _, _, _, _, _, _, _ => none
  | n + 1, x1, x2, x3, vSl, fWo, vVa, vCo, vBi, vPh, fPr, fHo, fHe, fSt, fPb, fPs =>
    if (16 : Int32) ≤ x3 then
      fX0_holdAuction_b83 vMo vSh vKn fKd fKs vCn fCd x2 vSl fWo vVa vCo vBi vPh fPr fHo fHe fSt fPb fPs
    else
      if x1 ≤ (1 : Int32) then
        fX0_holdAuction_b83 vMo vSh vKn fKd fKs vCn fCd x2 vSl fWo vVa vCo vBi vPh fPr fHo fHe fSt fPb fPs
      else
        bdv (if (2 : Int32) < vSh then vSh else (2 : Int32)) fun x_61 =>
        if x_61 = 0 then none else
        bdv (if (1 : Int32) < x1 / x_61 then x1 / x_61 else (1 : Int32)) fun x_65 =>
        bd8 (fX0_auctionPhase vSl fWo vMo vKn fKd fKs vCn fCd vPh fPr fHo fHe fSt fPb fPs x_65) fun r_72 vPh_72 fPr_72 fHo_72 fHe_72 fSt_72 fPb_72 fPs_72 =>
        bdv (x2 + r_72) fun x2_76 =>
        fX0_holdAuction_b40 vMo vSh vKn fKd fKs vCn fCd n x_65 x2_76 (x3 + 1) vSl fWo vVa vCo vBi vPh_72 fPr_72 fHo_72 fHe_72 fSt_72 fPb_72 fPs_72
def fX0_holdAuction (vSl : Int32) (fWo : Nat → Int32) (vMo : Int32) (vSh : Int32) (vKn : Int32) (fKd : Nat → Int32) (fKs : Nat → Int32) (vCn : Int32) (fCd : Nat → Int32) (vVa : Int32) (vCo : Int32) (vBi : Int32) (vPh : Int32) (fPr : Nat → Int32) (fHo : Nat → Int32) (fHe : Nat → Int32) (fSt : Nat → Int32) (fPb : Nat → Int32) (fPs : Nat → Int32) : Option (Int32 × Int32 × (Nat → Int32) × Int32 × Int32 × Int32 × Int32 × (Nat → Int32) × (Nat → Int32) × (Nat → Int32) × (Nat → Int32) × (Nat → Int32) × (Nat → Int32)) :=
  bd2 (fX0_readWorths vSl fWo vMo vKn fKd fKs vCn fCd) fun vSl_1 fWo_1 =>
  bd2 (fX4_begin vPh fPr) fun vPh_8 fPr_8 =>
  bd1 (fX3_greatestDifference vMo vKn fKd vCn fCd) fun r_16 =>
  bdv (if (1 : Int32) < (r_16 * (vSl_1 + (1 : Int32))) / (4 : Int32) then (r_16 * (vSl_1 + (1 : Int32))) / (4 : Int32) else (1 : Int32)) fun x_28 =>
  bd8 (fX0_auctionPhase vSl_1 fWo_1 vMo vKn fKd fKs vCn fCd vPh_8 fPr_8 fHo fHe fSt fPb fPs x_28) fun r_34 vPh_34 fPr_34 fHo_34 fHe_34 fSt_34 fPb_34 fPs_34 =>
  fX0_holdAuction_b40 vMo vSh vKn fKd fKs vCn fCd FU x_28 r_34 (1 : Int32) vSl_1 fWo_1 vVa vCo vBi vPh_34 fPr_34 fHo_34 fHe_34 fSt_34 fPb_34 fPs_34
abbrev rX0_holdAuction : Room := { frames := 5, cells := 0, slots := 0, locals := 117 }
set_option maxHeartbeats 4000000 in
set_option maxRecDepth 100000 in
theorem tX0_holdAuction {l : Launch} {D : va_G} {cI cZ cP : ClassId} (aB aW aP aK aKd aKs aC aCd aS aPr aHo aHe aSt aPb aPs : Nat) (vSl : Int32) (fWo : Nat → Int32) (vMo : Int32) (vSh : Int32) (vKn : Int32) (fKd : Nat → Int32) (fKs : Nat → Int32) (vCn : Int32) (fCd : Nat → Int32) (vVa : Int32) (vCo : Int32) (vBi : Int32) (vPh : Int32) (fPr : Nat → Int32) (fHo : Nat → Int32) (fHe : Nat → Int32) (fSt : Nat → Int32) (fPb : Nat → Int32) (fPs : Nat → Int32) (r : Int32) (oSl : Int32) (oWo : Nat → Int32) (oVa : Int32) (oCo : Int32) (oBi : Int32) (oPh : Int32) (oPr : Nat → Int32) (oHo : Nat → Int32) (oHe : Nat → Int32) (oSt : Nat → Int32) (oPb : Nat → Int32) (oPs : Nat → Int32) (h : fX0_holdAuction vSl fWo vMo vSh vKn fKd fKs vCn fCd vVa vCo vBi vPh fPr fHo fHe fSt fPb fPs = some (r, oSl, oWo, oVa, oCo, oBi, oPh, oPr, oHo, oHe, oSt, oPb, oPs)) : CtI l D cI cZ cP yX0_holdAuction wsX0_holdAuction rX0_holdAuction [.ref aB] [(aB, .inr (0, [.ref aP, .ref aS, .ref aW, .int vSl])), (aW, .inl (cI, 256, .inl fWo)), (aP, .inr (3, [.int vMo, .int vSh, .ref aK, .ref aC, .ref aS])), (aK, .inr (2, [.int vKn, .ref aKd, .ref aKs])), (aKd, .inl (cI, 8, .inl fKd)), (aKs, .inl (cI, 8, .inl fKs)), (aC, .inr (1, [.int vCn, .ref aCd])), (aCd, .inl (cI, 12, .inl fCd)), (aS, .inr (4, [.int vVa, .int vCo, .int vBi, .int vPh, .ref aPr, .ref aHo, .ref aHe, .ref aSt, .ref aPb, .ref aPs])), (aPr, .inl (cI, 16, .inl fPr)), (aHo, .inl (cI, 16, .inl fHo)), (aHe, .inl (cI, 16, .inl fHe)), (aSt, .inl (cI, 16, .inl fSt)), (aPb, .inl (cI, 16, .inl fPb)), (aPs, .inl (cI, 16, .inl fPs))] (fun _ : Unit => [(aB, .inr (0, [.ref aP, .ref aS, .ref aW, .int oSl])), (aW, .inl (cI, 256, .inl oWo)), (aP, .inr (3, [.int vMo, .int vSh, .ref aK, .ref aC, .ref aS])), (aK, .inr (2, [.int vKn, .ref aKd, .ref aKs])), (aKd, .inl (cI, 8, .inl fKd)), (aKs, .inl (cI, 8, .inl fKs)), (aC, .inr (1, [.int vCn, .ref aCd])), (aCd, .inl (cI, 12, .inl fCd)), (aS, .inr (4, [.int oVa, .int oCo, .int oBi, .int oPh, .ref aPr, .ref aHo, .ref aHe, .ref aSt, .ref aPb, .ref aPs])), (aPr, .inl (cI, 16, .inl oPr)), (aHo, .inl (cI, 16, .inl oHo)), (aHe, .inl (cI, 16, .inl oHe)), (aSt, .inl (cI, 16, .inl oSt)), (aPb, .inl (cI, 16, .inl oPb)), (aPs, .inl (cI, 16, .inl oPs))]) r := by
  refine CtI.ofW (cc := cX0_holdAuction) (maxL := 4) (by decide) rfl (Nat.le_of_ble_eq_true rfl) (lv := [(0, .ref aB)]) rfl ?_
  intro p e s m args below meth c A Q ls hx hb hml hown hts hK hN hP hD hS hA hl hret0
  have hown : s.vm.findClass RX0 = some m.cls := hown
  have i0 : ∀ w ∈ wsX00, w ∈ wsX0_holdAuction := mem_ps [117, 118, 119, 120] rfl
  have i1 : ∀ w ∈ wsX10, w ∈ wsX0_holdAuction := mem_ps [129, 130] rfl
  have i2 : ∀ w ∈ wsX20, w ∈ wsX0_holdAuction := mem_ps [126, 127, 128] rfl
  have i3 : ∀ w ∈ wsX30, w ∈ wsX0_holdAuction := mem_ps [121, 122, 123, 124, 125] rfl
  have i4 : ∀ w ∈ wsX40, w ∈ wsX0_holdAuction := mem_ps [131, 132, 133, 134, 135, 136, 137, 138, 139, 140] rfl
  have hret : ∀ (v : Int32) (zSl : Int32) (zWo : Nat → Int32) (zVa : Int32) (zCo : Int32) (zBi : Int32) (zPh : Int32) (zPr : Nat → Int32) (zHo : Nat → Int32) (zHe : Nat → Int32) (zSt : Nat → Int32) (zPb : Nat → Int32) (zPs : Nat → Int32) (pc : Nat) (ls : Array Slot) (H : Heap) (locs : List Loc), narrow .int (.int v) = .int v → decode cX0_holdAuction pc = .ok (.ireturn, 1) → va_P D vwCl [(aB, .inr (0, [.ref aP, .ref aS, .ref aW, .int zSl])), (aW, .inl (cI, 256, .inl zWo)), (aP, .inr (3, [.int vMo, .int vSh, .ref aK, .ref aC, .ref aS])), (aK, .inr (2, [.int vKn, .ref aKd, .ref aKs])), (aKd, .inl (cI, 8, .inl fKd)), (aKs, .inl (cI, 8, .inl fKs)), (aC, .inr (1, [.int vCn, .ref aCd])), (aCd, .inl (cI, 12, .inl fCd)), (aS, .inr (4, [.int zVa, .int zCo, .int zBi, .int zPh, .ref aPr, .ref aHo, .ref aHe, .ref aSt, .ref aPb, .ref aPs])), (aPr, .inl (cI, 16, .inl zPr)), (aHo, .inl (cI, 16, .inl zHo)), (aHe, .inl (cI, 16, .inl zHe)), (aSt, .inl (cI, 16, .inl zSt)), (aPb, .inl (cI, 16, .inl zPb)), (aPs, .inl (cI, 16, .inl zPs))] H → va_D A [(aB, .inr (0, [.ref aP, .ref aS, .ref aW, .int zSl])), (aW, .inl (cI, 256, .inl zWo)), (aP, .inr (3, [.int vMo, .int vSh, .ref aK, .ref aC, .ref aS])), (aK, .inr (2, [.int vKn, .ref aKd, .ref aKs])), (aKd, .inl (cI, 8, .inl fKd)), (aKs, .inl (cI, 8, .inl fKs)), (aC, .inr (1, [.int vCn, .ref aCd])), (aCd, .inl (cI, 12, .inl fCd)), (aS, .inr (4, [.int zVa, .int zCo, .int zBi, .int zPh, .ref aPr, .ref aHo, .ref aHe, .ref aSt, .ref aPb, .ref aPs])), (aPr, .inl (cI, 16, .inl zPr)), (aHo, .inl (cI, 16, .inl zHo)), (aHe, .inl (cI, 16, .inl zHe)), (aSt, .inl (cI, 16, .inl zSt)), (aPb, .inl (cI, 16, .inl zPb)), (aPs, .inl (cI, 16, .inl zPs))] → va_S A s.heap H locs → some (v, zSl, zWo, zVa, zCo, zBi, zPh, zPr, zHo, zHe, zSt, zPb, zPs) = some (r, oSl, oWo, oVa, oCo, oBi, oPh, oPr, oHo, oHe, oSt, oPb, oPs) → W p l e rX0_holdAuction s m args below meth c H locs 0 0 Q (F0 m pc ls [.int v]) := by
    intro v zSl zWo zVa zCo zBi zPh zPr zHo zHe zSt zPb zPs pc ls H locs hn hd hP hD hS h
    cases h
    exact hret0 pc ls H locs () hn hd hP hD hS
  clear hret0
  have hb83 : ∀ (x2 : Int32) (vSl : Int32) (fWo : Nat → Int32) (vVa : Int32) (vCo : Int32) (vBi : Int32) (vPh : Int32) (fPr : Nat → Int32) (fHo : Nat → Int32) (fHe : Nat → Int32) (fSt : Nat → Int32) (fPb : Nat → Int32) (fPs : Nat → Int32) (H : Heap) (locs : List Loc) (ls : Array Slot), va_P D vwCl [(aB, .inr (0, [.ref aP, .ref aS, .ref aW, .int vSl])), (aW, .inl (cI, 256, .inl fWo)), (aP, .inr (3, [.int vMo, .int vSh, .ref aK, .ref aC, .ref aS])), (aK, .inr (2, [.int vKn, .ref aKd, .ref aKs])), (aKd, .inl (cI, 8, .inl fKd)), (aKs, .inl (cI, 8, .inl fKs)), (aC, .inr (1, [.int vCn, .ref aCd])), (aCd, .inl (cI, 12, .inl fCd)), (aS, .inr (4, [.int vVa, .int vCo, .int vBi, .int vPh, .ref aPr, .ref aHo, .ref aHe, .ref aSt, .ref aPb, .ref aPs])), (aPr, .inl (cI, 16, .inl fPr)), (aHo, .inl (cI, 16, .inl fHo)), (aHe, .inl (cI, 16, .inl fHe)), (aSt, .inl (cI, 16, .inl fSt)), (aPb, .inl (cI, 16, .inl fPb)), (aPs, .inl (cI, 16, .inl fPs))] H → va_D A [(aB, .inr (0, [.ref aP, .ref aS, .ref aW, .int vSl])), (aW, .inl (cI, 256, .inl fWo)), (aP, .inr (3, [.int vMo, .int vSh, .ref aK, .ref aC, .ref aS])), (aK, .inr (2, [.int vKn, .ref aKd, .ref aKs])), (aKd, .inl (cI, 8, .inl fKd)), (aKs, .inl (cI, 8, .inl fKs)), (aC, .inr (1, [.int vCn, .ref aCd])), (aCd, .inl (cI, 12, .inl fCd)), (aS, .inr (4, [.int vVa, .int vCo, .int vBi, .int vPh, .ref aPr, .ref aHo, .ref aHe, .ref aSt, .ref aPb, .ref aPs])), (aPr, .inl (cI, 16, .inl fPr)), (aHo, .inl (cI, 16, .inl fHo)), (aHe, .inl (cI, 16, .inl fHe)), (aSt, .inl (cI, 16, .inl fSt)), (aPb, .inl (cI, 16, .inl fPb)), (aPs, .inl (cI, 16, .inl fPs))] → va_S A s.heap H locs → lv_has ls 4 [(0, .ref aB), (2, .int x2)] → fX0_holdAuction_b83 vMo vSh vKn fKd fKs vCn fCd x2 vSl fWo vVa vCo vBi vPh fPr fHo fHe fSt fPb fPs = some (r, oSl, oWo, oVa, oCo, oBi, oPh, oPr, oHo, oHe, oSt, oPb, oPs) → W p l e rX0_holdAuction s m args below meth c H locs 0 0 Q (F0 m 83 ls []) := by
    intro x2 vSl fWo vVa vCo vBi vPh fPr fHo fHe fSt fPb fPs H locs ls hP hD hS hl h
    unfold fX0_holdAuction_b83 at h
    refine lv_aload_n hx hb dX0_holdAuction_83 rfl (lv_at hl 0 rfl) ?_
    refine va_get (D := D) (ci := 0) (v := .ref aS) (C := RX0) (T := TX0) (N := 4) hx hb hts i0 hown hK hP 0 rfl rfl 1 (by decide) (hts (.fieldLink RX0 22 RX0 "sale" "LBidMosaic$Sale;") (List.mem_of_getElem? (i := 1) rfl)) (fun _ h9 => h9) rfl dX0_holdAuction_84 ?_
    refine lv_iload_n hx hb dX0_holdAuction_87 rfl (lv_at hl 1 rfl) ?_
    obtain ⟨vVa_88, vCo_88, vBi_88, q_88, h⟩ := bd3_some h
    refine fr_rw_v (S := Unit) (wc := [(aS, .inr (4, [.int vVa, .int vCo, .int vBi, .int vPh, .ref aPr, .ref aHo, .ref aHe, .ref aSt, .ref aPb, .ref aPs]))]) (wc' := fun _ => [(aS, .inr (4, [.int vVa_88, .int vCo_88, .int vBi_88, .int vPh, .ref aPr, .ref aHo, .ref aHe, .ref aSt, .ref aPb, .ref aPs]))]) (wr := [(aB, .inr (0, [.ref aP, .ref aS, .ref aW, .int vSl])), (aW, .inl (cI, 256, .inl fWo)), (aP, .inr (3, [.int vMo, .int vSh, .ref aK, .ref aC, .ref aS])), (aK, .inr (2, [.int vKn, .ref aKd, .ref aKs])), (aKd, .inl (cI, 8, .inl fKd)), (aKs, .inl (cI, 8, .inl fKs)), (aC, .inr (1, [.int vCn, .ref aCd])), (aCd, .inl (cI, 12, .inl fCd)), (aPr, .inl (cI, 16, .inl fPr)), (aHo, .inl (cI, 16, .inl fHo)), (aHe, .inl (cI, 16, .inl fHe)), (aSt, .inl (cI, 16, .inl fSt)), (aPb, .inl (cI, 16, .inl fPb)), (aPs, .inl (cI, 16, .inl fPs))]) (w2 := fun _ => [(aB, .inr (0, [.ref aP, .ref aS, .ref aW, .int vSl])), (aW, .inl (cI, 256, .inl fWo)), (aP, .inr (3, [.int vMo, .int vSh, .ref aK, .ref aC, .ref aS])), (aK, .inr (2, [.int vKn, .ref aKd, .ref aKs])), (aKd, .inl (cI, 8, .inl fKd)), (aKs, .inl (cI, 8, .inl fKs)), (aC, .inr (1, [.int vCn, .ref aCd])), (aCd, .inl (cI, 12, .inl fCd)), (aS, .inr (4, [.int vVa_88, .int vCo_88, .int vBi_88, .int vPh, .ref aPr, .ref aHo, .ref aHe, .ref aSt, .ref aPb, .ref aPs])), (aPr, .inl (cI, 16, .inl fPr)), (aHo, .inl (cI, 16, .inl fHo)), (aHe, .inl (cI, 16, .inl fHe)), (aSt, .inl (cI, 16, .inl fSt)), (aPb, .inl (cI, 16, .inl fPb)), (aPs, .inl (cI, 16, .inl fPs))]) (fr_VNv (As := [.int x2]) (rest := []) (own := RX0) (host := RX5) (C := RX4) ⟨hx, hb, hml, hown, hts⟩ hN (tX4_finish aS aPr aHo aHe aSt aPb aPs vVa vCo vBi vPh x2 vVa_88 vCo_88 vBi_88 q_88) gX0_holdAuction_X4_finish_n86 rfl (nx_mem (i := 361) (by decide +kernel) rfl) (List.mem_of_getElem? (i := 56) rfl) (List.mem_of_getElem? (i := 111) rfl) (List.mem_of_getElem? (i := 112) rfl) (fr_preV (As := [.int x2]) (b := aS) (ci := 4) (q0 := 8) (wc := [(aS, .inr (4, [.int vVa, .int vCo, .int vBi, .int vPh, .ref aPr, .ref aHo, .ref aHe, .ref aSt, .ref aPb, .ref aPs]))]) hK hN hP hD [8] (by decide) rfl rfl rfl) (n := 1) (by decide +kernel) ⟨Nat.le_of_ble_eq_true rfl, Nat.le_of_ble_eq_true rfl⟩ rfl hl.1 rfl (Nat.le_of_ble_eq_true rfl) dX0_holdAuction_88 ⟨Nat.zero_le _, Nat.zero_le _⟩) hP hD hS hA [8] [0, 1, 2, 3, 4, 5, 6, 7, 9, 10, 11, 12, 13, 14] [0, 1, 2, 3, 4, 5, 6, 7, 14, 8, 9, 10, 11, 12, 13] rfl rfl (by decide) (by decide) (by decide) (fun _ => rfl) (c2 := 0) (s2 := 0) rfl rfl (fun _ H locs hP hD hS => ?_)
    refine lv_iload_n hx hb dX0_holdAuction_91 rfl (lv_at hl 1 rfl) ?_
    exact hret x2 vSl fWo vVa_88 vCo_88 vBi_88 vPh fPr fHo fHe fSt fPb fPs 92 ls H locs rfl dX0_holdAuction_92 hP hD hS h
  have hb40 : ∀ (n : Nat) (x1 : Int32) (x2 : Int32) (x3 : Int32) (vSl : Int32) (fWo : Nat → Int32) (vVa : Int32) (vCo : Int32) (vBi : Int32) (vPh : Int32) (fPr : Nat → Int32) (fHo : Nat → Int32) (fHe : Nat → Int32) (fSt : Nat → Int32) (fPb : Nat → Int32) (fPs : Nat → Int32) (H : Heap) (locs : List Loc) (ls : Array Slot), va_P D vwCl [(aB, .inr (0, [.ref aP, .ref aS, .ref aW, .int vSl])), (aW, .inl (cI, 256, .inl fWo)), (aP, .inr (3, [.int vMo, .int vSh, .ref aK, .ref aC, .ref aS])), (aK, .inr (2, [.int vKn, .ref aKd, .ref aKs])), (aKd, .inl (cI, 8, .inl fKd)), (aKs, .inl (cI, 8, .inl fKs)), (aC, .inr (1, [.int vCn, .ref aCd])), (aCd, .inl (cI, 12, .inl fCd)), (aS, .inr (4, [.int vVa, .int vCo, .int vBi, .int vPh, .ref aPr, .ref aHo, .ref aHe, .ref aSt, .ref aPb, .ref aPs])), (aPr, .inl (cI, 16, .inl fPr)), (aHo, .inl (cI, 16, .inl fHo)), (aHe, .inl (cI, 16, .inl fHe)), (aSt, .inl (cI, 16, .inl fSt)), (aPb, .inl (cI, 16, .inl fPb)), (aPs, .inl (cI, 16, .inl fPs))] H → va_D A [(aB, .inr (0, [.ref aP, .ref aS, .ref aW, .int vSl])), (aW, .inl (cI, 256, .inl fWo)), (aP, .inr (3, [.int vMo, .int vSh, .ref aK, .ref aC, .ref aS])), (aK, .inr (2, [.int vKn, .ref aKd, .ref aKs])), (aKd, .inl (cI, 8, .inl fKd)), (aKs, .inl (cI, 8, .inl fKs)), (aC, .inr (1, [.int vCn, .ref aCd])), (aCd, .inl (cI, 12, .inl fCd)), (aS, .inr (4, [.int vVa, .int vCo, .int vBi, .int vPh, .ref aPr, .ref aHo, .ref aHe, .ref aSt, .ref aPb, .ref aPs])), (aPr, .inl (cI, 16, .inl fPr)), (aHo, .inl (cI, 16, .inl fHo)), (aHe, .inl (cI, 16, .inl fHe)), (aSt, .inl (cI, 16, .inl fSt)), (aPb, .inl (cI, 16, .inl fPb)), (aPs, .inl (cI, 16, .inl fPs))] → va_S A s.heap H locs → lv_has ls 4 [(0, .ref aB), (1, .int x1), (2, .int x2), (3, .int x3)] → fX0_holdAuction_b40 vMo vSh vKn fKd fKs vCn fCd n x1 x2 x3 vSl fWo vVa vCo vBi vPh fPr fHo fHe fSt fPb fPs = some (r, oSl, oWo, oVa, oCo, oBi, oPh, oPr, oHo, oHe, oSt, oPb, oPs) → W p l e rX0_holdAuction s m args below meth c H locs 0 0 Q (F0 m 40 ls []) := by
    intro n
    induction n with
    | zero => intro x1 x2 x3 vSl fWo vVa vCo vBi vPh fPr fHo fHe fSt fPb fPs H locs ls hP hD hS hl h; exact absurd h (by rw [fX0_holdAuction_b40]; exact fun z => by cases z)
    | succ n ih =>
      intro x1 x2 x3 vSl fWo vVa vCo vBi vPh fPr fHo fHe fSt fPb fPs H locs ls hP hD hS hl h
      rw [fX0_holdAuction_b40] at h
      refine lv_iload_n hx hb dX0_holdAuction_40 rfl (lv_at hl 3 rfl) ?_
      refine lv_bipush (v := (16 : Int32)) hx hb dX0_holdAuction_41 (by decide) ?_
      refine lv_icmp_ge (tgt := 83) hx hb dX0_holdAuction_43 (by decide) (fun c1 => ?_) (fun c1 => ?_)
      · have h := (if_pos c1).symm.trans h
        exact hb83 x2 vSl fWo vVa vCo vBi vPh fPr fHo fHe fSt fPb fPs H locs ls hP hD hS (lv_sub hl [0, 2] rfl) h
      · have h := (if_neg c1).symm.trans h
        refine lv_iload_n hx hb dX0_holdAuction_46 rfl (lv_at hl 1 rfl) ?_
        refine lv_iconst (v := (1 : Int32)) hx hb dX0_holdAuction_47 (by decide) ?_
        refine lv_icmp_le (tgt := 83) hx hb dX0_holdAuction_48 (by decide) (fun c2 => ?_) (fun c2 => ?_)
        · have h := (if_pos c2).symm.trans h
          exact hb83 x2 vSl fWo vVa vCo vBi vPh fPr fHo fHe fSt fPb fPs H locs ls hP hD hS (lv_sub hl [0, 2] rfl) h
        · have h := (if_neg c2).symm.trans h
          refine lv_iconst (v := (1 : Int32)) hx hb dX0_holdAuction_51 (by decide) ?_
          refine lv_iload_n hx hb dX0_holdAuction_52 rfl (lv_at hl 1 rfl) ?_
          refine lv_iconst (v := (2 : Int32)) hx hb dX0_holdAuction_53 (by decide) ?_
          refine lv_aload_n hx hb dX0_holdAuction_54 rfl (lv_at hl 0 rfl) ?_
          refine va_get (D := D) (ci := 0) (v := .ref aP) (C := RX0) (T := TX0) (N := 4) hx hb hts i0 hown hK hP 0 rfl rfl 0 (by decide) (hts (.fieldLink RX0 12 RX0 "picture" "LBidMosaic$Picture;") (List.mem_of_getElem? (i := 2) rfl)) (fun _ h9 => h9) rfl dX0_holdAuction_55 ?_
          refine va_getN (D := D) (ci := 3) (v := .int vSh) (C := RX3) (T := TX3) (N := 5) hx hb hts i3 hown hK hP 2 rfl rfl 1 (by decide) (hN.f (a := RX0) (i := 83) (b := RX3) (n := "shrink") (d := "I") (h := RX5) (nx_mem (i := 121) (by decide +kernel) rfl)) (fun _ h9 => h9) rfl dX0_holdAuction_58 ?_
          refine va_mmax hx hb (hml.trans hl.1.symm) hown (hts (.methodLink RX0 77 Lib.Math.max.name) (List.mem_of_getElem? (i := 4) rfl)) (hts (.static Lib.Math.max.name) (List.mem_of_getElem? (i := 5) rfl)) (hts (.initialized "java/lang/Math") (List.mem_of_getElem? (i := 6) rfl)) (hts (.code Lib.Math.max.name Lib.Math.max.code 2 (some .int)) (List.mem_of_getElem? (i := 7) rfl)) (Nat.le_of_ble_eq_true rfl) (Nat.le_of_ble_eq_true rfl) (Nat.zero_le _) (Nat.zero_le _) dX0_holdAuction_61 ?_
          refine lv_topi (fun x_61 ex_61 => ?_)
          have h := bdv_some ex_61 h
          obtain ⟨g3, h⟩ := no_some h
          refine lv_idiv hx hb dX0_holdAuction_64 g3 ?_
          refine va_mmax hx hb (hml.trans hl.1.symm) hown (hts (.methodLink RX0 77 Lib.Math.max.name) (List.mem_of_getElem? (i := 4) rfl)) (hts (.static Lib.Math.max.name) (List.mem_of_getElem? (i := 5) rfl)) (hts (.initialized "java/lang/Math") (List.mem_of_getElem? (i := 6) rfl)) (hts (.code Lib.Math.max.name Lib.Math.max.code 2 (some .int)) (List.mem_of_getElem? (i := 7) rfl)) (Nat.le_of_ble_eq_true rfl) (Nat.le_of_ble_eq_true rfl) (Nat.zero_le _) (Nat.zero_le _) dX0_holdAuction_65 ?_
          refine lv_topi (fun x_65 ex_65 => ?_)
          have h := bdv_some ex_65 h
          refine lv_istore_n (lv' := [(1, .int x_65), (0, .ref aB), (2, .int x2), (3, .int x3)]) hx hb dX0_holdAuction_68 rfl hl (by decide) rfl (fun ls hl => ?_)
          refine lv_iload_n hx hb dX0_holdAuction_69 rfl (lv_at hl 2 rfl) ?_
          refine lv_aload_n hx hb dX0_holdAuction_70 rfl (lv_at hl 1 rfl) ?_
          refine lv_iload_n hx hb dX0_holdAuction_71 rfl (lv_at hl 0 rfl) ?_
          obtain ⟨r_72, vPh_72, fPr_72, fHo_72, fHe_72, fSt_72, fPb_72, fPs_72, q_72, h⟩ := bd8_some h
          refine fr_rw_i (S := Unit) (wc := [(aB, .inr (0, [.ref aP, .ref aS, .ref aW, .int vSl])), (aW, .inl (cI, 256, .inl fWo)), (aP, .inr (3, [.int vMo, .int vSh, .ref aK, .ref aC, .ref aS])), (aK, .inr (2, [.int vKn, .ref aKd, .ref aKs])), (aKd, .inl (cI, 8, .inl fKd)), (aKs, .inl (cI, 8, .inl fKs)), (aC, .inr (1, [.int vCn, .ref aCd])), (aCd, .inl (cI, 12, .inl fCd)), (aS, .inr (4, [.int vVa, .int vCo, .int vBi, .int vPh, .ref aPr, .ref aHo, .ref aHe, .ref aSt, .ref aPb, .ref aPs])), (aPr, .inl (cI, 16, .inl fPr)), (aHo, .inl (cI, 16, .inl fHo)), (aHe, .inl (cI, 16, .inl fHe)), (aSt, .inl (cI, 16, .inl fSt)), (aPb, .inl (cI, 16, .inl fPb)), (aPs, .inl (cI, 16, .inl fPs))]) (wc' := fun _ => [(aB, .inr (0, [.ref aP, .ref aS, .ref aW, .int vSl])), (aW, .inl (cI, 256, .inl fWo)), (aP, .inr (3, [.int vMo, .int vSh, .ref aK, .ref aC, .ref aS])), (aK, .inr (2, [.int vKn, .ref aKd, .ref aKs])), (aKd, .inl (cI, 8, .inl fKd)), (aKs, .inl (cI, 8, .inl fKs)), (aC, .inr (1, [.int vCn, .ref aCd])), (aCd, .inl (cI, 12, .inl fCd)), (aS, .inr (4, [.int vVa, .int vCo, .int vBi, .int vPh_72, .ref aPr, .ref aHo, .ref aHe, .ref aSt, .ref aPb, .ref aPs])), (aPr, .inl (cI, 16, .inl fPr_72)), (aHo, .inl (cI, 16, .inl fHo_72)), (aHe, .inl (cI, 16, .inl fHe_72)), (aSt, .inl (cI, 16, .inl fSt_72)), (aPb, .inl (cI, 16, .inl fPb_72)), (aPs, .inl (cI, 16, .inl fPs_72))]) (wr := []) (w2 := fun _ => [(aB, .inr (0, [.ref aP, .ref aS, .ref aW, .int vSl])), (aW, .inl (cI, 256, .inl fWo)), (aP, .inr (3, [.int vMo, .int vSh, .ref aK, .ref aC, .ref aS])), (aK, .inr (2, [.int vKn, .ref aKd, .ref aKs])), (aKd, .inl (cI, 8, .inl fKd)), (aKs, .inl (cI, 8, .inl fKs)), (aC, .inr (1, [.int vCn, .ref aCd])), (aCd, .inl (cI, 12, .inl fCd)), (aS, .inr (4, [.int vVa, .int vCo, .int vBi, .int vPh_72, .ref aPr, .ref aHo, .ref aHe, .ref aSt, .ref aPb, .ref aPs])), (aPr, .inl (cI, 16, .inl fPr_72)), (aHo, .inl (cI, 16, .inl fHo_72)), (aHe, .inl (cI, 16, .inl fHe_72)), (aSt, .inl (cI, 16, .inl fSt_72)), (aPb, .inl (cI, 16, .inl fPb_72)), (aPs, .inl (cI, 16, .inl fPs_72))]) (fr_V (As := [.int x_65]) (rest := [.int x2]) (C := RX0) ⟨hx, hb, hml, hown, hts⟩ (tX0_auctionPhase aB aW aP aK aKd aKs aC aCd aS aPr aHo aHe aSt aPb aPs vSl fWo vMo vSh vKn fKd fKs vCn fCd vVa vCo vBi vPh fPr fHo fHe fSt fPb fPs x_65 r_72 vPh_72 fPr_72 fHo_72 fHe_72 fSt_72 fPb_72 fPs_72 q_72) gX0_holdAuction_X0_auctionPhase rfl (fr_preV (As := [.int x_65]) (b := aB) (ci := 0) (q0 := 0) (wc := [(aB, .inr (0, [.ref aP, .ref aS, .ref aW, .int vSl])), (aW, .inl (cI, 256, .inl fWo)), (aP, .inr (3, [.int vMo, .int vSh, .ref aK, .ref aC, .ref aS])), (aK, .inr (2, [.int vKn, .ref aKd, .ref aKs])), (aKd, .inl (cI, 8, .inl fKd)), (aKs, .inl (cI, 8, .inl fKs)), (aC, .inr (1, [.int vCn, .ref aCd])), (aCd, .inl (cI, 12, .inl fCd)), (aS, .inr (4, [.int vVa, .int vCo, .int vBi, .int vPh, .ref aPr, .ref aHo, .ref aHe, .ref aSt, .ref aPb, .ref aPs])), (aPr, .inl (cI, 16, .inl fPr)), (aHo, .inl (cI, 16, .inl fHo)), (aHe, .inl (cI, 16, .inl fHe)), (aSt, .inl (cI, 16, .inl fSt)), (aPb, .inl (cI, 16, .inl fPb)), (aPs, .inl (cI, 16, .inl fPs))]) hK hN hP hD [0, 1, 2, 3, 4, 5, 6, 7, 8, 9, 10, 11, 12, 13, 14] (by decide) rfl rfl rfl) (n := 1) (by decide +kernel) ⟨Nat.le_of_ble_eq_true rfl, Nat.le_of_ble_eq_true rfl⟩ rfl hl.1 rfl (Nat.le_of_ble_eq_true rfl) dX0_holdAuction_72 ⟨Nat.zero_le _, Nat.zero_le _⟩) hP hD hS hA [0, 1, 2, 3, 4, 5, 6, 7, 8, 9, 10, 11, 12, 13, 14] [] [0, 1, 2, 3, 4, 5, 6, 7, 8, 9, 10, 11, 12, 13, 14] rfl rfl (by decide) (by decide) (by decide) (fun _ => rfl) (c2 := 0) (s2 := 0) rfl rfl (fun _ H locs hP hD hS => ?_)
          refine lv_iadd hx hb dX0_holdAuction_75 ?_
          refine lv_topi (fun x2_76 ex2_76 => ?_)
          have h := bdv_some ex2_76 h
          refine lv_istore_n (lv' := [(2, .int x2_76), (1, .int x_65), (0, .ref aB), (3, .int x3)]) hx hb dX0_holdAuction_76 rfl hl (by decide) rfl (fun ls hl => ?_)
          refine lv_iinc (v := x3 + 1) (lv' := [(3, .int (x3 + 1)), (2, .int x2_76), (1, .int x_65), (0, .ref aB)]) hx hb dX0_holdAuction_77 hl (k := 3) rfl rfl (by decide) rfl (fun ls hl => ?_)
          refine lv_goto (tgt := 40) hx hb dX0_holdAuction_80 (by decide) ?_
          exact ih x_65 x2_76 (x3 + 1) vSl fWo vVa vCo vBi vPh_72 fPr_72 fHo_72 fHe_72 fSt_72 fPb_72 fPs_72 H locs ls hP hD hS (lv_sub hl [3, 2, 1, 0] rfl) h
  unfold fX0_holdAuction at h
  obtain ⟨H, hH⟩ : ∃ H, H = s.heap := ⟨_, rfl⟩
  have hP : va_P D vwCl [(aB, .inr (0, [.ref aP, .ref aS, .ref aW, .int vSl])), (aW, .inl (cI, 256, .inl fWo)), (aP, .inr (3, [.int vMo, .int vSh, .ref aK, .ref aC, .ref aS])), (aK, .inr (2, [.int vKn, .ref aKd, .ref aKs])), (aKd, .inl (cI, 8, .inl fKd)), (aKs, .inl (cI, 8, .inl fKs)), (aC, .inr (1, [.int vCn, .ref aCd])), (aCd, .inl (cI, 12, .inl fCd)), (aS, .inr (4, [.int vVa, .int vCo, .int vBi, .int vPh, .ref aPr, .ref aHo, .ref aHe, .ref aSt, .ref aPb, .ref aPs])), (aPr, .inl (cI, 16, .inl fPr)), (aHo, .inl (cI, 16, .inl fHo)), (aHe, .inl (cI, 16, .inl fHe)), (aSt, .inl (cI, 16, .inl fSt)), (aPb, .inl (cI, 16, .inl fPb)), (aPs, .inl (cI, 16, .inl fPs))] H := by rw [hH]; exact hP
  obtain ⟨locs, hlocs⟩ : ∃ x : List Loc, x = [] := ⟨_, rfl⟩
  have hS : va_S A s.heap H locs := by rw [hH, hlocs]; exact hS
  suffices hgo : W p l e rX0_holdAuction s m args below meth c H locs 0 0 Q (F0 m 0 ls []) by rw [hH, hlocs] at hgo; exact hgo
  refine lv_aload_n hx hb dX0_holdAuction_0 rfl (lv_at hl 0 rfl) ?_
  obtain ⟨vSl_1, fWo_1, q_1, h⟩ := bd2_some h
  refine fr_rw_v (S := Unit) (wc := [(aB, .inr (0, [.ref aP, .ref aS, .ref aW, .int vSl])), (aW, .inl (cI, 256, .inl fWo)), (aP, .inr (3, [.int vMo, .int vSh, .ref aK, .ref aC, .ref aS])), (aK, .inr (2, [.int vKn, .ref aKd, .ref aKs])), (aKd, .inl (cI, 8, .inl fKd)), (aKs, .inl (cI, 8, .inl fKs)), (aC, .inr (1, [.int vCn, .ref aCd])), (aCd, .inl (cI, 12, .inl fCd))]) (wc' := fun _ => [(aB, .inr (0, [.ref aP, .ref aS, .ref aW, .int vSl_1])), (aW, .inl (cI, 256, .inl fWo_1)), (aP, .inr (3, [.int vMo, .int vSh, .ref aK, .ref aC, .ref aS])), (aK, .inr (2, [.int vKn, .ref aKd, .ref aKs])), (aKd, .inl (cI, 8, .inl fKd)), (aKs, .inl (cI, 8, .inl fKs)), (aC, .inr (1, [.int vCn, .ref aCd])), (aCd, .inl (cI, 12, .inl fCd))]) (wr := [(aS, .inr (4, [.int vVa, .int vCo, .int vBi, .int vPh, .ref aPr, .ref aHo, .ref aHe, .ref aSt, .ref aPb, .ref aPs])), (aPr, .inl (cI, 16, .inl fPr)), (aHo, .inl (cI, 16, .inl fHo)), (aHe, .inl (cI, 16, .inl fHe)), (aSt, .inl (cI, 16, .inl fSt)), (aPb, .inl (cI, 16, .inl fPb)), (aPs, .inl (cI, 16, .inl fPs))]) (w2 := fun _ => [(aB, .inr (0, [.ref aP, .ref aS, .ref aW, .int vSl_1])), (aW, .inl (cI, 256, .inl fWo_1)), (aP, .inr (3, [.int vMo, .int vSh, .ref aK, .ref aC, .ref aS])), (aK, .inr (2, [.int vKn, .ref aKd, .ref aKs])), (aKd, .inl (cI, 8, .inl fKd)), (aKs, .inl (cI, 8, .inl fKs)), (aC, .inr (1, [.int vCn, .ref aCd])), (aCd, .inl (cI, 12, .inl fCd)), (aS, .inr (4, [.int vVa, .int vCo, .int vBi, .int vPh, .ref aPr, .ref aHo, .ref aHe, .ref aSt, .ref aPb, .ref aPs])), (aPr, .inl (cI, 16, .inl fPr)), (aHo, .inl (cI, 16, .inl fHo)), (aHe, .inl (cI, 16, .inl fHe)), (aSt, .inl (cI, 16, .inl fSt)), (aPb, .inl (cI, 16, .inl fPb)), (aPs, .inl (cI, 16, .inl fPs))]) (fr_Vv (As := []) (rest := []) (C := RX0) ⟨hx, hb, hml, hown, hts⟩ (tX0_readWorths aB aW aP aK aKd aKs aC aCd aS vSl fWo vMo vSh vKn fKd fKs vCn fCd vSl_1 fWo_1 q_1) gX0_holdAuction_X0_readWorths rfl (fr_preV (As := []) (b := aB) (ci := 0) (q0 := 0) (wc := [(aB, .inr (0, [.ref aP, .ref aS, .ref aW, .int vSl])), (aW, .inl (cI, 256, .inl fWo)), (aP, .inr (3, [.int vMo, .int vSh, .ref aK, .ref aC, .ref aS])), (aK, .inr (2, [.int vKn, .ref aKd, .ref aKs])), (aKd, .inl (cI, 8, .inl fKd)), (aKs, .inl (cI, 8, .inl fKs)), (aC, .inr (1, [.int vCn, .ref aCd])), (aCd, .inl (cI, 12, .inl fCd))]) hK hN hP hD [0, 1, 2, 3, 4, 5, 6, 7] (by decide) rfl rfl rfl) (n := 0) (by decide +kernel) ⟨Nat.le_of_ble_eq_true rfl, Nat.le_of_ble_eq_true rfl⟩ rfl hl.1 rfl (Nat.le_of_ble_eq_true rfl) dX0_holdAuction_1 ⟨Nat.zero_le _, Nat.zero_le _⟩) hP hD hS hA [0, 1, 2, 3, 4, 5, 6, 7] [8, 9, 10, 11, 12, 13, 14] [7, 8, 9, 10, 11, 12, 13, 14, 0, 1, 2, 3, 4, 5, 6] rfl rfl (by decide) (by decide) (by decide) (fun _ => rfl) (c2 := 0) (s2 := 0) rfl rfl (fun _ H locs hP hD hS => ?_)
  refine lv_aload_n hx hb dX0_holdAuction_4 rfl (lv_at hl 0 rfl) ?_
  refine va_get (D := D) (ci := 0) (v := .ref aS) (C := RX0) (T := TX0) (N := 4) hx hb hts i0 hown hK hP 0 rfl rfl 1 (by decide) (hts (.fieldLink RX0 22 RX0 "sale" "LBidMosaic$Sale;") (List.mem_of_getElem? (i := 1) rfl)) (fun _ h9 => h9) rfl dX0_holdAuction_5 ?_
  obtain ⟨vPh_8, fPr_8, q_8, h⟩ := bd2_some h
  refine fr_rw_v (S := Unit) (wc := [(aS, .inr (4, [.int vVa, .int vCo, .int vBi, .int vPh, .ref aPr, .ref aHo, .ref aHe, .ref aSt, .ref aPb, .ref aPs])), (aPr, .inl (cI, 16, .inl fPr))]) (wc' := fun _ => [(aS, .inr (4, [.int vVa, .int vCo, .int vBi, .int vPh_8, .ref aPr, .ref aHo, .ref aHe, .ref aSt, .ref aPb, .ref aPs])), (aPr, .inl (cI, 16, .inl fPr_8))]) (wr := [(aB, .inr (0, [.ref aP, .ref aS, .ref aW, .int vSl_1])), (aW, .inl (cI, 256, .inl fWo_1)), (aP, .inr (3, [.int vMo, .int vSh, .ref aK, .ref aC, .ref aS])), (aK, .inr (2, [.int vKn, .ref aKd, .ref aKs])), (aKd, .inl (cI, 8, .inl fKd)), (aKs, .inl (cI, 8, .inl fKs)), (aC, .inr (1, [.int vCn, .ref aCd])), (aCd, .inl (cI, 12, .inl fCd)), (aHo, .inl (cI, 16, .inl fHo)), (aHe, .inl (cI, 16, .inl fHe)), (aSt, .inl (cI, 16, .inl fSt)), (aPb, .inl (cI, 16, .inl fPb)), (aPs, .inl (cI, 16, .inl fPs))]) (w2 := fun _ => [(aB, .inr (0, [.ref aP, .ref aS, .ref aW, .int vSl_1])), (aW, .inl (cI, 256, .inl fWo_1)), (aP, .inr (3, [.int vMo, .int vSh, .ref aK, .ref aC, .ref aS])), (aK, .inr (2, [.int vKn, .ref aKd, .ref aKs])), (aKd, .inl (cI, 8, .inl fKd)), (aKs, .inl (cI, 8, .inl fKs)), (aC, .inr (1, [.int vCn, .ref aCd])), (aCd, .inl (cI, 12, .inl fCd)), (aS, .inr (4, [.int vVa, .int vCo, .int vBi, .int vPh_8, .ref aPr, .ref aHo, .ref aHe, .ref aSt, .ref aPb, .ref aPs])), (aPr, .inl (cI, 16, .inl fPr_8)), (aHo, .inl (cI, 16, .inl fHo)), (aHe, .inl (cI, 16, .inl fHe)), (aSt, .inl (cI, 16, .inl fSt)), (aPb, .inl (cI, 16, .inl fPb)), (aPs, .inl (cI, 16, .inl fPs))]) (fr_VNv (As := []) (rest := []) (own := RX0) (host := RX5) (C := RX4) ⟨hx, hb, hml, hown, hts⟩ hN (tX4_begin aS aPr aHo aHe aSt aPb aPs vVa vCo vBi vPh fPr vPh_8 fPr_8 q_8) gX0_holdAuction_X4_begin_n69 rfl (nx_mem (i := 314) (by decide +kernel) rfl) (List.mem_of_getElem? (i := 56) rfl) (List.mem_of_getElem? (i := 55) rfl) (List.mem_of_getElem? (i := 57) rfl) (fr_preV (As := []) (b := aS) (ci := 4) (q0 := 8) (wc := [(aS, .inr (4, [.int vVa, .int vCo, .int vBi, .int vPh, .ref aPr, .ref aHo, .ref aHe, .ref aSt, .ref aPb, .ref aPs])), (aPr, .inl (cI, 16, .inl fPr))]) hK hN hP hD [8, 9] (by decide) rfl rfl rfl) (n := 0) (by decide +kernel) ⟨Nat.le_of_ble_eq_true rfl, Nat.le_of_ble_eq_true rfl⟩ rfl hl.1 rfl (Nat.le_of_ble_eq_true rfl) dX0_holdAuction_8 ⟨Nat.zero_le _, Nat.zero_le _⟩) hP hD hS hA [8, 9] [0, 1, 2, 3, 4, 5, 6, 7, 10, 11, 12, 13, 14] [0, 1, 2, 3, 4, 5, 6, 7, 13, 14, 8, 9, 10, 11, 12] rfl rfl (by decide) (by decide) (by decide) (fun _ => rfl) (c2 := 0) (s2 := 0) rfl rfl (fun _ H locs hP hD hS => ?_)
  refine lv_iconst (v := (1 : Int32)) hx hb dX0_holdAuction_11 (by decide) ?_
  refine lv_aload_n hx hb dX0_holdAuction_12 rfl (lv_at hl 0 rfl) ?_
  refine va_get (D := D) (ci := 0) (v := .ref aP) (C := RX0) (T := TX0) (N := 4) hx hb hts i0 hown hK hP 0 rfl rfl 0 (by decide) (hts (.fieldLink RX0 12 RX0 "picture" "LBidMosaic$Picture;") (List.mem_of_getElem? (i := 2) rfl)) (fun _ h9 => h9) rfl dX0_holdAuction_13 ?_
  obtain ⟨r_16, q_16, h⟩ := bd1_some h
  refine fr_ro_i (S := Unit) (wc := [(aP, .inr (3, [.int vMo, .int vSh, .ref aK, .ref aC, .ref aS])), (aK, .inr (2, [.int vKn, .ref aKd, .ref aKs])), (aKd, .inl (cI, 8, .inl fKd)), (aC, .inr (1, [.int vCn, .ref aCd])), (aCd, .inl (cI, 12, .inl fCd))]) (fr_VN (As := []) (rest := [.int (1 : Int32)]) (own := RX0) (host := RX5) (C := RX3) ⟨hx, hb, hml, hown, hts⟩ hN (tX3_greatestDifference aP aK aKd aC aCd aS aKs vMo vSh vKn fKd vCn fCd r_16 q_16) gX0_holdAuction_X3_greatestDifference_n74 rfl (nx_mem (i := 318) (by decide +kernel) rfl) (List.mem_of_getElem? (i := 40) rfl) (List.mem_of_getElem? (i := 61) rfl) (List.mem_of_getElem? (i := 62) rfl) (fr_preV (As := []) (b := aP) (ci := 3) (q0 := 2) (wc := [(aP, .inr (3, [.int vMo, .int vSh, .ref aK, .ref aC, .ref aS])), (aK, .inr (2, [.int vKn, .ref aKd, .ref aKs])), (aKd, .inl (cI, 8, .inl fKd)), (aC, .inr (1, [.int vCn, .ref aCd])), (aCd, .inl (cI, 12, .inl fCd))]) hK hN hP hD [2, 3, 4, 6, 7] (by decide) rfl rfl rfl) (n := 0) (by decide +kernel) ⟨Nat.le_of_ble_eq_true rfl, Nat.le_of_ble_eq_true rfl⟩ rfl hl.1 rfl (Nat.le_of_ble_eq_true rfl) dX0_holdAuction_16 ⟨Nat.zero_le _, Nat.zero_le _⟩) hP hD hS hA [2, 3, 4, 6, 7] rfl (c2 := 0) (s2 := 0) rfl rfl (fun H locs hP hS => ?_)
  refine lv_aload_n hx hb dX0_holdAuction_19 rfl (lv_at hl 0 rfl) ?_
  refine va_get (D := D) (ci := 0) (v := .int vSl_1) (C := RX0) (T := TX0) (N := 4) hx hb hts i0 hown hK hP 0 rfl rfl 3 (by decide) (hts (.fieldLink RX0 43 RX0 "slots" "I") (List.mem_of_getElem? (i := 3) rfl)) (fun _ h9 => h9) rfl dX0_holdAuction_20 ?_
  refine lv_iconst (v := (1 : Int32)) hx hb dX0_holdAuction_23 (by decide) ?_
  refine lv_iadd hx hb dX0_holdAuction_24 ?_
  refine lv_imul hx hb dX0_holdAuction_25 ?_
  refine lv_iconst (v := (4 : Int32)) hx hb dX0_holdAuction_26 (by decide) ?_
  refine lv_idiv hx hb dX0_holdAuction_27 (by decide) ?_
  refine va_mmax hx hb (hml.trans hl.1.symm) hown (hts (.methodLink RX0 77 Lib.Math.max.name) (List.mem_of_getElem? (i := 4) rfl)) (hts (.static Lib.Math.max.name) (List.mem_of_getElem? (i := 5) rfl)) (hts (.initialized "java/lang/Math") (List.mem_of_getElem? (i := 6) rfl)) (hts (.code Lib.Math.max.name Lib.Math.max.code 2 (some .int)) (List.mem_of_getElem? (i := 7) rfl)) (Nat.le_of_ble_eq_true rfl) (Nat.le_of_ble_eq_true rfl) (Nat.zero_le _) (Nat.zero_le _) dX0_holdAuction_28 ?_
  refine lv_topi (fun x_28 ex_28 => ?_)
  have h := bdv_some ex_28 h
  refine lv_istore_n (lv' := [(1, .int x_28), (0, .ref aB)]) hx hb dX0_holdAuction_31 rfl hl (by decide) rfl (fun ls hl => ?_)
  refine lv_aload_n hx hb dX0_holdAuction_32 rfl (lv_at hl 1 rfl) ?_
  refine lv_iload_n hx hb dX0_holdAuction_33 rfl (lv_at hl 0 rfl) ?_
  obtain ⟨r_34, vPh_34, fPr_34, fHo_34, fHe_34, fSt_34, fPb_34, fPs_34, q_34, h⟩ := bd8_some h
  refine fr_rw_i (S := Unit) (wc := [(aB, .inr (0, [.ref aP, .ref aS, .ref aW, .int vSl_1])), (aW, .inl (cI, 256, .inl fWo_1)), (aP, .inr (3, [.int vMo, .int vSh, .ref aK, .ref aC, .ref aS])), (aK, .inr (2, [.int vKn, .ref aKd, .ref aKs])), (aKd, .inl (cI, 8, .inl fKd)), (aKs, .inl (cI, 8, .inl fKs)), (aC, .inr (1, [.int vCn, .ref aCd])), (aCd, .inl (cI, 12, .inl fCd)), (aS, .inr (4, [.int vVa, .int vCo, .int vBi, .int vPh_8, .ref aPr, .ref aHo, .ref aHe, .ref aSt, .ref aPb, .ref aPs])), (aPr, .inl (cI, 16, .inl fPr_8)), (aHo, .inl (cI, 16, .inl fHo)), (aHe, .inl (cI, 16, .inl fHe)), (aSt, .inl (cI, 16, .inl fSt)), (aPb, .inl (cI, 16, .inl fPb)), (aPs, .inl (cI, 16, .inl fPs))]) (wc' := fun _ => [(aB, .inr (0, [.ref aP, .ref aS, .ref aW, .int vSl_1])), (aW, .inl (cI, 256, .inl fWo_1)), (aP, .inr (3, [.int vMo, .int vSh, .ref aK, .ref aC, .ref aS])), (aK, .inr (2, [.int vKn, .ref aKd, .ref aKs])), (aKd, .inl (cI, 8, .inl fKd)), (aKs, .inl (cI, 8, .inl fKs)), (aC, .inr (1, [.int vCn, .ref aCd])), (aCd, .inl (cI, 12, .inl fCd)), (aS, .inr (4, [.int vVa, .int vCo, .int vBi, .int vPh_34, .ref aPr, .ref aHo, .ref aHe, .ref aSt, .ref aPb, .ref aPs])), (aPr, .inl (cI, 16, .inl fPr_34)), (aHo, .inl (cI, 16, .inl fHo_34)), (aHe, .inl (cI, 16, .inl fHe_34)), (aSt, .inl (cI, 16, .inl fSt_34)), (aPb, .inl (cI, 16, .inl fPb_34)), (aPs, .inl (cI, 16, .inl fPs_34))]) (wr := []) (w2 := fun _ => [(aB, .inr (0, [.ref aP, .ref aS, .ref aW, .int vSl_1])), (aW, .inl (cI, 256, .inl fWo_1)), (aP, .inr (3, [.int vMo, .int vSh, .ref aK, .ref aC, .ref aS])), (aK, .inr (2, [.int vKn, .ref aKd, .ref aKs])), (aKd, .inl (cI, 8, .inl fKd)), (aKs, .inl (cI, 8, .inl fKs)), (aC, .inr (1, [.int vCn, .ref aCd])), (aCd, .inl (cI, 12, .inl fCd)), (aS, .inr (4, [.int vVa, .int vCo, .int vBi, .int vPh_34, .ref aPr, .ref aHo, .ref aHe, .ref aSt, .ref aPb, .ref aPs])), (aPr, .inl (cI, 16, .inl fPr_34)), (aHo, .inl (cI, 16, .inl fHo_34)), (aHe, .inl (cI, 16, .inl fHe_34)), (aSt, .inl (cI, 16, .inl fSt_34)), (aPb, .inl (cI, 16, .inl fPb_34)), (aPs, .inl (cI, 16, .inl fPs_34))]) (fr_V (As := [.int x_28]) (rest := []) (C := RX0) ⟨hx, hb, hml, hown, hts⟩ (tX0_auctionPhase aB aW aP aK aKd aKs aC aCd aS aPr aHo aHe aSt aPb aPs vSl_1 fWo_1 vMo vSh vKn fKd fKs vCn fCd vVa vCo vBi vPh_8 fPr_8 fHo fHe fSt fPb fPs x_28 r_34 vPh_34 fPr_34 fHo_34 fHe_34 fSt_34 fPb_34 fPs_34 q_34) gX0_holdAuction_X0_auctionPhase rfl (fr_preV (As := [.int x_28]) (b := aB) (ci := 0) (q0 := 0) (wc := [(aB, .inr (0, [.ref aP, .ref aS, .ref aW, .int vSl_1])), (aW, .inl (cI, 256, .inl fWo_1)), (aP, .inr (3, [.int vMo, .int vSh, .ref aK, .ref aC, .ref aS])), (aK, .inr (2, [.int vKn, .ref aKd, .ref aKs])), (aKd, .inl (cI, 8, .inl fKd)), (aKs, .inl (cI, 8, .inl fKs)), (aC, .inr (1, [.int vCn, .ref aCd])), (aCd, .inl (cI, 12, .inl fCd)), (aS, .inr (4, [.int vVa, .int vCo, .int vBi, .int vPh_8, .ref aPr, .ref aHo, .ref aHe, .ref aSt, .ref aPb, .ref aPs])), (aPr, .inl (cI, 16, .inl fPr_8)), (aHo, .inl (cI, 16, .inl fHo)), (aHe, .inl (cI, 16, .inl fHe)), (aSt, .inl (cI, 16, .inl fSt)), (aPb, .inl (cI, 16, .inl fPb)), (aPs, .inl (cI, 16, .inl fPs))]) hK hN hP hD [0, 1, 2, 3, 4, 5, 6, 7, 8, 9, 10, 11, 12, 13, 14] (by decide) rfl rfl rfl) (n := 1) (by decide +kernel) ⟨Nat.le_of_ble_eq_true rfl, Nat.le_of_ble_eq_true rfl⟩ rfl hl.1 rfl (Nat.le_of_ble_eq_true rfl) dX0_holdAuction_34 ⟨Nat.zero_le _, Nat.zero_le _⟩) hP hD hS hA [0, 1, 2, 3, 4, 5, 6, 7, 8, 9, 10, 11, 12, 13, 14] [] [0, 1, 2, 3, 4, 5, 6, 7, 8, 9, 10, 11, 12, 13, 14] rfl rfl (by decide) (by decide) (by decide) (fun _ => rfl) (c2 := 0) (s2 := 0) rfl rfl (fun _ H locs hP hD hS => ?_)
  refine lv_istore_n (lv' := [(2, .int r_34), (1, .int x_28), (0, .ref aB)]) hx hb dX0_holdAuction_37 rfl hl (by decide) rfl (fun ls hl => ?_)
  refine lv_iconst (v := (1 : Int32)) hx hb dX0_holdAuction_38 (by decide) ?_
  refine lv_istore_n (lv' := [(3, .int (1 : Int32)), (2, .int r_34), (1, .int x_28), (0, .ref aB)]) hx hb dX0_holdAuction_39 rfl hl (by decide) rfl (fun ls hl => ?_)
  exact hb40 FU x_28 r_34 (1 : Int32) vSl_1 fWo_1 vVa vCo vBi vPh_34 fPr_34 fHo_34 fHe_34 fSt_34 fPb_34 fPs_34 H locs ls hP hD hS (lv_sub hl [3, 2, 1, 0] rfl) h
def fX0_gainOf (fWo : Nat → Int32) (fPr : Nat → Int32) (x1 : Int32) (x2 : Int32) : Option (Int32) :=
  bd1 (fX4_isInRow x1) fun r_1 =>
  if r_1 = 0 then
    some (0 : Int32)
  else
    bd1 (fX4_isInRow x2) fun r_8 =>
    if r_8 = 0 then
      some (0 : Int32)
    else
      if (x1 * (16 : Int32)) + x2 < 0 ∨ 256 ≤ ((x1 * (16 : Int32)) + x2).toNatClampNeg then none else
      if x2 < 0 ∨ 16 ≤ x2.toNatClampNeg then none else
      some ((fWo (((x1 * (16 : Int32)) + x2).toNatClampNeg)) - (fPr x2.toNatClampNeg))
abbrev rX0_gainOf : Room := { frames := 1, cells := 0, slots := 0, locals := 20 }
set_option maxHeartbeats 4000000 in
set_option maxRecDepth 100000 in
theorem tX0_gainOf {l : Launch} {D : va_G} {cI cZ cP : ClassId} (aB aW aS aPr aP aHo aHe aSt aPb aPs : Nat) (vSl : Int32) (fWo : Nat → Int32) (vVa : Int32) (vCo : Int32) (vBi : Int32) (vPh : Int32) (fPr : Nat → Int32) (x1 : Int32) (x2 : Int32) (r : Int32) (h : fX0_gainOf fWo fPr x1 x2 = some r) : CtI l D cI cZ cP yX0_gainOf wsX0_gainOf rX0_gainOf [.ref aB, .int x1, .int x2] [(aB, .inr (0, [.ref aP, .ref aS, .ref aW, .int vSl])), (aW, .inl (cI, 256, .inl fWo)), (aS, .inr (4, [.int vVa, .int vCo, .int vBi, .int vPh, .ref aPr, .ref aHo, .ref aHe, .ref aSt, .ref aPb, .ref aPs])), (aPr, .inl (cI, 16, .inl fPr))] (fun _ : Unit => [(aB, .inr (0, [.ref aP, .ref aS, .ref aW, .int vSl])), (aW, .inl (cI, 256, .inl fWo)), (aS, .inr (4, [.int vVa, .int vCo, .int vBi, .int vPh, .ref aPr, .ref aHo, .ref aHe, .ref aSt, .ref aPb, .ref aPs])), (aPr, .inl (cI, 16, .inl fPr))]) r := by
  refine CtI.ofW (cc := cX0_gainOf) (maxL := 3) (by decide) rfl (Nat.le_of_ble_eq_true rfl) (lv := [(0, .ref aB), (1, .int x1), (2, .int x2)]) rfl ?_
  intro p e s m args below meth c A Q ls hx hb hml hown hts hK hN hP hD hS hA hl hret0
  have hown : s.vm.findClass RX0 = some m.cls := hown
  have i0 : ∀ w ∈ wsX00, w ∈ wsX0_gainOf := mem_ps [6, 7, 8, 9] rfl
  have i4 : ∀ w ∈ wsX40, w ∈ wsX0_gainOf := mem_ps [10, 11, 12, 13, 14, 15, 16, 17, 18, 19] rfl
  have hret : ∀ (v : Int32) (pc : Nat) (ls : Array Slot) (H : Heap) (locs : List Loc), narrow .int (.int v) = .int v → decode cX0_gainOf pc = .ok (.ireturn, 1) → va_P D vwCl [(aB, .inr (0, [.ref aP, .ref aS, .ref aW, .int vSl])), (aW, .inl (cI, 256, .inl fWo)), (aS, .inr (4, [.int vVa, .int vCo, .int vBi, .int vPh, .ref aPr, .ref aHo, .ref aHe, .ref aSt, .ref aPb, .ref aPs])), (aPr, .inl (cI, 16, .inl fPr))] H → va_D A [(aB, .inr (0, [.ref aP, .ref aS, .ref aW, .int vSl])), (aW, .inl (cI, 256, .inl fWo)), (aS, .inr (4, [.int vVa, .int vCo, .int vBi, .int vPh, .ref aPr, .ref aHo, .ref aHe, .ref aSt, .ref aPb, .ref aPs])), (aPr, .inl (cI, 16, .inl fPr))] → va_S A s.heap H locs → some v = some r → W p l e rX0_gainOf s m args below meth c H locs 0 0 Q (F0 m pc ls [.int v]) := by
    intro v pc ls H locs hn hd hP hD hS h
    cases h
    exact hret0 pc ls H locs () hn hd hP hD hS
  clear hret0
  unfold fX0_gainOf at h
  obtain ⟨H, hH⟩ : ∃ H, H = s.heap := ⟨_, rfl⟩
  have hP : va_P D vwCl [(aB, .inr (0, [.ref aP, .ref aS, .ref aW, .int vSl])), (aW, .inl (cI, 256, .inl fWo)), (aS, .inr (4, [.int vVa, .int vCo, .int vBi, .int vPh, .ref aPr, .ref aHo, .ref aHe, .ref aSt, .ref aPb, .ref aPs])), (aPr, .inl (cI, 16, .inl fPr))] H := by rw [hH]; exact hP
  obtain ⟨locs, hlocs⟩ : ∃ x : List Loc, x = [] := ⟨_, rfl⟩
  have hS : va_S A s.heap H locs := by rw [hH, hlocs]; exact hS
  suffices hgo : W p l e rX0_gainOf s m args below meth c H locs 0 0 Q (F0 m 0 ls []) by rw [hH, hlocs] at hgo; exact hgo
  refine lv_iload_n hx hb dX0_gainOf_0 rfl (lv_at hl 1 rfl) ?_
  obtain ⟨r_1, q_1, h⟩ := bd1_some h
  refine fr_ro_i (S := Unit) (wc := []) (fr_SN (As := [.int x1]) (rest := []) (own := RX0) (host := RX5) ⟨hx, hb, hml, hown, hts⟩ hN (tX4_isInRow x1 r_1 q_1) gX0_gainOf_X4_isInRow_n123 rfl (nx_mem (i := 348) (by decide +kernel) rfl) (List.mem_of_getElem? (i := 4) rfl) (List.mem_of_getElem? (i := 3) rfl) (fr_pre (As := [.int x1]) (wc := []) hK hN hP hD [] (by decide) rfl) (n := 1) (by decide +kernel) ⟨Nat.le_of_ble_eq_true rfl, Nat.le_of_ble_eq_true rfl⟩ rfl hl.1 rfl (Nat.le_of_ble_eq_true rfl) dX0_gainOf_1 ⟨Nat.zero_le _, Nat.zero_le _⟩) hP hD hS hA [] rfl (c2 := 0) (s2 := 0) rfl rfl (fun H locs hP hS => ?_)
  refine lv_if_eq (tgt := 14) hx hb dX0_gainOf_4 (by decide) (fun c1 => ?_) (fun c1 => ?_)
  · have h := (if_pos c1).symm.trans h
    refine lv_iconst (v := (0 : Int32)) hx hb dX0_gainOf_14 (by decide) ?_
    exact hret (0 : Int32) 15 ls H locs rfl dX0_gainOf_15 hP hD hS h
  · have h := (if_neg c1).symm.trans h
    refine lv_iload_n hx hb dX0_gainOf_7 rfl (lv_at hl 2 rfl) ?_
    obtain ⟨r_8, q_8, h⟩ := bd1_some h
    refine fr_ro_i (S := Unit) (wc := []) (fr_SN (As := [.int x2]) (rest := []) (own := RX0) (host := RX5) ⟨hx, hb, hml, hown, hts⟩ hN (tX4_isInRow x2 r_8 q_8) gX0_gainOf_X4_isInRow_n123 rfl (nx_mem (i := 348) (by decide +kernel) rfl) (List.mem_of_getElem? (i := 4) rfl) (List.mem_of_getElem? (i := 3) rfl) (fr_pre (As := [.int x2]) (wc := []) hK hN hP hD [] (by decide) rfl) (n := 1) (by decide +kernel) ⟨Nat.le_of_ble_eq_true rfl, Nat.le_of_ble_eq_true rfl⟩ rfl hl.1 rfl (Nat.le_of_ble_eq_true rfl) dX0_gainOf_8 ⟨Nat.zero_le _, Nat.zero_le _⟩) hP hD hS hA [] rfl (c2 := 0) (s2 := 0) rfl rfl (fun H locs hP hS => ?_)
    refine lv_if_ne (tgt := 16) hx hb dX0_gainOf_11 (by decide) (fun c2 => ?_) (fun c2 => ?_)
    · have h := (if_neg c2).symm.trans h
      refine lv_aload_n hx hb dX0_gainOf_16 rfl (lv_at hl 0 rfl) ?_
      refine va_get (D := D) (ci := 0) (v := .ref aW) (C := RX0) (T := TX0) (N := 4) hx hb hts i0 hown hK hP 0 rfl rfl 2 (by decide) (hts (.fieldLink RX0 23 RX0 "worths" "[I") (List.mem_of_getElem? (i := 1) rfl)) (fun _ h9 => h9) rfl dX0_gainOf_17 ?_
      refine lv_iload_n hx hb dX0_gainOf_20 rfl (lv_at hl 1 rfl) ?_
      refine lv_bipush (v := (16 : Int32)) hx hb dX0_gainOf_21 (by decide) ?_
      refine lv_imul hx hb dX0_gainOf_23 ?_
      refine lv_iload_n hx hb dX0_gainOf_24 rfl (lv_at hl 2 rfl) ?_
      refine lv_iadd hx hb dX0_gainOf_25 ?_
      obtain ⟨g3, h⟩ := no_some h
      refine va_iald hx hb hK hP 1 0 rfl rfl g3 dX0_gainOf_26 ?_
      refine lv_aload_n hx hb dX0_gainOf_27 rfl (lv_at hl 0 rfl) ?_
      refine va_get (D := D) (ci := 0) (v := .ref aS) (C := RX0) (T := TX0) (N := 4) hx hb hts i0 hown hK hP 0 rfl rfl 1 (by decide) (hts (.fieldLink RX0 22 RX0 "sale" "LBidMosaic$Sale;") (List.mem_of_getElem? (i := 2) rfl)) (fun _ h9 => h9) rfl dX0_gainOf_28 ?_
      refine va_getN (D := D) (ci := 4) (v := .ref aPr) (C := RX4) (T := TX4) (N := 10) hx hb hts i4 hown hK hP 2 rfl rfl 4 (by decide) (hN.f (a := RX0) (i := 126) (b := RX4) (n := "prices") (d := "[I") (h := RX5) (nx_mem (i := 84) (by decide +kernel) rfl)) (fun _ h9 => h9) rfl dX0_gainOf_31 ?_
      refine lv_iload_n hx hb dX0_gainOf_34 rfl (lv_at hl 2 rfl) ?_
      obtain ⟨g4, h⟩ := no_some h
      refine va_iald hx hb hK hP 3 0 rfl rfl g4 dX0_gainOf_35 ?_
      refine lv_isub hx hb dX0_gainOf_36 ?_
      exact hret ((fWo (((x1 * (16 : Int32)) + x2).toNatClampNeg)) - (fPr x2.toNatClampNeg)) 37 ls H locs rfl dX0_gainOf_37 hP hD hS h
    · have h := (if_pos c2).symm.trans h
      refine lv_iconst (v := (0 : Int32)) hx hb dX0_gainOf_14 (by decide) ?_
      exact hret (0 : Int32) 15 ls H locs rfl dX0_gainOf_15 hP hD hS h
def fX0_ownGain (fWo : Nat → Int32) (fPr : Nat → Int32) (fHe : Nat → Int32) (x1 : Int32) : Option (Int32) :=
  bd1 (fX4_slotOf fHe x1) fun r_7 =>
  bd1 (fX0_gainOf fWo fPr x1 r_7) fun r_10 =>
  some r_10
abbrev rX0_ownGain : Room := { frames := 2, cells := 0, slots := 0, locals := 42 }
set_option maxHeartbeats 4000000 in
set_option maxRecDepth 100000 in
theorem tX0_ownGain {l : Launch} {D : va_G} {cI cZ cP : ClassId} (aB aW aS aPr aHe aP aHo aSt aPb aPs : Nat) (vSl : Int32) (fWo : Nat → Int32) (vVa : Int32) (vCo : Int32) (vBi : Int32) (vPh : Int32) (fPr : Nat → Int32) (fHe : Nat → Int32) (x1 : Int32) (r : Int32) (h : fX0_ownGain fWo fPr fHe x1 = some r) : CtI l D cI cZ cP yX0_ownGain wsX0_ownGain rX0_ownGain [.ref aB, .int x1] [(aB, .inr (0, [.ref aP, .ref aS, .ref aW, .int vSl])), (aW, .inl (cI, 256, .inl fWo)), (aS, .inr (4, [.int vVa, .int vCo, .int vBi, .int vPh, .ref aPr, .ref aHo, .ref aHe, .ref aSt, .ref aPb, .ref aPs])), (aPr, .inl (cI, 16, .inl fPr)), (aHe, .inl (cI, 16, .inl fHe))] (fun _ : Unit => [(aB, .inr (0, [.ref aP, .ref aS, .ref aW, .int vSl])), (aW, .inl (cI, 256, .inl fWo)), (aS, .inr (4, [.int vVa, .int vCo, .int vBi, .int vPh, .ref aPr, .ref aHo, .ref aHe, .ref aSt, .ref aPb, .ref aPs])), (aPr, .inl (cI, 16, .inl fPr)), (aHe, .inl (cI, 16, .inl fHe))]) r := by
  refine CtI.ofW (cc := cX0_ownGain) (maxL := 2) (by decide) rfl (Nat.le_of_ble_eq_true rfl) (lv := [(0, .ref aB), (1, .int x1)]) rfl ?_
  intro p e s m args below meth c A Q ls hx hb hml hown hts hK hN hP hD hS hA hl hret0
  have hown : s.vm.findClass RX0 = some m.cls := hown
  have i0 : ∀ w ∈ wsX00, w ∈ wsX0_ownGain := mem_ps [16, 17, 18, 19] rfl
  have i4 : ∀ w ∈ wsX40, w ∈ wsX0_ownGain := mem_ps [20, 21, 22, 23, 24, 25, 26, 27, 28, 29] rfl
  have hret : ∀ (v : Int32) (pc : Nat) (ls : Array Slot) (H : Heap) (locs : List Loc), narrow .int (.int v) = .int v → decode cX0_ownGain pc = .ok (.ireturn, 1) → va_P D vwCl [(aB, .inr (0, [.ref aP, .ref aS, .ref aW, .int vSl])), (aW, .inl (cI, 256, .inl fWo)), (aS, .inr (4, [.int vVa, .int vCo, .int vBi, .int vPh, .ref aPr, .ref aHo, .ref aHe, .ref aSt, .ref aPb, .ref aPs])), (aPr, .inl (cI, 16, .inl fPr)), (aHe, .inl (cI, 16, .inl fHe))] H → va_D A [(aB, .inr (0, [.ref aP, .ref aS, .ref aW, .int vSl])), (aW, .inl (cI, 256, .inl fWo)), (aS, .inr (4, [.int vVa, .int vCo, .int vBi, .int vPh, .ref aPr, .ref aHo, .ref aHe, .ref aSt, .ref aPb, .ref aPs])), (aPr, .inl (cI, 16, .inl fPr)), (aHe, .inl (cI, 16, .inl fHe))] → va_S A s.heap H locs → some v = some r → W p l e rX0_ownGain s m args below meth c H locs 0 0 Q (F0 m pc ls [.int v]) := by
    intro v pc ls H locs hn hd hP hD hS h
    cases h
    exact hret0 pc ls H locs () hn hd hP hD hS
  clear hret0
  unfold fX0_ownGain at h
  obtain ⟨H, hH⟩ : ∃ H, H = s.heap := ⟨_, rfl⟩
  have hP : va_P D vwCl [(aB, .inr (0, [.ref aP, .ref aS, .ref aW, .int vSl])), (aW, .inl (cI, 256, .inl fWo)), (aS, .inr (4, [.int vVa, .int vCo, .int vBi, .int vPh, .ref aPr, .ref aHo, .ref aHe, .ref aSt, .ref aPb, .ref aPs])), (aPr, .inl (cI, 16, .inl fPr)), (aHe, .inl (cI, 16, .inl fHe))] H := by rw [hH]; exact hP
  obtain ⟨locs, hlocs⟩ : ∃ x : List Loc, x = [] := ⟨_, rfl⟩
  have hS : va_S A s.heap H locs := by rw [hH, hlocs]; exact hS
  suffices hgo : W p l e rX0_ownGain s m args below meth c H locs 0 0 Q (F0 m 0 ls []) by rw [hH, hlocs] at hgo; exact hgo
  refine lv_aload_n hx hb dX0_ownGain_0 rfl (lv_at hl 0 rfl) ?_
  refine lv_iload_n hx hb dX0_ownGain_1 rfl (lv_at hl 1 rfl) ?_
  refine lv_aload_n hx hb dX0_ownGain_2 rfl (lv_at hl 0 rfl) ?_
  refine va_get (D := D) (ci := 0) (v := .ref aS) (C := RX0) (T := TX0) (N := 4) hx hb hts i0 hown hK hP 0 rfl rfl 1 (by decide) (hts (.fieldLink RX0 22 RX0 "sale" "LBidMosaic$Sale;") (List.mem_of_getElem? (i := 1) rfl)) (fun _ h9 => h9) rfl dX0_ownGain_3 ?_
  refine lv_iload_n hx hb dX0_ownGain_6 rfl (lv_at hl 1 rfl) ?_
  obtain ⟨r_7, q_7, h⟩ := bd1_some h
  refine fr_ro_i (S := Unit) (wc := [(aS, .inr (4, [.int vVa, .int vCo, .int vBi, .int vPh, .ref aPr, .ref aHo, .ref aHe, .ref aSt, .ref aPb, .ref aPs])), (aHe, .inl (cI, 16, .inl fHe))]) (fr_VN (As := [.int x1]) (rest := [.int x1, .ref aB]) (own := RX0) (host := RX5) (C := RX4) ⟨hx, hb, hml, hown, hts⟩ hN (tX4_slotOf aS aHe aPr aHo aSt aPb aPs vVa vCo vBi vPh fHe x1 r_7 q_7) gX0_ownGain_X4_slotOf_n132 rfl (nx_mem (i := 377) (by decide +kernel) rfl) (List.mem_of_getElem? (i := 3) rfl) (List.mem_of_getElem? (i := 2) rfl) (List.mem_of_getElem? (i := 4) rfl) (fr_preV (As := [.int x1]) (b := aS) (ci := 4) (q0 := 2) (wc := [(aS, .inr (4, [.int vVa, .int vCo, .int vBi, .int vPh, .ref aPr, .ref aHo, .ref aHe, .ref aSt, .ref aPb, .ref aPs])), (aHe, .inl (cI, 16, .inl fHe))]) hK hN hP hD [2, 4] (by decide) rfl rfl rfl) (n := 1) (by decide +kernel) ⟨Nat.le_of_ble_eq_true rfl, Nat.le_of_ble_eq_true rfl⟩ rfl hl.1 rfl (Nat.le_of_ble_eq_true rfl) dX0_ownGain_7 ⟨Nat.zero_le _, Nat.zero_le _⟩) hP hD hS hA [2, 4] rfl (c2 := 0) (s2 := 0) rfl rfl (fun H locs hP hS => ?_)
  obtain ⟨r_10, q_10, h⟩ := bd1_some h
  refine fr_ro_i (S := Unit) (wc := [(aB, .inr (0, [.ref aP, .ref aS, .ref aW, .int vSl])), (aW, .inl (cI, 256, .inl fWo)), (aS, .inr (4, [.int vVa, .int vCo, .int vBi, .int vPh, .ref aPr, .ref aHo, .ref aHe, .ref aSt, .ref aPb, .ref aPs])), (aPr, .inl (cI, 16, .inl fPr))]) (fr_V (As := [.int x1, .int r_7]) (rest := []) (C := RX0) ⟨hx, hb, hml, hown, hts⟩ (tX0_gainOf aB aW aS aPr aP aHo aHe aSt aPb aPs vSl fWo vVa vCo vBi vPh fPr x1 r_7 r_10 q_10) gX0_ownGain_X0_gainOf rfl (fr_preV (As := [.int x1, .int r_7]) (b := aB) (ci := 0) (q0 := 0) (wc := [(aB, .inr (0, [.ref aP, .ref aS, .ref aW, .int vSl])), (aW, .inl (cI, 256, .inl fWo)), (aS, .inr (4, [.int vVa, .int vCo, .int vBi, .int vPh, .ref aPr, .ref aHo, .ref aHe, .ref aSt, .ref aPb, .ref aPs])), (aPr, .inl (cI, 16, .inl fPr))]) hK hN hP hD [0, 1, 2, 3] (by decide) rfl rfl rfl) (n := 2) (by decide +kernel) ⟨Nat.le_of_ble_eq_true rfl, Nat.le_of_ble_eq_true rfl⟩ rfl hl.1 rfl (Nat.le_of_ble_eq_true rfl) dX0_ownGain_10 ⟨Nat.zero_le _, Nat.zero_le _⟩) hP hD hS hA [0, 1, 2, 3] rfl (c2 := 0) (s2 := 0) rfl rfl (fun H locs hP hS => ?_)
  exact hret r_10 13 ls H locs rfl dX0_ownGain_13 hP hD hS h
def fX0_greatestGain_b9 (vSl : Int32) (fWo : Nat → Int32) (fPr : Nat → Int32) : Nat → Int32 → Int32 → Int32 → Option (Int32)
  | 0, _, _, _ => none
  | n + 1, x1, x2, x3 =>
    if vSl ≤ x3 then
      some x2
    else
      bd1 (fX0_gainOf fWo fPr x1 x3) fun r_21 =>
      bdv (if x2 < r_21 then r_21 else x2) fun x_24 =>
      fX0_greatestGain_b9 vSl fWo fPr n x1 x_24 (x3 + 1)
def fX0_greatestGain (vSl : Int32) (fWo : Nat → Int32) (fPr : Nat → Int32) (x1 : Int32) : Option (Int32) :=
  bd1 (fX0_gainOf fWo fPr x1 (0 : Int32)) fun r_3 =>
  fX0_greatestGain_b9 vSl fWo fPr FU x1 r_3 (1 : Int32)
abbrev rX0_greatestGain : Room := { frames := 2, cells := 0, slots := 0, locals := 42 }
set_option maxHeartbeats 4000000 in
set_option maxRecDepth 100000 in
theorem tX0_greatestGain {l : Launch} {D : va_G} {cI cZ cP : ClassId} (aB aW aS aPr aP aHo aHe aSt aPb aPs : Nat) (vSl : Int32) (fWo : Nat → Int32) (vVa : Int32) (vCo : Int32) (vBi : Int32) (vPh : Int32) (fPr : Nat → Int32) (x1 : Int32) (r : Int32) (h : fX0_greatestGain vSl fWo fPr x1 = some r) : CtI l D cI cZ cP yX0_greatestGain wsX0_greatestGain rX0_greatestGain [.ref aB, .int x1] [(aB, .inr (0, [.ref aP, .ref aS, .ref aW, .int vSl])), (aW, .inl (cI, 256, .inl fWo)), (aS, .inr (4, [.int vVa, .int vCo, .int vBi, .int vPh, .ref aPr, .ref aHo, .ref aHe, .ref aSt, .ref aPb, .ref aPs])), (aPr, .inl (cI, 16, .inl fPr))] (fun _ : Unit => [(aB, .inr (0, [.ref aP, .ref aS, .ref aW, .int vSl])), (aW, .inl (cI, 256, .inl fWo)), (aS, .inr (4, [.int vVa, .int vCo, .int vBi, .int vPh, .ref aPr, .ref aHo, .ref aHe, .ref aSt, .ref aPb, .ref aPs])), (aPr, .inl (cI, 16, .inl fPr))]) r := by
  refine CtI.ofW (cc := cX0_greatestGain) (maxL := 4) (by decide) rfl (Nat.le_of_ble_eq_true rfl) (lv := [(0, .ref aB), (1, .int x1)]) rfl ?_
  intro p e s m args below meth c A Q ls hx hb hml hown hts hK hN hP hD hS hA hl hret0
  have hown : s.vm.findClass RX0 = some m.cls := hown
  have i0 : ∀ w ∈ wsX00, w ∈ wsX0_greatestGain := mem_ps [16, 17, 18, 19] rfl
  have i4 : ∀ w ∈ wsX40, w ∈ wsX0_greatestGain := mem_ps [20, 21, 22, 23, 24, 25, 26, 27, 28, 29] rfl
  have hret : ∀ (v : Int32) (pc : Nat) (ls : Array Slot) (H : Heap) (locs : List Loc), narrow .int (.int v) = .int v → decode cX0_greatestGain pc = .ok (.ireturn, 1) → va_P D vwCl [(aB, .inr (0, [.ref aP, .ref aS, .ref aW, .int vSl])), (aW, .inl (cI, 256, .inl fWo)), (aS, .inr (4, [.int vVa, .int vCo, .int vBi, .int vPh, .ref aPr, .ref aHo, .ref aHe, .ref aSt, .ref aPb, .ref aPs])), (aPr, .inl (cI, 16, .inl fPr))] H → va_D A [(aB, .inr (0, [.ref aP, .ref aS, .ref aW, .int vSl])), (aW, .inl (cI, 256, .inl fWo)), (aS, .inr (4, [.int vVa, .int vCo, .int vBi, .int vPh, .ref aPr, .ref aHo, .ref aHe, .ref aSt, .ref aPb, .ref aPs])), (aPr, .inl (cI, 16, .inl fPr))] → va_S A s.heap H locs → some v = some r → W p l e rX0_greatestGain s m args below meth c H locs 0 0 Q (F0 m pc ls [.int v]) := by
    intro v pc ls H locs hn hd hP hD hS h
    cases h
    exact hret0 pc ls H locs () hn hd hP hD hS
  clear hret0
  have hb9 : ∀ (n : Nat) (x1 : Int32) (x2 : Int32) (x3 : Int32) (H : Heap) (locs : List Loc) (ls : Array Slot), va_P D vwCl [(aB, .inr (0, [.ref aP, .ref aS, .ref aW, .int vSl])), (aW, .inl (cI, 256, .inl fWo)), (aS, .inr (4, [.int vVa, .int vCo, .int vBi, .int vPh, .ref aPr, .ref aHo, .ref aHe, .ref aSt, .ref aPb, .ref aPs])), (aPr, .inl (cI, 16, .inl fPr))] H → va_D A [(aB, .inr (0, [.ref aP, .ref aS, .ref aW, .int vSl])), (aW, .inl (cI, 256, .inl fWo)), (aS, .inr (4, [.int vVa, .int vCo, .int vBi, .int vPh, .ref aPr, .ref aHo, .ref aHe, .ref aSt, .ref aPb, .ref aPs])), (aPr, .inl (cI, 16, .inl fPr))] → va_S A s.heap H locs → lv_has ls 4 [(0, .ref aB), (1, .int x1), (2, .int x2), (3, .int x3)] → fX0_greatestGain_b9 vSl fWo fPr n x1 x2 x3 = some r → W p l e rX0_greatestGain s m args below meth c H locs 0 0 Q (F0 m 9 ls []) := by
    intro n
    induction n with
    | zero => intro x1 x2 x3 H locs ls hP hD hS hl h; exact absurd h (by rw [fX0_greatestGain_b9]; exact fun z => by cases z)
    | succ n ih =>
      intro x1 x2 x3 H locs ls hP hD hS hl h
      rw [fX0_greatestGain_b9] at h
      refine lv_iload_n hx hb dX0_greatestGain_9 rfl (lv_at hl 3 rfl) ?_
      refine lv_aload_n hx hb dX0_greatestGain_10 rfl (lv_at hl 0 rfl) ?_
      refine va_get (D := D) (ci := 0) (v := .int vSl) (C := RX0) (T := TX0) (N := 4) hx hb hts i0 hown hK hP 0 rfl rfl 3 (by decide) (hts (.fieldLink RX0 43 RX0 "slots" "I") (List.mem_of_getElem? (i := 1) rfl)) (fun _ h9 => h9) rfl dX0_greatestGain_11 ?_
      refine lv_icmp_ge (tgt := 34) hx hb dX0_greatestGain_14 (by decide) (fun c1 => ?_) (fun c1 => ?_)
      · have h := (if_pos c1).symm.trans h
        refine lv_iload_n hx hb dX0_greatestGain_34 rfl (lv_at hl 2 rfl) ?_
        exact hret x2 35 ls H locs rfl dX0_greatestGain_35 hP hD hS h
      · have h := (if_neg c1).symm.trans h
        refine lv_iload_n hx hb dX0_greatestGain_17 rfl (lv_at hl 2 rfl) ?_
        refine lv_aload_n hx hb dX0_greatestGain_18 rfl (lv_at hl 0 rfl) ?_
        refine lv_iload_n hx hb dX0_greatestGain_19 rfl (lv_at hl 1 rfl) ?_
        refine lv_iload_n hx hb dX0_greatestGain_20 rfl (lv_at hl 3 rfl) ?_
        obtain ⟨r_21, q_21, h⟩ := bd1_some h
        refine fr_ro_i (S := Unit) (wc := [(aB, .inr (0, [.ref aP, .ref aS, .ref aW, .int vSl])), (aW, .inl (cI, 256, .inl fWo)), (aS, .inr (4, [.int vVa, .int vCo, .int vBi, .int vPh, .ref aPr, .ref aHo, .ref aHe, .ref aSt, .ref aPb, .ref aPs])), (aPr, .inl (cI, 16, .inl fPr))]) (fr_V (As := [.int x1, .int x3]) (rest := [.int x2]) (C := RX0) ⟨hx, hb, hml, hown, hts⟩ (tX0_gainOf aB aW aS aPr aP aHo aHe aSt aPb aPs vSl fWo vVa vCo vBi vPh fPr x1 x3 r_21 q_21) gX0_greatestGain_X0_gainOf rfl (fr_preV (As := [.int x1, .int x3]) (b := aB) (ci := 0) (q0 := 0) (wc := [(aB, .inr (0, [.ref aP, .ref aS, .ref aW, .int vSl])), (aW, .inl (cI, 256, .inl fWo)), (aS, .inr (4, [.int vVa, .int vCo, .int vBi, .int vPh, .ref aPr, .ref aHo, .ref aHe, .ref aSt, .ref aPb, .ref aPs])), (aPr, .inl (cI, 16, .inl fPr))]) hK hN hP hD [0, 1, 2, 3] (by decide) rfl rfl rfl) (n := 2) (by decide +kernel) ⟨Nat.le_of_ble_eq_true rfl, Nat.le_of_ble_eq_true rfl⟩ rfl hl.1 rfl (Nat.le_of_ble_eq_true rfl) dX0_greatestGain_21 ⟨Nat.zero_le _, Nat.zero_le _⟩) hP hD hS hA [0, 1, 2, 3] rfl (c2 := 0) (s2 := 0) rfl rfl (fun H locs hP hS => ?_)
        refine va_mmax hx hb (hml.trans hl.1.symm) hown (hts (.methodLink RX0 77 Lib.Math.max.name) (List.mem_of_getElem? (i := 2) rfl)) (hts (.static Lib.Math.max.name) (List.mem_of_getElem? (i := 3) rfl)) (hts (.initialized "java/lang/Math") (List.mem_of_getElem? (i := 4) rfl)) (hts (.code Lib.Math.max.name Lib.Math.max.code 2 (some .int)) (List.mem_of_getElem? (i := 5) rfl)) (Nat.le_of_ble_eq_true rfl) (Nat.le_of_ble_eq_true rfl) (Nat.zero_le _) (Nat.zero_le _) dX0_greatestGain_24 ?_
        refine lv_topi (fun x_24 ex_24 => ?_)
        have h := bdv_some ex_24 h
        refine lv_istore_n (lv' := [(2, .int x_24), (0, .ref aB), (1, .int x1), (3, .int x3)]) hx hb dX0_greatestGain_27 rfl hl (by decide) rfl (fun ls hl => ?_)
        refine lv_iinc (v := x3 + 1) (lv' := [(3, .int (x3 + 1)), (2, .int x_24), (0, .ref aB), (1, .int x1)]) hx hb dX0_greatestGain_28 hl (k := 3) rfl rfl (by decide) rfl (fun ls hl => ?_)
        refine lv_goto (tgt := 9) hx hb dX0_greatestGain_31 (by decide) ?_
        exact ih x1 x_24 (x3 + 1) H locs ls hP hD hS (lv_sub hl [2, 3, 1, 0] rfl) h
  unfold fX0_greatestGain at h
  obtain ⟨H, hH⟩ : ∃ H, H = s.heap := ⟨_, rfl⟩
  have hP : va_P D vwCl [(aB, .inr (0, [.ref aP, .ref aS, .ref aW, .int vSl])), (aW, .inl (cI, 256, .inl fWo)), (aS, .inr (4, [.int vVa, .int vCo, .int vBi, .int vPh, .ref aPr, .ref aHo, .ref aHe, .ref aSt, .ref aPb, .ref aPs])), (aPr, .inl (cI, 16, .inl fPr))] H := by rw [hH]; exact hP
  obtain ⟨locs, hlocs⟩ : ∃ x : List Loc, x = [] := ⟨_, rfl⟩
  have hS : va_S A s.heap H locs := by rw [hH, hlocs]; exact hS
  suffices hgo : W p l e rX0_greatestGain s m args below meth c H locs 0 0 Q (F0 m 0 ls []) by rw [hH, hlocs] at hgo; exact hgo
  refine lv_aload_n hx hb dX0_greatestGain_0 rfl (lv_at hl 0 rfl) ?_
  refine lv_iload_n hx hb dX0_greatestGain_1 rfl (lv_at hl 1 rfl) ?_
  refine lv_iconst (v := (0 : Int32)) hx hb dX0_greatestGain_2 (by decide) ?_
  obtain ⟨r_3, q_3, h⟩ := bd1_some h
  refine fr_ro_i (S := Unit) (wc := [(aB, .inr (0, [.ref aP, .ref aS, .ref aW, .int vSl])), (aW, .inl (cI, 256, .inl fWo)), (aS, .inr (4, [.int vVa, .int vCo, .int vBi, .int vPh, .ref aPr, .ref aHo, .ref aHe, .ref aSt, .ref aPb, .ref aPs])), (aPr, .inl (cI, 16, .inl fPr))]) (fr_V (As := [.int x1, .int (0 : Int32)]) (rest := []) (C := RX0) ⟨hx, hb, hml, hown, hts⟩ (tX0_gainOf aB aW aS aPr aP aHo aHe aSt aPb aPs vSl fWo vVa vCo vBi vPh fPr x1 (0 : Int32) r_3 q_3) gX0_greatestGain_X0_gainOf rfl (fr_preV (As := [.int x1, .int (0 : Int32)]) (b := aB) (ci := 0) (q0 := 0) (wc := [(aB, .inr (0, [.ref aP, .ref aS, .ref aW, .int vSl])), (aW, .inl (cI, 256, .inl fWo)), (aS, .inr (4, [.int vVa, .int vCo, .int vBi, .int vPh, .ref aPr, .ref aHo, .ref aHe, .ref aSt, .ref aPb, .ref aPs])), (aPr, .inl (cI, 16, .inl fPr))]) hK hN hP hD [0, 1, 2, 3] (by decide) rfl rfl rfl) (n := 2) (by decide +kernel) ⟨Nat.le_of_ble_eq_true rfl, Nat.le_of_ble_eq_true rfl⟩ rfl hl.1 rfl (Nat.le_of_ble_eq_true rfl) dX0_greatestGain_3 ⟨Nat.zero_le _, Nat.zero_le _⟩) hP hD hS hA [0, 1, 2, 3] rfl (c2 := 0) (s2 := 0) rfl rfl (fun H locs hP hS => ?_)
  refine lv_istore_n (lv' := [(2, .int r_3), (0, .ref aB), (1, .int x1)]) hx hb dX0_greatestGain_6 rfl hl (by decide) rfl (fun ls hl => ?_)
  refine lv_iconst (v := (1 : Int32)) hx hb dX0_greatestGain_7 (by decide) ?_
  refine lv_istore_n (lv' := [(3, .int (1 : Int32)), (2, .int r_3), (0, .ref aB), (1, .int x1)]) hx hb dX0_greatestGain_8 rfl hl (by decide) rfl (fun ls hl => ?_)
  exact hb9 FU x1 r_3 (1 : Int32) H locs ls hP hD hS (lv_sub hl [2, 3, 1, 0] rfl) h
def fX0_mend_b6 (vMo : Int32) (vKn : Int32) (fKd : Nat → Int32) (fKs : Nat → Int32) (vCn : Int32) (fCd : Nat → Int32) : Nat → Int32 → Int32 → (Nat → Int32) → Int32 → Int32 → Int32 → (Nat → Int32) → (Nat → Int32) → (Nat → Int32) → Option (Int32 × Int32 × (Nat → Int32) × Int32 × Int32 × Int32 × (Nat → Int32) × (Nat → Int32) × (Nat → Int32))
  | 0, _, _, _, _, _, _, _, _, _ => none
  | n + 1, x1, vSl, fWo, vVa, vCo, vBi, fPr, fHo, fHe =>
    if vSl ≤ x1 then
      bd4 (fX0_bidTillNoneIsFree vSl fWo fPr fHo fHe (1 : Int32)) fun r_45 fPr_45 fHo_45 fHe_45 =>
      bd3 (fX4_finish vVa vCo vBi r_45) fun vVa_54 vCo_54 vBi_54 =>
      some (r_45, vSl, fWo, vVa_54, vCo_54, vBi_54, fPr_45, fHo_45, fHe_45)
    else
      bd1 (fX0_ownGain fWo fPr fHe x1) fun r_16 =>
      bd1 (fX0_greatestGain vSl fWo fPr x1) fun r_21 =>
      if (r_21 - (1 : Int32)) ≤ r_16 then
        fX0_mend_b6 vMo vKn fKd fKs vCn fCd n (x1 + 1) vSl fWo vVa vCo vBi fPr fHo fHe
      else
        bd2 (fX4_setFree fHo fHe x1) fun fHo_34 fHe_34 =>
        fX0_mend_b6 vMo vKn fKd fKs vCn fCd n (x1 + 1) vSl fWo vVa vCo vBi fPr fHo_34 fHe_34
def fX0_mend (vSl : Int32) (fWo : Nat → Int32) (vMo : Int32) (vKn : Int32) (fKd : Nat → Int32) (fKs : Nat → Int32) (vCn : Int32) (fCd : Nat → Int32) (vVa : Int32) (vCo : Int32) (vBi : Int32) (fPr : Nat → Int32) (fHo : Nat → Int32) (fHe : Nat → Int32) : Option (Int32 × Int32 × (Nat → Int32) × Int32 × Int32 × Int32 × (Nat → Int32) × (Nat → Int32) × (Nat → Int32)) :=
  bd2 (fX0_readWorths vSl fWo vMo vKn fKd fKs vCn fCd) fun vSl_1 fWo_1 =>
  fX0_mend_b6 vMo vKn fKd fKs vCn fCd FU (0 : Int32) vSl_1 fWo_1 vVa vCo vBi fPr fHo fHe
abbrev rX0_mend : Room := { frames := 5, cells := 0, slots := 0, locals := 108 }
set_option maxHeartbeats 4000000 in
set_option maxRecDepth 100000 in
theorem tX0_mend {l : Launch} {D : va_G} {cI cZ cP : ClassId} (aB aW aP aK aKd aKs aC aCd aS aPr aHo aHe aSt aPb aPs : Nat) (vSl : Int32) (fWo : Nat → Int32) (vMo : Int32) (vSh : Int32) (vKn : Int32) (fKd : Nat → Int32) (fKs : Nat → Int32) (vCn : Int32) (fCd : Nat → Int32) (vVa : Int32) (vCo : Int32) (vBi : Int32) (vPh : Int32) (fPr : Nat → Int32) (fHo : Nat → Int32) (fHe : Nat → Int32) (r : Int32) (oSl : Int32) (oWo : Nat → Int32) (oVa : Int32) (oCo : Int32) (oBi : Int32) (oPr : Nat → Int32) (oHo : Nat → Int32) (oHe : Nat → Int32) (h : fX0_mend vSl fWo vMo vKn fKd fKs vCn fCd vVa vCo vBi fPr fHo fHe = some (r, oSl, oWo, oVa, oCo, oBi, oPr, oHo, oHe)) : CtI l D cI cZ cP yX0_mend wsX0_mend rX0_mend [.ref aB] [(aB, .inr (0, [.ref aP, .ref aS, .ref aW, .int vSl])), (aW, .inl (cI, 256, .inl fWo)), (aP, .inr (3, [.int vMo, .int vSh, .ref aK, .ref aC, .ref aS])), (aK, .inr (2, [.int vKn, .ref aKd, .ref aKs])), (aKd, .inl (cI, 8, .inl fKd)), (aKs, .inl (cI, 8, .inl fKs)), (aC, .inr (1, [.int vCn, .ref aCd])), (aCd, .inl (cI, 12, .inl fCd)), (aS, .inr (4, [.int vVa, .int vCo, .int vBi, .int vPh, .ref aPr, .ref aHo, .ref aHe, .ref aSt, .ref aPb, .ref aPs])), (aPr, .inl (cI, 16, .inl fPr)), (aHo, .inl (cI, 16, .inl fHo)), (aHe, .inl (cI, 16, .inl fHe))] (fun _ : Unit => [(aB, .inr (0, [.ref aP, .ref aS, .ref aW, .int oSl])), (aW, .inl (cI, 256, .inl oWo)), (aP, .inr (3, [.int vMo, .int vSh, .ref aK, .ref aC, .ref aS])), (aK, .inr (2, [.int vKn, .ref aKd, .ref aKs])), (aKd, .inl (cI, 8, .inl fKd)), (aKs, .inl (cI, 8, .inl fKs)), (aC, .inr (1, [.int vCn, .ref aCd])), (aCd, .inl (cI, 12, .inl fCd)), (aS, .inr (4, [.int oVa, .int oCo, .int oBi, .int vPh, .ref aPr, .ref aHo, .ref aHe, .ref aSt, .ref aPb, .ref aPs])), (aPr, .inl (cI, 16, .inl oPr)), (aHo, .inl (cI, 16, .inl oHo)), (aHe, .inl (cI, 16, .inl oHe))]) r := by
  refine CtI.ofW (cc := cX0_mend) (maxL := 2) (by decide) rfl (Nat.le_of_ble_eq_true rfl) (lv := [(0, .ref aB)]) rfl ?_
  intro p e s m args below meth c A Q ls hx hb hml hown hts hK hN hP hD hS hA hl hret0
  have hown : s.vm.findClass RX0 = some m.cls := hown
  have i0 : ∀ w ∈ wsX00, w ∈ wsX0_mend := mem_ps [101, 102, 103, 104] rfl
  have i1 : ∀ w ∈ wsX10, w ∈ wsX0_mend := mem_ps [113, 114] rfl
  have i2 : ∀ w ∈ wsX20, w ∈ wsX0_mend := mem_ps [110, 111, 112] rfl
  have i3 : ∀ w ∈ wsX30, w ∈ wsX0_mend := mem_ps [105, 106, 107, 108, 109] rfl
  have i4 : ∀ w ∈ wsX40, w ∈ wsX0_mend := mem_ps [115, 116, 117, 118, 119, 120, 121, 122, 123, 124] rfl
  have hret : ∀ (v : Int32) (zSl : Int32) (zWo : Nat → Int32) (zVa : Int32) (zCo : Int32) (zBi : Int32) (zPr : Nat → Int32) (zHo : Nat → Int32) (zHe : Nat → Int32) (pc : Nat) (ls : Array Slot) (H : Heap) (locs : List Loc), narrow .int (.int v) = .int v → decode cX0_mend pc = .ok (.ireturn, 1) → va_P D vwCl [(aB, .inr (0, [.ref aP, .ref aS, .ref aW, .int zSl])), (aW, .inl (cI, 256, .inl zWo)), (aP, .inr (3, [.int vMo, .int vSh, .ref aK, .ref aC, .ref aS])), (aK, .inr (2, [.int vKn, .ref aKd, .ref aKs])), (aKd, .inl (cI, 8, .inl fKd)), (aKs, .inl (cI, 8, .inl fKs)), (aC, .inr (1, [.int vCn, .ref aCd])), (aCd, .inl (cI, 12, .inl fCd)), (aS, .inr (4, [.int zVa, .int zCo, .int zBi, .int vPh, .ref aPr, .ref aHo, .ref aHe, .ref aSt, .ref aPb, .ref aPs])), (aPr, .inl (cI, 16, .inl zPr)), (aHo, .inl (cI, 16, .inl zHo)), (aHe, .inl (cI, 16, .inl zHe))] H → va_D A [(aB, .inr (0, [.ref aP, .ref aS, .ref aW, .int zSl])), (aW, .inl (cI, 256, .inl zWo)), (aP, .inr (3, [.int vMo, .int vSh, .ref aK, .ref aC, .ref aS])), (aK, .inr (2, [.int vKn, .ref aKd, .ref aKs])), (aKd, .inl (cI, 8, .inl fKd)), (aKs, .inl (cI, 8, .inl fKs)), (aC, .inr (1, [.int vCn, .ref aCd])), (aCd, .inl (cI, 12, .inl fCd)), (aS, .inr (4, [.int zVa, .int zCo, .int zBi, .int vPh, .ref aPr, .ref aHo, .ref aHe, .ref aSt, .ref aPb, .ref aPs])), (aPr, .inl (cI, 16, .inl zPr)), (aHo, .inl (cI, 16, .inl zHo)), (aHe, .inl (cI, 16, .inl zHe))] → va_S A s.heap H locs → some (v, zSl, zWo, zVa, zCo, zBi, zPr, zHo, zHe) = some (r, oSl, oWo, oVa, oCo, oBi, oPr, oHo, oHe) → W p l e rX0_mend s m args below meth c H locs 0 0 Q (F0 m pc ls [.int v]) := by
    intro v zSl zWo zVa zCo zBi zPr zHo zHe pc ls H locs hn hd hP hD hS h
    cases h
    exact hret0 pc ls H locs () hn hd hP hD hS
  clear hret0
  have hb6 : ∀ (n : Nat) (x1 : Int32) (vSl : Int32) (fWo : Nat → Int32) (vVa : Int32) (vCo : Int32) (vBi : Int32) (fPr : Nat → Int32) (fHo : Nat → Int32) (fHe : Nat → Int32) (H : Heap) (locs : List Loc) (ls : Array Slot), va_P D vwCl [(aB, .inr (0, [.ref aP, .ref aS, .ref aW, .int vSl])), (aW, .inl (cI, 256, .inl fWo)), (aP, .inr (3, [.int vMo, .int vSh, .ref aK, .ref aC, .ref aS])), (aK, .inr (2, [.int vKn, .ref aKd, .ref aKs])), (aKd, .inl (cI, 8, .inl fKd)), (aKs, .inl (cI, 8, .inl fKs)), (aC, .inr (1, [.int vCn, .ref aCd])), (aCd, .inl (cI, 12, .inl fCd)), (aS, .inr (4, [.int vVa, .int vCo, .int vBi, .int vPh, .ref aPr, .ref aHo, .ref aHe, .ref aSt, .ref aPb, .ref aPs])), (aPr, .inl (cI, 16, .inl fPr)), (aHo, .inl (cI, 16, .inl fHo)), (aHe, .inl (cI, 16, .inl fHe))] H → va_D A [(aB, .inr (0, [.ref aP, .ref aS, .ref aW, .int vSl])), (aW, .inl (cI, 256, .inl fWo)), (aP, .inr (3, [.int vMo, .int vSh, .ref aK, .ref aC, .ref aS])), (aK, .inr (2, [.int vKn, .ref aKd, .ref aKs])), (aKd, .inl (cI, 8, .inl fKd)), (aKs, .inl (cI, 8, .inl fKs)), (aC, .inr (1, [.int vCn, .ref aCd])), (aCd, .inl (cI, 12, .inl fCd)), (aS, .inr (4, [.int vVa, .int vCo, .int vBi, .int vPh, .ref aPr, .ref aHo, .ref aHe, .ref aSt, .ref aPb, .ref aPs])), (aPr, .inl (cI, 16, .inl fPr)), (aHo, .inl (cI, 16, .inl fHo)), (aHe, .inl (cI, 16, .inl fHe))] → va_S A s.heap H locs → lv_has ls 2 [(0, .ref aB), (1, .int x1)] → fX0_mend_b6 vMo vKn fKd fKs vCn fCd n x1 vSl fWo vVa vCo vBi fPr fHo fHe = some (r, oSl, oWo, oVa, oCo, oBi, oPr, oHo, oHe) → W p l e rX0_mend s m args below meth c H locs 0 0 Q (F0 m 6 ls []) := by
    intro n
    induction n with
    | zero => intro x1 vSl fWo vVa vCo vBi fPr fHo fHe H locs ls hP hD hS hl h; exact absurd h (by rw [fX0_mend_b6]; exact fun z => by cases z)
    | succ n ih =>
      intro x1 vSl fWo vVa vCo vBi fPr fHo fHe H locs ls hP hD hS hl h
      rw [fX0_mend_b6] at h
      refine lv_iload_n hx hb dX0_mend_6 rfl (lv_at hl 1 rfl) ?_
      refine lv_aload_n hx hb dX0_mend_7 rfl (lv_at hl 0 rfl) ?_
      refine va_get (D := D) (ci := 0) (v := .int vSl) (C := RX0) (T := TX0) (N := 4) hx hb hts i0 hown hK hP 0 rfl rfl 3 (by decide) (hts (.fieldLink RX0 43 RX0 "slots" "I") (List.mem_of_getElem? (i := 1) rfl)) (fun _ h9 => h9) rfl dX0_mend_8 ?_
      refine lv_icmp_ge (tgt := 43) hx hb dX0_mend_11 (by decide) (fun c1 => ?_) (fun c1 => ?_)
      · have h := (if_pos c1).symm.trans h
        refine lv_aload_n hx hb dX0_mend_43 rfl (lv_at hl 0 rfl) ?_
        refine lv_iconst (v := (1 : Int32)) hx hb dX0_mend_44 (by decide) ?_
        obtain ⟨r_45, fPr_45, fHo_45, fHe_45, q_45, h⟩ := bd4_some h
        refine fr_rw_i (S := Unit) (wc := [(aB, .inr (0, [.ref aP, .ref aS, .ref aW, .int vSl])), (aW, .inl (cI, 256, .inl fWo)), (aS, .inr (4, [.int vVa, .int vCo, .int vBi, .int vPh, .ref aPr, .ref aHo, .ref aHe, .ref aSt, .ref aPb, .ref aPs])), (aPr, .inl (cI, 16, .inl fPr)), (aHo, .inl (cI, 16, .inl fHo)), (aHe, .inl (cI, 16, .inl fHe))]) (wc' := fun _ => [(aB, .inr (0, [.ref aP, .ref aS, .ref aW, .int vSl])), (aW, .inl (cI, 256, .inl fWo)), (aS, .inr (4, [.int vVa, .int vCo, .int vBi, .int vPh, .ref aPr, .ref aHo, .ref aHe, .ref aSt, .ref aPb, .ref aPs])), (aPr, .inl (cI, 16, .inl fPr_45)), (aHo, .inl (cI, 16, .inl fHo_45)), (aHe, .inl (cI, 16, .inl fHe_45))]) (wr := [(aP, .inr (3, [.int vMo, .int vSh, .ref aK, .ref aC, .ref aS])), (aK, .inr (2, [.int vKn, .ref aKd, .ref aKs])), (aKd, .inl (cI, 8, .inl fKd)), (aKs, .inl (cI, 8, .inl fKs)), (aC, .inr (1, [.int vCn, .ref aCd])), (aCd, .inl (cI, 12, .inl fCd))]) (w2 := fun _ => [(aB, .inr (0, [.ref aP, .ref aS, .ref aW, .int vSl])), (aW, .inl (cI, 256, .inl fWo)), (aP, .inr (3, [.int vMo, .int vSh, .ref aK, .ref aC, .ref aS])), (aK, .inr (2, [.int vKn, .ref aKd, .ref aKs])), (aKd, .inl (cI, 8, .inl fKd)), (aKs, .inl (cI, 8, .inl fKs)), (aC, .inr (1, [.int vCn, .ref aCd])), (aCd, .inl (cI, 12, .inl fCd)), (aS, .inr (4, [.int vVa, .int vCo, .int vBi, .int vPh, .ref aPr, .ref aHo, .ref aHe, .ref aSt, .ref aPb, .ref aPs])), (aPr, .inl (cI, 16, .inl fPr_45)), (aHo, .inl (cI, 16, .inl fHo_45)), (aHe, .inl (cI, 16, .inl fHe_45))]) (fr_V (As := [.int (1 : Int32)]) (rest := []) (C := RX0) ⟨hx, hb, hml, hown, hts⟩ (tX0_bidTillNoneIsFree aB aW aS aPr aHo aHe aP aSt aPb aPs vSl fWo vVa vCo vBi vPh fPr fHo fHe (1 : Int32) r_45 fPr_45 fHo_45 fHe_45 q_45) gX0_mend_X0_bidTillNoneIsFree rfl (fr_preV (As := [.int (1 : Int32)]) (b := aB) (ci := 0) (q0 := 0) (wc := [(aB, .inr (0, [.ref aP, .ref aS, .ref aW, .int vSl])), (aW, .inl (cI, 256, .inl fWo)), (aS, .inr (4, [.int vVa, .int vCo, .int vBi, .int vPh, .ref aPr, .ref aHo, .ref aHe, .ref aSt, .ref aPb, .ref aPs])), (aPr, .inl (cI, 16, .inl fPr)), (aHo, .inl (cI, 16, .inl fHo)), (aHe, .inl (cI, 16, .inl fHe))]) hK hN hP hD [0, 1, 8, 9, 10, 11] (by decide) rfl rfl rfl) (n := 1) (by decide +kernel) ⟨Nat.le_of_ble_eq_true rfl, Nat.le_of_ble_eq_true rfl⟩ rfl hl.1 rfl (Nat.le_of_ble_eq_true rfl) dX0_mend_45 ⟨Nat.zero_le _, Nat.zero_le _⟩) hP hD hS hA [0, 1, 8, 9, 10, 11] [2, 3, 4, 5, 6, 7] [6, 7, 0, 1, 2, 3, 4, 5, 8, 9, 10, 11] rfl rfl (by decide) (by decide) (by decide) (fun _ => rfl) (c2 := 0) (s2 := 0) rfl rfl (fun _ H locs hP hD hS => ?_)
        refine lv_istore_n (lv' := [(1, .int r_45), (0, .ref aB)]) hx hb dX0_mend_48 rfl hl (by decide) rfl (fun ls hl => ?_)
        refine lv_aload_n hx hb dX0_mend_49 rfl (lv_at hl 1 rfl) ?_
        refine va_get (D := D) (ci := 0) (v := .ref aS) (C := RX0) (T := TX0) (N := 4) hx hb hts i0 hown hK hP 0 rfl rfl 1 (by decide) (hts (.fieldLink RX0 22 RX0 "sale" "LBidMosaic$Sale;") (List.mem_of_getElem? (i := 2) rfl)) (fun _ h9 => h9) rfl dX0_mend_50 ?_
        refine lv_iload_n hx hb dX0_mend_53 rfl (lv_at hl 0 rfl) ?_
        obtain ⟨vVa_54, vCo_54, vBi_54, q_54, h⟩ := bd3_some h
        refine fr_rw_v (S := Unit) (wc := [(aS, .inr (4, [.int vVa, .int vCo, .int vBi, .int vPh, .ref aPr, .ref aHo, .ref aHe, .ref aSt, .ref aPb, .ref aPs]))]) (wc' := fun _ => [(aS, .inr (4, [.int vVa_54, .int vCo_54, .int vBi_54, .int vPh, .ref aPr, .ref aHo, .ref aHe, .ref aSt, .ref aPb, .ref aPs]))]) (wr := [(aB, .inr (0, [.ref aP, .ref aS, .ref aW, .int vSl])), (aW, .inl (cI, 256, .inl fWo)), (aP, .inr (3, [.int vMo, .int vSh, .ref aK, .ref aC, .ref aS])), (aK, .inr (2, [.int vKn, .ref aKd, .ref aKs])), (aKd, .inl (cI, 8, .inl fKd)), (aKs, .inl (cI, 8, .inl fKs)), (aC, .inr (1, [.int vCn, .ref aCd])), (aCd, .inl (cI, 12, .inl fCd)), (aPr, .inl (cI, 16, .inl fPr_45)), (aHo, .inl (cI, 16, .inl fHo_45)), (aHe, .inl (cI, 16, .inl fHe_45))]) (w2 := fun _ => [(aB, .inr (0, [.ref aP, .ref aS, .ref aW, .int vSl])), (aW, .inl (cI, 256, .inl fWo)), (aP, .inr (3, [.int vMo, .int vSh, .ref aK, .ref aC, .ref aS])), (aK, .inr (2, [.int vKn, .ref aKd, .ref aKs])), (aKd, .inl (cI, 8, .inl fKd)), (aKs, .inl (cI, 8, .inl fKs)), (aC, .inr (1, [.int vCn, .ref aCd])), (aCd, .inl (cI, 12, .inl fCd)), (aS, .inr (4, [.int vVa_54, .int vCo_54, .int vBi_54, .int vPh, .ref aPr, .ref aHo, .ref aHe, .ref aSt, .ref aPb, .ref aPs])), (aPr, .inl (cI, 16, .inl fPr_45)), (aHo, .inl (cI, 16, .inl fHo_45)), (aHe, .inl (cI, 16, .inl fHe_45))]) (fr_VNv (As := [.int r_45]) (rest := []) (own := RX0) (host := RX5) (C := RX4) ⟨hx, hb, hml, hown, hts⟩ hN (tX4_finish aS aPr aHo aHe aSt aPb aPs vVa vCo vBi vPh r_45 vVa_54 vCo_54 vBi_54 q_54) gX0_mend_X4_finish_n86 rfl (nx_mem (i := 361) (by decide +kernel) rfl) (List.mem_of_getElem? (i := 57) rfl) (List.mem_of_getElem? (i := 95) rfl) (List.mem_of_getElem? (i := 96) rfl) (fr_preV (As := [.int r_45]) (b := aS) (ci := 4) (q0 := 8) (wc := [(aS, .inr (4, [.int vVa, .int vCo, .int vBi, .int vPh, .ref aPr, .ref aHo, .ref aHe, .ref aSt, .ref aPb, .ref aPs]))]) hK hN hP hD [8] (by decide) rfl rfl rfl) (n := 1) (by decide +kernel) ⟨Nat.le_of_ble_eq_true rfl, Nat.le_of_ble_eq_true rfl⟩ rfl hl.1 rfl (Nat.le_of_ble_eq_true rfl) dX0_mend_54 ⟨Nat.zero_le _, Nat.zero_le _⟩) hP hD hS hA [8] [0, 1, 2, 3, 4, 5, 6, 7, 9, 10, 11] [0, 1, 2, 3, 4, 5, 6, 7, 11, 8, 9, 10] rfl rfl (by decide) (by decide) (by decide) (fun _ => rfl) (c2 := 0) (s2 := 0) rfl rfl (fun _ H locs hP hD hS => ?_)
        refine lv_iload_n hx hb dX0_mend_57 rfl (lv_at hl 0 rfl) ?_
        exact hret r_45 vSl fWo vVa_54 vCo_54 vBi_54 fPr_45 fHo_45 fHe_45 58 ls H locs rfl dX0_mend_58 hP hD hS h
      · have h := (if_neg c1).symm.trans h
        refine lv_aload_n hx hb dX0_mend_14 rfl (lv_at hl 0 rfl) ?_
        refine lv_iload_n hx hb dX0_mend_15 rfl (lv_at hl 1 rfl) ?_
        obtain ⟨r_16, q_16, h⟩ := bd1_some h
        refine fr_ro_i (S := Unit) (wc := [(aB, .inr (0, [.ref aP, .ref aS, .ref aW, .int vSl])), (aW, .inl (cI, 256, .inl fWo)), (aS, .inr (4, [.int vVa, .int vCo, .int vBi, .int vPh, .ref aPr, .ref aHo, .ref aHe, .ref aSt, .ref aPb, .ref aPs])), (aPr, .inl (cI, 16, .inl fPr)), (aHe, .inl (cI, 16, .inl fHe))]) (fr_V (As := [.int x1]) (rest := []) (C := RX0) ⟨hx, hb, hml, hown, hts⟩ (tX0_ownGain aB aW aS aPr aHe aP aHo aSt aPb aPs vSl fWo vVa vCo vBi vPh fPr fHe x1 r_16 q_16) gX0_mend_X0_ownGain rfl (fr_preV (As := [.int x1]) (b := aB) (ci := 0) (q0 := 0) (wc := [(aB, .inr (0, [.ref aP, .ref aS, .ref aW, .int vSl])), (aW, .inl (cI, 256, .inl fWo)), (aS, .inr (4, [.int vVa, .int vCo, .int vBi, .int vPh, .ref aPr, .ref aHo, .ref aHe, .ref aSt, .ref aPb, .ref aPs])), (aPr, .inl (cI, 16, .inl fPr)), (aHe, .inl (cI, 16, .inl fHe))]) hK hN hP hD [0, 1, 8, 9, 11] (by decide) rfl rfl rfl) (n := 1) (by decide +kernel) ⟨Nat.le_of_ble_eq_true rfl, Nat.le_of_ble_eq_true rfl⟩ rfl hl.1 rfl (Nat.le_of_ble_eq_true rfl) dX0_mend_16 ⟨Nat.zero_le _, Nat.zero_le _⟩) hP hD hS hA [0, 1, 8, 9, 11] rfl (c2 := 0) (s2 := 0) rfl rfl (fun H locs hP hS => ?_)
        refine lv_aload_n hx hb dX0_mend_19 rfl (lv_at hl 0 rfl) ?_
        refine lv_iload_n hx hb dX0_mend_20 rfl (lv_at hl 1 rfl) ?_
        obtain ⟨r_21, q_21, h⟩ := bd1_some h
        refine fr_ro_i (S := Unit) (wc := [(aB, .inr (0, [.ref aP, .ref aS, .ref aW, .int vSl])), (aW, .inl (cI, 256, .inl fWo)), (aS, .inr (4, [.int vVa, .int vCo, .int vBi, .int vPh, .ref aPr, .ref aHo, .ref aHe, .ref aSt, .ref aPb, .ref aPs])), (aPr, .inl (cI, 16, .inl fPr))]) (fr_V (As := [.int x1]) (rest := [.int r_16]) (C := RX0) ⟨hx, hb, hml, hown, hts⟩ (tX0_greatestGain aB aW aS aPr aP aHo aHe aSt aPb aPs vSl fWo vVa vCo vBi vPh fPr x1 r_21 q_21) gX0_mend_X0_greatestGain rfl (fr_preV (As := [.int x1]) (b := aB) (ci := 0) (q0 := 0) (wc := [(aB, .inr (0, [.ref aP, .ref aS, .ref aW, .int vSl])), (aW, .inl (cI, 256, .inl fWo)), (aS, .inr (4, [.int vVa, .int vCo, .int vBi, .int vPh, .ref aPr, .ref aHo, .ref aHe, .ref aSt, .ref aPb, .ref aPs])), (aPr, .inl (cI, 16, .inl fPr))]) hK hN hP hD [0, 1, 8, 9] (by decide) rfl rfl rfl) (n := 1) (by decide +kernel) ⟨Nat.le_of_ble_eq_true rfl, Nat.le_of_ble_eq_true rfl⟩ rfl hl.1 rfl (Nat.le_of_ble_eq_true rfl) dX0_mend_21 ⟨Nat.zero_le _, Nat.zero_le _⟩) hP hD hS hA [0, 1, 8, 9] rfl (c2 := 0) (s2 := 0) rfl rfl (fun H locs hP hS => ?_)
        refine lv_iconst (v := (1 : Int32)) hx hb dX0_mend_24 (by decide) ?_
        refine lv_isub hx hb dX0_mend_25 ?_
        refine lv_icmp_ge (tgt := 37) hx hb dX0_mend_26 (by decide) (fun c2 => ?_) (fun c2 => ?_)
        · have h := (if_pos c2).symm.trans h
          refine lv_iinc (v := x1 + 1) (lv' := [(1, .int (x1 + 1)), (0, .ref aB)]) hx hb dX0_mend_37 hl (k := 1) rfl rfl (by decide) rfl (fun ls hl => ?_)
          refine lv_goto (tgt := 6) hx hb dX0_mend_40 (by decide) ?_
          exact ih (x1 + 1) vSl fWo vVa vCo vBi fPr fHo fHe H locs ls hP hD hS (lv_sub hl [1, 0] rfl) h
        · have h := (if_neg c2).symm.trans h
          refine lv_aload_n hx hb dX0_mend_29 rfl (lv_at hl 0 rfl) ?_
          refine va_get (D := D) (ci := 0) (v := .ref aS) (C := RX0) (T := TX0) (N := 4) hx hb hts i0 hown hK hP 0 rfl rfl 1 (by decide) (hts (.fieldLink RX0 22 RX0 "sale" "LBidMosaic$Sale;") (List.mem_of_getElem? (i := 2) rfl)) (fun _ h9 => h9) rfl dX0_mend_30 ?_
          refine lv_iload_n hx hb dX0_mend_33 rfl (lv_at hl 1 rfl) ?_
          obtain ⟨fHo_34, fHe_34, q_34, h⟩ := bd2_some h
          refine fr_rw_v (S := Unit) (wc := [(aS, .inr (4, [.int vVa, .int vCo, .int vBi, .int vPh, .ref aPr, .ref aHo, .ref aHe, .ref aSt, .ref aPb, .ref aPs])), (aHo, .inl (cI, 16, .inl fHo)), (aHe, .inl (cI, 16, .inl fHe))]) (wc' := fun _ => [(aS, .inr (4, [.int vVa, .int vCo, .int vBi, .int vPh, .ref aPr, .ref aHo, .ref aHe, .ref aSt, .ref aPb, .ref aPs])), (aHo, .inl (cI, 16, .inl fHo_34)), (aHe, .inl (cI, 16, .inl fHe_34))]) (wr := [(aB, .inr (0, [.ref aP, .ref aS, .ref aW, .int vSl])), (aW, .inl (cI, 256, .inl fWo)), (aP, .inr (3, [.int vMo, .int vSh, .ref aK, .ref aC, .ref aS])), (aK, .inr (2, [.int vKn, .ref aKd, .ref aKs])), (aKd, .inl (cI, 8, .inl fKd)), (aKs, .inl (cI, 8, .inl fKs)), (aC, .inr (1, [.int vCn, .ref aCd])), (aCd, .inl (cI, 12, .inl fCd)), (aPr, .inl (cI, 16, .inl fPr))]) (w2 := fun _ => [(aB, .inr (0, [.ref aP, .ref aS, .ref aW, .int vSl])), (aW, .inl (cI, 256, .inl fWo)), (aP, .inr (3, [.int vMo, .int vSh, .ref aK, .ref aC, .ref aS])), (aK, .inr (2, [.int vKn, .ref aKd, .ref aKs])), (aKd, .inl (cI, 8, .inl fKd)), (aKs, .inl (cI, 8, .inl fKs)), (aC, .inr (1, [.int vCn, .ref aCd])), (aCd, .inl (cI, 12, .inl fCd)), (aS, .inr (4, [.int vVa, .int vCo, .int vBi, .int vPh, .ref aPr, .ref aHo, .ref aHe, .ref aSt, .ref aPb, .ref aPs])), (aPr, .inl (cI, 16, .inl fPr)), (aHo, .inl (cI, 16, .inl fHo_34)), (aHe, .inl (cI, 16, .inl fHe_34))]) (fr_VNv (As := [.int x1]) (rest := []) (own := RX0) (host := RX5) (C := RX4) ⟨hx, hb, hml, hown, hts⟩ hN (tX4_setFree aS aHo aHe aPr aSt aPb aPs vVa vCo vBi vPh fHo fHe x1 fHo_34 fHe_34 q_34) gX0_mend_X4_setFree_n109 rfl (nx_mem (i := 386) (by decide +kernel) rfl) (List.mem_of_getElem? (i := 57) rfl) (List.mem_of_getElem? (i := 75) rfl) (List.mem_of_getElem? (i := 76) rfl) (fr_preV (As := [.int x1]) (b := aS) (ci := 4) (q0 := 8) (wc := [(aS, .inr (4, [.int vVa, .int vCo, .int vBi, .int vPh, .ref aPr, .ref aHo, .ref aHe, .ref aSt, .ref aPb, .ref aPs])), (aHo, .inl (cI, 16, .inl fHo)), (aHe, .inl (cI, 16, .inl fHe))]) hK hN hP hD [8, 10, 11] (by decide) rfl rfl rfl) (n := 1) (by decide +kernel) ⟨Nat.le_of_ble_eq_true rfl, Nat.le_of_ble_eq_true rfl⟩ rfl hl.1 rfl (Nat.le_of_ble_eq_true rfl) dX0_mend_34 ⟨Nat.zero_le _, Nat.zero_le _⟩) hP hD hS hA [8, 10, 11] [0, 1, 2, 3, 4, 5, 6, 7, 9] [0, 1, 2, 3, 4, 5, 6, 7, 9, 8, 10, 11] rfl rfl (by decide) (by decide) (by decide) (fun _ => rfl) (c2 := 0) (s2 := 0) rfl rfl (fun _ H locs hP hD hS => ?_)
          refine lv_iinc (v := x1 + 1) (lv' := [(1, .int (x1 + 1)), (0, .ref aB)]) hx hb dX0_mend_37 hl (k := 1) rfl rfl (by decide) rfl (fun ls hl => ?_)
          refine lv_goto (tgt := 6) hx hb dX0_mend_40 (by decide) ?_
          exact ih (x1 + 1) vSl fWo vVa vCo vBi fPr fHo_34 fHe_34 H locs ls hP hD hS (lv_sub hl [1, 0] rfl) h
  unfold fX0_mend at h
  obtain ⟨H, hH⟩ : ∃ H, H = s.heap := ⟨_, rfl⟩
  have hP : va_P D vwCl [(aB, .inr (0, [.ref aP, .ref aS, .ref aW, .int vSl])), (aW, .inl (cI, 256, .inl fWo)), (aP, .inr (3, [.int vMo, .int vSh, .ref aK, .ref aC, .ref aS])), (aK, .inr (2, [.int vKn, .ref aKd, .ref aKs])), (aKd, .inl (cI, 8, .inl fKd)), (aKs, .inl (cI, 8, .inl fKs)), (aC, .inr (1, [.int vCn, .ref aCd])), (aCd, .inl (cI, 12, .inl fCd)), (aS, .inr (4, [.int vVa, .int vCo, .int vBi, .int vPh, .ref aPr, .ref aHo, .ref aHe, .ref aSt, .ref aPb, .ref aPs])), (aPr, .inl (cI, 16, .inl fPr)), (aHo, .inl (cI, 16, .inl fHo)), (aHe, .inl (cI, 16, .inl fHe))] H := by rw [hH]; exact hP
  obtain ⟨locs, hlocs⟩ : ∃ x : List Loc, x = [] := ⟨_, rfl⟩
  have hS : va_S A s.heap H locs := by rw [hH, hlocs]; exact hS
  suffices hgo : W p l e rX0_mend s m args below meth c H locs 0 0 Q (F0 m 0 ls []) by rw [hH, hlocs] at hgo; exact hgo
  refine lv_aload_n hx hb dX0_mend_0 rfl (lv_at hl 0 rfl) ?_
  obtain ⟨vSl_1, fWo_1, q_1, h⟩ := bd2_some h
  refine fr_rw_v (S := Unit) (wc := [(aB, .inr (0, [.ref aP, .ref aS, .ref aW, .int vSl])), (aW, .inl (cI, 256, .inl fWo)), (aP, .inr (3, [.int vMo, .int vSh, .ref aK, .ref aC, .ref aS])), (aK, .inr (2, [.int vKn, .ref aKd, .ref aKs])), (aKd, .inl (cI, 8, .inl fKd)), (aKs, .inl (cI, 8, .inl fKs)), (aC, .inr (1, [.int vCn, .ref aCd])), (aCd, .inl (cI, 12, .inl fCd))]) (wc' := fun _ => [(aB, .inr (0, [.ref aP, .ref aS, .ref aW, .int vSl_1])), (aW, .inl (cI, 256, .inl fWo_1)), (aP, .inr (3, [.int vMo, .int vSh, .ref aK, .ref aC, .ref aS])), (aK, .inr (2, [.int vKn, .ref aKd, .ref aKs])), (aKd, .inl (cI, 8, .inl fKd)), (aKs, .inl (cI, 8, .inl fKs)), (aC, .inr (1, [.int vCn, .ref aCd])), (aCd, .inl (cI, 12, .inl fCd))]) (wr := [(aS, .inr (4, [.int vVa, .int vCo, .int vBi, .int vPh, .ref aPr, .ref aHo, .ref aHe, .ref aSt, .ref aPb, .ref aPs])), (aPr, .inl (cI, 16, .inl fPr)), (aHo, .inl (cI, 16, .inl fHo)), (aHe, .inl (cI, 16, .inl fHe))]) (w2 := fun _ => [(aB, .inr (0, [.ref aP, .ref aS, .ref aW, .int vSl_1])), (aW, .inl (cI, 256, .inl fWo_1)), (aP, .inr (3, [.int vMo, .int vSh, .ref aK, .ref aC, .ref aS])), (aK, .inr (2, [.int vKn, .ref aKd, .ref aKs])), (aKd, .inl (cI, 8, .inl fKd)), (aKs, .inl (cI, 8, .inl fKs)), (aC, .inr (1, [.int vCn, .ref aCd])), (aCd, .inl (cI, 12, .inl fCd)), (aS, .inr (4, [.int vVa, .int vCo, .int vBi, .int vPh, .ref aPr, .ref aHo, .ref aHe, .ref aSt, .ref aPb, .ref aPs])), (aPr, .inl (cI, 16, .inl fPr)), (aHo, .inl (cI, 16, .inl fHo)), (aHe, .inl (cI, 16, .inl fHe))]) (fr_Vv (As := []) (rest := []) (C := RX0) ⟨hx, hb, hml, hown, hts⟩ (tX0_readWorths aB aW aP aK aKd aKs aC aCd aS vSl fWo vMo vSh vKn fKd fKs vCn fCd vSl_1 fWo_1 q_1) gX0_mend_X0_readWorths rfl (fr_preV (As := []) (b := aB) (ci := 0) (q0 := 0) (wc := [(aB, .inr (0, [.ref aP, .ref aS, .ref aW, .int vSl])), (aW, .inl (cI, 256, .inl fWo)), (aP, .inr (3, [.int vMo, .int vSh, .ref aK, .ref aC, .ref aS])), (aK, .inr (2, [.int vKn, .ref aKd, .ref aKs])), (aKd, .inl (cI, 8, .inl fKd)), (aKs, .inl (cI, 8, .inl fKs)), (aC, .inr (1, [.int vCn, .ref aCd])), (aCd, .inl (cI, 12, .inl fCd))]) hK hN hP hD [0, 1, 2, 3, 4, 5, 6, 7] (by decide) rfl rfl rfl) (n := 0) (by decide +kernel) ⟨Nat.le_of_ble_eq_true rfl, Nat.le_of_ble_eq_true rfl⟩ rfl hl.1 rfl (Nat.le_of_ble_eq_true rfl) dX0_mend_1 ⟨Nat.zero_le _, Nat.zero_le _⟩) hP hD hS hA [0, 1, 2, 3, 4, 5, 6, 7] [8, 9, 10, 11] [4, 5, 6, 7, 8, 9, 10, 11, 0, 1, 2, 3] rfl rfl (by decide) (by decide) (by decide) (fun _ => rfl) (c2 := 0) (s2 := 0) rfl rfl (fun _ H locs hP hD hS => ?_)
  refine lv_iconst (v := (0 : Int32)) hx hb dX0_mend_4 (by decide) ?_
  refine lv_istore_n (lv' := [(1, .int (0 : Int32)), (0, .ref aB)]) hx hb dX0_mend_5 rfl hl (by decide) rfl (fun ls hl => ?_)
  exact hb6 FU (0 : Int32) vSl_1 fWo_1 vVa vCo vBi fPr fHo fHe H locs ls hP hD hS (lv_sub hl [1, 0] rfl) h
