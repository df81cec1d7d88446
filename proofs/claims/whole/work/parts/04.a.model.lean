def fX6_in (x0 : Int64) (x2 : Int64) (x4 : Int64) : Option (Int32) :=
  if (lg_cmp x0 x2) < 0 then
    some (0 : Int32)
  else
    if 0 < (lg_cmp x0 x4) then
      some (0 : Int32)
    else
      some (1 : Int32)
abbrev rX6_in : Room := { frames := 0, cells := 0, slots := 0, locals := 0 }
set_option maxHeartbeats 4000000 in
set_option maxRecDepth 100000 in
theorem tX6_in {l : Launch} {D : va_G} {cI cZ cP : ClassId} (x0 : Int64) (x2 : Int64) (x4 : Int64) (r : Int32) (h : fX6_in x0 x2 x4 = some r) : CtI l D cI cZ cP yX6_in wsX6_in rX6_in [.long x0, .long x2, .long x4] [] (fun _ : Unit => []) r := by
  refine CtI.ofW (cc := cX6_in) (maxL := 6) (by decide) rfl (Nat.le_of_ble_eq_true rfl) (lv := [(0, .long x0), (2, .long x2), (4, .long x4)]) rfl ?_
  intro p e s m args below meth c A Q ls hx hb hml hown hts hK hN hP hD hS hA hl hret0
  have hown : s.vm.findClass RX6 = some m.cls := hown
  have hret : ∀ (v : Int32) (pc : Nat) (ls : Array Slot) (H : Heap) (locs : List Loc), narrow .boolean (.int v) = .int v → decode cX6_in pc = .ok (.ireturn, 1) → va_P D vwCl [] H → va_D A [] → va_S A s.heap H locs → some v = some r → W p l e rX6_in s m args below meth c H locs 0 0 Q (F0 m pc ls [.int v]) := by
    intro v pc ls H locs hn hd hP hD hS h
    cases h
    exact hret0 pc ls H locs () hn hd hP hD hS
  clear hret0
  unfold fX6_in at h
  obtain ⟨H, hH⟩ : ∃ H, H = s.heap := ⟨_, rfl⟩
  have hP : va_P D vwCl [] H := by rw [hH]; exact hP
  obtain ⟨locs, hlocs⟩ : ∃ x : List Loc, x = [] := ⟨_, rfl⟩
  have hS : va_S A s.heap H locs := by rw [hH, hlocs]; exact hS
  suffices hgo : W p l e rX6_in s m args below meth c H locs 0 0 Q (F0 m 0 ls []) by rw [hH, hlocs] at hgo; exact hgo
  refine lv_lload_n hx hb dX6_in_0 rfl (lv_at hl 0 rfl) ?_
  refine lv_lload_n hx hb dX6_in_1 rfl (lv_at hl 1 rfl) ?_
  refine W.lcmp hx hb dX6_in_2 ?_
  refine lv_if_lt (tgt := 17) hx hb dX6_in_3 (by decide) (fun c1 => ?_) (fun c1 => ?_)
  · have h := (if_pos c1).symm.trans h
    refine lv_iconst (v := (0 : Int32)) hx hb dX6_in_17 (by decide) ?_
    exact hret (0 : Int32) 18 ls H locs rfl dX6_in_18 hP hD hS h
  · have h := (if_neg c1).symm.trans h
    refine lv_lload_n hx hb dX6_in_6 rfl (lv_at hl 0 rfl) ?_
    refine lv_lload hx hb dX6_in_7 (lv_at hl 2 rfl) ?_
    refine W.lcmp hx hb dX6_in_9 ?_
    refine lv_if_gt (tgt := 17) hx hb dX6_in_10 (by decide) (fun c2 => ?_) (fun c2 => ?_)
    · have h := (if_pos c2).symm.trans h
      refine lv_iconst (v := (0 : Int32)) hx hb dX6_in_17 (by decide) ?_
      exact hret (0 : Int32) 18 ls H locs rfl dX6_in_18 hP hD hS h
    · have h := (if_neg c2).symm.trans h
      refine lv_iconst (v := (1 : Int32)) hx hb dX6_in_13 (by decide) ?_
      refine lv_goto (tgt := 18) hx hb dX6_in_14 (by decide) ?_
      exact hret (1 : Int32) 18 ls H locs rfl dX6_in_18 hP hD hS h
def fX6_isDots (x0 : Int32) : Option (Int32) :=
  bd1 (fX6_in x0.toInt64 (0 : Int64) (9999 : Int64)) fun r_6 =>
  if r_6 = 0 ∨ r_6 = 1 then some r_6 else none
abbrev rX6_isDots : Room := { frames := 1, cells := 0, slots := 0, locals := 25 }
set_option maxHeartbeats 4000000 in
set_option maxRecDepth 100000 in
theorem tX6_isDots {l : Launch} {D : va_G} {cI cZ cP : ClassId} (x0 : Int32) (r : Int32) (h : fX6_isDots x0 = some r) : CtI l D cI cZ cP yX6_isDots wsX6_isDots rX6_isDots [.int x0] [] (fun _ : Unit => []) r := by
  refine CtI.ofW (cc := cX6_isDots) (maxL := 1) (by decide) rfl (Nat.le_of_ble_eq_true rfl) (lv := [(0, .int x0)]) rfl ?_
  intro p e s m args below meth c A Q ls hx hb hml hown hts hK hN hP hD hS hA hl hret0
  have hown : s.vm.findClass RX6 = some m.cls := hown
  have hret : ∀ (v : Int32) (pc : Nat) (ls : Array Slot) (H : Heap) (locs : List Loc), narrow .boolean (.int v) = .int v → decode cX6_isDots pc = .ok (.ireturn, 1) → va_P D vwCl [] H → va_D A [] → va_S A s.heap H locs → some v = some r → W p l e rX6_isDots s m args below meth c H locs 0 0 Q (F0 m pc ls [.int v]) := by
    intro v pc ls H locs hn hd hP hD hS h
    cases h
    exact hret0 pc ls H locs () hn hd hP hD hS
  clear hret0
  unfold fX6_isDots at h
  obtain ⟨H, hH⟩ : ∃ H, H = s.heap := ⟨_, rfl⟩
  have hP : va_P D vwCl [] H := by rw [hH]; exact hP
  obtain ⟨locs, hlocs⟩ : ∃ x : List Loc, x = [] := ⟨_, rfl⟩
  have hS : va_S A s.heap H locs := by rw [hH, hlocs]; exact hS
  suffices hgo : W p l e rX6_isDots s m args below meth c H locs 0 0 Q (F0 m 0 ls []) by rw [hH, hlocs] at hgo; exact hgo
  refine lv_iload_n hx hb dX6_isDots_0 rfl (lv_at hl 0 rfl) ?_
  refine lv_i2l (v := x0.toInt64) hx hb dX6_isDots_1 rfl ?_
  refine lv_lconst (v := (0 : Int64)) hx hb dX6_isDots_2 (by decide) ?_
  refine lv_ldc2 (v := (9999 : Int64)) hx hb hown (hts (.constantLong RX6 50 (9999 : Int64)) (List.mem_of_getElem? (i := 1) rfl)) dX6_isDots_3 ?_
  obtain ⟨r_6, q_6, h⟩ := bd1_some h
  refine fr_ro_i (S := Unit) (wc := []) (fr_S (As := [.long x0.toInt64, .long (0 : Int64), .long (9999 : Int64)]) (rest := []) ⟨hx, hb, hml, hown, hts⟩ (tX6_in x0.toInt64 (0 : Int64) (9999 : Int64) r_6 q_6) gX6_isDots_X6_in rfl (fr_pre (As := [.long x0.toInt64, .long (0 : Int64), .long (9999 : Int64)]) (wc := []) hK hN hP hD [] (by decide) rfl) (n := 3) (by decide +kernel) ⟨Nat.le_of_ble_eq_true rfl, Nat.le_of_ble_eq_true rfl⟩ rfl hl.1 rfl (Nat.le_of_ble_eq_true rfl) dX6_isDots_6 ⟨Nat.zero_le _, Nat.zero_le _⟩) hP hD hS hA [] rfl (c2 := 0) (s2 := 0) rfl rfl (fun H locs hP hS => ?_)
  obtain ⟨z1, h⟩ := yes_some h
  exact hret r_6 9 ls H locs (zz_nar z1) dX6_isDots_9 hP hD hS h
def fX6_kinds (fN : Nat → Int32) : Option (Int32) :=
  some (fN 2)
abbrev rX6_kinds : Room := { frames := 0, cells := 0, slots := 0, locals := 0 }
set_option maxHeartbeats 4000000 in
set_option maxRecDepth 100000 in
theorem tX6_kinds {l : Launch} {D : va_G} {cI cZ cP : ClassId} (aM mN mkd mks mcd mpr msk mow mmi mst mbi msu mke mik : Nat) (vka : Int32) (viw : Int32) (fN : Nat → Int32) (r : Int32) (h : fX6_kinds fN = some r) : CtI l D cI cZ cP yX6_kinds wsX6_kinds rX6_kinds [.ref aM] [(aM, .inr (6, [.ref mN, .ref mkd, .ref mks, .ref mcd, .ref mpr, .ref msk, .ref mow, .ref mmi, .ref mst, .ref mbi, .ref msu, .ref mke, .ref mik, .int vka, .int viw])), (mN, .inl (cI, 9, .inl fN))] (fun _ : Unit => [(aM, .inr (6, [.ref mN, .ref mkd, .ref mks, .ref mcd, .ref mpr, .ref msk, .ref mow, .ref mmi, .ref mst, .ref mbi, .ref msu, .ref mke, .ref mik, .int vka, .int viw])), (mN, .inl (cI, 9, .inl fN))]) r := by
  refine CtI.ofW (cc := cX6_kinds) (maxL := 1) (by decide) rfl (Nat.le_of_ble_eq_true rfl) (lv := [(0, .ref aM)]) rfl ?_
  intro p e s m args below meth c A Q ls hx hb hml hown hts hK hN hP hD hS hA hl hret0
  have hown : s.vm.findClass RX6 = some m.cls := hown
  have i6 : ∀ w ∈ wsX60, w ∈ wsX6_kinds := mem_ps [2, 3, 4, 5, 6, 7, 8, 9, 10, 11, 12, 13, 14, 15, 16] rfl
  have hret : ∀ (v : Int32) (pc : Nat) (ls : Array Slot) (H : Heap) (locs : List Loc), narrow .int (.int v) = .int v → decode cX6_kinds pc = .ok (.ireturn, 1) → va_P D vwCl [(aM, .inr (6, [.ref mN, .ref mkd, .ref mks, .ref mcd, .ref mpr, .ref msk, .ref mow, .ref mmi, .ref mst, .ref mbi, .ref msu, .ref mke, .ref mik, .int vka, .int viw])), (mN, .inl (cI, 9, .inl fN))] H → va_D A [(aM, .inr (6, [.ref mN, .ref mkd, .ref mks, .ref mcd, .ref mpr, .ref msk, .ref mow, .ref mmi, .ref mst, .ref mbi, .ref msu, .ref mke, .ref mik, .int vka, .int viw])), (mN, .inl (cI, 9, .inl fN))] → va_S A s.heap H locs → some v = some r → W p l e rX6_kinds s m args below meth c H locs 0 0 Q (F0 m pc ls [.int v]) := by
    intro v pc ls H locs hn hd hP hD hS h
    cases h
    exact hret0 pc ls H locs () hn hd hP hD hS
  clear hret0
  unfold fX6_kinds at h
  obtain ⟨H, hH⟩ : ∃ H, H = s.heap := ⟨_, rfl⟩
  have hP : va_P D vwCl [(aM, .inr (6, [.ref mN, .ref mkd, .ref mks, .ref mcd, .ref mpr, .ref msk, .ref mow, .ref mmi, .ref mst, .ref mbi, .ref msu, .ref mke, .ref mik, .int vka, .int viw])), (mN, .inl (cI, 9, .inl fN))] H := by rw [hH]; exact hP
  obtain ⟨locs, hlocs⟩ : ∃ x : List Loc, x = [] := ⟨_, rfl⟩
  have hS : va_S A s.heap H locs := by rw [hH, hlocs]; exact hS
  suffices hgo : W p l e rX6_kinds s m args below meth c H locs 0 0 Q (F0 m 0 ls []) by rw [hH, hlocs] at hgo; exact hgo
  refine lv_aload_n hx hb dX6_kinds_0 rfl (lv_at hl 0 rfl) ?_
  refine va_get (D := D) (ci := 6) (v := .ref mN) (C := RX6) (T := TX6) (N := 15) hx hb hts i6 hown hK hP 0 rfl rfl 0 (by decide) (hts (.fieldLink RX6 7 RX6 "now" "[I") (List.mem_of_getElem? (i := 1) rfl)) (fun _ h9 => h9) rfl dX6_kinds_1 ?_
  refine lv_iconst (v := (2 : Int32)) hx hb dX6_kinds_4 (by decide) ?_
  refine fr_iald (j := 2) hx hb hK hP 1 0 rfl rfl (by decide) (vin_of 2 9 (2 : Int32) (by decide) (by decide) (by decide)) dX6_kinds_5 ?_
  exact hret (fN 2) 6 ls H locs rfl dX6_kinds_6 hP hD hS h
def fX6_cells (fN : Nat → Int32) : Option (Int32) :=
  some (fN 3)
abbrev rX6_cells : Room := { frames := 0, cells := 0, slots := 0, locals := 0 }
set_option maxHeartbeats 4000000 in
set_option maxRecDepth 100000 in
theorem tX6_cells {l : Launch} {D : va_G} {cI cZ cP : ClassId} (aM mN mkd mks mcd mpr msk mow mmi mst mbi msu mke mik : Nat) (vka : Int32) (viw : Int32) (fN : Nat → Int32) (r : Int32) (h : fX6_cells fN = some r) : CtI l D cI cZ cP yX6_cells wsX6_cells rX6_cells [.ref aM] [(aM, .inr (6, [.ref mN, .ref mkd, .ref mks, .ref mcd, .ref mpr, .ref msk, .ref mow, .ref mmi, .ref mst, .ref mbi, .ref msu, .ref mke, .ref mik, .int vka, .int viw])), (mN, .inl (cI, 9, .inl fN))] (fun _ : Unit => [(aM, .inr (6, [.ref mN, .ref mkd, .ref mks, .ref mcd, .ref mpr, .ref msk, .ref mow, .ref mmi, .ref mst, .ref mbi, .ref msu, .ref mke, .ref mik, .int vka, .int viw])), (mN, .inl (cI, 9, .inl fN))]) r := by
  refine CtI.ofW (cc := cX6_cells) (maxL := 1) (by decide) rfl (Nat.le_of_ble_eq_true rfl) (lv := [(0, .ref aM)]) rfl ?_
  intro p e s m args below meth c A Q ls hx hb hml hown hts hK hN hP hD hS hA hl hret0
  have hown : s.vm.findClass RX6 = some m.cls := hown
  have i6 : ∀ w ∈ wsX60, w ∈ wsX6_cells := mem_ps [2, 3, 4, 5, 6, 7, 8, 9, 10, 11, 12, 13, 14, 15, 16] rfl
  have hret : ∀ (v : Int32) (pc : Nat) (ls : Array Slot) (H : Heap) (locs : List Loc), narrow .int (.int v) = .int v → decode cX6_cells pc = .ok (.ireturn, 1) → va_P D vwCl [(aM, .inr (6, [.ref mN, .ref mkd, .ref mks, .ref mcd, .ref mpr, .ref msk, .ref mow, .ref mmi, .ref mst, .ref mbi, .ref msu, .ref mke, .ref mik, .int vka, .int viw])), (mN, .inl (cI, 9, .inl fN))] H → va_D A [(aM, .inr (6, [.ref mN, .ref mkd, .ref mks, .ref mcd, .ref mpr, .ref msk, .ref mow, .ref mmi, .ref mst, .ref mbi, .ref msu, .ref mke, .ref mik, .int vka, .int viw])), (mN, .inl (cI, 9, .inl fN))] → va_S A s.heap H locs → some v = some r → W p l e rX6_cells s m args below meth c H locs 0 0 Q (F0 m pc ls [.int v]) := by
    intro v pc ls H locs hn hd hP hD hS h
    cases h
    exact hret0 pc ls H locs () hn hd hP hD hS
  clear hret0
  unfold fX6_cells at h
  obtain ⟨H, hH⟩ : ∃ H, H = s.heap := ⟨_, rfl⟩
  have hP : va_P D vwCl [(aM, .inr (6, [.ref mN, .ref mkd, .ref mks, .ref mcd, .ref mpr, .ref msk, .ref mow, .ref mmi, .ref mst, .ref mbi, .ref msu, .ref mke, .ref mik, .int vka, .int viw])), (mN, .inl (cI, 9, .inl fN))] H := by rw [hH]; exact hP
  obtain ⟨locs, hlocs⟩ : ∃ x : List Loc, x = [] := ⟨_, rfl⟩
  have hS : va_S A s.heap H locs := by rw [hH, hlocs]; exact hS
  suffices hgo : W p l e rX6_cells s m args below meth c H locs 0 0 Q (F0 m 0 ls []) by rw [hH, hlocs] at hgo; exact hgo
  refine lv_aload_n hx hb dX6_cells_0 rfl (lv_at hl 0 rfl) ?_
  refine va_get (D := D) (ci := 6) (v := .ref mN) (C := RX6) (T := TX6) (N := 15) hx hb hts i6 hown hK hP 0 rfl rfl 0 (by decide) (hts (.fieldLink RX6 7 RX6 "now" "[I") (List.mem_of_getElem? (i := 1) rfl)) (fun _ h9 => h9) rfl dX6_cells_1 ?_
  refine lv_iconst (v := (3 : Int32)) hx hb dX6_cells_4 (by decide) ?_
  refine fr_iald (j := 3) hx hb hK hP 1 0 rfl rfl (by decide) (vin_of 3 9 (3 : Int32) (by decide) (by decide) (by decide)) dX6_cells_5 ?_
  exact hret (fN 3) 6 ls H locs rfl dX6_cells_6 hP hD hS h
def fX6_isValid (fN : Nat → Int32) : Option (Int32) :=
  if (fN 5) = (1 : Int32) then
    some (1 : Int32)
  else
    some (0 : Int32)
abbrev rX6_isValid : Room := { frames := 0, cells := 0, slots := 0, locals := 0 }
set_option maxHeartbeats 4000000 in
set_option maxRecDepth 100000 in
theorem tX6_isValid {l : Launch} {D : va_G} {cI cZ cP : ClassId} (aM mN mkd mks mcd mpr msk mow mmi mst mbi msu mke mik : Nat) (vka : Int32) (viw : Int32) (fN : Nat → Int32) (r : Int32) (h : fX6_isValid fN = some r) : CtI l D cI cZ cP yX6_isValid wsX6_isValid rX6_isValid [.ref aM] [(aM, .inr (6, [.ref mN, .ref mkd, .ref mks, .ref mcd, .ref mpr, .ref msk, .ref mow, .ref mmi, .ref mst, .ref mbi, .ref msu, .ref mke, .ref mik, .int vka, .int viw])), (mN, .inl (cI, 9, .inl fN))] (fun _ : Unit => [(aM, .inr (6, [.ref mN, .ref mkd, .ref mks, .ref mcd, .ref mpr, .ref msk, .ref mow, .ref mmi, .ref mst, .ref mbi, .ref msu, .ref mke, .ref mik, .int vka, .int viw])), (mN, .inl (cI, 9, .inl fN))]) r := by
  refine CtI.ofW (cc := cX6_isValid) (maxL := 1) (by decide) rfl (Nat.le_of_ble_eq_true rfl) (lv := [(0, .ref aM)]) rfl ?_
  intro p e s m args below meth c A Q ls hx hb hml hown hts hK hN hP hD hS hA hl hret0
  have hown : s.vm.findClass RX6 = some m.cls := hown
  have i6 : ∀ w ∈ wsX60, w ∈ wsX6_isValid := mem_ps [2, 3, 4, 5, 6, 7, 8, 9, 10, 11, 12, 13, 14, 15, 16] rfl
  have hret : ∀ (v : Int32) (pc : Nat) (ls : Array Slot) (H : Heap) (locs : List Loc), narrow .boolean (.int v) = .int v → decode cX6_isValid pc = .ok (.ireturn, 1) → va_P D vwCl [(aM, .inr (6, [.ref mN, .ref mkd, .ref mks, .ref mcd, .ref mpr, .ref msk, .ref mow, .ref mmi, .ref mst, .ref mbi, .ref msu, .ref mke, .ref mik, .int vka, .int viw])), (mN, .inl (cI, 9, .inl fN))] H → va_D A [(aM, .inr (6, [.ref mN, .ref mkd, .ref mks, .ref mcd, .ref mpr, .ref msk, .ref mow, .ref mmi, .ref mst, .ref mbi, .ref msu, .ref mke, .ref mik, .int vka, .int viw])), (mN, .inl (cI, 9, .inl fN))] → va_S A s.heap H locs → some v = some r → W p l e rX6_isValid s m args below meth c H locs 0 0 Q (F0 m pc ls [.int v]) := by
    intro v pc ls H locs hn hd hP hD hS h
    cases h
    exact hret0 pc ls H locs () hn hd hP hD hS
  clear hret0
  unfold fX6_isValid at h
  obtain ⟨H, hH⟩ : ∃ H, H = s.heap := ⟨_, rfl⟩
  have hP : va_P D vwCl [(aM, .inr (6, [.ref mN, .ref mkd, .ref mks, .ref mcd, .ref mpr, .ref msk, .ref mow, .ref mmi, .ref mst, .ref mbi, .ref msu, .ref mke, .ref mik, .int vka, .int viw])), (mN, .inl (cI, 9, .inl fN))] H := by rw [hH]; exact hP
  obtain ⟨locs, hlocs⟩ : ∃ x : List Loc, x = [] := ⟨_, rfl⟩
  have hS : va_S A s.heap H locs := by rw [hH, hlocs]; exact hS
  suffices hgo : W p l e rX6_isValid s m args below meth c H locs 0 0 Q (F0 m 0 ls []) by rw [hH, hlocs] at hgo; exact hgo
  refine lv_aload_n hx hb dX6_isValid_0 rfl (lv_at hl 0 rfl) ?_
  refine va_get (D := D) (ci := 6) (v := .ref mN) (C := RX6) (T := TX6) (N := 15) hx hb hts i6 hown hK hP 0 rfl rfl 0 (by decide) (hts (.fieldLink RX6 7 RX6 "now" "[I") (List.mem_of_getElem? (i := 1) rfl)) (fun _ h9 => h9) rfl dX6_isValid_1 ?_
  refine lv_iconst (v := (5 : Int32)) hx hb dX6_isValid_4 (by decide) ?_
  refine fr_iald (j := 5) hx hb hK hP 1 0 rfl rfl (by decide) (vin_of 5 9 (5 : Int32) (by decide) (by decide) (by decide)) dX6_isValid_5 ?_
  refine lv_iconst (v := (1 : Int32)) hx hb dX6_isValid_6 (by decide) ?_
  refine lv_icmp_ne (tgt := 14) hx hb dX6_isValid_7 (by decide) (fun c1 => ?_) (fun c1 => ?_)
  · have h := (if_neg c1).symm.trans h
    refine lv_iconst (v := (0 : Int32)) hx hb dX6_isValid_14 (by decide) ?_
    exact hret (0 : Int32) 15 ls H locs rfl dX6_isValid_15 hP hD hS h
  · have h := (if_pos c1).symm.trans h
    refine lv_iconst (v := (1 : Int32)) hx hb dX6_isValid_10 (by decide) ?_
    refine lv_goto (tgt := 15) hx hb dX6_isValid_11 (by decide) ?_
    exact hret (1 : Int32) 15 ls H locs rfl dX6_isValid_15 hP hD hS h
def fX6_isDone (fN : Nat → Int32) : Option (Int32) :=
  if (fN 5) = (1 : Int32) then
    if (fN 6) = (1 : Int32) then
      some (1 : Int32)
    else
      some (0 : Int32)
  else
    some (0 : Int32)
abbrev rX6_isDone : Room := { frames := 0, cells := 0, slots := 0, locals := 0 }
set_option maxHeartbeats 4000000 in
set_option maxRecDepth 100000 in
theorem tX6_isDone {l : Launch} {D : va_G} {cI cZ cP : ClassId} (aM mN mkd mks mcd mpr msk mow mmi mst mbi msu mke mik : Nat) (vka : Int32) (viw : Int32) (fN : Nat → Int32) (r : Int32) (h : fX6_isDone fN = some r) : CtI l D cI cZ cP yX6_isDone wsX6_isDone rX6_isDone [.ref aM] [(aM, .inr (6, [.ref mN, .ref mkd, .ref mks, .ref mcd, .ref mpr, .ref msk, .ref mow, .ref mmi, .ref mst, .ref mbi, .ref msu, .ref mke, .ref mik, .int vka, .int viw])), (mN, .inl (cI, 9, .inl fN))] (fun _ : Unit => [(aM, .inr (6, [.ref mN, .ref mkd, .ref mks, .ref mcd, .ref mpr, .ref msk, .ref mow, .ref mmi, .ref mst, .ref mbi, .ref msu, .ref mke, .ref mik, .int vka, .int viw])), (mN, .inl (cI, 9, .inl fN))]) r := by
  refine CtI.ofW (cc := cX6_isDone) (maxL := 1) (by decide) rfl (Nat.le_of_ble_eq_true rfl) (lv := [(0, .ref aM)]) rfl ?_
  intro p e s m args below meth c A Q ls hx hb hml hown hts hK hN hP hD hS hA hl hret0
  have hown : s.vm.findClass RX6 = some m.cls := hown
  have i6 : ∀ w ∈ wsX60, w ∈ wsX6_isDone := mem_ps [2, 3, 4, 5, 6, 7, 8, 9, 10, 11, 12, 13, 14, 15, 16] rfl
  have hret : ∀ (v : Int32) (pc : Nat) (ls : Array Slot) (H : Heap) (locs : List Loc), narrow .boolean (.int v) = .int v → decode cX6_isDone pc = .ok (.ireturn, 1) → va_P D vwCl [(aM, .inr (6, [.ref mN, .ref mkd, .ref mks, .ref mcd, .ref mpr, .ref msk, .ref mow, .ref mmi, .ref mst, .ref mbi, .ref msu, .ref mke, .ref mik, .int vka, .int viw])), (mN, .inl (cI, 9, .inl fN))] H → va_D A [(aM, .inr (6, [.ref mN, .ref mkd, .ref mks, .ref mcd, .ref mpr, .ref msk, .ref mow, .ref mmi, .ref mst, .ref mbi, .ref msu, .ref mke, .ref mik, .int vka, .int viw])), (mN, .inl (cI, 9, .inl fN))] → va_S A s.heap H locs → some v = some r → W p l e rX6_isDone s m args below meth c H locs 0 0 Q (F0 m pc ls [.int v]) := by
    intro v pc ls H locs hn hd hP hD hS h
    cases h
    exact hret0 pc ls H locs () hn hd hP hD hS
  clear hret0
  unfold fX6_isDone at h
  obtain ⟨H, hH⟩ : ∃ H, H = s.heap := ⟨_, rfl⟩
  have hP : va_P D vwCl [(aM, .inr (6, [.ref mN, .ref mkd, .ref mks, .ref mcd, .ref mpr, .ref msk, .ref mow, .ref mmi, .ref mst, .ref mbi, .ref msu, .ref mke, .ref mik, .int vka, .int viw])), (mN, .inl (cI, 9, .inl fN))] H := by rw [hH]; exact hP
  obtain ⟨locs, hlocs⟩ : ∃ x : List Loc, x = [] := ⟨_, rfl⟩
  have hS : va_S A s.heap H locs := by rw [hH, hlocs]; exact hS
  suffices hgo : W p l e rX6_isDone s m args below meth c H locs 0 0 Q (F0 m 0 ls []) by rw [hH, hlocs] at hgo; exact hgo
  refine lv_aload_n hx hb dX6_isDone_0 rfl (lv_at hl 0 rfl) ?_
  refine va_get (D := D) (ci := 6) (v := .ref mN) (C := RX6) (T := TX6) (N := 15) hx hb hts i6 hown hK hP 0 rfl rfl 0 (by decide) (hts (.fieldLink RX6 7 RX6 "now" "[I") (List.mem_of_getElem? (i := 1) rfl)) (fun _ h9 => h9) rfl dX6_isDone_1 ?_
  refine lv_iconst (v := (5 : Int32)) hx hb dX6_isDone_4 (by decide) ?_
  refine fr_iald (j := 5) hx hb hK hP 1 0 rfl rfl (by decide) (vin_of 5 9 (5 : Int32) (by decide) (by decide) (by decide)) dX6_isDone_5 ?_
  refine lv_iconst (v := (1 : Int32)) hx hb dX6_isDone_6 (by decide) ?_
  refine lv_icmp_ne (tgt := 25) hx hb dX6_isDone_7 (by decide) (fun c1 => ?_) (fun c1 => ?_)
  · have h := (if_neg c1).symm.trans h
    refine lv_iconst (v := (0 : Int32)) hx hb dX6_isDone_25 (by decide) ?_
    exact hret (0 : Int32) 26 ls H locs rfl dX6_isDone_26 hP hD hS h
  · have h := (if_pos c1).symm.trans h
    refine lv_aload_n hx hb dX6_isDone_10 rfl (lv_at hl 0 rfl) ?_
    refine va_get (D := D) (ci := 6) (v := .ref mN) (C := RX6) (T := TX6) (N := 15) hx hb hts i6 hown hK hP 0 rfl rfl 0 (by decide) (hts (.fieldLink RX6 7 RX6 "now" "[I") (List.mem_of_getElem? (i := 1) rfl)) (fun _ h9 => h9) rfl dX6_isDone_11 ?_
    refine lv_bipush (v := (6 : Int32)) hx hb dX6_isDone_14 (by decide) ?_
    refine fr_iald (j := 6) hx hb hK hP 1 0 rfl rfl (by decide) (vin_of 6 9 (6 : Int32) (by decide) (by decide) (by decide)) dX6_isDone_16 ?_
    refine lv_iconst (v := (1 : Int32)) hx hb dX6_isDone_17 (by decide) ?_
    refine lv_icmp_ne (tgt := 25) hx hb dX6_isDone_18 (by decide) (fun c2 => ?_) (fun c2 => ?_)
    · have h := (if_neg c2).symm.trans h
      refine lv_iconst (v := (0 : Int32)) hx hb dX6_isDone_25 (by decide) ?_
      exact hret (0 : Int32) 26 ls H locs rfl dX6_isDone_26 hP hD hS h
    · have h := (if_pos c2).symm.trans h
      refine lv_iconst (v := (1 : Int32)) hx hb dX6_isDone_21 (by decide) ?_
      refine lv_goto (tgt := 26) hx hb dX6_isDone_22 (by decide) ?_
      exact hret (1 : Int32) 26 ls H locs rfl dX6_isDone_26 hP hD hS h
def fX6_end (fN : Nat → Int32) : Option ((Nat → Int32)) :=
  some (upd (upd (upd (upd fN 5 (0 : Int32)) 6 (0 : Int32)) 7 (0 : Int32)) 8 (0 : Int32))
abbrev rX6_end : Room := { frames := 0, cells := 0, slots := 0, locals := 0 }
set_option maxHeartbeats 4000000 in
set_option maxRecDepth 100000 in
theorem tX6_end {l : Launch} {D : va_G} {cI cZ cP : ClassId} (aM mN mkd mks mcd mpr msk mow mmi mst mbi msu mke mik : Nat) (vka : Int32) (viw : Int32) (fN : Nat → Int32) (oN : Nat → Int32) (h : fX6_end fN = some oN) : CtV l D cI cZ cP yX6_end wsX6_end rX6_end [.ref aM] [(aM, .inr (6, [.ref mN, .ref mkd, .ref mks, .ref mcd, .ref mpr, .ref msk, .ref mow, .ref mmi, .ref mst, .ref mbi, .ref msu, .ref mke, .ref mik, .int vka, .int viw])), (mN, .inl (cI, 9, .inl fN))] (fun _ : Unit => [(aM, .inr (6, [.ref mN, .ref mkd, .ref mks, .ref mcd, .ref mpr, .ref msk, .ref mow, .ref mmi, .ref mst, .ref mbi, .ref msu, .ref mke, .ref mik, .int vka, .int viw])), (mN, .inl (cI, 9, .inl oN))]) := by
  refine CtV.ofW (cc := cX6_end) (maxL := 1) (by decide) rfl (Nat.le_of_ble_eq_true rfl) (lv := [(0, .ref aM)]) rfl ?_
  intro p e s m args below meth c A Q ls hx hb hml hown hts hK hN hP hD hS hA hl hin hret0
  have hown : s.vm.findClass RX6 = some m.cls := hown
  have i6 : ∀ w ∈ wsX60, w ∈ wsX6_end := mem_ps [2, 3, 4, 5, 6, 7, 8, 9, 10, 11, 12, 13, 14, 15, 16] rfl
  have hret : ∀ (zN : Nat → Int32) (pc : Nat) (ls : Array Slot) (H : Heap) (locs : List Loc), decode cX6_end pc = .ok (.return_, 1) → va_P D vwCl [(aM, .inr (6, [.ref mN, .ref mkd, .ref mks, .ref mcd, .ref mpr, .ref msk, .ref mow, .ref mmi, .ref mst, .ref mbi, .ref msu, .ref mke, .ref mik, .int vka, .int viw])), (mN, .inl (cI, 9, .inl zN))] H → va_D A [(aM, .inr (6, [.ref mN, .ref mkd, .ref mks, .ref mcd, .ref mpr, .ref msk, .ref mow, .ref mmi, .ref mst, .ref mbi, .ref msu, .ref mke, .ref mik, .int vka, .int viw])), (mN, .inl (cI, 9, .inl zN))] → va_S A s.heap H locs → some zN = some oN → W p l e rX6_end s m args below meth c H locs 0 0 Q (F0 m pc ls []) := by
    intro zN pc ls H locs hd hP hD hS h
    cases h
    exact hret0 pc ls H locs () hd hP hD hS
  clear hret0
  unfold fX6_end at h
  obtain ⟨H, hH⟩ : ∃ H, H = s.heap := ⟨_, rfl⟩
  have hP : va_P D vwCl [(aM, .inr (6, [.ref mN, .ref mkd, .ref mks, .ref mcd, .ref mpr, .ref msk, .ref mow, .ref mmi, .ref mst, .ref mbi, .ref msu, .ref mke, .ref mik, .int vka, .int viw])), (mN, .inl (cI, 9, .inl fN))] H := by rw [hH]; exact hP
  obtain ⟨locs, hlocs⟩ : ∃ x : List Loc, x = [] := ⟨_, rfl⟩
  have hS : va_S A s.heap H locs := by rw [hH, hlocs]; exact hS
  suffices hgo : W p l e rX6_end s m args below meth c H locs 0 0 Q (F0 m 0 ls []) by rw [hH, hlocs] at hgo; exact hgo
  refine lv_aload_n hx hb dX6_end_0 rfl (lv_at hl 0 rfl) ?_
  refine va_get (D := D) (ci := 6) (v := .ref mN) (C := RX6) (T := TX6) (N := 15) hx hb hts i6 hown hK hP 0 rfl rfl 0 (by decide) (hts (.fieldLink RX6 7 RX6 "now" "[I") (List.mem_of_getElem? (i := 1) rfl)) (fun _ h9 => h9) rfl dX6_end_1 ?_
  refine lv_iconst (v := (5 : Int32)) hx hb dX6_end_4 (by decide) ?_
  refine lv_iconst (v := (0 : Int32)) hx hb dX6_end_5 (by decide) ?_
  refine fr_iast (j := 5) hx hb hK hP hD hS 1 0 rfl rfl (by decide) (vin_of 5 9 (5 : Int32) (by decide) (by decide) (by decide)) dX6_end_6 (fun H locs hP hD hS => ?_)
  have hP : va_P D vwCl [(aM, .inr (6, [.ref mN, .ref mkd, .ref mks, .ref mcd, .ref mpr, .ref msk, .ref mow, .ref mmi, .ref mst, .ref mbi, .ref msu, .ref mke, .ref mik, .int vka, .int viw])), (mN, .inl (cI, 9, .inl (upd fN 5 (0 : Int32))))] H := hP
  have hD : va_D A [(aM, .inr (6, [.ref mN, .ref mkd, .ref mks, .ref mcd, .ref mpr, .ref msk, .ref mow, .ref mmi, .ref mst, .ref mbi, .ref msu, .ref mke, .ref mik, .int vka, .int viw])), (mN, .inl (cI, 9, .inl (upd fN 5 (0 : Int32))))] := hD
  refine lv_aload_n hx hb dX6_end_7 rfl (lv_at hl 0 rfl) ?_
  refine va_get (D := D) (ci := 6) (v := .ref mN) (C := RX6) (T := TX6) (N := 15) hx hb hts i6 hown hK hP 0 rfl rfl 0 (by decide) (hts (.fieldLink RX6 7 RX6 "now" "[I") (List.mem_of_getElem? (i := 1) rfl)) (fun _ h9 => h9) rfl dX6_end_8 ?_
  refine lv_bipush (v := (6 : Int32)) hx hb dX6_end_11 (by decide) ?_
  refine lv_iconst (v := (0 : Int32)) hx hb dX6_end_13 (by decide) ?_
  refine fr_iast (j := 6) hx hb hK hP hD hS 1 0 rfl rfl (by decide) (vin_of 6 9 (6 : Int32) (by decide) (by decide) (by decide)) dX6_end_14 (fun H locs hP hD hS => ?_)
  have hP : va_P D vwCl [(aM, .inr (6, [.ref mN, .ref mkd, .ref mks, .ref mcd, .ref mpr, .ref msk, .ref mow, .ref mmi, .ref mst, .ref mbi, .ref msu, .ref mke, .ref mik, .int vka, .int viw])), (mN, .inl (cI, 9, .inl (upd (upd fN 5 (0 : Int32)) 6 (0 : Int32))))] H := hP
  have hD : va_D A [(aM, .inr (6, [.ref mN, .ref mkd, .ref mks, .ref mcd, .ref mpr, .ref msk, .ref mow, .ref mmi, .ref mst, .ref mbi, .ref msu, .ref mke, .ref mik, .int vka, .int viw])), (mN, .inl (cI, 9, .inl (upd (upd fN 5 (0 : Int32)) 6 (0 : Int32))))] := hD
  refine lv_aload_n hx hb dX6_end_15 rfl (lv_at hl 0 rfl) ?_
  refine va_get (D := D) (ci := 6) (v := .ref mN) (C := RX6) (T := TX6) (N := 15) hx hb hts i6 hown hK hP 0 rfl rfl 0 (by decide) (hts (.fieldLink RX6 7 RX6 "now" "[I") (List.mem_of_getElem? (i := 1) rfl)) (fun _ h9 => h9) rfl dX6_end_16 ?_
  refine lv_bipush (v := (7 : Int32)) hx hb dX6_end_19 (by decide) ?_
  refine lv_iconst (v := (0 : Int32)) hx hb dX6_end_21 (by decide) ?_
  refine fr_iast (j := 7) hx hb hK hP hD hS 1 0 rfl rfl (by decide) (vin_of 7 9 (7 : Int32) (by decide) (by decide) (by decide)) dX6_end_22 (fun H locs hP hD hS => ?_)
  have hP : va_P D vwCl [(aM, .inr (6, [.ref mN, .ref mkd, .ref mks, .ref mcd, .ref mpr, .ref msk, .ref mow, .ref mmi, .ref mst, .ref mbi, .ref msu, .ref mke, .ref mik, .int vka, .int viw])), (mN, .inl (cI, 9, .inl (upd (upd (upd fN 5 (0 : Int32)) 6 (0 : Int32)) 7 (0 : Int32))))] H := hP
  have hD : va_D A [(aM, .inr (6, [.ref mN, .ref mkd, .ref mks, .ref mcd, .ref mpr, .ref msk, .ref mow, .ref mmi, .ref mst, .ref mbi, .ref msu, .ref mke, .ref mik, .int vka, .int viw])), (mN, .inl (cI, 9, .inl (upd (upd (upd fN 5 (0 : Int32)) 6 (0 : Int32)) 7 (0 : Int32))))] := hD
  refine lv_aload_n hx hb dX6_end_23 rfl (lv_at hl 0 rfl) ?_
  refine va_get (D := D) (ci := 6) (v := .ref mN) (C := RX6) (T := TX6) (N := 15) hx hb hts i6 hown hK hP 0 rfl rfl 0 (by decide) (hts (.fieldLink RX6 7 RX6 "now" "[I") (List.mem_of_getElem? (i := 1) rfl)) (fun _ h9 => h9) rfl dX6_end_24 ?_
  refine lv_bipush (v := (8 : Int32)) hx hb dX6_end_27 (by decide) ?_
  refine lv_iconst (v := (0 : Int32)) hx hb dX6_end_29 (by decide) ?_
  refine fr_iast (j := 8) hx hb hK hP hD hS 1 0 rfl rfl (by decide) (vin_of 8 9 (8 : Int32) (by decide) (by decide) (by decide)) dX6_end_30 (fun H locs hP hD hS => ?_)
  have hP : va_P D vwCl [(aM, .inr (6, [.ref mN, .ref mkd, .ref mks, .ref mcd, .ref mpr, .ref msk, .ref mow, .ref mmi, .ref mst, .ref mbi, .ref msu, .ref mke, .ref mik, .int vka, .int viw])), (mN, .inl (cI, 9, .inl (upd (upd (upd (upd fN 5 (0 : Int32)) 6 (0 : Int32)) 7 (0 : Int32)) 8 (0 : Int32))))] H := hP
  have hD : va_D A [(aM, .inr (6, [.ref mN, .ref mkd, .ref mks, .ref mcd, .ref mpr, .ref msk, .ref mow, .ref mmi, .ref mst, .ref mbi, .ref msu, .ref mke, .ref mik, .int vka, .int viw])), (mN, .inl (cI, 9, .inl (upd (upd (upd (upd fN 5 (0 : Int32)) 6 (0 : Int32)) 7 (0 : Int32)) 8 (0 : Int32))))] := hD
  exact hret (upd (upd (upd (upd fN 5 (0 : Int32)) 6 (0 : Int32)) 7 (0 : Int32)) 8 (0 : Int32)) 31 ls H locs dX6_end_31 hP hD hS h
def fX6_mode (fN : Nat → Int32) (x1 : Int32) : Option (Int32 × (Nat → Int32)) :=
  bd1 (fX6_in x1.toInt64 (0 : Int64) (1 : Int64)) fun r_4 =>
  if r_4 = 0 then
    some ((-2 : Int32), fN)
  else
    bdv (fN 0) fun x2_19 =>
    if x1 = x2_19 then
      some (x2_19, upd fN 0 x1)
    else
      bd1 (fX6_end (upd fN 0 x1)) fun fN_33 =>
      some (x2_19, fN_33)
abbrev rX6_mode : Room := { frames := 1, cells := 0, slots := 0, locals := 25 }
set_option maxHeartbeats 4000000 in
set_option maxRecDepth 100000 in
theorem tX6_mode {l : Launch} {D : va_G} {cI cZ cP : ClassId} (aM mN mkd mks mcd mpr msk mow mmi mst mbi msu mke mik : Nat) (vka : Int32) (viw : Int32) (fN : Nat → Int32) (fkd : Nat → Int32) (fks : Nat → Int32) (fcd : Nat → Int32) (fpr : Nat → Int32) (fsk : Nat → Int32) (fow : Nat → Int32) (fmi : Nat → Int32) (fst : Nat → Int32) (fbi : Nat → Int32) (fsu : Nat → Int32) (fke : Nat → Int32) (fik : Nat → Int32) (x1 : Int32) (r : Int32) (oN : Nat → Int32) (h : fX6_mode fN x1 = some (r, oN)) : CtI l D cI cZ cP yX6_mode wsX6_mode rX6_mode [.ref aM, .int x1] [(aM, .inr (6, [.ref mN, .ref mkd, .ref mks, .ref mcd, .ref mpr, .ref msk, .ref mow, .ref mmi, .ref mst, .ref mbi, .ref msu, .ref mke, .ref mik, .int vka, .int viw])), (mN, .inl (cI, 9, .inl fN)), (mkd, .inl (cI, 8, .inl fkd)), (mks, .inl (cI, 8, .inl fks)), (mcd, .inl (cI, 12, .inl fcd)), (mpr, .inl (cI, 16, .inl fpr)), (msk, .inl (cI, 16, .inl fsk)), (mow, .inl (cI, 16, .inl fow)), (mmi, .inl (cI, 16, .inl fmi)), (mst, .inl (cI, 16, .inl fst)), (mbi, .inl (cI, 16, .inl fbi)), (msu, .inl (cI, 16, .inl fsu)), (mke, .inl (cI, 298, .inl fke)), (mik, .inl (cZ, 2, .inl fik))] (fun _ : Unit => [(aM, .inr (6, [.ref mN, .ref mkd, .ref mks, .ref mcd, .ref mpr, .ref msk, .ref mow, .ref mmi, .ref mst, .ref mbi, .ref msu, .ref mke, .ref mik, .int vka, .int viw])), (mN, .inl (cI, 9, .inl oN)), (mkd, .inl (cI, 8, .inl fkd)), (mks, .inl (cI, 8, .inl fks)), (mcd, .inl (cI, 12, .inl fcd)), (mpr, .inl (cI, 16, .inl fpr)), (msk, .inl (cI, 16, .inl fsk)), (mow, .inl (cI, 16, .inl fow)), (mmi, .inl (cI, 16, .inl fmi)), (mst, .inl (cI, 16, .inl fst)), (mbi, .inl (cI, 16, .inl fbi)), (msu, .inl (cI, 16, .inl fsu)), (mke, .inl (cI, 298, .inl fke)), (mik, .inl (cZ, 2, .inl fik))]) r := by
  refine CtI.ofW (cc := cX6_mode) (maxL := 3) (by decide) rfl (Nat.le_of_ble_eq_true rfl) (lv := [(0, .ref aM), (1, .int x1)]) rfl ?_
  intro p e s m args below meth c A Q ls hx hb hml hown hts hK hN hP hD hS hA hl hret0
  have hown : s.vm.findClass RX6 = some m.cls := hown
  have i6 : ∀ w ∈ wsX60, w ∈ wsX6_mode := mem_ps [10, 11, 12, 13, 14, 15, 16, 17, 18, 19, 20, 21, 22, 23, 24] rfl
  have hret : ∀ (v : Int32) (zN : Nat → Int32) (pc : Nat) (ls : Array Slot) (H : Heap) (locs : List Loc), narrow .int (.int v) = .int v → decode cX6_mode pc = .ok (.ireturn, 1) → va_P D vwCl [(aM, .inr (6, [.ref mN, .ref mkd, .ref mks, .ref mcd, .ref mpr, .ref msk, .ref mow, .ref mmi, .ref mst, .ref mbi, .ref msu, .ref mke, .ref mik, .int vka, .int viw])), (mN, .inl (cI, 9, .inl zN)), (mkd, .inl (cI, 8, .inl fkd)), (mks, .inl (cI, 8, .inl fks)), (mcd, .inl (cI, 12, .inl fcd)), (mpr, .inl (cI, 16, .inl fpr)), (msk, .inl (cI, 16, .inl fsk)), (mow, .inl (cI, 16, .inl fow)), (mmi, .inl (cI, 16, .inl fmi)), (mst, .inl (cI, 16, .inl fst)), (mbi, .inl (cI, 16, .inl fbi)), (msu, .inl (cI, 16, .inl fsu)), (mke, .inl (cI, 298, .inl fke)), (mik, .inl (cZ, 2, .inl fik))] H → va_D A [(aM, .inr (6, [.ref mN, .ref mkd, .ref mks, .ref mcd, .ref mpr, .ref msk, .ref mow, .ref mmi, .ref mst, .ref mbi, .ref msu, .ref mke, .ref mik, .int vka, .int viw])), (mN, .inl (cI, 9, .inl zN)), (mkd, .inl (cI, 8, .inl fkd)), (mks, .inl (cI, 8, .inl fks)), (mcd, .inl (cI, 12, .inl fcd)), (mpr, .inl (cI, 16, .inl fpr)), (msk, .inl (cI, 16, .inl fsk)), (mow, .inl (cI, 16, .inl fow)), (mmi, .inl (cI, 16, .inl fmi)), (mst, .inl (cI, 16, .inl fst)), (mbi, .inl (cI, 16, .inl fbi)), (msu, .inl (cI, 16, .inl fsu)), (mke, .inl (cI, 298, .inl fke)), (mik, .inl (cZ, 2, .inl fik))] → va_S A s.heap H locs → some (v, zN) = some (r, oN) → W p l e rX6_mode s m args below meth c H locs 0 0 Q (F0 m pc ls [.int v]) := by
    intro v zN pc ls H locs hn hd hP hD hS h
    cases h
    exact hret0 pc ls H locs () hn hd hP hD hS
  clear hret0
  unfold fX6_mode at h
  obtain ⟨H, hH⟩ : ∃ H, H = s.heap := ⟨_, rfl⟩
  have hP : va_P D vwCl [(aM, .inr (6, [.ref mN, .ref mkd, .ref mks, .ref mcd, .ref mpr, .ref msk, .ref mow, .ref mmi, .ref mst, .ref mbi, .ref msu, .ref mke, .ref mik, .int vka, .int viw])), (mN, .inl (cI, 9, .inl fN)), (mkd, .inl (cI, 8, .inl fkd)), (mks, .inl (cI, 8, .inl fks)), (mcd, .inl (cI, 12, .inl fcd)), (mpr, .inl (cI, 16, .inl fpr)), (msk, .inl (cI, 16, .inl fsk)), (mow, .inl (cI, 16, .inl fow)), (mmi, .inl (cI, 16, .inl fmi)), (mst, .inl (cI, 16, .inl fst)), (mbi, .inl (cI, 16, .inl fbi)), (msu, .inl (cI, 16, .inl fsu)), (mke, .inl (cI, 298, .inl fke)), (mik, .inl (cZ, 2, .inl fik))] H := by rw [hH]; exact hP
  obtain ⟨locs, hlocs⟩ : ∃ x : List Loc, x = [] := ⟨_, rfl⟩
  have hS : va_S A s.heap H locs := by rw [hH, hlocs]; exact hS
  suffices hgo : W p l e rX6_mode s m args below meth c H locs 0 0 Q (F0 m 0 ls []) by rw [hH, hlocs] at hgo; exact hgo
  refine lv_iload_n hx hb dX6_mode_0 rfl (lv_at hl 1 rfl) ?_
  refine lv_i2l (v := x1.toInt64) hx hb dX6_mode_1 rfl ?_
  refine lv_lconst (v := (0 : Int64)) hx hb dX6_mode_2 (by decide) ?_
  refine lv_lconst (v := (1 : Int64)) hx hb dX6_mode_3 (by decide) ?_
  obtain ⟨r_4, q_4, h⟩ := bd1_some h
  refine fr_ro_i (S := Unit) (wc := []) (fr_S (As := [.long x1.toInt64, .long (0 : Int64), .long (1 : Int64)]) (rest := []) ⟨hx, hb, hml, hown, hts⟩ (tX6_in x1.toInt64 (0 : Int64) (1 : Int64) r_4 q_4) gX6_mode_X6_in rfl (fr_pre (As := [.long x1.toInt64, .long (0 : Int64), .long (1 : Int64)]) (wc := []) hK hN hP hD [] (by decide) rfl) (n := 3) (by decide +kernel) ⟨Nat.le_of_ble_eq_true rfl, Nat.le_of_ble_eq_true rfl⟩ rfl hl.1 rfl (Nat.le_of_ble_eq_true rfl) dX6_mode_4 ⟨Nat.zero_le _, Nat.zero_le _⟩) hP hD hS hA [] rfl (c2 := 0) (s2 := 0) rfl rfl (fun H locs hP hS => ?_)
  refine lv_if_ne (tgt := 13) hx hb dX6_mode_7 (by decide) (fun c1 => ?_) (fun c1 => ?_)
  · have h := (if_neg c1).symm.trans h
    refine lv_aload_n hx hb dX6_mode_13 rfl (lv_at hl 0 rfl) ?_
    refine va_get (D := D) (ci := 6) (v := .ref mN) (C := RX6) (T := TX6) (N := 15) hx hb hts i6 hown hK hP 0 rfl rfl 0 (by decide) (hts (.fieldLink RX6 7 RX6 "now" "[I") (List.mem_of_getElem? (i := 1) rfl)) (fun _ h9 => h9) rfl dX6_mode_14 ?_
    refine lv_iconst (v := (0 : Int32)) hx hb dX6_mode_17 (by decide) ?_
    refine fr_iald (j := 0) hx hb hK hP 1 0 rfl rfl (by decide) (vin_of 0 9 (0 : Int32) (by decide) (by decide) (by decide)) dX6_mode_18 ?_
    refine lv_topi (fun x2_19 ex2_19 => ?_)
    have h := bdv_some ex2_19 h
    refine lv_istore_n (lv' := [(2, .int x2_19), (0, .ref aM), (1, .int x1)]) hx hb dX6_mode_19 rfl hl (by decide) rfl (fun ls hl => ?_)
    refine lv_aload_n hx hb dX6_mode_20 rfl (lv_at hl 1 rfl) ?_
    refine va_get (D := D) (ci := 6) (v := .ref mN) (C := RX6) (T := TX6) (N := 15) hx hb hts i6 hown hK hP 0 rfl rfl 0 (by decide) (hts (.fieldLink RX6 7 RX6 "now" "[I") (List.mem_of_getElem? (i := 1) rfl)) (fun _ h9 => h9) rfl dX6_mode_21 ?_
    refine lv_iconst (v := (0 : Int32)) hx hb dX6_mode_24 (by decide) ?_
    refine lv_iload_n hx hb dX6_mode_25 rfl (lv_at hl 2 rfl) ?_
    refine fr_iast (j := 0) hx hb hK hP hD hS 1 0 rfl rfl (by decide) (vin_of 0 9 (0 : Int32) (by decide) (by decide) (by decide)) dX6_mode_26 (fun H locs hP hD hS => ?_)
    have hP : va_P D vwCl [(aM, .inr (6, [.ref mN, .ref mkd, .ref mks, .ref mcd, .ref mpr, .ref msk, .ref mow, .ref mmi, .ref mst, .ref mbi, .ref msu, .ref mke, .ref mik, .int vka, .int viw])), (mN, .inl (cI, 9, .inl (upd fN 0 x1))), (mkd, .inl (cI, 8, .inl fkd)), (mks, .inl (cI, 8, .inl fks)), (mcd, .inl (cI, 12, .inl fcd)), (mpr, .inl (cI, 16, .inl fpr)), (msk, .inl (cI, 16, .inl fsk)), (mow, .inl (cI, 16, .inl fow)), (mmi, .inl (cI, 16, .inl fmi)), (mst, .inl (cI, 16, .inl fst)), (mbi, .inl (cI, 16, .inl fbi)), (msu, .inl (cI, 16, .inl fsu)), (mke, .inl (cI, 298, .inl fke)), (mik, .inl (cZ, 2, .inl fik))] H := hP
    have hD : va_D A [(aM, .inr (6, [.ref mN, .ref mkd, .ref mks, .ref mcd, .ref mpr, .ref msk, .ref mow, .ref mmi, .ref mst, .ref mbi, .ref msu, .ref mke, .ref mik, .int vka, .int viw])), (mN, .inl (cI, 9, .inl (upd fN 0 x1))), (mkd, .inl (cI, 8, .inl fkd)), (mks, .inl (cI, 8, .inl fks)), (mcd, .inl (cI, 12, .inl fcd)), (mpr, .inl (cI, 16, .inl fpr)), (msk, .inl (cI, 16, .inl fsk)), (mow, .inl (cI, 16, .inl fow)), (mmi, .inl (cI, 16, .inl fmi)), (mst, .inl (cI, 16, .inl fst)), (mbi, .inl (cI, 16, .inl fbi)), (msu, .inl (cI, 16, .inl fsu)), (mke, .inl (cI, 298, .inl fke)), (mik, .inl (cZ, 2, .inl fik))] := hD
    refine lv_iload_n hx hb dX6_mode_27 rfl (lv_at hl 2 rfl) ?_
    refine lv_iload_n hx hb dX6_mode_28 rfl (lv_at hl 0 rfl) ?_
    refine lv_icmp_eq (tgt := 36) hx hb dX6_mode_29 (by decide) (fun c2 => ?_) (fun c2 => ?_)
    · have h := (if_pos c2).symm.trans h
      refine lv_iload_n hx hb dX6_mode_36 rfl (lv_at hl 0 rfl) ?_
      exact hret x2_19 (upd fN 0 x1) 37 ls H locs rfl dX6_mode_37 hP hD hS h
    · have h := (if_neg c2).symm.trans h
      refine lv_aload_n hx hb dX6_mode_32 rfl (lv_at hl 1 rfl) ?_
      obtain ⟨fN_33, q_33, h⟩ := bd1_some h
      refine fr_rw_v (S := Unit) (wc := [(aM, .inr (6, [.ref mN, .ref mkd, .ref mks, .ref mcd, .ref mpr, .ref msk, .ref mow, .ref mmi, .ref mst, .ref mbi, .ref msu, .ref mke, .ref mik, .int vka, .int viw])), (mN, .inl (cI, 9, .inl (upd fN 0 x1)))]) (wc' := fun _ => [(aM, .inr (6, [.ref mN, .ref mkd, .ref mks, .ref mcd, .ref mpr, .ref msk, .ref mow, .ref mmi, .ref mst, .ref mbi, .ref msu, .ref mke, .ref mik, .int vka, .int viw])), (mN, .inl (cI, 9, .inl fN_33))]) (wr := [(mkd, .inl (cI, 8, .inl fkd)), (mks, .inl (cI, 8, .inl fks)), (mcd, .inl (cI, 12, .inl fcd)), (mpr, .inl (cI, 16, .inl fpr)), (msk, .inl (cI, 16, .inl fsk)), (mow, .inl (cI, 16, .inl fow)), (mmi, .inl (cI, 16, .inl fmi)), (mst, .inl (cI, 16, .inl fst)), (mbi, .inl (cI, 16, .inl fbi)), (msu, .inl (cI, 16, .inl fsu)), (mke, .inl (cI, 298, .inl fke)), (mik, .inl (cZ, 2, .inl fik))]) (w2 := fun _ => [(aM, .inr (6, [.ref mN, .ref mkd, .ref mks, .ref mcd, .ref mpr, .ref msk, .ref mow, .ref mmi, .ref mst, .ref mbi, .ref msu, .ref mke, .ref mik, .int vka, .int viw])), (mN, .inl (cI, 9, .inl fN_33)), (mkd, .inl (cI, 8, .inl fkd)), (mks, .inl (cI, 8, .inl fks)), (mcd, .inl (cI, 12, .inl fcd)), (mpr, .inl (cI, 16, .inl fpr)), (msk, .inl (cI, 16, .inl fsk)), (mow, .inl (cI, 16, .inl fow)), (mmi, .inl (cI, 16, .inl fmi)), (mst, .inl (cI, 16, .inl fst)), (mbi, .inl (cI, 16, .inl fbi)), (msu, .inl (cI, 16, .inl fsu)), (mke, .inl (cI, 298, .inl fke)), (mik, .inl (cZ, 2, .inl fik))]) (fr_Vv (As := []) (rest := []) (C := RX6) ⟨hx, hb, hml, hown, hts⟩ (tX6_end aM mN mkd mks mcd mpr msk mow mmi mst mbi msu mke mik vka viw (upd fN 0 x1) fN_33 q_33) gX6_mode_X6_end rfl (fr_preV (As := []) (b := aM) (ci := 6) (q0 := 0) (wc := [(aM, .inr (6, [.ref mN, .ref mkd, .ref mks, .ref mcd, .ref mpr, .ref msk, .ref mow, .ref mmi, .ref mst, .ref mbi, .ref msu, .ref mke, .ref mik, .int vka, .int viw])), (mN, .inl (cI, 9, .inl (upd fN 0 x1)))]) hK hN hP hD [0, 1] (by decide) rfl rfl rfl) (n := 0) (by decide +kernel) ⟨Nat.le_of_ble_eq_true rfl, Nat.le_of_ble_eq_true rfl⟩ rfl hl.1 rfl (Nat.le_of_ble_eq_true rfl) dX6_mode_33 ⟨Nat.zero_le _, Nat.zero_le _⟩) hP hD hS hA [0, 1] [2, 3, 4, 5, 6, 7, 8, 9, 10, 11, 12, 13] [12, 13, 0, 1, 2, 3, 4, 5, 6, 7, 8, 9, 10, 11] rfl rfl (by decide) (by decide) (by decide) (fun _ => rfl) (c2 := 0) (s2 := 0) rfl rfl (fun _ H locs hP hD hS => ?_)
      refine lv_iload_n hx hb dX6_mode_36 rfl (lv_at hl 0 rfl) ?_
      exact hret x2_19 fN_33 37 ls H locs rfl dX6_mode_37 hP hD hS h
  · have h := (if_pos c1).symm.trans h
    refine lv_bipush (v := (-2 : Int32)) hx hb dX6_mode_10 (by decide) ?_
    exact hret (-2 : Int32) fN 12 ls H locs rfl dX6_mode_12 hP hD hS h
def fX6_shrink (fN : Nat → Int32) (x1 : Int32) : Option (Int32 × (Nat → Int32)) :=
  bd1 (fX6_in x1.toInt64 (2 : Int64) (9 : Int64)) fun r_8 =>
  if r_8 = 0 then
    some ((-2 : Int32), fN)
  else
    bdv (fN 1) fun x2_23 =>
    some (x2_23, upd fN 1 x1)
abbrev rX6_shrink : Room := { frames := 1, cells := 0, slots := 0, locals := 25 }
set_option maxHeartbeats 4000000 in
set_option maxRecDepth 100000 in
theorem tX6_shrink {l : Launch} {D : va_G} {cI cZ cP : ClassId} (aM mN mkd mks mcd mpr msk mow mmi mst mbi msu mke mik : Nat) (vka : Int32) (viw : Int32) (fN : Nat → Int32) (fkd : Nat → Int32) (fks : Nat → Int32) (fcd : Nat → Int32) (fpr : Nat → Int32) (fsk : Nat → Int32) (fow : Nat → Int32) (fmi : Nat → Int32) (fst : Nat → Int32) (fbi : Nat → Int32) (fsu : Nat → Int32) (fke : Nat → Int32) (fik : Nat → Int32) (x1 : Int32) (r : Int32) (oN : Nat → Int32) (h : fX6_shrink fN x1 = some (r, oN)) : CtI l D cI cZ cP yX6_shrink wsX6_shrink rX6_shrink [.ref aM, .int x1] [(aM, .inr (6, [.ref mN, .ref mkd, .ref mks, .ref mcd, .ref mpr, .ref msk, .ref mow, .ref mmi, .ref mst, .ref mbi, .ref msu, .ref mke, .ref mik, .int vka, .int viw])), (mN, .inl (cI, 9, .inl fN)), (mkd, .inl (cI, 8, .inl fkd)), (mks, .inl (cI, 8, .inl fks)), (mcd, .inl (cI, 12, .inl fcd)), (mpr, .inl (cI, 16, .inl fpr)), (msk, .inl (cI, 16, .inl fsk)), (mow, .inl (cI, 16, .inl fow)), (mmi, .inl (cI, 16, .inl fmi)), (mst, .inl (cI, 16, .inl fst)), (mbi, .inl (cI, 16, .inl fbi)), (msu, .inl (cI, 16, .inl fsu)), (mke, .inl (cI, 298, .inl fke)), (mik, .inl (cZ, 2, .inl fik))] (fun _ : Unit => [(aM, .inr (6, [.ref mN, .ref mkd, .ref mks, .ref mcd, .ref mpr, .ref msk, .ref mow, .ref mmi, .ref mst, .ref mbi, .ref msu, .ref mke, .ref mik, .int vka, .int viw])), (mN, .inl (cI, 9, .inl oN)), (mkd, .inl (cI, 8, .inl fkd)), (mks, .inl (cI, 8, .inl fks)), (mcd, .inl (cI, 12, .inl fcd)), (mpr, .inl (cI, 16, .inl fpr)), (msk, .inl (cI, 16, .inl fsk)), (mow, .inl (cI, 16, .inl fow)), (mmi, .inl (cI, 16, .inl fmi)), (mst, .inl (cI, 16, .inl fst)), (mbi, .inl (cI, 16, .inl fbi)), (msu, .inl (cI, 16, .inl fsu)), (mke, .inl (cI, 298, .inl fke)), (mik, .inl (cZ, 2, .inl fik))]) r := by
  refine CtI.ofW (cc := cX6_shrink) (maxL := 3) (by decide) rfl (Nat.le_of_ble_eq_true rfl) (lv := [(0, .ref aM), (1, .int x1)]) rfl ?_
  intro p e s m args below meth c A Q ls hx hb hml hown hts hK hN hP hD hS hA hl hret0
  have hown : s.vm.findClass RX6 = some m.cls := hown
  have i6 : ∀ w ∈ wsX60, w ∈ wsX6_shrink := mem_ps [8, 9, 10, 11, 12, 13, 14, 15, 16, 17, 18, 19, 20, 21, 22] rfl
  have hret : ∀ (v : Int32) (zN : Nat → Int32) (pc : Nat) (ls : Array Slot) (H : Heap) (locs : List Loc), narrow .int (.int v) = .int v → decode cX6_shrink pc = .ok (.ireturn, 1) → va_P D vwCl [(aM, .inr (6, [.ref mN, .ref mkd, .ref mks, .ref mcd, .ref mpr, .ref msk, .ref mow, .ref mmi, .ref mst, .ref mbi, .ref msu, .ref mke, .ref mik, .int vka, .int viw])), (mN, .inl (cI, 9, .inl zN)), (mkd, .inl (cI, 8, .inl fkd)), (mks, .inl (cI, 8, .inl fks)), (mcd, .inl (cI, 12, .inl fcd)), (mpr, .inl (cI, 16, .inl fpr)), (msk, .inl (cI, 16, .inl fsk)), (mow, .inl (cI, 16, .inl fow)), (mmi, .inl (cI, 16, .inl fmi)), (mst, .inl (cI, 16, .inl fst)), (mbi, .inl (cI, 16, .inl fbi)), (msu, .inl (cI, 16, .inl fsu)), (mke, .inl (cI, 298, .inl fke)), (mik, .inl (cZ, 2, .inl fik))] H → va_D A [(aM, .inr (6, [.ref mN, .ref mkd, .ref mks, .ref mcd, .ref mpr, .ref msk, .ref mow, .ref mmi, .ref mst, .ref mbi, .ref msu, .ref mke, .ref mik, .int vka, .int viw])), (mN, .inl (cI, 9, .inl zN)), (mkd, .inl (cI, 8, .inl fkd)), (mks, .inl (cI, 8, .inl fks)), (mcd, .inl (cI, 12, .inl fcd)), (mpr, .inl (cI, 16, .inl fpr)), (msk, .inl (cI, 16, .inl fsk)), (mow, .inl (cI, 16, .inl fow)), (mmi, .inl (cI, 16, .inl fmi)), (mst, .inl (cI, 16, .inl fst)), (mbi, .inl (cI, 16, .inl fbi)), (msu, .inl (cI, 16, .inl fsu)), (mke, .inl (cI, 298, .inl fke)), (mik, .inl (cZ, 2, .inl fik))] → va_S A s.heap H locs → some (v, zN) = some (r, oN) → W p l e rX6_shrink s m args below meth c H locs 0 0 Q (F0 m pc ls [.int v]) := by
    intro v zN pc ls H locs hn hd hP hD hS h
    cases h
    exact hret0 pc ls H locs () hn hd hP hD hS
  clear hret0
  unfold fX6_shrink at h
  obtain ⟨H, hH⟩ : ∃ H, H = s.heap := ⟨_, rfl⟩
  have hP : va_P D vwCl [(aM, .inr (6, [.ref mN, .ref mkd, .ref mks, .ref mcd, .ref mpr, .ref msk, .ref mow, .ref mmi, .ref mst, .ref mbi, .ref msu, .ref mke, .ref mik, .int vka, .int viw])), (mN, .inl (cI, 9, .inl fN)), (mkd, .inl (cI, 8, .inl fkd)), (mks, .inl (cI, 8, .inl fks)), (mcd, .inl (cI, 12, .inl fcd)), (mpr, .inl (cI, 16, .inl fpr)), (msk, .inl (cI, 16, .inl fsk)), (mow, .inl (cI, 16, .inl fow)), (mmi, .inl (cI, 16, .inl fmi)), (mst, .inl (cI, 16, .inl fst)), (mbi, .inl (cI, 16, .inl fbi)), (msu, .inl (cI, 16, .inl fsu)), (mke, .inl (cI, 298, .inl fke)), (mik, .inl (cZ, 2, .inl fik))] H := by rw [hH]; exact hP
  obtain ⟨locs, hlocs⟩ : ∃ x : List Loc, x = [] := ⟨_, rfl⟩
  have hS : va_S A s.heap H locs := by rw [hH, hlocs]; exact hS
  suffices hgo : W p l e rX6_shrink s m args below meth c H locs 0 0 Q (F0 m 0 ls []) by rw [hH, hlocs] at hgo; exact hgo
  refine lv_iload_n hx hb dX6_shrink_0 rfl (lv_at hl 1 rfl) ?_
  refine lv_i2l (v := x1.toInt64) hx hb dX6_shrink_1 rfl ?_
  refine lv_ldc2 (v := (2 : Int64)) hx hb hown (hts (.constantLong RX6 59 (2 : Int64)) (List.mem_of_getElem? (i := 1) rfl)) dX6_shrink_2 ?_
  refine lv_ldc2 (v := (9 : Int64)) hx hb hown (hts (.constantLong RX6 61 (9 : Int64)) (List.mem_of_getElem? (i := 2) rfl)) dX6_shrink_5 ?_
  obtain ⟨r_8, q_8, h⟩ := bd1_some h
  refine fr_ro_i (S := Unit) (wc := []) (fr_S (As := [.long x1.toInt64, .long (2 : Int64), .long (9 : Int64)]) (rest := []) ⟨hx, hb, hml, hown, hts⟩ (tX6_in x1.toInt64 (2 : Int64) (9 : Int64) r_8 q_8) gX6_shrink_X6_in rfl (fr_pre (As := [.long x1.toInt64, .long (2 : Int64), .long (9 : Int64)]) (wc := []) hK hN hP hD [] (by decide) rfl) (n := 3) (by decide +kernel) ⟨Nat.le_of_ble_eq_true rfl, Nat.le_of_ble_eq_true rfl⟩ rfl hl.1 rfl (Nat.le_of_ble_eq_true rfl) dX6_shrink_8 ⟨Nat.zero_le _, Nat.zero_le _⟩) hP hD hS hA [] rfl (c2 := 0) (s2 := 0) rfl rfl (fun H locs hP hS => ?_)
  refine lv_if_ne (tgt := 17) hx hb dX6_shrink_11 (by decide) (fun c1 => ?_) (fun c1 => ?_)
  · have h := (if_neg c1).symm.trans h
    refine lv_aload_n hx hb dX6_shrink_17 rfl (lv_at hl 0 rfl) ?_
    refine va_get (D := D) (ci := 6) (v := .ref mN) (C := RX6) (T := TX6) (N := 15) hx hb hts i6 hown hK hP 0 rfl rfl 0 (by decide) (hts (.fieldLink RX6 7 RX6 "now" "[I") (List.mem_of_getElem? (i := 3) rfl)) (fun _ h9 => h9) rfl dX6_shrink_18 ?_
    refine lv_iconst (v := (1 : Int32)) hx hb dX6_shrink_21 (by decide) ?_
    refine fr_iald (j := 1) hx hb hK hP 1 0 rfl rfl (by decide) (vin_of 1 9 (1 : Int32) (by decide) (by decide) (by decide)) dX6_shrink_22 ?_
    refine lv_topi (fun x2_23 ex2_23 => ?_)
    have h := bdv_some ex2_23 h
    refine lv_istore_n (lv' := [(2, .int x2_23), (0, .ref aM), (1, .int x1)]) hx hb dX6_shrink_23 rfl hl (by decide) rfl (fun ls hl => ?_)
    refine lv_aload_n hx hb dX6_shrink_24 rfl (lv_at hl 1 rfl) ?_
    refine va_get (D := D) (ci := 6) (v := .ref mN) (C := RX6) (T := TX6) (N := 15) hx hb hts i6 hown hK hP 0 rfl rfl 0 (by decide) (hts (.fieldLink RX6 7 RX6 "now" "[I") (List.mem_of_getElem? (i := 3) rfl)) (fun _ h9 => h9) rfl dX6_shrink_25 ?_
    refine lv_iconst (v := (1 : Int32)) hx hb dX6_shrink_28 (by decide) ?_
    refine lv_iload_n hx hb dX6_shrink_29 rfl (lv_at hl 2 rfl) ?_
    refine fr_iast (j := 1) hx hb hK hP hD hS 1 0 rfl rfl (by decide) (vin_of 1 9 (1 : Int32) (by decide) (by decide) (by decide)) dX6_shrink_30 (fun H locs hP hD hS => ?_)
    have hP : va_P D vwCl [(aM, .inr (6, [.ref mN, .ref mkd, .ref mks, .ref mcd, .ref mpr, .ref msk, .ref mow, .ref mmi, .ref mst, .ref mbi, .ref msu, .ref mke, .ref mik, .int vka, .int viw])), (mN, .inl (cI, 9, .inl (upd fN 1 x1))), (mkd, .inl (cI, 8, .inl fkd)), (mks, .inl (cI, 8, .inl fks)), (mcd, .inl (cI, 12, .inl fcd)), (mpr, .inl (cI, 16, .inl fpr)), (msk, .inl (cI, 16, .inl fsk)), (mow, .inl (cI, 16, .inl fow)), (mmi, .inl (cI, 16, .inl fmi)), (mst, .inl (cI, 16, .inl fst)), (mbi, .inl (cI, 16, .inl fbi)), (msu, .inl (cI, 16, .inl fsu)), (mke, .inl (cI, 298, .inl fke)), (mik, .inl (cZ, 2, .inl fik))] H := hP
    have hD : va_D A [(aM, .inr (6, [.ref mN, .ref mkd, .ref mks, .ref mcd, .ref mpr, .ref msk, .ref mow, .ref mmi, .ref mst, .ref mbi, .ref msu, .ref mke, .ref mik, .int vka, .int viw])), (mN, .inl (cI, 9, .inl (upd fN 1 x1))), (mkd, .inl (cI, 8, .inl fkd)), (mks, .inl (cI, 8, .inl fks)), (mcd, .inl (cI, 12, .inl fcd)), (mpr, .inl (cI, 16, .inl fpr)), (msk, .inl (cI, 16, .inl fsk)), (mow, .inl (cI, 16, .inl fow)), (mmi, .inl (cI, 16, .inl fmi)), (mst, .inl (cI, 16, .inl fst)), (mbi, .inl (cI, 16, .inl fbi)), (msu, .inl (cI, 16, .inl fsu)), (mke, .inl (cI, 298, .inl fke)), (mik, .inl (cZ, 2, .inl fik))] := hD
    refine lv_iload_n hx hb dX6_shrink_31 rfl (lv_at hl 0 rfl) ?_
    exact hret x2_23 (upd fN 1 x1) 32 ls H locs rfl dX6_shrink_32 hP hD hS h
  · have h := (if_pos c1).symm.trans h
    refine lv_bipush (v := (-2 : Int32)) hx hb dX6_shrink_14 (by decide) ?_
    exact hret (-2 : Int32) fN 16 ls H locs rfl dX6_shrink_16 hP hD hS h
def fX6_kindOf_b2 (fN : Nat → Int32) (fkd : Nat → Int32) : Nat → Int32 → Int32 → Option (Int32)
  | 0, _, _ => none
  | n + 1, x1, x2 =>
    bd1 (fX6_kinds fN) fun r_4 =>
    if r_4 ≤ x2 then
      some (-6 : Int32)
    else
      if x2 < 0 ∨ 8 ≤ x2.toNatClampNeg then none else
      if (fkd x2.toNatClampNeg) = x1 then
        some x2
      else
        fX6_kindOf_b2 fN fkd n x1 (x2 + 1)
def fX6_kindOf (fN : Nat → Int32) (fkd : Nat → Int32) (x1 : Int32) : Option (Int32) :=
  fX6_kindOf_b2 fN fkd FU x1 (0 : Int32)
abbrev rX6_kindOf : Room := { frames := 1, cells := 0, slots := 0, locals := 20 }
set_option maxHeartbeats 4000000 in
set_option maxRecDepth 100000 in
theorem tX6_kindOf {l : Launch} {D : va_G} {cI cZ cP : ClassId} (aM mN mkd mks mcd mpr msk mow mmi mst mbi msu mke mik : Nat) (vka : Int32) (viw : Int32) (fN : Nat → Int32) (fkd : Nat → Int32) (x1 : Int32) (r : Int32) (h : fX6_kindOf fN fkd x1 = some r) : CtI l D cI cZ cP yX6_kindOf wsX6_kindOf rX6_kindOf [.ref aM, .int x1] [(aM, .inr (6, [.ref mN, .ref mkd, .ref mks, .ref mcd, .ref mpr, .ref msk, .ref mow, .ref mmi, .ref mst, .ref mbi, .ref msu, .ref mke, .ref mik, .int vka, .int viw])), (mN, .inl (cI, 9, .inl fN)), (mkd, .inl (cI, 8, .inl fkd))] (fun _ : Unit => [(aM, .inr (6, [.ref mN, .ref mkd, .ref mks, .ref mcd, .ref mpr, .ref msk, .ref mow, .ref mmi, .ref mst, .ref mbi, .ref msu, .ref mke, .ref mik, .int vka, .int viw])), (mN, .inl (cI, 9, .inl fN)), (mkd, .inl (cI, 8, .inl fkd))]) r := by
  refine CtI.ofW (cc := cX6_kindOf) (maxL := 3) (by decide) rfl (Nat.le_of_ble_eq_true rfl) (lv := [(0, .ref aM), (1, .int x1)]) rfl ?_
  intro p e s m args below meth c A Q ls hx hb hml hown hts hK hN hP hD hS hA hl hret0
  have hown : s.vm.findClass RX6 = some m.cls := hown
  have i6 : ∀ w ∈ wsX60, w ∈ wsX6_kindOf := mem_ps [8, 9, 10, 11, 12, 13, 14, 15, 16, 17, 18, 19, 20, 21, 22] rfl
  have hret : ∀ (v : Int32) (pc : Nat) (ls : Array Slot) (H : Heap) (locs : List Loc), narrow .int (.int v) = .int v → decode cX6_kindOf pc = .ok (.ireturn, 1) → va_P D vwCl [(aM, .inr (6, [.ref mN, .ref mkd, .ref mks, .ref mcd, .ref mpr, .ref msk, .ref mow, .ref mmi, .ref mst, .ref mbi, .ref msu, .ref mke, .ref mik, .int vka, .int viw])), (mN, .inl (cI, 9, .inl fN)), (mkd, .inl (cI, 8, .inl fkd))] H → va_D A [(aM, .inr (6, [.ref mN, .ref mkd, .ref mks, .ref mcd, .ref mpr, .ref msk, .ref mow, .ref mmi, .ref mst, .ref mbi, .ref msu, .ref mke, .ref mik, .int vka, .int viw])), (mN, .inl (cI, 9, .inl fN)), (mkd, .inl (cI, 8, .inl fkd))] → va_S A s.heap H locs → some v = some r → W p l e rX6_kindOf s m args below meth c H locs 0 0 Q (F0 m pc ls [.int v]) := by
    intro v pc ls H locs hn hd hP hD hS h
    cases h
    exact hret0 pc ls H locs () hn hd hP hD hS
  clear hret0
  have hb2 : ∀ (n : Nat) (x1 : Int32) (x2 : Int32) (H : Heap) (locs : List Loc) (ls : Array Slot), va_P D vwCl [(aM, .inr (6, [.ref mN, .ref mkd, .ref mks, .ref mcd, .ref mpr, .ref msk, .ref mow, .ref mmi, .ref mst, .ref mbi, .ref msu, .ref mke, .ref mik, .int vka, .int viw])), (mN, .inl (cI, 9, .inl fN)), (mkd, .inl (cI, 8, .inl fkd))] H → va_D A [(aM, .inr (6, [.ref mN, .ref mkd, .ref mks, .ref mcd, .ref mpr, .ref msk, .ref mow, .ref mmi, .ref mst, .ref mbi, .ref msu, .ref mke, .ref mik, .int vka, .int viw])), (mN, .inl (cI, 9, .inl fN)), (mkd, .inl (cI, 8, .inl fkd))] → va_S A s.heap H locs → lv_has ls 3 [(0, .ref aM), (1, .int x1), (2, .int x2)] → fX6_kindOf_b2 fN fkd n x1 x2 = some r → W p l e rX6_kindOf s m args below meth c H locs 0 0 Q (F0 m 2 ls []) := by
    intro n
    induction n with
    | zero => intro x1 x2 H locs ls hP hD hS hl h; exact absurd h (by rw [fX6_kindOf_b2]; exact fun z => by cases z)
    | succ n ih =>
      intro x1 x2 H locs ls hP hD hS hl h
      rw [fX6_kindOf_b2] at h
      refine lv_iload_n hx hb dX6_kindOf_2 rfl (lv_at hl 2 rfl) ?_
      refine lv_aload_n hx hb dX6_kindOf_3 rfl (lv_at hl 0 rfl) ?_
      obtain ⟨r_4, q_4, h⟩ := bd1_some h
      refine fr_ro_i (S := Unit) (wc := [(aM, .inr (6, [.ref mN, .ref mkd, .ref mks, .ref mcd, .ref mpr, .ref msk, .ref mow, .ref mmi, .ref mst, .ref mbi, .ref msu, .ref mke, .ref mik, .int vka, .int viw])), (mN, .inl (cI, 9, .inl fN))]) (fr_V (As := []) (rest := [.int x2]) (C := RX6) ⟨hx, hb, hml, hown, hts⟩ (tX6_kinds aM mN mkd mks mcd mpr msk mow mmi mst mbi msu mke mik vka viw fN r_4 q_4) gX6_kindOf_X6_kinds rfl (fr_preV (As := []) (b := aM) (ci := 6) (q0 := 0) (wc := [(aM, .inr (6, [.ref mN, .ref mkd, .ref mks, .ref mcd, .ref mpr, .ref msk, .ref mow, .ref mmi, .ref mst, .ref mbi, .ref msu, .ref mke, .ref mik, .int vka, .int viw])), (mN, .inl (cI, 9, .inl fN))]) hK hN hP hD [0, 1] (by decide) rfl rfl rfl) (n := 0) (by decide +kernel) ⟨Nat.le_of_ble_eq_true rfl, Nat.le_of_ble_eq_true rfl⟩ rfl hl.1 rfl (Nat.le_of_ble_eq_true rfl) dX6_kindOf_4 ⟨Nat.zero_le _, Nat.zero_le _⟩) hP hD hS hA [0, 1] rfl (c2 := 0) (s2 := 0) rfl rfl (fun H locs hP hS => ?_)
      refine lv_icmp_ge (tgt := 28) hx hb dX6_kindOf_7 (by decide) (fun c1 => ?_) (fun c1 => ?_)
      · have h := (if_pos c1).symm.trans h
        refine lv_bipush (v := (-6 : Int32)) hx hb dX6_kindOf_28 (by decide) ?_
        exact hret (-6 : Int32) 30 ls H locs rfl dX6_kindOf_30 hP hD hS h
      · have h := (if_neg c1).symm.trans h
        refine lv_aload_n hx hb dX6_kindOf_10 rfl (lv_at hl 0 rfl) ?_
        refine va_get (D := D) (ci := 6) (v := .ref mkd) (C := RX6) (T := TX6) (N := 15) hx hb hts i6 hown hK hP 0 rfl rfl 1 (by decide) (hts (.fieldLink RX6 13 RX6 "kindDots" "[I") (List.mem_of_getElem? (i := 1) rfl)) (fun _ h9 => h9) rfl dX6_kindOf_11 ?_
        refine lv_iload_n hx hb dX6_kindOf_14 rfl (lv_at hl 2 rfl) ?_
        obtain ⟨g2, h⟩ := no_some h
        refine va_iald hx hb hK hP 2 0 rfl rfl g2 dX6_kindOf_15 ?_
        refine lv_iload_n hx hb dX6_kindOf_16 rfl (lv_at hl 1 rfl) ?_
        refine lv_icmp_ne (tgt := 22) hx hb dX6_kindOf_17 (by decide) (fun c3 => ?_) (fun c3 => ?_)
        · have h := (if_neg c3).symm.trans h
          refine lv_iinc (v := x2 + 1) (lv' := [(2, .int (x2 + 1)), (0, .ref aM), (1, .int x1)]) hx hb dX6_kindOf_22 hl (k := 2) rfl rfl (by decide) rfl (fun ls hl => ?_)
          refine lv_goto (tgt := 2) hx hb dX6_kindOf_25 (by decide) ?_
          exact ih x1 (x2 + 1) H locs ls hP hD hS (lv_sub hl [1, 2, 0] rfl) h
        · have h := (if_pos c3).symm.trans h
          refine lv_iload_n hx hb dX6_kindOf_20 rfl (lv_at hl 2 rfl) ?_
          exact hret x2 21 ls H locs rfl dX6_kindOf_21 hP hD hS h
  unfold fX6_kindOf at h
  obtain ⟨H, hH⟩ : ∃ H, H = s.heap := ⟨_, rfl⟩
  have hP : va_P D vwCl [(aM, .inr (6, [.ref mN, .ref mkd, .ref mks, .ref mcd, .ref mpr, .ref msk, .ref mow, .ref mmi, .ref mst, .ref mbi, .ref msu, .ref mke, .ref mik, .int vka, .int viw])), (mN, .inl (cI, 9, .inl fN)), (mkd, .inl (cI, 8, .inl fkd))] H := by rw [hH]; exact hP
  obtain ⟨locs, hlocs⟩ : ∃ x : List Loc, x = [] := ⟨_, rfl⟩
  have hS : va_S A s.heap H locs := by rw [hH, hlocs]; exact hS
  suffices hgo : W p l e rX6_kindOf s m args below meth c H locs 0 0 Q (F0 m 0 ls []) by rw [hH, hlocs] at hgo; exact hgo
  refine lv_iconst (v := (0 : Int32)) hx hb dX6_kindOf_0 (by decide) ?_
  refine lv_istore_n (lv' := [(2, .int (0 : Int32)), (0, .ref aM), (1, .int x1)]) hx hb dX6_kindOf_1 rfl hl (by decide) rfl (fun ls hl => ?_)
  exact hb2 FU x1 (0 : Int32) H locs ls hP hD hS (lv_sub hl [1, 2, 0] rfl) h
def fX6_stocks_b4 (fN : Nat → Int32) (fks : Nat → Int32) : Nat → Int32 → Int32 → Option (Int32)
  | 0, _, _ => none
  | n + 1, x1, x2 =>
    bd1 (fX6_kinds fN) fun r_6 =>
    if r_6 ≤ x2 then
      some x1
    else
      if x2 < 0 ∨ 8 ≤ x2.toNatClampNeg then none else
      bdv (x1 + (fks x2.toNatClampNeg)) fun x1_20 =>
      fX6_stocks_b4 fN fks n x1_20 (x2 + 1)
def fX6_stocks (fN : Nat → Int32) (fks : Nat → Int32) : Option (Int32) :=
  fX6_stocks_b4 fN fks FU (0 : Int32) (0 : Int32)
abbrev rX6_stocks : Room := { frames := 1, cells := 0, slots := 0, locals := 20 }
set_option maxHeartbeats 4000000 in
set_option maxRecDepth 100000 in
theorem tX6_stocks {l : Launch} {D : va_G} {cI cZ cP : ClassId} (aM mN mks mkd mcd mpr msk mow mmi mst mbi msu mke mik : Nat) (vka : Int32) (viw : Int32) (fN : Nat → Int32) (fks : Nat → Int32) (r : Int32) (h : fX6_stocks fN fks = some r) : CtI l D cI cZ cP yX6_stocks wsX6_stocks rX6_stocks [.ref aM] [(aM, .inr (6, [.ref mN, .ref mkd, .ref mks, .ref mcd, .ref mpr, .ref msk, .ref mow, .ref mmi, .ref mst, .ref mbi, .ref msu, .ref mke, .ref mik, .int vka, .int viw])), (mN, .inl (cI, 9, .inl fN)), (mks, .inl (cI, 8, .inl fks))] (fun _ : Unit => [(aM, .inr (6, [.ref mN, .ref mkd, .ref mks, .ref mcd, .ref mpr, .ref msk, .ref mow, .ref mmi, .ref mst, .ref mbi, .ref msu, .ref mke, .ref mik, .int vka, .int viw])), (mN, .inl (cI, 9, .inl fN)), (mks, .inl (cI, 8, .inl fks))]) r := by
  refine CtI.ofW (cc := cX6_stocks) (maxL := 3) (by decide) rfl (Nat.le_of_ble_eq_true rfl) (lv := [(0, .ref aM)]) rfl ?_
  intro p e s m args below meth c A Q ls hx hb hml hown hts hK hN hP hD hS hA hl hret0
  have hown : s.vm.findClass RX6 = some m.cls := hown
  have i6 : ∀ w ∈ wsX60, w ∈ wsX6_stocks := mem_ps [8, 9, 10, 11, 12, 13, 14, 15, 16, 17, 18, 19, 20, 21, 22] rfl
  have hret : ∀ (v : Int32) (pc : Nat) (ls : Array Slot) (H : Heap) (locs : List Loc), narrow .int (.int v) = .int v → decode cX6_stocks pc = .ok (.ireturn, 1) → va_P D vwCl [(aM, .inr (6, [.ref mN, .ref mkd, .ref mks, .ref mcd, .ref mpr, .ref msk, .ref mow, .ref mmi, .ref mst, .ref mbi, .ref msu, .ref mke, .ref mik, .int vka, .int viw])), (mN, .inl (cI, 9, .inl fN)), (mks, .inl (cI, 8, .inl fks))] H → va_D A [(aM, .inr (6, [.ref mN, .ref mkd, .ref mks, .ref mcd, .ref mpr, .ref msk, .ref mow, .ref mmi, .ref mst, .ref mbi, .ref msu, .ref mke, .ref mik, .int vka, .int viw])), (mN, .inl (cI, 9, .inl fN)), (mks, .inl (cI, 8, .inl fks))] → va_S A s.heap H locs → some v = some r → W p l e rX6_stocks s m args below meth c H locs 0 0 Q (F0 m pc ls [.int v]) := by
    intro v pc ls H locs hn hd hP hD hS h
    cases h
    exact hret0 pc ls H locs () hn hd hP hD hS
  clear hret0
  have hb4 : ∀ (n : Nat) (x1 : Int32) (x2 : Int32) (H : Heap) (locs : List Loc) (ls : Array Slot), va_P D vwCl [(aM, .inr (6, [.ref mN, .ref mkd, .ref mks, .ref mcd, .ref mpr, .ref msk, .ref mow, .ref mmi, .ref mst, .ref mbi, .ref msu, .ref mke, .ref mik, .int vka, .int viw])), (mN, .inl (cI, 9, .inl fN)), (mks, .inl (cI, 8, .inl fks))] H → va_D A [(aM, .inr (6, [.ref mN, .ref mkd, .ref mks, .ref mcd, .ref mpr, .ref msk, .ref mow, .ref mmi, .ref mst, .ref mbi, .ref msu, .ref mke, .ref mik, .int vka, .int viw])), (mN, .inl (cI, 9, .inl fN)), (mks, .inl (cI, 8, .inl fks))] → va_S A s.heap H locs → lv_has ls 3 [(0, .ref aM), (1, .int x1), (2, .int x2)] → fX6_stocks_b4 fN fks n x1 x2 = some r → W p l e rX6_stocks s m args below meth c H locs 0 0 Q (F0 m 4 ls []) := by
    intro n
    induction n with
    | zero => intro x1 x2 H locs ls hP hD hS hl h; exact absurd h (by rw [fX6_stocks_b4]; exact fun z => by cases z)
    | succ n ih =>
      intro x1 x2 H locs ls hP hD hS hl h
      rw [fX6_stocks_b4] at h
      refine lv_iload_n hx hb dX6_stocks_4 rfl (lv_at hl 2 rfl) ?_
      refine lv_aload_n hx hb dX6_stocks_5 rfl (lv_at hl 0 rfl) ?_
      obtain ⟨r_6, q_6, h⟩ := bd1_some h
      refine fr_ro_i (S := Unit) (wc := [(aM, .inr (6, [.ref mN, .ref mkd, .ref mks, .ref mcd, .ref mpr, .ref msk, .ref mow, .ref mmi, .ref mst, .ref mbi, .ref msu, .ref mke, .ref mik, .int vka, .int viw])), (mN, .inl (cI, 9, .inl fN))]) (fr_V (As := []) (rest := [.int x2]) (C := RX6) ⟨hx, hb, hml, hown, hts⟩ (tX6_kinds aM mN mkd mks mcd mpr msk mow mmi mst mbi msu mke mik vka viw fN r_6 q_6) gX6_stocks_X6_kinds rfl (fr_preV (As := []) (b := aM) (ci := 6) (q0 := 0) (wc := [(aM, .inr (6, [.ref mN, .ref mkd, .ref mks, .ref mcd, .ref mpr, .ref msk, .ref mow, .ref mmi, .ref mst, .ref mbi, .ref msu, .ref mke, .ref mik, .int vka, .int viw])), (mN, .inl (cI, 9, .inl fN))]) hK hN hP hD [0, 1] (by decide) rfl rfl rfl) (n := 0) (by decide +kernel) ⟨Nat.le_of_ble_eq_true rfl, Nat.le_of_ble_eq_true rfl⟩ rfl hl.1 rfl (Nat.le_of_ble_eq_true rfl) dX6_stocks_6 ⟨Nat.zero_le _, Nat.zero_le _⟩) hP hD hS hA [0, 1] rfl (c2 := 0) (s2 := 0) rfl rfl (fun H locs hP hS => ?_)
      refine lv_icmp_ge (tgt := 27) hx hb dX6_stocks_9 (by decide) (fun c1 => ?_) (fun c1 => ?_)
      · have h := (if_pos c1).symm.trans h
        refine lv_iload_n hx hb dX6_stocks_27 rfl (lv_at hl 1 rfl) ?_
        exact hret x1 28 ls H locs rfl dX6_stocks_28 hP hD hS h
      · have h := (if_neg c1).symm.trans h
        refine lv_iload_n hx hb dX6_stocks_12 rfl (lv_at hl 1 rfl) ?_
        refine lv_aload_n hx hb dX6_stocks_13 rfl (lv_at hl 0 rfl) ?_
        refine va_get (D := D) (ci := 6) (v := .ref mks) (C := RX6) (T := TX6) (N := 15) hx hb hts i6 hown hK hP 0 rfl rfl 2 (by decide) (hts (.fieldLink RX6 16 RX6 "kindStock" "[I") (List.mem_of_getElem? (i := 1) rfl)) (fun _ h9 => h9) rfl dX6_stocks_14 ?_
        refine lv_iload_n hx hb dX6_stocks_17 rfl (lv_at hl 2 rfl) ?_
        obtain ⟨g2, h⟩ := no_some h
        refine va_iald hx hb hK hP 2 0 rfl rfl g2 dX6_stocks_18 ?_
        refine lv_iadd hx hb dX6_stocks_19 ?_
        refine lv_topi (fun x1_20 ex1_20 => ?_)
        have h := bdv_some ex1_20 h
        refine lv_istore_n (lv' := [(1, .int x1_20), (0, .ref aM), (2, .int x2)]) hx hb dX6_stocks_20 rfl hl (by decide) rfl (fun ls hl => ?_)
        refine lv_iinc (v := x2 + 1) (lv' := [(2, .int (x2 + 1)), (1, .int x1_20), (0, .ref aM)]) hx hb dX6_stocks_21 hl (k := 2) rfl rfl (by decide) rfl (fun ls hl => ?_)
        refine lv_goto (tgt := 4) hx hb dX6_stocks_24 (by decide) ?_
        exact ih x1_20 (x2 + 1) H locs ls hP hD hS (lv_sub hl [2, 1, 0] rfl) h
  unfold fX6_stocks at h
  obtain ⟨H, hH⟩ : ∃ H, H = s.heap := ⟨_, rfl⟩
  have hP : va_P D vwCl [(aM, .inr (6, [.ref mN, .ref mkd, .ref mks, .ref mcd, .ref mpr, .ref msk, .ref mow, .ref mmi, .ref mst, .ref mbi, .ref msu, .ref mke, .ref mik, .int vka, .int viw])), (mN, .inl (cI, 9, .inl fN)), (mks, .inl (cI, 8, .inl fks))] H := by rw [hH]; exact hP
  obtain ⟨locs, hlocs⟩ : ∃ x : List Loc, x = [] := ⟨_, rfl⟩
  have hS : va_S A s.heap H locs := by rw [hH, hlocs]; exact hS
  suffices hgo : W p l e rX6_stocks s m args below meth c H locs 0 0 Q (F0 m 0 ls []) by rw [hH, hlocs] at hgo; exact hgo
  refine lv_iconst (v := (0 : Int32)) hx hb dX6_stocks_0 (by decide) ?_
  refine lv_istore_n (lv' := [(1, .int (0 : Int32)), (0, .ref aM)]) hx hb dX6_stocks_1 rfl hl (by decide) rfl (fun ls hl => ?_)
  refine lv_iconst (v := (0 : Int32)) hx hb dX6_stocks_2 (by decide) ?_
  refine lv_istore_n (lv' := [(2, .int (0 : Int32)), (1, .int (0 : Int32)), (0, .ref aM)]) hx hb dX6_stocks_3 rfl hl (by decide) rfl (fun ls hl => ?_)
  exact hb4 FU (0 : Int32) (0 : Int32) H locs ls hP hD hS (lv_sub hl [2, 1, 0] rfl) h
def fX6_stock_b105  (x2 : Int32) (x3 : Int32) (x4 : Int32) (fN : Nat → Int32) (fkd : Nat → Int32) (fks : Nat → Int32) : Option (Int32 × (Nat → Int32) × (Nat → Int32) × (Nat → Int32)) :=
  if x3 < 0 ∨ 8 ≤ x3.toNatClampNeg then none else
  bd1 (fX6_end fN) fun fN_116 =>
  some (x4 + x2, fN_116, fkd, upd fks x3.toNatClampNeg (x4 + x2))
def fX6_stock_b57  (x1 : Int32) (x2 : Int32) (x3 : Int32) (x4 : Int32) (fN : Nat → Int32) (fkd : Nat → Int32) (fks : Nat → Int32) : Option (Int32 × (Nat → Int32) × (Nat → Int32) × (Nat → Int32)) :=
  if (4 : Int32) < (x4 + x2) then
    some ((-4 : Int32), fN, fkd, fks)
  else
    bd1 (fX6_stocks fN fks) fun r_66 =>
    if (r_66 + x2) ≤ (16 : Int32) then
      if 0 ≤ x3 then
        fX6_stock_b105  x2 x3 x4 fN fkd fks
      else
        bd1 (fX6_kinds fN) fun r_84 =>
        if r_84 < 0 ∨ 8 ≤ r_84.toNatClampNeg then none else
        fX6_stock_b105  x2 r_84 x4 (upd fN 2 ((fN 2) + (1 : Int32))) (upd fkd r_84.toNatClampNeg x1) fks
    else
      some ((-4 : Int32), fN, fkd, fks)
def fX6_stock_b42  (x1 : Int32) (x2 : Int32) (x3 : Int32) (y0 : Int32) (fN : Nat → Int32) (fkd : Nat → Int32) (fks : Nat → Int32) : Option (Int32 × (Nat → Int32) × (Nat → Int32) × (Nat → Int32)) :=
  if 0 ≤ x3 then
    fX6_stock_b57  x1 x2 x3 y0 fN fkd fks
  else
    bd1 (fX6_kinds fN) fun r_49 =>
    if r_49 = (8 : Int32) then
      some ((-4 : Int32), fN, fkd, fks)
    else
      fX6_stock_b57  x1 x2 x3 y0 fN fkd fks
def fX6_stock (fN : Nat → Int32) (fkd : Nat → Int32) (fks : Nat → Int32) (x1 : Int32) (x2 : Int32) : Option (Int32 × (Nat → Int32) × (Nat → Int32) × (Nat → Int32)) :=
  bd1 (fX6_isDots x1) fun r_1 =>
  if r_1 = 0 then
    some ((-2 : Int32), fN, fkd, fks)
  else
    bd1 (fX6_in x2.toInt64 (1 : Int64) (4 : Int64)) fun r_13 =>
    if r_13 = 0 then
      some ((-2 : Int32), fN, fkd, fks)
    else
      bd1 (fX6_kindOf fN fkd x1) fun r_24 =>
      if 0 ≤ r_24 then
        if r_24 < 0 ∨ 8 ≤ r_24.toNatClampNeg then none else
        fX6_stock_b42  x1 x2 r_24 (fks r_24.toNatClampNeg) fN fkd fks
      else
        fX6_stock_b42  x1 x2 r_24 (0 : Int32) fN fkd fks
abbrev rX6_stock : Room := { frames := 2, cells := 0, slots := 0, locals := 45 }
set_option maxHeartbeats 4000000 in
set_option maxRecDepth 100000 in
theorem tX6_stock {l : Launch} {D : va_G} {cI cZ cP : ClassId} (aM mN mkd mks mcd mpr msk mow mmi mst mbi msu mke mik : Nat) (vka : Int32) (viw : Int32) (fN : Nat → Int32) (fkd : Nat → Int32) (fks : Nat → Int32) (fcd : Nat → Int32) (fpr : Nat → Int32) (fsk : Nat → Int32) (fow : Nat → Int32) (fmi : Nat → Int32) (fst : Nat → Int32) (fbi : Nat → Int32) (fsu : Nat → Int32) (fke : Nat → Int32) (fik : Nat → Int32) (x1 : Int32) (x2 : Int32) (r : Int32) (oN : Nat → Int32) (okd : Nat → Int32) (oks : Nat → Int32) (h : fX6_stock fN fkd fks x1 x2 = some (r, oN, okd, oks)) : CtI l D cI cZ cP yX6_stock wsX6_stock rX6_stock [.ref aM, .int x1, .int x2] [(aM, .inr (6, [.ref mN, .ref mkd, .ref mks, .ref mcd, .ref mpr, .ref msk, .ref mow, .ref mmi, .ref mst, .ref mbi, .ref msu, .ref mke, .ref mik, .int vka, .int viw])), (mN, .inl (cI, 9, .inl fN)), (mkd, .inl (cI, 8, .inl fkd)), (mks, .inl (cI, 8, .inl fks)), (mcd, .inl (cI, 12, .inl fcd)), (mpr, .inl (cI, 16, .inl fpr)), (msk, .inl (cI, 16, .inl fsk)), (mow, .inl (cI, 16, .inl fow)), (mmi, .inl (cI, 16, .inl fmi)), (mst, .inl (cI, 16, .inl fst)), (mbi, .inl (cI, 16, .inl fbi)), (msu, .inl (cI, 16, .inl fsu)), (mke, .inl (cI, 298, .inl fke)), (mik, .inl (cZ, 2, .inl fik))] (fun _ : Unit => [(aM, .inr (6, [.ref mN, .ref mkd, .ref mks, .ref mcd, .ref mpr, .ref msk, .ref mow, .ref mmi, .ref mst, .ref mbi, .ref msu, .ref mke, .ref mik, .int vka, .int viw])), (mN, .inl (cI, 9, .inl oN)), (mkd, .inl (cI, 8, .inl okd)), (mks, .inl (cI, 8, .inl oks)), (mcd, .inl (cI, 12, .inl fcd)), (mpr, .inl (cI, 16, .inl fpr)), (msk, .inl (cI, 16, .inl fsk)), (mow, .inl (cI, 16, .inl fow)), (mmi, .inl (cI, 16, .inl fmi)), (mst, .inl (cI, 16, .inl fst)), (mbi, .inl (cI, 16, .inl fbi)), (msu, .inl (cI, 16, .inl fsu)), (mke, .inl (cI, 298, .inl fke)), (mik, .inl (cZ, 2, .inl fik))]) r := by
  refine CtI.ofW (cc := cX6_stock) (maxL := 5) (by decide) rfl (Nat.le_of_ble_eq_true rfl) (lv := [(0, .ref aM), (1, .int x1), (2, .int x2)]) rfl ?_
  intro p e s m args below meth c A Q ls hx hb hml hown hts hK hN hP hD hS hA hl hret0
  have hown : s.vm.findClass RX6 = some m.cls := hown
  have i6 : ∀ w ∈ wsX60, w ∈ wsX6_stock := mem_ps [29, 30, 31, 32, 33, 34, 35, 36, 37, 38, 39, 40, 41, 42, 43] rfl
  have hret : ∀ (v : Int32) (zN : Nat → Int32) (zkd : Nat → Int32) (zks : Nat → Int32) (pc : Nat) (ls : Array Slot) (H : Heap) (locs : List Loc), narrow .int (.int v) = .int v → decode cX6_stock pc = .ok (.ireturn, 1) → va_P D vwCl [(aM, .inr (6, [.ref mN, .ref mkd, .ref mks, .ref mcd, .ref mpr, .ref msk, .ref mow, .ref mmi, .ref mst, .ref mbi, .ref msu, .ref mke, .ref mik, .int vka, .int viw])), (mN, .inl (cI, 9, .inl zN)), (mkd, .inl (cI, 8, .inl zkd)), (mks, .inl (cI, 8, .inl zks)), (mcd, .inl (cI, 12, .inl fcd)), (mpr, .inl (cI, 16, .inl fpr)), (msk, .inl (cI, 16, .inl fsk)), (mow, .inl (cI, 16, .inl fow)), (mmi, .inl (cI, 16, .inl fmi)), (mst, .inl (cI, 16, .inl fst)), (mbi, .inl (cI, 16, .inl fbi)), (msu, .inl (cI, 16, .inl fsu)), (mke, .inl (cI, 298, .inl fke)), (mik, .inl (cZ, 2, .inl fik))] H → va_D A [(aM, .inr (6, [.ref mN, .ref mkd, .ref mks, .ref mcd, .ref mpr, .ref msk, .ref mow, .ref mmi, .ref mst, .ref mbi, .ref msu, .ref mke, .ref mik, .int vka, .int viw])), (mN, .inl (cI, 9, .inl zN)), (mkd, .inl (cI, 8, .inl zkd)), (mks, .inl (cI, 8, .inl zks)), (mcd, .inl (cI, 12, .inl fcd)), (mpr, .inl (cI, 16, .inl fpr)), (msk, .inl (cI, 16, .inl fsk)), (mow, .inl (cI, 16, .inl fow)), (mmi, .inl (cI, 16, .inl fmi)), (mst, .inl (cI, 16, .inl fst)), (mbi, .inl (cI, 16, .inl fbi)), (msu, .inl (cI, 16, .inl fsu)), (mke, .inl (cI, 298, .inl fke)), (mik, .inl (cZ, 2, .inl fik))] → va_S A s.heap H locs → some (v, zN, zkd, zks) = some (r, oN, okd, oks) → W p l e rX6_stock s m args below meth c H locs 0 0 Q (F0 m pc ls [.int v]) := by
    intro v zN zkd zks pc ls H locs hn hd hP hD hS h
    cases h
    exact hret0 pc ls H locs () hn hd hP hD hS
  clear hret0
  have hb105 : ∀ (x2 : Int32) (x3 : Int32) (x4 : Int32) (fN : Nat → Int32) (fkd : Nat → Int32) (fks : Nat → Int32) (H : Heap) (locs : List Loc) (ls : Array Slot), va_P D vwCl [(aM, .inr (6, [.ref mN, .ref mkd, .ref mks, .ref mcd, .ref mpr, .ref msk, .ref mow, .ref mmi, .ref mst, .ref mbi, .ref msu, .ref mke, .ref mik, .int vka, .int viw])), (mN, .inl (cI, 9, .inl fN)), (mkd, .inl (cI, 8, .inl fkd)), (mks, .inl (cI, 8, .inl fks)), (mcd, .inl (cI, 12, .inl fcd)), (mpr, .inl (cI, 16, .inl fpr)), (msk, .inl (cI, 16, .inl fsk)), (mow, .inl (cI, 16, .inl fow)), (mmi, .inl (cI, 16, .inl fmi)), (mst, .inl (cI, 16, .inl fst)), (mbi, .inl (cI, 16, .inl fbi)), (msu, .inl (cI, 16, .inl fsu)), (mke, .inl (cI, 298, .inl fke)), (mik, .inl (cZ, 2, .inl fik))] H → va_D A [(aM, .inr (6, [.ref mN, .ref mkd, .ref mks, .ref mcd, .ref mpr, .ref msk, .ref mow, .ref mmi, .ref mst, .ref mbi, .ref msu, .ref mke, .ref mik, .int vka, .int viw])), (mN, .inl (cI, 9, .inl fN)), (mkd, .inl (cI, 8, .inl fkd)), (mks, .inl (cI, 8, .inl fks)), (mcd, .inl (cI, 12, .inl fcd)), (mpr, .inl (cI, 16, .inl fpr)), (msk, .inl (cI, 16, .inl fsk)), (mow, .inl (cI, 16, .inl fow)), (mmi, .inl (cI, 16, .inl fmi)), (mst, .inl (cI, 16, .inl fst)), (mbi, .inl (cI, 16, .inl fbi)), (msu, .inl (cI, 16, .inl fsu)), (mke, .inl (cI, 298, .inl fke)), (mik, .inl (cZ, 2, .inl fik))] → va_S A s.heap H locs → lv_has ls 5 [(0, .ref aM), (2, .int x2), (3, .int x3), (4, .int x4)] → fX6_stock_b105  x2 x3 x4 fN fkd fks = some (r, oN, okd, oks) → W p l e rX6_stock s m args below meth c H locs 0 0 Q (F0 m 105 ls []) := by
    intro x2 x3 x4 fN fkd fks H locs ls hP hD hS hl h
    unfold fX6_stock_b105 at h
    refine lv_aload_n hx hb dX6_stock_105 rfl (lv_at hl 0 rfl) ?_
    refine va_get (D := D) (ci := 6) (v := .ref mks) (C := RX6) (T := TX6) (N := 15) hx hb hts i6 hown hK hP 0 rfl rfl 2 (by decide) (hts (.fieldLink RX6 16 RX6 "kindStock" "[I") (List.mem_of_getElem? (i := 2) rfl)) (fun _ h9 => h9) rfl dX6_stock_106 ?_
    refine lv_iload_n hx hb dX6_stock_109 rfl (lv_at hl 2 rfl) ?_
    refine lv_iload hx hb dX6_stock_110 (lv_at hl 3 rfl) ?_
    refine lv_iload_n hx hb dX6_stock_112 rfl (lv_at hl 1 rfl) ?_
    refine lv_iadd hx hb dX6_stock_113 ?_
    obtain ⟨g1, h⟩ := no_some h
    refine va_iast hx hb hK hP hD hS 3 0 rfl rfl g1 dX6_stock_114 (fun H locs hP hD hS => ?_)
    have hP : va_P D vwCl [(aM, .inr (6, [.ref mN, .ref mkd, .ref mks, .ref mcd, .ref mpr, .ref msk, .ref mow, .ref mmi, .ref mst, .ref mbi, .ref msu, .ref mke, .ref mik, .int vka, .int viw])), (mN, .inl (cI, 9, .inl fN)), (mkd, .inl (cI, 8, .inl fkd)), (mks, .inl (cI, 8, .inl (upd fks x3.toNatClampNeg (x4 + x2)))), (mcd, .inl (cI, 12, .inl fcd)), (mpr, .inl (cI, 16, .inl fpr)), (msk, .inl (cI, 16, .inl fsk)), (mow, .inl (cI, 16, .inl fow)), (mmi, .inl (cI, 16, .inl fmi)), (mst, .inl (cI, 16, .inl fst)), (mbi, .inl (cI, 16, .inl fbi)), (msu, .inl (cI, 16, .inl fsu)), (mke, .inl (cI, 298, .inl fke)), (mik, .inl (cZ, 2, .inl fik))] H := hP
    have hD : va_D A [(aM, .inr (6, [.ref mN, .ref mkd, .ref mks, .ref mcd, .ref mpr, .ref msk, .ref mow, .ref mmi, .ref mst, .ref mbi, .ref msu, .ref mke, .ref mik, .int vka, .int viw])), (mN, .inl (cI, 9, .inl fN)), (mkd, .inl (cI, 8, .inl fkd)), (mks, .inl (cI, 8, .inl (upd fks x3.toNatClampNeg (x4 + x2)))), (mcd, .inl (cI, 12, .inl fcd)), (mpr, .inl (cI, 16, .inl fpr)), (msk, .inl (cI, 16, .inl fsk)), (mow, .inl (cI, 16, .inl fow)), (mmi, .inl (cI, 16, .inl fmi)), (mst, .inl (cI, 16, .inl fst)), (mbi, .inl (cI, 16, .inl fbi)), (msu, .inl (cI, 16, .inl fsu)), (mke, .inl (cI, 298, .inl fke)), (mik, .inl (cZ, 2, .inl fik))] := hD
    refine lv_aload_n hx hb dX6_stock_115 rfl (lv_at hl 0 rfl) ?_
    obtain ⟨fN_116, q_116, h⟩ := bd1_some h
    refine fr_rw_v (S := Unit) (wc := [(aM, .inr (6, [.ref mN, .ref mkd, .ref mks, .ref mcd, .ref mpr, .ref msk, .ref mow, .ref mmi, .ref mst, .ref mbi, .ref msu, .ref mke, .ref mik, .int vka, .int viw])), (mN, .inl (cI, 9, .inl fN))]) (wc' := fun _ => [(aM, .inr (6, [.ref mN, .ref mkd, .ref mks, .ref mcd, .ref mpr, .ref msk, .ref mow, .ref mmi, .ref mst, .ref mbi, .ref msu, .ref mke, .ref mik, .int vka, .int viw])), (mN, .inl (cI, 9, .inl fN_116))]) (wr := [(mkd, .inl (cI, 8, .inl fkd)), (mks, .inl (cI, 8, .inl (upd fks x3.toNatClampNeg (x4 + x2)))), (mcd, .inl (cI, 12, .inl fcd)), (mpr, .inl (cI, 16, .inl fpr)), (msk, .inl (cI, 16, .inl fsk)), (mow, .inl (cI, 16, .inl fow)), (mmi, .inl (cI, 16, .inl fmi)), (mst, .inl (cI, 16, .inl fst)), (mbi, .inl (cI, 16, .inl fbi)), (msu, .inl (cI, 16, .inl fsu)), (mke, .inl (cI, 298, .inl fke)), (mik, .inl (cZ, 2, .inl fik))]) (w2 := fun _ => [(aM, .inr (6, [.ref mN, .ref mkd, .ref mks, .ref mcd, .ref mpr, .ref msk, .ref mow, .ref mmi, .ref mst, .ref mbi, .ref msu, .ref mke, .ref mik, .int vka, .int viw])), (mN, .inl (cI, 9, .inl fN_116)), (mkd, .inl (cI, 8, .inl fkd)), (mks, .inl (cI, 8, .inl (upd fks x3.toNatClampNeg (x4 + x2)))), (mcd, .inl (cI, 12, .inl fcd)), (mpr, .inl (cI, 16, .inl fpr)), (msk, .inl (cI, 16, .inl fsk)), (mow, .inl (cI, 16, .inl fow)), (mmi, .inl (cI, 16, .inl fmi)), (mst, .inl (cI, 16, .inl fst)), (mbi, .inl (cI, 16, .inl fbi)), (msu, .inl (cI, 16, .inl fsu)), (mke, .inl (cI, 298, .inl fke)), (mik, .inl (cZ, 2, .inl fik))]) (fr_Vv (As := []) (rest := []) (C := RX6) ⟨hx, hb, hml, hown, hts⟩ (tX6_end aM mN mkd mks mcd mpr msk mow mmi mst mbi msu mke mik vka viw fN fN_116 q_116) gX6_stock_X6_end rfl (fr_preV (As := []) (b := aM) (ci := 6) (q0 := 0) (wc := [(aM, .inr (6, [.ref mN, .ref mkd, .ref mks, .ref mcd, .ref mpr, .ref msk, .ref mow, .ref mmi, .ref mst, .ref mbi, .ref msu, .ref mke, .ref mik, .int vka, .int viw])), (mN, .inl (cI, 9, .inl fN))]) hK hN hP hD [0, 1] (by decide) rfl rfl rfl) (n := 0) (by decide +kernel) ⟨Nat.le_of_ble_eq_true rfl, Nat.le_of_ble_eq_true rfl⟩ rfl hl.1 rfl (Nat.le_of_ble_eq_true rfl) dX6_stock_116 ⟨Nat.zero_le _, Nat.zero_le _⟩) hP hD hS hA [0, 1] [2, 3, 4, 5, 6, 7, 8, 9, 10, 11, 12, 13] [12, 13, 0, 1, 2, 3, 4, 5, 6, 7, 8, 9, 10, 11] rfl rfl (by decide) (by decide) (by decide) (fun _ => rfl) (c2 := 0) (s2 := 0) rfl rfl (fun _ H locs hP hD hS => ?_)
    refine lv_iload hx hb dX6_stock_119 (lv_at hl 3 rfl) ?_
    refine lv_iload_n hx hb dX6_stock_121 rfl (lv_at hl 1 rfl) ?_
    refine lv_iadd hx hb dX6_stock_122 ?_
    exact hret (x4 + x2) fN_116 fkd (upd fks x3.toNatClampNeg (x4 + x2)) 123 ls H locs rfl dX6_stock_123 hP hD hS h
  have hb57 : ∀ (x1 : Int32) (x2 : Int32) (x3 : Int32) (x4 : Int32) (fN : Nat → Int32) (fkd : Nat → Int32) (fks : Nat → Int32) (H : Heap) (locs : List Loc) (ls : Array Slot), va_P D vwCl [(aM, .inr (6, [.ref mN, .ref mkd, .ref mks, .ref mcd, .ref mpr, .ref msk, .ref mow, .ref mmi, .ref mst, .ref mbi, .ref msu, .ref mke, .ref mik, .int vka, .int viw])), (mN, .inl (cI, 9, .inl fN)), (mkd, .inl (cI, 8, .inl fkd)), (mks, .inl (cI, 8, .inl fks)), (mcd, .inl (cI, 12, .inl fcd)), (mpr, .inl (cI, 16, .inl fpr)), (msk, .inl (cI, 16, .inl fsk)), (mow, .inl (cI, 16, .inl fow)), (mmi, .inl (cI, 16, .inl fmi)), (mst, .inl (cI, 16, .inl fst)), (mbi, .inl (cI, 16, .inl fbi)), (msu, .inl (cI, 16, .inl fsu)), (mke, .inl (cI, 298, .inl fke)), (mik, .inl (cZ, 2, .inl fik))] H → va_D A [(aM, .inr (6, [.ref mN, .ref mkd, .ref mks, .ref mcd, .ref mpr, .ref msk, .ref mow, .ref mmi, .ref mst, .ref mbi, .ref msu, .ref mke, .ref mik, .int vka, .int viw])), (mN, .inl (cI, 9, .inl fN)), (mkd, .inl (cI, 8, .inl fkd)), (mks, .inl (cI, 8, .inl fks)), (mcd, .inl (cI, 12, .inl fcd)), (mpr, .inl (cI, 16, .inl fpr)), (msk, .inl (cI, 16, .inl fsk)), (mow, .inl (cI, 16, .inl fow)), (mmi, .inl (cI, 16, .inl fmi)), (mst, .inl (cI, 16, .inl fst)), (mbi, .inl (cI, 16, .inl fbi)), (msu, .inl (cI, 16, .inl fsu)), (mke, .inl (cI, 298, .inl fke)), (mik, .inl (cZ, 2, .inl fik))] → va_S A s.heap H locs → lv_has ls 5 [(0, .ref aM), (1, .int x1), (2, .int x2), (3, .int x3), (4, .int x4)] → fX6_stock_b57  x1 x2 x3 x4 fN fkd fks = some (r, oN, okd, oks) → W p l e rX6_stock s m args below meth c H locs 0 0 Q (F0 m 57 ls []) := by
    intro x1 x2 x3 x4 fN fkd fks H locs ls hP hD hS hl h
    unfold fX6_stock_b57 at h
    refine lv_iload hx hb dX6_stock_57 (lv_at hl 4 rfl) ?_
    refine lv_iload_n hx hb dX6_stock_59 rfl (lv_at hl 2 rfl) ?_
    refine lv_iadd hx hb dX6_stock_60 ?_
    refine lv_iconst (v := (4 : Int32)) hx hb dX6_stock_61 (by decide) ?_
    refine lv_icmp_gt (tgt := 76) hx hb dX6_stock_62 (by decide) (fun c2 => ?_) (fun c2 => ?_)
    · have h := (if_pos c2).symm.trans h
      refine lv_bipush (v := (-4 : Int32)) hx hb dX6_stock_76 (by decide) ?_
      exact hret (-4 : Int32) fN fkd fks 78 ls H locs rfl dX6_stock_78 hP hD hS h
    · have h := (if_neg c2).symm.trans h
      refine lv_aload_n hx hb dX6_stock_65 rfl (lv_at hl 0 rfl) ?_
      obtain ⟨r_66, q_66, h⟩ := bd1_some h
      refine fr_ro_i (S := Unit) (wc := [(aM, .inr (6, [.ref mN, .ref mkd, .ref mks, .ref mcd, .ref mpr, .ref msk, .ref mow, .ref mmi, .ref mst, .ref mbi, .ref msu, .ref mke, .ref mik, .int vka, .int viw])), (mN, .inl (cI, 9, .inl fN)), (mks, .inl (cI, 8, .inl fks))]) (fr_V (As := []) (rest := []) (C := RX6) ⟨hx, hb, hml, hown, hts⟩ (tX6_stocks aM mN mks mkd mcd mpr msk mow mmi mst mbi msu mke mik vka viw fN fks r_66 q_66) gX6_stock_X6_stocks rfl (fr_preV (As := []) (b := aM) (ci := 6) (q0 := 0) (wc := [(aM, .inr (6, [.ref mN, .ref mkd, .ref mks, .ref mcd, .ref mpr, .ref msk, .ref mow, .ref mmi, .ref mst, .ref mbi, .ref msu, .ref mke, .ref mik, .int vka, .int viw])), (mN, .inl (cI, 9, .inl fN)), (mks, .inl (cI, 8, .inl fks))]) hK hN hP hD [0, 1, 3] (by decide) rfl rfl rfl) (n := 0) (by decide +kernel) ⟨Nat.le_of_ble_eq_true rfl, Nat.le_of_ble_eq_true rfl⟩ rfl hl.1 rfl (Nat.le_of_ble_eq_true rfl) dX6_stock_66 ⟨Nat.zero_le _, Nat.zero_le _⟩) hP hD hS hA [0, 1, 3] rfl (c2 := 0) (s2 := 0) rfl rfl (fun H locs hP hS => ?_)
      refine lv_iload_n hx hb dX6_stock_69 rfl (lv_at hl 2 rfl) ?_
      refine lv_iadd hx hb dX6_stock_70 ?_
      refine lv_bipush (v := (16 : Int32)) hx hb dX6_stock_71 (by decide) ?_
      refine lv_icmp_le (tgt := 79) hx hb dX6_stock_73 (by decide) (fun c3 => ?_) (fun c3 => ?_)
      · have h := (if_pos c3).symm.trans h
        refine lv_iload_n hx hb dX6_stock_79 rfl (lv_at hl 3 rfl) ?_
        refine lv_if_ge (tgt := 105) hx hb dX6_stock_80 (by decide) (fun c4 => ?_) (fun c4 => ?_)
        · have h := (if_pos c4).symm.trans h
          exact hb105 x2 x3 x4 fN fkd fks H locs ls hP hD hS (lv_sub hl [0, 2, 3, 4] rfl) h
        · have h := (if_neg c4).symm.trans h
          refine lv_aload_n hx hb dX6_stock_83 rfl (lv_at hl 0 rfl) ?_
          obtain ⟨r_84, q_84, h⟩ := bd1_some h
          refine fr_ro_i (S := Unit) (wc := [(aM, .inr (6, [.ref mN, .ref mkd, .ref mks, .ref mcd, .ref mpr, .ref msk, .ref mow, .ref mmi, .ref mst, .ref mbi, .ref msu, .ref mke, .ref mik, .int vka, .int viw])), (mN, .inl (cI, 9, .inl fN))]) (fr_V (As := []) (rest := []) (C := RX6) ⟨hx, hb, hml, hown, hts⟩ (tX6_kinds aM mN mkd mks mcd mpr msk mow mmi mst mbi msu mke mik vka viw fN r_84 q_84) gX6_stock_X6_kinds rfl (fr_preV (As := []) (b := aM) (ci := 6) (q0 := 0) (wc := [(aM, .inr (6, [.ref mN, .ref mkd, .ref mks, .ref mcd, .ref mpr, .ref msk, .ref mow, .ref mmi, .ref mst, .ref mbi, .ref msu, .ref mke, .ref mik, .int vka, .int viw])), (mN, .inl (cI, 9, .inl fN))]) hK hN hP hD [0, 1] (by decide) rfl rfl rfl) (n := 0) (by decide +kernel) ⟨Nat.le_of_ble_eq_true rfl, Nat.le_of_ble_eq_true rfl⟩ rfl hl.1 rfl (Nat.le_of_ble_eq_true rfl) dX6_stock_84 ⟨Nat.zero_le _, Nat.zero_le _⟩) hP hD hS hA [0, 1] rfl (c2 := 0) (s2 := 0) rfl rfl (fun H locs hP hS => ?_)
          refine lv_istore_n (lv' := [(3, .int r_84), (0, .ref aM), (1, .int x1), (2, .int x2), (4, .int x4)]) hx hb dX6_stock_87 rfl hl (by decide) rfl (fun ls hl => ?_)
          refine lv_aload_n hx hb dX6_stock_88 rfl (lv_at hl 1 rfl) ?_
          refine va_get (D := D) (ci := 6) (v := .ref mkd) (C := RX6) (T := TX6) (N := 15) hx hb hts i6 hown hK hP 0 rfl rfl 1 (by decide) (hts (.fieldLink RX6 13 RX6 "kindDots" "[I") (List.mem_of_getElem? (i := 3) rfl)) (fun _ h9 => h9) rfl dX6_stock_89 ?_
          refine lv_iload_n hx hb dX6_stock_92 rfl (lv_at hl 0 rfl) ?_
          refine lv_iload_n hx hb dX6_stock_93 rfl (lv_at hl 2 rfl) ?_
          obtain ⟨g5, h⟩ := no_some h
          refine va_iast hx hb hK hP hD hS 2 0 rfl rfl g5 dX6_stock_94 (fun H locs hP hD hS => ?_)
          have hP : va_P D vwCl [(aM, .inr (6, [.ref mN, .ref mkd, .ref mks, .ref mcd, .ref mpr, .ref msk, .ref mow, .ref mmi, .ref mst, .ref mbi, .ref msu, .ref mke, .ref mik, .int vka, .int viw])), (mN, .inl (cI, 9, .inl fN)), (mkd, .inl (cI, 8, .inl (upd fkd r_84.toNatClampNeg x1))), (mks, .inl (cI, 8, .inl fks)), (mcd, .inl (cI, 12, .inl fcd)), (mpr, .inl (cI, 16, .inl fpr)), (msk, .inl (cI, 16, .inl fsk)), (mow, .inl (cI, 16, .inl fow)), (mmi, .inl (cI, 16, .inl fmi)), (mst, .inl (cI, 16, .inl fst)), (mbi, .inl (cI, 16, .inl fbi)), (msu, .inl (cI, 16, .inl fsu)), (mke, .inl (cI, 298, .inl fke)), (mik, .inl (cZ, 2, .inl fik))] H := hP
          have hD : va_D A [(aM, .inr (6, [.ref mN, .ref mkd, .ref mks, .ref mcd, .ref mpr, .ref msk, .ref mow, .ref mmi, .ref mst, .ref mbi, .ref msu, .ref mke, .ref mik, .int vka, .int viw])), (mN, .inl (cI, 9, .inl fN)), (mkd, .inl (cI, 8, .inl (upd fkd r_84.toNatClampNeg x1))), (mks, .inl (cI, 8, .inl fks)), (mcd, .inl (cI, 12, .inl fcd)), (mpr, .inl (cI, 16, .inl fpr)), (msk, .inl (cI, 16, .inl fsk)), (mow, .inl (cI, 16, .inl fow)), (mmi, .inl (cI, 16, .inl fmi)), (mst, .inl (cI, 16, .inl fst)), (mbi, .inl (cI, 16, .inl fbi)), (msu, .inl (cI, 16, .inl fsu)), (mke, .inl (cI, 298, .inl fke)), (mik, .inl (cZ, 2, .inl fik))] := hD
          refine lv_aload_n hx hb dX6_stock_95 rfl (lv_at hl 1 rfl) ?_
          refine va_get (D := D) (ci := 6) (v := .ref mN) (C := RX6) (T := TX6) (N := 15) hx hb hts i6 hown hK hP 0 rfl rfl 0 (by decide) (hts (.fieldLink RX6 7 RX6 "now" "[I") (List.mem_of_getElem? (i := 4) rfl)) (fun _ h9 => h9) rfl dX6_stock_96 ?_
          refine lv_iconst (v := (2 : Int32)) hx hb dX6_stock_99 (by decide) ?_
          refine lv_dup2_11 hx hb dX6_stock_100 rfl rfl ?_
          refine fr_iald (j := 2) hx hb hK hP 1 0 rfl rfl (by decide) (vin_of 2 9 (2 : Int32) (by decide) (by decide) (by decide)) dX6_stock_101 ?_
          refine lv_iconst (v := (1 : Int32)) hx hb dX6_stock_102 (by decide) ?_
          refine lv_iadd hx hb dX6_stock_103 ?_
          refine fr_iast (j := 2) hx hb hK hP hD hS 1 0 rfl rfl (by decide) (vin_of 2 9 (2 : Int32) (by decide) (by decide) (by decide)) dX6_stock_104 (fun H locs hP hD hS => ?_)
          have hP : va_P D vwCl [(aM, .inr (6, [.ref mN, .ref mkd, .ref mks, .ref mcd, .ref mpr, .ref msk, .ref mow, .ref mmi, .ref mst, .ref mbi, .ref msu, .ref mke, .ref mik, .int vka, .int viw])), (mN, .inl (cI, 9, .inl (upd fN 2 ((fN 2) + (1 : Int32))))), (mkd, .inl (cI, 8, .inl (upd fkd r_84.toNatClampNeg x1))), (mks, .inl (cI, 8, .inl fks)), (mcd, .inl (cI, 12, .inl fcd)), (mpr, .inl (cI, 16, .inl fpr)), (msk, .inl (cI, 16, .inl fsk)), (mow, .inl (cI, 16, .inl fow)), (mmi, .inl (cI, 16, .inl fmi)), (mst, .inl (cI, 16, .inl fst)), (mbi, .inl (cI, 16, .inl fbi)), (msu, .inl (cI, 16, .inl fsu)), (mke, .inl (cI, 298, .inl fke)), (mik, .inl (cZ, 2, .inl fik))] H := hP
          have hD : va_D A [(aM, .inr (6, [.ref mN, .ref mkd, .ref mks, .ref mcd, .ref mpr, .ref msk, .ref mow, .ref mmi, .ref mst, .ref mbi, .ref msu, .ref mke, .ref mik, .int vka, .int viw])), (mN, .inl (cI, 9, .inl (upd fN 2 ((fN 2) + (1 : Int32))))), (mkd, .inl (cI, 8, .inl (upd fkd r_84.toNatClampNeg x1))), (mks, .inl (cI, 8, .inl fks)), (mcd, .inl (cI, 12, .inl fcd)), (mpr, .inl (cI, 16, .inl fpr)), (msk, .inl (cI, 16, .inl fsk)), (mow, .inl (cI, 16, .inl fow)), (mmi, .inl (cI, 16, .inl fmi)), (mst, .inl (cI, 16, .inl fst)), (mbi, .inl (cI, 16, .inl fbi)), (msu, .inl (cI, 16, .inl fsu)), (mke, .inl (cI, 298, .inl fke)), (mik, .inl (cZ, 2, .inl fik))] := hD
          exact hb105 x2 r_84 x4 (upd fN 2 ((fN 2) + (1 : Int32))) (upd fkd r_84.toNatClampNeg x1) fks H locs ls hP hD hS (lv_sub hl [1, 3, 0, 4] rfl) h
      · have h := (if_neg c3).symm.trans h
        refine lv_bipush (v := (-4 : Int32)) hx hb dX6_stock_76 (by decide) ?_
        exact hret (-4 : Int32) fN fkd fks 78 ls H locs rfl dX6_stock_78 hP hD hS h
  have hb42 : ∀ (x1 : Int32) (x2 : Int32) (x3 : Int32) (y0 : Int32) (fN : Nat → Int32) (fkd : Nat → Int32) (fks : Nat → Int32) (H : Heap) (locs : List Loc) (ls : Array Slot), va_P D vwCl [(aM, .inr (6, [.ref mN, .ref mkd, .ref mks, .ref mcd, .ref mpr, .ref msk, .ref mow, .ref mmi, .ref mst, .ref mbi, .ref msu, .ref mke, .ref mik, .int vka, .int viw])), (mN, .inl (cI, 9, .inl fN)), (mkd, .inl (cI, 8, .inl fkd)), (mks, .inl (cI, 8, .inl fks)), (mcd, .inl (cI, 12, .inl fcd)), (mpr, .inl (cI, 16, .inl fpr)), (msk, .inl (cI, 16, .inl fsk)), (mow, .inl (cI, 16, .inl fow)), (mmi, .inl (cI, 16, .inl fmi)), (mst, .inl (cI, 16, .inl fst)), (mbi, .inl (cI, 16, .inl fbi)), (msu, .inl (cI, 16, .inl fsu)), (mke, .inl (cI, 298, .inl fke)), (mik, .inl (cZ, 2, .inl fik))] H → va_D A [(aM, .inr (6, [.ref mN, .ref mkd, .ref mks, .ref mcd, .ref mpr, .ref msk, .ref mow, .ref mmi, .ref mst, .ref mbi, .ref msu, .ref mke, .ref mik, .int vka, .int viw])), (mN, .inl (cI, 9, .inl fN)), (mkd, .inl (cI, 8, .inl fkd)), (mks, .inl (cI, 8, .inl fks)), (mcd, .inl (cI, 12, .inl fcd)), (mpr, .inl (cI, 16, .inl fpr)), (msk, .inl (cI, 16, .inl fsk)), (mow, .inl (cI, 16, .inl fow)), (mmi, .inl (cI, 16, .inl fmi)), (mst, .inl (cI, 16, .inl fst)), (mbi, .inl (cI, 16, .inl fbi)), (msu, .inl (cI, 16, .inl fsu)), (mke, .inl (cI, 298, .inl fke)), (mik, .inl (cZ, 2, .inl fik))] → va_S A s.heap H locs → lv_has ls 5 [(0, .ref aM), (1, .int x1), (2, .int x2), (3, .int x3)] → fX6_stock_b42  x1 x2 x3 y0 fN fkd fks = some (r, oN, okd, oks) → W p l e rX6_stock s m args below meth c H locs 0 0 Q (F0 m 42 ls [.int y0]) := by
    intro x1 x2 x3 y0 fN fkd fks H locs ls hP hD hS hl h
    unfold fX6_stock_b42 at h
    refine lv_istore (lv' := [(4, .int y0), (0, .ref aM), (1, .int x1), (2, .int x2), (3, .int x3)]) hx hb dX6_stock_42 hl (by decide) rfl (fun ls hl => ?_)
    refine lv_iload_n hx hb dX6_stock_44 rfl (lv_at hl 4 rfl) ?_
    refine lv_if_ge (tgt := 57) hx hb dX6_stock_45 (by decide) (fun c6 => ?_) (fun c6 => ?_)
    · have h := (if_pos c6).symm.trans h
      exact hb57 x1 x2 x3 y0 fN fkd fks H locs ls hP hD hS (lv_sub hl [1, 2, 3, 4, 0] rfl) h
    · have h := (if_neg c6).symm.trans h
      refine lv_aload_n hx hb dX6_stock_48 rfl (lv_at hl 1 rfl) ?_
      obtain ⟨r_49, q_49, h⟩ := bd1_some h
      refine fr_ro_i (S := Unit) (wc := [(aM, .inr (6, [.ref mN, .ref mkd, .ref mks, .ref mcd, .ref mpr, .ref msk, .ref mow, .ref mmi, .ref mst, .ref mbi, .ref msu, .ref mke, .ref mik, .int vka, .int viw])), (mN, .inl (cI, 9, .inl fN))]) (fr_V (As := []) (rest := []) (C := RX6) ⟨hx, hb, hml, hown, hts⟩ (tX6_kinds aM mN mkd mks mcd mpr msk mow mmi mst mbi msu mke mik vka viw fN r_49 q_49) gX6_stock_X6_kinds rfl (fr_preV (As := []) (b := aM) (ci := 6) (q0 := 0) (wc := [(aM, .inr (6, [.ref mN, .ref mkd, .ref mks, .ref mcd, .ref mpr, .ref msk, .ref mow, .ref mmi, .ref mst, .ref mbi, .ref msu, .ref mke, .ref mik, .int vka, .int viw])), (mN, .inl (cI, 9, .inl fN))]) hK hN hP hD [0, 1] (by decide) rfl rfl rfl) (n := 0) (by decide +kernel) ⟨Nat.le_of_ble_eq_true rfl, Nat.le_of_ble_eq_true rfl⟩ rfl hl.1 rfl (Nat.le_of_ble_eq_true rfl) dX6_stock_49 ⟨Nat.zero_le _, Nat.zero_le _⟩) hP hD hS hA [0, 1] rfl (c2 := 0) (s2 := 0) rfl rfl (fun H locs hP hS => ?_)
      refine lv_bipush (v := (8 : Int32)) hx hb dX6_stock_52 (by decide) ?_
      refine lv_icmp_eq (tgt := 76) hx hb dX6_stock_54 (by decide) (fun c7 => ?_) (fun c7 => ?_)
      · have h := (if_pos c7).symm.trans h
        refine lv_bipush (v := (-4 : Int32)) hx hb dX6_stock_76 (by decide) ?_
        exact hret (-4 : Int32) fN fkd fks 78 ls H locs rfl dX6_stock_78 hP hD hS h
      · have h := (if_neg c7).symm.trans h
        exact hb57 x1 x2 x3 y0 fN fkd fks H locs ls hP hD hS (lv_sub hl [1, 2, 3, 4, 0] rfl) h
  unfold fX6_stock at h
  obtain ⟨H, hH⟩ : ∃ H, H = s.heap := ⟨_, rfl⟩
  have hP : va_P D vwCl [(aM, .inr (6, [.ref mN, .ref mkd, .ref mks, .ref mcd, .ref mpr, .ref msk, .ref mow, .ref mmi, .ref mst, .ref mbi, .ref msu, .ref mke, .ref mik, .int vka, .int viw])), (mN, .inl (cI, 9, .inl fN)), (mkd, .inl (cI, 8, .inl fkd)), (mks, .inl (cI, 8, .inl fks)), (mcd, .inl (cI, 12, .inl fcd)), (mpr, .inl (cI, 16, .inl fpr)), (msk, .inl (cI, 16, .inl fsk)), (mow, .inl (cI, 16, .inl fow)), (mmi, .inl (cI, 16, .inl fmi)), (mst, .inl (cI, 16, .inl fst)), (mbi, .inl (cI, 16, .inl fbi)), (msu, .inl (cI, 16, .inl fsu)), (mke, .inl (cI, 298, .inl fke)), (mik, .inl (cZ, 2, .inl fik))] H := by rw [hH]; exact hP
  obtain ⟨locs, hlocs⟩ : ∃ x : List Loc, x = [] := ⟨_, rfl⟩
  have hS : va_S A s.heap H locs := by rw [hH, hlocs]; exact hS
  suffices hgo : W p l e rX6_stock s m args below meth c H locs 0 0 Q (F0 m 0 ls []) by rw [hH, hlocs] at hgo; exact hgo
  refine lv_iload_n hx hb dX6_stock_0 rfl (lv_at hl 1 rfl) ?_
  obtain ⟨r_1, q_1, h⟩ := bd1_some h
  refine fr_ro_i (S := Unit) (wc := []) (fr_S (As := [.int x1]) (rest := []) ⟨hx, hb, hml, hown, hts⟩ (tX6_isDots x1 r_1 q_1) gX6_stock_X6_isDots rfl (fr_pre (As := [.int x1]) (wc := []) hK hN hP hD [] (by decide) rfl) (n := 1) (by decide +kernel) ⟨Nat.le_of_ble_eq_true rfl, Nat.le_of_ble_eq_true rfl⟩ rfl hl.1 rfl (Nat.le_of_ble_eq_true rfl) dX6_stock_1 ⟨Nat.zero_le _, Nat.zero_le _⟩) hP hD hS hA [] rfl (c2 := 0) (s2 := 0) rfl rfl (fun H locs hP hS => ?_)
  refine lv_if_eq (tgt := 19) hx hb dX6_stock_4 (by decide) (fun c8 => ?_) (fun c8 => ?_)
  · have h := (if_pos c8).symm.trans h
    refine lv_bipush (v := (-2 : Int32)) hx hb dX6_stock_19 (by decide) ?_
    exact hret (-2 : Int32) fN fkd fks 21 ls H locs rfl dX6_stock_21 hP hD hS h
  · have h := (if_neg c8).symm.trans h
    refine lv_iload_n hx hb dX6_stock_7 rfl (lv_at hl 2 rfl) ?_
    refine lv_i2l (v := x2.toInt64) hx hb dX6_stock_8 rfl ?_
    refine lv_lconst (v := (1 : Int64)) hx hb dX6_stock_9 (by decide) ?_
    refine lv_ldc2 (v := (4 : Int64)) hx hb hown (hts (.constantLong RX6 71 (4 : Int64)) (List.mem_of_getElem? (i := 1) rfl)) dX6_stock_10 ?_
    obtain ⟨r_13, q_13, h⟩ := bd1_some h
    refine fr_ro_i (S := Unit) (wc := []) (fr_S (As := [.long x2.toInt64, .long (1 : Int64), .long (4 : Int64)]) (rest := []) ⟨hx, hb, hml, hown, hts⟩ (tX6_in x2.toInt64 (1 : Int64) (4 : Int64) r_13 q_13) gX6_stock_X6_in rfl (fr_pre (As := [.long x2.toInt64, .long (1 : Int64), .long (4 : Int64)]) (wc := []) hK hN hP hD [] (by decide) rfl) (n := 3) (by decide +kernel) ⟨Nat.le_of_ble_eq_true rfl, Nat.le_of_ble_eq_true rfl⟩ rfl hl.1 rfl (Nat.le_of_ble_eq_true rfl) dX6_stock_13 ⟨Nat.zero_le _, Nat.zero_le _⟩) hP hD hS hA [] rfl (c2 := 0) (s2 := 0) rfl rfl (fun H locs hP hS => ?_)
    refine lv_if_ne (tgt := 22) hx hb dX6_stock_16 (by decide) (fun c9 => ?_) (fun c9 => ?_)
    · have h := (if_neg c9).symm.trans h
      refine lv_aload_n hx hb dX6_stock_22 rfl (lv_at hl 0 rfl) ?_
      refine lv_iload_n hx hb dX6_stock_23 rfl (lv_at hl 1 rfl) ?_
      obtain ⟨r_24, q_24, h⟩ := bd1_some h
      refine fr_ro_i (S := Unit) (wc := [(aM, .inr (6, [.ref mN, .ref mkd, .ref mks, .ref mcd, .ref mpr, .ref msk, .ref mow, .ref mmi, .ref mst, .ref mbi, .ref msu, .ref mke, .ref mik, .int vka, .int viw])), (mN, .inl (cI, 9, .inl fN)), (mkd, .inl (cI, 8, .inl fkd))]) (fr_V (As := [.int x1]) (rest := []) (C := RX6) ⟨hx, hb, hml, hown, hts⟩ (tX6_kindOf aM mN mkd mks mcd mpr msk mow mmi mst mbi msu mke mik vka viw fN fkd x1 r_24 q_24) gX6_stock_X6_kindOf rfl (fr_preV (As := [.int x1]) (b := aM) (ci := 6) (q0 := 0) (wc := [(aM, .inr (6, [.ref mN, .ref mkd, .ref mks, .ref mcd, .ref mpr, .ref msk, .ref mow, .ref mmi, .ref mst, .ref mbi, .ref msu, .ref mke, .ref mik, .int vka, .int viw])), (mN, .inl (cI, 9, .inl fN)), (mkd, .inl (cI, 8, .inl fkd))]) hK hN hP hD [0, 1, 2] (by decide) rfl rfl rfl) (n := 1) (by decide +kernel) ⟨Nat.le_of_ble_eq_true rfl, Nat.le_of_ble_eq_true rfl⟩ rfl hl.1 rfl (Nat.le_of_ble_eq_true rfl) dX6_stock_24 ⟨Nat.zero_le _, Nat.zero_le _⟩) hP hD hS hA [0, 1, 2] rfl (c2 := 0) (s2 := 0) rfl rfl (fun H locs hP hS => ?_)
      refine lv_istore_n (lv' := [(3, .int r_24), (0, .ref aM), (1, .int x1), (2, .int x2)]) hx hb dX6_stock_27 rfl hl (by decide) rfl (fun ls hl => ?_)
      refine lv_iload_n hx hb dX6_stock_28 rfl (lv_at hl 0 rfl) ?_
      refine lv_if_ge (tgt := 36) hx hb dX6_stock_29 (by decide) (fun c10 => ?_) (fun c10 => ?_)
      · have h := (if_pos c10).symm.trans h
        refine lv_aload_n hx hb dX6_stock_36 rfl (lv_at hl 1 rfl) ?_
        refine va_get (D := D) (ci := 6) (v := .ref mks) (C := RX6) (T := TX6) (N := 15) hx hb hts i6 hown hK hP 0 rfl rfl 2 (by decide) (hts (.fieldLink RX6 16 RX6 "kindStock" "[I") (List.mem_of_getElem? (i := 2) rfl)) (fun _ h9 => h9) rfl dX6_stock_37 ?_
        refine lv_iload_n hx hb dX6_stock_40 rfl (lv_at hl 0 rfl) ?_
        obtain ⟨g11, h⟩ := no_some h
        refine va_iald hx hb hK hP 3 0 rfl rfl g11 dX6_stock_41 ?_
        exact hb42 x1 x2 r_24 (fks r_24.toNatClampNeg) fN fkd fks H locs ls hP hD hS (lv_sub hl [1, 2, 3, 0] rfl) h
      · have h := (if_neg c10).symm.trans h
        refine lv_iconst (v := (0 : Int32)) hx hb dX6_stock_32 (by decide) ?_
        refine lv_goto (tgt := 42) hx hb dX6_stock_33 (by decide) ?_
        exact hb42 x1 x2 r_24 (0 : Int32) fN fkd fks H locs ls hP hD hS (lv_sub hl [1, 2, 3, 0] rfl) h
    · have h := (if_pos c9).symm.trans h
      refine lv_bipush (v := (-2 : Int32)) hx hb dX6_stock_19 (by decide) ?_
      exact hret (-2 : Int32) fN fkd fks 21 ls H locs rfl dX6_stock_21 hP hD hS h
def fX6_drop_b35  : Nat → Int32 → (Nat → Int32) → (Nat → Int32) → (Nat → Int32) → Option (Int32 × (Nat → Int32) × (Nat → Int32) × (Nat → Int32))
  | 0, _, _, _, _ => none
  | n + 1, x3, fN, fkd, fks =>
    bd1 (fX6_kinds fN) fun r_37 =>
    if r_37 ≤ x3 then
      bd1 (fX6_end fN) fun fN_78 =>
      bd1 (fX6_kinds fN_78) fun r_82 =>
      some (r_82, fN_78, fkd, fks)
    else
      if x3 + (1 : Int32) < 0 ∨ 8 ≤ (x3 + (1 : Int32)).toNatClampNeg then none else
      if x3 < 0 ∨ 8 ≤ x3.toNatClampNeg then none else
      if x3 + (1 : Int32) < 0 ∨ 8 ≤ (x3 + (1 : Int32)).toNatClampNeg then none else
      if x3 < 0 ∨ 8 ≤ x3.toNatClampNeg then none else
      fX6_drop_b35  n (x3 + 1) fN (upd fkd x3.toNatClampNeg (fkd ((x3 + (1 : Int32)).toNatClampNeg))) (upd fks x3.toNatClampNeg (fks ((x3 + (1 : Int32)).toNatClampNeg)))
def fX6_drop (fN : Nat → Int32) (fkd : Nat → Int32) (fks : Nat → Int32) (x1 : Int32) : Option (Int32 × (Nat → Int32) × (Nat → Int32) × (Nat → Int32)) :=
  bd1 (fX6_isDots x1) fun r_1 =>
  if r_1 = 0 then
    some ((-2 : Int32), fN, fkd, fks)
  else
    bd1 (fX6_kindOf fN fkd x1) fun r_12 =>
    if 0 ≤ r_12 then
      fX6_drop_b35  FU r_12 (upd fN 2 ((fN 2) - (1 : Int32))) fkd fks
    else
      some ((-5 : Int32), fN, fkd, fks)
abbrev rX6_drop : Room := { frames := 2, cells := 0, slots := 0, locals := 45 }
set_option maxHeartbeats 4000000 in
set_option maxRecDepth 100000 in
theorem tX6_drop {l : Launch} {D : va_G} {cI cZ cP : ClassId} (aM mN mkd mks mcd mpr msk mow mmi mst mbi msu mke mik : Nat) (vka : Int32) (viw : Int32) (fN : Nat → Int32) (fkd : Nat → Int32) (fks : Nat → Int32) (fcd : Nat → Int32) (fpr : Nat → Int32) (fsk : Nat → Int32) (fow : Nat → Int32) (fmi : Nat → Int32) (fst : Nat → Int32) (fbi : Nat → Int32) (fsu : Nat → Int32) (fke : Nat → Int32) (fik : Nat → Int32) (x1 : Int32) (r : Int32) (oN : Nat → Int32) (okd : Nat → Int32) (oks : Nat → Int32) (h : fX6_drop fN fkd fks x1 = some (r, oN, okd, oks)) : CtI l D cI cZ cP yX6_drop wsX6_drop rX6_drop [.ref aM, .int x1] [(aM, .inr (6, [.ref mN, .ref mkd, .ref mks, .ref mcd, .ref mpr, .ref msk, .ref mow, .ref mmi, .ref mst, .ref mbi, .ref msu, .ref mke, .ref mik, .int vka, .int viw])), (mN, .inl (cI, 9, .inl fN)), (mkd, .inl (cI, 8, .inl fkd)), (mks, .inl (cI, 8, .inl fks)), (mcd, .inl (cI, 12, .inl fcd)), (mpr, .inl (cI, 16, .inl fpr)), (msk, .inl (cI, 16, .inl fsk)), (mow, .inl (cI, 16, .inl fow)), (mmi, .inl (cI, 16, .inl fmi)), (mst, .inl (cI, 16, .inl fst)), (mbi, .inl (cI, 16, .inl fbi)), (msu, .inl (cI, 16, .inl fsu)), (mke, .inl (cI, 298, .inl fke)), (mik, .inl (cZ, 2, .inl fik))] (fun _ : Unit => [(aM, .inr (6, [.ref mN, .ref mkd, .ref mks, .ref mcd, .ref mpr, .ref msk, .ref mow, .ref mmi, .ref mst, .ref mbi, .ref msu, .ref mke, .ref mik, .int vka, .int viw])), (mN, .inl (cI, 9, .inl oN)), (mkd, .inl (cI, 8, .inl okd)), (mks, .inl (cI, 8, .inl oks)), (mcd, .inl (cI, 12, .inl fcd)), (mpr, .inl (cI, 16, .inl fpr)), (msk, .inl (cI, 16, .inl fsk)), (mow, .inl (cI, 16, .inl fow)), (mmi, .inl (cI, 16, .inl fmi)), (mst, .inl (cI, 16, .inl fst)), (mbi, .inl (cI, 16, .inl fbi)), (msu, .inl (cI, 16, .inl fsu)), (mke, .inl (cI, 298, .inl fke)), (mik, .inl (cZ, 2, .inl fik))]) r := by
  refine CtI.ofW (cc := cX6_drop) (maxL := 4) (by decide) rfl (Nat.le_of_ble_eq_true rfl) (lv := [(0, .ref aM), (1, .int x1)]) rfl ?_
  intro p e s m args below meth c A Q ls hx hb hml hown hts hK hN hP hD hS hA hl hret0
  have hown : s.vm.findClass RX6 = some m.cls := hown
  have i6 : ∀ w ∈ wsX60, w ∈ wsX6_drop := mem_ps [24, 25, 26, 27, 28, 29, 30, 31, 32, 33, 34, 35, 36, 37, 38] rfl
  have hret : ∀ (v : Int32) (zN : Nat → Int32) (zkd : Nat → Int32) (zks : Nat → Int32) (pc : Nat) (ls : Array Slot) (H : Heap) (locs : List Loc), narrow .int (.int v) = .int v → decode cX6_drop pc = .ok (.ireturn, 1) → va_P D vwCl [(aM, .inr (6, [.ref mN, .ref mkd, .ref mks, .ref mcd, .ref mpr, .ref msk, .ref mow, .ref mmi, .ref mst, .ref mbi, .ref msu, .ref mke, .ref mik, .int vka, .int viw])), (mN, .inl (cI, 9, .inl zN)), (mkd, .inl (cI, 8, .inl zkd)), (mks, .inl (cI, 8, .inl zks)), (mcd, .inl (cI, 12, .inl fcd)), (mpr, .inl (cI, 16, .inl fpr)), (msk, .inl (cI, 16, .inl fsk)), (mow, .inl (cI, 16, .inl fow)), (mmi, .inl (cI, 16, .inl fmi)), (mst, .inl (cI, 16, .inl fst)), (mbi, .inl (cI, 16, .inl fbi)), (msu, .inl (cI, 16, .inl fsu)), (mke, .inl (cI, 298, .inl fke)), (mik, .inl (cZ, 2, .inl fik))] H → va_D A [(aM, .inr (6, [.ref mN, .ref mkd, .ref mks, .ref mcd, .ref mpr, .ref msk, .ref mow, .ref mmi, .ref mst, .ref mbi, .ref msu, .ref mke, .ref mik, .int vka, .int viw])), (mN, .inl (cI, 9, .inl zN)), (mkd, .inl (cI, 8, .inl zkd)), (mks, .inl (cI, 8, .inl zks)), (mcd, .inl (cI, 12, .inl fcd)), (mpr, .inl (cI, 16, .inl fpr)), (msk, .inl (cI, 16, .inl fsk)), (mow, .inl (cI, 16, .inl fow)), (mmi, .inl (cI, 16, .inl fmi)), (mst, .inl (cI, 16, .inl fst)), (mbi, .inl (cI, 16, .inl fbi)), (msu, .inl (cI, 16, .inl fsu)), (mke, .inl (cI, 298, .inl fke)), (mik, .inl (cZ, 2, .inl fik))] → va_S A s.heap H locs → some (v, zN, zkd, zks) = some (r, oN, okd, oks) → W p l e rX6_drop s m args below meth c H locs 0 0 Q (F0 m pc ls [.int v]) := by
    intro v zN zkd zks pc ls H locs hn hd hP hD hS h
    cases h
    exact hret0 pc ls H locs () hn hd hP hD hS
  clear hret0
  have hb35 : ∀ (n : Nat) (x3 : Int32) (fN : Nat → Int32) (fkd : Nat → Int32) (fks : Nat → Int32) (H : Heap) (locs : List Loc) (ls : Array Slot), va_P D vwCl [(aM, .inr (6, [.ref mN, .ref mkd, .ref mks, .ref mcd, .ref mpr, .ref msk, .ref mow, .ref mmi, .ref mst, .ref mbi, .ref msu, .ref mke, .ref mik, .int vka, .int viw])), (mN, .inl (cI, 9, .inl fN)), (mkd, .inl (cI, 8, .inl fkd)), (mks, .inl (cI, 8, .inl fks)), (mcd, .inl (cI, 12, .inl fcd)), (mpr, .inl (cI, 16, .inl fpr)), (msk, .inl (cI, 16, .inl fsk)), (mow, .inl (cI, 16, .inl fow)), (mmi, .inl (cI, 16, .inl fmi)), (mst, .inl (cI, 16, .inl fst)), (mbi, .inl (cI, 16, .inl fbi)), (msu, .inl (cI, 16, .inl fsu)), (mke, .inl (cI, 298, .inl fke)), (mik, .inl (cZ, 2, .inl fik))] H → va_D A [(aM, .inr (6, [.ref mN, .ref mkd, .ref mks, .ref mcd, .ref mpr, .ref msk, .ref mow, .ref mmi, .ref mst, .ref mbi, .ref msu, .ref mke, .ref mik, .int vka, .int viw])), (mN, .inl (cI, 9, .inl fN)), (mkd, .inl (cI, 8, .inl fkd)), (mks, .inl (cI, 8, .inl fks)), (mcd, .inl (cI, 12, .inl fcd)), (mpr, .inl (cI, 16, .inl fpr)), (msk, .inl (cI, 16, .inl fsk)), (mow, .inl (cI, 16, .inl fow)), (mmi, .inl (cI, 16, .inl fmi)), (mst, .inl (cI, 16, .inl fst)), (mbi, .inl (cI, 16, .inl fbi)), (msu, .inl (cI, 16, .inl fsu)), (mke, .inl (cI, 298, .inl fke)), (mik, .inl (cZ, 2, .inl fik))] → va_S A s.heap H locs → lv_has ls 4 [(0, .ref aM), (3, .int x3)] → fX6_drop_b35  n x3 fN fkd fks = some (r, oN, okd, oks) → W p l e rX6_drop s m args below meth c H locs 0 0 Q (F0 m 35 ls []) := by
    intro n
    induction n with
    | zero => intro x3 fN fkd fks H locs ls hP hD hS hl h; exact absurd h (by rw [fX6_drop_b35]; exact fun z => by cases z)
    | succ n ih =>
      intro x3 fN fkd fks H locs ls hP hD hS hl h
      rw [fX6_drop_b35] at h
      refine lv_iload_n hx hb dX6_drop_35 rfl (lv_at hl 1 rfl) ?_
      refine lv_aload_n hx hb dX6_drop_36 rfl (lv_at hl 0 rfl) ?_
      obtain ⟨r_37, q_37, h⟩ := bd1_some h
      refine fr_ro_i (S := Unit) (wc := [(aM, .inr (6, [.ref mN, .ref mkd, .ref mks, .ref mcd, .ref mpr, .ref msk, .ref mow, .ref mmi, .ref mst, .ref mbi, .ref msu, .ref mke, .ref mik, .int vka, .int viw])), (mN, .inl (cI, 9, .inl fN))]) (fr_V (As := []) (rest := [.int x3]) (C := RX6) ⟨hx, hb, hml, hown, hts⟩ (tX6_kinds aM mN mkd mks mcd mpr msk mow mmi mst mbi msu mke mik vka viw fN r_37 q_37) gX6_drop_X6_kinds rfl (fr_preV (As := []) (b := aM) (ci := 6) (q0 := 0) (wc := [(aM, .inr (6, [.ref mN, .ref mkd, .ref mks, .ref mcd, .ref mpr, .ref msk, .ref mow, .ref mmi, .ref mst, .ref mbi, .ref msu, .ref mke, .ref mik, .int vka, .int viw])), (mN, .inl (cI, 9, .inl fN))]) hK hN hP hD [0, 1] (by decide) rfl rfl rfl) (n := 0) (by decide +kernel) ⟨Nat.le_of_ble_eq_true rfl, Nat.le_of_ble_eq_true rfl⟩ rfl hl.1 rfl (Nat.le_of_ble_eq_true rfl) dX6_drop_37 ⟨Nat.zero_le _, Nat.zero_le _⟩) hP hD hS hA [0, 1] rfl (c2 := 0) (s2 := 0) rfl rfl (fun H locs hP hS => ?_)
      refine lv_icmp_ge (tgt := 77) hx hb dX6_drop_40 (by decide) (fun c1 => ?_) (fun c1 => ?_)
      · have h := (if_pos c1).symm.trans h
        refine lv_aload_n hx hb dX6_drop_77 rfl (lv_at hl 0 rfl) ?_
        obtain ⟨fN_78, q_78, h⟩ := bd1_some h
        refine fr_rw_v (S := Unit) (wc := [(aM, .inr (6, [.ref mN, .ref mkd, .ref mks, .ref mcd, .ref mpr, .ref msk, .ref mow, .ref mmi, .ref mst, .ref mbi, .ref msu, .ref mke, .ref mik, .int vka, .int viw])), (mN, .inl (cI, 9, .inl fN))]) (wc' := fun _ => [(aM, .inr (6, [.ref mN, .ref mkd, .ref mks, .ref mcd, .ref mpr, .ref msk, .ref mow, .ref mmi, .ref mst, .ref mbi, .ref msu, .ref mke, .ref mik, .int vka, .int viw])), (mN, .inl (cI, 9, .inl fN_78))]) (wr := [(mkd, .inl (cI, 8, .inl fkd)), (mks, .inl (cI, 8, .inl fks)), (mcd, .inl (cI, 12, .inl fcd)), (mpr, .inl (cI, 16, .inl fpr)), (msk, .inl (cI, 16, .inl fsk)), (mow, .inl (cI, 16, .inl fow)), (mmi, .inl (cI, 16, .inl fmi)), (mst, .inl (cI, 16, .inl fst)), (mbi, .inl (cI, 16, .inl fbi)), (msu, .inl (cI, 16, .inl fsu)), (mke, .inl (cI, 298, .inl fke)), (mik, .inl (cZ, 2, .inl fik))]) (w2 := fun _ => [(aM, .inr (6, [.ref mN, .ref mkd, .ref mks, .ref mcd, .ref mpr, .ref msk, .ref mow, .ref mmi, .ref mst, .ref mbi, .ref msu, .ref mke, .ref mik, .int vka, .int viw])), (mN, .inl (cI, 9, .inl fN_78)), (mkd, .inl (cI, 8, .inl fkd)), (mks, .inl (cI, 8, .inl fks)), (mcd, .inl (cI, 12, .inl fcd)), (mpr, .inl (cI, 16, .inl fpr)), (msk, .inl (cI, 16, .inl fsk)), (mow, .inl (cI, 16, .inl fow)), (mmi, .inl (cI, 16, .inl fmi)), (mst, .inl (cI, 16, .inl fst)), (mbi, .inl (cI, 16, .inl fbi)), (msu, .inl (cI, 16, .inl fsu)), (mke, .inl (cI, 298, .inl fke)), (mik, .inl (cZ, 2, .inl fik))]) (fr_Vv (As := []) (rest := []) (C := RX6) ⟨hx, hb, hml, hown, hts⟩ (tX6_end aM mN mkd mks mcd mpr msk mow mmi mst mbi msu mke mik vka viw fN fN_78 q_78) gX6_drop_X6_end rfl (fr_preV (As := []) (b := aM) (ci := 6) (q0 := 0) (wc := [(aM, .inr (6, [.ref mN, .ref mkd, .ref mks, .ref mcd, .ref mpr, .ref msk, .ref mow, .ref mmi, .ref mst, .ref mbi, .ref msu, .ref mke, .ref mik, .int vka, .int viw])), (mN, .inl (cI, 9, .inl fN))]) hK hN hP hD [0, 1] (by decide) rfl rfl rfl) (n := 0) (by decide +kernel) ⟨Nat.le_of_ble_eq_true rfl, Nat.le_of_ble_eq_true rfl⟩ rfl hl.1 rfl (Nat.le_of_ble_eq_true rfl) dX6_drop_78 ⟨Nat.zero_le _, Nat.zero_le _⟩) hP hD hS hA [0, 1] [2, 3, 4, 5, 6, 7, 8, 9, 10, 11, 12, 13] [12, 13, 0, 1, 2, 3, 4, 5, 6, 7, 8, 9, 10, 11] rfl rfl (by decide) (by decide) (by decide) (fun _ => rfl) (c2 := 0) (s2 := 0) rfl rfl (fun _ H locs hP hD hS => ?_)
        refine lv_aload_n hx hb dX6_drop_81 rfl (lv_at hl 0 rfl) ?_
        obtain ⟨r_82, q_82, h⟩ := bd1_some h
        refine fr_ro_i (S := Unit) (wc := [(aM, .inr (6, [.ref mN, .ref mkd, .ref mks, .ref mcd, .ref mpr, .ref msk, .ref mow, .ref mmi, .ref mst, .ref mbi, .ref msu, .ref mke, .ref mik, .int vka, .int viw])), (mN, .inl (cI, 9, .inl fN_78))]) (fr_V (As := []) (rest := []) (C := RX6) ⟨hx, hb, hml, hown, hts⟩ (tX6_kinds aM mN mkd mks mcd mpr msk mow mmi mst mbi msu mke mik vka viw fN_78 r_82 q_82) gX6_drop_X6_kinds rfl (fr_preV (As := []) (b := aM) (ci := 6) (q0 := 0) (wc := [(aM, .inr (6, [.ref mN, .ref mkd, .ref mks, .ref mcd, .ref mpr, .ref msk, .ref mow, .ref mmi, .ref mst, .ref mbi, .ref msu, .ref mke, .ref mik, .int vka, .int viw])), (mN, .inl (cI, 9, .inl fN_78))]) hK hN hP hD [0, 1] (by decide) rfl rfl rfl) (n := 0) (by decide +kernel) ⟨Nat.le_of_ble_eq_true rfl, Nat.le_of_ble_eq_true rfl⟩ rfl hl.1 rfl (Nat.le_of_ble_eq_true rfl) dX6_drop_82 ⟨Nat.zero_le _, Nat.zero_le _⟩) hP hD hS hA [0, 1] rfl (c2 := 0) (s2 := 0) rfl rfl (fun H locs hP hS => ?_)
        exact hret r_82 fN_78 fkd fks 85 ls H locs rfl dX6_drop_85 hP hD hS h
      · have h := (if_neg c1).symm.trans h
        refine lv_aload_n hx hb dX6_drop_43 rfl (lv_at hl 0 rfl) ?_
        refine va_get (D := D) (ci := 6) (v := .ref mkd) (C := RX6) (T := TX6) (N := 15) hx hb hts i6 hown hK hP 0 rfl rfl 1 (by decide) (hts (.fieldLink RX6 13 RX6 "kindDots" "[I") (List.mem_of_getElem? (i := 2) rfl)) (fun _ h9 => h9) rfl dX6_drop_44 ?_
        refine lv_iload_n hx hb dX6_drop_47 rfl (lv_at hl 1 rfl) ?_
        refine lv_aload_n hx hb dX6_drop_48 rfl (lv_at hl 0 rfl) ?_
        refine va_get (D := D) (ci := 6) (v := .ref mkd) (C := RX6) (T := TX6) (N := 15) hx hb hts i6 hown hK hP 0 rfl rfl 1 (by decide) (hts (.fieldLink RX6 13 RX6 "kindDots" "[I") (List.mem_of_getElem? (i := 2) rfl)) (fun _ h9 => h9) rfl dX6_drop_49 ?_
        refine lv_iload_n hx hb dX6_drop_52 rfl (lv_at hl 1 rfl) ?_
        refine lv_iconst (v := (1 : Int32)) hx hb dX6_drop_53 (by decide) ?_
        refine lv_iadd hx hb dX6_drop_54 ?_
        obtain ⟨g2, h⟩ := no_some h
        refine va_iald hx hb hK hP 2 0 rfl rfl g2 dX6_drop_55 ?_
        obtain ⟨g3, h⟩ := no_some h
        refine va_iast hx hb hK hP hD hS 2 0 rfl rfl g3 dX6_drop_56 (fun H locs hP hD hS => ?_)
        have hP : va_P D vwCl [(aM, .inr (6, [.ref mN, .ref mkd, .ref mks, .ref mcd, .ref mpr, .ref msk, .ref mow, .ref mmi, .ref mst, .ref mbi, .ref msu, .ref mke, .ref mik, .int vka, .int viw])), (mN, .inl (cI, 9, .inl fN)), (mkd, .inl (cI, 8, .inl (upd fkd x3.toNatClampNeg (fkd ((x3 + (1 : Int32)).toNatClampNeg))))), (mks, .inl (cI, 8, .inl fks)), (mcd, .inl (cI, 12, .inl fcd)), (mpr, .inl (cI, 16, .inl fpr)), (msk, .inl (cI, 16, .inl fsk)), (mow, .inl (cI, 16, .inl fow)), (mmi, .inl (cI, 16, .inl fmi)), (mst, .inl (cI, 16, .inl fst)), (mbi, .inl (cI, 16, .inl fbi)), (msu, .inl (cI, 16, .inl fsu)), (mke, .inl (cI, 298, .inl fke)), (mik, .inl (cZ, 2, .inl fik))] H := hP
        have hD : va_D A [(aM, .inr (6, [.ref mN, .ref mkd, .ref mks, .ref mcd, .ref mpr, .ref msk, .ref mow, .ref mmi, .ref mst, .ref mbi, .ref msu, .ref mke, .ref mik, .int vka, .int viw])), (mN, .inl (cI, 9, .inl fN)), (mkd, .inl (cI, 8, .inl (upd fkd x3.toNatClampNeg (fkd ((x3 + (1 : Int32)).toNatClampNeg))))), (mks, .inl (cI, 8, .inl fks)), (mcd, .inl (cI, 12, .inl fcd)), (mpr, .inl (cI, 16, .inl fpr)), (msk, .inl (cI, 16, .inl fsk)), (mow, .inl (cI, 16, .inl fow)), (mmi, .inl (cI, 16, .inl fmi)), (mst, .inl (cI, 16, .inl fst)), (mbi, .inl (cI, 16, .inl fbi)), (msu, .inl (cI, 16, .inl fsu)), (mke, .inl (cI, 298, .inl fke)), (mik, .inl (cZ, 2, .inl fik))] := hD
        refine lv_aload_n hx hb dX6_drop_57 rfl (lv_at hl 0 rfl) ?_
        refine va_get (D := D) (ci := 6) (v := .ref mks) (C := RX6) (T := TX6) (N := 15) hx hb hts i6 hown hK hP 0 rfl rfl 2 (by decide) (hts (.fieldLink RX6 16 RX6 "kindStock" "[I") (List.mem_of_getElem? (i := 3) rfl)) (fun _ h9 => h9) rfl dX6_drop_58 ?_
        refine lv_iload_n hx hb dX6_drop_61 rfl (lv_at hl 1 rfl) ?_
        refine lv_aload_n hx hb dX6_drop_62 rfl (lv_at hl 0 rfl) ?_
        refine va_get (D := D) (ci := 6) (v := .ref mks) (C := RX6) (T := TX6) (N := 15) hx hb hts i6 hown hK hP 0 rfl rfl 2 (by decide) (hts (.fieldLink RX6 16 RX6 "kindStock" "[I") (List.mem_of_getElem? (i := 3) rfl)) (fun _ h9 => h9) rfl dX6_drop_63 ?_
        refine lv_iload_n hx hb dX6_drop_66 rfl (lv_at hl 1 rfl) ?_
        refine lv_iconst (v := (1 : Int32)) hx hb dX6_drop_67 (by decide) ?_
        refine lv_iadd hx hb dX6_drop_68 ?_
        obtain ⟨g4, h⟩ := no_some h
        refine va_iald hx hb hK hP 3 0 rfl rfl g4 dX6_drop_69 ?_
        obtain ⟨g5, h⟩ := no_some h
        refine va_iast hx hb hK hP hD hS 3 0 rfl rfl g5 dX6_drop_70 (fun H locs hP hD hS => ?_)
        have hP : va_P D vwCl [(aM, .inr (6, [.ref mN, .ref mkd, .ref mks, .ref mcd, .ref mpr, .ref msk, .ref mow, .ref mmi, .ref mst, .ref mbi, .ref msu, .ref mke, .ref mik, .int vka, .int viw])), (mN, .inl (cI, 9, .inl fN)), (mkd, .inl (cI, 8, .inl (upd fkd x3.toNatClampNeg (fkd ((x3 + (1 : Int32)).toNatClampNeg))))), (mks, .inl (cI, 8, .inl (upd fks x3.toNatClampNeg (fks ((x3 + (1 : Int32)).toNatClampNeg))))), (mcd, .inl (cI, 12, .inl fcd)), (mpr, .inl (cI, 16, .inl fpr)), (msk, .inl (cI, 16, .inl fsk)), (mow, .inl (cI, 16, .inl fow)), (mmi, .inl (cI, 16, .inl fmi)), (mst, .inl (cI, 16, .inl fst)), (mbi, .inl (cI, 16, .inl fbi)), (msu, .inl (cI, 16, .inl fsu)), (mke, .inl (cI, 298, .inl fke)), (mik, .inl (cZ, 2, .inl fik))] H := hP
        have hD : va_D A [(aM, .inr (6, [.ref mN, .ref mkd, .ref mks, .ref mcd, .ref mpr, .ref msk, .ref mow, .ref mmi, .ref mst, .ref mbi, .ref msu, .ref mke, .ref mik, .int vka, .int viw])), (mN, .inl (cI, 9, .inl fN)), (mkd, .inl (cI, 8, .inl (upd fkd x3.toNatClampNeg (fkd ((x3 + (1 : Int32)).toNatClampNeg))))), (mks, .inl (cI, 8, .inl (upd fks x3.toNatClampNeg (fks ((x3 + (1 : Int32)).toNatClampNeg))))), (mcd, .inl (cI, 12, .inl fcd)), (mpr, .inl (cI, 16, .inl fpr)), (msk, .inl (cI, 16, .inl fsk)), (mow, .inl (cI, 16, .inl fow)), (mmi, .inl (cI, 16, .inl fmi)), (mst, .inl (cI, 16, .inl fst)), (mbi, .inl (cI, 16, .inl fbi)), (msu, .inl (cI, 16, .inl fsu)), (mke, .inl (cI, 298, .inl fke)), (mik, .inl (cZ, 2, .inl fik))] := hD
        refine lv_iinc (v := x3 + 1) (lv' := [(3, .int (x3 + 1)), (0, .ref aM)]) hx hb dX6_drop_71 hl (k := 1) rfl rfl (by decide) rfl (fun ls hl => ?_)
        refine lv_goto (tgt := 35) hx hb dX6_drop_74 (by decide) ?_
        exact ih (x3 + 1) fN (upd fkd x3.toNatClampNeg (fkd ((x3 + (1 : Int32)).toNatClampNeg))) (upd fks x3.toNatClampNeg (fks ((x3 + (1 : Int32)).toNatClampNeg))) H locs ls hP hD hS (lv_sub hl [1, 0] rfl) h
  unfold fX6_drop at h
  obtain ⟨H, hH⟩ : ∃ H, H = s.heap := ⟨_, rfl⟩
  have hP : va_P D vwCl [(aM, .inr (6, [.ref mN, .ref mkd, .ref mks, .ref mcd, .ref mpr, .ref msk, .ref mow, .ref mmi, .ref mst, .ref mbi, .ref msu, .ref mke, .ref mik, .int vka, .int viw])), (mN, .inl (cI, 9, .inl fN)), (mkd, .inl (cI, 8, .inl fkd)), (mks, .inl (cI, 8, .inl fks)), (mcd, .inl (cI, 12, .inl fcd)), (mpr, .inl (cI, 16, .inl fpr)), (msk, .inl (cI, 16, .inl fsk)), (mow, .inl (cI, 16, .inl fow)), (mmi, .inl (cI, 16, .inl fmi)), (mst, .inl (cI, 16, .inl fst)), (mbi, .inl (cI, 16, .inl fbi)), (msu, .inl (cI, 16, .inl fsu)), (mke, .inl (cI, 298, .inl fke)), (mik, .inl (cZ, 2, .inl fik))] H := by rw [hH]; exact hP
  obtain ⟨locs, hlocs⟩ : ∃ x : List Loc, x = [] := ⟨_, rfl⟩
  have hS : va_S A s.heap H locs := by rw [hH, hlocs]; exact hS
  suffices hgo : W p l e rX6_drop s m args below meth c H locs 0 0 Q (F0 m 0 ls []) by rw [hH, hlocs] at hgo; exact hgo
  refine lv_iload_n hx hb dX6_drop_0 rfl (lv_at hl 1 rfl) ?_
  obtain ⟨r_1, q_1, h⟩ := bd1_some h
  refine fr_ro_i (S := Unit) (wc := []) (fr_S (As := [.int x1]) (rest := []) ⟨hx, hb, hml, hown, hts⟩ (tX6_isDots x1 r_1 q_1) gX6_drop_X6_isDots rfl (fr_pre (As := [.int x1]) (wc := []) hK hN hP hD [] (by decide) rfl) (n := 1) (by decide +kernel) ⟨Nat.le_of_ble_eq_true rfl, Nat.le_of_ble_eq_true rfl⟩ rfl hl.1 rfl (Nat.le_of_ble_eq_true rfl) dX6_drop_1 ⟨Nat.zero_le _, Nat.zero_le _⟩) hP hD hS hA [] rfl (c2 := 0) (s2 := 0) rfl rfl (fun H locs hP hS => ?_)
  refine lv_if_ne (tgt := 10) hx hb dX6_drop_4 (by decide) (fun c6 => ?_) (fun c6 => ?_)
  · have h := (if_neg c6).symm.trans h
    refine lv_aload_n hx hb dX6_drop_10 rfl (lv_at hl 0 rfl) ?_
    refine lv_iload_n hx hb dX6_drop_11 rfl (lv_at hl 1 rfl) ?_
    obtain ⟨r_12, q_12, h⟩ := bd1_some h
    refine fr_ro_i (S := Unit) (wc := [(aM, .inr (6, [.ref mN, .ref mkd, .ref mks, .ref mcd, .ref mpr, .ref msk, .ref mow, .ref mmi, .ref mst, .ref mbi, .ref msu, .ref mke, .ref mik, .int vka, .int viw])), (mN, .inl (cI, 9, .inl fN)), (mkd, .inl (cI, 8, .inl fkd))]) (fr_V (As := [.int x1]) (rest := []) (C := RX6) ⟨hx, hb, hml, hown, hts⟩ (tX6_kindOf aM mN mkd mks mcd mpr msk mow mmi mst mbi msu mke mik vka viw fN fkd x1 r_12 q_12) gX6_drop_X6_kindOf rfl (fr_preV (As := [.int x1]) (b := aM) (ci := 6) (q0 := 0) (wc := [(aM, .inr (6, [.ref mN, .ref mkd, .ref mks, .ref mcd, .ref mpr, .ref msk, .ref mow, .ref mmi, .ref mst, .ref mbi, .ref msu, .ref mke, .ref mik, .int vka, .int viw])), (mN, .inl (cI, 9, .inl fN)), (mkd, .inl (cI, 8, .inl fkd))]) hK hN hP hD [0, 1, 2] (by decide) rfl rfl rfl) (n := 1) (by decide +kernel) ⟨Nat.le_of_ble_eq_true rfl, Nat.le_of_ble_eq_true rfl⟩ rfl hl.1 rfl (Nat.le_of_ble_eq_true rfl) dX6_drop_12 ⟨Nat.zero_le _, Nat.zero_le _⟩) hP hD hS hA [0, 1, 2] rfl (c2 := 0) (s2 := 0) rfl rfl (fun H locs hP hS => ?_)
    refine lv_istore_n (lv' := [(2, .int r_12), (0, .ref aM), (1, .int x1)]) hx hb dX6_drop_15 rfl hl (by decide) rfl (fun ls hl => ?_)
    refine lv_iload_n hx hb dX6_drop_16 rfl (lv_at hl 0 rfl) ?_
    refine lv_if_ge (tgt := 23) hx hb dX6_drop_17 (by decide) (fun c7 => ?_) (fun c7 => ?_)
    · have h := (if_pos c7).symm.trans h
      refine lv_aload_n hx hb dX6_drop_23 rfl (lv_at hl 1 rfl) ?_
      refine va_get (D := D) (ci := 6) (v := .ref mN) (C := RX6) (T := TX6) (N := 15) hx hb hts i6 hown hK hP 0 rfl rfl 0 (by decide) (hts (.fieldLink RX6 7 RX6 "now" "[I") (List.mem_of_getElem? (i := 1) rfl)) (fun _ h9 => h9) rfl dX6_drop_24 ?_
      refine lv_iconst (v := (2 : Int32)) hx hb dX6_drop_27 (by decide) ?_
      refine lv_dup2_11 hx hb dX6_drop_28 rfl rfl ?_
      refine fr_iald (j := 2) hx hb hK hP 1 0 rfl rfl (by decide) (vin_of 2 9 (2 : Int32) (by decide) (by decide) (by decide)) dX6_drop_29 ?_
      refine lv_iconst (v := (1 : Int32)) hx hb dX6_drop_30 (by decide) ?_
      refine lv_isub hx hb dX6_drop_31 ?_
      refine fr_iast (j := 2) hx hb hK hP hD hS 1 0 rfl rfl (by decide) (vin_of 2 9 (2 : Int32) (by decide) (by decide) (by decide)) dX6_drop_32 (fun H locs hP hD hS => ?_)
      have hP : va_P D vwCl [(aM, .inr (6, [.ref mN, .ref mkd, .ref mks, .ref mcd, .ref mpr, .ref msk, .ref mow, .ref mmi, .ref mst, .ref mbi, .ref msu, .ref mke, .ref mik, .int vka, .int viw])), (mN, .inl (cI, 9, .inl (upd fN 2 ((fN 2) - (1 : Int32))))), (mkd, .inl (cI, 8, .inl fkd)), (mks, .inl (cI, 8, .inl fks)), (mcd, .inl (cI, 12, .inl fcd)), (mpr, .inl (cI, 16, .inl fpr)), (msk, .inl (cI, 16, .inl fsk)), (mow, .inl (cI, 16, .inl fow)), (mmi, .inl (cI, 16, .inl fmi)), (mst, .inl (cI, 16, .inl fst)), (mbi, .inl (cI, 16, .inl fbi)), (msu, .inl (cI, 16, .inl fsu)), (mke, .inl (cI, 298, .inl fke)), (mik, .inl (cZ, 2, .inl fik))] H := hP
      have hD : va_D A [(aM, .inr (6, [.ref mN, .ref mkd, .ref mks, .ref mcd, .ref mpr, .ref msk, .ref mow, .ref mmi, .ref mst, .ref mbi, .ref msu, .ref mke, .ref mik, .int vka, .int viw])), (mN, .inl (cI, 9, .inl (upd fN 2 ((fN 2) - (1 : Int32))))), (mkd, .inl (cI, 8, .inl fkd)), (mks, .inl (cI, 8, .inl fks)), (mcd, .inl (cI, 12, .inl fcd)), (mpr, .inl (cI, 16, .inl fpr)), (msk, .inl (cI, 16, .inl fsk)), (mow, .inl (cI, 16, .inl fow)), (mmi, .inl (cI, 16, .inl fmi)), (mst, .inl (cI, 16, .inl fst)), (mbi, .inl (cI, 16, .inl fbi)), (msu, .inl (cI, 16, .inl fsu)), (mke, .inl (cI, 298, .inl fke)), (mik, .inl (cZ, 2, .inl fik))] := hD
      refine lv_iload_n hx hb dX6_drop_33 rfl (lv_at hl 0 rfl) ?_
      refine lv_istore_n (lv' := [(3, .int r_12), (2, .int r_12), (0, .ref aM), (1, .int x1)]) hx hb dX6_drop_34 rfl hl (by decide) rfl (fun ls hl => ?_)
      exact hb35 FU r_12 (upd fN 2 ((fN 2) - (1 : Int32))) fkd fks H locs ls hP hD hS (lv_sub hl [2, 0] rfl) h
    · have h := (if_neg c7).symm.trans h
      refine lv_bipush (v := (-5 : Int32)) hx hb dX6_drop_20 (by decide) ?_
      exact hret (-5 : Int32) fN fkd fks 22 ls H locs rfl dX6_drop_22 hP hD hS h
  · have h := (if_pos c6).symm.trans h
    refine lv_bipush (v := (-2 : Int32)) hx hb dX6_drop_7 (by decide) ?_
    exact hret (-2 : Int32) fN fkd fks 9 ls H locs rfl dX6_drop_9 hP hD hS h
def fX6_firstSlot_b4 (fks : Nat → Int32) : Nat → Int32 → Int32 → Int32 → Option (Int32)
  | 0, _, _, _ => none
  | n + 1, x1, x2, x3 =>
    if x1 ≤ x3 then
      some x2
    else
      if x3 < 0 ∨ 8 ≤ x3.toNatClampNeg then none else
      bdv (x2 + (fks x3.toNatClampNeg)) fun x2_17 =>
      fX6_firstSlot_b4 fks n x1 x2_17 (x3 + 1)
def fX6_firstSlot (fks : Nat → Int32) (x1 : Int32) : Option (Int32) :=
  fX6_firstSlot_b4 fks FU x1 (0 : Int32) (0 : Int32)
abbrev rX6_firstSlot : Room := { frames := 0, cells := 0, slots := 0, locals := 0 }
set_option maxHeartbeats 4000000 in
set_option maxRecDepth 100000 in
theorem tX6_firstSlot {l : Launch} {D : va_G} {cI cZ cP : ClassId} (aM mks mN mkd mcd mpr msk mow mmi mst mbi msu mke mik : Nat) (vka : Int32) (viw : Int32) (fks : Nat → Int32) (x1 : Int32) (r : Int32) (h : fX6_firstSlot fks x1 = some r) : CtI l D cI cZ cP yX6_firstSlot wsX6_firstSlot rX6_firstSlot [.ref aM, .int x1] [(aM, .inr (6, [.ref mN, .ref mkd, .ref mks, .ref mcd, .ref mpr, .ref msk, .ref mow, .ref mmi, .ref mst, .ref mbi, .ref msu, .ref mke, .ref mik, .int vka, .int viw])), (mks, .inl (cI, 8, .inl fks))] (fun _ : Unit => [(aM, .inr (6, [.ref mN, .ref mkd, .ref mks, .ref mcd, .ref mpr, .ref msk, .ref mow, .ref mmi, .ref mst, .ref mbi, .ref msu, .ref mke, .ref mik, .int vka, .int viw])), (mks, .inl (cI, 8, .inl fks))]) r := by
  refine CtI.ofW (cc := cX6_firstSlot) (maxL := 4) (by decide) rfl (Nat.le_of_ble_eq_true rfl) (lv := [(0, .ref aM), (1, .int x1)]) rfl ?_
  intro p e s m args below meth c A Q ls hx hb hml hown hts hK hN hP hD hS hA hl hret0
  have hown : s.vm.findClass RX6 = some m.cls := hown
  have i6 : ∀ w ∈ wsX60, w ∈ wsX6_firstSlot := mem_ps [2, 3, 4, 5, 6, 7, 8, 9, 10, 11, 12, 13, 14, 15, 16] rfl
  have hret : ∀ (v : Int32) (pc : Nat) (ls : Array Slot) (H : Heap) (locs : List Loc), narrow .int (.int v) = .int v → decode cX6_firstSlot pc = .ok (.ireturn, 1) → va_P D vwCl [(aM, .inr (6, [.ref mN, .ref mkd, .ref mks, .ref mcd, .ref mpr, .ref msk, .ref mow, .ref mmi, .ref mst, .ref mbi, .ref msu, .ref mke, .ref mik, .int vka, .int viw])), (mks, .inl (cI, 8, .inl fks))] H → va_D A [(aM, .inr (6, [.ref mN, .ref mkd, .ref mks, .ref mcd, .ref mpr, .ref msk, .ref mow, .ref mmi, .ref mst, .ref mbi, .ref msu, .ref mke, .ref mik, .int vka, .int viw])), (mks, .inl (cI, 8, .inl fks))] → va_S A s.heap H locs → some v = some r → W p l e rX6_firstSlot s m args below meth c H locs 0 0 Q (F0 m pc ls [.int v]) := by
    intro v pc ls H locs hn hd hP hD hS h
    cases h
    exact hret0 pc ls H locs () hn hd hP hD hS
  clear hret0
  have hb4 : ∀ (n : Nat) (x1 : Int32) (x2 : Int32) (x3 : Int32) (H : Heap) (locs : List Loc) (ls : Array Slot), va_P D vwCl [(aM, .inr (6, [.ref mN, .ref mkd, .ref mks, .ref mcd, .ref mpr, .ref msk, .ref mow, .ref mmi, .ref mst, .ref mbi, .ref msu, .ref mke, .ref mik, .int vka, .int viw])), (mks, .inl (cI, 8, .inl fks))] H → va_D A [(aM, .inr (6, [.ref mN, .ref mkd, .ref mks, .ref mcd, .ref mpr, .ref msk, .ref mow, .ref mmi, .ref mst, .ref mbi, .ref msu, .ref mke, .ref mik, .int vka, .int viw])), (mks, .inl (cI, 8, .inl fks))] → va_S A s.heap H locs → lv_has ls 4 [(0, .ref aM), (1, .int x1), (2, .int x2), (3, .int x3)] → fX6_firstSlot_b4 fks n x1 x2 x3 = some r → W p l e rX6_firstSlot s m args below meth c H locs 0 0 Q (F0 m 4 ls []) := by
    intro n
    induction n with
    | zero => intro x1 x2 x3 H locs ls hP hD hS hl h; exact absurd h (by rw [fX6_firstSlot_b4]; exact fun z => by cases z)
    | succ n ih =>
      intro x1 x2 x3 H locs ls hP hD hS hl h
      rw [fX6_firstSlot_b4] at h
      refine lv_iload_n hx hb dX6_firstSlot_4 rfl (lv_at hl 3 rfl) ?_
      refine lv_iload_n hx hb dX6_firstSlot_5 rfl (lv_at hl 1 rfl) ?_
      refine lv_icmp_ge (tgt := 24) hx hb dX6_firstSlot_6 (by decide) (fun c1 => ?_) (fun c1 => ?_)
      · have h := (if_pos c1).symm.trans h
        refine lv_iload_n hx hb dX6_firstSlot_24 rfl (lv_at hl 2 rfl) ?_
        exact hret x2 25 ls H locs rfl dX6_firstSlot_25 hP hD hS h
      · have h := (if_neg c1).symm.trans h
        refine lv_iload_n hx hb dX6_firstSlot_9 rfl (lv_at hl 2 rfl) ?_
        refine lv_aload_n hx hb dX6_firstSlot_10 rfl (lv_at hl 0 rfl) ?_
        refine va_get (D := D) (ci := 6) (v := .ref mks) (C := RX6) (T := TX6) (N := 15) hx hb hts i6 hown hK hP 0 rfl rfl 2 (by decide) (hts (.fieldLink RX6 16 RX6 "kindStock" "[I") (List.mem_of_getElem? (i := 1) rfl)) (fun _ h9 => h9) rfl dX6_firstSlot_11 ?_
        refine lv_iload_n hx hb dX6_firstSlot_14 rfl (lv_at hl 3 rfl) ?_
        obtain ⟨g2, h⟩ := no_some h
        refine va_iald hx hb hK hP 1 0 rfl rfl g2 dX6_firstSlot_15 ?_
        refine lv_iadd hx hb dX6_firstSlot_16 ?_
        refine lv_topi (fun x2_17 ex2_17 => ?_)
        have h := bdv_some ex2_17 h
        refine lv_istore_n (lv' := [(2, .int x2_17), (0, .ref aM), (1, .int x1), (3, .int x3)]) hx hb dX6_firstSlot_17 rfl hl (by decide) rfl (fun ls hl => ?_)
        refine lv_iinc (v := x3 + 1) (lv' := [(3, .int (x3 + 1)), (2, .int x2_17), (0, .ref aM), (1, .int x1)]) hx hb dX6_firstSlot_18 hl (k := 3) rfl rfl (by decide) rfl (fun ls hl => ?_)
        refine lv_goto (tgt := 4) hx hb dX6_firstSlot_21 (by decide) ?_
        exact ih x1 x2_17 (x3 + 1) H locs ls hP hD hS (lv_sub hl [2, 3, 1, 0] rfl) h
  unfold fX6_firstSlot at h
  obtain ⟨H, hH⟩ : ∃ H, H = s.heap := ⟨_, rfl⟩
  have hP : va_P D vwCl [(aM, .inr (6, [.ref mN, .ref mkd, .ref mks, .ref mcd, .ref mpr, .ref msk, .ref mow, .ref mmi, .ref mst, .ref mbi, .ref msu, .ref mke, .ref mik, .int vka, .int viw])), (mks, .inl (cI, 8, .inl fks))] H := by rw [hH]; exact hP
  obtain ⟨locs, hlocs⟩ : ∃ x : List Loc, x = [] := ⟨_, rfl⟩
  have hS : va_S A s.heap H locs := by rw [hH, hlocs]; exact hS
  suffices hgo : W p l e rX6_firstSlot s m args below meth c H locs 0 0 Q (F0 m 0 ls []) by rw [hH, hlocs] at hgo; exact hgo
  refine lv_iconst (v := (0 : Int32)) hx hb dX6_firstSlot_0 (by decide) ?_
  refine lv_istore_n (lv' := [(2, .int (0 : Int32)), (0, .ref aM), (1, .int x1)]) hx hb dX6_firstSlot_1 rfl hl (by decide) rfl (fun ls hl => ?_)
  refine lv_iconst (v := (0 : Int32)) hx hb dX6_firstSlot_2 (by decide) ?_
  refine lv_istore_n (lv' := [(3, .int (0 : Int32)), (2, .int (0 : Int32)), (0, .ref aM), (1, .int x1)]) hx hb dX6_firstSlot_3 rfl hl (by decide) rfl (fun ls hl => ?_)
  exact hb4 FU x1 (0 : Int32) (0 : Int32) H locs ls hP hD hS (lv_sub hl [2, 3, 1, 0] rfl) h
def fX6_having_b4 (fN : Nat → Int32) (fsk : Nat → Int32) (fmi : Nat → Int32) : Nat → Int32 → Int32 → Int32 → Option (Int32)
  | 0, _, _, _ => none
  | n + 1, x1, x2, x3 =>
    bd1 (fX6_cells fN) fun r_6 =>
    if r_6 ≤ x3 then
      some x2
    else
      bd1 (fX6_isDone fN) fun r_13 =>
      if r_13 = 0 then
        some x2
      else
        if x3 < 0 ∨ 16 ≤ x3.toNatClampNeg then none else
        if fmi x3.toNatClampNeg < 0 ∨ 16 ≤ (fmi x3.toNatClampNeg).toNatClampNeg then none else
        if (fsk ((fmi x3.toNatClampNeg).toNatClampNeg)) = x1 then
          bdv (x2 + (1 : Int32)) fun x2_41 =>
          fX6_having_b4 fN fsk fmi n x1 x2_41 (x3 + 1)
        else
          bdv (x2 + (0 : Int32)) fun x2_41 =>
          fX6_having_b4 fN fsk fmi n x1 x2_41 (x3 + 1)
def fX6_having (fN : Nat → Int32) (fsk : Nat → Int32) (fmi : Nat → Int32) (x1 : Int32) : Option (Int32) :=
  fX6_having_b4 fN fsk fmi FU x1 (0 : Int32) (0 : Int32)
abbrev rX6_having : Room := { frames := 1, cells := 0, slots := 0, locals := 20 }
set_option maxHeartbeats 4000000 in
set_option maxRecDepth 100000 in
theorem tX6_having {l : Launch} {D : va_G} {cI cZ cP : ClassId} (aM mN msk mmi mkd mks mcd mpr mow mst mbi msu mke mik : Nat) (vka : Int32) (viw : Int32) (fN : Nat → Int32) (fsk : Nat → Int32) (fmi : Nat → Int32) (x1 : Int32) (r : Int32) (h : fX6_having fN fsk fmi x1 = some r) : CtI l D cI cZ cP yX6_having wsX6_having rX6_having [.ref aM, .int x1] [(aM, .inr (6, [.ref mN, .ref mkd, .ref mks, .ref mcd, .ref mpr, .ref msk, .ref mow, .ref mmi, .ref mst, .ref mbi, .ref msu, .ref mke, .ref mik, .int vka, .int viw])), (mN, .inl (cI, 9, .inl fN)), (msk, .inl (cI, 16, .inl fsk)), (mmi, .inl (cI, 16, .inl fmi))] (fun _ : Unit => [(aM, .inr (6, [.ref mN, .ref mkd, .ref mks, .ref mcd, .ref mpr, .ref msk, .ref mow, .ref mmi, .ref mst, .ref mbi, .ref msu, .ref mke, .ref mik, .int vka, .int viw])), (mN, .inl (cI, 9, .inl fN)), (msk, .inl (cI, 16, .inl fsk)), (mmi, .inl (cI, 16, .inl fmi))]) r := by
  refine CtI.ofW (cc := cX6_having) (maxL := 4) (by decide) rfl (Nat.le_of_ble_eq_true rfl) (lv := [(0, .ref aM), (1, .int x1)]) rfl ?_
  intro p e s m args below meth c A Q ls hx hb hml hown hts hK hN hP hD hS hA hl hret0
  have hown : s.vm.findClass RX6 = some m.cls := hown
  have i6 : ∀ w ∈ wsX60, w ∈ wsX6_having := mem_ps [13, 14, 15, 16, 17, 18, 19, 20, 21, 22, 23, 24, 25, 26, 27] rfl
  have hret : ∀ (v : Int32) (pc : Nat) (ls : Array Slot) (H : Heap) (locs : List Loc), narrow .int (.int v) = .int v → decode cX6_having pc = .ok (.ireturn, 1) → va_P D vwCl [(aM, .inr (6, [.ref mN, .ref mkd, .ref mks, .ref mcd, .ref mpr, .ref msk, .ref mow, .ref mmi, .ref mst, .ref mbi, .ref msu, .ref mke, .ref mik, .int vka, .int viw])), (mN, .inl (cI, 9, .inl fN)), (msk, .inl (cI, 16, .inl fsk)), (mmi, .inl (cI, 16, .inl fmi))] H → va_D A [(aM, .inr (6, [.ref mN, .ref mkd, .ref mks, .ref mcd, .ref mpr, .ref msk, .ref mow, .ref mmi, .ref mst, .ref mbi, .ref msu, .ref mke, .ref mik, .int vka, .int viw])), (mN, .inl (cI, 9, .inl fN)), (msk, .inl (cI, 16, .inl fsk)), (mmi, .inl (cI, 16, .inl fmi))] → va_S A s.heap H locs → some v = some r → W p l e rX6_having s m args below meth c H locs 0 0 Q (F0 m pc ls [.int v]) := by
    intro v pc ls H locs hn hd hP hD hS h
    cases h
    exact hret0 pc ls H locs () hn hd hP hD hS
  clear hret0
  have hb4 : ∀ (n : Nat) (x1 : Int32) (x2 : Int32) (x3 : Int32) (H : Heap) (locs : List Loc) (ls : Array Slot), va_P D vwCl [(aM, .inr (6, [.ref mN, .ref mkd, .ref mks, .ref mcd, .ref mpr, .ref msk, .ref mow, .ref mmi, .ref mst, .ref mbi, .ref msu, .ref mke, .ref mik, .int vka, .int viw])), (mN, .inl (cI, 9, .inl fN)), (msk, .inl (cI, 16, .inl fsk)), (mmi, .inl (cI, 16, .inl fmi))] H → va_D A [(aM, .inr (6, [.ref mN, .ref mkd, .ref mks, .ref mcd, .ref mpr, .ref msk, .ref mow, .ref mmi, .ref mst, .ref mbi, .ref msu, .ref mke, .ref mik, .int vka, .int viw])), (mN, .inl (cI, 9, .inl fN)), (msk, .inl (cI, 16, .inl fsk)), (mmi, .inl (cI, 16, .inl fmi))] → va_S A s.heap H locs → lv_has ls 4 [(0, .ref aM), (1, .int x1), (2, .int x2), (3, .int x3)] → fX6_having_b4 fN fsk fmi n x1 x2 x3 = some r → W p l e rX6_having s m args below meth c H locs 0 0 Q (F0 m 4 ls []) := by
    intro n
    induction n with
    | zero => intro x1 x2 x3 H locs ls hP hD hS hl h; exact absurd h (by rw [fX6_having_b4]; exact fun z => by cases z)
    | succ n ih =>
      intro x1 x2 x3 H locs ls hP hD hS hl h
      rw [fX6_having_b4] at h
      refine lv_iload_n hx hb dX6_having_4 rfl (lv_at hl 3 rfl) ?_
      refine lv_aload_n hx hb dX6_having_5 rfl (lv_at hl 0 rfl) ?_
      obtain ⟨r_6, q_6, h⟩ := bd1_some h
      refine fr_ro_i (S := Unit) (wc := [(aM, .inr (6, [.ref mN, .ref mkd, .ref mks, .ref mcd, .ref mpr, .ref msk, .ref mow, .ref mmi, .ref mst, .ref mbi, .ref msu, .ref mke, .ref mik, .int vka, .int viw])), (mN, .inl (cI, 9, .inl fN))]) (fr_V (As := []) (rest := [.int x3]) (C := RX6) ⟨hx, hb, hml, hown, hts⟩ (tX6_cells aM mN mkd mks mcd mpr msk mow mmi mst mbi msu mke mik vka viw fN r_6 q_6) gX6_having_X6_cells rfl (fr_preV (As := []) (b := aM) (ci := 6) (q0 := 0) (wc := [(aM, .inr (6, [.ref mN, .ref mkd, .ref mks, .ref mcd, .ref mpr, .ref msk, .ref mow, .ref mmi, .ref mst, .ref mbi, .ref msu, .ref mke, .ref mik, .int vka, .int viw])), (mN, .inl (cI, 9, .inl fN))]) hK hN hP hD [0, 1] (by decide) rfl rfl rfl) (n := 0) (by decide +kernel) ⟨Nat.le_of_ble_eq_true rfl, Nat.le_of_ble_eq_true rfl⟩ rfl hl.1 rfl (Nat.le_of_ble_eq_true rfl) dX6_having_6 ⟨Nat.zero_le _, Nat.zero_le _⟩) hP hD hS hA [0, 1] rfl (c2 := 0) (s2 := 0) rfl rfl (fun H locs hP hS => ?_)
      refine lv_icmp_ge (tgt := 48) hx hb dX6_having_9 (by decide) (fun c1 => ?_) (fun c1 => ?_)
      · have h := (if_pos c1).symm.trans h
        refine lv_iload_n hx hb dX6_having_48 rfl (lv_at hl 2 rfl) ?_
        exact hret x2 49 ls H locs rfl dX6_having_49 hP hD hS h
      · have h := (if_neg c1).symm.trans h
        refine lv_aload_n hx hb dX6_having_12 rfl (lv_at hl 0 rfl) ?_
        obtain ⟨r_13, q_13, h⟩ := bd1_some h
        refine fr_ro_i (S := Unit) (wc := [(aM, .inr (6, [.ref mN, .ref mkd, .ref mks, .ref mcd, .ref mpr, .ref msk, .ref mow, .ref mmi, .ref mst, .ref mbi, .ref msu, .ref mke, .ref mik, .int vka, .int viw])), (mN, .inl (cI, 9, .inl fN))]) (fr_V (As := []) (rest := []) (C := RX6) ⟨hx, hb, hml, hown, hts⟩ (tX6_isDone aM mN mkd mks mcd mpr msk mow mmi mst mbi msu mke mik vka viw fN r_13 q_13) gX6_having_X6_isDone rfl (fr_preV (As := []) (b := aM) (ci := 6) (q0 := 0) (wc := [(aM, .inr (6, [.ref mN, .ref mkd, .ref mks, .ref mcd, .ref mpr, .ref msk, .ref mow, .ref mmi, .ref mst, .ref mbi, .ref msu, .ref mke, .ref mik, .int vka, .int viw])), (mN, .inl (cI, 9, .inl fN))]) hK hN hP hD [0, 1] (by decide) rfl rfl rfl) (n := 0) (by decide +kernel) ⟨Nat.le_of_ble_eq_true rfl, Nat.le_of_ble_eq_true rfl⟩ rfl hl.1 rfl (Nat.le_of_ble_eq_true rfl) dX6_having_13 ⟨Nat.zero_le _, Nat.zero_le _⟩) hP hD hS hA [0, 1] rfl (c2 := 0) (s2 := 0) rfl rfl (fun H locs hP hS => ?_)
        refine lv_if_eq (tgt := 48) hx hb dX6_having_16 (by decide) (fun c2 => ?_) (fun c2 => ?_)
        · have h := (if_pos c2).symm.trans h
          refine lv_iload_n hx hb dX6_having_48 rfl (lv_at hl 2 rfl) ?_
          exact hret x2 49 ls H locs rfl dX6_having_49 hP hD hS h
        · have h := (if_neg c2).symm.trans h
          refine lv_iload_n hx hb dX6_having_19 rfl (lv_at hl 2 rfl) ?_
          refine lv_aload_n hx hb dX6_having_20 rfl (lv_at hl 0 rfl) ?_
          refine va_get (D := D) (ci := 6) (v := .ref msk) (C := RX6) (T := TX6) (N := 15) hx hb hts i6 hown hK hP 0 rfl rfl 5 (by decide) (hts (.fieldLink RX6 25 RX6 "slotKind" "[I") (List.mem_of_getElem? (i := 1) rfl)) (fun _ h9 => h9) rfl dX6_having_21 ?_
          refine lv_aload_n hx hb dX6_having_24 rfl (lv_at hl 0 rfl) ?_
          refine va_get (D := D) (ci := 6) (v := .ref mmi) (C := RX6) (T := TX6) (N := 15) hx hb hts i6 hown hK hP 0 rfl rfl 7 (by decide) (hts (.fieldLink RX6 31 RX6 "mine" "[I") (List.mem_of_getElem? (i := 2) rfl)) (fun _ h9 => h9) rfl dX6_having_25 ?_
          refine lv_iload_n hx hb dX6_having_28 rfl (lv_at hl 3 rfl) ?_
          obtain ⟨g3, h⟩ := no_some h
          refine va_iald hx hb hK hP 3 0 rfl rfl g3 dX6_having_29 ?_
          obtain ⟨g4, h⟩ := no_some h
          refine va_iald hx hb hK hP 2 0 rfl rfl g4 dX6_having_30 ?_
          refine lv_iload_n hx hb dX6_having_31 rfl (lv_at hl 1 rfl) ?_
          refine lv_icmp_ne (tgt := 39) hx hb dX6_having_32 (by decide) (fun c5 => ?_) (fun c5 => ?_)
          · have h := (if_neg c5).symm.trans h
            refine lv_iconst (v := (0 : Int32)) hx hb dX6_having_39 (by decide) ?_
            refine lv_iadd hx hb dX6_having_40 ?_
            refine lv_topi (fun x2_41 ex2_41 => ?_)
            have h := bdv_some ex2_41 h
            refine lv_istore_n (lv' := [(2, .int x2_41), (0, .ref aM), (1, .int x1), (3, .int x3)]) hx hb dX6_having_41 rfl hl (by decide) rfl (fun ls hl => ?_)
            refine lv_iinc (v := x3 + 1) (lv' := [(3, .int (x3 + 1)), (2, .int x2_41), (0, .ref aM), (1, .int x1)]) hx hb dX6_having_42 hl (k := 3) rfl rfl (by decide) rfl (fun ls hl => ?_)
            refine lv_goto (tgt := 4) hx hb dX6_having_45 (by decide) ?_
            exact ih x1 x2_41 (x3 + 1) H locs ls hP hD hS (lv_sub hl [2, 3, 1, 0] rfl) h
          · have h := (if_pos c5).symm.trans h
            refine lv_iconst (v := (1 : Int32)) hx hb dX6_having_35 (by decide) ?_
            refine lv_goto (tgt := 40) hx hb dX6_having_36 (by decide) ?_
            refine lv_iadd hx hb dX6_having_40 ?_
            refine lv_topi (fun x2_41 ex2_41 => ?_)
            have h := bdv_some ex2_41 h
            refine lv_istore_n (lv' := [(2, .int x2_41), (0, .ref aM), (1, .int x1), (3, .int x3)]) hx hb dX6_having_41 rfl hl (by decide) rfl (fun ls hl => ?_)
            refine lv_iinc (v := x3 + 1) (lv' := [(3, .int (x3 + 1)), (2, .int x2_41), (0, .ref aM), (1, .int x1)]) hx hb dX6_having_42 hl (k := 3) rfl rfl (by decide) rfl (fun ls hl => ?_)
            refine lv_goto (tgt := 4) hx hb dX6_having_45 (by decide) ?_
            exact ih x1 x2_41 (x3 + 1) H locs ls hP hD hS (lv_sub hl [2, 3, 1, 0] rfl) h
  unfold fX6_having at h
  obtain ⟨H, hH⟩ : ∃ H, H = s.heap := ⟨_, rfl⟩
  have hP : va_P D vwCl [(aM, .inr (6, [.ref mN, .ref mkd, .ref mks, .ref mcd, .ref mpr, .ref msk, .ref mow, .ref mmi, .ref mst, .ref mbi, .ref msu, .ref mke, .ref mik, .int vka, .int viw])), (mN, .inl (cI, 9, .inl fN)), (msk, .inl (cI, 16, .inl fsk)), (mmi, .inl (cI, 16, .inl fmi))] H := by rw [hH]; exact hP
  obtain ⟨locs, hlocs⟩ : ∃ x : List Loc, x = [] := ⟨_, rfl⟩
  have hS : va_S A s.heap H locs := by rw [hH, hlocs]; exact hS
  suffices hgo : W p l e rX6_having s m args below meth c H locs 0 0 Q (F0 m 0 ls []) by rw [hH, hlocs] at hgo; exact hgo
  refine lv_iconst (v := (0 : Int32)) hx hb dX6_having_0 (by decide) ?_
  refine lv_istore_n (lv' := [(2, .int (0 : Int32)), (0, .ref aM), (1, .int x1)]) hx hb dX6_having_1 rfl hl (by decide) rfl (fun ls hl => ?_)
  refine lv_iconst (v := (0 : Int32)) hx hb dX6_having_2 (by decide) ?_
  refine lv_istore_n (lv' := [(3, .int (0 : Int32)), (2, .int (0 : Int32)), (0, .ref aM), (1, .int x1)]) hx hb dX6_having_3 rfl hl (by decide) rfl (fun ls hl => ?_)
  exact hb4 FU x1 (0 : Int32) (0 : Int32) H locs ls hP hD hS (lv_sub hl [2, 3, 1, 0] rfl) h
def fX6_kind (fN : Nat → Int32) (fkd : Nat → Int32) (fks : Nat → Int32) (fsk : Nat → Int32) (fmi : Nat → Int32) (x1 : Int32) (x2 : Int32) : Option (Int32) :=
  bd1 (fX6_kinds fN) fun r_4 =>
  bd1 (fX6_in x1.toInt64 (0 : Int64) ((r_4 - (1 : Int32)).toInt64)) fun r_10 =>
  if r_10 = 0 then
    some (-1 : Int32)
  else
    if x2 = (0 : Int32) then
      if x1 < 0 ∨ 8 ≤ x1.toNatClampNeg then none else
      some (fkd x1.toNatClampNeg)
    else
      if x2 = (1 : Int32) then
        if x1 < 0 ∨ 8 ≤ x1.toNatClampNeg then none else
        some (fks x1.toNatClampNeg)
      else
        if x2 = (2 : Int32) then
          bd1 (fX6_firstSlot fks x1) fun r_64 =>
          some r_64
        else
          if x2 = (3 : Int32) then
            bd1 (fX6_having fN fsk fmi x1) fun r_70 =>
            some r_70
          else
            some (-2 : Int32)
abbrev rX6_kind : Room := { frames := 2, cells := 0, slots := 0, locals := 43 }
set_option maxHeartbeats 4000000 in
set_option maxRecDepth 100000 in
theorem tX6_kind {l : Launch} {D : va_G} {cI cZ cP : ClassId} (aM mN mkd mks mcd mpr msk mow mmi mst mbi msu mke mik : Nat) (vka : Int32) (viw : Int32) (fN : Nat → Int32) (fkd : Nat → Int32) (fks : Nat → Int32) (fcd : Nat → Int32) (fpr : Nat → Int32) (fsk : Nat → Int32) (fow : Nat → Int32) (fmi : Nat → Int32) (fst : Nat → Int32) (fbi : Nat → Int32) (fsu : Nat → Int32) (fke : Nat → Int32) (fik : Nat → Int32) (x1 : Int32) (x2 : Int32) (r : Int32) (h : fX6_kind fN fkd fks fsk fmi x1 x2 = some r) : CtI l D cI cZ cP yX6_kind wsX6_kind rX6_kind [.ref aM, .int x1, .int x2] [(aM, .inr (6, [.ref mN, .ref mkd, .ref mks, .ref mcd, .ref mpr, .ref msk, .ref mow, .ref mmi, .ref mst, .ref mbi, .ref msu, .ref mke, .ref mik, .int vka, .int viw])), (mN, .inl (cI, 9, .inl fN)), (mkd, .inl (cI, 8, .inl fkd)), (mks, .inl (cI, 8, .inl fks)), (mcd, .inl (cI, 12, .inl fcd)), (mpr, .inl (cI, 16, .inl fpr)), (msk, .inl (cI, 16, .inl fsk)), (mow, .inl (cI, 16, .inl fow)), (mmi, .inl (cI, 16, .inl fmi)), (mst, .inl (cI, 16, .inl fst)), (mbi, .inl (cI, 16, .inl fbi)), (msu, .inl (cI, 16, .inl fsu)), (mke, .inl (cI, 298, .inl fke)), (mik, .inl (cZ, 2, .inl fik))] (fun _ : Unit => [(aM, .inr (6, [.ref mN, .ref mkd, .ref mks, .ref mcd, .ref mpr, .ref msk, .ref mow, .ref mmi, .ref mst, .ref mbi, .ref msu, .ref mke, .ref mik, .int vka, .int viw])), (mN, .inl (cI, 9, .inl fN)), (mkd, .inl (cI, 8, .inl fkd)), (mks, .inl (cI, 8, .inl fks)), (mcd, .inl (cI, 12, .inl fcd)), (mpr, .inl (cI, 16, .inl fpr)), (msk, .inl (cI, 16, .inl fsk)), (mow, .inl (cI, 16, .inl fow)), (mmi, .inl (cI, 16, .inl fmi)), (mst, .inl (cI, 16, .inl fst)), (mbi, .inl (cI, 16, .inl fbi)), (msu, .inl (cI, 16, .inl fsu)), (mke, .inl (cI, 298, .inl fke)), (mik, .inl (cZ, 2, .inl fik))]) r := by
  refine CtI.ofW (cc := cX6_kind) (maxL := 3) (by decide) rfl (Nat.le_of_ble_eq_true rfl) (lv := [(0, .ref aM), (1, .int x1), (2, .int x2)]) rfl ?_
  intro p e s m args below meth c A Q ls hx hb hml hown hts hK hN hP hD hS hA hl hret0
  have hown : s.vm.findClass RX6 = some m.cls := hown
  have i6 : ∀ w ∈ wsX60, w ∈ wsX6_kind := mem_ps [30, 31, 32, 33, 34, 35, 36, 37, 38, 39, 40, 41, 42, 43, 44] rfl
  have hret : ∀ (v : Int32) (pc : Nat) (ls : Array Slot) (H : Heap) (locs : List Loc), narrow .int (.int v) = .int v → decode cX6_kind pc = .ok (.ireturn, 1) → va_P D vwCl [(aM, .inr (6, [.ref mN, .ref mkd, .ref mks, .ref mcd, .ref mpr, .ref msk, .ref mow, .ref mmi, .ref mst, .ref mbi, .ref msu, .ref mke, .ref mik, .int vka, .int viw])), (mN, .inl (cI, 9, .inl fN)), (mkd, .inl (cI, 8, .inl fkd)), (mks, .inl (cI, 8, .inl fks)), (mcd, .inl (cI, 12, .inl fcd)), (mpr, .inl (cI, 16, .inl fpr)), (msk, .inl (cI, 16, .inl fsk)), (mow, .inl (cI, 16, .inl fow)), (mmi, .inl (cI, 16, .inl fmi)), (mst, .inl (cI, 16, .inl fst)), (mbi, .inl (cI, 16, .inl fbi)), (msu, .inl (cI, 16, .inl fsu)), (mke, .inl (cI, 298, .inl fke)), (mik, .inl (cZ, 2, .inl fik))] H → va_D A [(aM, .inr (6, [.ref mN, .ref mkd, .ref mks, .ref mcd, .ref mpr, .ref msk, .ref mow, .ref mmi, .ref mst, .ref mbi, .ref msu, .ref mke, .ref mik, .int vka, .int viw])), (mN, .inl (cI, 9, .inl fN)), (mkd, .inl (cI, 8, .inl fkd)), (mks, .inl (cI, 8, .inl fks)), (mcd, .inl (cI, 12, .inl fcd)), (mpr, .inl (cI, 16, .inl fpr)), (msk, .inl (cI, 16, .inl fsk)), (mow, .inl (cI, 16, .inl fow)), (mmi, .inl (cI, 16, .inl fmi)), (mst, .inl (cI, 16, .inl fst)), (mbi, .inl (cI, 16, .inl fbi)), (msu, .inl (cI, 16, .inl fsu)), (mke, .inl (cI, 298, .inl fke)), (mik, .inl (cZ, 2, .inl fik))] → va_S A s.heap H locs → some v = some r → W p l e rX6_kind s m args below meth c H locs 0 0 Q (F0 m pc ls [.int v]) := by
    intro v pc ls H locs hn hd hP hD hS h
    cases h
    exact hret0 pc ls H locs () hn hd hP hD hS
  clear hret0
  unfold fX6_kind at h
  obtain ⟨H, hH⟩ : ∃ H, H = s.heap := ⟨_, rfl⟩
  have hP : va_P D vwCl [(aM, .inr (6, [.ref mN, .ref mkd, .ref mks, .ref mcd, .ref mpr, .ref msk, .ref mow, .ref mmi, .ref mst, .ref mbi, .ref msu, .ref mke, .ref mik, .int vka, .int viw])), (mN, .inl (cI, 9, .inl fN)), (mkd, .inl (cI, 8, .inl fkd)), (mks, .inl (cI, 8, .inl fks)), (mcd, .inl (cI, 12, .inl fcd)), (mpr, .inl (cI, 16, .inl fpr)), (msk, .inl (cI, 16, .inl fsk)), (mow, .inl (cI, 16, .inl fow)), (mmi, .inl (cI, 16, .inl fmi)), (mst, .inl (cI, 16, .inl fst)), (mbi, .inl (cI, 16, .inl fbi)), (msu, .inl (cI, 16, .inl fsu)), (mke, .inl (cI, 298, .inl fke)), (mik, .inl (cZ, 2, .inl fik))] H := by rw [hH]; exact hP
  obtain ⟨locs, hlocs⟩ : ∃ x : List Loc, x = [] := ⟨_, rfl⟩
  have hS : va_S A s.heap H locs := by rw [hH, hlocs]; exact hS
  suffices hgo : W p l e rX6_kind s m args below meth c H locs 0 0 Q (F0 m 0 ls []) by rw [hH, hlocs] at hgo; exact hgo
  refine lv_iload_n hx hb dX6_kind_0 rfl (lv_at hl 1 rfl) ?_
  refine lv_i2l (v := x1.toInt64) hx hb dX6_kind_1 rfl ?_
  refine lv_lconst (v := (0 : Int64)) hx hb dX6_kind_2 (by decide) ?_
  refine lv_aload_n hx hb dX6_kind_3 rfl (lv_at hl 0 rfl) ?_
  obtain ⟨r_4, q_4, h⟩ := bd1_some h
  refine fr_ro_i (S := Unit) (wc := [(aM, .inr (6, [.ref mN, .ref mkd, .ref mks, .ref mcd, .ref mpr, .ref msk, .ref mow, .ref mmi, .ref mst, .ref mbi, .ref msu, .ref mke, .ref mik, .int vka, .int viw])), (mN, .inl (cI, 9, .inl fN))]) (fr_V (As := []) (rest := [.long (0 : Int64), .long x1.toInt64]) (C := RX6) ⟨hx, hb, hml, hown, hts⟩ (tX6_kinds aM mN mkd mks mcd mpr msk mow mmi mst mbi msu mke mik vka viw fN r_4 q_4) gX6_kind_X6_kinds rfl (fr_preV (As := []) (b := aM) (ci := 6) (q0 := 0) (wc := [(aM, .inr (6, [.ref mN, .ref mkd, .ref mks, .ref mcd, .ref mpr, .ref msk, .ref mow, .ref mmi, .ref mst, .ref mbi, .ref msu, .ref mke, .ref mik, .int vka, .int viw])), (mN, .inl (cI, 9, .inl fN))]) hK hN hP hD [0, 1] (by decide) rfl rfl rfl) (n := 0) (by decide +kernel) ⟨Nat.le_of_ble_eq_true rfl, Nat.le_of_ble_eq_true rfl⟩ rfl hl.1 rfl (Nat.le_of_ble_eq_true rfl) dX6_kind_4 ⟨Nat.zero_le _, Nat.zero_le _⟩) hP hD hS hA [0, 1] rfl (c2 := 0) (s2 := 0) rfl rfl (fun H locs hP hS => ?_)
  refine lv_iconst (v := (1 : Int32)) hx hb dX6_kind_7 (by decide) ?_
  refine lv_isub hx hb dX6_kind_8 ?_
  refine lv_i2l (v := (r_4 - (1 : Int32)).toInt64) hx hb dX6_kind_9 rfl ?_
  obtain ⟨r_10, q_10, h⟩ := bd1_some h
  refine fr_ro_i (S := Unit) (wc := []) (fr_S (As := [.long x1.toInt64, .long (0 : Int64), .long ((r_4 - (1 : Int32)).toInt64)]) (rest := []) ⟨hx, hb, hml, hown, hts⟩ (tX6_in x1.toInt64 (0 : Int64) ((r_4 - (1 : Int32)).toInt64) r_10 q_10) gX6_kind_X6_in rfl (fr_pre (As := [.long x1.toInt64, .long (0 : Int64), .long ((r_4 - (1 : Int32)).toInt64)]) (wc := []) hK hN hP hD [] (by decide) rfl) (n := 3) (by decide +kernel) ⟨Nat.le_of_ble_eq_true rfl, Nat.le_of_ble_eq_true rfl⟩ rfl hl.1 rfl (Nat.le_of_ble_eq_true rfl) dX6_kind_10 ⟨Nat.zero_le _, Nat.zero_le _⟩) hP hD hS hA [] rfl (c2 := 0) (s2 := 0) rfl rfl (fun H locs hP hS => ?_)
  refine lv_if_ne (tgt := 18) hx hb dX6_kind_13 (by decide) (fun c1 => ?_) (fun c1 => ?_)
  · have h := (if_neg c1).symm.trans h
    refine lv_iload_n hx hb dX6_kind_18 rfl (lv_at hl 2 rfl) ?_
    by_cases c4 : x2 = (0 : Int32)
    · have h := (if_pos c4).symm.trans h
      refine lv_tableIn (tgt := 48) hx hb dX6_kind_19 (by rw [c4]; decide) (by rw [c4]; decide) (off := 29) (by rw [c4]; rfl) (by decide) ?_
      refine lv_aload_n hx hb dX6_kind_48 rfl (lv_at hl 0 rfl) ?_
      refine va_get (D := D) (ci := 6) (v := .ref mkd) (C := RX6) (T := TX6) (N := 15) hx hb hts i6 hown hK hP 0 rfl rfl 1 (by decide) (hts (.fieldLink RX6 13 RX6 "kindDots" "[I") (List.mem_of_getElem? (i := 1) rfl)) (fun _ h9 => h9) rfl dX6_kind_49 ?_
      refine lv_iload_n hx hb dX6_kind_52 rfl (lv_at hl 1 rfl) ?_
      obtain ⟨g2, h⟩ := no_some h
      refine va_iald hx hb hK hP 2 0 rfl rfl g2 dX6_kind_53 ?_
      exact hret (fkd x1.toNatClampNeg) 54 ls H locs rfl dX6_kind_54 hP hD hS h
    · have h := (if_neg c4).symm.trans h
      by_cases c5 : x2 = (1 : Int32)
      · have h := (if_pos c5).symm.trans h
        refine lv_tableIn (tgt := 55) hx hb dX6_kind_19 (by rw [c5]; decide) (by rw [c5]; decide) (off := 36) (by rw [c5]; rfl) (by decide) ?_
        refine lv_aload_n hx hb dX6_kind_55 rfl (lv_at hl 0 rfl) ?_
        refine va_get (D := D) (ci := 6) (v := .ref mks) (C := RX6) (T := TX6) (N := 15) hx hb hts i6 hown hK hP 0 rfl rfl 2 (by decide) (hts (.fieldLink RX6 16 RX6 "kindStock" "[I") (List.mem_of_getElem? (i := 2) rfl)) (fun _ h9 => h9) rfl dX6_kind_56 ?_
        refine lv_iload_n hx hb dX6_kind_59 rfl (lv_at hl 1 rfl) ?_
        obtain ⟨g3, h⟩ := no_some h
        refine va_iald hx hb hK hP 3 0 rfl rfl g3 dX6_kind_60 ?_
        exact hret (fks x1.toNatClampNeg) 61 ls H locs rfl dX6_kind_61 hP hD hS h
      · have h := (if_neg c5).symm.trans h
        by_cases c6 : x2 = (2 : Int32)
        · have h := (if_pos c6).symm.trans h
          refine lv_tableIn (tgt := 62) hx hb dX6_kind_19 (by rw [c6]; decide) (by rw [c6]; decide) (off := 43) (by rw [c6]; rfl) (by decide) ?_
          refine lv_aload_n hx hb dX6_kind_62 rfl (lv_at hl 0 rfl) ?_
          refine lv_iload_n hx hb dX6_kind_63 rfl (lv_at hl 1 rfl) ?_
          obtain ⟨r_64, q_64, h⟩ := bd1_some h
          refine fr_ro_i (S := Unit) (wc := [(aM, .inr (6, [.ref mN, .ref mkd, .ref mks, .ref mcd, .ref mpr, .ref msk, .ref mow, .ref mmi, .ref mst, .ref mbi, .ref msu, .ref mke, .ref mik, .int vka, .int viw])), (mks, .inl (cI, 8, .inl fks))]) (fr_V (As := [.int x1]) (rest := []) (C := RX6) ⟨hx, hb, hml, hown, hts⟩ (tX6_firstSlot aM mks mN mkd mcd mpr msk mow mmi mst mbi msu mke mik vka viw fks x1 r_64 q_64) gX6_kind_X6_firstSlot rfl (fr_preV (As := [.int x1]) (b := aM) (ci := 6) (q0 := 0) (wc := [(aM, .inr (6, [.ref mN, .ref mkd, .ref mks, .ref mcd, .ref mpr, .ref msk, .ref mow, .ref mmi, .ref mst, .ref mbi, .ref msu, .ref mke, .ref mik, .int vka, .int viw])), (mks, .inl (cI, 8, .inl fks))]) hK hN hP hD [0, 3] (by decide) rfl rfl rfl) (n := 1) (by decide +kernel) ⟨Nat.le_of_ble_eq_true rfl, Nat.le_of_ble_eq_true rfl⟩ rfl hl.1 rfl (Nat.le_of_ble_eq_true rfl) dX6_kind_64 ⟨Nat.zero_le _, Nat.zero_le _⟩) hP hD hS hA [0, 3] rfl (c2 := 0) (s2 := 0) rfl rfl (fun H locs hP hS => ?_)
          exact hret r_64 67 ls H locs rfl dX6_kind_67 hP hD hS h
        · have h := (if_neg c6).symm.trans h
          by_cases c7 : x2 = (3 : Int32)
          · have h := (if_pos c7).symm.trans h
            refine lv_tableIn (tgt := 68) hx hb dX6_kind_19 (by rw [c7]; decide) (by rw [c7]; decide) (off := 49) (by rw [c7]; rfl) (by decide) ?_
            refine lv_aload_n hx hb dX6_kind_68 rfl (lv_at hl 0 rfl) ?_
            refine lv_iload_n hx hb dX6_kind_69 rfl (lv_at hl 1 rfl) ?_
            obtain ⟨r_70, q_70, h⟩ := bd1_some h
            refine fr_ro_i (S := Unit) (wc := [(aM, .inr (6, [.ref mN, .ref mkd, .ref mks, .ref mcd, .ref mpr, .ref msk, .ref mow, .ref mmi, .ref mst, .ref mbi, .ref msu, .ref mke, .ref mik, .int vka, .int viw])), (mN, .inl (cI, 9, .inl fN)), (msk, .inl (cI, 16, .inl fsk)), (mmi, .inl (cI, 16, .inl fmi))]) (fr_V (As := [.int x1]) (rest := []) (C := RX6) ⟨hx, hb, hml, hown, hts⟩ (tX6_having aM mN msk mmi mkd mks mcd mpr mow mst mbi msu mke mik vka viw fN fsk fmi x1 r_70 q_70) gX6_kind_X6_having rfl (fr_preV (As := [.int x1]) (b := aM) (ci := 6) (q0 := 0) (wc := [(aM, .inr (6, [.ref mN, .ref mkd, .ref mks, .ref mcd, .ref mpr, .ref msk, .ref mow, .ref mmi, .ref mst, .ref mbi, .ref msu, .ref mke, .ref mik, .int vka, .int viw])), (mN, .inl (cI, 9, .inl fN)), (msk, .inl (cI, 16, .inl fsk)), (mmi, .inl (cI, 16, .inl fmi))]) hK hN hP hD [0, 1, 6, 8] (by decide) rfl rfl rfl) (n := 1) (by decide +kernel) ⟨Nat.le_of_ble_eq_true rfl, Nat.le_of_ble_eq_true rfl⟩ rfl hl.1 rfl (Nat.le_of_ble_eq_true rfl) dX6_kind_70 ⟨Nat.zero_le _, Nat.zero_le _⟩) hP hD hS hA [0, 1, 6, 8] rfl (c2 := 0) (s2 := 0) rfl rfl (fun H locs hP hS => ?_)
            exact hret r_70 73 ls H locs rfl dX6_kind_73 hP hD hS h
          · have h := (if_neg c7).symm.trans h
            have nc4 := lv_neT c4 (show (0 : Int32).toInt = 0 from rfl)
            have nc5 := lv_neT c5 (show (1 : Int32).toInt = 1 from rfl)
            have nc6 := lv_neT c6 (show (2 : Int32).toInt = 2 from rfl)
            have nc7 := lv_neT c7 (show (3 : Int32).toInt = 3 from rfl)
            refine lv_tableOut (tgt := 74) hx hb dX6_kind_19 (by omega) (by decide) ?_
            refine lv_bipush (v := (-2 : Int32)) hx hb dX6_kind_74 (by decide) ?_
            exact hret (-2 : Int32) 76 ls H locs rfl dX6_kind_76 hP hD hS h
  · have h := (if_pos c1).symm.trans h
    refine lv_iconst (v := (-1 : Int32)) hx hb dX6_kind_16 (by decide) ?_
    exact hret (-1 : Int32) 17 ls H locs rfl dX6_kind_17 hP hD hS h
def fX6_find (fN : Nat → Int32) (fkd : Nat → Int32) (x1 : Int32) : Option (Int32) :=
  bd1 (fX6_isDots x1) fun r_1 =>
  if r_1 = 0 then
    some (-2 : Int32)
  else
    bd1 (fX6_kindOf fN fkd x1) fun r_9 =>
    some r_9
abbrev rX6_find : Room := { frames := 2, cells := 0, slots := 0, locals := 45 }
set_option maxHeartbeats 4000000 in
set_option maxRecDepth 100000 in
theorem tX6_find {l : Launch} {D : va_G} {cI cZ cP : ClassId} (aM mN mkd mks mcd mpr msk mow mmi mst mbi msu mke mik : Nat) (vka : Int32) (viw : Int32) (fN : Nat → Int32) (fkd : Nat → Int32) (fks : Nat → Int32) (fcd : Nat → Int32) (fpr : Nat → Int32) (fsk : Nat → Int32) (fow : Nat → Int32) (fmi : Nat → Int32) (fst : Nat → Int32) (fbi : Nat → Int32) (fsu : Nat → Int32) (fke : Nat → Int32) (fik : Nat → Int32) (x1 : Int32) (r : Int32) (h : fX6_find fN fkd x1 = some r) : CtI l D cI cZ cP yX6_find wsX6_find rX6_find [.ref aM, .int x1] [(aM, .inr (6, [.ref mN, .ref mkd, .ref mks, .ref mcd, .ref mpr, .ref msk, .ref mow, .ref mmi, .ref mst, .ref mbi, .ref msu, .ref mke, .ref mik, .int vka, .int viw])), (mN, .inl (cI, 9, .inl fN)), (mkd, .inl (cI, 8, .inl fkd)), (mks, .inl (cI, 8, .inl fks)), (mcd, .inl (cI, 12, .inl fcd)), (mpr, .inl (cI, 16, .inl fpr)), (msk, .inl (cI, 16, .inl fsk)), (mow, .inl (cI, 16, .inl fow)), (mmi, .inl (cI, 16, .inl fmi)), (mst, .inl (cI, 16, .inl fst)), (mbi, .inl (cI, 16, .inl fbi)), (msu, .inl (cI, 16, .inl fsu)), (mke, .inl (cI, 298, .inl fke)), (mik, .inl (cZ, 2, .inl fik))] (fun _ : Unit => [(aM, .inr (6, [.ref mN, .ref mkd, .ref mks, .ref mcd, .ref mpr, .ref msk, .ref mow, .ref mmi, .ref mst, .ref mbi, .ref msu, .ref mke, .ref mik, .int vka, .int viw])), (mN, .inl (cI, 9, .inl fN)), (mkd, .inl (cI, 8, .inl fkd)), (mks, .inl (cI, 8, .inl fks)), (mcd, .inl (cI, 12, .inl fcd)), (mpr, .inl (cI, 16, .inl fpr)), (msk, .inl (cI, 16, .inl fsk)), (mow, .inl (cI, 16, .inl fow)), (mmi, .inl (cI, 16, .inl fmi)), (mst, .inl (cI, 16, .inl fst)), (mbi, .inl (cI, 16, .inl fbi)), (msu, .inl (cI, 16, .inl fsu)), (mke, .inl (cI, 298, .inl fke)), (mik, .inl (cZ, 2, .inl fik))]) r := by
  refine CtI.ofW (cc := cX6_find) (maxL := 2) (by decide) rfl (Nat.le_of_ble_eq_true rfl) (lv := [(0, .ref aM), (1, .int x1)]) rfl ?_
  intro p e s m args below meth c A Q ls hx hb hml hown hts hK hN hP hD hS hA hl hret0
  have hown : s.vm.findClass RX6 = some m.cls := hown
  have i6 : ∀ w ∈ wsX60, w ∈ wsX6_find := mem_ps [19, 20, 21, 22, 23, 24, 25, 26, 27, 28, 29, 30, 31, 32, 33] rfl
  have hret : ∀ (v : Int32) (pc : Nat) (ls : Array Slot) (H : Heap) (locs : List Loc), narrow .int (.int v) = .int v → decode cX6_find pc = .ok (.ireturn, 1) → va_P D vwCl [(aM, .inr (6, [.ref mN, .ref mkd, .ref mks, .ref mcd, .ref mpr, .ref msk, .ref mow, .ref mmi, .ref mst, .ref mbi, .ref msu, .ref mke, .ref mik, .int vka, .int viw])), (mN, .inl (cI, 9, .inl fN)), (mkd, .inl (cI, 8, .inl fkd)), (mks, .inl (cI, 8, .inl fks)), (mcd, .inl (cI, 12, .inl fcd)), (mpr, .inl (cI, 16, .inl fpr)), (msk, .inl (cI, 16, .inl fsk)), (mow, .inl (cI, 16, .inl fow)), (mmi, .inl (cI, 16, .inl fmi)), (mst, .inl (cI, 16, .inl fst)), (mbi, .inl (cI, 16, .inl fbi)), (msu, .inl (cI, 16, .inl fsu)), (mke, .inl (cI, 298, .inl fke)), (mik, .inl (cZ, 2, .inl fik))] H → va_D A [(aM, .inr (6, [.ref mN, .ref mkd, .ref mks, .ref mcd, .ref mpr, .ref msk, .ref mow, .ref mmi, .ref mst, .ref mbi, .ref msu, .ref mke, .ref mik, .int vka, .int viw])), (mN, .inl (cI, 9, .inl fN)), (mkd, .inl (cI, 8, .inl fkd)), (mks, .inl (cI, 8, .inl fks)), (mcd, .inl (cI, 12, .inl fcd)), (mpr, .inl (cI, 16, .inl fpr)), (msk, .inl (cI, 16, .inl fsk)), (mow, .inl (cI, 16, .inl fow)), (mmi, .inl (cI, 16, .inl fmi)), (mst, .inl (cI, 16, .inl fst)), (mbi, .inl (cI, 16, .inl fbi)), (msu, .inl (cI, 16, .inl fsu)), (mke, .inl (cI, 298, .inl fke)), (mik, .inl (cZ, 2, .inl fik))] → va_S A s.heap H locs → some v = some r → W p l e rX6_find s m args below meth c H locs 0 0 Q (F0 m pc ls [.int v]) := by
    intro v pc ls H locs hn hd hP hD hS h
    cases h
    exact hret0 pc ls H locs () hn hd hP hD hS
  clear hret0
  unfold fX6_find at h
  obtain ⟨H, hH⟩ : ∃ H, H = s.heap := ⟨_, rfl⟩
  have hP : va_P D vwCl [(aM, .inr (6, [.ref mN, .ref mkd, .ref mks, .ref mcd, .ref mpr, .ref msk, .ref mow, .ref mmi, .ref mst, .ref mbi, .ref msu, .ref mke, .ref mik, .int vka, .int viw])), (mN, .inl (cI, 9, .inl fN)), (mkd, .inl (cI, 8, .inl fkd)), (mks, .inl (cI, 8, .inl fks)), (mcd, .inl (cI, 12, .inl fcd)), (mpr, .inl (cI, 16, .inl fpr)), (msk, .inl (cI, 16, .inl fsk)), (mow, .inl (cI, 16, .inl fow)), (mmi, .inl (cI, 16, .inl fmi)), (mst, .inl (cI, 16, .inl fst)), (mbi, .inl (cI, 16, .inl fbi)), (msu, .inl (cI, 16, .inl fsu)), (mke, .inl (cI, 298, .inl fke)), (mik, .inl (cZ, 2, .inl fik))] H := by rw [hH]; exact hP
  obtain ⟨locs, hlocs⟩ : ∃ x : List Loc, x = [] := ⟨_, rfl⟩
  have hS : va_S A s.heap H locs := by rw [hH, hlocs]; exact hS
  suffices hgo : W p l e rX6_find s m args below meth c H locs 0 0 Q (F0 m 0 ls []) by rw [hH, hlocs] at hgo; exact hgo
  refine lv_iload_n hx hb dX6_find_0 rfl (lv_at hl 1 rfl) ?_
  obtain ⟨r_1, q_1, h⟩ := bd1_some h
  refine fr_ro_i (S := Unit) (wc := []) (fr_S (As := [.int x1]) (rest := []) ⟨hx, hb, hml, hown, hts⟩ (tX6_isDots x1 r_1 q_1) gX6_find_X6_isDots rfl (fr_pre (As := [.int x1]) (wc := []) hK hN hP hD [] (by decide) rfl) (n := 1) (by decide +kernel) ⟨Nat.le_of_ble_eq_true rfl, Nat.le_of_ble_eq_true rfl⟩ rfl hl.1 rfl (Nat.le_of_ble_eq_true rfl) dX6_find_1 ⟨Nat.zero_le _, Nat.zero_le _⟩) hP hD hS hA [] rfl (c2 := 0) (s2 := 0) rfl rfl (fun H locs hP hS => ?_)
  refine lv_if_eq (tgt := 15) hx hb dX6_find_4 (by decide) (fun c1 => ?_) (fun c1 => ?_)
  · have h := (if_pos c1).symm.trans h
    refine lv_bipush (v := (-2 : Int32)) hx hb dX6_find_15 (by decide) ?_
    exact hret (-2 : Int32) 17 ls H locs rfl dX6_find_17 hP hD hS h
  · have h := (if_neg c1).symm.trans h
    refine lv_aload_n hx hb dX6_find_7 rfl (lv_at hl 0 rfl) ?_
    refine lv_iload_n hx hb dX6_find_8 rfl (lv_at hl 1 rfl) ?_
    obtain ⟨r_9, q_9, h⟩ := bd1_some h
    refine fr_ro_i (S := Unit) (wc := [(aM, .inr (6, [.ref mN, .ref mkd, .ref mks, .ref mcd, .ref mpr, .ref msk, .ref mow, .ref mmi, .ref mst, .ref mbi, .ref msu, .ref mke, .ref mik, .int vka, .int viw])), (mN, .inl (cI, 9, .inl fN)), (mkd, .inl (cI, 8, .inl fkd))]) (fr_V (As := [.int x1]) (rest := []) (C := RX6) ⟨hx, hb, hml, hown, hts⟩ (tX6_kindOf aM mN mkd mks mcd mpr msk mow mmi mst mbi msu mke mik vka viw fN fkd x1 r_9 q_9) gX6_find_X6_kindOf rfl (fr_preV (As := [.int x1]) (b := aM) (ci := 6) (q0 := 0) (wc := [(aM, .inr (6, [.ref mN, .ref mkd, .ref mks, .ref mcd, .ref mpr, .ref msk, .ref mow, .ref mmi, .ref mst, .ref mbi, .ref msu, .ref mke, .ref mik, .int vka, .int viw])), (mN, .inl (cI, 9, .inl fN)), (mkd, .inl (cI, 8, .inl fkd))]) hK hN hP hD [0, 1, 2] (by decide) rfl rfl rfl) (n := 1) (by decide +kernel) ⟨Nat.le_of_ble_eq_true rfl, Nat.le_of_ble_eq_true rfl⟩ rfl hl.1 rfl (Nat.le_of_ble_eq_true rfl) dX6_find_9 ⟨Nat.zero_le _, Nat.zero_le _⟩) hP hD hS hA [0, 1, 2] rfl (c2 := 0) (s2 := 0) rfl rfl (fun H locs hP hS => ?_)
    refine lv_goto (tgt := 17) hx hb dX6_find_12 (by decide) ?_
    exact hret r_9 17 ls H locs rfl dX6_find_17 hP hD hS h
def fX6_cell (fN : Nat → Int32) (fcd : Nat → Int32) (x1 : Int32) : Option (Int32 × (Nat → Int32) × (Nat → Int32)) :=
  bd1 (fX6_isDots x1) fun r_1 =>
  if r_1 = 0 then
    some ((-2 : Int32), fN, fcd)
  else
    bd1 (fX6_cells fN) fun r_11 =>
    if r_11 = (12 : Int32) then
      some ((-4 : Int32), fN, fcd)
    else
      bd1 (fX6_cells fN) fun r_27 =>
      if r_27 < 0 ∨ 12 ≤ r_27.toNatClampNeg then none else
      bd1 (fX6_end (upd fN 3 ((fN 3) + (1 : Int32)))) fun fN_43 =>
      bd1 (fX6_cells fN_43) fun r_47 =>
      some (r_47, fN_43, upd fcd r_27.toNatClampNeg x1)
abbrev rX6_cell : Room := { frames := 2, cells := 0, slots := 0, locals := 45 }
set_option maxHeartbeats 4000000 in
set_option maxRecDepth 100000 in
theorem tX6_cell {l : Launch} {D : va_G} {cI cZ cP : ClassId} (aM mN mkd mks mcd mpr msk mow mmi mst mbi msu mke mik : Nat) (vka : Int32) (viw : Int32) (fN : Nat → Int32) (fkd : Nat → Int32) (fks : Nat → Int32) (fcd : Nat → Int32) (fpr : Nat → Int32) (fsk : Nat → Int32) (fow : Nat → Int32) (fmi : Nat → Int32) (fst : Nat → Int32) (fbi : Nat → Int32) (fsu : Nat → Int32) (fke : Nat → Int32) (fik : Nat → Int32) (x1 : Int32) (r : Int32) (oN : Nat → Int32) (ocd : Nat → Int32) (h : fX6_cell fN fcd x1 = some (r, oN, ocd)) : CtI l D cI cZ cP yX6_cell wsX6_cell rX6_cell [.ref aM, .int x1] [(aM, .inr (6, [.ref mN, .ref mkd, .ref mks, .ref mcd, .ref mpr, .ref msk, .ref mow, .ref mmi, .ref mst, .ref mbi, .ref msu, .ref mke, .ref mik, .int vka, .int viw])), (mN, .inl (cI, 9, .inl fN)), (mkd, .inl (cI, 8, .inl fkd)), (mks, .inl (cI, 8, .inl fks)), (mcd, .inl (cI, 12, .inl fcd)), (mpr, .inl (cI, 16, .inl fpr)), (msk, .inl (cI, 16, .inl fsk)), (mow, .inl (cI, 16, .inl fow)), (mmi, .inl (cI, 16, .inl fmi)), (mst, .inl (cI, 16, .inl fst)), (mbi, .inl (cI, 16, .inl fbi)), (msu, .inl (cI, 16, .inl fsu)), (mke, .inl (cI, 298, .inl fke)), (mik, .inl (cZ, 2, .inl fik))] (fun _ : Unit => [(aM, .inr (6, [.ref mN, .ref mkd, .ref mks, .ref mcd, .ref mpr, .ref msk, .ref mow, .ref mmi, .ref mst, .ref mbi, .ref msu, .ref mke, .ref mik, .int vka, .int viw])), (mN, .inl (cI, 9, .inl oN)), (mkd, .inl (cI, 8, .inl fkd)), (mks, .inl (cI, 8, .inl fks)), (mcd, .inl (cI, 12, .inl ocd)), (mpr, .inl (cI, 16, .inl fpr)), (msk, .inl (cI, 16, .inl fsk)), (mow, .inl (cI, 16, .inl fow)), (mmi, .inl (cI, 16, .inl fmi)), (mst, .inl (cI, 16, .inl fst)), (mbi, .inl (cI, 16, .inl fbi)), (msu, .inl (cI, 16, .inl fsu)), (mke, .inl (cI, 298, .inl fke)), (mik, .inl (cZ, 2, .inl fik))]) r := by
  refine CtI.ofW (cc := cX6_cell) (maxL := 2) (by decide) rfl (Nat.le_of_ble_eq_true rfl) (lv := [(0, .ref aM), (1, .int x1)]) rfl ?_
  intro p e s m args below meth c A Q ls hx hb hml hown hts hK hN hP hD hS hA hl hret0
  have hown : s.vm.findClass RX6 = some m.cls := hown
  have i6 : ∀ w ∈ wsX60, w ∈ wsX6_cell := mem_ps [19, 20, 21, 22, 23, 24, 25, 26, 27, 28, 29, 30, 31, 32, 33] rfl
  have hret : ∀ (v : Int32) (zN : Nat → Int32) (zcd : Nat → Int32) (pc : Nat) (ls : Array Slot) (H : Heap) (locs : List Loc), narrow .int (.int v) = .int v → decode cX6_cell pc = .ok (.ireturn, 1) → va_P D vwCl [(aM, .inr (6, [.ref mN, .ref mkd, .ref mks, .ref mcd, .ref mpr, .ref msk, .ref mow, .ref mmi, .ref mst, .ref mbi, .ref msu, .ref mke, .ref mik, .int vka, .int viw])), (mN, .inl (cI, 9, .inl zN)), (mkd, .inl (cI, 8, .inl fkd)), (mks, .inl (cI, 8, .inl fks)), (mcd, .inl (cI, 12, .inl zcd)), (mpr, .inl (cI, 16, .inl fpr)), (msk, .inl (cI, 16, .inl fsk)), (mow, .inl (cI, 16, .inl fow)), (mmi, .inl (cI, 16, .inl fmi)), (mst, .inl (cI, 16, .inl fst)), (mbi, .inl (cI, 16, .inl fbi)), (msu, .inl (cI, 16, .inl fsu)), (mke, .inl (cI, 298, .inl fke)), (mik, .inl (cZ, 2, .inl fik))] H → va_D A [(aM, .inr (6, [.ref mN, .ref mkd, .ref mks, .ref mcd, .ref mpr, .ref msk, .ref mow, .ref mmi, .ref mst, .ref mbi, .ref msu, .ref mke, .ref mik, .int vka, .int viw])), (mN, .inl (cI, 9, .inl zN)), (mkd, .inl (cI, 8, .inl fkd)), (mks, .inl (cI, 8, .inl fks)), (mcd, .inl (cI, 12, .inl zcd)), (mpr, .inl (cI, 16, .inl fpr)), (msk, .inl (cI, 16, .inl fsk)), (mow, .inl (cI, 16, .inl fow)), (mmi, .inl (cI, 16, .inl fmi)), (mst, .inl (cI, 16, .inl fst)), (mbi, .inl (cI, 16, .inl fbi)), (msu, .inl (cI, 16, .inl fsu)), (mke, .inl (cI, 298, .inl fke)), (mik, .inl (cZ, 2, .inl fik))] → va_S A s.heap H locs → some (v, zN, zcd) = some (r, oN, ocd) → W p l e rX6_cell s m args below meth c H locs 0 0 Q (F0 m pc ls [.int v]) := by
    intro v zN zcd pc ls H locs hn hd hP hD hS h
    cases h
    exact hret0 pc ls H locs () hn hd hP hD hS
  clear hret0
  unfold fX6_cell at h
  obtain ⟨H, hH⟩ : ∃ H, H = s.heap := ⟨_, rfl⟩
  have hP : va_P D vwCl [(aM, .inr (6, [.ref mN, .ref mkd, .ref mks, .ref mcd, .ref mpr, .ref msk, .ref mow, .ref mmi, .ref mst, .ref mbi, .ref msu, .ref mke, .ref mik, .int vka, .int viw])), (mN, .inl (cI, 9, .inl fN)), (mkd, .inl (cI, 8, .inl fkd)), (mks, .inl (cI, 8, .inl fks)), (mcd, .inl (cI, 12, .inl fcd)), (mpr, .inl (cI, 16, .inl fpr)), (msk, .inl (cI, 16, .inl fsk)), (mow, .inl (cI, 16, .inl fow)), (mmi, .inl (cI, 16, .inl fmi)), (mst, .inl (cI, 16, .inl fst)), (mbi, .inl (cI, 16, .inl fbi)), (msu, .inl (cI, 16, .inl fsu)), (mke, .inl (cI, 298, .inl fke)), (mik, .inl (cZ, 2, .inl fik))] H := by rw [hH]; exact hP
  obtain ⟨locs, hlocs⟩ : ∃ x : List Loc, x = [] := ⟨_, rfl⟩
  have hS : va_S A s.heap H locs := by rw [hH, hlocs]; exact hS
  suffices hgo : W p l e rX6_cell s m args below meth c H locs 0 0 Q (F0 m 0 ls []) by rw [hH, hlocs] at hgo; exact hgo
  refine lv_iload_n hx hb dX6_cell_0 rfl (lv_at hl 1 rfl) ?_
  obtain ⟨r_1, q_1, h⟩ := bd1_some h
  refine fr_ro_i (S := Unit) (wc := []) (fr_S (As := [.int x1]) (rest := []) ⟨hx, hb, hml, hown, hts⟩ (tX6_isDots x1 r_1 q_1) gX6_cell_X6_isDots rfl (fr_pre (As := [.int x1]) (wc := []) hK hN hP hD [] (by decide) rfl) (n := 1) (by decide +kernel) ⟨Nat.le_of_ble_eq_true rfl, Nat.le_of_ble_eq_true rfl⟩ rfl hl.1 rfl (Nat.le_of_ble_eq_true rfl) dX6_cell_1 ⟨Nat.zero_le _, Nat.zero_le _⟩) hP hD hS hA [] rfl (c2 := 0) (s2 := 0) rfl rfl (fun H locs hP hS => ?_)
  refine lv_if_ne (tgt := 10) hx hb dX6_cell_4 (by decide) (fun c1 => ?_) (fun c1 => ?_)
  · have h := (if_neg c1).symm.trans h
    refine lv_aload_n hx hb dX6_cell_10 rfl (lv_at hl 0 rfl) ?_
    obtain ⟨r_11, q_11, h⟩ := bd1_some h
    refine fr_ro_i (S := Unit) (wc := [(aM, .inr (6, [.ref mN, .ref mkd, .ref mks, .ref mcd, .ref mpr, .ref msk, .ref mow, .ref mmi, .ref mst, .ref mbi, .ref msu, .ref mke, .ref mik, .int vka, .int viw])), (mN, .inl (cI, 9, .inl fN))]) (fr_V (As := []) (rest := []) (C := RX6) ⟨hx, hb, hml, hown, hts⟩ (tX6_cells aM mN mkd mks mcd mpr msk mow mmi mst mbi msu mke mik vka viw fN r_11 q_11) gX6_cell_X6_cells rfl (fr_preV (As := []) (b := aM) (ci := 6) (q0 := 0) (wc := [(aM, .inr (6, [.ref mN, .ref mkd, .ref mks, .ref mcd, .ref mpr, .ref msk, .ref mow, .ref mmi, .ref mst, .ref mbi, .ref msu, .ref mke, .ref mik, .int vka, .int viw])), (mN, .inl (cI, 9, .inl fN))]) hK hN hP hD [0, 1] (by decide) rfl rfl rfl) (n := 0) (by decide +kernel) ⟨Nat.le_of_ble_eq_true rfl, Nat.le_of_ble_eq_true rfl⟩ rfl hl.1 rfl (Nat.le_of_ble_eq_true rfl) dX6_cell_11 ⟨Nat.zero_le _, Nat.zero_le _⟩) hP hD hS hA [0, 1] rfl (c2 := 0) (s2 := 0) rfl rfl (fun H locs hP hS => ?_)
    refine lv_bipush (v := (12 : Int32)) hx hb dX6_cell_14 (by decide) ?_
    refine lv_icmp_ne (tgt := 22) hx hb dX6_cell_16 (by decide) (fun c2 => ?_) (fun c2 => ?_)
    · have h := (if_neg c2).symm.trans h
      refine lv_aload_n hx hb dX6_cell_22 rfl (lv_at hl 0 rfl) ?_
      refine va_get (D := D) (ci := 6) (v := .ref mcd) (C := RX6) (T := TX6) (N := 15) hx hb hts i6 hown hK hP 0 rfl rfl 3 (by decide) (hts (.fieldLink RX6 19 RX6 "cellDots" "[I") (List.mem_of_getElem? (i := 1) rfl)) (fun _ h9 => h9) rfl dX6_cell_23 ?_
      refine lv_aload_n hx hb dX6_cell_26 rfl (lv_at hl 0 rfl) ?_
      obtain ⟨r_27, q_27, h⟩ := bd1_some h
      refine fr_ro_i (S := Unit) (wc := [(aM, .inr (6, [.ref mN, .ref mkd, .ref mks, .ref mcd, .ref mpr, .ref msk, .ref mow, .ref mmi, .ref mst, .ref mbi, .ref msu, .ref mke, .ref mik, .int vka, .int viw])), (mN, .inl (cI, 9, .inl fN))]) (fr_V (As := []) (rest := [.ref mcd]) (C := RX6) ⟨hx, hb, hml, hown, hts⟩ (tX6_cells aM mN mkd mks mcd mpr msk mow mmi mst mbi msu mke mik vka viw fN r_27 q_27) gX6_cell_X6_cells rfl (fr_preV (As := []) (b := aM) (ci := 6) (q0 := 0) (wc := [(aM, .inr (6, [.ref mN, .ref mkd, .ref mks, .ref mcd, .ref mpr, .ref msk, .ref mow, .ref mmi, .ref mst, .ref mbi, .ref msu, .ref mke, .ref mik, .int vka, .int viw])), (mN, .inl (cI, 9, .inl fN))]) hK hN hP hD [0, 1] (by decide) rfl rfl rfl) (n := 0) (by decide +kernel) ⟨Nat.le_of_ble_eq_true rfl, Nat.le_of_ble_eq_true rfl⟩ rfl hl.1 rfl (Nat.le_of_ble_eq_true rfl) dX6_cell_27 ⟨Nat.zero_le _, Nat.zero_le _⟩) hP hD hS hA [0, 1] rfl (c2 := 0) (s2 := 0) rfl rfl (fun H locs hP hS => ?_)
      refine lv_iload_n hx hb dX6_cell_30 rfl (lv_at hl 1 rfl) ?_
      obtain ⟨g3, h⟩ := no_some h
      refine va_iast hx hb hK hP hD hS 4 0 rfl rfl g3 dX6_cell_31 (fun H locs hP hD hS => ?_)
      have hP : va_P D vwCl [(aM, .inr (6, [.ref mN, .ref mkd, .ref mks, .ref mcd, .ref mpr, .ref msk, .ref mow, .ref mmi, .ref mst, .ref mbi, .ref msu, .ref mke, .ref mik, .int vka, .int viw])), (mN, .inl (cI, 9, .inl fN)), (mkd, .inl (cI, 8, .inl fkd)), (mks, .inl (cI, 8, .inl fks)), (mcd, .inl (cI, 12, .inl (upd fcd r_27.toNatClampNeg x1))), (mpr, .inl (cI, 16, .inl fpr)), (msk, .inl (cI, 16, .inl fsk)), (mow, .inl (cI, 16, .inl fow)), (mmi, .inl (cI, 16, .inl fmi)), (mst, .inl (cI, 16, .inl fst)), (mbi, .inl (cI, 16, .inl fbi)), (msu, .inl (cI, 16, .inl fsu)), (mke, .inl (cI, 298, .inl fke)), (mik, .inl (cZ, 2, .inl fik))] H := hP
      have hD : va_D A [(aM, .inr (6, [.ref mN, .ref mkd, .ref mks, .ref mcd, .ref mpr, .ref msk, .ref mow, .ref mmi, .ref mst, .ref mbi, .ref msu, .ref mke, .ref mik, .int vka, .int viw])), (mN, .inl (cI, 9, .inl fN)), (mkd, .inl (cI, 8, .inl fkd)), (mks, .inl (cI, 8, .inl fks)), (mcd, .inl (cI, 12, .inl (upd fcd r_27.toNatClampNeg x1))), (mpr, .inl (cI, 16, .inl fpr)), (msk, .inl (cI, 16, .inl fsk)), (mow, .inl (cI, 16, .inl fow)), (mmi, .inl (cI, 16, .inl fmi)), (mst, .inl (cI, 16, .inl fst)), (mbi, .inl (cI, 16, .inl fbi)), (msu, .inl (cI, 16, .inl fsu)), (mke, .inl (cI, 298, .inl fke)), (mik, .inl (cZ, 2, .inl fik))] := hD
      refine lv_aload_n hx hb dX6_cell_32 rfl (lv_at hl 0 rfl) ?_
      refine va_get (D := D) (ci := 6) (v := .ref mN) (C := RX6) (T := TX6) (N := 15) hx hb hts i6 hown hK hP 0 rfl rfl 0 (by decide) (hts (.fieldLink RX6 7 RX6 "now" "[I") (List.mem_of_getElem? (i := 2) rfl)) (fun _ h9 => h9) rfl dX6_cell_33 ?_
      refine lv_iconst (v := (3 : Int32)) hx hb dX6_cell_36 (by decide) ?_
      refine lv_dup2_11 hx hb dX6_cell_37 rfl rfl ?_
      refine fr_iald (j := 3) hx hb hK hP 1 0 rfl rfl (by decide) (vin_of 3 9 (3 : Int32) (by decide) (by decide) (by decide)) dX6_cell_38 ?_
      refine lv_iconst (v := (1 : Int32)) hx hb dX6_cell_39 (by decide) ?_
      refine lv_iadd hx hb dX6_cell_40 ?_
      refine fr_iast (j := 3) hx hb hK hP hD hS 1 0 rfl rfl (by decide) (vin_of 3 9 (3 : Int32) (by decide) (by decide) (by decide)) dX6_cell_41 (fun H locs hP hD hS => ?_)
      have hP : va_P D vwCl [(aM, .inr (6, [.ref mN, .ref mkd, .ref mks, .ref mcd, .ref mpr, .ref msk, .ref mow, .ref mmi, .ref mst, .ref mbi, .ref msu, .ref mke, .ref mik, .int vka, .int viw])), (mN, .inl (cI, 9, .inl (upd fN 3 ((fN 3) + (1 : Int32))))), (mkd, .inl (cI, 8, .inl fkd)), (mks, .inl (cI, 8, .inl fks)), (mcd, .inl (cI, 12, .inl (upd fcd r_27.toNatClampNeg x1))), (mpr, .inl (cI, 16, .inl fpr)), (msk, .inl (cI, 16, .inl fsk)), (mow, .inl (cI, 16, .inl fow)), (mmi, .inl (cI, 16, .inl fmi)), (mst, .inl (cI, 16, .inl fst)), (mbi, .inl (cI, 16, .inl fbi)), (msu, .inl (cI, 16, .inl fsu)), (mke, .inl (cI, 298, .inl fke)), (mik, .inl (cZ, 2, .inl fik))] H := hP
      have hD : va_D A [(aM, .inr (6, [.ref mN, .ref mkd, .ref mks, .ref mcd, .ref mpr, .ref msk, .ref mow, .ref mmi, .ref mst, .ref mbi, .ref msu, .ref mke, .ref mik, .int vka, .int viw])), (mN, .inl (cI, 9, .inl (upd fN 3 ((fN 3) + (1 : Int32))))), (mkd, .inl (cI, 8, .inl fkd)), (mks, .inl (cI, 8, .inl fks)), (mcd, .inl (cI, 12, .inl (upd fcd r_27.toNatClampNeg x1))), (mpr, .inl (cI, 16, .inl fpr)), (msk, .inl (cI, 16, .inl fsk)), (mow, .inl (cI, 16, .inl fow)), (mmi, .inl (cI, 16, .inl fmi)), (mst, .inl (cI, 16, .inl fst)), (mbi, .inl (cI, 16, .inl fbi)), (msu, .inl (cI, 16, .inl fsu)), (mke, .inl (cI, 298, .inl fke)), (mik, .inl (cZ, 2, .inl fik))] := hD
      refine lv_aload_n hx hb dX6_cell_42 rfl (lv_at hl 0 rfl) ?_
      obtain ⟨fN_43, q_43, h⟩ := bd1_some h
      refine fr_rw_v (S := Unit) (wc := [(aM, .inr (6, [.ref mN, .ref mkd, .ref mks, .ref mcd, .ref mpr, .ref msk, .ref mow, .ref mmi, .ref mst, .ref mbi, .ref msu, .ref mke, .ref mik, .int vka, .int viw])), (mN, .inl (cI, 9, .inl (upd fN 3 ((fN 3) + (1 : Int32)))))]) (wc' := fun _ => [(aM, .inr (6, [.ref mN, .ref mkd, .ref mks, .ref mcd, .ref mpr, .ref msk, .ref mow, .ref mmi, .ref mst, .ref mbi, .ref msu, .ref mke, .ref mik, .int vka, .int viw])), (mN, .inl (cI, 9, .inl fN_43))]) (wr := [(mkd, .inl (cI, 8, .inl fkd)), (mks, .inl (cI, 8, .inl fks)), (mcd, .inl (cI, 12, .inl (upd fcd r_27.toNatClampNeg x1))), (mpr, .inl (cI, 16, .inl fpr)), (msk, .inl (cI, 16, .inl fsk)), (mow, .inl (cI, 16, .inl fow)), (mmi, .inl (cI, 16, .inl fmi)), (mst, .inl (cI, 16, .inl fst)), (mbi, .inl (cI, 16, .inl fbi)), (msu, .inl (cI, 16, .inl fsu)), (mke, .inl (cI, 298, .inl fke)), (mik, .inl (cZ, 2, .inl fik))]) (w2 := fun _ => [(aM, .inr (6, [.ref mN, .ref mkd, .ref mks, .ref mcd, .ref mpr, .ref msk, .ref mow, .ref mmi, .ref mst, .ref mbi, .ref msu, .ref mke, .ref mik, .int vka, .int viw])), (mN, .inl (cI, 9, .inl fN_43)), (mkd, .inl (cI, 8, .inl fkd)), (mks, .inl (cI, 8, .inl fks)), (mcd, .inl (cI, 12, .inl (upd fcd r_27.toNatClampNeg x1))), (mpr, .inl (cI, 16, .inl fpr)), (msk, .inl (cI, 16, .inl fsk)), (mow, .inl (cI, 16, .inl fow)), (mmi, .inl (cI, 16, .inl fmi)), (mst, .inl (cI, 16, .inl fst)), (mbi, .inl (cI, 16, .inl fbi)), (msu, .inl (cI, 16, .inl fsu)), (mke, .inl (cI, 298, .inl fke)), (mik, .inl (cZ, 2, .inl fik))]) (fr_Vv (As := []) (rest := []) (C := RX6) ⟨hx, hb, hml, hown, hts⟩ (tX6_end aM mN mkd mks mcd mpr msk mow mmi mst mbi msu mke mik vka viw (upd fN 3 ((fN 3) + (1 : Int32))) fN_43 q_43) gX6_cell_X6_end rfl (fr_preV (As := []) (b := aM) (ci := 6) (q0 := 0) (wc := [(aM, .inr (6, [.ref mN, .ref mkd, .ref mks, .ref mcd, .ref mpr, .ref msk, .ref mow, .ref mmi, .ref mst, .ref mbi, .ref msu, .ref mke, .ref mik, .int vka, .int viw])), (mN, .inl (cI, 9, .inl (upd fN 3 ((fN 3) + (1 : Int32)))))]) hK hN hP hD [0, 1] (by decide) rfl rfl rfl) (n := 0) (by decide +kernel) ⟨Nat.le_of_ble_eq_true rfl, Nat.le_of_ble_eq_true rfl⟩ rfl hl.1 rfl (Nat.le_of_ble_eq_true rfl) dX6_cell_43 ⟨Nat.zero_le _, Nat.zero_le _⟩) hP hD hS hA [0, 1] [2, 3, 4, 5, 6, 7, 8, 9, 10, 11, 12, 13] [12, 13, 0, 1, 2, 3, 4, 5, 6, 7, 8, 9, 10, 11] rfl rfl (by decide) (by decide) (by decide) (fun _ => rfl) (c2 := 0) (s2 := 0) rfl rfl (fun _ H locs hP hD hS => ?_)
      refine lv_aload_n hx hb dX6_cell_46 rfl (lv_at hl 0 rfl) ?_
      obtain ⟨r_47, q_47, h⟩ := bd1_some h
      refine fr_ro_i (S := Unit) (wc := [(aM, .inr (6, [.ref mN, .ref mkd, .ref mks, .ref mcd, .ref mpr, .ref msk, .ref mow, .ref mmi, .ref mst, .ref mbi, .ref msu, .ref mke, .ref mik, .int vka, .int viw])), (mN, .inl (cI, 9, .inl fN_43))]) (fr_V (As := []) (rest := []) (C := RX6) ⟨hx, hb, hml, hown, hts⟩ (tX6_cells aM mN mkd mks mcd mpr msk mow mmi mst mbi msu mke mik vka viw fN_43 r_47 q_47) gX6_cell_X6_cells rfl (fr_preV (As := []) (b := aM) (ci := 6) (q0 := 0) (wc := [(aM, .inr (6, [.ref mN, .ref mkd, .ref mks, .ref mcd, .ref mpr, .ref msk, .ref mow, .ref mmi, .ref mst, .ref mbi, .ref msu, .ref mke, .ref mik, .int vka, .int viw])), (mN, .inl (cI, 9, .inl fN_43))]) hK hN hP hD [0, 1] (by decide) rfl rfl rfl) (n := 0) (by decide +kernel) ⟨Nat.le_of_ble_eq_true rfl, Nat.le_of_ble_eq_true rfl⟩ rfl hl.1 rfl (Nat.le_of_ble_eq_true rfl) dX6_cell_47 ⟨Nat.zero_le _, Nat.zero_le _⟩) hP hD hS hA [0, 1] rfl (c2 := 0) (s2 := 0) rfl rfl (fun H locs hP hS => ?_)
      exact hret r_47 fN_43 (upd fcd r_27.toNatClampNeg x1) 50 ls H locs rfl dX6_cell_50 hP hD hS h
    · have h := (if_pos c2).symm.trans h
      refine lv_bipush (v := (-4 : Int32)) hx hb dX6_cell_19 (by decide) ?_
      exact hret (-4 : Int32) fN fcd 21 ls H locs rfl dX6_cell_21 hP hD hS h
  · have h := (if_pos c1).symm.trans h
    refine lv_bipush (v := (-2 : Int32)) hx hb dX6_cell_7 (by decide) ?_
    exact hret (-2 : Int32) fN fcd 9 ls H locs rfl dX6_cell_9 hP hD hS h
def fX6_isCell (fN : Nat → Int32) (x1 : Int32) : Option (Int32) :=
  bd1 (fX6_cells fN) fun r_4 =>
  bd1 (fX6_in x1.toInt64 (0 : Int64) ((r_4 - (1 : Int32)).toInt64)) fun r_10 =>
  if r_10 = 0 ∨ r_10 = 1 then some r_10 else none
abbrev rX6_isCell : Room := { frames := 1, cells := 0, slots := 0, locals := 25 }
set_option maxHeartbeats 4000000 in
set_option maxRecDepth 100000 in
theorem tX6_isCell {l : Launch} {D : va_G} {cI cZ cP : ClassId} (aM mN mkd mks mcd mpr msk mow mmi mst mbi msu mke mik : Nat) (vka : Int32) (viw : Int32) (fN : Nat → Int32) (x1 : Int32) (r : Int32) (h : fX6_isCell fN x1 = some r) : CtI l D cI cZ cP yX6_isCell wsX6_isCell rX6_isCell [.ref aM, .int x1] [(aM, .inr (6, [.ref mN, .ref mkd, .ref mks, .ref mcd, .ref mpr, .ref msk, .ref mow, .ref mmi, .ref mst, .ref mbi, .ref msu, .ref mke, .ref mik, .int vka, .int viw])), (mN, .inl (cI, 9, .inl fN))] (fun _ : Unit => [(aM, .inr (6, [.ref mN, .ref mkd, .ref mks, .ref mcd, .ref mpr, .ref msk, .ref mow, .ref mmi, .ref mst, .ref mbi, .ref msu, .ref mke, .ref mik, .int vka, .int viw])), (mN, .inl (cI, 9, .inl fN))]) r := by
  refine CtI.ofW (cc := cX6_isCell) (maxL := 2) (by decide) rfl (Nat.le_of_ble_eq_true rfl) (lv := [(0, .ref aM), (1, .int x1)]) rfl ?_
  intro p e s m args below meth c A Q ls hx hb hml hown hts hK hN hP hD hS hA hl hret0
  have hown : s.vm.findClass RX6 = some m.cls := hown
  have i6 : ∀ w ∈ wsX60, w ∈ wsX6_isCell := mem_ps [10, 11, 12, 13, 14, 15, 16, 17, 18, 19, 20, 21, 22, 23, 24] rfl
  have hret : ∀ (v : Int32) (pc : Nat) (ls : Array Slot) (H : Heap) (locs : List Loc), narrow .boolean (.int v) = .int v → decode cX6_isCell pc = .ok (.ireturn, 1) → va_P D vwCl [(aM, .inr (6, [.ref mN, .ref mkd, .ref mks, .ref mcd, .ref mpr, .ref msk, .ref mow, .ref mmi, .ref mst, .ref mbi, .ref msu, .ref mke, .ref mik, .int vka, .int viw])), (mN, .inl (cI, 9, .inl fN))] H → va_D A [(aM, .inr (6, [.ref mN, .ref mkd, .ref mks, .ref mcd, .ref mpr, .ref msk, .ref mow, .ref mmi, .ref mst, .ref mbi, .ref msu, .ref mke, .ref mik, .int vka, .int viw])), (mN, .inl (cI, 9, .inl fN))] → va_S A s.heap H locs → some v = some r → W p l e rX6_isCell s m args below meth c H locs 0 0 Q (F0 m pc ls [.int v]) := by
    intro v pc ls H locs hn hd hP hD hS h
    cases h
    exact hret0 pc ls H locs () hn hd hP hD hS
  clear hret0
  unfold fX6_isCell at h
  obtain ⟨H, hH⟩ : ∃ H, H = s.heap := ⟨_, rfl⟩
  have hP : va_P D vwCl [(aM, .inr (6, [.ref mN, .ref mkd, .ref mks, .ref mcd, .ref mpr, .ref msk, .ref mow, .ref mmi, .ref mst, .ref mbi, .ref msu, .ref mke, .ref mik, .int vka, .int viw])), (mN, .inl (cI, 9, .inl fN))] H := by rw [hH]; exact hP
  obtain ⟨locs, hlocs⟩ : ∃ x : List Loc, x = [] := ⟨_, rfl⟩
  have hS : va_S A s.heap H locs := by rw [hH, hlocs]; exact hS
  suffices hgo : W p l e rX6_isCell s m args below meth c H locs 0 0 Q (F0 m 0 ls []) by rw [hH, hlocs] at hgo; exact hgo
  refine lv_iload_n hx hb dX6_isCell_0 rfl (lv_at hl 1 rfl) ?_
  refine lv_i2l (v := x1.toInt64) hx hb dX6_isCell_1 rfl ?_
  refine lv_lconst (v := (0 : Int64)) hx hb dX6_isCell_2 (by decide) ?_
  refine lv_aload_n hx hb dX6_isCell_3 rfl (lv_at hl 0 rfl) ?_
  obtain ⟨r_4, q_4, h⟩ := bd1_some h
  refine fr_ro_i (S := Unit) (wc := [(aM, .inr (6, [.ref mN, .ref mkd, .ref mks, .ref mcd, .ref mpr, .ref msk, .ref mow, .ref mmi, .ref mst, .ref mbi, .ref msu, .ref mke, .ref mik, .int vka, .int viw])), (mN, .inl (cI, 9, .inl fN))]) (fr_V (As := []) (rest := [.long (0 : Int64), .long x1.toInt64]) (C := RX6) ⟨hx, hb, hml, hown, hts⟩ (tX6_cells aM mN mkd mks mcd mpr msk mow mmi mst mbi msu mke mik vka viw fN r_4 q_4) gX6_isCell_X6_cells rfl (fr_preV (As := []) (b := aM) (ci := 6) (q0 := 0) (wc := [(aM, .inr (6, [.ref mN, .ref mkd, .ref mks, .ref mcd, .ref mpr, .ref msk, .ref mow, .ref mmi, .ref mst, .ref mbi, .ref msu, .ref mke, .ref mik, .int vka, .int viw])), (mN, .inl (cI, 9, .inl fN))]) hK hN hP hD [0, 1] (by decide) rfl rfl rfl) (n := 0) (by decide +kernel) ⟨Nat.le_of_ble_eq_true rfl, Nat.le_of_ble_eq_true rfl⟩ rfl hl.1 rfl (Nat.le_of_ble_eq_true rfl) dX6_isCell_4 ⟨Nat.zero_le _, Nat.zero_le _⟩) hP hD hS hA [0, 1] rfl (c2 := 0) (s2 := 0) rfl rfl (fun H locs hP hS => ?_)
  refine lv_iconst (v := (1 : Int32)) hx hb dX6_isCell_7 (by decide) ?_
  refine lv_isub hx hb dX6_isCell_8 ?_
  refine lv_i2l (v := (r_4 - (1 : Int32)).toInt64) hx hb dX6_isCell_9 rfl ?_
  obtain ⟨r_10, q_10, h⟩ := bd1_some h
  refine fr_ro_i (S := Unit) (wc := []) (fr_S (As := [.long x1.toInt64, .long (0 : Int64), .long ((r_4 - (1 : Int32)).toInt64)]) (rest := []) ⟨hx, hb, hml, hown, hts⟩ (tX6_in x1.toInt64 (0 : Int64) ((r_4 - (1 : Int32)).toInt64) r_10 q_10) gX6_isCell_X6_in rfl (fr_pre (As := [.long x1.toInt64, .long (0 : Int64), .long ((r_4 - (1 : Int32)).toInt64)]) (wc := []) hK hN hP hD [] (by decide) rfl) (n := 3) (by decide +kernel) ⟨Nat.le_of_ble_eq_true rfl, Nat.le_of_ble_eq_true rfl⟩ rfl hl.1 rfl (Nat.le_of_ble_eq_true rfl) dX6_isCell_10 ⟨Nat.zero_le _, Nat.zero_le _⟩) hP hD hS hA [] rfl (c2 := 0) (s2 := 0) rfl rfl (fun H locs hP hS => ?_)
  obtain ⟨z1, h⟩ := yes_some h
  exact hret r_10 13 ls H locs (zz_nar z1) dX6_isCell_13 hP hD hS h
def fX6_change (fN : Nat → Int32) (fcd : Nat → Int32) (x1 : Int32) (x2 : Int32) : Option (Int32 × (Nat → Int32) × (Nat → Int32)) :=
  bd1 (fX6_isCell fN x1) fun r_2 =>
  if r_2 = 0 then
    some ((-1 : Int32), fN, fcd)
  else
    bd1 (fX6_isDots x2) fun r_11 =>
    if r_11 = 0 then
      some ((-2 : Int32), fN, fcd)
    else
      if x1 < 0 ∨ 12 ≤ x1.toNatClampNeg then none else
      bdv (fcd x1.toNatClampNeg) fun x3_26 =>
      if x1 < 0 ∨ 12 ≤ x1.toNatClampNeg then none else
      if x2 = x3_26 then
        some (x3_26, upd fN 6 (fN 6), upd fcd x1.toNatClampNeg x2)
      else
        some (x3_26, upd fN 6 (0 : Int32), upd fcd x1.toNatClampNeg x2)
abbrev rX6_change : Room := { frames := 2, cells := 0, slots := 0, locals := 46 }
set_option maxHeartbeats 4000000 in
set_option maxRecDepth 100000 in
theorem tX6_change {l : Launch} {D : va_G} {cI cZ cP : ClassId} (aM mN mkd mks mcd mpr msk mow mmi mst mbi msu mke mik : Nat) (vka : Int32) (viw : Int32) (fN : Nat → Int32) (fkd : Nat → Int32) (fks : Nat → Int32) (fcd : Nat → Int32) (fpr : Nat → Int32) (fsk : Nat → Int32) (fow : Nat → Int32) (fmi : Nat → Int32) (fst : Nat → Int32) (fbi : Nat → Int32) (fsu : Nat → Int32) (fke : Nat → Int32) (fik : Nat → Int32) (x1 : Int32) (x2 : Int32) (r : Int32) (oN : Nat → Int32) (ocd : Nat → Int32) (h : fX6_change fN fcd x1 x2 = some (r, oN, ocd)) : CtI l D cI cZ cP yX6_change wsX6_change rX6_change [.ref aM, .int x1, .int x2] [(aM, .inr (6, [.ref mN, .ref mkd, .ref mks, .ref mcd, .ref mpr, .ref msk, .ref mow, .ref mmi, .ref mst, .ref mbi, .ref msu, .ref mke, .ref mik, .int vka, .int viw])), (mN, .inl (cI, 9, .inl fN)), (mkd, .inl (cI, 8, .inl fkd)), (mks, .inl (cI, 8, .inl fks)), (mcd, .inl (cI, 12, .inl fcd)), (mpr, .inl (cI, 16, .inl fpr)), (msk, .inl (cI, 16, .inl fsk)), (mow, .inl (cI, 16, .inl fow)), (mmi, .inl (cI, 16, .inl fmi)), (mst, .inl (cI, 16, .inl fst)), (mbi, .inl (cI, 16, .inl fbi)), (msu, .inl (cI, 16, .inl fsu)), (mke, .inl (cI, 298, .inl fke)), (mik, .inl (cZ, 2, .inl fik))] (fun _ : Unit => [(aM, .inr (6, [.ref mN, .ref mkd, .ref mks, .ref mcd, .ref mpr, .ref msk, .ref mow, .ref mmi, .ref mst, .ref mbi, .ref msu, .ref mke, .ref mik, .int vka, .int viw])), (mN, .inl (cI, 9, .inl oN)), (mkd, .inl (cI, 8, .inl fkd)), (mks, .inl (cI, 8, .inl fks)), (mcd, .inl (cI, 12, .inl ocd)), (mpr, .inl (cI, 16, .inl fpr)), (msk, .inl (cI, 16, .inl fsk)), (mow, .inl (cI, 16, .inl fow)), (mmi, .inl (cI, 16, .inl fmi)), (mst, .inl (cI, 16, .inl fst)), (mbi, .inl (cI, 16, .inl fbi)), (msu, .inl (cI, 16, .inl fsu)), (mke, .inl (cI, 298, .inl fke)), (mik, .inl (cZ, 2, .inl fik))]) r := by
  refine CtI.ofW (cc := cX6_change) (maxL := 4) (by decide) rfl (Nat.le_of_ble_eq_true rfl) (lv := [(0, .ref aM), (1, .int x1), (2, .int x2)]) rfl ?_
  intro p e s m args below meth c A Q ls hx hb hml hown hts hK hN hP hD hS hA hl hret0
  have hown : s.vm.findClass RX6 = some m.cls := hown
  have i6 : ∀ w ∈ wsX60, w ∈ wsX6_change := mem_ps [19, 20, 21, 22, 23, 24, 25, 26, 27, 28, 29, 30, 31, 32, 33] rfl
  have hret : ∀ (v : Int32) (zN : Nat → Int32) (zcd : Nat → Int32) (pc : Nat) (ls : Array Slot) (H : Heap) (locs : List Loc), narrow .int (.int v) = .int v → decode cX6_change pc = .ok (.ireturn, 1) → va_P D vwCl [(aM, .inr (6, [.ref mN, .ref mkd, .ref mks, .ref mcd, .ref mpr, .ref msk, .ref mow, .ref mmi, .ref mst, .ref mbi, .ref msu, .ref mke, .ref mik, .int vka, .int viw])), (mN, .inl (cI, 9, .inl zN)), (mkd, .inl (cI, 8, .inl fkd)), (mks, .inl (cI, 8, .inl fks)), (mcd, .inl (cI, 12, .inl zcd)), (mpr, .inl (cI, 16, .inl fpr)), (msk, .inl (cI, 16, .inl fsk)), (mow, .inl (cI, 16, .inl fow)), (mmi, .inl (cI, 16, .inl fmi)), (mst, .inl (cI, 16, .inl fst)), (mbi, .inl (cI, 16, .inl fbi)), (msu, .inl (cI, 16, .inl fsu)), (mke, .inl (cI, 298, .inl fke)), (mik, .inl (cZ, 2, .inl fik))] H → va_D A [(aM, .inr (6, [.ref mN, .ref mkd, .ref mks, .ref mcd, .ref mpr, .ref msk, .ref mow, .ref mmi, .ref mst, .ref mbi, .ref msu, .ref mke, .ref mik, .int vka, .int viw])), (mN, .inl (cI, 9, .inl zN)), (mkd, .inl (cI, 8, .inl fkd)), (mks, .inl (cI, 8, .inl fks)), (mcd, .inl (cI, 12, .inl zcd)), (mpr, .inl (cI, 16, .inl fpr)), (msk, .inl (cI, 16, .inl fsk)), (mow, .inl (cI, 16, .inl fow)), (mmi, .inl (cI, 16, .inl fmi)), (mst, .inl (cI, 16, .inl fst)), (mbi, .inl (cI, 16, .inl fbi)), (msu, .inl (cI, 16, .inl fsu)), (mke, .inl (cI, 298, .inl fke)), (mik, .inl (cZ, 2, .inl fik))] → va_S A s.heap H locs → some (v, zN, zcd) = some (r, oN, ocd) → W p l e rX6_change s m args below meth c H locs 0 0 Q (F0 m pc ls [.int v]) := by
    intro v zN zcd pc ls H locs hn hd hP hD hS h
    cases h
    exact hret0 pc ls H locs () hn hd hP hD hS
  clear hret0
  unfold fX6_change at h
  obtain ⟨H, hH⟩ : ∃ H, H = s.heap := ⟨_, rfl⟩
  have hP : va_P D vwCl [(aM, .inr (6, [.ref mN, .ref mkd, .ref mks, .ref mcd, .ref mpr, .ref msk, .ref mow, .ref mmi, .ref mst, .ref mbi, .ref msu, .ref mke, .ref mik, .int vka, .int viw])), (mN, .inl (cI, 9, .inl fN)), (mkd, .inl (cI, 8, .inl fkd)), (mks, .inl (cI, 8, .inl fks)), (mcd, .inl (cI, 12, .inl fcd)), (mpr, .inl (cI, 16, .inl fpr)), (msk, .inl (cI, 16, .inl fsk)), (mow, .inl (cI, 16, .inl fow)), (mmi, .inl (cI, 16, .inl fmi)), (mst, .inl (cI, 16, .inl fst)), (mbi, .inl (cI, 16, .inl fbi)), (msu, .inl (cI, 16, .inl fsu)), (mke, .inl (cI, 298, .inl fke)), (mik, .inl (cZ, 2, .inl fik))] H := by rw [hH]; exact hP
  obtain ⟨locs, hlocs⟩ : ∃ x : List Loc, x = [] := ⟨_, rfl⟩
  have hS : va_S A s.heap H locs := by rw [hH, hlocs]; exact hS
  suffices hgo : W p l e rX6_change s m args below meth c H locs 0 0 Q (F0 m 0 ls []) by rw [hH, hlocs] at hgo; exact hgo
  refine lv_aload_n hx hb dX6_change_0 rfl (lv_at hl 0 rfl) ?_
  refine lv_iload_n hx hb dX6_change_1 rfl (lv_at hl 1 rfl) ?_
  obtain ⟨r_2, q_2, h⟩ := bd1_some h
  refine fr_ro_i (S := Unit) (wc := [(aM, .inr (6, [.ref mN, .ref mkd, .ref mks, .ref mcd, .ref mpr, .ref msk, .ref mow, .ref mmi, .ref mst, .ref mbi, .ref msu, .ref mke, .ref mik, .int vka, .int viw])), (mN, .inl (cI, 9, .inl fN))]) (fr_V (As := [.int x1]) (rest := []) (C := RX6) ⟨hx, hb, hml, hown, hts⟩ (tX6_isCell aM mN mkd mks mcd mpr msk mow mmi mst mbi msu mke mik vka viw fN x1 r_2 q_2) gX6_change_X6_isCell rfl (fr_preV (As := [.int x1]) (b := aM) (ci := 6) (q0 := 0) (wc := [(aM, .inr (6, [.ref mN, .ref mkd, .ref mks, .ref mcd, .ref mpr, .ref msk, .ref mow, .ref mmi, .ref mst, .ref mbi, .ref msu, .ref mke, .ref mik, .int vka, .int viw])), (mN, .inl (cI, 9, .inl fN))]) hK hN hP hD [0, 1] (by decide) rfl rfl rfl) (n := 1) (by decide +kernel) ⟨Nat.le_of_ble_eq_true rfl, Nat.le_of_ble_eq_true rfl⟩ rfl hl.1 rfl (Nat.le_of_ble_eq_true rfl) dX6_change_2 ⟨Nat.zero_le _, Nat.zero_le _⟩) hP hD hS hA [0, 1] rfl (c2 := 0) (s2 := 0) rfl rfl (fun H locs hP hS => ?_)
  refine lv_if_ne (tgt := 10) hx hb dX6_change_5 (by decide) (fun c1 => ?_) (fun c1 => ?_)
  · have h := (if_neg c1).symm.trans h
    refine lv_iload_n hx hb dX6_change_10 rfl (lv_at hl 2 rfl) ?_
    obtain ⟨r_11, q_11, h⟩ := bd1_some h
    refine fr_ro_i (S := Unit) (wc := []) (fr_S (As := [.int x2]) (rest := []) ⟨hx, hb, hml, hown, hts⟩ (tX6_isDots x2 r_11 q_11) gX6_change_X6_isDots rfl (fr_pre (As := [.int x2]) (wc := []) hK hN hP hD [] (by decide) rfl) (n := 1) (by decide +kernel) ⟨Nat.le_of_ble_eq_true rfl, Nat.le_of_ble_eq_true rfl⟩ rfl hl.1 rfl (Nat.le_of_ble_eq_true rfl) dX6_change_11 ⟨Nat.zero_le _, Nat.zero_le _⟩) hP hD hS hA [] rfl (c2 := 0) (s2 := 0) rfl rfl (fun H locs hP hS => ?_)
    refine lv_if_ne (tgt := 20) hx hb dX6_change_14 (by decide) (fun c2 => ?_) (fun c2 => ?_)
    · have h := (if_neg c2).symm.trans h
      refine lv_aload_n hx hb dX6_change_20 rfl (lv_at hl 0 rfl) ?_
      refine va_get (D := D) (ci := 6) (v := .ref mcd) (C := RX6) (T := TX6) (N := 15) hx hb hts i6 hown hK hP 0 rfl rfl 3 (by decide) (hts (.fieldLink RX6 19 RX6 "cellDots" "[I") (List.mem_of_getElem? (i := 1) rfl)) (fun _ h9 => h9) rfl dX6_change_21 ?_
      refine lv_iload_n hx hb dX6_change_24 rfl (lv_at hl 1 rfl) ?_
      obtain ⟨g3, h⟩ := no_some h
      refine va_iald hx hb hK hP 4 0 rfl rfl g3 dX6_change_25 ?_
      refine lv_topi (fun x3_26 ex3_26 => ?_)
      have h := bdv_some ex3_26 h
      refine lv_istore_n (lv' := [(3, .int x3_26), (0, .ref aM), (1, .int x1), (2, .int x2)]) hx hb dX6_change_26 rfl hl (by decide) rfl (fun ls hl => ?_)
      refine lv_aload_n hx hb dX6_change_27 rfl (lv_at hl 1 rfl) ?_
      refine va_get (D := D) (ci := 6) (v := .ref mcd) (C := RX6) (T := TX6) (N := 15) hx hb hts i6 hown hK hP 0 rfl rfl 3 (by decide) (hts (.fieldLink RX6 19 RX6 "cellDots" "[I") (List.mem_of_getElem? (i := 1) rfl)) (fun _ h9 => h9) rfl dX6_change_28 ?_
      refine lv_iload_n hx hb dX6_change_31 rfl (lv_at hl 2 rfl) ?_
      refine lv_iload_n hx hb dX6_change_32 rfl (lv_at hl 3 rfl) ?_
      obtain ⟨g4, h⟩ := no_some h
      refine va_iast hx hb hK hP hD hS 4 0 rfl rfl g4 dX6_change_33 (fun H locs hP hD hS => ?_)
      have hP : va_P D vwCl [(aM, .inr (6, [.ref mN, .ref mkd, .ref mks, .ref mcd, .ref mpr, .ref msk, .ref mow, .ref mmi, .ref mst, .ref mbi, .ref msu, .ref mke, .ref mik, .int vka, .int viw])), (mN, .inl (cI, 9, .inl fN)), (mkd, .inl (cI, 8, .inl fkd)), (mks, .inl (cI, 8, .inl fks)), (mcd, .inl (cI, 12, .inl (upd fcd x1.toNatClampNeg x2))), (mpr, .inl (cI, 16, .inl fpr)), (msk, .inl (cI, 16, .inl fsk)), (mow, .inl (cI, 16, .inl fow)), (mmi, .inl (cI, 16, .inl fmi)), (mst, .inl (cI, 16, .inl fst)), (mbi, .inl (cI, 16, .inl fbi)), (msu, .inl (cI, 16, .inl fsu)), (mke, .inl (cI, 298, .inl fke)), (mik, .inl (cZ, 2, .inl fik))] H := hP
      have hD : va_D A [(aM, .inr (6, [.ref mN, .ref mkd, .ref mks, .ref mcd, .ref mpr, .ref msk, .ref mow, .ref mmi, .ref mst, .ref mbi, .ref msu, .ref mke, .ref mik, .int vka, .int viw])), (mN, .inl (cI, 9, .inl fN)), (mkd, .inl (cI, 8, .inl fkd)), (mks, .inl (cI, 8, .inl fks)), (mcd, .inl (cI, 12, .inl (upd fcd x1.toNatClampNeg x2))), (mpr, .inl (cI, 16, .inl fpr)), (msk, .inl (cI, 16, .inl fsk)), (mow, .inl (cI, 16, .inl fow)), (mmi, .inl (cI, 16, .inl fmi)), (mst, .inl (cI, 16, .inl fst)), (mbi, .inl (cI, 16, .inl fbi)), (msu, .inl (cI, 16, .inl fsu)), (mke, .inl (cI, 298, .inl fke)), (mik, .inl (cZ, 2, .inl fik))] := hD
      refine lv_aload_n hx hb dX6_change_34 rfl (lv_at hl 1 rfl) ?_
      refine va_get (D := D) (ci := 6) (v := .ref mN) (C := RX6) (T := TX6) (N := 15) hx hb hts i6 hown hK hP 0 rfl rfl 0 (by decide) (hts (.fieldLink RX6 7 RX6 "now" "[I") (List.mem_of_getElem? (i := 2) rfl)) (fun _ h9 => h9) rfl dX6_change_35 ?_
      refine lv_bipush (v := (6 : Int32)) hx hb dX6_change_38 (by decide) ?_
      refine lv_iload_n hx hb dX6_change_40 rfl (lv_at hl 3 rfl) ?_
      refine lv_iload_n hx hb dX6_change_41 rfl (lv_at hl 0 rfl) ?_
      refine lv_icmp_ne (tgt := 55) hx hb dX6_change_42 (by decide) (fun c5 => ?_) (fun c5 => ?_)
      · have h := (if_neg c5).symm.trans h
        refine lv_iconst (v := (0 : Int32)) hx hb dX6_change_55 (by decide) ?_
        refine fr_iast (j := 6) hx hb hK hP hD hS 1 0 rfl rfl (by decide) (vin_of 6 9 (6 : Int32) (by decide) (by decide) (by decide)) dX6_change_56 (fun H locs hP hD hS => ?_)
        have hP : va_P D vwCl [(aM, .inr (6, [.ref mN, .ref mkd, .ref mks, .ref mcd, .ref mpr, .ref msk, .ref mow, .ref mmi, .ref mst, .ref mbi, .ref msu, .ref mke, .ref mik, .int vka, .int viw])), (mN, .inl (cI, 9, .inl (upd fN 6 (0 : Int32)))), (mkd, .inl (cI, 8, .inl fkd)), (mks, .inl (cI, 8, .inl fks)), (mcd, .inl (cI, 12, .inl (upd fcd x1.toNatClampNeg x2))), (mpr, .inl (cI, 16, .inl fpr)), (msk, .inl (cI, 16, .inl fsk)), (mow, .inl (cI, 16, .inl fow)), (mmi, .inl (cI, 16, .inl fmi)), (mst, .inl (cI, 16, .inl fst)), (mbi, .inl (cI, 16, .inl fbi)), (msu, .inl (cI, 16, .inl fsu)), (mke, .inl (cI, 298, .inl fke)), (mik, .inl (cZ, 2, .inl fik))] H := hP
        have hD : va_D A [(aM, .inr (6, [.ref mN, .ref mkd, .ref mks, .ref mcd, .ref mpr, .ref msk, .ref mow, .ref mmi, .ref mst, .ref mbi, .ref msu, .ref mke, .ref mik, .int vka, .int viw])), (mN, .inl (cI, 9, .inl (upd fN 6 (0 : Int32)))), (mkd, .inl (cI, 8, .inl fkd)), (mks, .inl (cI, 8, .inl fks)), (mcd, .inl (cI, 12, .inl (upd fcd x1.toNatClampNeg x2))), (mpr, .inl (cI, 16, .inl fpr)), (msk, .inl (cI, 16, .inl fsk)), (mow, .inl (cI, 16, .inl fow)), (mmi, .inl (cI, 16, .inl fmi)), (mst, .inl (cI, 16, .inl fst)), (mbi, .inl (cI, 16, .inl fbi)), (msu, .inl (cI, 16, .inl fsu)), (mke, .inl (cI, 298, .inl fke)), (mik, .inl (cZ, 2, .inl fik))] := hD
        refine lv_iload_n hx hb dX6_change_57 rfl (lv_at hl 0 rfl) ?_
        exact hret x3_26 (upd fN 6 (0 : Int32)) (upd fcd x1.toNatClampNeg x2) 58 ls H locs rfl dX6_change_58 hP hD hS h
      · have h := (if_pos c5).symm.trans h
        refine lv_aload_n hx hb dX6_change_45 rfl (lv_at hl 1 rfl) ?_
        refine va_get (D := D) (ci := 6) (v := .ref mN) (C := RX6) (T := TX6) (N := 15) hx hb hts i6 hown hK hP 0 rfl rfl 0 (by decide) (hts (.fieldLink RX6 7 RX6 "now" "[I") (List.mem_of_getElem? (i := 2) rfl)) (fun _ h9 => h9) rfl dX6_change_46 ?_
        refine lv_bipush (v := (6 : Int32)) hx hb dX6_change_49 (by decide) ?_
        refine fr_iald (j := 6) hx hb hK hP 1 0 rfl rfl (by decide) (vin_of 6 9 (6 : Int32) (by decide) (by decide) (by decide)) dX6_change_51 ?_
        refine lv_goto (tgt := 56) hx hb dX6_change_52 (by decide) ?_
        refine fr_iast (j := 6) hx hb hK hP hD hS 1 0 rfl rfl (by decide) (vin_of 6 9 (6 : Int32) (by decide) (by decide) (by decide)) dX6_change_56 (fun H locs hP hD hS => ?_)
        have hP : va_P D vwCl [(aM, .inr (6, [.ref mN, .ref mkd, .ref mks, .ref mcd, .ref mpr, .ref msk, .ref mow, .ref mmi, .ref mst, .ref mbi, .ref msu, .ref mke, .ref mik, .int vka, .int viw])), (mN, .inl (cI, 9, .inl (upd fN 6 (fN 6)))), (mkd, .inl (cI, 8, .inl fkd)), (mks, .inl (cI, 8, .inl fks)), (mcd, .inl (cI, 12, .inl (upd fcd x1.toNatClampNeg x2))), (mpr, .inl (cI, 16, .inl fpr)), (msk, .inl (cI, 16, .inl fsk)), (mow, .inl (cI, 16, .inl fow)), (mmi, .inl (cI, 16, .inl fmi)), (mst, .inl (cI, 16, .inl fst)), (mbi, .inl (cI, 16, .inl fbi)), (msu, .inl (cI, 16, .inl fsu)), (mke, .inl (cI, 298, .inl fke)), (mik, .inl (cZ, 2, .inl fik))] H := hP
        have hD : va_D A [(aM, .inr (6, [.ref mN, .ref mkd, .ref mks, .ref mcd, .ref mpr, .ref msk, .ref mow, .ref mmi, .ref mst, .ref mbi, .ref msu, .ref mke, .ref mik, .int vka, .int viw])), (mN, .inl (cI, 9, .inl (upd fN 6 (fN 6)))), (mkd, .inl (cI, 8, .inl fkd)), (mks, .inl (cI, 8, .inl fks)), (mcd, .inl (cI, 12, .inl (upd fcd x1.toNatClampNeg x2))), (mpr, .inl (cI, 16, .inl fpr)), (msk, .inl (cI, 16, .inl fsk)), (mow, .inl (cI, 16, .inl fow)), (mmi, .inl (cI, 16, .inl fmi)), (mst, .inl (cI, 16, .inl fst)), (mbi, .inl (cI, 16, .inl fbi)), (msu, .inl (cI, 16, .inl fsu)), (mke, .inl (cI, 298, .inl fke)), (mik, .inl (cZ, 2, .inl fik))] := hD
        refine lv_iload_n hx hb dX6_change_57 rfl (lv_at hl 0 rfl) ?_
        exact hret x3_26 (upd fN 6 (fN 6)) (upd fcd x1.toNatClampNeg x2) 58 ls H locs rfl dX6_change_58 hP hD hS h
    · have h := (if_pos c2).symm.trans h
      refine lv_bipush (v := (-2 : Int32)) hx hb dX6_change_17 (by decide) ?_
      exact hret (-2 : Int32) fN fcd 19 ls H locs rfl dX6_change_19 hP hD hS h
  · have h := (if_pos c1).symm.trans h
    refine lv_iconst (v := (-1 : Int32)) hx hb dX6_change_8 (by decide) ?_
    exact hret (-1 : Int32) fN fcd 9 ls H locs rfl dX6_change_9 hP hD hS h
def fX6_remove_b22  : Nat → Int32 → (Nat → Int32) → (Nat → Int32) → Option (Int32 × (Nat → Int32) × (Nat → Int32))
  | 0, _, _, _ => none
  | n + 1, x2, fN, fcd =>
    bd1 (fX6_cells fN) fun r_24 =>
    if r_24 ≤ x2 then
      bd1 (fX6_end fN) fun fN_51 =>
      bd1 (fX6_cells fN_51) fun r_55 =>
      some (r_55, fN_51, fcd)
    else
      if x2 + (1 : Int32) < 0 ∨ 12 ≤ (x2 + (1 : Int32)).toNatClampNeg then none else
      if x2 < 0 ∨ 12 ≤ x2.toNatClampNeg then none else
      fX6_remove_b22  n (x2 + 1) fN (upd fcd x2.toNatClampNeg (fcd ((x2 + (1 : Int32)).toNatClampNeg)))
def fX6_remove (fN : Nat → Int32) (fcd : Nat → Int32) (x1 : Int32) : Option (Int32 × (Nat → Int32) × (Nat → Int32)) :=
  bd1 (fX6_isCell fN x1) fun r_2 =>
  if r_2 = 0 then
    some ((-1 : Int32), fN, fcd)
  else
    fX6_remove_b22  FU x1 (upd fN 3 ((fN 3) - (1 : Int32))) fcd
abbrev rX6_remove : Room := { frames := 2, cells := 0, slots := 0, locals := 46 }
set_option maxHeartbeats 4000000 in
set_option maxRecDepth 100000 in
theorem tX6_remove {l : Launch} {D : va_G} {cI cZ cP : ClassId} (aM mN mkd mks mcd mpr msk mow mmi mst mbi msu mke mik : Nat) (vka : Int32) (viw : Int32) (fN : Nat → Int32) (fkd : Nat → Int32) (fks : Nat → Int32) (fcd : Nat → Int32) (fpr : Nat → Int32) (fsk : Nat → Int32) (fow : Nat → Int32) (fmi : Nat → Int32) (fst : Nat → Int32) (fbi : Nat → Int32) (fsu : Nat → Int32) (fke : Nat → Int32) (fik : Nat → Int32) (x1 : Int32) (r : Int32) (oN : Nat → Int32) (ocd : Nat → Int32) (h : fX6_remove fN fcd x1 = some (r, oN, ocd)) : CtI l D cI cZ cP yX6_remove wsX6_remove rX6_remove [.ref aM, .int x1] [(aM, .inr (6, [.ref mN, .ref mkd, .ref mks, .ref mcd, .ref mpr, .ref msk, .ref mow, .ref mmi, .ref mst, .ref mbi, .ref msu, .ref mke, .ref mik, .int vka, .int viw])), (mN, .inl (cI, 9, .inl fN)), (mkd, .inl (cI, 8, .inl fkd)), (mks, .inl (cI, 8, .inl fks)), (mcd, .inl (cI, 12, .inl fcd)), (mpr, .inl (cI, 16, .inl fpr)), (msk, .inl (cI, 16, .inl fsk)), (mow, .inl (cI, 16, .inl fow)), (mmi, .inl (cI, 16, .inl fmi)), (mst, .inl (cI, 16, .inl fst)), (mbi, .inl (cI, 16, .inl fbi)), (msu, .inl (cI, 16, .inl fsu)), (mke, .inl (cI, 298, .inl fke)), (mik, .inl (cZ, 2, .inl fik))] (fun _ : Unit => [(aM, .inr (6, [.ref mN, .ref mkd, .ref mks, .ref mcd, .ref mpr, .ref msk, .ref mow, .ref mmi, .ref mst, .ref mbi, .ref msu, .ref mke, .ref mik, .int vka, .int viw])), (mN, .inl (cI, 9, .inl oN)), (mkd, .inl (cI, 8, .inl fkd)), (mks, .inl (cI, 8, .inl fks)), (mcd, .inl (cI, 12, .inl ocd)), (mpr, .inl (cI, 16, .inl fpr)), (msk, .inl (cI, 16, .inl fsk)), (mow, .inl (cI, 16, .inl fow)), (mmi, .inl (cI, 16, .inl fmi)), (mst, .inl (cI, 16, .inl fst)), (mbi, .inl (cI, 16, .inl fbi)), (msu, .inl (cI, 16, .inl fsu)), (mke, .inl (cI, 298, .inl fke)), (mik, .inl (cZ, 2, .inl fik))]) r := by
  refine CtI.ofW (cc := cX6_remove) (maxL := 3) (by decide) rfl (Nat.le_of_ble_eq_true rfl) (lv := [(0, .ref aM), (1, .int x1)]) rfl ?_
  intro p e s m args below meth c A Q ls hx hb hml hown hts hK hN hP hD hS hA hl hret0
  have hown : s.vm.findClass RX6 = some m.cls := hown
  have i6 : ∀ w ∈ wsX60, w ∈ wsX6_remove := mem_ps [19, 20, 21, 22, 23, 24, 25, 26, 27, 28, 29, 30, 31, 32, 33] rfl
  have hret : ∀ (v : Int32) (zN : Nat → Int32) (zcd : Nat → Int32) (pc : Nat) (ls : Array Slot) (H : Heap) (locs : List Loc), narrow .int (.int v) = .int v → decode cX6_remove pc = .ok (.ireturn, 1) → va_P D vwCl [(aM, .inr (6, [.ref mN, .ref mkd, .ref mks, .ref mcd, .ref mpr, .ref msk, .ref mow, .ref mmi, .ref mst, .ref mbi, .ref msu, .ref mke, .ref mik, .int vka, .int viw])), (mN, .inl (cI, 9, .inl zN)), (mkd, .inl (cI, 8, .inl fkd)), (mks, .inl (cI, 8, .inl fks)), (mcd, .inl (cI, 12, .inl zcd)), (mpr, .inl (cI, 16, .inl fpr)), (msk, .inl (cI, 16, .inl fsk)), (mow, .inl (cI, 16, .inl fow)), (mmi, .inl (cI, 16, .inl fmi)), (mst, .inl (cI, 16, .inl fst)), (mbi, .inl (cI, 16, .inl fbi)), (msu, .inl (cI, 16, .inl fsu)), (mke, .inl (cI, 298, .inl fke)), (mik, .inl (cZ, 2, .inl fik))] H → va_D A [(aM, .inr (6, [.ref mN, .ref mkd, .ref mks, .ref mcd, .ref mpr, .ref msk, .ref mow, .ref mmi, .ref mst, .ref mbi, .ref msu, .ref mke, .ref mik, .int vka, .int viw])), (mN, .inl (cI, 9, .inl zN)), (mkd, .inl (cI, 8, .inl fkd)), (mks, .inl (cI, 8, .inl fks)), (mcd, .inl (cI, 12, .inl zcd)), (mpr, .inl (cI, 16, .inl fpr)), (msk, .inl (cI, 16, .inl fsk)), (mow, .inl (cI, 16, .inl fow)), (mmi, .inl (cI, 16, .inl fmi)), (mst, .inl (cI, 16, .inl fst)), (mbi, .inl (cI, 16, .inl fbi)), (msu, .inl (cI, 16, .inl fsu)), (mke, .inl (cI, 298, .inl fke)), (mik, .inl (cZ, 2, .inl fik))] → va_S A s.heap H locs → some (v, zN, zcd) = some (r, oN, ocd) → W p l e rX6_remove s m args below meth c H locs 0 0 Q (F0 m pc ls [.int v]) := by
    intro v zN zcd pc ls H locs hn hd hP hD hS h
    cases h
    exact hret0 pc ls H locs () hn hd hP hD hS
  clear hret0
  have hb22 : ∀ (n : Nat) (x2 : Int32) (fN : Nat → Int32) (fcd : Nat → Int32) (H : Heap) (locs : List Loc) (ls : Array Slot), va_P D vwCl [(aM, .inr (6, [.ref mN, .ref mkd, .ref mks, .ref mcd, .ref mpr, .ref msk, .ref mow, .ref mmi, .ref mst, .ref mbi, .ref msu, .ref mke, .ref mik, .int vka, .int viw])), (mN, .inl (cI, 9, .inl fN)), (mkd, .inl (cI, 8, .inl fkd)), (mks, .inl (cI, 8, .inl fks)), (mcd, .inl (cI, 12, .inl fcd)), (mpr, .inl (cI, 16, .inl fpr)), (msk, .inl (cI, 16, .inl fsk)), (mow, .inl (cI, 16, .inl fow)), (mmi, .inl (cI, 16, .inl fmi)), (mst, .inl (cI, 16, .inl fst)), (mbi, .inl (cI, 16, .inl fbi)), (msu, .inl (cI, 16, .inl fsu)), (mke, .inl (cI, 298, .inl fke)), (mik, .inl (cZ, 2, .inl fik))] H → va_D A [(aM, .inr (6, [.ref mN, .ref mkd, .ref mks, .ref mcd, .ref mpr, .ref msk, .ref mow, .ref mmi, .ref mst, .ref mbi, .ref msu, .ref mke, .ref mik, .int vka, .int viw])), (mN, .inl (cI, 9, .inl fN)), (mkd, .inl (cI, 8, .inl fkd)), (mks, .inl (cI, 8, .inl fks)), (mcd, .inl (cI, 12, .inl fcd)), (mpr, .inl (cI, 16, .inl fpr)), (msk, .inl (cI, 16, .inl fsk)), (mow, .inl (cI, 16, .inl fow)), (mmi, .inl (cI, 16, .inl fmi)), (mst, .inl (cI, 16, .inl fst)), (mbi, .inl (cI, 16, .inl fbi)), (msu, .inl (cI, 16, .inl fsu)), (mke, .inl (cI, 298, .inl fke)), (mik, .inl (cZ, 2, .inl fik))] → va_S A s.heap H locs → lv_has ls 3 [(0, .ref aM), (2, .int x2)] → fX6_remove_b22  n x2 fN fcd = some (r, oN, ocd) → W p l e rX6_remove s m args below meth c H locs 0 0 Q (F0 m 22 ls []) := by
    intro n
    induction n with
    | zero => intro x2 fN fcd H locs ls hP hD hS hl h; exact absurd h (by rw [fX6_remove_b22]; exact fun z => by cases z)
    | succ n ih =>
      intro x2 fN fcd H locs ls hP hD hS hl h
      rw [fX6_remove_b22] at h
      refine lv_iload_n hx hb dX6_remove_22 rfl (lv_at hl 1 rfl) ?_
      refine lv_aload_n hx hb dX6_remove_23 rfl (lv_at hl 0 rfl) ?_
      obtain ⟨r_24, q_24, h⟩ := bd1_some h
      refine fr_ro_i (S := Unit) (wc := [(aM, .inr (6, [.ref mN, .ref mkd, .ref mks, .ref mcd, .ref mpr, .ref msk, .ref mow, .ref mmi, .ref mst, .ref mbi, .ref msu, .ref mke, .ref mik, .int vka, .int viw])), (mN, .inl (cI, 9, .inl fN))]) (fr_V (As := []) (rest := [.int x2]) (C := RX6) ⟨hx, hb, hml, hown, hts⟩ (tX6_cells aM mN mkd mks mcd mpr msk mow mmi mst mbi msu mke mik vka viw fN r_24 q_24) gX6_remove_X6_cells rfl (fr_preV (As := []) (b := aM) (ci := 6) (q0 := 0) (wc := [(aM, .inr (6, [.ref mN, .ref mkd, .ref mks, .ref mcd, .ref mpr, .ref msk, .ref mow, .ref mmi, .ref mst, .ref mbi, .ref msu, .ref mke, .ref mik, .int vka, .int viw])), (mN, .inl (cI, 9, .inl fN))]) hK hN hP hD [0, 1] (by decide) rfl rfl rfl) (n := 0) (by decide +kernel) ⟨Nat.le_of_ble_eq_true rfl, Nat.le_of_ble_eq_true rfl⟩ rfl hl.1 rfl (Nat.le_of_ble_eq_true rfl) dX6_remove_24 ⟨Nat.zero_le _, Nat.zero_le _⟩) hP hD hS hA [0, 1] rfl (c2 := 0) (s2 := 0) rfl rfl (fun H locs hP hS => ?_)
      refine lv_icmp_ge (tgt := 50) hx hb dX6_remove_27 (by decide) (fun c1 => ?_) (fun c1 => ?_)
      · have h := (if_pos c1).symm.trans h
        refine lv_aload_n hx hb dX6_remove_50 rfl (lv_at hl 0 rfl) ?_
        obtain ⟨fN_51, q_51, h⟩ := bd1_some h
        refine fr_rw_v (S := Unit) (wc := [(aM, .inr (6, [.ref mN, .ref mkd, .ref mks, .ref mcd, .ref mpr, .ref msk, .ref mow, .ref mmi, .ref mst, .ref mbi, .ref msu, .ref mke, .ref mik, .int vka, .int viw])), (mN, .inl (cI, 9, .inl fN))]) (wc' := fun _ => [(aM, .inr (6, [.ref mN, .ref mkd, .ref mks, .ref mcd, .ref mpr, .ref msk, .ref mow, .ref mmi, .ref mst, .ref mbi, .ref msu, .ref mke, .ref mik, .int vka, .int viw])), (mN, .inl (cI, 9, .inl fN_51))]) (wr := [(mkd, .inl (cI, 8, .inl fkd)), (mks, .inl (cI, 8, .inl fks)), (mcd, .inl (cI, 12, .inl fcd)), (mpr, .inl (cI, 16, .inl fpr)), (msk, .inl (cI, 16, .inl fsk)), (mow, .inl (cI, 16, .inl fow)), (mmi, .inl (cI, 16, .inl fmi)), (mst, .inl (cI, 16, .inl fst)), (mbi, .inl (cI, 16, .inl fbi)), (msu, .inl (cI, 16, .inl fsu)), (mke, .inl (cI, 298, .inl fke)), (mik, .inl (cZ, 2, .inl fik))]) (w2 := fun _ => [(aM, .inr (6, [.ref mN, .ref mkd, .ref mks, .ref mcd, .ref mpr, .ref msk, .ref mow, .ref mmi, .ref mst, .ref mbi, .ref msu, .ref mke, .ref mik, .int vka, .int viw])), (mN, .inl (cI, 9, .inl fN_51)), (mkd, .inl (cI, 8, .inl fkd)), (mks, .inl (cI, 8, .inl fks)), (mcd, .inl (cI, 12, .inl fcd)), (mpr, .inl (cI, 16, .inl fpr)), (msk, .inl (cI, 16, .inl fsk)), (mow, .inl (cI, 16, .inl fow)), (mmi, .inl (cI, 16, .inl fmi)), (mst, .inl (cI, 16, .inl fst)), (mbi, .inl (cI, 16, .inl fbi)), (msu, .inl (cI, 16, .inl fsu)), (mke, .inl (cI, 298, .inl fke)), (mik, .inl (cZ, 2, .inl fik))]) (fr_Vv (As := []) (rest := []) (C := RX6) ⟨hx, hb, hml, hown, hts⟩ (tX6_end aM mN mkd mks mcd mpr msk mow mmi mst mbi msu mke mik vka viw fN fN_51 q_51) gX6_remove_X6_end rfl (fr_preV (As := []) (b := aM) (ci := 6) (q0 := 0) (wc := [(aM, .inr (6, [.ref mN, .ref mkd, .ref mks, .ref mcd, .ref mpr, .ref msk, .ref mow, .ref mmi, .ref mst, .ref mbi, .ref msu, .ref mke, .ref mik, .int vka, .int viw])), (mN, .inl (cI, 9, .inl fN))]) hK hN hP hD [0, 1] (by decide) rfl rfl rfl) (n := 0) (by decide +kernel) ⟨Nat.le_of_ble_eq_true rfl, Nat.le_of_ble_eq_true rfl⟩ rfl hl.1 rfl (Nat.le_of_ble_eq_true rfl) dX6_remove_51 ⟨Nat.zero_le _, Nat.zero_le _⟩) hP hD hS hA [0, 1] [2, 3, 4, 5, 6, 7, 8, 9, 10, 11, 12, 13] [12, 13, 0, 1, 2, 3, 4, 5, 6, 7, 8, 9, 10, 11] rfl rfl (by decide) (by decide) (by decide) (fun _ => rfl) (c2 := 0) (s2 := 0) rfl rfl (fun _ H locs hP hD hS => ?_)
        refine lv_aload_n hx hb dX6_remove_54 rfl (lv_at hl 0 rfl) ?_
        obtain ⟨r_55, q_55, h⟩ := bd1_some h
        refine fr_ro_i (S := Unit) (wc := [(aM, .inr (6, [.ref mN, .ref mkd, .ref mks, .ref mcd, .ref mpr, .ref msk, .ref mow, .ref mmi, .ref mst, .ref mbi, .ref msu, .ref mke, .ref mik, .int vka, .int viw])), (mN, .inl (cI, 9, .inl fN_51))]) (fr_V (As := []) (rest := []) (C := RX6) ⟨hx, hb, hml, hown, hts⟩ (tX6_cells aM mN mkd mks mcd mpr msk mow mmi mst mbi msu mke mik vka viw fN_51 r_55 q_55) gX6_remove_X6_cells rfl (fr_preV (As := []) (b := aM) (ci := 6) (q0 := 0) (wc := [(aM, .inr (6, [.ref mN, .ref mkd, .ref mks, .ref mcd, .ref mpr, .ref msk, .ref mow, .ref mmi, .ref mst, .ref mbi, .ref msu, .ref mke, .ref mik, .int vka, .int viw])), (mN, .inl (cI, 9, .inl fN_51))]) hK hN hP hD [0, 1] (by decide) rfl rfl rfl) (n := 0) (by decide +kernel) ⟨Nat.le_of_ble_eq_true rfl, Nat.le_of_ble_eq_true rfl⟩ rfl hl.1 rfl (Nat.le_of_ble_eq_true rfl) dX6_remove_55 ⟨Nat.zero_le _, Nat.zero_le _⟩) hP hD hS hA [0, 1] rfl (c2 := 0) (s2 := 0) rfl rfl (fun H locs hP hS => ?_)
        exact hret r_55 fN_51 fcd 58 ls H locs rfl dX6_remove_58 hP hD hS h
      · have h := (if_neg c1).symm.trans h
        refine lv_aload_n hx hb dX6_remove_30 rfl (lv_at hl 0 rfl) ?_
        refine va_get (D := D) (ci := 6) (v := .ref mcd) (C := RX6) (T := TX6) (N := 15) hx hb hts i6 hown hK hP 0 rfl rfl 3 (by decide) (hts (.fieldLink RX6 19 RX6 "cellDots" "[I") (List.mem_of_getElem? (i := 2) rfl)) (fun _ h9 => h9) rfl dX6_remove_31 ?_
        refine lv_iload_n hx hb dX6_remove_34 rfl (lv_at hl 1 rfl) ?_
        refine lv_aload_n hx hb dX6_remove_35 rfl (lv_at hl 0 rfl) ?_
        refine va_get (D := D) (ci := 6) (v := .ref mcd) (C := RX6) (T := TX6) (N := 15) hx hb hts i6 hown hK hP 0 rfl rfl 3 (by decide) (hts (.fieldLink RX6 19 RX6 "cellDots" "[I") (List.mem_of_getElem? (i := 2) rfl)) (fun _ h9 => h9) rfl dX6_remove_36 ?_
        refine lv_iload_n hx hb dX6_remove_39 rfl (lv_at hl 1 rfl) ?_
        refine lv_iconst (v := (1 : Int32)) hx hb dX6_remove_40 (by decide) ?_
        refine lv_iadd hx hb dX6_remove_41 ?_
        obtain ⟨g2, h⟩ := no_some h
        refine va_iald hx hb hK hP 4 0 rfl rfl g2 dX6_remove_42 ?_
        obtain ⟨g3, h⟩ := no_some h
        refine va_iast hx hb hK hP hD hS 4 0 rfl rfl g3 dX6_remove_43 (fun H locs hP hD hS => ?_)
        have hP : va_P D vwCl [(aM, .inr (6, [.ref mN, .ref mkd, .ref mks, .ref mcd, .ref mpr, .ref msk, .ref mow, .ref mmi, .ref mst, .ref mbi, .ref msu, .ref mke, .ref mik, .int vka, .int viw])), (mN, .inl (cI, 9, .inl fN)), (mkd, .inl (cI, 8, .inl fkd)), (mks, .inl (cI, 8, .inl fks)), (mcd, .inl (cI, 12, .inl (upd fcd x2.toNatClampNeg (fcd ((x2 + (1 : Int32)).toNatClampNeg))))), (mpr, .inl (cI, 16, .inl fpr)), (msk, .inl (cI, 16, .inl fsk)), (mow, .inl (cI, 16, .inl fow)), (mmi, .inl (cI, 16, .inl fmi)), (mst, .inl (cI, 16, .inl fst)), (mbi, .inl (cI, 16, .inl fbi)), (msu, .inl (cI, 16, .inl fsu)), (mke, .inl (cI, 298, .inl fke)), (mik, .inl (cZ, 2, .inl fik))] H := hP
        have hD : va_D A [(aM, .inr (6, [.ref mN, .ref mkd, .ref mks, .ref mcd, .ref mpr, .ref msk, .ref mow, .ref mmi, .ref mst, .ref mbi, .ref msu, .ref mke, .ref mik, .int vka, .int viw])), (mN, .inl (cI, 9, .inl fN)), (mkd, .inl (cI, 8, .inl fkd)), (mks, .inl (cI, 8, .inl fks)), (mcd, .inl (cI, 12, .inl (upd fcd x2.toNatClampNeg (fcd ((x2 + (1 : Int32)).toNatClampNeg))))), (mpr, .inl (cI, 16, .inl fpr)), (msk, .inl (cI, 16, .inl fsk)), (mow, .inl (cI, 16, .inl fow)), (mmi, .inl (cI, 16, .inl fmi)), (mst, .inl (cI, 16, .inl fst)), (mbi, .inl (cI, 16, .inl fbi)), (msu, .inl (cI, 16, .inl fsu)), (mke, .inl (cI, 298, .inl fke)), (mik, .inl (cZ, 2, .inl fik))] := hD
        refine lv_iinc (v := x2 + 1) (lv' := [(2, .int (x2 + 1)), (0, .ref aM)]) hx hb dX6_remove_44 hl (k := 1) rfl rfl (by decide) rfl (fun ls hl => ?_)
        refine lv_goto (tgt := 22) hx hb dX6_remove_47 (by decide) ?_
        exact ih (x2 + 1) fN (upd fcd x2.toNatClampNeg (fcd ((x2 + (1 : Int32)).toNatClampNeg))) H locs ls hP hD hS (lv_sub hl [1, 0] rfl) h
  unfold fX6_remove at h
  obtain ⟨H, hH⟩ : ∃ H, H = s.heap := ⟨_, rfl⟩
  have hP : va_P D vwCl [(aM, .inr (6, [.ref mN, .ref mkd, .ref mks, .ref mcd, .ref mpr, .ref msk, .ref mow, .ref mmi, .ref mst, .ref mbi, .ref msu, .ref mke, .ref mik, .int vka, .int viw])), (mN, .inl (cI, 9, .inl fN)), (mkd, .inl (cI, 8, .inl fkd)), (mks, .inl (cI, 8, .inl fks)), (mcd, .inl (cI, 12, .inl fcd)), (mpr, .inl (cI, 16, .inl fpr)), (msk, .inl (cI, 16, .inl fsk)), (mow, .inl (cI, 16, .inl fow)), (mmi, .inl (cI, 16, .inl fmi)), (mst, .inl (cI, 16, .inl fst)), (mbi, .inl (cI, 16, .inl fbi)), (msu, .inl (cI, 16, .inl fsu)), (mke, .inl (cI, 298, .inl fke)), (mik, .inl (cZ, 2, .inl fik))] H := by rw [hH]; exact hP
  obtain ⟨locs, hlocs⟩ : ∃ x : List Loc, x = [] := ⟨_, rfl⟩
  have hS : va_S A s.heap H locs := by rw [hH, hlocs]; exact hS
  suffices hgo : W p l e rX6_remove s m args below meth c H locs 0 0 Q (F0 m 0 ls []) by rw [hH, hlocs] at hgo; exact hgo
  refine lv_aload_n hx hb dX6_remove_0 rfl (lv_at hl 0 rfl) ?_
  refine lv_iload_n hx hb dX6_remove_1 rfl (lv_at hl 1 rfl) ?_
  obtain ⟨r_2, q_2, h⟩ := bd1_some h
  refine fr_ro_i (S := Unit) (wc := [(aM, .inr (6, [.ref mN, .ref mkd, .ref mks, .ref mcd, .ref mpr, .ref msk, .ref mow, .ref mmi, .ref mst, .ref mbi, .ref msu, .ref mke, .ref mik, .int vka, .int viw])), (mN, .inl (cI, 9, .inl fN))]) (fr_V (As := [.int x1]) (rest := []) (C := RX6) ⟨hx, hb, hml, hown, hts⟩ (tX6_isCell aM mN mkd mks mcd mpr msk mow mmi mst mbi msu mke mik vka viw fN x1 r_2 q_2) gX6_remove_X6_isCell rfl (fr_preV (As := [.int x1]) (b := aM) (ci := 6) (q0 := 0) (wc := [(aM, .inr (6, [.ref mN, .ref mkd, .ref mks, .ref mcd, .ref mpr, .ref msk, .ref mow, .ref mmi, .ref mst, .ref mbi, .ref msu, .ref mke, .ref mik, .int vka, .int viw])), (mN, .inl (cI, 9, .inl fN))]) hK hN hP hD [0, 1] (by decide) rfl rfl rfl) (n := 1) (by decide +kernel) ⟨Nat.le_of_ble_eq_true rfl, Nat.le_of_ble_eq_true rfl⟩ rfl hl.1 rfl (Nat.le_of_ble_eq_true rfl) dX6_remove_2 ⟨Nat.zero_le _, Nat.zero_le _⟩) hP hD hS hA [0, 1] rfl (c2 := 0) (s2 := 0) rfl rfl (fun H locs hP hS => ?_)
  refine lv_if_ne (tgt := 10) hx hb dX6_remove_5 (by decide) (fun c4 => ?_) (fun c4 => ?_)
  · have h := (if_neg c4).symm.trans h
    refine lv_aload_n hx hb dX6_remove_10 rfl (lv_at hl 0 rfl) ?_
    refine va_get (D := D) (ci := 6) (v := .ref mN) (C := RX6) (T := TX6) (N := 15) hx hb hts i6 hown hK hP 0 rfl rfl 0 (by decide) (hts (.fieldLink RX6 7 RX6 "now" "[I") (List.mem_of_getElem? (i := 1) rfl)) (fun _ h9 => h9) rfl dX6_remove_11 ?_
    refine lv_iconst (v := (3 : Int32)) hx hb dX6_remove_14 (by decide) ?_
    refine lv_dup2_11 hx hb dX6_remove_15 rfl rfl ?_
    refine fr_iald (j := 3) hx hb hK hP 1 0 rfl rfl (by decide) (vin_of 3 9 (3 : Int32) (by decide) (by decide) (by decide)) dX6_remove_16 ?_
    refine lv_iconst (v := (1 : Int32)) hx hb dX6_remove_17 (by decide) ?_
    refine lv_isub hx hb dX6_remove_18 ?_
    refine fr_iast (j := 3) hx hb hK hP hD hS 1 0 rfl rfl (by decide) (vin_of 3 9 (3 : Int32) (by decide) (by decide) (by decide)) dX6_remove_19 (fun H locs hP hD hS => ?_)
    have hP : va_P D vwCl [(aM, .inr (6, [.ref mN, .ref mkd, .ref mks, .ref mcd, .ref mpr, .ref msk, .ref mow, .ref mmi, .ref mst, .ref mbi, .ref msu, .ref mke, .ref mik, .int vka, .int viw])), (mN, .inl (cI, 9, .inl (upd fN 3 ((fN 3) - (1 : Int32))))), (mkd, .inl (cI, 8, .inl fkd)), (mks, .inl (cI, 8, .inl fks)), (mcd, .inl (cI, 12, .inl fcd)), (mpr, .inl (cI, 16, .inl fpr)), (msk, .inl (cI, 16, .inl fsk)), (mow, .inl (cI, 16, .inl fow)), (mmi, .inl (cI, 16, .inl fmi)), (mst, .inl (cI, 16, .inl fst)), (mbi, .inl (cI, 16, .inl fbi)), (msu, .inl (cI, 16, .inl fsu)), (mke, .inl (cI, 298, .inl fke)), (mik, .inl (cZ, 2, .inl fik))] H := hP
    have hD : va_D A [(aM, .inr (6, [.ref mN, .ref mkd, .ref mks, .ref mcd, .ref mpr, .ref msk, .ref mow, .ref mmi, .ref mst, .ref mbi, .ref msu, .ref mke, .ref mik, .int vka, .int viw])), (mN, .inl (cI, 9, .inl (upd fN 3 ((fN 3) - (1 : Int32))))), (mkd, .inl (cI, 8, .inl fkd)), (mks, .inl (cI, 8, .inl fks)), (mcd, .inl (cI, 12, .inl fcd)), (mpr, .inl (cI, 16, .inl fpr)), (msk, .inl (cI, 16, .inl fsk)), (mow, .inl (cI, 16, .inl fow)), (mmi, .inl (cI, 16, .inl fmi)), (mst, .inl (cI, 16, .inl fst)), (mbi, .inl (cI, 16, .inl fbi)), (msu, .inl (cI, 16, .inl fsu)), (mke, .inl (cI, 298, .inl fke)), (mik, .inl (cZ, 2, .inl fik))] := hD
    refine lv_iload_n hx hb dX6_remove_20 rfl (lv_at hl 1 rfl) ?_
    refine lv_istore_n (lv' := [(2, .int x1), (0, .ref aM), (1, .int x1)]) hx hb dX6_remove_21 rfl hl (by decide) rfl (fun ls hl => ?_)
    exact hb22 FU x1 (upd fN 3 ((fN 3) - (1 : Int32))) fcd H locs ls hP hD hS (lv_sub hl [1, 0] rfl) h
  · have h := (if_pos c4).symm.trans h
    refine lv_iconst (v := (-1 : Int32)) hx hb dX6_remove_8 (by decide) ?_
    exact hret (-1 : Int32) fN fcd 9 ls H locs rfl dX6_remove_9 hP hD hS h
def fX6_differenceOf_b43 (fN : Nat → Int32) (k5 : Int32 → Int32 → Int32 → Int32 → Option (Int32)) (x1 : Int32) (x2 : Int32) (x3 : Int32) (x4 : Int32) (y0 : Int32) : Option (Int32) :=
  if (fN 0) = 0 then
    bdv (x3 + y0) fun x3_66 =>
    bdv (x4 * (10 : Int32)) fun x4_72 =>
    k5 x1 x2 x3_66 x4_72
  else
    bdv (x3 + (y0 * y0)) fun x3_66 =>
    bdv (x4 * (10 : Int32)) fun x4_72 =>
    k5 x1 x2 x3_66 x4_72
def fX6_differenceOf_b5 (fN : Nat → Int32) : Nat → Int32 → Int32 → Int32 → Int32 → Option (Int32)
  | 0, _, _, _, _ => none
  | n + 1, x1, x2, x3, x4 =>
    if (1000 : Int32) < x4 then
      some x3
    else
      if x4 = 0 then none else
      if x4 = 0 then none else
      bdv (((x1 / x4) - (x1 / x4) / (10 : Int32) * (10 : Int32)) - ((x2 / x4) - (x2 / x4) / (10 : Int32) * (10 : Int32))) fun x5_28 =>
      if 0 ≤ x5_28 then
        fX6_differenceOf_b43 fN (fun x1 x2 x3 x4 => fX6_differenceOf_b5 fN n x1 x2 x3 x4) x1 x2 x3 x4 x5_28
      else
        fX6_differenceOf_b43 fN (fun x1 x2 x3 x4 => fX6_differenceOf_b5 fN n x1 x2 x3 x4) x1 x2 x3 x4 (-x5_28)
def fX6_differenceOf (fN : Nat → Int32) (x1 : Int32) (x2 : Int32) : Option (Int32) :=
  fX6_differenceOf_b5 fN FU x1 x2 (0 : Int32) (1 : Int32)
abbrev rX6_differenceOf : Room := { frames := 0, cells := 0, slots := 0, locals := 0 }
set_option maxHeartbeats 4000000 in
set_option maxRecDepth 100000 in
theorem tX6_differenceOf {l : Launch} {D : va_G} {cI cZ cP : ClassId} (aM mN mkd mks mcd mpr msk mow mmi mst mbi msu mke mik : Nat) (vka : Int32) (viw : Int32) (fN : Nat → Int32) (x1 : Int32) (x2 : Int32) (r : Int32) (h : fX6_differenceOf fN x1 x2 = some r) : CtI l D cI cZ cP yX6_differenceOf wsX6_differenceOf rX6_differenceOf [.ref aM, .int x1, .int x2] [(aM, .inr (6, [.ref mN, .ref mkd, .ref mks, .ref mcd, .ref mpr, .ref msk, .ref mow, .ref mmi, .ref mst, .ref mbi, .ref msu, .ref mke, .ref mik, .int vka, .int viw])), (mN, .inl (cI, 9, .inl fN))] (fun _ : Unit => [(aM, .inr (6, [.ref mN, .ref mkd, .ref mks, .ref mcd, .ref mpr, .ref msk, .ref mow, .ref mmi, .ref mst, .ref mbi, .ref msu, .ref mke, .ref mik, .int vka, .int viw])), (mN, .inl (cI, 9, .inl fN))]) r := by
  refine CtI.ofW (cc := cX6_differenceOf) (maxL := 7) (by decide) rfl (Nat.le_of_ble_eq_true rfl) (lv := [(0, .ref aM), (1, .int x1), (2, .int x2)]) rfl ?_
  intro p e s m args below meth c A Q ls hx hb hml hown hts hK hN hP hD hS hA hl hret0
  have hown : s.vm.findClass RX6 = some m.cls := hown
  have i6 : ∀ w ∈ wsX60, w ∈ wsX6_differenceOf := mem_ps [2, 3, 4, 5, 6, 7, 8, 9, 10, 11, 12, 13, 14, 15, 16] rfl
  have hret : ∀ (v : Int32) (pc : Nat) (ls : Array Slot) (H : Heap) (locs : List Loc), narrow .int (.int v) = .int v → decode cX6_differenceOf pc = .ok (.ireturn, 1) → va_P D vwCl [(aM, .inr (6, [.ref mN, .ref mkd, .ref mks, .ref mcd, .ref mpr, .ref msk, .ref mow, .ref mmi, .ref mst, .ref mbi, .ref msu, .ref mke, .ref mik, .int vka, .int viw])), (mN, .inl (cI, 9, .inl fN))] H → va_D A [(aM, .inr (6, [.ref mN, .ref mkd, .ref mks, .ref mcd, .ref mpr, .ref msk, .ref mow, .ref mmi, .ref mst, .ref mbi, .ref msu, .ref mke, .ref mik, .int vka, .int viw])), (mN, .inl (cI, 9, .inl fN))] → va_S A s.heap H locs → some v = some r → W p l e rX6_differenceOf s m args below meth c H locs 0 0 Q (F0 m pc ls [.int v]) := by
    intro v pc ls H locs hn hd hP hD hS h
    cases h
    exact hret0 pc ls H locs () hn hd hP hD hS
  clear hret0
  have hb43 : ∀ (k5 : Int32 → Int32 → Int32 → Int32 → Option (Int32)) (hk5 : ∀ (x1 : Int32) (x2 : Int32) (x3 : Int32) (x4 : Int32) (H : Heap) (locs : List Loc) (ls : Array Slot), va_P D vwCl [(aM, .inr (6, [.ref mN, .ref mkd, .ref mks, .ref mcd, .ref mpr, .ref msk, .ref mow, .ref mmi, .ref mst, .ref mbi, .ref msu, .ref mke, .ref mik, .int vka, .int viw])), (mN, .inl (cI, 9, .inl fN))] H → va_D A [(aM, .inr (6, [.ref mN, .ref mkd, .ref mks, .ref mcd, .ref mpr, .ref msk, .ref mow, .ref mmi, .ref mst, .ref mbi, .ref msu, .ref mke, .ref mik, .int vka, .int viw])), (mN, .inl (cI, 9, .inl fN))] → va_S A s.heap H locs → lv_has ls 7 [(0, .ref aM), (1, .int x1), (2, .int x2), (3, .int x3), (4, .int x4)] → k5 x1 x2 x3 x4 = some r → W p l e rX6_differenceOf s m args below meth c H locs 0 0 Q (F0 m 5 ls [])) (x1 : Int32) (x2 : Int32) (x3 : Int32) (x4 : Int32) (y0 : Int32) (H : Heap) (locs : List Loc) (ls : Array Slot), va_P D vwCl [(aM, .inr (6, [.ref mN, .ref mkd, .ref mks, .ref mcd, .ref mpr, .ref msk, .ref mow, .ref mmi, .ref mst, .ref mbi, .ref msu, .ref mke, .ref mik, .int vka, .int viw])), (mN, .inl (cI, 9, .inl fN))] H → va_D A [(aM, .inr (6, [.ref mN, .ref mkd, .ref mks, .ref mcd, .ref mpr, .ref msk, .ref mow, .ref mmi, .ref mst, .ref mbi, .ref msu, .ref mke, .ref mik, .int vka, .int viw])), (mN, .inl (cI, 9, .inl fN))] → va_S A s.heap H locs → lv_has ls 7 [(0, .ref aM), (1, .int x1), (2, .int x2), (3, .int x3), (4, .int x4)] → fX6_differenceOf_b43 fN k5 x1 x2 x3 x4 y0 = some r → W p l e rX6_differenceOf s m args below meth c H locs 0 0 Q (F0 m 43 ls [.int y0]) := by
    intro k5 hk5 x1 x2 x3 x4 y0 H locs ls hP hD hS hl h
    unfold fX6_differenceOf_b43 at h
    refine lv_istore (lv' := [(6, .int y0), (0, .ref aM), (1, .int x1), (2, .int x2), (3, .int x3), (4, .int x4)]) hx hb dX6_differenceOf_43 hl (by decide) rfl (fun ls hl => ?_)
    refine lv_iload_n hx hb dX6_differenceOf_45 rfl (lv_at hl 4 rfl) ?_
    refine lv_aload_n hx hb dX6_differenceOf_46 rfl (lv_at hl 1 rfl) ?_
    refine va_get (D := D) (ci := 6) (v := .ref mN) (C := RX6) (T := TX6) (N := 15) hx hb hts i6 hown hK hP 0 rfl rfl 0 (by decide) (hts (.fieldLink RX6 7 RX6 "now" "[I") (List.mem_of_getElem? (i := 1) rfl)) (fun _ h9 => h9) rfl dX6_differenceOf_47 ?_
    refine lv_iconst (v := (0 : Int32)) hx hb dX6_differenceOf_50 (by decide) ?_
    refine fr_iald (j := 0) hx hb hK hP 1 0 rfl rfl (by decide) (vin_of 0 9 (0 : Int32) (by decide) (by decide) (by decide)) dX6_differenceOf_51 ?_
    refine lv_if_ne (tgt := 60) hx hb dX6_differenceOf_52 (by decide) (fun c1 => ?_) (fun c1 => ?_)
    · have h := (if_neg c1).symm.trans h
      refine lv_iload hx hb dX6_differenceOf_60 (lv_at hl 0 rfl) ?_
      refine lv_iload hx hb dX6_differenceOf_62 (lv_at hl 0 rfl) ?_
      refine lv_imul hx hb dX6_differenceOf_64 ?_
      refine lv_iadd hx hb dX6_differenceOf_65 ?_
      refine lv_topi (fun x3_66 ex3_66 => ?_)
      have h := bdv_some ex3_66 h
      refine lv_istore_n (lv' := [(3, .int x3_66), (6, .int y0), (0, .ref aM), (1, .int x1), (2, .int x2), (4, .int x4)]) hx hb dX6_differenceOf_66 rfl hl (by decide) rfl (fun ls hl => ?_)
      refine lv_iload hx hb dX6_differenceOf_67 (lv_at hl 5 rfl) ?_
      refine lv_bipush (v := (10 : Int32)) hx hb dX6_differenceOf_69 (by decide) ?_
      refine lv_imul hx hb dX6_differenceOf_71 ?_
      refine lv_topi (fun x4_72 ex4_72 => ?_)
      have h := bdv_some ex4_72 h
      refine lv_istore (lv' := [(4, .int x4_72), (3, .int x3_66), (6, .int y0), (0, .ref aM), (1, .int x1), (2, .int x2)]) hx hb dX6_differenceOf_72 hl (by decide) rfl (fun ls hl => ?_)
      refine lv_goto (tgt := 5) hx hb dX6_differenceOf_74 (by decide) ?_
      exact hk5 x1 x2 x3_66 x4_72 H locs ls hP hD hS (lv_sub hl [3, 4, 5, 1, 0] rfl) h
    · have h := (if_pos c1).symm.trans h
      refine lv_iload hx hb dX6_differenceOf_55 (lv_at hl 0 rfl) ?_
      refine lv_goto (tgt := 65) hx hb dX6_differenceOf_57 (by decide) ?_
      refine lv_iadd hx hb dX6_differenceOf_65 ?_
      refine lv_topi (fun x3_66 ex3_66 => ?_)
      have h := bdv_some ex3_66 h
      refine lv_istore_n (lv' := [(3, .int x3_66), (6, .int y0), (0, .ref aM), (1, .int x1), (2, .int x2), (4, .int x4)]) hx hb dX6_differenceOf_66 rfl hl (by decide) rfl (fun ls hl => ?_)
      refine lv_iload hx hb dX6_differenceOf_67 (lv_at hl 5 rfl) ?_
      refine lv_bipush (v := (10 : Int32)) hx hb dX6_differenceOf_69 (by decide) ?_
      refine lv_imul hx hb dX6_differenceOf_71 ?_
      refine lv_topi (fun x4_72 ex4_72 => ?_)
      have h := bdv_some ex4_72 h
      refine lv_istore (lv' := [(4, .int x4_72), (3, .int x3_66), (6, .int y0), (0, .ref aM), (1, .int x1), (2, .int x2)]) hx hb dX6_differenceOf_72 hl (by decide) rfl (fun ls hl => ?_)
      refine lv_goto (tgt := 5) hx hb dX6_differenceOf_74 (by decide) ?_
      exact hk5 x1 x2 x3_66 x4_72 H locs ls hP hD hS (lv_sub hl [3, 4, 5, 1, 0] rfl) h
  have hb5 : ∀ (n : Nat) (x1 : Int32) (x2 : Int32) (x3 : Int32) (x4 : Int32) (H : Heap) (locs : List Loc) (ls : Array Slot), va_P D vwCl [(aM, .inr (6, [.ref mN, .ref mkd, .ref mks, .ref mcd, .ref mpr, .ref msk, .ref mow, .ref mmi, .ref mst, .ref mbi, .ref msu, .ref mke, .ref mik, .int vka, .int viw])), (mN, .inl (cI, 9, .inl fN))] H → va_D A [(aM, .inr (6, [.ref mN, .ref mkd, .ref mks, .ref mcd, .ref mpr, .ref msk, .ref mow, .ref mmi, .ref mst, .ref mbi, .ref msu, .ref mke, .ref mik, .int vka, .int viw])), (mN, .inl (cI, 9, .inl fN))] → va_S A s.heap H locs → lv_has ls 7 [(0, .ref aM), (1, .int x1), (2, .int x2), (3, .int x3), (4, .int x4)] → fX6_differenceOf_b5 fN n x1 x2 x3 x4 = some r → W p l e rX6_differenceOf s m args below meth c H locs 0 0 Q (F0 m 5 ls []) := by
    intro n
    induction n with
    | zero => intro x1 x2 x3 x4 H locs ls hP hD hS hl h; exact absurd h (by rw [fX6_differenceOf_b5]; exact fun z => by cases z)
    | succ n ih =>
      intro x1 x2 x3 x4 H locs ls hP hD hS hl h
      rw [fX6_differenceOf_b5] at h
      refine lv_iload hx hb dX6_differenceOf_5 (lv_at hl 4 rfl) ?_
      refine lv_sipush (v := (1000 : Int32)) hx hb dX6_differenceOf_7 (by decide) ?_
      refine lv_icmp_gt (tgt := 77) hx hb dX6_differenceOf_10 (by decide) (fun c2 => ?_) (fun c2 => ?_)
      · have h := (if_pos c2).symm.trans h
        refine lv_iload_n hx hb dX6_differenceOf_77 rfl (lv_at hl 3 rfl) ?_
        exact hret x3 78 ls H locs rfl dX6_differenceOf_78 hP hD hS h
      · have h := (if_neg c2).symm.trans h
        refine lv_iload_n hx hb dX6_differenceOf_13 rfl (lv_at hl 1 rfl) ?_
        refine lv_iload hx hb dX6_differenceOf_14 (lv_at hl 4 rfl) ?_
        obtain ⟨g3, h⟩ := no_some h
        refine lv_idiv hx hb dX6_differenceOf_16 g3 ?_
        refine lv_bipush (v := (10 : Int32)) hx hb dX6_differenceOf_17 (by decide) ?_
        refine lv_irem hx hb dX6_differenceOf_19 (by decide) ?_
        refine lv_iload_n hx hb dX6_differenceOf_20 rfl (lv_at hl 2 rfl) ?_
        refine lv_iload hx hb dX6_differenceOf_21 (lv_at hl 4 rfl) ?_
        obtain ⟨g4, h⟩ := no_some h
        refine lv_idiv hx hb dX6_differenceOf_23 g4 ?_
        refine lv_bipush (v := (10 : Int32)) hx hb dX6_differenceOf_24 (by decide) ?_
        refine lv_irem hx hb dX6_differenceOf_26 (by decide) ?_
        refine lv_isub hx hb dX6_differenceOf_27 ?_
        refine lv_topi (fun x5_28 ex5_28 => ?_)
        have h := bdv_some ex5_28 h
        refine lv_istore (lv' := [(5, .int x5_28), (0, .ref aM), (1, .int x1), (2, .int x2), (3, .int x3), (4, .int x4)]) hx hb dX6_differenceOf_28 hl (by decide) rfl (fun ls hl => ?_)
        refine lv_iload hx hb dX6_differenceOf_30 (lv_at hl 0 rfl) ?_
        refine lv_if_ge (tgt := 41) hx hb dX6_differenceOf_32 (by decide) (fun c5 => ?_) (fun c5 => ?_)
        · have h := (if_pos c5).symm.trans h
          refine lv_iload hx hb dX6_differenceOf_41 (lv_at hl 0 rfl) ?_
          exact hb43 (fun x1 x2 x3 x4 => fX6_differenceOf_b5 fN n x1 x2 x3 x4) ih x1 x2 x3 x4 x5_28 H locs ls hP hD hS (lv_sub hl [1, 2, 3, 4, 5] rfl) h
        · have h := (if_neg c5).symm.trans h
          refine lv_iload hx hb dX6_differenceOf_35 (lv_at hl 0 rfl) ?_
          refine lv_ineg hx hb dX6_differenceOf_37 ?_
          refine lv_goto (tgt := 43) hx hb dX6_differenceOf_38 (by decide) ?_
          exact hb43 (fun x1 x2 x3 x4 => fX6_differenceOf_b5 fN n x1 x2 x3 x4) ih x1 x2 x3 x4 (-x5_28) H locs ls hP hD hS (lv_sub hl [1, 2, 3, 4, 5] rfl) h
  unfold fX6_differenceOf at h
  obtain ⟨H, hH⟩ : ∃ H, H = s.heap := ⟨_, rfl⟩
  have hP : va_P D vwCl [(aM, .inr (6, [.ref mN, .ref mkd, .ref mks, .ref mcd, .ref mpr, .ref msk, .ref mow, .ref mmi, .ref mst, .ref mbi, .ref msu, .ref mke, .ref mik, .int vka, .int viw])), (mN, .inl (cI, 9, .inl fN))] H := by rw [hH]; exact hP
  obtain ⟨locs, hlocs⟩ : ∃ x : List Loc, x = [] := ⟨_, rfl⟩
  have hS : va_S A s.heap H locs := by rw [hH, hlocs]; exact hS
  suffices hgo : W p l e rX6_differenceOf s m args below meth c H locs 0 0 Q (F0 m 0 ls []) by rw [hH, hlocs] at hgo; exact hgo
  refine lv_iconst (v := (0 : Int32)) hx hb dX6_differenceOf_0 (by decide) ?_
  refine lv_istore_n (lv' := [(3, .int (0 : Int32)), (0, .ref aM), (1, .int x1), (2, .int x2)]) hx hb dX6_differenceOf_1 rfl hl (by decide) rfl (fun ls hl => ?_)
  refine lv_iconst (v := (1 : Int32)) hx hb dX6_differenceOf_2 (by decide) ?_
  refine lv_istore (lv' := [(4, .int (1 : Int32)), (3, .int (0 : Int32)), (0, .ref aM), (1, .int x1), (2, .int x2)]) hx hb dX6_differenceOf_3 hl (by decide) rfl (fun ls hl => ?_)
  exact hb5 FU x1 x2 (0 : Int32) (1 : Int32) H locs ls hP hD hS (lv_sub hl [2, 3, 4, 1, 0] rfl) h
def fX6_difference (fN : Nat → Int32) (fkd : Nat → Int32) (fcd : Nat → Int32) (x1 : Int32) (x2 : Int32) : Option (Int32) :=
  bd1 (fX6_isCell fN x1) fun r_2 =>
  if r_2 = 0 then
    some (-1 : Int32)
  else
    bd1 (fX6_kinds fN) fun r_12 =>
    bd1 (fX6_in x2.toInt64 (0 : Int64) ((r_12 - (1 : Int32)).toInt64)) fun r_18 =>
    if r_18 = 0 then
      some (-1 : Int32)
    else
      if x1 < 0 ∨ 12 ≤ x1.toNatClampNeg then none else
      if x2 < 0 ∨ 8 ≤ x2.toNatClampNeg then none else
      bd1 (fX6_differenceOf fN (fcd x1.toNatClampNeg) (fkd x2.toNatClampNeg)) fun r_37 =>
      some r_37
abbrev rX6_difference : Room := { frames := 2, cells := 0, slots := 0, locals := 46 }
set_option maxHeartbeats 4000000 in
set_option maxRecDepth 100000 in
theorem tX6_difference {l : Launch} {D : va_G} {cI cZ cP : ClassId} (aM mN mkd mks mcd mpr msk mow mmi mst mbi msu mke mik : Nat) (vka : Int32) (viw : Int32) (fN : Nat → Int32) (fkd : Nat → Int32) (fks : Nat → Int32) (fcd : Nat → Int32) (fpr : Nat → Int32) (fsk : Nat → Int32) (fow : Nat → Int32) (fmi : Nat → Int32) (fst : Nat → Int32) (fbi : Nat → Int32) (fsu : Nat → Int32) (fke : Nat → Int32) (fik : Nat → Int32) (x1 : Int32) (x2 : Int32) (r : Int32) (h : fX6_difference fN fkd fcd x1 x2 = some r) : CtI l D cI cZ cP yX6_difference wsX6_difference rX6_difference [.ref aM, .int x1, .int x2] [(aM, .inr (6, [.ref mN, .ref mkd, .ref mks, .ref mcd, .ref mpr, .ref msk, .ref mow, .ref mmi, .ref mst, .ref mbi, .ref msu, .ref mke, .ref mik, .int vka, .int viw])), (mN, .inl (cI, 9, .inl fN)), (mkd, .inl (cI, 8, .inl fkd)), (mks, .inl (cI, 8, .inl fks)), (mcd, .inl (cI, 12, .inl fcd)), (mpr, .inl (cI, 16, .inl fpr)), (msk, .inl (cI, 16, .inl fsk)), (mow, .inl (cI, 16, .inl fow)), (mmi, .inl (cI, 16, .inl fmi)), (mst, .inl (cI, 16, .inl fst)), (mbi, .inl (cI, 16, .inl fbi)), (msu, .inl (cI, 16, .inl fsu)), (mke, .inl (cI, 298, .inl fke)), (mik, .inl (cZ, 2, .inl fik))] (fun _ : Unit => [(aM, .inr (6, [.ref mN, .ref mkd, .ref mks, .ref mcd, .ref mpr, .ref msk, .ref mow, .ref mmi, .ref mst, .ref mbi, .ref msu, .ref mke, .ref mik, .int vka, .int viw])), (mN, .inl (cI, 9, .inl fN)), (mkd, .inl (cI, 8, .inl fkd)), (mks, .inl (cI, 8, .inl fks)), (mcd, .inl (cI, 12, .inl fcd)), (mpr, .inl (cI, 16, .inl fpr)), (msk, .inl (cI, 16, .inl fsk)), (mow, .inl (cI, 16, .inl fow)), (mmi, .inl (cI, 16, .inl fmi)), (mst, .inl (cI, 16, .inl fst)), (mbi, .inl (cI, 16, .inl fbi)), (msu, .inl (cI, 16, .inl fsu)), (mke, .inl (cI, 298, .inl fke)), (mik, .inl (cZ, 2, .inl fik))]) r := by
  refine CtI.ofW (cc := cX6_difference) (maxL := 3) (by decide) rfl (Nat.le_of_ble_eq_true rfl) (lv := [(0, .ref aM), (1, .int x1), (2, .int x2)]) rfl ?_
  intro p e s m args below meth c A Q ls hx hb hml hown hts hK hN hP hD hS hA hl hret0
  have hown : s.vm.findClass RX6 = some m.cls := hown
  have i6 : ∀ w ∈ wsX60, w ∈ wsX6_difference := mem_ps [24, 25, 26, 27, 28, 29, 30, 31, 32, 33, 34, 35, 36, 37, 38] rfl
  have hret : ∀ (v : Int32) (pc : Nat) (ls : Array Slot) (H : Heap) (locs : List Loc), narrow .int (.int v) = .int v → decode cX6_difference pc = .ok (.ireturn, 1) → va_P D vwCl [(aM, .inr (6, [.ref mN, .ref mkd, .ref mks, .ref mcd, .ref mpr, .ref msk, .ref mow, .ref mmi, .ref mst, .ref mbi, .ref msu, .ref mke, .ref mik, .int vka, .int viw])), (mN, .inl (cI, 9, .inl fN)), (mkd, .inl (cI, 8, .inl fkd)), (mks, .inl (cI, 8, .inl fks)), (mcd, .inl (cI, 12, .inl fcd)), (mpr, .inl (cI, 16, .inl fpr)), (msk, .inl (cI, 16, .inl fsk)), (mow, .inl (cI, 16, .inl fow)), (mmi, .inl (cI, 16, .inl fmi)), (mst, .inl (cI, 16, .inl fst)), (mbi, .inl (cI, 16, .inl fbi)), (msu, .inl (cI, 16, .inl fsu)), (mke, .inl (cI, 298, .inl fke)), (mik, .inl (cZ, 2, .inl fik))] H → va_D A [(aM, .inr (6, [.ref mN, .ref mkd, .ref mks, .ref mcd, .ref mpr, .ref msk, .ref mow, .ref mmi, .ref mst, .ref mbi, .ref msu, .ref mke, .ref mik, .int vka, .int viw])), (mN, .inl (cI, 9, .inl fN)), (mkd, .inl (cI, 8, .inl fkd)), (mks, .inl (cI, 8, .inl fks)), (mcd, .inl (cI, 12, .inl fcd)), (mpr, .inl (cI, 16, .inl fpr)), (msk, .inl (cI, 16, .inl fsk)), (mow, .inl (cI, 16, .inl fow)), (mmi, .inl (cI, 16, .inl fmi)), (mst, .inl (cI, 16, .inl fst)), (mbi, .inl (cI, 16, .inl fbi)), (msu, .inl (cI, 16, .inl fsu)), (mke, .inl (cI, 298, .inl fke)), (mik, .inl (cZ, 2, .inl fik))] → va_S A s.heap H locs → some v = some r → W p l e rX6_difference s m args below meth c H locs 0 0 Q (F0 m pc ls [.int v]) := by
    intro v pc ls H locs hn hd hP hD hS h
    cases h
    exact hret0 pc ls H locs () hn hd hP hD hS
  clear hret0
  unfold fX6_difference at h
  obtain ⟨H, hH⟩ : ∃ H, H = s.heap := ⟨_, rfl⟩
  have hP : va_P D vwCl [(aM, .inr (6, [.ref mN, .ref mkd, .ref mks, .ref mcd, .ref mpr, .ref msk, .ref mow, .ref mmi, .ref mst, .ref mbi, .ref msu, .ref mke, .ref mik, .int vka, .int viw])), (mN, .inl (cI, 9, .inl fN)), (mkd, .inl (cI, 8, .inl fkd)), (mks, .inl (cI, 8, .inl fks)), (mcd, .inl (cI, 12, .inl fcd)), (mpr, .inl (cI, 16, .inl fpr)), (msk, .inl (cI, 16, .inl fsk)), (mow, .inl (cI, 16, .inl fow)), (mmi, .inl (cI, 16, .inl fmi)), (mst, .inl (cI, 16, .inl fst)), (mbi, .inl (cI, 16, .inl fbi)), (msu, .inl (cI, 16, .inl fsu)), (mke, .inl (cI, 298, .inl fke)), (mik, .inl (cZ, 2, .inl fik))] H := by rw [hH]; exact hP
  obtain ⟨locs, hlocs⟩ : ∃ x : List Loc, x = [] := ⟨_, rfl⟩
  have hS : va_S A s.heap H locs := by rw [hH, hlocs]; exact hS
  suffices hgo : W p l e rX6_difference s m args below meth c H locs 0 0 Q (F0 m 0 ls []) by rw [hH, hlocs] at hgo; exact hgo
  refine lv_aload_n hx hb dX6_difference_0 rfl (lv_at hl 0 rfl) ?_
  refine lv_iload_n hx hb dX6_difference_1 rfl (lv_at hl 1 rfl) ?_
  obtain ⟨r_2, q_2, h⟩ := bd1_some h
  refine fr_ro_i (S := Unit) (wc := [(aM, .inr (6, [.ref mN, .ref mkd, .ref mks, .ref mcd, .ref mpr, .ref msk, .ref mow, .ref mmi, .ref mst, .ref mbi, .ref msu, .ref mke, .ref mik, .int vka, .int viw])), (mN, .inl (cI, 9, .inl fN))]) (fr_V (As := [.int x1]) (rest := []) (C := RX6) ⟨hx, hb, hml, hown, hts⟩ (tX6_isCell aM mN mkd mks mcd mpr msk mow mmi mst mbi msu mke mik vka viw fN x1 r_2 q_2) gX6_difference_X6_isCell rfl (fr_preV (As := [.int x1]) (b := aM) (ci := 6) (q0 := 0) (wc := [(aM, .inr (6, [.ref mN, .ref mkd, .ref mks, .ref mcd, .ref mpr, .ref msk, .ref mow, .ref mmi, .ref mst, .ref mbi, .ref msu, .ref mke, .ref mik, .int vka, .int viw])), (mN, .inl (cI, 9, .inl fN))]) hK hN hP hD [0, 1] (by decide) rfl rfl rfl) (n := 1) (by decide +kernel) ⟨Nat.le_of_ble_eq_true rfl, Nat.le_of_ble_eq_true rfl⟩ rfl hl.1 rfl (Nat.le_of_ble_eq_true rfl) dX6_difference_2 ⟨Nat.zero_le _, Nat.zero_le _⟩) hP hD hS hA [0, 1] rfl (c2 := 0) (s2 := 0) rfl rfl (fun H locs hP hS => ?_)
  refine lv_if_eq (tgt := 43) hx hb dX6_difference_5 (by decide) (fun c1 => ?_) (fun c1 => ?_)
  · have h := (if_pos c1).symm.trans h
    refine lv_iconst (v := (-1 : Int32)) hx hb dX6_difference_43 (by decide) ?_
    exact hret (-1 : Int32) 44 ls H locs rfl dX6_difference_44 hP hD hS h
  · have h := (if_neg c1).symm.trans h
    refine lv_iload_n hx hb dX6_difference_8 rfl (lv_at hl 2 rfl) ?_
    refine lv_i2l (v := x2.toInt64) hx hb dX6_difference_9 rfl ?_
    refine lv_lconst (v := (0 : Int64)) hx hb dX6_difference_10 (by decide) ?_
    refine lv_aload_n hx hb dX6_difference_11 rfl (lv_at hl 0 rfl) ?_
    obtain ⟨r_12, q_12, h⟩ := bd1_some h
    refine fr_ro_i (S := Unit) (wc := [(aM, .inr (6, [.ref mN, .ref mkd, .ref mks, .ref mcd, .ref mpr, .ref msk, .ref mow, .ref mmi, .ref mst, .ref mbi, .ref msu, .ref mke, .ref mik, .int vka, .int viw])), (mN, .inl (cI, 9, .inl fN))]) (fr_V (As := []) (rest := [.long (0 : Int64), .long x2.toInt64]) (C := RX6) ⟨hx, hb, hml, hown, hts⟩ (tX6_kinds aM mN mkd mks mcd mpr msk mow mmi mst mbi msu mke mik vka viw fN r_12 q_12) gX6_difference_X6_kinds rfl (fr_preV (As := []) (b := aM) (ci := 6) (q0 := 0) (wc := [(aM, .inr (6, [.ref mN, .ref mkd, .ref mks, .ref mcd, .ref mpr, .ref msk, .ref mow, .ref mmi, .ref mst, .ref mbi, .ref msu, .ref mke, .ref mik, .int vka, .int viw])), (mN, .inl (cI, 9, .inl fN))]) hK hN hP hD [0, 1] (by decide) rfl rfl rfl) (n := 0) (by decide +kernel) ⟨Nat.le_of_ble_eq_true rfl, Nat.le_of_ble_eq_true rfl⟩ rfl hl.1 rfl (Nat.le_of_ble_eq_true rfl) dX6_difference_12 ⟨Nat.zero_le _, Nat.zero_le _⟩) hP hD hS hA [0, 1] rfl (c2 := 0) (s2 := 0) rfl rfl (fun H locs hP hS => ?_)
    refine lv_iconst (v := (1 : Int32)) hx hb dX6_difference_15 (by decide) ?_
    refine lv_isub hx hb dX6_difference_16 ?_
    refine lv_i2l (v := (r_12 - (1 : Int32)).toInt64) hx hb dX6_difference_17 rfl ?_
    obtain ⟨r_18, q_18, h⟩ := bd1_some h
    refine fr_ro_i (S := Unit) (wc := []) (fr_S (As := [.long x2.toInt64, .long (0 : Int64), .long ((r_12 - (1 : Int32)).toInt64)]) (rest := []) ⟨hx, hb, hml, hown, hts⟩ (tX6_in x2.toInt64 (0 : Int64) ((r_12 - (1 : Int32)).toInt64) r_18 q_18) gX6_difference_X6_in rfl (fr_pre (As := [.long x2.toInt64, .long (0 : Int64), .long ((r_12 - (1 : Int32)).toInt64)]) (wc := []) hK hN hP hD [] (by decide) rfl) (n := 3) (by decide +kernel) ⟨Nat.le_of_ble_eq_true rfl, Nat.le_of_ble_eq_true rfl⟩ rfl hl.1 rfl (Nat.le_of_ble_eq_true rfl) dX6_difference_18 ⟨Nat.zero_le _, Nat.zero_le _⟩) hP hD hS hA [] rfl (c2 := 0) (s2 := 0) rfl rfl (fun H locs hP hS => ?_)
    refine lv_if_eq (tgt := 43) hx hb dX6_difference_21 (by decide) (fun c2 => ?_) (fun c2 => ?_)
    · have h := (if_pos c2).symm.trans h
      refine lv_iconst (v := (-1 : Int32)) hx hb dX6_difference_43 (by decide) ?_
      exact hret (-1 : Int32) 44 ls H locs rfl dX6_difference_44 hP hD hS h
    · have h := (if_neg c2).symm.trans h
      refine lv_aload_n hx hb dX6_difference_24 rfl (lv_at hl 0 rfl) ?_
      refine lv_aload_n hx hb dX6_difference_25 rfl (lv_at hl 0 rfl) ?_
      refine va_get (D := D) (ci := 6) (v := .ref mcd) (C := RX6) (T := TX6) (N := 15) hx hb hts i6 hown hK hP 0 rfl rfl 3 (by decide) (hts (.fieldLink RX6 19 RX6 "cellDots" "[I") (List.mem_of_getElem? (i := 1) rfl)) (fun _ h9 => h9) rfl dX6_difference_26 ?_
      refine lv_iload_n hx hb dX6_difference_29 rfl (lv_at hl 1 rfl) ?_
      obtain ⟨g3, h⟩ := no_some h
      refine va_iald hx hb hK hP 4 0 rfl rfl g3 dX6_difference_30 ?_
      refine lv_aload_n hx hb dX6_difference_31 rfl (lv_at hl 0 rfl) ?_
      refine va_get (D := D) (ci := 6) (v := .ref mkd) (C := RX6) (T := TX6) (N := 15) hx hb hts i6 hown hK hP 0 rfl rfl 1 (by decide) (hts (.fieldLink RX6 13 RX6 "kindDots" "[I") (List.mem_of_getElem? (i := 2) rfl)) (fun _ h9 => h9) rfl dX6_difference_32 ?_
      refine lv_iload_n hx hb dX6_difference_35 rfl (lv_at hl 2 rfl) ?_
      obtain ⟨g4, h⟩ := no_some h
      refine va_iald hx hb hK hP 2 0 rfl rfl g4 dX6_difference_36 ?_
      obtain ⟨r_37, q_37, h⟩ := bd1_some h
      refine fr_ro_i (S := Unit) (wc := [(aM, .inr (6, [.ref mN, .ref mkd, .ref mks, .ref mcd, .ref mpr, .ref msk, .ref mow, .ref mmi, .ref mst, .ref mbi, .ref msu, .ref mke, .ref mik, .int vka, .int viw])), (mN, .inl (cI, 9, .inl fN))]) (fr_V (As := [.int (fcd x1.toNatClampNeg), .int (fkd x2.toNatClampNeg)]) (rest := []) (C := RX6) ⟨hx, hb, hml, hown, hts⟩ (tX6_differenceOf aM mN mkd mks mcd mpr msk mow mmi mst mbi msu mke mik vka viw fN (fcd x1.toNatClampNeg) (fkd x2.toNatClampNeg) r_37 q_37) gX6_difference_X6_differenceOf rfl (fr_preV (As := [.int (fcd x1.toNatClampNeg), .int (fkd x2.toNatClampNeg)]) (b := aM) (ci := 6) (q0 := 0) (wc := [(aM, .inr (6, [.ref mN, .ref mkd, .ref mks, .ref mcd, .ref mpr, .ref msk, .ref mow, .ref mmi, .ref mst, .ref mbi, .ref msu, .ref mke, .ref mik, .int vka, .int viw])), (mN, .inl (cI, 9, .inl fN))]) hK hN hP hD [0, 1] (by decide) rfl rfl rfl) (n := 2) (by decide +kernel) ⟨Nat.le_of_ble_eq_true rfl, Nat.le_of_ble_eq_true rfl⟩ rfl hl.1 rfl (Nat.le_of_ble_eq_true rfl) dX6_difference_37 ⟨Nat.zero_le _, Nat.zero_le _⟩) hP hD hS hA [0, 1] rfl (c2 := 0) (s2 := 0) rfl rfl (fun H locs hP hS => ?_)
      refine lv_goto (tgt := 44) hx hb dX6_difference_40 (by decide) ?_
      exact hret r_37 44 ls H locs rfl dX6_difference_44 hP hD hS h
def fX6_gainOf (fN : Nat → Int32) (fkd : Nat → Int32) (fcd : Nat → Int32) (fpr : Nat → Int32) (fsk : Nat → Int32) (x1 : Int32) (x2 : Int32) : Option (Int32) :=
  bd1 (fX6_cells fN) fun r_2 =>
  if r_2 ≤ x1 then
    if x2 < 0 ∨ 16 ≤ x2.toNatClampNeg then none else
    some ((0 : Int32) - (fpr x2.toNatClampNeg))
  else
    if x1 < 0 ∨ 12 ≤ x1.toNatClampNeg then none else
    if x2 < 0 ∨ 16 ≤ x2.toNatClampNeg then none else
    if fsk x2.toNatClampNeg < 0 ∨ 8 ≤ (fsk x2.toNatClampNeg).toNatClampNeg then none else
    bd1 (fX6_differenceOf fN (fcd x1.toNatClampNeg) (fkd ((fsk x2.toNatClampNeg).toNatClampNeg))) fun r_26 =>
    bdv ((-r_26) * ((fN 4) + (1 : Int32))) fun x3_43 =>
    if x2 < 0 ∨ 16 ≤ x2.toNatClampNeg then none else
    some (x3_43 - (fpr x2.toNatClampNeg))
abbrev rX6_gainOf : Room := { frames := 1, cells := 0, slots := 0, locals := 26 }
set_option maxHeartbeats 4000000 in
set_option maxRecDepth 100000 in
theorem tX6_gainOf {l : Launch} {D : va_G} {cI cZ cP : ClassId} (aM mN mkd mcd mpr msk mks mow mmi mst mbi msu mke mik : Nat) (vka : Int32) (viw : Int32) (fN : Nat → Int32) (fkd : Nat → Int32) (fcd : Nat → Int32) (fpr : Nat → Int32) (fsk : Nat → Int32) (x1 : Int32) (x2 : Int32) (r : Int32) (h : fX6_gainOf fN fkd fcd fpr fsk x1 x2 = some r) : CtI l D cI cZ cP yX6_gainOf wsX6_gainOf rX6_gainOf [.ref aM, .int x1, .int x2] [(aM, .inr (6, [.ref mN, .ref mkd, .ref mks, .ref mcd, .ref mpr, .ref msk, .ref mow, .ref mmi, .ref mst, .ref mbi, .ref msu, .ref mke, .ref mik, .int vka, .int viw])), (mN, .inl (cI, 9, .inl fN)), (mkd, .inl (cI, 8, .inl fkd)), (mcd, .inl (cI, 12, .inl fcd)), (mpr, .inl (cI, 16, .inl fpr)), (msk, .inl (cI, 16, .inl fsk))] (fun _ : Unit => [(aM, .inr (6, [.ref mN, .ref mkd, .ref mks, .ref mcd, .ref mpr, .ref msk, .ref mow, .ref mmi, .ref mst, .ref mbi, .ref msu, .ref mke, .ref mik, .int vka, .int viw])), (mN, .inl (cI, 9, .inl fN)), (mkd, .inl (cI, 8, .inl fkd)), (mcd, .inl (cI, 12, .inl fcd)), (mpr, .inl (cI, 16, .inl fpr)), (msk, .inl (cI, 16, .inl fsk))]) r := by
  refine CtI.ofW (cc := cX6_gainOf) (maxL := 4) (by decide) rfl (Nat.le_of_ble_eq_true rfl) (lv := [(0, .ref aM), (1, .int x1), (2, .int x2)]) rfl ?_
  intro p e s m args below meth c A Q ls hx hb hml hown hts hK hN hP hD hS hA hl hret0
  have hown : s.vm.findClass RX6 = some m.cls := hown
  have i6 : ∀ w ∈ wsX60, w ∈ wsX6_gainOf := mem_ps [15, 16, 17, 18, 19, 20, 21, 22, 23, 24, 25, 26, 27, 28, 29] rfl
  have hret : ∀ (v : Int32) (pc : Nat) (ls : Array Slot) (H : Heap) (locs : List Loc), narrow .int (.int v) = .int v → decode cX6_gainOf pc = .ok (.ireturn, 1) → va_P D vwCl [(aM, .inr (6, [.ref mN, .ref mkd, .ref mks, .ref mcd, .ref mpr, .ref msk, .ref mow, .ref mmi, .ref mst, .ref mbi, .ref msu, .ref mke, .ref mik, .int vka, .int viw])), (mN, .inl (cI, 9, .inl fN)), (mkd, .inl (cI, 8, .inl fkd)), (mcd, .inl (cI, 12, .inl fcd)), (mpr, .inl (cI, 16, .inl fpr)), (msk, .inl (cI, 16, .inl fsk))] H → va_D A [(aM, .inr (6, [.ref mN, .ref mkd, .ref mks, .ref mcd, .ref mpr, .ref msk, .ref mow, .ref mmi, .ref mst, .ref mbi, .ref msu, .ref mke, .ref mik, .int vka, .int viw])), (mN, .inl (cI, 9, .inl fN)), (mkd, .inl (cI, 8, .inl fkd)), (mcd, .inl (cI, 12, .inl fcd)), (mpr, .inl (cI, 16, .inl fpr)), (msk, .inl (cI, 16, .inl fsk))] → va_S A s.heap H locs → some v = some r → W p l e rX6_gainOf s m args below meth c H locs 0 0 Q (F0 m pc ls [.int v]) := by
    intro v pc ls H locs hn hd hP hD hS h
    cases h
    exact hret0 pc ls H locs () hn hd hP hD hS
  clear hret0
  unfold fX6_gainOf at h
  obtain ⟨H, hH⟩ : ∃ H, H = s.heap := ⟨_, rfl⟩
  have hP : va_P D vwCl [(aM, .inr (6, [.ref mN, .ref mkd, .ref mks, .ref mcd, .ref mpr, .ref msk, .ref mow, .ref mmi, .ref mst, .ref mbi, .ref msu, .ref mke, .ref mik, .int vka, .int viw])), (mN, .inl (cI, 9, .inl fN)), (mkd, .inl (cI, 8, .inl fkd)), (mcd, .inl (cI, 12, .inl fcd)), (mpr, .inl (cI, 16, .inl fpr)), (msk, .inl (cI, 16, .inl fsk))] H := by rw [hH]; exact hP
  obtain ⟨locs, hlocs⟩ : ∃ x : List Loc, x = [] := ⟨_, rfl⟩
  have hS : va_S A s.heap H locs := by rw [hH, hlocs]; exact hS
  suffices hgo : W p l e rX6_gainOf s m args below meth c H locs 0 0 Q (F0 m 0 ls []) by rw [hH, hlocs] at hgo; exact hgo
  refine lv_iload_n hx hb dX6_gainOf_0 rfl (lv_at hl 1 rfl) ?_
  refine lv_aload_n hx hb dX6_gainOf_1 rfl (lv_at hl 0 rfl) ?_
  obtain ⟨r_2, q_2, h⟩ := bd1_some h
  refine fr_ro_i (S := Unit) (wc := [(aM, .inr (6, [.ref mN, .ref mkd, .ref mks, .ref mcd, .ref mpr, .ref msk, .ref mow, .ref mmi, .ref mst, .ref mbi, .ref msu, .ref mke, .ref mik, .int vka, .int viw])), (mN, .inl (cI, 9, .inl fN))]) (fr_V (As := []) (rest := [.int x1]) (C := RX6) ⟨hx, hb, hml, hown, hts⟩ (tX6_cells aM mN mkd mks mcd mpr msk mow mmi mst mbi msu mke mik vka viw fN r_2 q_2) gX6_gainOf_X6_cells rfl (fr_preV (As := []) (b := aM) (ci := 6) (q0 := 0) (wc := [(aM, .inr (6, [.ref mN, .ref mkd, .ref mks, .ref mcd, .ref mpr, .ref msk, .ref mow, .ref mmi, .ref mst, .ref mbi, .ref msu, .ref mke, .ref mik, .int vka, .int viw])), (mN, .inl (cI, 9, .inl fN))]) hK hN hP hD [0, 1] (by decide) rfl rfl rfl) (n := 0) (by decide +kernel) ⟨Nat.le_of_ble_eq_true rfl, Nat.le_of_ble_eq_true rfl⟩ rfl hl.1 rfl (Nat.le_of_ble_eq_true rfl) dX6_gainOf_2 ⟨Nat.zero_le _, Nat.zero_le _⟩) hP hD hS hA [0, 1] rfl (c2 := 0) (s2 := 0) rfl rfl (fun H locs hP hS => ?_)
  refine lv_icmp_ge (tgt := 42) hx hb dX6_gainOf_5 (by decide) (fun c1 => ?_) (fun c1 => ?_)
  · have h := (if_pos c1).symm.trans h
    refine lv_iconst (v := (0 : Int32)) hx hb dX6_gainOf_42 (by decide) ?_
    refine lv_istore_n (lv' := [(3, .int (0 : Int32)), (0, .ref aM), (1, .int x1), (2, .int x2)]) hx hb dX6_gainOf_43 rfl hl (by decide) rfl (fun ls hl => ?_)
    refine lv_iload_n hx hb dX6_gainOf_44 rfl (lv_at hl 0 rfl) ?_
    refine lv_aload_n hx hb dX6_gainOf_45 rfl (lv_at hl 1 rfl) ?_
    refine va_get (D := D) (ci := 6) (v := .ref mpr) (C := RX6) (T := TX6) (N := 15) hx hb hts i6 hown hK hP 0 rfl rfl 4 (by decide) (hts (.fieldLink RX6 22 RX6 "price" "[I") (List.mem_of_getElem? (i := 5) rfl)) (fun _ h9 => h9) rfl dX6_gainOf_46 ?_
    refine lv_iload_n hx hb dX6_gainOf_49 rfl (lv_at hl 3 rfl) ?_
    obtain ⟨g2, h⟩ := no_some h
    refine va_iald hx hb hK hP 4 0 rfl rfl g2 dX6_gainOf_50 ?_
    refine lv_isub hx hb dX6_gainOf_51 ?_
    exact hret ((0 : Int32) - (fpr x2.toNatClampNeg)) 52 ls H locs rfl dX6_gainOf_52 hP hD hS h
  · have h := (if_neg c1).symm.trans h
    refine lv_aload_n hx hb dX6_gainOf_8 rfl (lv_at hl 0 rfl) ?_
    refine lv_aload_n hx hb dX6_gainOf_9 rfl (lv_at hl 0 rfl) ?_
    refine va_get (D := D) (ci := 6) (v := .ref mcd) (C := RX6) (T := TX6) (N := 15) hx hb hts i6 hown hK hP 0 rfl rfl 3 (by decide) (hts (.fieldLink RX6 19 RX6 "cellDots" "[I") (List.mem_of_getElem? (i := 1) rfl)) (fun _ h9 => h9) rfl dX6_gainOf_10 ?_
    refine lv_iload_n hx hb dX6_gainOf_13 rfl (lv_at hl 1 rfl) ?_
    obtain ⟨g3, h⟩ := no_some h
    refine va_iald hx hb hK hP 3 0 rfl rfl g3 dX6_gainOf_14 ?_
    refine lv_aload_n hx hb dX6_gainOf_15 rfl (lv_at hl 0 rfl) ?_
    refine va_get (D := D) (ci := 6) (v := .ref mkd) (C := RX6) (T := TX6) (N := 15) hx hb hts i6 hown hK hP 0 rfl rfl 1 (by decide) (hts (.fieldLink RX6 13 RX6 "kindDots" "[I") (List.mem_of_getElem? (i := 2) rfl)) (fun _ h9 => h9) rfl dX6_gainOf_16 ?_
    refine lv_aload_n hx hb dX6_gainOf_19 rfl (lv_at hl 0 rfl) ?_
    refine va_get (D := D) (ci := 6) (v := .ref msk) (C := RX6) (T := TX6) (N := 15) hx hb hts i6 hown hK hP 0 rfl rfl 5 (by decide) (hts (.fieldLink RX6 25 RX6 "slotKind" "[I") (List.mem_of_getElem? (i := 3) rfl)) (fun _ h9 => h9) rfl dX6_gainOf_20 ?_
    refine lv_iload_n hx hb dX6_gainOf_23 rfl (lv_at hl 2 rfl) ?_
    obtain ⟨g4, h⟩ := no_some h
    refine va_iald hx hb hK hP 5 0 rfl rfl g4 dX6_gainOf_24 ?_
    obtain ⟨g5, h⟩ := no_some h
    refine va_iald hx hb hK hP 2 0 rfl rfl g5 dX6_gainOf_25 ?_
    obtain ⟨r_26, q_26, h⟩ := bd1_some h
    refine fr_ro_i (S := Unit) (wc := [(aM, .inr (6, [.ref mN, .ref mkd, .ref mks, .ref mcd, .ref mpr, .ref msk, .ref mow, .ref mmi, .ref mst, .ref mbi, .ref msu, .ref mke, .ref mik, .int vka, .int viw])), (mN, .inl (cI, 9, .inl fN))]) (fr_V (As := [.int (fcd x1.toNatClampNeg), .int (fkd ((fsk x2.toNatClampNeg).toNatClampNeg))]) (rest := []) (C := RX6) ⟨hx, hb, hml, hown, hts⟩ (tX6_differenceOf aM mN mkd mks mcd mpr msk mow mmi mst mbi msu mke mik vka viw fN (fcd x1.toNatClampNeg) (fkd ((fsk x2.toNatClampNeg).toNatClampNeg)) r_26 q_26) gX6_gainOf_X6_differenceOf rfl (fr_preV (As := [.int (fcd x1.toNatClampNeg), .int (fkd ((fsk x2.toNatClampNeg).toNatClampNeg))]) (b := aM) (ci := 6) (q0 := 0) (wc := [(aM, .inr (6, [.ref mN, .ref mkd, .ref mks, .ref mcd, .ref mpr, .ref msk, .ref mow, .ref mmi, .ref mst, .ref mbi, .ref msu, .ref mke, .ref mik, .int vka, .int viw])), (mN, .inl (cI, 9, .inl fN))]) hK hN hP hD [0, 1] (by decide) rfl rfl rfl) (n := 2) (by decide +kernel) ⟨Nat.le_of_ble_eq_true rfl, Nat.le_of_ble_eq_true rfl⟩ rfl hl.1 rfl (Nat.le_of_ble_eq_true rfl) dX6_gainOf_26 ⟨Nat.zero_le _, Nat.zero_le _⟩) hP hD hS hA [0, 1] rfl (c2 := 0) (s2 := 0) rfl rfl (fun H locs hP hS => ?_)
    refine lv_ineg hx hb dX6_gainOf_29 ?_
    refine lv_aload_n hx hb dX6_gainOf_30 rfl (lv_at hl 0 rfl) ?_
    refine va_get (D := D) (ci := 6) (v := .ref mN) (C := RX6) (T := TX6) (N := 15) hx hb hts i6 hown hK hP 0 rfl rfl 0 (by decide) (hts (.fieldLink RX6 7 RX6 "now" "[I") (List.mem_of_getElem? (i := 4) rfl)) (fun _ h9 => h9) rfl dX6_gainOf_31 ?_
    refine lv_iconst (v := (4 : Int32)) hx hb dX6_gainOf_34 (by decide) ?_
    refine fr_iald (j := 4) hx hb hK hP 1 0 rfl rfl (by decide) (vin_of 4 9 (4 : Int32) (by decide) (by decide) (by decide)) dX6_gainOf_35 ?_
    refine lv_iconst (v := (1 : Int32)) hx hb dX6_gainOf_36 (by decide) ?_
    refine lv_iadd hx hb dX6_gainOf_37 ?_
    refine lv_imul hx hb dX6_gainOf_38 ?_
    refine lv_goto (tgt := 43) hx hb dX6_gainOf_39 (by decide) ?_
    refine lv_topi (fun x3_43 ex3_43 => ?_)
    have h := bdv_some ex3_43 h
    refine lv_istore_n (lv' := [(3, .int x3_43), (0, .ref aM), (1, .int x1), (2, .int x2)]) hx hb dX6_gainOf_43 rfl hl (by decide) rfl (fun ls hl => ?_)
    refine lv_iload_n hx hb dX6_gainOf_44 rfl (lv_at hl 0 rfl) ?_
    refine lv_aload_n hx hb dX6_gainOf_45 rfl (lv_at hl 1 rfl) ?_
    refine va_get (D := D) (ci := 6) (v := .ref mpr) (C := RX6) (T := TX6) (N := 15) hx hb hts i6 hown hK hP 0 rfl rfl 4 (by decide) (hts (.fieldLink RX6 22 RX6 "price" "[I") (List.mem_of_getElem? (i := 5) rfl)) (fun _ h9 => h9) rfl dX6_gainOf_46 ?_
    refine lv_iload_n hx hb dX6_gainOf_49 rfl (lv_at hl 3 rfl) ?_
    obtain ⟨g6, h⟩ := no_some h
    refine va_iald hx hb hK hP 4 0 rfl rfl g6 dX6_gainOf_50 ?_
    refine lv_isub hx hb dX6_gainOf_51 ?_
    exact hret (x3_43 - (fpr x2.toNatClampNeg)) 52 ls H locs rfl dX6_gainOf_52 hP hD hS h
def fX6_bestFor_b6 (fN : Nat → Int32) (fkd : Nat → Int32) (fcd : Nat → Int32) (fpr : Nat → Int32) (fsk : Nat → Int32) : Nat → Int32 → Int32 → Int32 → Int32 → Option (Int32)
  | 0, _, _, _, _ => none
  | n + 1, x1, x2, x3, x4 =>
    if (fN 4) ≤ x4 then
      some x3
    else
      if x4 = x2 then
        fX6_bestFor_b6 fN fkd fcd fpr fsk n x1 x2 x3 (x4 + 1)
      else
        if x3 < 0 then
          fX6_bestFor_b6 fN fkd fcd fpr fsk n x1 x2 x4 (x4 + 1)
        else
          bd1 (fX6_gainOf fN fkd fcd fpr fsk x1 x4) fun r_31 =>
          bd1 (fX6_gainOf fN fkd fcd fpr fsk x1 x3) fun r_37 =>
          if r_31 ≤ r_37 then
            fX6_bestFor_b6 fN fkd fcd fpr fsk n x1 x2 x3 (x4 + 1)
          else
            fX6_bestFor_b6 fN fkd fcd fpr fsk n x1 x2 x4 (x4 + 1)
def fX6_bestFor (fN : Nat → Int32) (fkd : Nat → Int32) (fcd : Nat → Int32) (fpr : Nat → Int32) (fsk : Nat → Int32) (x1 : Int32) (x2 : Int32) : Option (Int32) :=
  fX6_bestFor_b6 fN fkd fcd fpr fsk FU x1 x2 (-6 : Int32) (0 : Int32)
abbrev rX6_bestFor : Room := { frames := 2, cells := 0, slots := 0, locals := 49 }
set_option maxHeartbeats 4000000 in
set_option maxRecDepth 100000 in
theorem tX6_bestFor {l : Launch} {D : va_G} {cI cZ cP : ClassId} (aM mN mkd mcd mpr msk mks mow mmi mst mbi msu mke mik : Nat) (vka : Int32) (viw : Int32) (fN : Nat → Int32) (fkd : Nat → Int32) (fcd : Nat → Int32) (fpr : Nat → Int32) (fsk : Nat → Int32) (x1 : Int32) (x2 : Int32) (r : Int32) (h : fX6_bestFor fN fkd fcd fpr fsk x1 x2 = some r) : CtI l D cI cZ cP yX6_bestFor wsX6_bestFor rX6_bestFor [.ref aM, .int x1, .int x2] [(aM, .inr (6, [.ref mN, .ref mkd, .ref mks, .ref mcd, .ref mpr, .ref msk, .ref mow, .ref mmi, .ref mst, .ref mbi, .ref msu, .ref mke, .ref mik, .int vka, .int viw])), (mN, .inl (cI, 9, .inl fN)), (mkd, .inl (cI, 8, .inl fkd)), (mcd, .inl (cI, 12, .inl fcd)), (mpr, .inl (cI, 16, .inl fpr)), (msk, .inl (cI, 16, .inl fsk))] (fun _ : Unit => [(aM, .inr (6, [.ref mN, .ref mkd, .ref mks, .ref mcd, .ref mpr, .ref msk, .ref mow, .ref mmi, .ref mst, .ref mbi, .ref msu, .ref mke, .ref mik, .int vka, .int viw])), (mN, .inl (cI, 9, .inl fN)), (mkd, .inl (cI, 8, .inl fkd)), (mcd, .inl (cI, 12, .inl fcd)), (mpr, .inl (cI, 16, .inl fpr)), (msk, .inl (cI, 16, .inl fsk))]) r := by
  refine CtI.ofW (cc := cX6_bestFor) (maxL := 5) (by decide) rfl (Nat.le_of_ble_eq_true rfl) (lv := [(0, .ref aM), (1, .int x1), (2, .int x2)]) rfl ?_
  intro p e s m args below meth c A Q ls hx hb hml hown hts hK hN hP hD hS hA hl hret0
  have hown : s.vm.findClass RX6 = some m.cls := hown
  have i6 : ∀ w ∈ wsX60, w ∈ wsX6_bestFor := mem_ps [19, 20, 21, 22, 23, 24, 25, 26, 27, 28, 29, 30, 31, 32, 33] rfl
  have hret : ∀ (v : Int32) (pc : Nat) (ls : Array Slot) (H : Heap) (locs : List Loc), narrow .int (.int v) = .int v → decode cX6_bestFor pc = .ok (.ireturn, 1) → va_P D vwCl [(aM, .inr (6, [.ref mN, .ref mkd, .ref mks, .ref mcd, .ref mpr, .ref msk, .ref mow, .ref mmi, .ref mst, .ref mbi, .ref msu, .ref mke, .ref mik, .int vka, .int viw])), (mN, .inl (cI, 9, .inl fN)), (mkd, .inl (cI, 8, .inl fkd)), (mcd, .inl (cI, 12, .inl fcd)), (mpr, .inl (cI, 16, .inl fpr)), (msk, .inl (cI, 16, .inl fsk))] H → va_D A [(aM, .inr (6, [.ref mN, .ref mkd, .ref mks, .ref mcd, .ref mpr, .ref msk, .ref mow, .ref mmi, .ref mst, .ref mbi, .ref msu, .ref mke, .ref mik, .int vka, .int viw])), (mN, .inl (cI, 9, .inl fN)), (mkd, .inl (cI, 8, .inl fkd)), (mcd, .inl (cI, 12, .inl fcd)), (mpr, .inl (cI, 16, .inl fpr)), (msk, .inl (cI, 16, .inl fsk))] → va_S A s.heap H locs → some v = some r → W p l e rX6_bestFor s m args below meth c H locs 0 0 Q (F0 m pc ls [.int v]) := by
    intro v pc ls H locs hn hd hP hD hS h
    cases h
    exact hret0 pc ls H locs () hn hd hP hD hS
  clear hret0
  have hb6 : ∀ (n : Nat) (x1 : Int32) (x2 : Int32) (x3 : Int32) (x4 : Int32) (H : Heap) (locs : List Loc) (ls : Array Slot), va_P D vwCl [(aM, .inr (6, [.ref mN, .ref mkd, .ref mks, .ref mcd, .ref mpr, .ref msk, .ref mow, .ref mmi, .ref mst, .ref mbi, .ref msu, .ref mke, .ref mik, .int vka, .int viw])), (mN, .inl (cI, 9, .inl fN)), (mkd, .inl (cI, 8, .inl fkd)), (mcd, .inl (cI, 12, .inl fcd)), (mpr, .inl (cI, 16, .inl fpr)), (msk, .inl (cI, 16, .inl fsk))] H → va_D A [(aM, .inr (6, [.ref mN, .ref mkd, .ref mks, .ref mcd, .ref mpr, .ref msk, .ref mow, .ref mmi, .ref mst, .ref mbi, .ref msu, .ref mke, .ref mik, .int vka, .int viw])), (mN, .inl (cI, 9, .inl fN)), (mkd, .inl (cI, 8, .inl fkd)), (mcd, .inl (cI, 12, .inl fcd)), (mpr, .inl (cI, 16, .inl fpr)), (msk, .inl (cI, 16, .inl fsk))] → va_S A s.heap H locs → lv_has ls 5 [(0, .ref aM), (1, .int x1), (2, .int x2), (3, .int x3), (4, .int x4)] → fX6_bestFor_b6 fN fkd fcd fpr fsk n x1 x2 x3 x4 = some r → W p l e rX6_bestFor s m args below meth c H locs 0 0 Q (F0 m 6 ls []) := by
    intro n
    induction n with
    | zero => intro x1 x2 x3 x4 H locs ls hP hD hS hl h; exact absurd h (by rw [fX6_bestFor_b6]; exact fun z => by cases z)
    | succ n ih =>
      intro x1 x2 x3 x4 H locs ls hP hD hS hl h
      rw [fX6_bestFor_b6] at h
      refine lv_iload hx hb dX6_bestFor_6 (lv_at hl 4 rfl) ?_
      refine lv_aload_n hx hb dX6_bestFor_8 rfl (lv_at hl 0 rfl) ?_
      refine va_get (D := D) (ci := 6) (v := .ref mN) (C := RX6) (T := TX6) (N := 15) hx hb hts i6 hown hK hP 0 rfl rfl 0 (by decide) (hts (.fieldLink RX6 7 RX6 "now" "[I") (List.mem_of_getElem? (i := 1) rfl)) (fun _ h9 => h9) rfl dX6_bestFor_9 ?_
      refine lv_iconst (v := (4 : Int32)) hx hb dX6_bestFor_12 (by decide) ?_
      refine fr_iald (j := 4) hx hb hK hP 1 0 rfl rfl (by decide) (vin_of 4 9 (4 : Int32) (by decide) (by decide) (by decide)) dX6_bestFor_13 ?_
      refine lv_icmp_ge (tgt := 52) hx hb dX6_bestFor_14 (by decide) (fun c1 => ?_) (fun c1 => ?_)
      · have h := (if_pos c1).symm.trans h
        refine lv_iload_n hx hb dX6_bestFor_52 rfl (lv_at hl 3 rfl) ?_
        exact hret x3 53 ls H locs rfl dX6_bestFor_53 hP hD hS h
      · have h := (if_neg c1).symm.trans h
        refine lv_iload hx hb dX6_bestFor_17 (lv_at hl 4 rfl) ?_
        refine lv_iload_n hx hb dX6_bestFor_19 rfl (lv_at hl 2 rfl) ?_
        refine lv_icmp_eq (tgt := 46) hx hb dX6_bestFor_20 (by decide) (fun c2 => ?_) (fun c2 => ?_)
        · have h := (if_pos c2).symm.trans h
          refine lv_iinc (v := x4 + 1) (lv' := [(4, .int (x4 + 1)), (0, .ref aM), (1, .int x1), (2, .int x2), (3, .int x3)]) hx hb dX6_bestFor_46 hl (k := 4) rfl rfl (by decide) rfl (fun ls hl => ?_)
          refine lv_goto (tgt := 6) hx hb dX6_bestFor_49 (by decide) ?_
          exact ih x1 x2 x3 (x4 + 1) H locs ls hP hD hS (lv_sub hl [1, 2, 3, 4, 0] rfl) h
        · have h := (if_neg c2).symm.trans h
          refine lv_iload_n hx hb dX6_bestFor_23 rfl (lv_at hl 3 rfl) ?_
          refine lv_if_lt (tgt := 43) hx hb dX6_bestFor_24 (by decide) (fun c3 => ?_) (fun c3 => ?_)
          · have h := (if_pos c3).symm.trans h
            refine lv_iload hx hb dX6_bestFor_43 (lv_at hl 4 rfl) ?_
            refine lv_istore_n (lv' := [(3, .int x4), (0, .ref aM), (1, .int x1), (2, .int x2), (4, .int x4)]) hx hb dX6_bestFor_45 rfl hl (by decide) rfl (fun ls hl => ?_)
            refine lv_iinc (v := x4 + 1) (lv' := [(4, .int (x4 + 1)), (3, .int x4), (0, .ref aM), (1, .int x1), (2, .int x2)]) hx hb dX6_bestFor_46 hl (k := 4) rfl rfl (by decide) rfl (fun ls hl => ?_)
            refine lv_goto (tgt := 6) hx hb dX6_bestFor_49 (by decide) ?_
            exact ih x1 x2 x4 (x4 + 1) H locs ls hP hD hS (lv_sub hl [2, 3, 4, 1, 0] rfl) h
          · have h := (if_neg c3).symm.trans h
            refine lv_aload_n hx hb dX6_bestFor_27 rfl (lv_at hl 0 rfl) ?_
            refine lv_iload_n hx hb dX6_bestFor_28 rfl (lv_at hl 1 rfl) ?_
            refine lv_iload hx hb dX6_bestFor_29 (lv_at hl 4 rfl) ?_
            obtain ⟨r_31, q_31, h⟩ := bd1_some h
            refine fr_ro_i (S := Unit) (wc := [(aM, .inr (6, [.ref mN, .ref mkd, .ref mks, .ref mcd, .ref mpr, .ref msk, .ref mow, .ref mmi, .ref mst, .ref mbi, .ref msu, .ref mke, .ref mik, .int vka, .int viw])), (mN, .inl (cI, 9, .inl fN)), (mkd, .inl (cI, 8, .inl fkd)), (mcd, .inl (cI, 12, .inl fcd)), (mpr, .inl (cI, 16, .inl fpr)), (msk, .inl (cI, 16, .inl fsk))]) (fr_V (As := [.int x1, .int x4]) (rest := []) (C := RX6) ⟨hx, hb, hml, hown, hts⟩ (tX6_gainOf aM mN mkd mcd mpr msk mks mow mmi mst mbi msu mke mik vka viw fN fkd fcd fpr fsk x1 x4 r_31 q_31) gX6_bestFor_X6_gainOf rfl (fr_preV (As := [.int x1, .int x4]) (b := aM) (ci := 6) (q0 := 0) (wc := [(aM, .inr (6, [.ref mN, .ref mkd, .ref mks, .ref mcd, .ref mpr, .ref msk, .ref mow, .ref mmi, .ref mst, .ref mbi, .ref msu, .ref mke, .ref mik, .int vka, .int viw])), (mN, .inl (cI, 9, .inl fN)), (mkd, .inl (cI, 8, .inl fkd)), (mcd, .inl (cI, 12, .inl fcd)), (mpr, .inl (cI, 16, .inl fpr)), (msk, .inl (cI, 16, .inl fsk))]) hK hN hP hD [0, 1, 2, 3, 4, 5] (by decide) rfl rfl rfl) (n := 2) (by decide +kernel) ⟨Nat.le_of_ble_eq_true rfl, Nat.le_of_ble_eq_true rfl⟩ rfl hl.1 rfl (Nat.le_of_ble_eq_true rfl) dX6_bestFor_31 ⟨Nat.zero_le _, Nat.zero_le _⟩) hP hD hS hA [0, 1, 2, 3, 4, 5] rfl (c2 := 0) (s2 := 0) rfl rfl (fun H locs hP hS => ?_)
            refine lv_aload_n hx hb dX6_bestFor_34 rfl (lv_at hl 0 rfl) ?_
            refine lv_iload_n hx hb dX6_bestFor_35 rfl (lv_at hl 1 rfl) ?_
            refine lv_iload_n hx hb dX6_bestFor_36 rfl (lv_at hl 3 rfl) ?_
            obtain ⟨r_37, q_37, h⟩ := bd1_some h
            refine fr_ro_i (S := Unit) (wc := [(aM, .inr (6, [.ref mN, .ref mkd, .ref mks, .ref mcd, .ref mpr, .ref msk, .ref mow, .ref mmi, .ref mst, .ref mbi, .ref msu, .ref mke, .ref mik, .int vka, .int viw])), (mN, .inl (cI, 9, .inl fN)), (mkd, .inl (cI, 8, .inl fkd)), (mcd, .inl (cI, 12, .inl fcd)), (mpr, .inl (cI, 16, .inl fpr)), (msk, .inl (cI, 16, .inl fsk))]) (fr_V (As := [.int x1, .int x3]) (rest := [.int r_31]) (C := RX6) ⟨hx, hb, hml, hown, hts⟩ (tX6_gainOf aM mN mkd mcd mpr msk mks mow mmi mst mbi msu mke mik vka viw fN fkd fcd fpr fsk x1 x3 r_37 q_37) gX6_bestFor_X6_gainOf rfl (fr_preV (As := [.int x1, .int x3]) (b := aM) (ci := 6) (q0 := 0) (wc := [(aM, .inr (6, [.ref mN, .ref mkd, .ref mks, .ref mcd, .ref mpr, .ref msk, .ref mow, .ref mmi, .ref mst, .ref mbi, .ref msu, .ref mke, .ref mik, .int vka, .int viw])), (mN, .inl (cI, 9, .inl fN)), (mkd, .inl (cI, 8, .inl fkd)), (mcd, .inl (cI, 12, .inl fcd)), (mpr, .inl (cI, 16, .inl fpr)), (msk, .inl (cI, 16, .inl fsk))]) hK hN hP hD [0, 1, 2, 3, 4, 5] (by decide) rfl rfl rfl) (n := 2) (by decide +kernel) ⟨Nat.le_of_ble_eq_true rfl, Nat.le_of_ble_eq_true rfl⟩ rfl hl.1 rfl (Nat.le_of_ble_eq_true rfl) dX6_bestFor_37 ⟨Nat.zero_le _, Nat.zero_le _⟩) hP hD hS hA [0, 1, 2, 3, 4, 5] rfl (c2 := 0) (s2 := 0) rfl rfl (fun H locs hP hS => ?_)
            refine lv_icmp_le (tgt := 46) hx hb dX6_bestFor_40 (by decide) (fun c4 => ?_) (fun c4 => ?_)
            · have h := (if_pos c4).symm.trans h
              refine lv_iinc (v := x4 + 1) (lv' := [(4, .int (x4 + 1)), (0, .ref aM), (1, .int x1), (2, .int x2), (3, .int x3)]) hx hb dX6_bestFor_46 hl (k := 4) rfl rfl (by decide) rfl (fun ls hl => ?_)
              refine lv_goto (tgt := 6) hx hb dX6_bestFor_49 (by decide) ?_
              exact ih x1 x2 x3 (x4 + 1) H locs ls hP hD hS (lv_sub hl [1, 2, 3, 4, 0] rfl) h
            · have h := (if_neg c4).symm.trans h
              refine lv_iload hx hb dX6_bestFor_43 (lv_at hl 4 rfl) ?_
              refine lv_istore_n (lv' := [(3, .int x4), (0, .ref aM), (1, .int x1), (2, .int x2), (4, .int x4)]) hx hb dX6_bestFor_45 rfl hl (by decide) rfl (fun ls hl => ?_)
              refine lv_iinc (v := x4 + 1) (lv' := [(4, .int (x4 + 1)), (3, .int x4), (0, .ref aM), (1, .int x1), (2, .int x2)]) hx hb dX6_bestFor_46 hl (k := 4) rfl rfl (by decide) rfl (fun ls hl => ?_)
              refine lv_goto (tgt := 6) hx hb dX6_bestFor_49 (by decide) ?_
              exact ih x1 x2 x4 (x4 + 1) H locs ls hP hD hS (lv_sub hl [2, 3, 4, 1, 0] rfl) h
  unfold fX6_bestFor at h
  obtain ⟨H, hH⟩ : ∃ H, H = s.heap := ⟨_, rfl⟩
  have hP : va_P D vwCl [(aM, .inr (6, [.ref mN, .ref mkd, .ref mks, .ref mcd, .ref mpr, .ref msk, .ref mow, .ref mmi, .ref mst, .ref mbi, .ref msu, .ref mke, .ref mik, .int vka, .int viw])), (mN, .inl (cI, 9, .inl fN)), (mkd, .inl (cI, 8, .inl fkd)), (mcd, .inl (cI, 12, .inl fcd)), (mpr, .inl (cI, 16, .inl fpr)), (msk, .inl (cI, 16, .inl fsk))] H := by rw [hH]; exact hP
  obtain ⟨locs, hlocs⟩ : ∃ x : List Loc, x = [] := ⟨_, rfl⟩
  have hS : va_S A s.heap H locs := by rw [hH, hlocs]; exact hS
  suffices hgo : W p l e rX6_bestFor s m args below meth c H locs 0 0 Q (F0 m 0 ls []) by rw [hH, hlocs] at hgo; exact hgo
  refine lv_bipush (v := (-6 : Int32)) hx hb dX6_bestFor_0 (by decide) ?_
  refine lv_istore_n (lv' := [(3, .int (-6 : Int32)), (0, .ref aM), (1, .int x1), (2, .int x2)]) hx hb dX6_bestFor_2 rfl hl (by decide) rfl (fun ls hl => ?_)
  refine lv_iconst (v := (0 : Int32)) hx hb dX6_bestFor_3 (by decide) ?_
  refine lv_istore (lv' := [(4, .int (0 : Int32)), (3, .int (-6 : Int32)), (0, .ref aM), (1, .int x1), (2, .int x2)]) hx hb dX6_bestFor_4 hl (by decide) rfl (fun ls hl => ?_)
  exact hb6 FU x1 x2 (-6 : Int32) (0 : Int32) H locs ls hP hD hS (lv_sub hl [2, 3, 4, 1, 0] rfl) h
def fX6_bid_b76 (fN : Nat → Int32) (fkd : Nat → Int32) (fcd : Nat → Int32) (fsk : Nat → Int32) (x1 : Int32) (x3 : Int32) (fpr : Nat → Int32) (fow : Nat → Int32) (fmi : Nat → Int32) : Option ((Nat → Int32) × (Nat → Int32) × (Nat → Int32)) :=
  if x3 < 0 ∨ 16 ≤ x3.toNatClampNeg then none else
  if x1 < 0 ∨ 16 ≤ x1.toNatClampNeg then none else
  some (fpr, upd fow x3.toNatClampNeg x1, upd fmi x1.toNatClampNeg x3)
def fX6_bid_b39 (fN : Nat → Int32) (fkd : Nat → Int32) (fcd : Nat → Int32) (fsk : Nat → Int32) (x1 : Int32) (x2 : Int32) (x3 : Int32) (y0 : Int32) (fpr : Nat → Int32) (fow : Nat → Int32) (fmi : Nat → Int32) : Option ((Nat → Int32) × (Nat → Int32) × (Nat → Int32)) :=
  if x3 < 0 ∨ 16 ≤ x3.toNatClampNeg then none else
  if x3 < 0 ∨ 16 ≤ x3.toNatClampNeg then none else
  if x3 < 0 ∨ 16 ≤ x3.toNatClampNeg then none else
  if (fow x3.toNatClampNeg) < 0 then
    fX6_bid_b76 fN fkd fcd fsk x1 x3 (upd fpr x3.toNatClampNeg ((fpr x3.toNatClampNeg) + (y0 + x2))) fow fmi
  else
    if x3 < 0 ∨ 16 ≤ x3.toNatClampNeg then none else
    if fow x3.toNatClampNeg < 0 ∨ 16 ≤ (fow x3.toNatClampNeg).toNatClampNeg then none else
    fX6_bid_b76 fN fkd fcd fsk x1 x3 (upd fpr x3.toNatClampNeg ((fpr x3.toNatClampNeg) + (y0 + x2))) fow (upd fmi ((fow x3.toNatClampNeg).toNatClampNeg) (-6 : Int32))
def fX6_bid (fN : Nat → Int32) (fkd : Nat → Int32) (fcd : Nat → Int32) (fpr : Nat → Int32) (fsk : Nat → Int32) (fow : Nat → Int32) (fmi : Nat → Int32) (x1 : Int32) (x2 : Int32) : Option ((Nat → Int32) × (Nat → Int32) × (Nat → Int32)) :=
  bd1 (fX6_bestFor fN fkd fcd fpr fsk x1 (-6 : Int32)) fun r_4 =>
  bd1 (fX6_bestFor fN fkd fcd fpr fsk x1 r_4) fun r_11 =>
  if 0 ≤ r_11 then
    bd1 (fX6_gainOf fN fkd fcd fpr fsk x1 r_4) fun r_28 =>
    bd1 (fX6_gainOf fN fkd fcd fpr fsk x1 r_11) fun r_35 =>
    fX6_bid_b39 fN fkd fcd fsk x1 x2 r_4 (r_28 - r_35) fpr fow fmi
  else
    fX6_bid_b39 fN fkd fcd fsk x1 x2 r_4 (0 : Int32) fpr fow fmi
abbrev rX6_bid : Room := { frames := 3, cells := 0, slots := 0, locals := 73 }
set_option maxHeartbeats 4000000 in
set_option maxRecDepth 100000 in
theorem tX6_bid {l : Launch} {D : va_G} {cI cZ cP : ClassId} (aM mN mkd mcd mpr msk mow mmi mks mst mbi msu mke mik : Nat) (vka : Int32) (viw : Int32) (fN : Nat → Int32) (fkd : Nat → Int32) (fcd : Nat → Int32) (fpr : Nat → Int32) (fsk : Nat → Int32) (fow : Nat → Int32) (fmi : Nat → Int32) (x1 : Int32) (x2 : Int32) (opr : Nat → Int32) (oow : Nat → Int32) (omi : Nat → Int32) (h : fX6_bid fN fkd fcd fpr fsk fow fmi x1 x2 = some (opr, oow, omi)) : CtV l D cI cZ cP yX6_bid wsX6_bid rX6_bid [.ref aM, .int x1, .int x2] [(aM, .inr (6, [.ref mN, .ref mkd, .ref mks, .ref mcd, .ref mpr, .ref msk, .ref mow, .ref mmi, .ref mst, .ref mbi, .ref msu, .ref mke, .ref mik, .int vka, .int viw])), (mN, .inl (cI, 9, .inl fN)), (mkd, .inl (cI, 8, .inl fkd)), (mcd, .inl (cI, 12, .inl fcd)), (mpr, .inl (cI, 16, .inl fpr)), (msk, .inl (cI, 16, .inl fsk)), (mow, .inl (cI, 16, .inl fow)), (mmi, .inl (cI, 16, .inl fmi))] (fun _ : Unit => [(aM, .inr (6, [.ref mN, .ref mkd, .ref mks, .ref mcd, .ref mpr, .ref msk, .ref mow, .ref mmi, .ref mst, .ref mbi, .ref msu, .ref mke, .ref mik, .int vka, .int viw])), (mN, .inl (cI, 9, .inl fN)), (mkd, .inl (cI, 8, .inl fkd)), (mcd, .inl (cI, 12, .inl fcd)), (mpr, .inl (cI, 16, .inl opr)), (msk, .inl (cI, 16, .inl fsk)), (mow, .inl (cI, 16, .inl oow)), (mmi, .inl (cI, 16, .inl omi))]) := by
  refine CtV.ofW (cc := cX6_bid) (maxL := 6) (by decide) rfl (Nat.le_of_ble_eq_true rfl) (lv := [(0, .ref aM), (1, .int x1), (2, .int x2)]) rfl ?_
  intro p e s m args below meth c A Q ls hx hb hml hown hts hK hN hP hD hS hA hl hin hret0
  have hown : s.vm.findClass RX6 = some m.cls := hown
  have i6 : ∀ w ∈ wsX60, w ∈ wsX6_bid := mem_ps [25, 26, 27, 28, 29, 30, 31, 32, 33, 34, 35, 36, 37, 38, 39] rfl
  have hret : ∀ (zpr : Nat → Int32) (zow : Nat → Int32) (zmi : Nat → Int32) (pc : Nat) (ls : Array Slot) (H : Heap) (locs : List Loc), decode cX6_bid pc = .ok (.return_, 1) → va_P D vwCl [(aM, .inr (6, [.ref mN, .ref mkd, .ref mks, .ref mcd, .ref mpr, .ref msk, .ref mow, .ref mmi, .ref mst, .ref mbi, .ref msu, .ref mke, .ref mik, .int vka, .int viw])), (mN, .inl (cI, 9, .inl fN)), (mkd, .inl (cI, 8, .inl fkd)), (mcd, .inl (cI, 12, .inl fcd)), (mpr, .inl (cI, 16, .inl zpr)), (msk, .inl (cI, 16, .inl fsk)), (mow, .inl (cI, 16, .inl zow)), (mmi, .inl (cI, 16, .inl zmi))] H → va_D A [(aM, .inr (6, [.ref mN, .ref mkd, .ref mks, .ref mcd, .ref mpr, .ref msk, .ref mow, .ref mmi, .ref mst, .ref mbi, .ref msu, .ref mke, .ref mik, .int vka, .int viw])), (mN, .inl (cI, 9, .inl fN)), (mkd, .inl (cI, 8, .inl fkd)), (mcd, .inl (cI, 12, .inl fcd)), (mpr, .inl (cI, 16, .inl zpr)), (msk, .inl (cI, 16, .inl fsk)), (mow, .inl (cI, 16, .inl zow)), (mmi, .inl (cI, 16, .inl zmi))] → va_S A s.heap H locs → some (zpr, zow, zmi) = some (opr, oow, omi) → W p l e rX6_bid s m args below meth c H locs 0 0 Q (F0 m pc ls []) := by
    intro zpr zow zmi pc ls H locs hd hP hD hS h
    cases h
    exact hret0 pc ls H locs () hd hP hD hS
  clear hret0
  have hb76 : ∀ (x1 : Int32) (x3 : Int32) (fpr : Nat → Int32) (fow : Nat → Int32) (fmi : Nat → Int32) (H : Heap) (locs : List Loc) (ls : Array Slot), va_P D vwCl [(aM, .inr (6, [.ref mN, .ref mkd, .ref mks, .ref mcd, .ref mpr, .ref msk, .ref mow, .ref mmi, .ref mst, .ref mbi, .ref msu, .ref mke, .ref mik, .int vka, .int viw])), (mN, .inl (cI, 9, .inl fN)), (mkd, .inl (cI, 8, .inl fkd)), (mcd, .inl (cI, 12, .inl fcd)), (mpr, .inl (cI, 16, .inl fpr)), (msk, .inl (cI, 16, .inl fsk)), (mow, .inl (cI, 16, .inl fow)), (mmi, .inl (cI, 16, .inl fmi))] H → va_D A [(aM, .inr (6, [.ref mN, .ref mkd, .ref mks, .ref mcd, .ref mpr, .ref msk, .ref mow, .ref mmi, .ref mst, .ref mbi, .ref msu, .ref mke, .ref mik, .int vka, .int viw])), (mN, .inl (cI, 9, .inl fN)), (mkd, .inl (cI, 8, .inl fkd)), (mcd, .inl (cI, 12, .inl fcd)), (mpr, .inl (cI, 16, .inl fpr)), (msk, .inl (cI, 16, .inl fsk)), (mow, .inl (cI, 16, .inl fow)), (mmi, .inl (cI, 16, .inl fmi))] → va_S A s.heap H locs → lv_has ls 6 [(0, .ref aM), (1, .int x1), (3, .int x3)] → fX6_bid_b76 fN fkd fcd fsk x1 x3 fpr fow fmi = some (opr, oow, omi) → W p l e rX6_bid s m args below meth c H locs 0 0 Q (F0 m 76 ls []) := by
    intro x1 x3 fpr fow fmi H locs ls hP hD hS hl h
    unfold fX6_bid_b76 at h
    refine lv_aload_n hx hb dX6_bid_76 rfl (lv_at hl 0 rfl) ?_
    refine va_get (D := D) (ci := 6) (v := .ref mow) (C := RX6) (T := TX6) (N := 15) hx hb hts i6 hown hK hP 0 rfl rfl 6 (by decide) (hts (.fieldLink RX6 28 RX6 "owner" "[I") (List.mem_of_getElem? (i := 2) rfl)) (fun _ h9 => h9) rfl dX6_bid_77 ?_
    refine lv_iload_n hx hb dX6_bid_80 rfl (lv_at hl 2 rfl) ?_
    refine lv_iload_n hx hb dX6_bid_81 rfl (lv_at hl 1 rfl) ?_
    obtain ⟨g1, h⟩ := no_some h
    refine va_iast hx hb hK hP hD hS 6 0 rfl rfl g1 dX6_bid_82 (fun H locs hP hD hS => ?_)
    have hP : va_P D vwCl [(aM, .inr (6, [.ref mN, .ref mkd, .ref mks, .ref mcd, .ref mpr, .ref msk, .ref mow, .ref mmi, .ref mst, .ref mbi, .ref msu, .ref mke, .ref mik, .int vka, .int viw])), (mN, .inl (cI, 9, .inl fN)), (mkd, .inl (cI, 8, .inl fkd)), (mcd, .inl (cI, 12, .inl fcd)), (mpr, .inl (cI, 16, .inl fpr)), (msk, .inl (cI, 16, .inl fsk)), (mow, .inl (cI, 16, .inl (upd fow x3.toNatClampNeg x1))), (mmi, .inl (cI, 16, .inl fmi))] H := hP
    have hD : va_D A [(aM, .inr (6, [.ref mN, .ref mkd, .ref mks, .ref mcd, .ref mpr, .ref msk, .ref mow, .ref mmi, .ref mst, .ref mbi, .ref msu, .ref mke, .ref mik, .int vka, .int viw])), (mN, .inl (cI, 9, .inl fN)), (mkd, .inl (cI, 8, .inl fkd)), (mcd, .inl (cI, 12, .inl fcd)), (mpr, .inl (cI, 16, .inl fpr)), (msk, .inl (cI, 16, .inl fsk)), (mow, .inl (cI, 16, .inl (upd fow x3.toNatClampNeg x1))), (mmi, .inl (cI, 16, .inl fmi))] := hD
    refine lv_aload_n hx hb dX6_bid_83 rfl (lv_at hl 0 rfl) ?_
    refine va_get (D := D) (ci := 6) (v := .ref mmi) (C := RX6) (T := TX6) (N := 15) hx hb hts i6 hown hK hP 0 rfl rfl 7 (by decide) (hts (.fieldLink RX6 31 RX6 "mine" "[I") (List.mem_of_getElem? (i := 3) rfl)) (fun _ h9 => h9) rfl dX6_bid_84 ?_
    refine lv_iload_n hx hb dX6_bid_87 rfl (lv_at hl 1 rfl) ?_
    refine lv_iload_n hx hb dX6_bid_88 rfl (lv_at hl 2 rfl) ?_
    obtain ⟨g2, h⟩ := no_some h
    refine va_iast hx hb hK hP hD hS 7 0 rfl rfl g2 dX6_bid_89 (fun H locs hP hD hS => ?_)
    have hP : va_P D vwCl [(aM, .inr (6, [.ref mN, .ref mkd, .ref mks, .ref mcd, .ref mpr, .ref msk, .ref mow, .ref mmi, .ref mst, .ref mbi, .ref msu, .ref mke, .ref mik, .int vka, .int viw])), (mN, .inl (cI, 9, .inl fN)), (mkd, .inl (cI, 8, .inl fkd)), (mcd, .inl (cI, 12, .inl fcd)), (mpr, .inl (cI, 16, .inl fpr)), (msk, .inl (cI, 16, .inl fsk)), (mow, .inl (cI, 16, .inl (upd fow x3.toNatClampNeg x1))), (mmi, .inl (cI, 16, .inl (upd fmi x1.toNatClampNeg x3)))] H := hP
    have hD : va_D A [(aM, .inr (6, [.ref mN, .ref mkd, .ref mks, .ref mcd, .ref mpr, .ref msk, .ref mow, .ref mmi, .ref mst, .ref mbi, .ref msu, .ref mke, .ref mik, .int vka, .int viw])), (mN, .inl (cI, 9, .inl fN)), (mkd, .inl (cI, 8, .inl fkd)), (mcd, .inl (cI, 12, .inl fcd)), (mpr, .inl (cI, 16, .inl fpr)), (msk, .inl (cI, 16, .inl fsk)), (mow, .inl (cI, 16, .inl (upd fow x3.toNatClampNeg x1))), (mmi, .inl (cI, 16, .inl (upd fmi x1.toNatClampNeg x3)))] := hD
    exact hret fpr (upd fow x3.toNatClampNeg x1) (upd fmi x1.toNatClampNeg x3) 90 ls H locs dX6_bid_90 hP hD hS h
  have hb39 : ∀ (x1 : Int32) (x2 : Int32) (x3 : Int32) (y0 : Int32) (fpr : Nat → Int32) (fow : Nat → Int32) (fmi : Nat → Int32) (H : Heap) (locs : List Loc) (ls : Array Slot), va_P D vwCl [(aM, .inr (6, [.ref mN, .ref mkd, .ref mks, .ref mcd, .ref mpr, .ref msk, .ref mow, .ref mmi, .ref mst, .ref mbi, .ref msu, .ref mke, .ref mik, .int vka, .int viw])), (mN, .inl (cI, 9, .inl fN)), (mkd, .inl (cI, 8, .inl fkd)), (mcd, .inl (cI, 12, .inl fcd)), (mpr, .inl (cI, 16, .inl fpr)), (msk, .inl (cI, 16, .inl fsk)), (mow, .inl (cI, 16, .inl fow)), (mmi, .inl (cI, 16, .inl fmi))] H → va_D A [(aM, .inr (6, [.ref mN, .ref mkd, .ref mks, .ref mcd, .ref mpr, .ref msk, .ref mow, .ref mmi, .ref mst, .ref mbi, .ref msu, .ref mke, .ref mik, .int vka, .int viw])), (mN, .inl (cI, 9, .inl fN)), (mkd, .inl (cI, 8, .inl fkd)), (mcd, .inl (cI, 12, .inl fcd)), (mpr, .inl (cI, 16, .inl fpr)), (msk, .inl (cI, 16, .inl fsk)), (mow, .inl (cI, 16, .inl fow)), (mmi, .inl (cI, 16, .inl fmi))] → va_S A s.heap H locs → lv_has ls 6 [(0, .ref aM), (1, .int x1), (2, .int x2), (3, .int x3)] → fX6_bid_b39 fN fkd fcd fsk x1 x2 x3 y0 fpr fow fmi = some (opr, oow, omi) → W p l e rX6_bid s m args below meth c H locs 0 0 Q (F0 m 39 ls [.int y0]) := by
    intro x1 x2 x3 y0 fpr fow fmi H locs ls hP hD hS hl h
    unfold fX6_bid_b39 at h
    refine lv_istore (lv' := [(5, .int y0), (0, .ref aM), (1, .int x1), (2, .int x2), (3, .int x3)]) hx hb dX6_bid_39 hl (by decide) rfl (fun ls hl => ?_)
    refine lv_aload_n hx hb dX6_bid_41 rfl (lv_at hl 1 rfl) ?_
    refine va_get (D := D) (ci := 6) (v := .ref mpr) (C := RX6) (T := TX6) (N := 15) hx hb hts i6 hown hK hP 0 rfl rfl 4 (by decide) (hts (.fieldLink RX6 22 RX6 "price" "[I") (List.mem_of_getElem? (i := 1) rfl)) (fun _ h9 => h9) rfl dX6_bid_42 ?_
    refine lv_iload_n hx hb dX6_bid_45 rfl (lv_at hl 4 rfl) ?_
    refine lv_dup2_11 hx hb dX6_bid_46 rfl rfl ?_
    obtain ⟨g3, h⟩ := no_some h
    refine va_iald hx hb hK hP 4 0 rfl rfl g3 dX6_bid_47 ?_
    refine lv_iload hx hb dX6_bid_48 (lv_at hl 0 rfl) ?_
    refine lv_iload_n hx hb dX6_bid_50 rfl (lv_at hl 3 rfl) ?_
    refine lv_iadd hx hb dX6_bid_51 ?_
    refine lv_iadd hx hb dX6_bid_52 ?_
    obtain ⟨g4, h⟩ := no_some h
    refine va_iast hx hb hK hP hD hS 4 0 rfl rfl g4 dX6_bid_53 (fun H locs hP hD hS => ?_)
    have hP : va_P D vwCl [(aM, .inr (6, [.ref mN, .ref mkd, .ref mks, .ref mcd, .ref mpr, .ref msk, .ref mow, .ref mmi, .ref mst, .ref mbi, .ref msu, .ref mke, .ref mik, .int vka, .int viw])), (mN, .inl (cI, 9, .inl fN)), (mkd, .inl (cI, 8, .inl fkd)), (mcd, .inl (cI, 12, .inl fcd)), (mpr, .inl (cI, 16, .inl (upd fpr x3.toNatClampNeg ((fpr x3.toNatClampNeg) + (y0 + x2))))), (msk, .inl (cI, 16, .inl fsk)), (mow, .inl (cI, 16, .inl fow)), (mmi, .inl (cI, 16, .inl fmi))] H := hP
    have hD : va_D A [(aM, .inr (6, [.ref mN, .ref mkd, .ref mks, .ref mcd, .ref mpr, .ref msk, .ref mow, .ref mmi, .ref mst, .ref mbi, .ref msu, .ref mke, .ref mik, .int vka, .int viw])), (mN, .inl (cI, 9, .inl fN)), (mkd, .inl (cI, 8, .inl fkd)), (mcd, .inl (cI, 12, .inl fcd)), (mpr, .inl (cI, 16, .inl (upd fpr x3.toNatClampNeg ((fpr x3.toNatClampNeg) + (y0 + x2))))), (msk, .inl (cI, 16, .inl fsk)), (mow, .inl (cI, 16, .inl fow)), (mmi, .inl (cI, 16, .inl fmi))] := hD
    refine lv_aload_n hx hb dX6_bid_54 rfl (lv_at hl 1 rfl) ?_
    refine va_get (D := D) (ci := 6) (v := .ref mow) (C := RX6) (T := TX6) (N := 15) hx hb hts i6 hown hK hP 0 rfl rfl 6 (by decide) (hts (.fieldLink RX6 28 RX6 "owner" "[I") (List.mem_of_getElem? (i := 2) rfl)) (fun _ h9 => h9) rfl dX6_bid_55 ?_
    refine lv_iload_n hx hb dX6_bid_58 rfl (lv_at hl 4 rfl) ?_
    obtain ⟨g5, h⟩ := no_some h
    refine va_iald hx hb hK hP 6 0 rfl rfl g5 dX6_bid_59 ?_
    refine lv_if_lt (tgt := 76) hx hb dX6_bid_60 (by decide) (fun c6 => ?_) (fun c6 => ?_)
    · have h := (if_pos c6).symm.trans h
      exact hb76 x1 x3 (upd fpr x3.toNatClampNeg ((fpr x3.toNatClampNeg) + (y0 + x2))) fow fmi H locs ls hP hD hS (lv_sub hl [1, 2, 4] rfl) h
    · have h := (if_neg c6).symm.trans h
      refine lv_aload_n hx hb dX6_bid_63 rfl (lv_at hl 1 rfl) ?_
      refine va_get (D := D) (ci := 6) (v := .ref mmi) (C := RX6) (T := TX6) (N := 15) hx hb hts i6 hown hK hP 0 rfl rfl 7 (by decide) (hts (.fieldLink RX6 31 RX6 "mine" "[I") (List.mem_of_getElem? (i := 3) rfl)) (fun _ h9 => h9) rfl dX6_bid_64 ?_
      refine lv_aload_n hx hb dX6_bid_67 rfl (lv_at hl 1 rfl) ?_
      refine va_get (D := D) (ci := 6) (v := .ref mow) (C := RX6) (T := TX6) (N := 15) hx hb hts i6 hown hK hP 0 rfl rfl 6 (by decide) (hts (.fieldLink RX6 28 RX6 "owner" "[I") (List.mem_of_getElem? (i := 2) rfl)) (fun _ h9 => h9) rfl dX6_bid_68 ?_
      refine lv_iload_n hx hb dX6_bid_71 rfl (lv_at hl 4 rfl) ?_
      obtain ⟨g7, h⟩ := no_some h
      refine va_iald hx hb hK hP 6 0 rfl rfl g7 dX6_bid_72 ?_
      refine lv_bipush (v := (-6 : Int32)) hx hb dX6_bid_73 (by decide) ?_
      obtain ⟨g8, h⟩ := no_some h
      refine va_iast hx hb hK hP hD hS 7 0 rfl rfl g8 dX6_bid_75 (fun H locs hP hD hS => ?_)
      have hP : va_P D vwCl [(aM, .inr (6, [.ref mN, .ref mkd, .ref mks, .ref mcd, .ref mpr, .ref msk, .ref mow, .ref mmi, .ref mst, .ref mbi, .ref msu, .ref mke, .ref mik, .int vka, .int viw])), (mN, .inl (cI, 9, .inl fN)), (mkd, .inl (cI, 8, .inl fkd)), (mcd, .inl (cI, 12, .inl fcd)), (mpr, .inl (cI, 16, .inl (upd fpr x3.toNatClampNeg ((fpr x3.toNatClampNeg) + (y0 + x2))))), (msk, .inl (cI, 16, .inl fsk)), (mow, .inl (cI, 16, .inl fow)), (mmi, .inl (cI, 16, .inl (upd fmi ((fow x3.toNatClampNeg).toNatClampNeg) (-6 : Int32))))] H := hP
      have hD : va_D A [(aM, .inr (6, [.ref mN, .ref mkd, .ref mks, .ref mcd, .ref mpr, .ref msk, .ref mow, .ref mmi, .ref mst, .ref mbi, .ref msu, .ref mke, .ref mik, .int vka, .int viw])), (mN, .inl (cI, 9, .inl fN)), (mkd, .inl (cI, 8, .inl fkd)), (mcd, .inl (cI, 12, .inl fcd)), (mpr, .inl (cI, 16, .inl (upd fpr x3.toNatClampNeg ((fpr x3.toNatClampNeg) + (y0 + x2))))), (msk, .inl (cI, 16, .inl fsk)), (mow, .inl (cI, 16, .inl fow)), (mmi, .inl (cI, 16, .inl (upd fmi ((fow x3.toNatClampNeg).toNatClampNeg) (-6 : Int32))))] := hD
      exact hb76 x1 x3 (upd fpr x3.toNatClampNeg ((fpr x3.toNatClampNeg) + (y0 + x2))) fow (upd fmi ((fow x3.toNatClampNeg).toNatClampNeg) (-6 : Int32)) H locs ls hP hD hS (lv_sub hl [1, 2, 4] rfl) h
  unfold fX6_bid at h
  obtain ⟨H, hH⟩ : ∃ H, H = s.heap := ⟨_, rfl⟩
  have hP : va_P D vwCl [(aM, .inr (6, [.ref mN, .ref mkd, .ref mks, .ref mcd, .ref mpr, .ref msk, .ref mow, .ref mmi, .ref mst, .ref mbi, .ref msu, .ref mke, .ref mik, .int vka, .int viw])), (mN, .inl (cI, 9, .inl fN)), (mkd, .inl (cI, 8, .inl fkd)), (mcd, .inl (cI, 12, .inl fcd)), (mpr, .inl (cI, 16, .inl fpr)), (msk, .inl (cI, 16, .inl fsk)), (mow, .inl (cI, 16, .inl fow)), (mmi, .inl (cI, 16, .inl fmi))] H := by rw [hH]; exact hP
  obtain ⟨locs, hlocs⟩ : ∃ x : List Loc, x = [] := ⟨_, rfl⟩
  have hS : va_S A s.heap H locs := by rw [hH, hlocs]; exact hS
  suffices hgo : W p l e rX6_bid s m args below meth c H locs 0 0 Q (F0 m 0 ls []) by rw [hH, hlocs] at hgo; exact hgo
  refine lv_aload_n hx hb dX6_bid_0 rfl (lv_at hl 0 rfl) ?_
  refine lv_iload_n hx hb dX6_bid_1 rfl (lv_at hl 1 rfl) ?_
  refine lv_bipush (v := (-6 : Int32)) hx hb dX6_bid_2 (by decide) ?_
  obtain ⟨r_4, q_4, h⟩ := bd1_some h
  refine fr_ro_i (S := Unit) (wc := [(aM, .inr (6, [.ref mN, .ref mkd, .ref mks, .ref mcd, .ref mpr, .ref msk, .ref mow, .ref mmi, .ref mst, .ref mbi, .ref msu, .ref mke, .ref mik, .int vka, .int viw])), (mN, .inl (cI, 9, .inl fN)), (mkd, .inl (cI, 8, .inl fkd)), (mcd, .inl (cI, 12, .inl fcd)), (mpr, .inl (cI, 16, .inl fpr)), (msk, .inl (cI, 16, .inl fsk))]) (fr_V (As := [.int x1, .int (-6 : Int32)]) (rest := []) (C := RX6) ⟨hx, hb, hml, hown, hts⟩ (tX6_bestFor aM mN mkd mcd mpr msk mks mow mmi mst mbi msu mke mik vka viw fN fkd fcd fpr fsk x1 (-6 : Int32) r_4 q_4) gX6_bid_X6_bestFor rfl (fr_preV (As := [.int x1, .int (-6 : Int32)]) (b := aM) (ci := 6) (q0 := 0) (wc := [(aM, .inr (6, [.ref mN, .ref mkd, .ref mks, .ref mcd, .ref mpr, .ref msk, .ref mow, .ref mmi, .ref mst, .ref mbi, .ref msu, .ref mke, .ref mik, .int vka, .int viw])), (mN, .inl (cI, 9, .inl fN)), (mkd, .inl (cI, 8, .inl fkd)), (mcd, .inl (cI, 12, .inl fcd)), (mpr, .inl (cI, 16, .inl fpr)), (msk, .inl (cI, 16, .inl fsk))]) hK hN hP hD [0, 1, 2, 3, 4, 5] (by decide) rfl rfl rfl) (n := 2) (by decide +kernel) ⟨Nat.le_of_ble_eq_true rfl, Nat.le_of_ble_eq_true rfl⟩ rfl hl.1 rfl (Nat.le_of_ble_eq_true rfl) dX6_bid_4 ⟨Nat.zero_le _, Nat.zero_le _⟩) hP hD hS hA [0, 1, 2, 3, 4, 5] rfl (c2 := 0) (s2 := 0) rfl rfl (fun H locs hP hS => ?_)
  refine lv_istore_n (lv' := [(3, .int r_4), (0, .ref aM), (1, .int x1), (2, .int x2)]) hx hb dX6_bid_7 rfl hl (by decide) rfl (fun ls hl => ?_)
  refine lv_aload_n hx hb dX6_bid_8 rfl (lv_at hl 1 rfl) ?_
  refine lv_iload_n hx hb dX6_bid_9 rfl (lv_at hl 2 rfl) ?_
  refine lv_iload_n hx hb dX6_bid_10 rfl (lv_at hl 0 rfl) ?_
  obtain ⟨r_11, q_11, h⟩ := bd1_some h
  refine fr_ro_i (S := Unit) (wc := [(aM, .inr (6, [.ref mN, .ref mkd, .ref mks, .ref mcd, .ref mpr, .ref msk, .ref mow, .ref mmi, .ref mst, .ref mbi, .ref msu, .ref mke, .ref mik, .int vka, .int viw])), (mN, .inl (cI, 9, .inl fN)), (mkd, .inl (cI, 8, .inl fkd)), (mcd, .inl (cI, 12, .inl fcd)), (mpr, .inl (cI, 16, .inl fpr)), (msk, .inl (cI, 16, .inl fsk))]) (fr_V (As := [.int x1, .int r_4]) (rest := []) (C := RX6) ⟨hx, hb, hml, hown, hts⟩ (tX6_bestFor aM mN mkd mcd mpr msk mks mow mmi mst mbi msu mke mik vka viw fN fkd fcd fpr fsk x1 r_4 r_11 q_11) gX6_bid_X6_bestFor rfl (fr_preV (As := [.int x1, .int r_4]) (b := aM) (ci := 6) (q0 := 0) (wc := [(aM, .inr (6, [.ref mN, .ref mkd, .ref mks, .ref mcd, .ref mpr, .ref msk, .ref mow, .ref mmi, .ref mst, .ref mbi, .ref msu, .ref mke, .ref mik, .int vka, .int viw])), (mN, .inl (cI, 9, .inl fN)), (mkd, .inl (cI, 8, .inl fkd)), (mcd, .inl (cI, 12, .inl fcd)), (mpr, .inl (cI, 16, .inl fpr)), (msk, .inl (cI, 16, .inl fsk))]) hK hN hP hD [0, 1, 2, 3, 4, 5] (by decide) rfl rfl rfl) (n := 2) (by decide +kernel) ⟨Nat.le_of_ble_eq_true rfl, Nat.le_of_ble_eq_true rfl⟩ rfl hl.1 rfl (Nat.le_of_ble_eq_true rfl) dX6_bid_11 ⟨Nat.zero_le _, Nat.zero_le _⟩) hP hD hS hA [0, 1, 2, 3, 4, 5] rfl (c2 := 0) (s2 := 0) rfl rfl (fun H locs hP hS => ?_)
  refine lv_istore (lv' := [(4, .int r_11), (3, .int r_4), (0, .ref aM), (1, .int x1), (2, .int x2)]) hx hb dX6_bid_14 hl (by decide) rfl (fun ls hl => ?_)
  refine lv_iload hx hb dX6_bid_16 (lv_at hl 0 rfl) ?_
  refine lv_if_ge (tgt := 25) hx hb dX6_bid_18 (by decide) (fun c9 => ?_) (fun c9 => ?_)
  · have h := (if_pos c9).symm.trans h
    refine lv_aload_n hx hb dX6_bid_25 rfl (lv_at hl 2 rfl) ?_
    refine lv_iload_n hx hb dX6_bid_26 rfl (lv_at hl 3 rfl) ?_
    refine lv_iload_n hx hb dX6_bid_27 rfl (lv_at hl 1 rfl) ?_
    obtain ⟨r_28, q_28, h⟩ := bd1_some h
    refine fr_ro_i (S := Unit) (wc := [(aM, .inr (6, [.ref mN, .ref mkd, .ref mks, .ref mcd, .ref mpr, .ref msk, .ref mow, .ref mmi, .ref mst, .ref mbi, .ref msu, .ref mke, .ref mik, .int vka, .int viw])), (mN, .inl (cI, 9, .inl fN)), (mkd, .inl (cI, 8, .inl fkd)), (mcd, .inl (cI, 12, .inl fcd)), (mpr, .inl (cI, 16, .inl fpr)), (msk, .inl (cI, 16, .inl fsk))]) (fr_V (As := [.int x1, .int r_4]) (rest := []) (C := RX6) ⟨hx, hb, hml, hown, hts⟩ (tX6_gainOf aM mN mkd mcd mpr msk mks mow mmi mst mbi msu mke mik vka viw fN fkd fcd fpr fsk x1 r_4 r_28 q_28) gX6_bid_X6_gainOf rfl (fr_preV (As := [.int x1, .int r_4]) (b := aM) (ci := 6) (q0 := 0) (wc := [(aM, .inr (6, [.ref mN, .ref mkd, .ref mks, .ref mcd, .ref mpr, .ref msk, .ref mow, .ref mmi, .ref mst, .ref mbi, .ref msu, .ref mke, .ref mik, .int vka, .int viw])), (mN, .inl (cI, 9, .inl fN)), (mkd, .inl (cI, 8, .inl fkd)), (mcd, .inl (cI, 12, .inl fcd)), (mpr, .inl (cI, 16, .inl fpr)), (msk, .inl (cI, 16, .inl fsk))]) hK hN hP hD [0, 1, 2, 3, 4, 5] (by decide) rfl rfl rfl) (n := 2) (by decide +kernel) ⟨Nat.le_of_ble_eq_true rfl, Nat.le_of_ble_eq_true rfl⟩ rfl hl.1 rfl (Nat.le_of_ble_eq_true rfl) dX6_bid_28 ⟨Nat.zero_le _, Nat.zero_le _⟩) hP hD hS hA [0, 1, 2, 3, 4, 5] rfl (c2 := 0) (s2 := 0) rfl rfl (fun H locs hP hS => ?_)
    refine lv_aload_n hx hb dX6_bid_31 rfl (lv_at hl 2 rfl) ?_
    refine lv_iload_n hx hb dX6_bid_32 rfl (lv_at hl 3 rfl) ?_
    refine lv_iload hx hb dX6_bid_33 (lv_at hl 0 rfl) ?_
    obtain ⟨r_35, q_35, h⟩ := bd1_some h
    refine fr_ro_i (S := Unit) (wc := [(aM, .inr (6, [.ref mN, .ref mkd, .ref mks, .ref mcd, .ref mpr, .ref msk, .ref mow, .ref mmi, .ref mst, .ref mbi, .ref msu, .ref mke, .ref mik, .int vka, .int viw])), (mN, .inl (cI, 9, .inl fN)), (mkd, .inl (cI, 8, .inl fkd)), (mcd, .inl (cI, 12, .inl fcd)), (mpr, .inl (cI, 16, .inl fpr)), (msk, .inl (cI, 16, .inl fsk))]) (fr_V (As := [.int x1, .int r_11]) (rest := [.int r_28]) (C := RX6) ⟨hx, hb, hml, hown, hts⟩ (tX6_gainOf aM mN mkd mcd mpr msk mks mow mmi mst mbi msu mke mik vka viw fN fkd fcd fpr fsk x1 r_11 r_35 q_35) gX6_bid_X6_gainOf rfl (fr_preV (As := [.int x1, .int r_11]) (b := aM) (ci := 6) (q0 := 0) (wc := [(aM, .inr (6, [.ref mN, .ref mkd, .ref mks, .ref mcd, .ref mpr, .ref msk, .ref mow, .ref mmi, .ref mst, .ref mbi, .ref msu, .ref mke, .ref mik, .int vka, .int viw])), (mN, .inl (cI, 9, .inl fN)), (mkd, .inl (cI, 8, .inl fkd)), (mcd, .inl (cI, 12, .inl fcd)), (mpr, .inl (cI, 16, .inl fpr)), (msk, .inl (cI, 16, .inl fsk))]) hK hN hP hD [0, 1, 2, 3, 4, 5] (by decide) rfl rfl rfl) (n := 2) (by decide +kernel) ⟨Nat.le_of_ble_eq_true rfl, Nat.le_of_ble_eq_true rfl⟩ rfl hl.1 rfl (Nat.le_of_ble_eq_true rfl) dX6_bid_35 ⟨Nat.zero_le _, Nat.zero_le _⟩) hP hD hS hA [0, 1, 2, 3, 4, 5] rfl (c2 := 0) (s2 := 0) rfl rfl (fun H locs hP hS => ?_)
    refine lv_isub hx hb dX6_bid_38 ?_
    exact hb39 x1 x2 r_4 (r_28 - r_35) fpr fow fmi H locs ls hP hD hS (lv_sub hl [2, 3, 4, 1] rfl) h
  · have h := (if_neg c9).symm.trans h
    refine lv_iconst (v := (0 : Int32)) hx hb dX6_bid_21 (by decide) ?_
    refine lv_goto (tgt := 39) hx hb dX6_bid_22 (by decide) ?_
    exact hb39 x1 x2 r_4 (0 : Int32) fpr fow fmi H locs ls hP hD hS (lv_sub hl [2, 3, 4, 1] rfl) h
