def fX6_place (fN : Nat → Int32) (fsk : Nat → Int32) (fmi : Nat → Int32) (x1 : Int32) : Option (Int32) :=
  bd1 (fX6_isDone fN) fun r_1 =>
  if r_1 = 0 then
    some (-3 : Int32)
  else
    bd1 (fX6_isCell fN x1) fun r_12 =>
    if r_12 = 0 then
      some (-1 : Int32)
    else
      if x1 < 0 ∨ 16 ≤ x1.toNatClampNeg then none else
      if fmi x1.toNatClampNeg < 0 ∨ 16 ≤ (fmi x1.toNatClampNeg).toNatClampNeg then none else
      some (fsk ((fmi x1.toNatClampNeg).toNatClampNeg))
abbrev rX6_place : Room := { frames := 2, cells := 0, slots := 0, locals := 46 }
set_option maxHeartbeats 4000000 in
set_option maxRecDepth 100000 in
theorem tX6_place {l : Launch} {D : va_G} {cI cZ cP : ClassId} (aM mN mkd mks mcd mpr msk mow mmi mst mbi msu mke mik : Nat) (vka : Int32) (viw : Int32) (fN : Nat → Int32) (fkd : Nat → Int32) (fks : Nat → Int32) (fcd : Nat → Int32) (fpr : Nat → Int32) (fsk : Nat → Int32) (fow : Nat → Int32) (fmi : Nat → Int32) (fst : Nat → Int32) (fbi : Nat → Int32) (fsu : Nat → Int32) (fke : Nat → Int32) (fik : Nat → Int32) (x1 : Int32) (r : Int32) (h : fX6_place fN fsk fmi x1 = some r) : CtI l D cI cZ cP yX6_place wsX6_place rX6_place [.ref aM, .int x1] [(aM, .inr (6, [.ref mN, .ref mkd, .ref mks, .ref mcd, .ref mpr, .ref msk, .ref mow, .ref mmi, .ref mst, .ref mbi, .ref msu, .ref mke, .ref mik, .int vka, .int viw])), (mN, .inl (cI, 9, .inl fN)), (mkd, .inl (cI, 8, .inl fkd)), (mks, .inl (cI, 8, .inl fks)), (mcd, .inl (cI, 12, .inl fcd)), (mpr, .inl (cI, 16, .inl fpr)), (msk, .inl (cI, 16, .inl fsk)), (mow, .inl (cI, 16, .inl fow)), (mmi, .inl (cI, 16, .inl fmi)), (mst, .inl (cI, 16, .inl fst)), (mbi, .inl (cI, 16, .inl fbi)), (msu, .inl (cI, 16, .inl fsu)), (mke, .inl (cI, 298, .inl fke)), (mik, .inl (cZ, 2, .inl fik))] (fun _ : Unit => [(aM, .inr (6, [.ref mN, .ref mkd, .ref mks, .ref mcd, .ref mpr, .ref msk, .ref mow, .ref mmi, .ref mst, .ref mbi, .ref msu, .ref mke, .ref mik, .int vka, .int viw])), (mN, .inl (cI, 9, .inl fN)), (mkd, .inl (cI, 8, .inl fkd)), (mks, .inl (cI, 8, .inl fks)), (mcd, .inl (cI, 12, .inl fcd)), (mpr, .inl (cI, 16, .inl fpr)), (msk, .inl (cI, 16, .inl fsk)), (mow, .inl (cI, 16, .inl fow)), (mmi, .inl (cI, 16, .inl fmi)), (mst, .inl (cI, 16, .inl fst)), (mbi, .inl (cI, 16, .inl fbi)), (msu, .inl (cI, 16, .inl fsu)), (mke, .inl (cI, 298, .inl fke)), (mik, .inl (cZ, 2, .inl fik))]) r := by
  refine CtI.ofW (cc := cX6_place) (maxL := 2) (by decide) rfl (Nat.le_of_ble_eq_true rfl) (lv := [(0, .ref aM), (1, .int x1)]) rfl ?_
  intro p e s m args below meth c A Q ls hx hb hml hown hts hK hN hP hD hS hA hl hret0
  have hown : s.vm.findClass RX6 = some m.cls := hown
  have i6 : ∀ w ∈ wsX60, w ∈ wsX6_place := mem_ps [20, 21, 22, 23, 24, 25, 26, 27, 28, 29, 30, 31, 32, 33, 34] rfl
  have hret : ∀ (v : Int32) (pc : Nat) (ls : Array Slot) (H : Heap) (locs : List Loc), narrow .int (.int v) = .int v → decode cX6_place pc = .ok (.ireturn, 1) → va_P D vwCl [(aM, .inr (6, [.ref mN, .ref mkd, .ref mks, .ref mcd, .ref mpr, .ref msk, .ref mow, .ref mmi, .ref mst, .ref mbi, .ref msu, .ref mke, .ref mik, .int vka, .int viw])), (mN, .inl (cI, 9, .inl fN)), (mkd, .inl (cI, 8, .inl fkd)), (mks, .inl (cI, 8, .inl fks)), (mcd, .inl (cI, 12, .inl fcd)), (mpr, .inl (cI, 16, .inl fpr)), (msk, .inl (cI, 16, .inl fsk)), (mow, .inl (cI, 16, .inl fow)), (mmi, .inl (cI, 16, .inl fmi)), (mst, .inl (cI, 16, .inl fst)), (mbi, .inl (cI, 16, .inl fbi)), (msu, .inl (cI, 16, .inl fsu)), (mke, .inl (cI, 298, .inl fke)), (mik, .inl (cZ, 2, .inl fik))] H → va_D A [(aM, .inr (6, [.ref mN, .ref mkd, .ref mks, .ref mcd, .ref mpr, .ref msk, .ref mow, .ref mmi, .ref mst, .ref mbi, .ref msu, .ref mke, .ref mik, .int vka, .int viw])), (mN, .inl (cI, 9, .inl fN)), (mkd, .inl (cI, 8, .inl fkd)), (mks, .inl (cI, 8, .inl fks)), (mcd, .inl (cI, 12, .inl fcd)), (mpr, .inl (cI, 16, .inl fpr)), (msk, .inl (cI, 16, .inl fsk)), (mow, .inl (cI, 16, .inl fow)), (mmi, .inl (cI, 16, .inl fmi)), (mst, .inl (cI, 16, .inl fst)), (mbi, .inl (cI, 16, .inl fbi)), (msu, .inl (cI, 16, .inl fsu)), (mke, .inl (cI, 298, .inl fke)), (mik, .inl (cZ, 2, .inl fik))] → va_S A s.heap H locs → some v = some r → W p l e rX6_place s m args below meth c H locs 0 0 Q (F0 m pc ls [.int v]) := by
    intro v pc ls H locs hn hd hP hD hS h
    cases h
    exact hret0 pc ls H locs () hn hd hP hD hS
  clear hret0
  unfold fX6_place at h
  obtain ⟨H, hH⟩ : ∃ H, H = s.heap := ⟨_, rfl⟩
  have hP : va_P D vwCl [(aM, .inr (6, [.ref mN, .ref mkd, .ref mks, .ref mcd, .ref mpr, .ref msk, .ref mow, .ref mmi, .ref mst, .ref mbi, .ref msu, .ref mke, .ref mik, .int vka, .int viw])), (mN, .inl (cI, 9, .inl fN)), (mkd, .inl (cI, 8, .inl fkd)), (mks, .inl (cI, 8, .inl fks)), (mcd, .inl (cI, 12, .inl fcd)), (mpr, .inl (cI, 16, .inl fpr)), (msk, .inl (cI, 16, .inl fsk)), (mow, .inl (cI, 16, .inl fow)), (mmi, .inl (cI, 16, .inl fmi)), (mst, .inl (cI, 16, .inl fst)), (mbi, .inl (cI, 16, .inl fbi)), (msu, .inl (cI, 16, .inl fsu)), (mke, .inl (cI, 298, .inl fke)), (mik, .inl (cZ, 2, .inl fik))] H := by rw [hH]; exact hP
  obtain ⟨locs, hlocs⟩ : ∃ x : List Loc, x = [] := ⟨_, rfl⟩
  have hS : va_S A s.heap H locs := by rw [hH, hlocs]; exact hS
  suffices hgo : W p l e rX6_place s m args below meth c H locs 0 0 Q (F0 m 0 ls []) by rw [hH, hlocs] at hgo; exact hgo
  refine lv_aload_n hx hb dX6_place_0 rfl (lv_at hl 0 rfl) ?_
  obtain ⟨r_1, q_1, h⟩ := bd1_some h
  refine fr_ro_i (S := Unit) (wc := [(aM, .inr (6, [.ref mN, .ref mkd, .ref mks, .ref mcd, .ref mpr, .ref msk, .ref mow, .ref mmi, .ref mst, .ref mbi, .ref msu, .ref mke, .ref mik, .int vka, .int viw])), (mN, .inl (cI, 9, .inl fN))]) (fr_V (As := []) (rest := []) (C := RX6) ⟨hx, hb, hml, hown, hts⟩ (tX6_isDone aM mN mkd mks mcd mpr msk mow mmi mst mbi msu mke mik vka viw fN r_1 q_1) gX6_place_X6_isDone rfl (fr_preV (As := []) (b := aM) (ci := 6) (q0 := 0) (wc := [(aM, .inr (6, [.ref mN, .ref mkd, .ref mks, .ref mcd, .ref mpr, .ref msk, .ref mow, .ref mmi, .ref mst, .ref mbi, .ref msu, .ref mke, .ref mik, .int vka, .int viw])), (mN, .inl (cI, 9, .inl fN))]) hK hN hP hD [0, 1] (by decide) rfl rfl rfl) (n := 0) (by decide +kernel) ⟨Nat.le_of_ble_eq_true rfl, Nat.le_of_ble_eq_true rfl⟩ rfl hl.1 rfl (Nat.le_of_ble_eq_true rfl) dX6_place_1 ⟨Nat.zero_le _, Nat.zero_le _⟩) hP hD hS hA [0, 1] rfl (c2 := 0) (s2 := 0) rfl rfl (fun H locs hP hS => ?_)
  refine lv_if_ne (tgt := 10) hx hb dX6_place_4 (by decide) (fun c1 => ?_) (fun c1 => ?_)
  · have h := (if_neg c1).symm.trans h
    refine lv_aload_n hx hb dX6_place_10 rfl (lv_at hl 0 rfl) ?_
    refine lv_iload_n hx hb dX6_place_11 rfl (lv_at hl 1 rfl) ?_
    obtain ⟨r_12, q_12, h⟩ := bd1_some h
    refine fr_ro_i (S := Unit) (wc := [(aM, .inr (6, [.ref mN, .ref mkd, .ref mks, .ref mcd, .ref mpr, .ref msk, .ref mow, .ref mmi, .ref mst, .ref mbi, .ref msu, .ref mke, .ref mik, .int vka, .int viw])), (mN, .inl (cI, 9, .inl fN))]) (fr_V (As := [.int x1]) (rest := []) (C := RX6) ⟨hx, hb, hml, hown, hts⟩ (tX6_isCell aM mN mkd mks mcd mpr msk mow mmi mst mbi msu mke mik vka viw fN x1 r_12 q_12) gX6_place_X6_isCell rfl (fr_preV (As := [.int x1]) (b := aM) (ci := 6) (q0 := 0) (wc := [(aM, .inr (6, [.ref mN, .ref mkd, .ref mks, .ref mcd, .ref mpr, .ref msk, .ref mow, .ref mmi, .ref mst, .ref mbi, .ref msu, .ref mke, .ref mik, .int vka, .int viw])), (mN, .inl (cI, 9, .inl fN))]) hK hN hP hD [0, 1] (by decide) rfl rfl rfl) (n := 1) (by decide +kernel) ⟨Nat.le_of_ble_eq_true rfl, Nat.le_of_ble_eq_true rfl⟩ rfl hl.1 rfl (Nat.le_of_ble_eq_true rfl) dX6_place_12 ⟨Nat.zero_le _, Nat.zero_le _⟩) hP hD hS hA [0, 1] rfl (c2 := 0) (s2 := 0) rfl rfl (fun H locs hP hS => ?_)
    refine lv_if_eq (tgt := 32) hx hb dX6_place_15 (by decide) (fun c2 => ?_) (fun c2 => ?_)
    · have h := (if_pos c2).symm.trans h
      refine lv_iconst (v := (-1 : Int32)) hx hb dX6_place_32 (by decide) ?_
      exact hret (-1 : Int32) 33 ls H locs rfl dX6_place_33 hP hD hS h
    · have h := (if_neg c2).symm.trans h
      refine lv_aload_n hx hb dX6_place_18 rfl (lv_at hl 0 rfl) ?_
      refine va_get (D := D) (ci := 6) (v := .ref msk) (C := RX6) (T := TX6) (N := 15) hx hb hts i6 hown hK hP 0 rfl rfl 5 (by decide) (hts (.fieldLink RX6 25 RX6 "slotKind" "[I") (List.mem_of_getElem? (i := 1) rfl)) (fun _ h9 => h9) rfl dX6_place_19 ?_
      refine lv_aload_n hx hb dX6_place_22 rfl (lv_at hl 0 rfl) ?_
      refine va_get (D := D) (ci := 6) (v := .ref mmi) (C := RX6) (T := TX6) (N := 15) hx hb hts i6 hown hK hP 0 rfl rfl 7 (by decide) (hts (.fieldLink RX6 31 RX6 "mine" "[I") (List.mem_of_getElem? (i := 2) rfl)) (fun _ h9 => h9) rfl dX6_place_23 ?_
      refine lv_iload_n hx hb dX6_place_26 rfl (lv_at hl 1 rfl) ?_
      obtain ⟨g3, h⟩ := no_some h
      refine va_iald hx hb hK hP 8 0 rfl rfl g3 dX6_place_27 ?_
      obtain ⟨g4, h⟩ := no_some h
      refine va_iald hx hb hK hP 6 0 rfl rfl g4 dX6_place_28 ?_
      refine lv_goto (tgt := 33) hx hb dX6_place_29 (by decide) ?_
      exact hret (fsk ((fmi x1.toNatClampNeg).toNatClampNeg)) 33 ls H locs rfl dX6_place_33 hP hD hS h
  · have h := (if_pos c1).symm.trans h
    refine lv_bipush (v := (-3 : Int32)) hx hb dX6_place_7 (by decide) ?_
    exact hret (-3 : Int32) 9 ls H locs rfl dX6_place_9 hP hD hS h
def fX6_slot_b22 (fN : Nat → Int32) (fpr : Nat → Int32) (fsk : Nat → Int32) (fow : Nat → Int32) (x1 : Int32) (x2 : Int32) : Option (Int32) :=
  bd1 (fX6_in x1.toInt64 (0 : Int64) (((fN 4) - (1 : Int32)).toInt64)) fun r_34 =>
  if r_34 = 0 then
    some (-1 : Int32)
  else
    if x2 = (0 : Int32) then
      if x1 < 0 ∨ 16 ≤ x1.toNatClampNeg then none else
      some (fpr x1.toNatClampNeg)
    else
      if x2 = (1 : Int32) then
        if x1 < 0 ∨ 16 ≤ x1.toNatClampNeg then none else
        some (fsk x1.toNatClampNeg)
      else
        if x2 = (2 : Int32) then
          if x1 < 0 ∨ 16 ≤ x1.toNatClampNeg then none else
          bd1 (fX6_cells fN) fun r_89 =>
          if r_89 ≤ (fow x1.toNatClampNeg) then
            some (-6 : Int32)
          else
            if x1 < 0 ∨ 16 ≤ x1.toNatClampNeg then none else
            some (fow x1.toNatClampNeg)
        else
          some (-2 : Int32)
def fX6_slot (fN : Nat → Int32) (fpr : Nat → Int32) (fsk : Nat → Int32) (fow : Nat → Int32) (x1 : Int32) (x2 : Int32) : Option (Int32) :=
  bd1 (fX6_isValid fN) fun r_1 =>
  if r_1 = 0 then
    some (-3 : Int32)
  else
    if x2 = (2 : Int32) then
      bd1 (fX6_isDone fN) fun r_13 =>
      if r_13 = 0 then
        some (-3 : Int32)
      else
        fX6_slot_b22 fN fpr fsk fow x1 x2
    else
      fX6_slot_b22 fN fpr fsk fow x1 x2
abbrev rX6_slot : Room := { frames := 1, cells := 0, slots := 0, locals := 25 }
set_option maxHeartbeats 4000000 in
set_option maxRecDepth 100000 in
theorem tX6_slot {l : Launch} {D : va_G} {cI cZ cP : ClassId} (aM mN mkd mks mcd mpr msk mow mmi mst mbi msu mke mik : Nat) (vka : Int32) (viw : Int32) (fN : Nat → Int32) (fkd : Nat → Int32) (fks : Nat → Int32) (fcd : Nat → Int32) (fpr : Nat → Int32) (fsk : Nat → Int32) (fow : Nat → Int32) (fmi : Nat → Int32) (fst : Nat → Int32) (fbi : Nat → Int32) (fsu : Nat → Int32) (fke : Nat → Int32) (fik : Nat → Int32) (x1 : Int32) (x2 : Int32) (r : Int32) (h : fX6_slot fN fpr fsk fow x1 x2 = some r) : CtI l D cI cZ cP yX6_slot wsX6_slot rX6_slot [.ref aM, .int x1, .int x2] [(aM, .inr (6, [.ref mN, .ref mkd, .ref mks, .ref mcd, .ref mpr, .ref msk, .ref mow, .ref mmi, .ref mst, .ref mbi, .ref msu, .ref mke, .ref mik, .int vka, .int viw])), (mN, .inl (cI, 9, .inl fN)), (mkd, .inl (cI, 8, .inl fkd)), (mks, .inl (cI, 8, .inl fks)), (mcd, .inl (cI, 12, .inl fcd)), (mpr, .inl (cI, 16, .inl fpr)), (msk, .inl (cI, 16, .inl fsk)), (mow, .inl (cI, 16, .inl fow)), (mmi, .inl (cI, 16, .inl fmi)), (mst, .inl (cI, 16, .inl fst)), (mbi, .inl (cI, 16, .inl fbi)), (msu, .inl (cI, 16, .inl fsu)), (mke, .inl (cI, 298, .inl fke)), (mik, .inl (cZ, 2, .inl fik))] (fun _ : Unit => [(aM, .inr (6, [.ref mN, .ref mkd, .ref mks, .ref mcd, .ref mpr, .ref msk, .ref mow, .ref mmi, .ref mst, .ref mbi, .ref msu, .ref mke, .ref mik, .int vka, .int viw])), (mN, .inl (cI, 9, .inl fN)), (mkd, .inl (cI, 8, .inl fkd)), (mks, .inl (cI, 8, .inl fks)), (mcd, .inl (cI, 12, .inl fcd)), (mpr, .inl (cI, 16, .inl fpr)), (msk, .inl (cI, 16, .inl fsk)), (mow, .inl (cI, 16, .inl fow)), (mmi, .inl (cI, 16, .inl fmi)), (mst, .inl (cI, 16, .inl fst)), (mbi, .inl (cI, 16, .inl fbi)), (msu, .inl (cI, 16, .inl fsu)), (mke, .inl (cI, 298, .inl fke)), (mik, .inl (cZ, 2, .inl fik))]) r := by
  refine CtI.ofW (cc := cX6_slot) (maxL := 3) (by decide) rfl (Nat.le_of_ble_eq_true rfl) (lv := [(0, .ref aM), (1, .int x1), (2, .int x2)]) rfl ?_
  intro p e s m args below meth c A Q ls hx hb hml hown hts hK hN hP hD hS hA hl hret0
  have hown : s.vm.findClass RX6 = some m.cls := hown
  have i6 : ∀ w ∈ wsX60, w ∈ wsX6_slot := mem_ps [21, 22, 23, 24, 25, 26, 27, 28, 29, 30, 31, 32, 33, 34, 35] rfl
  have hret : ∀ (v : Int32) (pc : Nat) (ls : Array Slot) (H : Heap) (locs : List Loc), narrow .int (.int v) = .int v → decode cX6_slot pc = .ok (.ireturn, 1) → va_P D vwCl [(aM, .inr (6, [.ref mN, .ref mkd, .ref mks, .ref mcd, .ref mpr, .ref msk, .ref mow, .ref mmi, .ref mst, .ref mbi, .ref msu, .ref mke, .ref mik, .int vka, .int viw])), (mN, .inl (cI, 9, .inl fN)), (mkd, .inl (cI, 8, .inl fkd)), (mks, .inl (cI, 8, .inl fks)), (mcd, .inl (cI, 12, .inl fcd)), (mpr, .inl (cI, 16, .inl fpr)), (msk, .inl (cI, 16, .inl fsk)), (mow, .inl (cI, 16, .inl fow)), (mmi, .inl (cI, 16, .inl fmi)), (mst, .inl (cI, 16, .inl fst)), (mbi, .inl (cI, 16, .inl fbi)), (msu, .inl (cI, 16, .inl fsu)), (mke, .inl (cI, 298, .inl fke)), (mik, .inl (cZ, 2, .inl fik))] H → va_D A [(aM, .inr (6, [.ref mN, .ref mkd, .ref mks, .ref mcd, .ref mpr, .ref msk, .ref mow, .ref mmi, .ref mst, .ref mbi, .ref msu, .ref mke, .ref mik, .int vka, .int viw])), (mN, .inl (cI, 9, .inl fN)), (mkd, .inl (cI, 8, .inl fkd)), (mks, .inl (cI, 8, .inl fks)), (mcd, .inl (cI, 12, .inl fcd)), (mpr, .inl (cI, 16, .inl fpr)), (msk, .inl (cI, 16, .inl fsk)), (mow, .inl (cI, 16, .inl fow)), (mmi, .inl (cI, 16, .inl fmi)), (mst, .inl (cI, 16, .inl fst)), (mbi, .inl (cI, 16, .inl fbi)), (msu, .inl (cI, 16, .inl fsu)), (mke, .inl (cI, 298, .inl fke)), (mik, .inl (cZ, 2, .inl fik))] → va_S A s.heap H locs → some v = some r → W p l e rX6_slot s m args below meth c H locs 0 0 Q (F0 m pc ls [.int v]) := by
    intro v pc ls H locs hn hd hP hD hS h
    cases h
    exact hret0 pc ls H locs () hn hd hP hD hS
  clear hret0
  have hb22 : ∀ (x1 : Int32) (x2 : Int32) (H : Heap) (locs : List Loc) (ls : Array Slot), va_P D vwCl [(aM, .inr (6, [.ref mN, .ref mkd, .ref mks, .ref mcd, .ref mpr, .ref msk, .ref mow, .ref mmi, .ref mst, .ref mbi, .ref msu, .ref mke, .ref mik, .int vka, .int viw])), (mN, .inl (cI, 9, .inl fN)), (mkd, .inl (cI, 8, .inl fkd)), (mks, .inl (cI, 8, .inl fks)), (mcd, .inl (cI, 12, .inl fcd)), (mpr, .inl (cI, 16, .inl fpr)), (msk, .inl (cI, 16, .inl fsk)), (mow, .inl (cI, 16, .inl fow)), (mmi, .inl (cI, 16, .inl fmi)), (mst, .inl (cI, 16, .inl fst)), (mbi, .inl (cI, 16, .inl fbi)), (msu, .inl (cI, 16, .inl fsu)), (mke, .inl (cI, 298, .inl fke)), (mik, .inl (cZ, 2, .inl fik))] H → va_D A [(aM, .inr (6, [.ref mN, .ref mkd, .ref mks, .ref mcd, .ref mpr, .ref msk, .ref mow, .ref mmi, .ref mst, .ref mbi, .ref msu, .ref mke, .ref mik, .int vka, .int viw])), (mN, .inl (cI, 9, .inl fN)), (mkd, .inl (cI, 8, .inl fkd)), (mks, .inl (cI, 8, .inl fks)), (mcd, .inl (cI, 12, .inl fcd)), (mpr, .inl (cI, 16, .inl fpr)), (msk, .inl (cI, 16, .inl fsk)), (mow, .inl (cI, 16, .inl fow)), (mmi, .inl (cI, 16, .inl fmi)), (mst, .inl (cI, 16, .inl fst)), (mbi, .inl (cI, 16, .inl fbi)), (msu, .inl (cI, 16, .inl fsu)), (mke, .inl (cI, 298, .inl fke)), (mik, .inl (cZ, 2, .inl fik))] → va_S A s.heap H locs → lv_has ls 3 [(0, .ref aM), (1, .int x1), (2, .int x2)] → fX6_slot_b22 fN fpr fsk fow x1 x2 = some r → W p l e rX6_slot s m args below meth c H locs 0 0 Q (F0 m 22 ls []) := by
    intro x1 x2 H locs ls hP hD hS hl h
    unfold fX6_slot_b22 at h
    refine lv_iload_n hx hb dX6_slot_22 rfl (lv_at hl 1 rfl) ?_
    refine lv_i2l (v := x1.toInt64) hx hb dX6_slot_23 rfl ?_
    refine lv_lconst (v := (0 : Int64)) hx hb dX6_slot_24 (by decide) ?_
    refine lv_aload_n hx hb dX6_slot_25 rfl (lv_at hl 0 rfl) ?_
    refine va_get (D := D) (ci := 6) (v := .ref mN) (C := RX6) (T := TX6) (N := 15) hx hb hts i6 hown hK hP 0 rfl rfl 0 (by decide) (hts (.fieldLink RX6 7 RX6 "now" "[I") (List.mem_of_getElem? (i := 1) rfl)) (fun _ h9 => h9) rfl dX6_slot_26 ?_
    refine lv_iconst (v := (4 : Int32)) hx hb dX6_slot_29 (by decide) ?_
    refine fr_iald (j := 4) hx hb hK hP 1 0 rfl rfl (by decide) (vin_of 4 9 (4 : Int32) (by decide) (by decide) (by decide)) dX6_slot_30 ?_
    refine lv_iconst (v := (1 : Int32)) hx hb dX6_slot_31 (by decide) ?_
    refine lv_isub hx hb dX6_slot_32 ?_
    refine lv_i2l (v := ((fN 4) - (1 : Int32)).toInt64) hx hb dX6_slot_33 rfl ?_
    obtain ⟨r_34, q_34, h⟩ := bd1_some h
    refine fr_ro_i (S := Unit) (wc := []) (fr_S (As := [.long x1.toInt64, .long (0 : Int64), .long (((fN 4) - (1 : Int32)).toInt64)]) (rest := []) ⟨hx, hb, hml, hown, hts⟩ (tX6_in x1.toInt64 (0 : Int64) (((fN 4) - (1 : Int32)).toInt64) r_34 q_34) gX6_slot_X6_in rfl (fr_pre (As := [.long x1.toInt64, .long (0 : Int64), .long (((fN 4) - (1 : Int32)).toInt64)]) (wc := []) hK hN hP hD [] (by decide) rfl) (n := 3) (by decide +kernel) ⟨Nat.le_of_ble_eq_true rfl, Nat.le_of_ble_eq_true rfl⟩ rfl hl.1 rfl (Nat.le_of_ble_eq_true rfl) dX6_slot_34 ⟨Nat.zero_le _, Nat.zero_le _⟩) hP hD hS hA [] rfl (c2 := 0) (s2 := 0) rfl rfl (fun H locs hP hS => ?_)
    refine lv_if_ne (tgt := 42) hx hb dX6_slot_37 (by decide) (fun c1 => ?_) (fun c1 => ?_)
    · have h := (if_neg c1).symm.trans h
      refine lv_iload_n hx hb dX6_slot_42 rfl (lv_at hl 2 rfl) ?_
      by_cases c7 : x2 = (0 : Int32)
      · have h := (if_pos c7).symm.trans h
        refine lv_tableIn (tgt := 68) hx hb dX6_slot_43 (by rw [c7]; decide) (by rw [c7]; decide) (off := 25) (by rw [c7]; rfl) (by decide) ?_
        refine lv_aload_n hx hb dX6_slot_68 rfl (lv_at hl 0 rfl) ?_
        refine va_get (D := D) (ci := 6) (v := .ref mpr) (C := RX6) (T := TX6) (N := 15) hx hb hts i6 hown hK hP 0 rfl rfl 4 (by decide) (hts (.fieldLink RX6 22 RX6 "price" "[I") (List.mem_of_getElem? (i := 2) rfl)) (fun _ h9 => h9) rfl dX6_slot_69 ?_
        refine lv_iload_n hx hb dX6_slot_72 rfl (lv_at hl 1 rfl) ?_
        obtain ⟨g2, h⟩ := no_some h
        refine va_iald hx hb hK hP 5 0 rfl rfl g2 dX6_slot_73 ?_
        exact hret (fpr x1.toNatClampNeg) 74 ls H locs rfl dX6_slot_74 hP hD hS h
      · have h := (if_neg c7).symm.trans h
        by_cases c8 : x2 = (1 : Int32)
        · have h := (if_pos c8).symm.trans h
          refine lv_tableIn (tgt := 75) hx hb dX6_slot_43 (by rw [c8]; decide) (by rw [c8]; decide) (off := 32) (by rw [c8]; rfl) (by decide) ?_
          refine lv_aload_n hx hb dX6_slot_75 rfl (lv_at hl 0 rfl) ?_
          refine va_get (D := D) (ci := 6) (v := .ref msk) (C := RX6) (T := TX6) (N := 15) hx hb hts i6 hown hK hP 0 rfl rfl 5 (by decide) (hts (.fieldLink RX6 25 RX6 "slotKind" "[I") (List.mem_of_getElem? (i := 3) rfl)) (fun _ h9 => h9) rfl dX6_slot_76 ?_
          refine lv_iload_n hx hb dX6_slot_79 rfl (lv_at hl 1 rfl) ?_
          obtain ⟨g3, h⟩ := no_some h
          refine va_iald hx hb hK hP 6 0 rfl rfl g3 dX6_slot_80 ?_
          exact hret (fsk x1.toNatClampNeg) 81 ls H locs rfl dX6_slot_81 hP hD hS h
        · have h := (if_neg c8).symm.trans h
          by_cases c9 : x2 = (2 : Int32)
          · have h := (if_pos c9).symm.trans h
            refine lv_tableIn (tgt := 82) hx hb dX6_slot_43 (by rw [c9]; decide) (by rw [c9]; decide) (off := 39) (by rw [c9]; rfl) (by decide) ?_
            refine lv_aload_n hx hb dX6_slot_82 rfl (lv_at hl 0 rfl) ?_
            refine va_get (D := D) (ci := 6) (v := .ref mow) (C := RX6) (T := TX6) (N := 15) hx hb hts i6 hown hK hP 0 rfl rfl 6 (by decide) (hts (.fieldLink RX6 28 RX6 "owner" "[I") (List.mem_of_getElem? (i := 4) rfl)) (fun _ h9 => h9) rfl dX6_slot_83 ?_
            refine lv_iload_n hx hb dX6_slot_86 rfl (lv_at hl 1 rfl) ?_
            obtain ⟨g4, h⟩ := no_some h
            refine va_iald hx hb hK hP 7 0 rfl rfl g4 dX6_slot_87 ?_
            refine lv_aload_n hx hb dX6_slot_88 rfl (lv_at hl 0 rfl) ?_
            obtain ⟨r_89, q_89, h⟩ := bd1_some h
            refine fr_ro_i (S := Unit) (wc := [(aM, .inr (6, [.ref mN, .ref mkd, .ref mks, .ref mcd, .ref mpr, .ref msk, .ref mow, .ref mmi, .ref mst, .ref mbi, .ref msu, .ref mke, .ref mik, .int vka, .int viw])), (mN, .inl (cI, 9, .inl fN))]) (fr_V (As := []) (rest := [.int (fow x1.toNatClampNeg)]) (C := RX6) ⟨hx, hb, hml, hown, hts⟩ (tX6_cells aM mN mkd mks mcd mpr msk mow mmi mst mbi msu mke mik vka viw fN r_89 q_89) gX6_slot_X6_cells rfl (fr_preV (As := []) (b := aM) (ci := 6) (q0 := 0) (wc := [(aM, .inr (6, [.ref mN, .ref mkd, .ref mks, .ref mcd, .ref mpr, .ref msk, .ref mow, .ref mmi, .ref mst, .ref mbi, .ref msu, .ref mke, .ref mik, .int vka, .int viw])), (mN, .inl (cI, 9, .inl fN))]) hK hN hP hD [0, 1] (by decide) rfl rfl rfl) (n := 0) (by decide +kernel) ⟨Nat.le_of_ble_eq_true rfl, Nat.le_of_ble_eq_true rfl⟩ rfl hl.1 rfl (Nat.le_of_ble_eq_true rfl) dX6_slot_89 ⟨Nat.zero_le _, Nat.zero_le _⟩) hP hD hS hA [0, 1] rfl (c2 := 0) (s2 := 0) rfl rfl (fun H locs hP hS => ?_)
            refine lv_icmp_ge (tgt := 104) hx hb dX6_slot_92 (by decide) (fun c5 => ?_) (fun c5 => ?_)
            · have h := (if_pos c5).symm.trans h
              refine lv_bipush (v := (-6 : Int32)) hx hb dX6_slot_104 (by decide) ?_
              exact hret (-6 : Int32) 106 ls H locs rfl dX6_slot_106 hP hD hS h
            · have h := (if_neg c5).symm.trans h
              refine lv_aload_n hx hb dX6_slot_95 rfl (lv_at hl 0 rfl) ?_
              refine va_get (D := D) (ci := 6) (v := .ref mow) (C := RX6) (T := TX6) (N := 15) hx hb hts i6 hown hK hP 0 rfl rfl 6 (by decide) (hts (.fieldLink RX6 28 RX6 "owner" "[I") (List.mem_of_getElem? (i := 4) rfl)) (fun _ h9 => h9) rfl dX6_slot_96 ?_
              refine lv_iload_n hx hb dX6_slot_99 rfl (lv_at hl 1 rfl) ?_
              obtain ⟨g6, h⟩ := no_some h
              refine va_iald hx hb hK hP 7 0 rfl rfl g6 dX6_slot_100 ?_
              refine lv_goto (tgt := 106) hx hb dX6_slot_101 (by decide) ?_
              exact hret (fow x1.toNatClampNeg) 106 ls H locs rfl dX6_slot_106 hP hD hS h
          · have h := (if_neg c9).symm.trans h
            have nc7 := lv_neT c7 (show (0 : Int32).toInt = 0 from rfl)
            have nc8 := lv_neT c8 (show (1 : Int32).toInt = 1 from rfl)
            have nc9 := lv_neT c9 (show (2 : Int32).toInt = 2 from rfl)
            refine lv_tableOut (tgt := 107) hx hb dX6_slot_43 (by omega) (by decide) ?_
            refine lv_bipush (v := (-2 : Int32)) hx hb dX6_slot_107 (by decide) ?_
            exact hret (-2 : Int32) 109 ls H locs rfl dX6_slot_109 hP hD hS h
    · have h := (if_pos c1).symm.trans h
      refine lv_iconst (v := (-1 : Int32)) hx hb dX6_slot_40 (by decide) ?_
      exact hret (-1 : Int32) 41 ls H locs rfl dX6_slot_41 hP hD hS h
  unfold fX6_slot at h
  obtain ⟨H, hH⟩ : ∃ H, H = s.heap := ⟨_, rfl⟩
  have hP : va_P D vwCl [(aM, .inr (6, [.ref mN, .ref mkd, .ref mks, .ref mcd, .ref mpr, .ref msk, .ref mow, .ref mmi, .ref mst, .ref mbi, .ref msu, .ref mke, .ref mik, .int vka, .int viw])), (mN, .inl (cI, 9, .inl fN)), (mkd, .inl (cI, 8, .inl fkd)), (mks, .inl (cI, 8, .inl fks)), (mcd, .inl (cI, 12, .inl fcd)), (mpr, .inl (cI, 16, .inl fpr)), (msk, .inl (cI, 16, .inl fsk)), (mow, .inl (cI, 16, .inl fow)), (mmi, .inl (cI, 16, .inl fmi)), (mst, .inl (cI, 16, .inl fst)), (mbi, .inl (cI, 16, .inl fbi)), (msu, .inl (cI, 16, .inl fsu)), (mke, .inl (cI, 298, .inl fke)), (mik, .inl (cZ, 2, .inl fik))] H := by rw [hH]; exact hP
  obtain ⟨locs, hlocs⟩ : ∃ x : List Loc, x = [] := ⟨_, rfl⟩
  have hS : va_S A s.heap H locs := by rw [hH, hlocs]; exact hS
  suffices hgo : W p l e rX6_slot s m args below meth c H locs 0 0 Q (F0 m 0 ls []) by rw [hH, hlocs] at hgo; exact hgo
  refine lv_aload_n hx hb dX6_slot_0 rfl (lv_at hl 0 rfl) ?_
  obtain ⟨r_1, q_1, h⟩ := bd1_some h
  refine fr_ro_i (S := Unit) (wc := [(aM, .inr (6, [.ref mN, .ref mkd, .ref mks, .ref mcd, .ref mpr, .ref msk, .ref mow, .ref mmi, .ref mst, .ref mbi, .ref msu, .ref mke, .ref mik, .int vka, .int viw])), (mN, .inl (cI, 9, .inl fN))]) (fr_V (As := []) (rest := []) (C := RX6) ⟨hx, hb, hml, hown, hts⟩ (tX6_isValid aM mN mkd mks mcd mpr msk mow mmi mst mbi msu mke mik vka viw fN r_1 q_1) gX6_slot_X6_isValid rfl (fr_preV (As := []) (b := aM) (ci := 6) (q0 := 0) (wc := [(aM, .inr (6, [.ref mN, .ref mkd, .ref mks, .ref mcd, .ref mpr, .ref msk, .ref mow, .ref mmi, .ref mst, .ref mbi, .ref msu, .ref mke, .ref mik, .int vka, .int viw])), (mN, .inl (cI, 9, .inl fN))]) hK hN hP hD [0, 1] (by decide) rfl rfl rfl) (n := 0) (by decide +kernel) ⟨Nat.le_of_ble_eq_true rfl, Nat.le_of_ble_eq_true rfl⟩ rfl hl.1 rfl (Nat.le_of_ble_eq_true rfl) dX6_slot_1 ⟨Nat.zero_le _, Nat.zero_le _⟩) hP hD hS hA [0, 1] rfl (c2 := 0) (s2 := 0) rfl rfl (fun H locs hP hS => ?_)
  refine lv_if_eq (tgt := 19) hx hb dX6_slot_4 (by decide) (fun c10 => ?_) (fun c10 => ?_)
  · have h := (if_pos c10).symm.trans h
    refine lv_bipush (v := (-3 : Int32)) hx hb dX6_slot_19 (by decide) ?_
    exact hret (-3 : Int32) 21 ls H locs rfl dX6_slot_21 hP hD hS h
  · have h := (if_neg c10).symm.trans h
    refine lv_iload_n hx hb dX6_slot_7 rfl (lv_at hl 2 rfl) ?_
    refine lv_iconst (v := (2 : Int32)) hx hb dX6_slot_8 (by decide) ?_
    refine lv_icmp_ne (tgt := 22) hx hb dX6_slot_9 (by decide) (fun c11 => ?_) (fun c11 => ?_)
    · have h := (if_neg c11).symm.trans h
      exact hb22 x1 x2 H locs ls hP hD hS (lv_sub hl [0, 1, 2] rfl) h
    · have h := (if_pos c11).symm.trans h
      refine lv_aload_n hx hb dX6_slot_12 rfl (lv_at hl 0 rfl) ?_
      obtain ⟨r_13, q_13, h⟩ := bd1_some h
      refine fr_ro_i (S := Unit) (wc := [(aM, .inr (6, [.ref mN, .ref mkd, .ref mks, .ref mcd, .ref mpr, .ref msk, .ref mow, .ref mmi, .ref mst, .ref mbi, .ref msu, .ref mke, .ref mik, .int vka, .int viw])), (mN, .inl (cI, 9, .inl fN))]) (fr_V (As := []) (rest := []) (C := RX6) ⟨hx, hb, hml, hown, hts⟩ (tX6_isDone aM mN mkd mks mcd mpr msk mow mmi mst mbi msu mke mik vka viw fN r_13 q_13) gX6_slot_X6_isDone rfl (fr_preV (As := []) (b := aM) (ci := 6) (q0 := 0) (wc := [(aM, .inr (6, [.ref mN, .ref mkd, .ref mks, .ref mcd, .ref mpr, .ref msk, .ref mow, .ref mmi, .ref mst, .ref mbi, .ref msu, .ref mke, .ref mik, .int vka, .int viw])), (mN, .inl (cI, 9, .inl fN))]) hK hN hP hD [0, 1] (by decide) rfl rfl rfl) (n := 0) (by decide +kernel) ⟨Nat.le_of_ble_eq_true rfl, Nat.le_of_ble_eq_true rfl⟩ rfl hl.1 rfl (Nat.le_of_ble_eq_true rfl) dX6_slot_13 ⟨Nat.zero_le _, Nat.zero_le _⟩) hP hD hS hA [0, 1] rfl (c2 := 0) (s2 := 0) rfl rfl (fun H locs hP hS => ?_)
      refine lv_if_ne (tgt := 22) hx hb dX6_slot_16 (by decide) (fun c12 => ?_) (fun c12 => ?_)
      · have h := (if_neg c12).symm.trans h
        exact hb22 x1 x2 H locs ls hP hD hS (lv_sub hl [0, 1, 2] rfl) h
      · have h := (if_pos c12).symm.trans h
        refine lv_bipush (v := (-3 : Int32)) hx hb dX6_slot_19 (by decide) ?_
        exact hret (-3 : Int32) 21 ls H locs rfl dX6_slot_21 hP hD hS h
def fX6_gain_b21 (fN : Nat → Int32) (fkd : Nat → Int32) (fcd : Nat → Int32) (fpr : Nat → Int32) (fsk : Nat → Int32) (fmi : Nat → Int32) (x1 : Int32) (x2 : Int32) : Option (Int32) :=
  bd1 (fX6_isCell fN x1) fun r_23 =>
  if r_23 = 0 then
    some (-100000001 : Int32)
  else
    bd1 (fX6_in x2.toInt64 (0 : Int64) (1 : Int64)) fun r_36 =>
    if r_36 = 0 then
      some (-100000002 : Int32)
    else
      if x2 = 0 then
        if x1 < 0 ∨ 16 ≤ x1.toNatClampNeg then none else
        bd1 (fX6_gainOf fN fkd fcd fpr fsk x1 (fmi x1.toNatClampNeg)) fun r_67 =>
        some r_67
      else
        bd1 (fX6_bestFor fN fkd fcd fpr fsk x1 (-6 : Int32)) fun r_64 =>
        bd1 (fX6_gainOf fN fkd fcd fpr fsk x1 r_64) fun r_67 =>
        some r_67
def fX6_gain (fN : Nat → Int32) (fkd : Nat → Int32) (fcd : Nat → Int32) (fpr : Nat → Int32) (fsk : Nat → Int32) (fmi : Nat → Int32) (x1 : Int32) (x2 : Int32) : Option (Int32) :=
  bd1 (fX6_isValid fN) fun r_1 =>
  if r_1 = 0 then
    some (-100000003 : Int32)
  else
    if x2 = 0 then
      bd1 (fX6_isDone fN) fun r_12 =>
      if r_12 = 0 then
        some (-100000003 : Int32)
      else
        fX6_gain_b21 fN fkd fcd fpr fsk fmi x1 x2
    else
      fX6_gain_b21 fN fkd fcd fpr fsk fmi x1 x2
abbrev rX6_gain : Room := { frames := 3, cells := 0, slots := 0, locals := 73 }
set_option maxHeartbeats 4000000 in
set_option maxRecDepth 100000 in
theorem tX6_gain {l : Launch} {D : va_G} {cI cZ cP : ClassId} (aM mN mkd mks mcd mpr msk mow mmi mst mbi msu mke mik : Nat) (vka : Int32) (viw : Int32) (fN : Nat → Int32) (fkd : Nat → Int32) (fks : Nat → Int32) (fcd : Nat → Int32) (fpr : Nat → Int32) (fsk : Nat → Int32) (fow : Nat → Int32) (fmi : Nat → Int32) (fst : Nat → Int32) (fbi : Nat → Int32) (fsu : Nat → Int32) (fke : Nat → Int32) (fik : Nat → Int32) (x1 : Int32) (x2 : Int32) (r : Int32) (h : fX6_gain fN fkd fcd fpr fsk fmi x1 x2 = some r) : CtI l D cI cZ cP yX6_gain wsX6_gain rX6_gain [.ref aM, .int x1, .int x2] [(aM, .inr (6, [.ref mN, .ref mkd, .ref mks, .ref mcd, .ref mpr, .ref msk, .ref mow, .ref mmi, .ref mst, .ref mbi, .ref msu, .ref mke, .ref mik, .int vka, .int viw])), (mN, .inl (cI, 9, .inl fN)), (mkd, .inl (cI, 8, .inl fkd)), (mks, .inl (cI, 8, .inl fks)), (mcd, .inl (cI, 12, .inl fcd)), (mpr, .inl (cI, 16, .inl fpr)), (msk, .inl (cI, 16, .inl fsk)), (mow, .inl (cI, 16, .inl fow)), (mmi, .inl (cI, 16, .inl fmi)), (mst, .inl (cI, 16, .inl fst)), (mbi, .inl (cI, 16, .inl fbi)), (msu, .inl (cI, 16, .inl fsu)), (mke, .inl (cI, 298, .inl fke)), (mik, .inl (cZ, 2, .inl fik))] (fun _ : Unit => [(aM, .inr (6, [.ref mN, .ref mkd, .ref mks, .ref mcd, .ref mpr, .ref msk, .ref mow, .ref mmi, .ref mst, .ref mbi, .ref msu, .ref mke, .ref mik, .int vka, .int viw])), (mN, .inl (cI, 9, .inl fN)), (mkd, .inl (cI, 8, .inl fkd)), (mks, .inl (cI, 8, .inl fks)), (mcd, .inl (cI, 12, .inl fcd)), (mpr, .inl (cI, 16, .inl fpr)), (msk, .inl (cI, 16, .inl fsk)), (mow, .inl (cI, 16, .inl fow)), (mmi, .inl (cI, 16, .inl fmi)), (mst, .inl (cI, 16, .inl fst)), (mbi, .inl (cI, 16, .inl fbi)), (msu, .inl (cI, 16, .inl fsu)), (mke, .inl (cI, 298, .inl fke)), (mik, .inl (cZ, 2, .inl fik))]) r := by
  refine CtI.ofW (cc := cX6_gain) (maxL := 3) (by decide) rfl (Nat.le_of_ble_eq_true rfl) (lv := [(0, .ref aM), (1, .int x1), (2, .int x2)]) rfl ?_
  intro p e s m args below meth c A Q ls hx hb hml hown hts hK hN hP hD hS hA hl hret0
  have hown : s.vm.findClass RX6 = some m.cls := hown
  have i6 : ∀ w ∈ wsX60, w ∈ wsX6_gain := mem_ps [42, 43, 44, 45, 46, 47, 48, 49, 50, 51, 52, 53, 54, 55, 56] rfl
  have hret : ∀ (v : Int32) (pc : Nat) (ls : Array Slot) (H : Heap) (locs : List Loc), narrow .int (.int v) = .int v → decode cX6_gain pc = .ok (.ireturn, 1) → va_P D vwCl [(aM, .inr (6, [.ref mN, .ref mkd, .ref mks, .ref mcd, .ref mpr, .ref msk, .ref mow, .ref mmi, .ref mst, .ref mbi, .ref msu, .ref mke, .ref mik, .int vka, .int viw])), (mN, .inl (cI, 9, .inl fN)), (mkd, .inl (cI, 8, .inl fkd)), (mks, .inl (cI, 8, .inl fks)), (mcd, .inl (cI, 12, .inl fcd)), (mpr, .inl (cI, 16, .inl fpr)), (msk, .inl (cI, 16, .inl fsk)), (mow, .inl (cI, 16, .inl fow)), (mmi, .inl (cI, 16, .inl fmi)), (mst, .inl (cI, 16, .inl fst)), (mbi, .inl (cI, 16, .inl fbi)), (msu, .inl (cI, 16, .inl fsu)), (mke, .inl (cI, 298, .inl fke)), (mik, .inl (cZ, 2, .inl fik))] H → va_D A [(aM, .inr (6, [.ref mN, .ref mkd, .ref mks, .ref mcd, .ref mpr, .ref msk, .ref mow, .ref mmi, .ref mst, .ref mbi, .ref msu, .ref mke, .ref mik, .int vka, .int viw])), (mN, .inl (cI, 9, .inl fN)), (mkd, .inl (cI, 8, .inl fkd)), (mks, .inl (cI, 8, .inl fks)), (mcd, .inl (cI, 12, .inl fcd)), (mpr, .inl (cI, 16, .inl fpr)), (msk, .inl (cI, 16, .inl fsk)), (mow, .inl (cI, 16, .inl fow)), (mmi, .inl (cI, 16, .inl fmi)), (mst, .inl (cI, 16, .inl fst)), (mbi, .inl (cI, 16, .inl fbi)), (msu, .inl (cI, 16, .inl fsu)), (mke, .inl (cI, 298, .inl fke)), (mik, .inl (cZ, 2, .inl fik))] → va_S A s.heap H locs → some v = some r → W p l e rX6_gain s m args below meth c H locs 0 0 Q (F0 m pc ls [.int v]) := by
    intro v pc ls H locs hn hd hP hD hS h
    cases h
    exact hret0 pc ls H locs () hn hd hP hD hS
  clear hret0
  have hb21 : ∀ (x1 : Int32) (x2 : Int32) (H : Heap) (locs : List Loc) (ls : Array Slot), va_P D vwCl [(aM, .inr (6, [.ref mN, .ref mkd, .ref mks, .ref mcd, .ref mpr, .ref msk, .ref mow, .ref mmi, .ref mst, .ref mbi, .ref msu, .ref mke, .ref mik, .int vka, .int viw])), (mN, .inl (cI, 9, .inl fN)), (mkd, .inl (cI, 8, .inl fkd)), (mks, .inl (cI, 8, .inl fks)), (mcd, .inl (cI, 12, .inl fcd)), (mpr, .inl (cI, 16, .inl fpr)), (msk, .inl (cI, 16, .inl fsk)), (mow, .inl (cI, 16, .inl fow)), (mmi, .inl (cI, 16, .inl fmi)), (mst, .inl (cI, 16, .inl fst)), (mbi, .inl (cI, 16, .inl fbi)), (msu, .inl (cI, 16, .inl fsu)), (mke, .inl (cI, 298, .inl fke)), (mik, .inl (cZ, 2, .inl fik))] H → va_D A [(aM, .inr (6, [.ref mN, .ref mkd, .ref mks, .ref mcd, .ref mpr, .ref msk, .ref mow, .ref mmi, .ref mst, .ref mbi, .ref msu, .ref mke, .ref mik, .int vka, .int viw])), (mN, .inl (cI, 9, .inl fN)), (mkd, .inl (cI, 8, .inl fkd)), (mks, .inl (cI, 8, .inl fks)), (mcd, .inl (cI, 12, .inl fcd)), (mpr, .inl (cI, 16, .inl fpr)), (msk, .inl (cI, 16, .inl fsk)), (mow, .inl (cI, 16, .inl fow)), (mmi, .inl (cI, 16, .inl fmi)), (mst, .inl (cI, 16, .inl fst)), (mbi, .inl (cI, 16, .inl fbi)), (msu, .inl (cI, 16, .inl fsu)), (mke, .inl (cI, 298, .inl fke)), (mik, .inl (cZ, 2, .inl fik))] → va_S A s.heap H locs → lv_has ls 3 [(0, .ref aM), (1, .int x1), (2, .int x2)] → fX6_gain_b21 fN fkd fcd fpr fsk fmi x1 x2 = some r → W p l e rX6_gain s m args below meth c H locs 0 0 Q (F0 m 21 ls []) := by
    intro x1 x2 H locs ls hP hD hS hl h
    unfold fX6_gain_b21 at h
    refine lv_aload_n hx hb dX6_gain_21 rfl (lv_at hl 0 rfl) ?_
    refine lv_iload_n hx hb dX6_gain_22 rfl (lv_at hl 1 rfl) ?_
    obtain ⟨r_23, q_23, h⟩ := bd1_some h
    refine fr_ro_i (S := Unit) (wc := [(aM, .inr (6, [.ref mN, .ref mkd, .ref mks, .ref mcd, .ref mpr, .ref msk, .ref mow, .ref mmi, .ref mst, .ref mbi, .ref msu, .ref mke, .ref mik, .int vka, .int viw])), (mN, .inl (cI, 9, .inl fN))]) (fr_V (As := [.int x1]) (rest := []) (C := RX6) ⟨hx, hb, hml, hown, hts⟩ (tX6_isCell aM mN mkd mks mcd mpr msk mow mmi mst mbi msu mke mik vka viw fN x1 r_23 q_23) gX6_gain_X6_isCell rfl (fr_preV (As := [.int x1]) (b := aM) (ci := 6) (q0 := 0) (wc := [(aM, .inr (6, [.ref mN, .ref mkd, .ref mks, .ref mcd, .ref mpr, .ref msk, .ref mow, .ref mmi, .ref mst, .ref mbi, .ref msu, .ref mke, .ref mik, .int vka, .int viw])), (mN, .inl (cI, 9, .inl fN))]) hK hN hP hD [0, 1] (by decide) rfl rfl rfl) (n := 1) (by decide +kernel) ⟨Nat.le_of_ble_eq_true rfl, Nat.le_of_ble_eq_true rfl⟩ rfl hl.1 rfl (Nat.le_of_ble_eq_true rfl) dX6_gain_23 ⟨Nat.zero_le _, Nat.zero_le _⟩) hP hD hS hA [0, 1] rfl (c2 := 0) (s2 := 0) rfl rfl (fun H locs hP hS => ?_)
    refine lv_if_ne (tgt := 32) hx hb dX6_gain_26 (by decide) (fun c1 => ?_) (fun c1 => ?_)
    · have h := (if_neg c1).symm.trans h
      refine lv_iload_n hx hb dX6_gain_32 rfl (lv_at hl 2 rfl) ?_
      refine lv_i2l (v := x2.toInt64) hx hb dX6_gain_33 rfl ?_
      refine lv_lconst (v := (0 : Int64)) hx hb dX6_gain_34 (by decide) ?_
      refine lv_lconst (v := (1 : Int64)) hx hb dX6_gain_35 (by decide) ?_
      obtain ⟨r_36, q_36, h⟩ := bd1_some h
      refine fr_ro_i (S := Unit) (wc := []) (fr_S (As := [.long x2.toInt64, .long (0 : Int64), .long (1 : Int64)]) (rest := []) ⟨hx, hb, hml, hown, hts⟩ (tX6_in x2.toInt64 (0 : Int64) (1 : Int64) r_36 q_36) gX6_gain_X6_in rfl (fr_pre (As := [.long x2.toInt64, .long (0 : Int64), .long (1 : Int64)]) (wc := []) hK hN hP hD [] (by decide) rfl) (n := 3) (by decide +kernel) ⟨Nat.le_of_ble_eq_true rfl, Nat.le_of_ble_eq_true rfl⟩ rfl hl.1 rfl (Nat.le_of_ble_eq_true rfl) dX6_gain_36 ⟨Nat.zero_le _, Nat.zero_le _⟩) hP hD hS hA [] rfl (c2 := 0) (s2 := 0) rfl rfl (fun H locs hP hS => ?_)
      refine lv_if_ne (tgt := 45) hx hb dX6_gain_39 (by decide) (fun c2 => ?_) (fun c2 => ?_)
      · have h := (if_neg c2).symm.trans h
        refine lv_aload_n hx hb dX6_gain_45 rfl (lv_at hl 0 rfl) ?_
        refine lv_iload_n hx hb dX6_gain_46 rfl (lv_at hl 1 rfl) ?_
        refine lv_iload_n hx hb dX6_gain_47 rfl (lv_at hl 2 rfl) ?_
        refine lv_if_ne (tgt := 60) hx hb dX6_gain_48 (by decide) (fun c3 => ?_) (fun c3 => ?_)
        · have h := (if_neg c3).symm.trans h
          refine lv_aload_n hx hb dX6_gain_60 rfl (lv_at hl 0 rfl) ?_
          refine lv_iload_n hx hb dX6_gain_61 rfl (lv_at hl 1 rfl) ?_
          refine lv_bipush (v := (-6 : Int32)) hx hb dX6_gain_62 (by decide) ?_
          obtain ⟨r_64, q_64, h⟩ := bd1_some h
          refine fr_ro_i (S := Unit) (wc := [(aM, .inr (6, [.ref mN, .ref mkd, .ref mks, .ref mcd, .ref mpr, .ref msk, .ref mow, .ref mmi, .ref mst, .ref mbi, .ref msu, .ref mke, .ref mik, .int vka, .int viw])), (mN, .inl (cI, 9, .inl fN)), (mkd, .inl (cI, 8, .inl fkd)), (mcd, .inl (cI, 12, .inl fcd)), (mpr, .inl (cI, 16, .inl fpr)), (msk, .inl (cI, 16, .inl fsk))]) (fr_V (As := [.int x1, .int (-6 : Int32)]) (rest := [.int x1, .ref aM]) (C := RX6) ⟨hx, hb, hml, hown, hts⟩ (tX6_bestFor aM mN mkd mcd mpr msk mks mow mmi mst mbi msu mke mik vka viw fN fkd fcd fpr fsk x1 (-6 : Int32) r_64 q_64) gX6_gain_X6_bestFor rfl (fr_preV (As := [.int x1, .int (-6 : Int32)]) (b := aM) (ci := 6) (q0 := 0) (wc := [(aM, .inr (6, [.ref mN, .ref mkd, .ref mks, .ref mcd, .ref mpr, .ref msk, .ref mow, .ref mmi, .ref mst, .ref mbi, .ref msu, .ref mke, .ref mik, .int vka, .int viw])), (mN, .inl (cI, 9, .inl fN)), (mkd, .inl (cI, 8, .inl fkd)), (mcd, .inl (cI, 12, .inl fcd)), (mpr, .inl (cI, 16, .inl fpr)), (msk, .inl (cI, 16, .inl fsk))]) hK hN hP hD [0, 1, 2, 4, 5, 6] (by decide) rfl rfl rfl) (n := 2) (by decide +kernel) ⟨Nat.le_of_ble_eq_true rfl, Nat.le_of_ble_eq_true rfl⟩ rfl hl.1 rfl (Nat.le_of_ble_eq_true rfl) dX6_gain_64 ⟨Nat.zero_le _, Nat.zero_le _⟩) hP hD hS hA [0, 1, 2, 4, 5, 6] rfl (c2 := 0) (s2 := 0) rfl rfl (fun H locs hP hS => ?_)
          obtain ⟨r_67, q_67, h⟩ := bd1_some h
          refine fr_ro_i (S := Unit) (wc := [(aM, .inr (6, [.ref mN, .ref mkd, .ref mks, .ref mcd, .ref mpr, .ref msk, .ref mow, .ref mmi, .ref mst, .ref mbi, .ref msu, .ref mke, .ref mik, .int vka, .int viw])), (mN, .inl (cI, 9, .inl fN)), (mkd, .inl (cI, 8, .inl fkd)), (mcd, .inl (cI, 12, .inl fcd)), (mpr, .inl (cI, 16, .inl fpr)), (msk, .inl (cI, 16, .inl fsk))]) (fr_V (As := [.int x1, .int r_64]) (rest := []) (C := RX6) ⟨hx, hb, hml, hown, hts⟩ (tX6_gainOf aM mN mkd mcd mpr msk mks mow mmi mst mbi msu mke mik vka viw fN fkd fcd fpr fsk x1 r_64 r_67 q_67) gX6_gain_X6_gainOf rfl (fr_preV (As := [.int x1, .int r_64]) (b := aM) (ci := 6) (q0 := 0) (wc := [(aM, .inr (6, [.ref mN, .ref mkd, .ref mks, .ref mcd, .ref mpr, .ref msk, .ref mow, .ref mmi, .ref mst, .ref mbi, .ref msu, .ref mke, .ref mik, .int vka, .int viw])), (mN, .inl (cI, 9, .inl fN)), (mkd, .inl (cI, 8, .inl fkd)), (mcd, .inl (cI, 12, .inl fcd)), (mpr, .inl (cI, 16, .inl fpr)), (msk, .inl (cI, 16, .inl fsk))]) hK hN hP hD [0, 1, 2, 4, 5, 6] (by decide) rfl rfl rfl) (n := 2) (by decide +kernel) ⟨Nat.le_of_ble_eq_true rfl, Nat.le_of_ble_eq_true rfl⟩ rfl hl.1 rfl (Nat.le_of_ble_eq_true rfl) dX6_gain_67 ⟨Nat.zero_le _, Nat.zero_le _⟩) hP hD hS hA [0, 1, 2, 4, 5, 6] rfl (c2 := 0) (s2 := 0) rfl rfl (fun H locs hP hS => ?_)
          exact hret r_67 70 ls H locs rfl dX6_gain_70 hP hD hS h
        · have h := (if_pos c3).symm.trans h
          refine lv_aload_n hx hb dX6_gain_51 rfl (lv_at hl 0 rfl) ?_
          refine va_get (D := D) (ci := 6) (v := .ref mmi) (C := RX6) (T := TX6) (N := 15) hx hb hts i6 hown hK hP 0 rfl rfl 7 (by decide) (hts (.fieldLink RX6 31 RX6 "mine" "[I") (List.mem_of_getElem? (i := 4) rfl)) (fun _ h9 => h9) rfl dX6_gain_52 ?_
          refine lv_iload_n hx hb dX6_gain_55 rfl (lv_at hl 1 rfl) ?_
          obtain ⟨g4, h⟩ := no_some h
          refine va_iald hx hb hK hP 8 0 rfl rfl g4 dX6_gain_56 ?_
          refine lv_goto (tgt := 67) hx hb dX6_gain_57 (by decide) ?_
          obtain ⟨r_67, q_67, h⟩ := bd1_some h
          refine fr_ro_i (S := Unit) (wc := [(aM, .inr (6, [.ref mN, .ref mkd, .ref mks, .ref mcd, .ref mpr, .ref msk, .ref mow, .ref mmi, .ref mst, .ref mbi, .ref msu, .ref mke, .ref mik, .int vka, .int viw])), (mN, .inl (cI, 9, .inl fN)), (mkd, .inl (cI, 8, .inl fkd)), (mcd, .inl (cI, 12, .inl fcd)), (mpr, .inl (cI, 16, .inl fpr)), (msk, .inl (cI, 16, .inl fsk))]) (fr_V (As := [.int x1, .int (fmi x1.toNatClampNeg)]) (rest := []) (C := RX6) ⟨hx, hb, hml, hown, hts⟩ (tX6_gainOf aM mN mkd mcd mpr msk mks mow mmi mst mbi msu mke mik vka viw fN fkd fcd fpr fsk x1 (fmi x1.toNatClampNeg) r_67 q_67) gX6_gain_X6_gainOf rfl (fr_preV (As := [.int x1, .int (fmi x1.toNatClampNeg)]) (b := aM) (ci := 6) (q0 := 0) (wc := [(aM, .inr (6, [.ref mN, .ref mkd, .ref mks, .ref mcd, .ref mpr, .ref msk, .ref mow, .ref mmi, .ref mst, .ref mbi, .ref msu, .ref mke, .ref mik, .int vka, .int viw])), (mN, .inl (cI, 9, .inl fN)), (mkd, .inl (cI, 8, .inl fkd)), (mcd, .inl (cI, 12, .inl fcd)), (mpr, .inl (cI, 16, .inl fpr)), (msk, .inl (cI, 16, .inl fsk))]) hK hN hP hD [0, 1, 2, 4, 5, 6] (by decide) rfl rfl rfl) (n := 2) (by decide +kernel) ⟨Nat.le_of_ble_eq_true rfl, Nat.le_of_ble_eq_true rfl⟩ rfl hl.1 rfl (Nat.le_of_ble_eq_true rfl) dX6_gain_67 ⟨Nat.zero_le _, Nat.zero_le _⟩) hP hD hS hA [0, 1, 2, 4, 5, 6] rfl (c2 := 0) (s2 := 0) rfl rfl (fun H locs hP hS => ?_)
          exact hret r_67 70 ls H locs rfl dX6_gain_70 hP hD hS h
      · have h := (if_pos c2).symm.trans h
        refine lv_ldc (v := (-100000002 : Int32)) hx hb hown (hts (.constant RX6 136 (-100000002 : Int32)) (List.mem_of_getElem? (i := 3) rfl)) dX6_gain_42 ?_
        exact hret (-100000002 : Int32) 44 ls H locs rfl dX6_gain_44 hP hD hS h
    · have h := (if_pos c1).symm.trans h
      refine lv_ldc (v := (-100000001 : Int32)) hx hb hown (hts (.constant RX6 135 (-100000001 : Int32)) (List.mem_of_getElem? (i := 2) rfl)) dX6_gain_29 ?_
      exact hret (-100000001 : Int32) 31 ls H locs rfl dX6_gain_31 hP hD hS h
  unfold fX6_gain at h
  obtain ⟨H, hH⟩ : ∃ H, H = s.heap := ⟨_, rfl⟩
  have hP : va_P D vwCl [(aM, .inr (6, [.ref mN, .ref mkd, .ref mks, .ref mcd, .ref mpr, .ref msk, .ref mow, .ref mmi, .ref mst, .ref mbi, .ref msu, .ref mke, .ref mik, .int vka, .int viw])), (mN, .inl (cI, 9, .inl fN)), (mkd, .inl (cI, 8, .inl fkd)), (mks, .inl (cI, 8, .inl fks)), (mcd, .inl (cI, 12, .inl fcd)), (mpr, .inl (cI, 16, .inl fpr)), (msk, .inl (cI, 16, .inl fsk)), (mow, .inl (cI, 16, .inl fow)), (mmi, .inl (cI, 16, .inl fmi)), (mst, .inl (cI, 16, .inl fst)), (mbi, .inl (cI, 16, .inl fbi)), (msu, .inl (cI, 16, .inl fsu)), (mke, .inl (cI, 298, .inl fke)), (mik, .inl (cZ, 2, .inl fik))] H := by rw [hH]; exact hP
  obtain ⟨locs, hlocs⟩ : ∃ x : List Loc, x = [] := ⟨_, rfl⟩
  have hS : va_S A s.heap H locs := by rw [hH, hlocs]; exact hS
  suffices hgo : W p l e rX6_gain s m args below meth c H locs 0 0 Q (F0 m 0 ls []) by rw [hH, hlocs] at hgo; exact hgo
  refine lv_aload_n hx hb dX6_gain_0 rfl (lv_at hl 0 rfl) ?_
  obtain ⟨r_1, q_1, h⟩ := bd1_some h
  refine fr_ro_i (S := Unit) (wc := [(aM, .inr (6, [.ref mN, .ref mkd, .ref mks, .ref mcd, .ref mpr, .ref msk, .ref mow, .ref mmi, .ref mst, .ref mbi, .ref msu, .ref mke, .ref mik, .int vka, .int viw])), (mN, .inl (cI, 9, .inl fN))]) (fr_V (As := []) (rest := []) (C := RX6) ⟨hx, hb, hml, hown, hts⟩ (tX6_isValid aM mN mkd mks mcd mpr msk mow mmi mst mbi msu mke mik vka viw fN r_1 q_1) gX6_gain_X6_isValid rfl (fr_preV (As := []) (b := aM) (ci := 6) (q0 := 0) (wc := [(aM, .inr (6, [.ref mN, .ref mkd, .ref mks, .ref mcd, .ref mpr, .ref msk, .ref mow, .ref mmi, .ref mst, .ref mbi, .ref msu, .ref mke, .ref mik, .int vka, .int viw])), (mN, .inl (cI, 9, .inl fN))]) hK hN hP hD [0, 1] (by decide) rfl rfl rfl) (n := 0) (by decide +kernel) ⟨Nat.le_of_ble_eq_true rfl, Nat.le_of_ble_eq_true rfl⟩ rfl hl.1 rfl (Nat.le_of_ble_eq_true rfl) dX6_gain_1 ⟨Nat.zero_le _, Nat.zero_le _⟩) hP hD hS hA [0, 1] rfl (c2 := 0) (s2 := 0) rfl rfl (fun H locs hP hS => ?_)
  refine lv_if_eq (tgt := 18) hx hb dX6_gain_4 (by decide) (fun c5 => ?_) (fun c5 => ?_)
  · have h := (if_pos c5).symm.trans h
    refine lv_ldc (v := (-100000003 : Int32)) hx hb hown (hts (.constant RX6 134 (-100000003 : Int32)) (List.mem_of_getElem? (i := 1) rfl)) dX6_gain_18 ?_
    exact hret (-100000003 : Int32) 20 ls H locs rfl dX6_gain_20 hP hD hS h
  · have h := (if_neg c5).symm.trans h
    refine lv_iload_n hx hb dX6_gain_7 rfl (lv_at hl 2 rfl) ?_
    refine lv_if_ne (tgt := 21) hx hb dX6_gain_8 (by decide) (fun c6 => ?_) (fun c6 => ?_)
    · have h := (if_neg c6).symm.trans h
      exact hb21 x1 x2 H locs ls hP hD hS (lv_sub hl [0, 1, 2] rfl) h
    · have h := (if_pos c6).symm.trans h
      refine lv_aload_n hx hb dX6_gain_11 rfl (lv_at hl 0 rfl) ?_
      obtain ⟨r_12, q_12, h⟩ := bd1_some h
      refine fr_ro_i (S := Unit) (wc := [(aM, .inr (6, [.ref mN, .ref mkd, .ref mks, .ref mcd, .ref mpr, .ref msk, .ref mow, .ref mmi, .ref mst, .ref mbi, .ref msu, .ref mke, .ref mik, .int vka, .int viw])), (mN, .inl (cI, 9, .inl fN))]) (fr_V (As := []) (rest := []) (C := RX6) ⟨hx, hb, hml, hown, hts⟩ (tX6_isDone aM mN mkd mks mcd mpr msk mow mmi mst mbi msu mke mik vka viw fN r_12 q_12) gX6_gain_X6_isDone rfl (fr_preV (As := []) (b := aM) (ci := 6) (q0 := 0) (wc := [(aM, .inr (6, [.ref mN, .ref mkd, .ref mks, .ref mcd, .ref mpr, .ref msk, .ref mow, .ref mmi, .ref mst, .ref mbi, .ref msu, .ref mke, .ref mik, .int vka, .int viw])), (mN, .inl (cI, 9, .inl fN))]) hK hN hP hD [0, 1] (by decide) rfl rfl rfl) (n := 0) (by decide +kernel) ⟨Nat.le_of_ble_eq_true rfl, Nat.le_of_ble_eq_true rfl⟩ rfl hl.1 rfl (Nat.le_of_ble_eq_true rfl) dX6_gain_12 ⟨Nat.zero_le _, Nat.zero_le _⟩) hP hD hS hA [0, 1] rfl (c2 := 0) (s2 := 0) rfl rfl (fun H locs hP hS => ?_)
      refine lv_if_ne (tgt := 21) hx hb dX6_gain_15 (by decide) (fun c7 => ?_) (fun c7 => ?_)
      · have h := (if_neg c7).symm.trans h
        exact hb21 x1 x2 H locs ls hP hD hS (lv_sub hl [0, 1, 2] rfl) h
      · have h := (if_pos c7).symm.trans h
        refine lv_ldc (v := (-100000003 : Int32)) hx hb hown (hts (.constant RX6 134 (-100000003 : Int32)) (List.mem_of_getElem? (i := 1) rfl)) dX6_gain_18 ?_
        exact hret (-100000003 : Int32) 20 ls H locs rfl dX6_gain_20 hP hD hS h
def fX6_total (fN : Nat → Int32) (fkd : Nat → Int32) (fcd : Nat → Int32) (fsk : Nat → Int32) (fmi : Nat → Int32) : Option (Int32) :=
  bd1 (fX6_isDone fN) fun r_1 =>
  if r_1 = 0 then
    some (-3 : Int32)
  else
    bd1 (fX6_sumOf fN fkd fcd fsk fmi) fun r_8 =>
    some r_8
abbrev rX6_total : Room := { frames := 2, cells := 0, slots := 0, locals := 48 }
set_option maxHeartbeats 4000000 in
set_option maxRecDepth 100000 in
theorem tX6_total {l : Launch} {D : va_G} {cI cZ cP : ClassId} (aM mN mkd mks mcd mpr msk mow mmi mst mbi msu mke mik : Nat) (vka : Int32) (viw : Int32) (fN : Nat → Int32) (fkd : Nat → Int32) (fks : Nat → Int32) (fcd : Nat → Int32) (fpr : Nat → Int32) (fsk : Nat → Int32) (fow : Nat → Int32) (fmi : Nat → Int32) (fst : Nat → Int32) (fbi : Nat → Int32) (fsu : Nat → Int32) (fke : Nat → Int32) (fik : Nat → Int32) (r : Int32) (h : fX6_total fN fkd fcd fsk fmi = some r) : CtI l D cI cZ cP yX6_total wsX6_total rX6_total [.ref aM] [(aM, .inr (6, [.ref mN, .ref mkd, .ref mks, .ref mcd, .ref mpr, .ref msk, .ref mow, .ref mmi, .ref mst, .ref mbi, .ref msu, .ref mke, .ref mik, .int vka, .int viw])), (mN, .inl (cI, 9, .inl fN)), (mkd, .inl (cI, 8, .inl fkd)), (mks, .inl (cI, 8, .inl fks)), (mcd, .inl (cI, 12, .inl fcd)), (mpr, .inl (cI, 16, .inl fpr)), (msk, .inl (cI, 16, .inl fsk)), (mow, .inl (cI, 16, .inl fow)), (mmi, .inl (cI, 16, .inl fmi)), (mst, .inl (cI, 16, .inl fst)), (mbi, .inl (cI, 16, .inl fbi)), (msu, .inl (cI, 16, .inl fsu)), (mke, .inl (cI, 298, .inl fke)), (mik, .inl (cZ, 2, .inl fik))] (fun _ : Unit => [(aM, .inr (6, [.ref mN, .ref mkd, .ref mks, .ref mcd, .ref mpr, .ref msk, .ref mow, .ref mmi, .ref mst, .ref mbi, .ref msu, .ref mke, .ref mik, .int vka, .int viw])), (mN, .inl (cI, 9, .inl fN)), (mkd, .inl (cI, 8, .inl fkd)), (mks, .inl (cI, 8, .inl fks)), (mcd, .inl (cI, 12, .inl fcd)), (mpr, .inl (cI, 16, .inl fpr)), (msk, .inl (cI, 16, .inl fsk)), (mow, .inl (cI, 16, .inl fow)), (mmi, .inl (cI, 16, .inl fmi)), (mst, .inl (cI, 16, .inl fst)), (mbi, .inl (cI, 16, .inl fbi)), (msu, .inl (cI, 16, .inl fsu)), (mke, .inl (cI, 298, .inl fke)), (mik, .inl (cZ, 2, .inl fik))]) r := by
  refine CtI.ofW (cc := cX6_total) (maxL := 1) (by decide) rfl (Nat.le_of_ble_eq_true rfl) (lv := [(0, .ref aM)]) rfl ?_
  intro p e s m args below meth c A Q ls hx hb hml hown hts hK hN hP hD hS hA hl hret0
  have hown : s.vm.findClass RX6 = some m.cls := hown
  have i6 : ∀ w ∈ wsX60, w ∈ wsX6_total := mem_ps [23, 24, 25, 26, 27, 28, 29, 30, 31, 32, 33, 34, 35, 36, 37] rfl
  have hret : ∀ (v : Int32) (pc : Nat) (ls : Array Slot) (H : Heap) (locs : List Loc), narrow .int (.int v) = .int v → decode cX6_total pc = .ok (.ireturn, 1) → va_P D vwCl [(aM, .inr (6, [.ref mN, .ref mkd, .ref mks, .ref mcd, .ref mpr, .ref msk, .ref mow, .ref mmi, .ref mst, .ref mbi, .ref msu, .ref mke, .ref mik, .int vka, .int viw])), (mN, .inl (cI, 9, .inl fN)), (mkd, .inl (cI, 8, .inl fkd)), (mks, .inl (cI, 8, .inl fks)), (mcd, .inl (cI, 12, .inl fcd)), (mpr, .inl (cI, 16, .inl fpr)), (msk, .inl (cI, 16, .inl fsk)), (mow, .inl (cI, 16, .inl fow)), (mmi, .inl (cI, 16, .inl fmi)), (mst, .inl (cI, 16, .inl fst)), (mbi, .inl (cI, 16, .inl fbi)), (msu, .inl (cI, 16, .inl fsu)), (mke, .inl (cI, 298, .inl fke)), (mik, .inl (cZ, 2, .inl fik))] H → va_D A [(aM, .inr (6, [.ref mN, .ref mkd, .ref mks, .ref mcd, .ref mpr, .ref msk, .ref mow, .ref mmi, .ref mst, .ref mbi, .ref msu, .ref mke, .ref mik, .int vka, .int viw])), (mN, .inl (cI, 9, .inl fN)), (mkd, .inl (cI, 8, .inl fkd)), (mks, .inl (cI, 8, .inl fks)), (mcd, .inl (cI, 12, .inl fcd)), (mpr, .inl (cI, 16, .inl fpr)), (msk, .inl (cI, 16, .inl fsk)), (mow, .inl (cI, 16, .inl fow)), (mmi, .inl (cI, 16, .inl fmi)), (mst, .inl (cI, 16, .inl fst)), (mbi, .inl (cI, 16, .inl fbi)), (msu, .inl (cI, 16, .inl fsu)), (mke, .inl (cI, 298, .inl fke)), (mik, .inl (cZ, 2, .inl fik))] → va_S A s.heap H locs → some v = some r → W p l e rX6_total s m args below meth c H locs 0 0 Q (F0 m pc ls [.int v]) := by
    intro v pc ls H locs hn hd hP hD hS h
    cases h
    exact hret0 pc ls H locs () hn hd hP hD hS
  clear hret0
  unfold fX6_total at h
  obtain ⟨H, hH⟩ : ∃ H, H = s.heap := ⟨_, rfl⟩
  have hP : va_P D vwCl [(aM, .inr (6, [.ref mN, .ref mkd, .ref mks, .ref mcd, .ref mpr, .ref msk, .ref mow, .ref mmi, .ref mst, .ref mbi, .ref msu, .ref mke, .ref mik, .int vka, .int viw])), (mN, .inl (cI, 9, .inl fN)), (mkd, .inl (cI, 8, .inl fkd)), (mks, .inl (cI, 8, .inl fks)), (mcd, .inl (cI, 12, .inl fcd)), (mpr, .inl (cI, 16, .inl fpr)), (msk, .inl (cI, 16, .inl fsk)), (mow, .inl (cI, 16, .inl fow)), (mmi, .inl (cI, 16, .inl fmi)), (mst, .inl (cI, 16, .inl fst)), (mbi, .inl (cI, 16, .inl fbi)), (msu, .inl (cI, 16, .inl fsu)), (mke, .inl (cI, 298, .inl fke)), (mik, .inl (cZ, 2, .inl fik))] H := by rw [hH]; exact hP
  obtain ⟨locs, hlocs⟩ : ∃ x : List Loc, x = [] := ⟨_, rfl⟩
  have hS : va_S A s.heap H locs := by rw [hH, hlocs]; exact hS
  suffices hgo : W p l e rX6_total s m args below meth c H locs 0 0 Q (F0 m 0 ls []) by rw [hH, hlocs] at hgo; exact hgo
  refine lv_aload_n hx hb dX6_total_0 rfl (lv_at hl 0 rfl) ?_
  obtain ⟨r_1, q_1, h⟩ := bd1_some h
  refine fr_ro_i (S := Unit) (wc := [(aM, .inr (6, [.ref mN, .ref mkd, .ref mks, .ref mcd, .ref mpr, .ref msk, .ref mow, .ref mmi, .ref mst, .ref mbi, .ref msu, .ref mke, .ref mik, .int vka, .int viw])), (mN, .inl (cI, 9, .inl fN))]) (fr_V (As := []) (rest := []) (C := RX6) ⟨hx, hb, hml, hown, hts⟩ (tX6_isDone aM mN mkd mks mcd mpr msk mow mmi mst mbi msu mke mik vka viw fN r_1 q_1) gX6_total_X6_isDone rfl (fr_preV (As := []) (b := aM) (ci := 6) (q0 := 0) (wc := [(aM, .inr (6, [.ref mN, .ref mkd, .ref mks, .ref mcd, .ref mpr, .ref msk, .ref mow, .ref mmi, .ref mst, .ref mbi, .ref msu, .ref mke, .ref mik, .int vka, .int viw])), (mN, .inl (cI, 9, .inl fN))]) hK hN hP hD [0, 1] (by decide) rfl rfl rfl) (n := 0) (by decide +kernel) ⟨Nat.le_of_ble_eq_true rfl, Nat.le_of_ble_eq_true rfl⟩ rfl hl.1 rfl (Nat.le_of_ble_eq_true rfl) dX6_total_1 ⟨Nat.zero_le _, Nat.zero_le _⟩) hP hD hS hA [0, 1] rfl (c2 := 0) (s2 := 0) rfl rfl (fun H locs hP hS => ?_)
  refine lv_if_eq (tgt := 14) hx hb dX6_total_4 (by decide) (fun c1 => ?_) (fun c1 => ?_)
  · have h := (if_pos c1).symm.trans h
    refine lv_bipush (v := (-3 : Int32)) hx hb dX6_total_14 (by decide) ?_
    exact hret (-3 : Int32) 16 ls H locs rfl dX6_total_16 hP hD hS h
  · have h := (if_neg c1).symm.trans h
    refine lv_aload_n hx hb dX6_total_7 rfl (lv_at hl 0 rfl) ?_
    obtain ⟨r_8, q_8, h⟩ := bd1_some h
    refine fr_ro_i (S := Unit) (wc := [(aM, .inr (6, [.ref mN, .ref mkd, .ref mks, .ref mcd, .ref mpr, .ref msk, .ref mow, .ref mmi, .ref mst, .ref mbi, .ref msu, .ref mke, .ref mik, .int vka, .int viw])), (mN, .inl (cI, 9, .inl fN)), (mkd, .inl (cI, 8, .inl fkd)), (mcd, .inl (cI, 12, .inl fcd)), (msk, .inl (cI, 16, .inl fsk)), (mmi, .inl (cI, 16, .inl fmi))]) (fr_V (As := []) (rest := []) (C := RX6) ⟨hx, hb, hml, hown, hts⟩ (tX6_sumOf aM mN mkd mcd msk mmi mks mpr mow mst mbi msu mke mik vka viw fN fkd fcd fsk fmi r_8 q_8) gX6_total_X6_sumOf rfl (fr_preV (As := []) (b := aM) (ci := 6) (q0 := 0) (wc := [(aM, .inr (6, [.ref mN, .ref mkd, .ref mks, .ref mcd, .ref mpr, .ref msk, .ref mow, .ref mmi, .ref mst, .ref mbi, .ref msu, .ref mke, .ref mik, .int vka, .int viw])), (mN, .inl (cI, 9, .inl fN)), (mkd, .inl (cI, 8, .inl fkd)), (mcd, .inl (cI, 12, .inl fcd)), (msk, .inl (cI, 16, .inl fsk)), (mmi, .inl (cI, 16, .inl fmi))]) hK hN hP hD [0, 1, 2, 4, 6, 8] (by decide) rfl rfl rfl) (n := 0) (by decide +kernel) ⟨Nat.le_of_ble_eq_true rfl, Nat.le_of_ble_eq_true rfl⟩ rfl hl.1 rfl (Nat.le_of_ble_eq_true rfl) dX6_total_8 ⟨Nat.zero_le _, Nat.zero_le _⟩) hP hD hS hA [0, 1, 2, 4, 6, 8] rfl (c2 := 0) (s2 := 0) rfl rfl (fun H locs hP hS => ?_)
    refine lv_goto (tgt := 16) hx hb dX6_total_11 (by decide) ?_
    exact hret r_8 16 ls H locs rfl dX6_total_16 hP hD hS h
def fX6_passRow_b31 (viw : Int32) (nRo : Nat) (k2 : Int32 → Int32 → Int32 → (Nat → Int32) → (Nat → Int32) → Option (Int32 × (Nat → Int32) × (Nat → Int32))) (x2 : Int32) (x3 : Int32) (y0 : Int32) (y1 : Int32) (vka : Int32) (fke : Nat → Int32) (fRo : Nat → Int32) : Option (Int32 × (Nat → Int32) × (Nat → Int32)) :=
  if y1 < 0 ∨ nRo ≤ y1.toNatClampNeg then none else
  if x3 < 0 ∨ nRo ≤ x3.toNatClampNeg then none else
  if vka < 0 ∨ 298 ≤ vka.toNatClampNeg then none else
  k2 x2 (x3 + 1) (vka + (1 : Int32)) (upd fke vka.toNatClampNeg ((upd fRo y1.toNatClampNeg y0) x3.toNatClampNeg)) (upd fRo y1.toNatClampNeg y0)
def fX6_passRow_b2 (viw : Int32) (nRo : Nat) : Nat → Int32 → Int32 → Int32 → (Nat → Int32) → (Nat → Int32) → Option (Int32 × (Nat → Int32) × (Nat → Int32))
  | 0, _, _, _, _, _ => none
  | n + 1, x2, x3, vka, fke, fRo =>
    if x2 ≤ x3 then
      some (vka, fke, fRo)
    else
      if viw = 0 then
        if vka < 0 ∨ 298 ≤ vka.toNatClampNeg then none else
        fX6_passRow_b31 viw nRo (fun x2 x3 vka fke fRo => fX6_passRow_b2 viw nRo n x2 x3 vka fke fRo) x2 x3 (fke vka.toNatClampNeg) x3 vka fke fRo
      else
        if x3 < 0 ∨ nRo ≤ x3.toNatClampNeg then none else
        fX6_passRow_b31 viw nRo (fun x2 x3 vka fke fRo => fX6_passRow_b2 viw nRo n x2 x3 vka fke fRo) x2 x3 (fRo x3.toNatClampNeg) x3 vka fke fRo
def fX6_passRow (vka : Int32) (viw : Int32) (fke : Nat → Int32) (fRo : Nat → Int32) (nRo : Nat) (x2 : Int32) : Option (Int32 × (Nat → Int32) × (Nat → Int32)) :=
  fX6_passRow_b2 viw nRo FU x2 (0 : Int32) vka fke fRo
abbrev rX6_passRow : Room := { frames := 0, cells := 0, slots := 0, locals := 0 }
set_option maxHeartbeats 4000000 in
set_option maxRecDepth 100000 in
theorem tX6_passRow {l : Launch} {D : va_G} {cI cZ cP : ClassId} (aM mke aR mN mkd mks mcd mpr msk mow mmi mst mbi msu mik : Nat) (nRo : Nat) (vka : Int32) (viw : Int32) (fke : Nat → Int32) (fRo : Nat → Int32) (x2 : Int32) (oka : Int32) (oke : Nat → Int32) (oRo : Nat → Int32) (h : fX6_passRow vka viw fke fRo nRo x2 = some (oka, oke, oRo)) : CtV l D cI cZ cP yX6_passRow wsX6_passRow rX6_passRow [.ref aM, .ref aR, .int x2] [(aM, .inr (6, [.ref mN, .ref mkd, .ref mks, .ref mcd, .ref mpr, .ref msk, .ref mow, .ref mmi, .ref mst, .ref mbi, .ref msu, .ref mke, .ref mik, .int vka, .int viw])), (mke, .inl (cI, 298, .inl fke)), (aR, .inl (cI, nRo, .inl fRo))] (fun _ : Unit => [(aM, .inr (6, [.ref mN, .ref mkd, .ref mks, .ref mcd, .ref mpr, .ref msk, .ref mow, .ref mmi, .ref mst, .ref mbi, .ref msu, .ref mke, .ref mik, .int oka, .int viw])), (mke, .inl (cI, 298, .inl oke)), (aR, .inl (cI, nRo, .inl oRo))]) := by
  refine CtV.ofW (cc := cX6_passRow) (maxL := 4) (by decide) rfl (Nat.le_of_ble_eq_true rfl) (lv := [(0, .ref aM), (1, .ref aR), (2, .int x2)]) rfl ?_
  intro p e s m args below meth c A Q ls hx hb hml hown hts hK hN hP hD hS hA hl hin hret0
  have hown : s.vm.findClass RX6 = some m.cls := hown
  have i6 : ∀ w ∈ wsX60, w ∈ wsX6_passRow := mem_ps [4, 5, 6, 7, 8, 9, 10, 11, 12, 13, 14, 15, 16, 17, 18] rfl
  have hret : ∀ (zka : Int32) (zke : Nat → Int32) (zRo : Nat → Int32) (pc : Nat) (ls : Array Slot) (H : Heap) (locs : List Loc), decode cX6_passRow pc = .ok (.return_, 1) → va_P D vwCl [(aM, .inr (6, [.ref mN, .ref mkd, .ref mks, .ref mcd, .ref mpr, .ref msk, .ref mow, .ref mmi, .ref mst, .ref mbi, .ref msu, .ref mke, .ref mik, .int zka, .int viw])), (mke, .inl (cI, 298, .inl zke)), (aR, .inl (cI, nRo, .inl zRo))] H → va_D A [(aM, .inr (6, [.ref mN, .ref mkd, .ref mks, .ref mcd, .ref mpr, .ref msk, .ref mow, .ref mmi, .ref mst, .ref mbi, .ref msu, .ref mke, .ref mik, .int zka, .int viw])), (mke, .inl (cI, 298, .inl zke)), (aR, .inl (cI, nRo, .inl zRo))] → va_S A s.heap H locs → some (zka, zke, zRo) = some (oka, oke, oRo) → W p l e rX6_passRow s m args below meth c H locs 0 0 Q (F0 m pc ls []) := by
    intro zka zke zRo pc ls H locs hd hP hD hS h
    cases h
    exact hret0 pc ls H locs () hd hP hD hS
  clear hret0
  have hb31 : ∀ (k2 : Int32 → Int32 → Int32 → (Nat → Int32) → (Nat → Int32) → Option (Int32 × (Nat → Int32) × (Nat → Int32))) (hk2 : ∀ (x2 : Int32) (x3 : Int32) (vka : Int32) (fke : Nat → Int32) (fRo : Nat → Int32) (H : Heap) (locs : List Loc) (ls : Array Slot), va_P D vwCl [(aM, .inr (6, [.ref mN, .ref mkd, .ref mks, .ref mcd, .ref mpr, .ref msk, .ref mow, .ref mmi, .ref mst, .ref mbi, .ref msu, .ref mke, .ref mik, .int vka, .int viw])), (mke, .inl (cI, 298, .inl fke)), (aR, .inl (cI, nRo, .inl fRo))] H → va_D A [(aM, .inr (6, [.ref mN, .ref mkd, .ref mks, .ref mcd, .ref mpr, .ref msk, .ref mow, .ref mmi, .ref mst, .ref mbi, .ref msu, .ref mke, .ref mik, .int vka, .int viw])), (mke, .inl (cI, 298, .inl fke)), (aR, .inl (cI, nRo, .inl fRo))] → va_S A s.heap H locs → lv_has ls 4 [(0, .ref aM), (1, .ref aR), (2, .int x2), (3, .int x3)] → k2 x2 x3 vka fke fRo = some (oka, oke, oRo) → W p l e rX6_passRow s m args below meth c H locs 0 0 Q (F0 m 2 ls [])) (x2 : Int32) (x3 : Int32) (y0 : Int32) (y1 : Int32) (vka : Int32) (fke : Nat → Int32) (fRo : Nat → Int32) (H : Heap) (locs : List Loc) (ls : Array Slot), va_P D vwCl [(aM, .inr (6, [.ref mN, .ref mkd, .ref mks, .ref mcd, .ref mpr, .ref msk, .ref mow, .ref mmi, .ref mst, .ref mbi, .ref msu, .ref mke, .ref mik, .int vka, .int viw])), (mke, .inl (cI, 298, .inl fke)), (aR, .inl (cI, nRo, .inl fRo))] H → va_D A [(aM, .inr (6, [.ref mN, .ref mkd, .ref mks, .ref mcd, .ref mpr, .ref msk, .ref mow, .ref mmi, .ref mst, .ref mbi, .ref msu, .ref mke, .ref mik, .int vka, .int viw])), (mke, .inl (cI, 298, .inl fke)), (aR, .inl (cI, nRo, .inl fRo))] → va_S A s.heap H locs → lv_has ls 4 [(0, .ref aM), (1, .ref aR), (2, .int x2), (3, .int x3)] → fX6_passRow_b31 viw nRo k2 x2 x3 y0 y1 vka fke fRo = some (oka, oke, oRo) → W p l e rX6_passRow s m args below meth c H locs 0 0 Q (F0 m 31 ls [.int y0, .int y1, .ref aR]) := by
    intro k2 hk2 x2 x3 y0 y1 vka fke fRo H locs ls hP hD hS hl h
    unfold fX6_passRow_b31 at h
    obtain ⟨g1, h⟩ := no_some h
    refine va_iast hx hb hK hP hD hS 2 0 rfl rfl g1 dX6_passRow_31 (fun H locs hP hD hS => ?_)
    have hP : va_P D vwCl [(aM, .inr (6, [.ref mN, .ref mkd, .ref mks, .ref mcd, .ref mpr, .ref msk, .ref mow, .ref mmi, .ref mst, .ref mbi, .ref msu, .ref mke, .ref mik, .int vka, .int viw])), (mke, .inl (cI, 298, .inl fke)), (aR, .inl (cI, nRo, .inl (upd fRo y1.toNatClampNeg y0)))] H := hP
    have hD : va_D A [(aM, .inr (6, [.ref mN, .ref mkd, .ref mks, .ref mcd, .ref mpr, .ref msk, .ref mow, .ref mmi, .ref mst, .ref mbi, .ref msu, .ref mke, .ref mik, .int vka, .int viw])), (mke, .inl (cI, 298, .inl fke)), (aR, .inl (cI, nRo, .inl (upd fRo y1.toNatClampNeg y0)))] := hD
    refine lv_aload_n hx hb dX6_passRow_32 rfl (lv_at hl 0 rfl) ?_
    refine va_get (D := D) (ci := 6) (v := .ref mke) (C := RX6) (T := TX6) (N := 15) hx hb hts i6 hown hK hP 0 rfl rfl 11 (by decide) (hts (.fieldLink RX6 43 RX6 "kept" "[I") (List.mem_of_getElem? (i := 2) rfl)) (fun _ h9 => h9) rfl dX6_passRow_33 ?_
    refine lv_aload_n hx hb dX6_passRow_36 rfl (lv_at hl 0 rfl) ?_
    refine va_get (D := D) (ci := 6) (v := .int vka) (C := RX6) (T := TX6) (N := 15) hx hb hts i6 hown hK hP 0 rfl rfl 13 (by decide) (hts (.fieldLink RX6 141 RX6 "keptAt" "I") (List.mem_of_getElem? (i := 3) rfl)) (fun _ h9 => h9) rfl dX6_passRow_37 ?_
    refine lv_aload_n hx hb dX6_passRow_40 rfl (lv_at hl 1 rfl) ?_
    refine lv_iload_n hx hb dX6_passRow_41 rfl (lv_at hl 3 rfl) ?_
    obtain ⟨g2, h⟩ := no_some h
    refine va_iald hx hb hK hP 2 0 rfl rfl g2 dX6_passRow_42 ?_
    obtain ⟨g3, h⟩ := no_some h
    refine va_iast hx hb hK hP hD hS 1 0 rfl rfl g3 dX6_passRow_43 (fun H locs hP hD hS => ?_)
    have hP : va_P D vwCl [(aM, .inr (6, [.ref mN, .ref mkd, .ref mks, .ref mcd, .ref mpr, .ref msk, .ref mow, .ref mmi, .ref mst, .ref mbi, .ref msu, .ref mke, .ref mik, .int vka, .int viw])), (mke, .inl (cI, 298, .inl (upd fke vka.toNatClampNeg ((upd fRo y1.toNatClampNeg y0) x3.toNatClampNeg)))), (aR, .inl (cI, nRo, .inl (upd fRo y1.toNatClampNeg y0)))] H := hP
    have hD : va_D A [(aM, .inr (6, [.ref mN, .ref mkd, .ref mks, .ref mcd, .ref mpr, .ref msk, .ref mow, .ref mmi, .ref mst, .ref mbi, .ref msu, .ref mke, .ref mik, .int vka, .int viw])), (mke, .inl (cI, 298, .inl (upd fke vka.toNatClampNeg ((upd fRo y1.toNatClampNeg y0) x3.toNatClampNeg)))), (aR, .inl (cI, nRo, .inl (upd fRo y1.toNatClampNeg y0)))] := hD
    refine lv_aload_n hx hb dX6_passRow_44 rfl (lv_at hl 0 rfl) ?_
    refine lv_dup hx hb dX6_passRow_45 rfl ?_
    refine va_get (D := D) (ci := 6) (v := .int vka) (C := RX6) (T := TX6) (N := 15) hx hb hts i6 hown hK hP 0 rfl rfl 13 (by decide) (hts (.fieldLink RX6 141 RX6 "keptAt" "I") (List.mem_of_getElem? (i := 3) rfl)) (fun _ h9 => h9) rfl dX6_passRow_46 ?_
    refine lv_iconst (v := (1 : Int32)) hx hb dX6_passRow_49 (by decide) ?_
    refine lv_iadd hx hb dX6_passRow_50 ?_
    refine va_put (D := D) (ci := 6) (v := .int (vka + (1 : Int32))) (ty := .int) (C := RX6) (T := TX6) (N := 15) hx hb hts i6 tyX6 tyX6_ok nmX6 hown hK hP hD hS 0 rfl rfl 13 (by decide) (hts (.fieldLink RX6 141 RX6 "keptAt" "I") (List.mem_of_getElem? (i := 3) rfl)) (fun _ h9 => h9) rfl (by decide +kernel) rfl rfl (Nat.le_of_ble_eq_true rfl) dX6_passRow_51 (fun H locs hP hD hS => ?_)
    have hP : va_P D vwCl [(aM, .inr (6, [.ref mN, .ref mkd, .ref mks, .ref mcd, .ref mpr, .ref msk, .ref mow, .ref mmi, .ref mst, .ref mbi, .ref msu, .ref mke, .ref mik, .int (vka + (1 : Int32)), .int viw])), (mke, .inl (cI, 298, .inl (upd fke vka.toNatClampNeg ((upd fRo y1.toNatClampNeg y0) x3.toNatClampNeg)))), (aR, .inl (cI, nRo, .inl (upd fRo y1.toNatClampNeg y0)))] H := hP
    have hD : va_D A [(aM, .inr (6, [.ref mN, .ref mkd, .ref mks, .ref mcd, .ref mpr, .ref msk, .ref mow, .ref mmi, .ref mst, .ref mbi, .ref msu, .ref mke, .ref mik, .int (vka + (1 : Int32)), .int viw])), (mke, .inl (cI, 298, .inl (upd fke vka.toNatClampNeg ((upd fRo y1.toNatClampNeg y0) x3.toNatClampNeg)))), (aR, .inl (cI, nRo, .inl (upd fRo y1.toNatClampNeg y0)))] := hD
    refine lv_iinc (v := x3 + 1) (lv' := [(3, .int (x3 + 1)), (0, .ref aM), (1, .ref aR), (2, .int x2)]) hx hb dX6_passRow_54 hl (k := 3) rfl rfl (by decide) rfl (fun ls hl => ?_)
    refine lv_goto (tgt := 2) hx hb dX6_passRow_57 (by decide) ?_
    exact hk2 x2 (x3 + 1) (vka + (1 : Int32)) (upd fke vka.toNatClampNeg ((upd fRo y1.toNatClampNeg y0) x3.toNatClampNeg)) (upd fRo y1.toNatClampNeg y0) H locs ls hP hD hS (lv_sub hl [1, 2, 3, 0] rfl) h
  have hb2 : ∀ (n : Nat) (x2 : Int32) (x3 : Int32) (vka : Int32) (fke : Nat → Int32) (fRo : Nat → Int32) (H : Heap) (locs : List Loc) (ls : Array Slot), va_P D vwCl [(aM, .inr (6, [.ref mN, .ref mkd, .ref mks, .ref mcd, .ref mpr, .ref msk, .ref mow, .ref mmi, .ref mst, .ref mbi, .ref msu, .ref mke, .ref mik, .int vka, .int viw])), (mke, .inl (cI, 298, .inl fke)), (aR, .inl (cI, nRo, .inl fRo))] H → va_D A [(aM, .inr (6, [.ref mN, .ref mkd, .ref mks, .ref mcd, .ref mpr, .ref msk, .ref mow, .ref mmi, .ref mst, .ref mbi, .ref msu, .ref mke, .ref mik, .int vka, .int viw])), (mke, .inl (cI, 298, .inl fke)), (aR, .inl (cI, nRo, .inl fRo))] → va_S A s.heap H locs → lv_has ls 4 [(0, .ref aM), (1, .ref aR), (2, .int x2), (3, .int x3)] → fX6_passRow_b2 viw nRo n x2 x3 vka fke fRo = some (oka, oke, oRo) → W p l e rX6_passRow s m args below meth c H locs 0 0 Q (F0 m 2 ls []) := by
    intro n
    induction n with
    | zero => intro x2 x3 vka fke fRo H locs ls hP hD hS hl h; exact absurd h (by rw [fX6_passRow_b2]; exact fun z => by cases z)
    | succ n ih =>
      intro x2 x3 vka fke fRo H locs ls hP hD hS hl h
      rw [fX6_passRow_b2] at h
      refine lv_iload_n hx hb dX6_passRow_2 rfl (lv_at hl 3 rfl) ?_
      refine lv_iload_n hx hb dX6_passRow_3 rfl (lv_at hl 2 rfl) ?_
      refine lv_icmp_ge (tgt := 60) hx hb dX6_passRow_4 (by decide) (fun c4 => ?_) (fun c4 => ?_)
      · have h := (if_pos c4).symm.trans h
        exact hret vka fke fRo 60 ls H locs dX6_passRow_60 hP hD hS h
      · have h := (if_neg c4).symm.trans h
        refine lv_aload_n hx hb dX6_passRow_7 rfl (lv_at hl 1 rfl) ?_
        refine lv_iload_n hx hb dX6_passRow_8 rfl (lv_at hl 3 rfl) ?_
        refine lv_aload_n hx hb dX6_passRow_9 rfl (lv_at hl 0 rfl) ?_
        refine va_get (D := D) (ci := 6) (v := .int viw) (C := RX6) (T := TX6) (N := 15) hx hb hts i6 hown hK hP 0 rfl rfl 14 (by decide) (hts (.fieldLink RX6 137 RX6 "isWriting" "Z") (List.mem_of_getElem? (i := 1) rfl)) (fun _ h9 => h9) rfl dX6_passRow_10 ?_
        refine lv_if_eq (tgt := 22) hx hb dX6_passRow_13 (by decide) (fun c5 => ?_) (fun c5 => ?_)
        · have h := (if_pos c5).symm.trans h
          refine lv_aload_n hx hb dX6_passRow_22 rfl (lv_at hl 0 rfl) ?_
          refine va_get (D := D) (ci := 6) (v := .ref mke) (C := RX6) (T := TX6) (N := 15) hx hb hts i6 hown hK hP 0 rfl rfl 11 (by decide) (hts (.fieldLink RX6 43 RX6 "kept" "[I") (List.mem_of_getElem? (i := 2) rfl)) (fun _ h9 => h9) rfl dX6_passRow_23 ?_
          refine lv_aload_n hx hb dX6_passRow_26 rfl (lv_at hl 0 rfl) ?_
          refine va_get (D := D) (ci := 6) (v := .int vka) (C := RX6) (T := TX6) (N := 15) hx hb hts i6 hown hK hP 0 rfl rfl 13 (by decide) (hts (.fieldLink RX6 141 RX6 "keptAt" "I") (List.mem_of_getElem? (i := 3) rfl)) (fun _ h9 => h9) rfl dX6_passRow_27 ?_
          obtain ⟨g6, h⟩ := no_some h
          refine va_iald hx hb hK hP 1 0 rfl rfl g6 dX6_passRow_30 ?_
          exact hb31 (fun x2 x3 vka fke fRo => fX6_passRow_b2 viw nRo n x2 x3 vka fke fRo) ih x2 x3 (fke vka.toNatClampNeg) x3 vka fke fRo H locs ls hP hD hS (lv_sub hl [0, 1, 2, 3] rfl) h
        · have h := (if_neg c5).symm.trans h
          refine lv_aload_n hx hb dX6_passRow_16 rfl (lv_at hl 1 rfl) ?_
          refine lv_iload_n hx hb dX6_passRow_17 rfl (lv_at hl 3 rfl) ?_
          obtain ⟨g7, h⟩ := no_some h
          refine va_iald hx hb hK hP 2 0 rfl rfl g7 dX6_passRow_18 ?_
          refine lv_goto (tgt := 31) hx hb dX6_passRow_19 (by decide) ?_
          exact hb31 (fun x2 x3 vka fke fRo => fX6_passRow_b2 viw nRo n x2 x3 vka fke fRo) ih x2 x3 (fRo x3.toNatClampNeg) x3 vka fke fRo H locs ls hP hD hS (lv_sub hl [0, 1, 2, 3] rfl) h
  unfold fX6_passRow at h
  obtain ⟨H, hH⟩ : ∃ H, H = s.heap := ⟨_, rfl⟩
  have hP : va_P D vwCl [(aM, .inr (6, [.ref mN, .ref mkd, .ref mks, .ref mcd, .ref mpr, .ref msk, .ref mow, .ref mmi, .ref mst, .ref mbi, .ref msu, .ref mke, .ref mik, .int vka, .int viw])), (mke, .inl (cI, 298, .inl fke)), (aR, .inl (cI, nRo, .inl fRo))] H := by rw [hH]; exact hP
  obtain ⟨locs, hlocs⟩ : ∃ x : List Loc, x = [] := ⟨_, rfl⟩
  have hS : va_S A s.heap H locs := by rw [hH, hlocs]; exact hS
  suffices hgo : W p l e rX6_passRow s m args below meth c H locs 0 0 Q (F0 m 0 ls []) by rw [hH, hlocs] at hgo; exact hgo
  refine lv_iconst (v := (0 : Int32)) hx hb dX6_passRow_0 (by decide) ?_
  refine lv_istore_n (lv' := [(3, .int (0 : Int32)), (0, .ref aM), (1, .ref aR), (2, .int x2)]) hx hb dX6_passRow_1 rfl hl (by decide) rfl (fun ls hl => ?_)
  exact hb2 FU x2 (0 : Int32) vka fke fRo H locs ls hP hD hS (lv_sub hl [1, 2, 3, 0] rfl) h
def fX6_passAll (vka : Int32) (viw : Int32) (fN : Nat → Int32) (fkd : Nat → Int32) (fks : Nat → Int32) (fcd : Nat → Int32) (fpr : Nat → Int32) (fsk : Nat → Int32) (fow : Nat → Int32) (fmi : Nat → Int32) (fst : Nat → Int32) (fbi : Nat → Int32) (fsu : Nat → Int32) (fke : Nat → Int32) : Option (Int32 × (Nat → Int32) × (Nat → Int32) × (Nat → Int32) × (Nat → Int32) × (Nat → Int32) × (Nat → Int32) × (Nat → Int32) × (Nat → Int32) × (Nat → Int32) × (Nat → Int32) × (Nat → Int32) × (Nat → Int32)) :=
  bd3 (fX6_passRow vka viw fke fN 9 (9 : Int32)) fun vka_7 fke_7 fN_7 =>
  bd3 (fX6_passRow vka_7 viw fke_7 fkd 8 (8 : Int32)) fun vka_17 fke_17 fkd_17 =>
  bd3 (fX6_passRow vka_17 viw fke_17 fks 8 (8 : Int32)) fun vka_27 fke_27 fks_27 =>
  bd3 (fX6_passRow vka_27 viw fke_27 fcd 12 (12 : Int32)) fun vka_37 fke_37 fcd_37 =>
  bd3 (fX6_passRow vka_37 viw fke_37 fpr 16 (16 : Int32)) fun vka_47 fke_47 fpr_47 =>
  bd3 (fX6_passRow vka_47 viw fke_47 fsk 16 (16 : Int32)) fun vka_57 fke_57 fsk_57 =>
  bd3 (fX6_passRow vka_57 viw fke_57 fow 16 (16 : Int32)) fun vka_67 fke_67 fow_67 =>
  bd3 (fX6_passRow vka_67 viw fke_67 fmi 16 (16 : Int32)) fun vka_77 fke_77 fmi_77 =>
  bd3 (fX6_passRow vka_77 viw fke_77 fst 16 (16 : Int32)) fun vka_87 fke_87 fst_87 =>
  bd3 (fX6_passRow vka_87 viw fke_87 fbi 16 (16 : Int32)) fun vka_97 fke_97 fbi_97 =>
  bd3 (fX6_passRow vka_97 viw fke_97 fsu 16 (16 : Int32)) fun vka_107 fke_107 fsu_107 =>
  some (vka_107, fN_7, fkd_17, fks_27, fcd_37, fpr_47, fsk_57, fow_67, fmi_77, fst_87, fbi_97, fsu_107, fke_107)
abbrev rX6_passAll : Room := { frames := 1, cells := 0, slots := 0, locals := 23 }
set_option maxHeartbeats 4000000 in
set_option maxRecDepth 100000 in
theorem tX6_passAll {l : Launch} {D : va_G} {cI cZ cP : ClassId} (aM mN mkd mks mcd mpr msk mow mmi mst mbi msu mke mik : Nat) (vka : Int32) (viw : Int32) (fN : Nat → Int32) (fkd : Nat → Int32) (fks : Nat → Int32) (fcd : Nat → Int32) (fpr : Nat → Int32) (fsk : Nat → Int32) (fow : Nat → Int32) (fmi : Nat → Int32) (fst : Nat → Int32) (fbi : Nat → Int32) (fsu : Nat → Int32) (fke : Nat → Int32) (oka : Int32) (oN : Nat → Int32) (okd : Nat → Int32) (oks : Nat → Int32) (ocd : Nat → Int32) (opr : Nat → Int32) (osk : Nat → Int32) (oow : Nat → Int32) (omi : Nat → Int32) (ost : Nat → Int32) (obi : Nat → Int32) (osu : Nat → Int32) (oke : Nat → Int32) (h : fX6_passAll vka viw fN fkd fks fcd fpr fsk fow fmi fst fbi fsu fke = some (oka, oN, okd, oks, ocd, opr, osk, oow, omi, ost, obi, osu, oke)) : CtV l D cI cZ cP yX6_passAll wsX6_passAll rX6_passAll [.ref aM] [(aM, .inr (6, [.ref mN, .ref mkd, .ref mks, .ref mcd, .ref mpr, .ref msk, .ref mow, .ref mmi, .ref mst, .ref mbi, .ref msu, .ref mke, .ref mik, .int vka, .int viw])), (mN, .inl (cI, 9, .inl fN)), (mkd, .inl (cI, 8, .inl fkd)), (mks, .inl (cI, 8, .inl fks)), (mcd, .inl (cI, 12, .inl fcd)), (mpr, .inl (cI, 16, .inl fpr)), (msk, .inl (cI, 16, .inl fsk)), (mow, .inl (cI, 16, .inl fow)), (mmi, .inl (cI, 16, .inl fmi)), (mst, .inl (cI, 16, .inl fst)), (mbi, .inl (cI, 16, .inl fbi)), (msu, .inl (cI, 16, .inl fsu)), (mke, .inl (cI, 298, .inl fke))] (fun _ : Unit => [(aM, .inr (6, [.ref mN, .ref mkd, .ref mks, .ref mcd, .ref mpr, .ref msk, .ref mow, .ref mmi, .ref mst, .ref mbi, .ref msu, .ref mke, .ref mik, .int oka, .int viw])), (mN, .inl (cI, 9, .inl oN)), (mkd, .inl (cI, 8, .inl okd)), (mks, .inl (cI, 8, .inl oks)), (mcd, .inl (cI, 12, .inl ocd)), (mpr, .inl (cI, 16, .inl opr)), (msk, .inl (cI, 16, .inl osk)), (mow, .inl (cI, 16, .inl oow)), (mmi, .inl (cI, 16, .inl omi)), (mst, .inl (cI, 16, .inl ost)), (mbi, .inl (cI, 16, .inl obi)), (msu, .inl (cI, 16, .inl osu)), (mke, .inl (cI, 298, .inl oke))]) := by
  refine CtV.ofW (cc := cX6_passAll) (maxL := 1) (by decide) rfl (Nat.le_of_ble_eq_true rfl) (lv := [(0, .ref aM)]) rfl ?_
  intro p e s m args below meth c A Q ls hx hb hml hown hts hK hN hP hD hS hA hl hin hret0
  have hown : s.vm.findClass RX6 = some m.cls := hown
  have i6 : ∀ w ∈ wsX60, w ∈ wsX6_passAll := mem_ps [20, 21, 22, 23, 24, 25, 26, 27, 28, 29, 30, 31, 32, 33, 34] rfl
  have hret : ∀ (zka : Int32) (zN : Nat → Int32) (zkd : Nat → Int32) (zks : Nat → Int32) (zcd : Nat → Int32) (zpr : Nat → Int32) (zsk : Nat → Int32) (zow : Nat → Int32) (zmi : Nat → Int32) (zst : Nat → Int32) (zbi : Nat → Int32) (zsu : Nat → Int32) (zke : Nat → Int32) (pc : Nat) (ls : Array Slot) (H : Heap) (locs : List Loc), decode cX6_passAll pc = .ok (.return_, 1) → va_P D vwCl [(aM, .inr (6, [.ref mN, .ref mkd, .ref mks, .ref mcd, .ref mpr, .ref msk, .ref mow, .ref mmi, .ref mst, .ref mbi, .ref msu, .ref mke, .ref mik, .int zka, .int viw])), (mN, .inl (cI, 9, .inl zN)), (mkd, .inl (cI, 8, .inl zkd)), (mks, .inl (cI, 8, .inl zks)), (mcd, .inl (cI, 12, .inl zcd)), (mpr, .inl (cI, 16, .inl zpr)), (msk, .inl (cI, 16, .inl zsk)), (mow, .inl (cI, 16, .inl zow)), (mmi, .inl (cI, 16, .inl zmi)), (mst, .inl (cI, 16, .inl zst)), (mbi, .inl (cI, 16, .inl zbi)), (msu, .inl (cI, 16, .inl zsu)), (mke, .inl (cI, 298, .inl zke))] H → va_D A [(aM, .inr (6, [.ref mN, .ref mkd, .ref mks, .ref mcd, .ref mpr, .ref msk, .ref mow, .ref mmi, .ref mst, .ref mbi, .ref msu, .ref mke, .ref mik, .int zka, .int viw])), (mN, .inl (cI, 9, .inl zN)), (mkd, .inl (cI, 8, .inl zkd)), (mks, .inl (cI, 8, .inl zks)), (mcd, .inl (cI, 12, .inl zcd)), (mpr, .inl (cI, 16, .inl zpr)), (msk, .inl (cI, 16, .inl zsk)), (mow, .inl (cI, 16, .inl zow)), (mmi, .inl (cI, 16, .inl zmi)), (mst, .inl (cI, 16, .inl zst)), (mbi, .inl (cI, 16, .inl zbi)), (msu, .inl (cI, 16, .inl zsu)), (mke, .inl (cI, 298, .inl zke))] → va_S A s.heap H locs → some (zka, zN, zkd, zks, zcd, zpr, zsk, zow, zmi, zst, zbi, zsu, zke) = some (oka, oN, okd, oks, ocd, opr, osk, oow, omi, ost, obi, osu, oke) → W p l e rX6_passAll s m args below meth c H locs 0 0 Q (F0 m pc ls []) := by
    intro zka zN zkd zks zcd zpr zsk zow zmi zst zbi zsu zke pc ls H locs hd hP hD hS h
    cases h
    exact hret0 pc ls H locs () hd hP hD hS
  clear hret0
  unfold fX6_passAll at h
  obtain ⟨H, hH⟩ : ∃ H, H = s.heap := ⟨_, rfl⟩
  have hP : va_P D vwCl [(aM, .inr (6, [.ref mN, .ref mkd, .ref mks, .ref mcd, .ref mpr, .ref msk, .ref mow, .ref mmi, .ref mst, .ref mbi, .ref msu, .ref mke, .ref mik, .int vka, .int viw])), (mN, .inl (cI, 9, .inl fN)), (mkd, .inl (cI, 8, .inl fkd)), (mks, .inl (cI, 8, .inl fks)), (mcd, .inl (cI, 12, .inl fcd)), (mpr, .inl (cI, 16, .inl fpr)), (msk, .inl (cI, 16, .inl fsk)), (mow, .inl (cI, 16, .inl fow)), (mmi, .inl (cI, 16, .inl fmi)), (mst, .inl (cI, 16, .inl fst)), (mbi, .inl (cI, 16, .inl fbi)), (msu, .inl (cI, 16, .inl fsu)), (mke, .inl (cI, 298, .inl fke))] H := by rw [hH]; exact hP
  obtain ⟨locs, hlocs⟩ : ∃ x : List Loc, x = [] := ⟨_, rfl⟩
  have hS : va_S A s.heap H locs := by rw [hH, hlocs]; exact hS
  suffices hgo : W p l e rX6_passAll s m args below meth c H locs 0 0 Q (F0 m 0 ls []) by rw [hH, hlocs] at hgo; exact hgo
  refine lv_aload_n hx hb dX6_passAll_0 rfl (lv_at hl 0 rfl) ?_
  refine lv_aload_n hx hb dX6_passAll_1 rfl (lv_at hl 0 rfl) ?_
  refine va_get (D := D) (ci := 6) (v := .ref mN) (C := RX6) (T := TX6) (N := 15) hx hb hts i6 hown hK hP 0 rfl rfl 0 (by decide) (hts (.fieldLink RX6 7 RX6 "now" "[I") (List.mem_of_getElem? (i := 1) rfl)) (fun _ h9 => h9) rfl dX6_passAll_2 ?_
  refine lv_bipush (v := (9 : Int32)) hx hb dX6_passAll_5 (by decide) ?_
  obtain ⟨vka_7, fke_7, fN_7, q_7, h⟩ := bd3_some h
  refine fr_rw_v (S := Unit) (wc := [(aM, .inr (6, [.ref mN, .ref mkd, .ref mks, .ref mcd, .ref mpr, .ref msk, .ref mow, .ref mmi, .ref mst, .ref mbi, .ref msu, .ref mke, .ref mik, .int vka, .int viw])), (mke, .inl (cI, 298, .inl fke)), (mN, .inl (cI, 9, .inl fN))]) (wc' := fun _ => [(aM, .inr (6, [.ref mN, .ref mkd, .ref mks, .ref mcd, .ref mpr, .ref msk, .ref mow, .ref mmi, .ref mst, .ref mbi, .ref msu, .ref mke, .ref mik, .int vka_7, .int viw])), (mke, .inl (cI, 298, .inl fke_7)), (mN, .inl (cI, 9, .inl fN_7))]) (wr := [(mkd, .inl (cI, 8, .inl fkd)), (mks, .inl (cI, 8, .inl fks)), (mcd, .inl (cI, 12, .inl fcd)), (mpr, .inl (cI, 16, .inl fpr)), (msk, .inl (cI, 16, .inl fsk)), (mow, .inl (cI, 16, .inl fow)), (mmi, .inl (cI, 16, .inl fmi)), (mst, .inl (cI, 16, .inl fst)), (mbi, .inl (cI, 16, .inl fbi)), (msu, .inl (cI, 16, .inl fsu))]) (w2 := fun _ => [(aM, .inr (6, [.ref mN, .ref mkd, .ref mks, .ref mcd, .ref mpr, .ref msk, .ref mow, .ref mmi, .ref mst, .ref mbi, .ref msu, .ref mke, .ref mik, .int vka_7, .int viw])), (mN, .inl (cI, 9, .inl fN_7)), (mkd, .inl (cI, 8, .inl fkd)), (mks, .inl (cI, 8, .inl fks)), (mcd, .inl (cI, 12, .inl fcd)), (mpr, .inl (cI, 16, .inl fpr)), (msk, .inl (cI, 16, .inl fsk)), (mow, .inl (cI, 16, .inl fow)), (mmi, .inl (cI, 16, .inl fmi)), (mst, .inl (cI, 16, .inl fst)), (mbi, .inl (cI, 16, .inl fbi)), (msu, .inl (cI, 16, .inl fsu)), (mke, .inl (cI, 298, .inl fke_7))]) (fr_Vv (As := [.ref mN, .int (9 : Int32)]) (rest := []) (C := RX6) ⟨hx, hb, hml, hown, hts⟩ (tX6_passRow aM mke mN mN mkd mks mcd mpr msk mow mmi mst mbi msu mik 9 vka viw fke fN (9 : Int32) vka_7 fke_7 fN_7 q_7) gX6_passAll_X6_passRow rfl (fr_preV (As := [.ref mN, .int (9 : Int32)]) (b := aM) (ci := 6) (q0 := 0) (wc := [(aM, .inr (6, [.ref mN, .ref mkd, .ref mks, .ref mcd, .ref mpr, .ref msk, .ref mow, .ref mmi, .ref mst, .ref mbi, .ref msu, .ref mke, .ref mik, .int vka, .int viw])), (mke, .inl (cI, 298, .inl fke)), (mN, .inl (cI, 9, .inl fN))]) hK hN hP hD [0, 12, 1] (by decide) rfl rfl rfl) (n := 2) (by decide +kernel) ⟨Nat.le_of_ble_eq_true rfl, Nat.le_of_ble_eq_true rfl⟩ rfl hl.1 rfl (Nat.le_of_ble_eq_true rfl) dX6_passAll_7 ⟨Nat.zero_le _, Nat.zero_le _⟩) hP hD hS hA [0, 12, 1] [2, 3, 4, 5, 6, 7, 8, 9, 10, 11] [10, 12, 0, 1, 2, 3, 4, 5, 6, 7, 8, 9, 11] rfl rfl (by decide) (by decide) (by decide) (fun _ => rfl) (c2 := 0) (s2 := 0) rfl rfl (fun _ H locs hP hD hS => ?_)
  refine lv_aload_n hx hb dX6_passAll_10 rfl (lv_at hl 0 rfl) ?_
  refine lv_aload_n hx hb dX6_passAll_11 rfl (lv_at hl 0 rfl) ?_
  refine va_get (D := D) (ci := 6) (v := .ref mkd) (C := RX6) (T := TX6) (N := 15) hx hb hts i6 hown hK hP 0 rfl rfl 1 (by decide) (hts (.fieldLink RX6 13 RX6 "kindDots" "[I") (List.mem_of_getElem? (i := 2) rfl)) (fun _ h9 => h9) rfl dX6_passAll_12 ?_
  refine lv_bipush (v := (8 : Int32)) hx hb dX6_passAll_15 (by decide) ?_
  obtain ⟨vka_17, fke_17, fkd_17, q_17, h⟩ := bd3_some h
  refine fr_rw_v (S := Unit) (wc := [(aM, .inr (6, [.ref mN, .ref mkd, .ref mks, .ref mcd, .ref mpr, .ref msk, .ref mow, .ref mmi, .ref mst, .ref mbi, .ref msu, .ref mke, .ref mik, .int vka_7, .int viw])), (mke, .inl (cI, 298, .inl fke_7)), (mkd, .inl (cI, 8, .inl fkd))]) (wc' := fun _ => [(aM, .inr (6, [.ref mN, .ref mkd, .ref mks, .ref mcd, .ref mpr, .ref msk, .ref mow, .ref mmi, .ref mst, .ref mbi, .ref msu, .ref mke, .ref mik, .int vka_17, .int viw])), (mke, .inl (cI, 298, .inl fke_17)), (mkd, .inl (cI, 8, .inl fkd_17))]) (wr := [(mN, .inl (cI, 9, .inl fN_7)), (mks, .inl (cI, 8, .inl fks)), (mcd, .inl (cI, 12, .inl fcd)), (mpr, .inl (cI, 16, .inl fpr)), (msk, .inl (cI, 16, .inl fsk)), (mow, .inl (cI, 16, .inl fow)), (mmi, .inl (cI, 16, .inl fmi)), (mst, .inl (cI, 16, .inl fst)), (mbi, .inl (cI, 16, .inl fbi)), (msu, .inl (cI, 16, .inl fsu))]) (w2 := fun _ => [(aM, .inr (6, [.ref mN, .ref mkd, .ref mks, .ref mcd, .ref mpr, .ref msk, .ref mow, .ref mmi, .ref mst, .ref mbi, .ref msu, .ref mke, .ref mik, .int vka_17, .int viw])), (mN, .inl (cI, 9, .inl fN_7)), (mkd, .inl (cI, 8, .inl fkd_17)), (mks, .inl (cI, 8, .inl fks)), (mcd, .inl (cI, 12, .inl fcd)), (mpr, .inl (cI, 16, .inl fpr)), (msk, .inl (cI, 16, .inl fsk)), (mow, .inl (cI, 16, .inl fow)), (mmi, .inl (cI, 16, .inl fmi)), (mst, .inl (cI, 16, .inl fst)), (mbi, .inl (cI, 16, .inl fbi)), (msu, .inl (cI, 16, .inl fsu)), (mke, .inl (cI, 298, .inl fke_17))]) (fr_Vv (As := [.ref mkd, .int (8 : Int32)]) (rest := []) (C := RX6) ⟨hx, hb, hml, hown, hts⟩ (tX6_passRow aM mke mkd mN mkd mks mcd mpr msk mow mmi mst mbi msu mik 8 vka_7 viw fke_7 fkd (8 : Int32) vka_17 fke_17 fkd_17 q_17) gX6_passAll_X6_passRow rfl (fr_preV (As := [.ref mkd, .int (8 : Int32)]) (b := aM) (ci := 6) (q0 := 0) (wc := [(aM, .inr (6, [.ref mN, .ref mkd, .ref mks, .ref mcd, .ref mpr, .ref msk, .ref mow, .ref mmi, .ref mst, .ref mbi, .ref msu, .ref mke, .ref mik, .int vka_7, .int viw])), (mke, .inl (cI, 298, .inl fke_7)), (mkd, .inl (cI, 8, .inl fkd))]) hK hN hP hD [0, 12, 2] (by decide) rfl rfl rfl) (n := 2) (by decide +kernel) ⟨Nat.le_of_ble_eq_true rfl, Nat.le_of_ble_eq_true rfl⟩ rfl hl.1 rfl (Nat.le_of_ble_eq_true rfl) dX6_passAll_17 ⟨Nat.zero_le _, Nat.zero_le _⟩) hP hD hS hA [0, 12, 2] [1, 3, 4, 5, 6, 7, 8, 9, 10, 11] [10, 0, 12, 1, 2, 3, 4, 5, 6, 7, 8, 9, 11] rfl rfl (by decide) (by decide) (by decide) (fun _ => rfl) (c2 := 0) (s2 := 0) rfl rfl (fun _ H locs hP hD hS => ?_)
  refine lv_aload_n hx hb dX6_passAll_20 rfl (lv_at hl 0 rfl) ?_
  refine lv_aload_n hx hb dX6_passAll_21 rfl (lv_at hl 0 rfl) ?_
  refine va_get (D := D) (ci := 6) (v := .ref mks) (C := RX6) (T := TX6) (N := 15) hx hb hts i6 hown hK hP 0 rfl rfl 2 (by decide) (hts (.fieldLink RX6 16 RX6 "kindStock" "[I") (List.mem_of_getElem? (i := 3) rfl)) (fun _ h9 => h9) rfl dX6_passAll_22 ?_
  refine lv_bipush (v := (8 : Int32)) hx hb dX6_passAll_25 (by decide) ?_
  obtain ⟨vka_27, fke_27, fks_27, q_27, h⟩ := bd3_some h
  refine fr_rw_v (S := Unit) (wc := [(aM, .inr (6, [.ref mN, .ref mkd, .ref mks, .ref mcd, .ref mpr, .ref msk, .ref mow, .ref mmi, .ref mst, .ref mbi, .ref msu, .ref mke, .ref mik, .int vka_17, .int viw])), (mke, .inl (cI, 298, .inl fke_17)), (mks, .inl (cI, 8, .inl fks))]) (wc' := fun _ => [(aM, .inr (6, [.ref mN, .ref mkd, .ref mks, .ref mcd, .ref mpr, .ref msk, .ref mow, .ref mmi, .ref mst, .ref mbi, .ref msu, .ref mke, .ref mik, .int vka_27, .int viw])), (mke, .inl (cI, 298, .inl fke_27)), (mks, .inl (cI, 8, .inl fks_27))]) (wr := [(mN, .inl (cI, 9, .inl fN_7)), (mkd, .inl (cI, 8, .inl fkd_17)), (mcd, .inl (cI, 12, .inl fcd)), (mpr, .inl (cI, 16, .inl fpr)), (msk, .inl (cI, 16, .inl fsk)), (mow, .inl (cI, 16, .inl fow)), (mmi, .inl (cI, 16, .inl fmi)), (mst, .inl (cI, 16, .inl fst)), (mbi, .inl (cI, 16, .inl fbi)), (msu, .inl (cI, 16, .inl fsu))]) (w2 := fun _ => [(aM, .inr (6, [.ref mN, .ref mkd, .ref mks, .ref mcd, .ref mpr, .ref msk, .ref mow, .ref mmi, .ref mst, .ref mbi, .ref msu, .ref mke, .ref mik, .int vka_27, .int viw])), (mN, .inl (cI, 9, .inl fN_7)), (mkd, .inl (cI, 8, .inl fkd_17)), (mks, .inl (cI, 8, .inl fks_27)), (mcd, .inl (cI, 12, .inl fcd)), (mpr, .inl (cI, 16, .inl fpr)), (msk, .inl (cI, 16, .inl fsk)), (mow, .inl (cI, 16, .inl fow)), (mmi, .inl (cI, 16, .inl fmi)), (mst, .inl (cI, 16, .inl fst)), (mbi, .inl (cI, 16, .inl fbi)), (msu, .inl (cI, 16, .inl fsu)), (mke, .inl (cI, 298, .inl fke_27))]) (fr_Vv (As := [.ref mks, .int (8 : Int32)]) (rest := []) (C := RX6) ⟨hx, hb, hml, hown, hts⟩ (tX6_passRow aM mke mks mN mkd mks mcd mpr msk mow mmi mst mbi msu mik 8 vka_17 viw fke_17 fks (8 : Int32) vka_27 fke_27 fks_27 q_27) gX6_passAll_X6_passRow rfl (fr_preV (As := [.ref mks, .int (8 : Int32)]) (b := aM) (ci := 6) (q0 := 0) (wc := [(aM, .inr (6, [.ref mN, .ref mkd, .ref mks, .ref mcd, .ref mpr, .ref msk, .ref mow, .ref mmi, .ref mst, .ref mbi, .ref msu, .ref mke, .ref mik, .int vka_17, .int viw])), (mke, .inl (cI, 298, .inl fke_17)), (mks, .inl (cI, 8, .inl fks))]) hK hN hP hD [0, 12, 3] (by decide) rfl rfl rfl) (n := 2) (by decide +kernel) ⟨Nat.le_of_ble_eq_true rfl, Nat.le_of_ble_eq_true rfl⟩ rfl hl.1 rfl (Nat.le_of_ble_eq_true rfl) dX6_passAll_27 ⟨Nat.zero_le _, Nat.zero_le _⟩) hP hD hS hA [0, 12, 3] [1, 2, 4, 5, 6, 7, 8, 9, 10, 11] [10, 0, 1, 12, 2, 3, 4, 5, 6, 7, 8, 9, 11] rfl rfl (by decide) (by decide) (by decide) (fun _ => rfl) (c2 := 0) (s2 := 0) rfl rfl (fun _ H locs hP hD hS => ?_)
  refine lv_aload_n hx hb dX6_passAll_30 rfl (lv_at hl 0 rfl) ?_
  refine lv_aload_n hx hb dX6_passAll_31 rfl (lv_at hl 0 rfl) ?_
  refine va_get (D := D) (ci := 6) (v := .ref mcd) (C := RX6) (T := TX6) (N := 15) hx hb hts i6 hown hK hP 0 rfl rfl 3 (by decide) (hts (.fieldLink RX6 19 RX6 "cellDots" "[I") (List.mem_of_getElem? (i := 4) rfl)) (fun _ h9 => h9) rfl dX6_passAll_32 ?_
  refine lv_bipush (v := (12 : Int32)) hx hb dX6_passAll_35 (by decide) ?_
  obtain ⟨vka_37, fke_37, fcd_37, q_37, h⟩ := bd3_some h
  refine fr_rw_v (S := Unit) (wc := [(aM, .inr (6, [.ref mN, .ref mkd, .ref mks, .ref mcd, .ref mpr, .ref msk, .ref mow, .ref mmi, .ref mst, .ref mbi, .ref msu, .ref mke, .ref mik, .int vka_27, .int viw])), (mke, .inl (cI, 298, .inl fke_27)), (mcd, .inl (cI, 12, .inl fcd))]) (wc' := fun _ => [(aM, .inr (6, [.ref mN, .ref mkd, .ref mks, .ref mcd, .ref mpr, .ref msk, .ref mow, .ref mmi, .ref mst, .ref mbi, .ref msu, .ref mke, .ref mik, .int vka_37, .int viw])), (mke, .inl (cI, 298, .inl fke_37)), (mcd, .inl (cI, 12, .inl fcd_37))]) (wr := [(mN, .inl (cI, 9, .inl fN_7)), (mkd, .inl (cI, 8, .inl fkd_17)), (mks, .inl (cI, 8, .inl fks_27)), (mpr, .inl (cI, 16, .inl fpr)), (msk, .inl (cI, 16, .inl fsk)), (mow, .inl (cI, 16, .inl fow)), (mmi, .inl (cI, 16, .inl fmi)), (mst, .inl (cI, 16, .inl fst)), (mbi, .inl (cI, 16, .inl fbi)), (msu, .inl (cI, 16, .inl fsu))]) (w2 := fun _ => [(aM, .inr (6, [.ref mN, .ref mkd, .ref mks, .ref mcd, .ref mpr, .ref msk, .ref mow, .ref mmi, .ref mst, .ref mbi, .ref msu, .ref mke, .ref mik, .int vka_37, .int viw])), (mN, .inl (cI, 9, .inl fN_7)), (mkd, .inl (cI, 8, .inl fkd_17)), (mks, .inl (cI, 8, .inl fks_27)), (mcd, .inl (cI, 12, .inl fcd_37)), (mpr, .inl (cI, 16, .inl fpr)), (msk, .inl (cI, 16, .inl fsk)), (mow, .inl (cI, 16, .inl fow)), (mmi, .inl (cI, 16, .inl fmi)), (mst, .inl (cI, 16, .inl fst)), (mbi, .inl (cI, 16, .inl fbi)), (msu, .inl (cI, 16, .inl fsu)), (mke, .inl (cI, 298, .inl fke_37))]) (fr_Vv (As := [.ref mcd, .int (12 : Int32)]) (rest := []) (C := RX6) ⟨hx, hb, hml, hown, hts⟩ (tX6_passRow aM mke mcd mN mkd mks mcd mpr msk mow mmi mst mbi msu mik 12 vka_27 viw fke_27 fcd (12 : Int32) vka_37 fke_37 fcd_37 q_37) gX6_passAll_X6_passRow rfl (fr_preV (As := [.ref mcd, .int (12 : Int32)]) (b := aM) (ci := 6) (q0 := 0) (wc := [(aM, .inr (6, [.ref mN, .ref mkd, .ref mks, .ref mcd, .ref mpr, .ref msk, .ref mow, .ref mmi, .ref mst, .ref mbi, .ref msu, .ref mke, .ref mik, .int vka_27, .int viw])), (mke, .inl (cI, 298, .inl fke_27)), (mcd, .inl (cI, 12, .inl fcd))]) hK hN hP hD [0, 12, 4] (by decide) rfl rfl rfl) (n := 2) (by decide +kernel) ⟨Nat.le_of_ble_eq_true rfl, Nat.le_of_ble_eq_true rfl⟩ rfl hl.1 rfl (Nat.le_of_ble_eq_true rfl) dX6_passAll_37 ⟨Nat.zero_le _, Nat.zero_le _⟩) hP hD hS hA [0, 12, 4] [1, 2, 3, 5, 6, 7, 8, 9, 10, 11] [10, 0, 1, 2, 12, 3, 4, 5, 6, 7, 8, 9, 11] rfl rfl (by decide) (by decide) (by decide) (fun _ => rfl) (c2 := 0) (s2 := 0) rfl rfl (fun _ H locs hP hD hS => ?_)
  refine lv_aload_n hx hb dX6_passAll_40 rfl (lv_at hl 0 rfl) ?_
  refine lv_aload_n hx hb dX6_passAll_41 rfl (lv_at hl 0 rfl) ?_
  refine va_get (D := D) (ci := 6) (v := .ref mpr) (C := RX6) (T := TX6) (N := 15) hx hb hts i6 hown hK hP 0 rfl rfl 4 (by decide) (hts (.fieldLink RX6 22 RX6 "price" "[I") (List.mem_of_getElem? (i := 5) rfl)) (fun _ h9 => h9) rfl dX6_passAll_42 ?_
  refine lv_bipush (v := (16 : Int32)) hx hb dX6_passAll_45 (by decide) ?_
  obtain ⟨vka_47, fke_47, fpr_47, q_47, h⟩ := bd3_some h
  refine fr_rw_v (S := Unit) (wc := [(aM, .inr (6, [.ref mN, .ref mkd, .ref mks, .ref mcd, .ref mpr, .ref msk, .ref mow, .ref mmi, .ref mst, .ref mbi, .ref msu, .ref mke, .ref mik, .int vka_37, .int viw])), (mke, .inl (cI, 298, .inl fke_37)), (mpr, .inl (cI, 16, .inl fpr))]) (wc' := fun _ => [(aM, .inr (6, [.ref mN, .ref mkd, .ref mks, .ref mcd, .ref mpr, .ref msk, .ref mow, .ref mmi, .ref mst, .ref mbi, .ref msu, .ref mke, .ref mik, .int vka_47, .int viw])), (mke, .inl (cI, 298, .inl fke_47)), (mpr, .inl (cI, 16, .inl fpr_47))]) (wr := [(mN, .inl (cI, 9, .inl fN_7)), (mkd, .inl (cI, 8, .inl fkd_17)), (mks, .inl (cI, 8, .inl fks_27)), (mcd, .inl (cI, 12, .inl fcd_37)), (msk, .inl (cI, 16, .inl fsk)), (mow, .inl (cI, 16, .inl fow)), (mmi, .inl (cI, 16, .inl fmi)), (mst, .inl (cI, 16, .inl fst)), (mbi, .inl (cI, 16, .inl fbi)), (msu, .inl (cI, 16, .inl fsu))]) (w2 := fun _ => [(aM, .inr (6, [.ref mN, .ref mkd, .ref mks, .ref mcd, .ref mpr, .ref msk, .ref mow, .ref mmi, .ref mst, .ref mbi, .ref msu, .ref mke, .ref mik, .int vka_47, .int viw])), (mN, .inl (cI, 9, .inl fN_7)), (mkd, .inl (cI, 8, .inl fkd_17)), (mks, .inl (cI, 8, .inl fks_27)), (mcd, .inl (cI, 12, .inl fcd_37)), (mpr, .inl (cI, 16, .inl fpr_47)), (msk, .inl (cI, 16, .inl fsk)), (mow, .inl (cI, 16, .inl fow)), (mmi, .inl (cI, 16, .inl fmi)), (mst, .inl (cI, 16, .inl fst)), (mbi, .inl (cI, 16, .inl fbi)), (msu, .inl (cI, 16, .inl fsu)), (mke, .inl (cI, 298, .inl fke_47))]) (fr_Vv (As := [.ref mpr, .int (16 : Int32)]) (rest := []) (C := RX6) ⟨hx, hb, hml, hown, hts⟩ (tX6_passRow aM mke mpr mN mkd mks mcd mpr msk mow mmi mst mbi msu mik 16 vka_37 viw fke_37 fpr (16 : Int32) vka_47 fke_47 fpr_47 q_47) gX6_passAll_X6_passRow rfl (fr_preV (As := [.ref mpr, .int (16 : Int32)]) (b := aM) (ci := 6) (q0 := 0) (wc := [(aM, .inr (6, [.ref mN, .ref mkd, .ref mks, .ref mcd, .ref mpr, .ref msk, .ref mow, .ref mmi, .ref mst, .ref mbi, .ref msu, .ref mke, .ref mik, .int vka_37, .int viw])), (mke, .inl (cI, 298, .inl fke_37)), (mpr, .inl (cI, 16, .inl fpr))]) hK hN hP hD [0, 12, 5] (by decide) rfl rfl rfl) (n := 2) (by decide +kernel) ⟨Nat.le_of_ble_eq_true rfl, Nat.le_of_ble_eq_true rfl⟩ rfl hl.1 rfl (Nat.le_of_ble_eq_true rfl) dX6_passAll_47 ⟨Nat.zero_le _, Nat.zero_le _⟩) hP hD hS hA [0, 12, 5] [1, 2, 3, 4, 6, 7, 8, 9, 10, 11] [10, 0, 1, 2, 3, 12, 4, 5, 6, 7, 8, 9, 11] rfl rfl (by decide) (by decide) (by decide) (fun _ => rfl) (c2 := 0) (s2 := 0) rfl rfl (fun _ H locs hP hD hS => ?_)
  refine lv_aload_n hx hb dX6_passAll_50 rfl (lv_at hl 0 rfl) ?_
  refine lv_aload_n hx hb dX6_passAll_51 rfl (lv_at hl 0 rfl) ?_
  refine va_get (D := D) (ci := 6) (v := .ref msk) (C := RX6) (T := TX6) (N := 15) hx hb hts i6 hown hK hP 0 rfl rfl 5 (by decide) (hts (.fieldLink RX6 25 RX6 "slotKind" "[I") (List.mem_of_getElem? (i := 6) rfl)) (fun _ h9 => h9) rfl dX6_passAll_52 ?_
  refine lv_bipush (v := (16 : Int32)) hx hb dX6_passAll_55 (by decide) ?_
  obtain ⟨vka_57, fke_57, fsk_57, q_57, h⟩ := bd3_some h
  refine fr_rw_v (S := Unit) (wc := [(aM, .inr (6, [.ref mN, .ref mkd, .ref mks, .ref mcd, .ref mpr, .ref msk, .ref mow, .ref mmi, .ref mst, .ref mbi, .ref msu, .ref mke, .ref mik, .int vka_47, .int viw])), (mke, .inl (cI, 298, .inl fke_47)), (msk, .inl (cI, 16, .inl fsk))]) (wc' := fun _ => [(aM, .inr (6, [.ref mN, .ref mkd, .ref mks, .ref mcd, .ref mpr, .ref msk, .ref mow, .ref mmi, .ref mst, .ref mbi, .ref msu, .ref mke, .ref mik, .int vka_57, .int viw])), (mke, .inl (cI, 298, .inl fke_57)), (msk, .inl (cI, 16, .inl fsk_57))]) (wr := [(mN, .inl (cI, 9, .inl fN_7)), (mkd, .inl (cI, 8, .inl fkd_17)), (mks, .inl (cI, 8, .inl fks_27)), (mcd, .inl (cI, 12, .inl fcd_37)), (mpr, .inl (cI, 16, .inl fpr_47)), (mow, .inl (cI, 16, .inl fow)), (mmi, .inl (cI, 16, .inl fmi)), (mst, .inl (cI, 16, .inl fst)), (mbi, .inl (cI, 16, .inl fbi)), (msu, .inl (cI, 16, .inl fsu))]) (w2 := fun _ => [(aM, .inr (6, [.ref mN, .ref mkd, .ref mks, .ref mcd, .ref mpr, .ref msk, .ref mow, .ref mmi, .ref mst, .ref mbi, .ref msu, .ref mke, .ref mik, .int vka_57, .int viw])), (mN, .inl (cI, 9, .inl fN_7)), (mkd, .inl (cI, 8, .inl fkd_17)), (mks, .inl (cI, 8, .inl fks_27)), (mcd, .inl (cI, 12, .inl fcd_37)), (mpr, .inl (cI, 16, .inl fpr_47)), (msk, .inl (cI, 16, .inl fsk_57)), (mow, .inl (cI, 16, .inl fow)), (mmi, .inl (cI, 16, .inl fmi)), (mst, .inl (cI, 16, .inl fst)), (mbi, .inl (cI, 16, .inl fbi)), (msu, .inl (cI, 16, .inl fsu)), (mke, .inl (cI, 298, .inl fke_57))]) (fr_Vv (As := [.ref msk, .int (16 : Int32)]) (rest := []) (C := RX6) ⟨hx, hb, hml, hown, hts⟩ (tX6_passRow aM mke msk mN mkd mks mcd mpr msk mow mmi mst mbi msu mik 16 vka_47 viw fke_47 fsk (16 : Int32) vka_57 fke_57 fsk_57 q_57) gX6_passAll_X6_passRow rfl (fr_preV (As := [.ref msk, .int (16 : Int32)]) (b := aM) (ci := 6) (q0 := 0) (wc := [(aM, .inr (6, [.ref mN, .ref mkd, .ref mks, .ref mcd, .ref mpr, .ref msk, .ref mow, .ref mmi, .ref mst, .ref mbi, .ref msu, .ref mke, .ref mik, .int vka_47, .int viw])), (mke, .inl (cI, 298, .inl fke_47)), (msk, .inl (cI, 16, .inl fsk))]) hK hN hP hD [0, 12, 6] (by decide) rfl rfl rfl) (n := 2) (by decide +kernel) ⟨Nat.le_of_ble_eq_true rfl, Nat.le_of_ble_eq_true rfl⟩ rfl hl.1 rfl (Nat.le_of_ble_eq_true rfl) dX6_passAll_57 ⟨Nat.zero_le _, Nat.zero_le _⟩) hP hD hS hA [0, 12, 6] [1, 2, 3, 4, 5, 7, 8, 9, 10, 11] [10, 0, 1, 2, 3, 4, 12, 5, 6, 7, 8, 9, 11] rfl rfl (by decide) (by decide) (by decide) (fun _ => rfl) (c2 := 0) (s2 := 0) rfl rfl (fun _ H locs hP hD hS => ?_)
  refine lv_aload_n hx hb dX6_passAll_60 rfl (lv_at hl 0 rfl) ?_
  refine lv_aload_n hx hb dX6_passAll_61 rfl (lv_at hl 0 rfl) ?_
  refine va_get (D := D) (ci := 6) (v := .ref mow) (C := RX6) (T := TX6) (N := 15) hx hb hts i6 hown hK hP 0 rfl rfl 6 (by decide) (hts (.fieldLink RX6 28 RX6 "owner" "[I") (List.mem_of_getElem? (i := 7) rfl)) (fun _ h9 => h9) rfl dX6_passAll_62 ?_
  refine lv_bipush (v := (16 : Int32)) hx hb dX6_passAll_65 (by decide) ?_
  obtain ⟨vka_67, fke_67, fow_67, q_67, h⟩ := bd3_some h
  refine fr_rw_v (S := Unit) (wc := [(aM, .inr (6, [.ref mN, .ref mkd, .ref mks, .ref mcd, .ref mpr, .ref msk, .ref mow, .ref mmi, .ref mst, .ref mbi, .ref msu, .ref mke, .ref mik, .int vka_57, .int viw])), (mke, .inl (cI, 298, .inl fke_57)), (mow, .inl (cI, 16, .inl fow))]) (wc' := fun _ => [(aM, .inr (6, [.ref mN, .ref mkd, .ref mks, .ref mcd, .ref mpr, .ref msk, .ref mow, .ref mmi, .ref mst, .ref mbi, .ref msu, .ref mke, .ref mik, .int vka_67, .int viw])), (mke, .inl (cI, 298, .inl fke_67)), (mow, .inl (cI, 16, .inl fow_67))]) (wr := [(mN, .inl (cI, 9, .inl fN_7)), (mkd, .inl (cI, 8, .inl fkd_17)), (mks, .inl (cI, 8, .inl fks_27)), (mcd, .inl (cI, 12, .inl fcd_37)), (mpr, .inl (cI, 16, .inl fpr_47)), (msk, .inl (cI, 16, .inl fsk_57)), (mmi, .inl (cI, 16, .inl fmi)), (mst, .inl (cI, 16, .inl fst)), (mbi, .inl (cI, 16, .inl fbi)), (msu, .inl (cI, 16, .inl fsu))]) (w2 := fun _ => [(aM, .inr (6, [.ref mN, .ref mkd, .ref mks, .ref mcd, .ref mpr, .ref msk, .ref mow, .ref mmi, .ref mst, .ref mbi, .ref msu, .ref mke, .ref mik, .int vka_67, .int viw])), (mN, .inl (cI, 9, .inl fN_7)), (mkd, .inl (cI, 8, .inl fkd_17)), (mks, .inl (cI, 8, .inl fks_27)), (mcd, .inl (cI, 12, .inl fcd_37)), (mpr, .inl (cI, 16, .inl fpr_47)), (msk, .inl (cI, 16, .inl fsk_57)), (mow, .inl (cI, 16, .inl fow_67)), (mmi, .inl (cI, 16, .inl fmi)), (mst, .inl (cI, 16, .inl fst)), (mbi, .inl (cI, 16, .inl fbi)), (msu, .inl (cI, 16, .inl fsu)), (mke, .inl (cI, 298, .inl fke_67))]) (fr_Vv (As := [.ref mow, .int (16 : Int32)]) (rest := []) (C := RX6) ⟨hx, hb, hml, hown, hts⟩ (tX6_passRow aM mke mow mN mkd mks mcd mpr msk mow mmi mst mbi msu mik 16 vka_57 viw fke_57 fow (16 : Int32) vka_67 fke_67 fow_67 q_67) gX6_passAll_X6_passRow rfl (fr_preV (As := [.ref mow, .int (16 : Int32)]) (b := aM) (ci := 6) (q0 := 0) (wc := [(aM, .inr (6, [.ref mN, .ref mkd, .ref mks, .ref mcd, .ref mpr, .ref msk, .ref mow, .ref mmi, .ref mst, .ref mbi, .ref msu, .ref mke, .ref mik, .int vka_57, .int viw])), (mke, .inl (cI, 298, .inl fke_57)), (mow, .inl (cI, 16, .inl fow))]) hK hN hP hD [0, 12, 7] (by decide) rfl rfl rfl) (n := 2) (by decide +kernel) ⟨Nat.le_of_ble_eq_true rfl, Nat.le_of_ble_eq_true rfl⟩ rfl hl.1 rfl (Nat.le_of_ble_eq_true rfl) dX6_passAll_67 ⟨Nat.zero_le _, Nat.zero_le _⟩) hP hD hS hA [0, 12, 7] [1, 2, 3, 4, 5, 6, 8, 9, 10, 11] [10, 0, 1, 2, 3, 4, 5, 12, 6, 7, 8, 9, 11] rfl rfl (by decide) (by decide) (by decide) (fun _ => rfl) (c2 := 0) (s2 := 0) rfl rfl (fun _ H locs hP hD hS => ?_)
  refine lv_aload_n hx hb dX6_passAll_70 rfl (lv_at hl 0 rfl) ?_
  refine lv_aload_n hx hb dX6_passAll_71 rfl (lv_at hl 0 rfl) ?_
  refine va_get (D := D) (ci := 6) (v := .ref mmi) (C := RX6) (T := TX6) (N := 15) hx hb hts i6 hown hK hP 0 rfl rfl 7 (by decide) (hts (.fieldLink RX6 31 RX6 "mine" "[I") (List.mem_of_getElem? (i := 8) rfl)) (fun _ h9 => h9) rfl dX6_passAll_72 ?_
  refine lv_bipush (v := (16 : Int32)) hx hb dX6_passAll_75 (by decide) ?_
  obtain ⟨vka_77, fke_77, fmi_77, q_77, h⟩ := bd3_some h
  refine fr_rw_v (S := Unit) (wc := [(aM, .inr (6, [.ref mN, .ref mkd, .ref mks, .ref mcd, .ref mpr, .ref msk, .ref mow, .ref mmi, .ref mst, .ref mbi, .ref msu, .ref mke, .ref mik, .int vka_67, .int viw])), (mke, .inl (cI, 298, .inl fke_67)), (mmi, .inl (cI, 16, .inl fmi))]) (wc' := fun _ => [(aM, .inr (6, [.ref mN, .ref mkd, .ref mks, .ref mcd, .ref mpr, .ref msk, .ref mow, .ref mmi, .ref mst, .ref mbi, .ref msu, .ref mke, .ref mik, .int vka_77, .int viw])), (mke, .inl (cI, 298, .inl fke_77)), (mmi, .inl (cI, 16, .inl fmi_77))]) (wr := [(mN, .inl (cI, 9, .inl fN_7)), (mkd, .inl (cI, 8, .inl fkd_17)), (mks, .inl (cI, 8, .inl fks_27)), (mcd, .inl (cI, 12, .inl fcd_37)), (mpr, .inl (cI, 16, .inl fpr_47)), (msk, .inl (cI, 16, .inl fsk_57)), (mow, .inl (cI, 16, .inl fow_67)), (mst, .inl (cI, 16, .inl fst)), (mbi, .inl (cI, 16, .inl fbi)), (msu, .inl (cI, 16, .inl fsu))]) (w2 := fun _ => [(aM, .inr (6, [.ref mN, .ref mkd, .ref mks, .ref mcd, .ref mpr, .ref msk, .ref mow, .ref mmi, .ref mst, .ref mbi, .ref msu, .ref mke, .ref mik, .int vka_77, .int viw])), (mN, .inl (cI, 9, .inl fN_7)), (mkd, .inl (cI, 8, .inl fkd_17)), (mks, .inl (cI, 8, .inl fks_27)), (mcd, .inl (cI, 12, .inl fcd_37)), (mpr, .inl (cI, 16, .inl fpr_47)), (msk, .inl (cI, 16, .inl fsk_57)), (mow, .inl (cI, 16, .inl fow_67)), (mmi, .inl (cI, 16, .inl fmi_77)), (mst, .inl (cI, 16, .inl fst)), (mbi, .inl (cI, 16, .inl fbi)), (msu, .inl (cI, 16, .inl fsu)), (mke, .inl (cI, 298, .inl fke_77))]) (fr_Vv (As := [.ref mmi, .int (16 : Int32)]) (rest := []) (C := RX6) ⟨hx, hb, hml, hown, hts⟩ (tX6_passRow aM mke mmi mN mkd mks mcd mpr msk mow mmi mst mbi msu mik 16 vka_67 viw fke_67 fmi (16 : Int32) vka_77 fke_77 fmi_77 q_77) gX6_passAll_X6_passRow rfl (fr_preV (As := [.ref mmi, .int (16 : Int32)]) (b := aM) (ci := 6) (q0 := 0) (wc := [(aM, .inr (6, [.ref mN, .ref mkd, .ref mks, .ref mcd, .ref mpr, .ref msk, .ref mow, .ref mmi, .ref mst, .ref mbi, .ref msu, .ref mke, .ref mik, .int vka_67, .int viw])), (mke, .inl (cI, 298, .inl fke_67)), (mmi, .inl (cI, 16, .inl fmi))]) hK hN hP hD [0, 12, 8] (by decide) rfl rfl rfl) (n := 2) (by decide +kernel) ⟨Nat.le_of_ble_eq_true rfl, Nat.le_of_ble_eq_true rfl⟩ rfl hl.1 rfl (Nat.le_of_ble_eq_true rfl) dX6_passAll_77 ⟨Nat.zero_le _, Nat.zero_le _⟩) hP hD hS hA [0, 12, 8] [1, 2, 3, 4, 5, 6, 7, 9, 10, 11] [10, 0, 1, 2, 3, 4, 5, 6, 12, 7, 8, 9, 11] rfl rfl (by decide) (by decide) (by decide) (fun _ => rfl) (c2 := 0) (s2 := 0) rfl rfl (fun _ H locs hP hD hS => ?_)
  refine lv_aload_n hx hb dX6_passAll_80 rfl (lv_at hl 0 rfl) ?_
  refine lv_aload_n hx hb dX6_passAll_81 rfl (lv_at hl 0 rfl) ?_
  refine va_get (D := D) (ci := 6) (v := .ref mst) (C := RX6) (T := TX6) (N := 15) hx hb hts i6 hown hK hP 0 rfl rfl 8 (by decide) (hts (.fieldLink RX6 34 RX6 "steps" "[I") (List.mem_of_getElem? (i := 9) rfl)) (fun _ h9 => h9) rfl dX6_passAll_82 ?_
  refine lv_bipush (v := (16 : Int32)) hx hb dX6_passAll_85 (by decide) ?_
  obtain ⟨vka_87, fke_87, fst_87, q_87, h⟩ := bd3_some h
  refine fr_rw_v (S := Unit) (wc := [(aM, .inr (6, [.ref mN, .ref mkd, .ref mks, .ref mcd, .ref mpr, .ref msk, .ref mow, .ref mmi, .ref mst, .ref mbi, .ref msu, .ref mke, .ref mik, .int vka_77, .int viw])), (mke, .inl (cI, 298, .inl fke_77)), (mst, .inl (cI, 16, .inl fst))]) (wc' := fun _ => [(aM, .inr (6, [.ref mN, .ref mkd, .ref mks, .ref mcd, .ref mpr, .ref msk, .ref mow, .ref mmi, .ref mst, .ref mbi, .ref msu, .ref mke, .ref mik, .int vka_87, .int viw])), (mke, .inl (cI, 298, .inl fke_87)), (mst, .inl (cI, 16, .inl fst_87))]) (wr := [(mN, .inl (cI, 9, .inl fN_7)), (mkd, .inl (cI, 8, .inl fkd_17)), (mks, .inl (cI, 8, .inl fks_27)), (mcd, .inl (cI, 12, .inl fcd_37)), (mpr, .inl (cI, 16, .inl fpr_47)), (msk, .inl (cI, 16, .inl fsk_57)), (mow, .inl (cI, 16, .inl fow_67)), (mmi, .inl (cI, 16, .inl fmi_77)), (mbi, .inl (cI, 16, .inl fbi)), (msu, .inl (cI, 16, .inl fsu))]) (w2 := fun _ => [(aM, .inr (6, [.ref mN, .ref mkd, .ref mks, .ref mcd, .ref mpr, .ref msk, .ref mow, .ref mmi, .ref mst, .ref mbi, .ref msu, .ref mke, .ref mik, .int vka_87, .int viw])), (mN, .inl (cI, 9, .inl fN_7)), (mkd, .inl (cI, 8, .inl fkd_17)), (mks, .inl (cI, 8, .inl fks_27)), (mcd, .inl (cI, 12, .inl fcd_37)), (mpr, .inl (cI, 16, .inl fpr_47)), (msk, .inl (cI, 16, .inl fsk_57)), (mow, .inl (cI, 16, .inl fow_67)), (mmi, .inl (cI, 16, .inl fmi_77)), (mst, .inl (cI, 16, .inl fst_87)), (mbi, .inl (cI, 16, .inl fbi)), (msu, .inl (cI, 16, .inl fsu)), (mke, .inl (cI, 298, .inl fke_87))]) (fr_Vv (As := [.ref mst, .int (16 : Int32)]) (rest := []) (C := RX6) ⟨hx, hb, hml, hown, hts⟩ (tX6_passRow aM mke mst mN mkd mks mcd mpr msk mow mmi mst mbi msu mik 16 vka_77 viw fke_77 fst (16 : Int32) vka_87 fke_87 fst_87 q_87) gX6_passAll_X6_passRow rfl (fr_preV (As := [.ref mst, .int (16 : Int32)]) (b := aM) (ci := 6) (q0 := 0) (wc := [(aM, .inr (6, [.ref mN, .ref mkd, .ref mks, .ref mcd, .ref mpr, .ref msk, .ref mow, .ref mmi, .ref mst, .ref mbi, .ref msu, .ref mke, .ref mik, .int vka_77, .int viw])), (mke, .inl (cI, 298, .inl fke_77)), (mst, .inl (cI, 16, .inl fst))]) hK hN hP hD [0, 12, 9] (by decide) rfl rfl rfl) (n := 2) (by decide +kernel) ⟨Nat.le_of_ble_eq_true rfl, Nat.le_of_ble_eq_true rfl⟩ rfl hl.1 rfl (Nat.le_of_ble_eq_true rfl) dX6_passAll_87 ⟨Nat.zero_le _, Nat.zero_le _⟩) hP hD hS hA [0, 12, 9] [1, 2, 3, 4, 5, 6, 7, 8, 10, 11] [10, 0, 1, 2, 3, 4, 5, 6, 7, 12, 8, 9, 11] rfl rfl (by decide) (by decide) (by decide) (fun _ => rfl) (c2 := 0) (s2 := 0) rfl rfl (fun _ H locs hP hD hS => ?_)
  refine lv_aload_n hx hb dX6_passAll_90 rfl (lv_at hl 0 rfl) ?_
  refine lv_aload_n hx hb dX6_passAll_91 rfl (lv_at hl 0 rfl) ?_
  refine va_get (D := D) (ci := 6) (v := .ref mbi) (C := RX6) (T := TX6) (N := 15) hx hb hts i6 hown hK hP 0 rfl rfl 9 (by decide) (hts (.fieldLink RX6 37 RX6 "bids" "[I") (List.mem_of_getElem? (i := 10) rfl)) (fun _ h9 => h9) rfl dX6_passAll_92 ?_
  refine lv_bipush (v := (16 : Int32)) hx hb dX6_passAll_95 (by decide) ?_
  obtain ⟨vka_97, fke_97, fbi_97, q_97, h⟩ := bd3_some h
  refine fr_rw_v (S := Unit) (wc := [(aM, .inr (6, [.ref mN, .ref mkd, .ref mks, .ref mcd, .ref mpr, .ref msk, .ref mow, .ref mmi, .ref mst, .ref mbi, .ref msu, .ref mke, .ref mik, .int vka_87, .int viw])), (mke, .inl (cI, 298, .inl fke_87)), (mbi, .inl (cI, 16, .inl fbi))]) (wc' := fun _ => [(aM, .inr (6, [.ref mN, .ref mkd, .ref mks, .ref mcd, .ref mpr, .ref msk, .ref mow, .ref mmi, .ref mst, .ref mbi, .ref msu, .ref mke, .ref mik, .int vka_97, .int viw])), (mke, .inl (cI, 298, .inl fke_97)), (mbi, .inl (cI, 16, .inl fbi_97))]) (wr := [(mN, .inl (cI, 9, .inl fN_7)), (mkd, .inl (cI, 8, .inl fkd_17)), (mks, .inl (cI, 8, .inl fks_27)), (mcd, .inl (cI, 12, .inl fcd_37)), (mpr, .inl (cI, 16, .inl fpr_47)), (msk, .inl (cI, 16, .inl fsk_57)), (mow, .inl (cI, 16, .inl fow_67)), (mmi, .inl (cI, 16, .inl fmi_77)), (mst, .inl (cI, 16, .inl fst_87)), (msu, .inl (cI, 16, .inl fsu))]) (w2 := fun _ => [(aM, .inr (6, [.ref mN, .ref mkd, .ref mks, .ref mcd, .ref mpr, .ref msk, .ref mow, .ref mmi, .ref mst, .ref mbi, .ref msu, .ref mke, .ref mik, .int vka_97, .int viw])), (mN, .inl (cI, 9, .inl fN_7)), (mkd, .inl (cI, 8, .inl fkd_17)), (mks, .inl (cI, 8, .inl fks_27)), (mcd, .inl (cI, 12, .inl fcd_37)), (mpr, .inl (cI, 16, .inl fpr_47)), (msk, .inl (cI, 16, .inl fsk_57)), (mow, .inl (cI, 16, .inl fow_67)), (mmi, .inl (cI, 16, .inl fmi_77)), (mst, .inl (cI, 16, .inl fst_87)), (mbi, .inl (cI, 16, .inl fbi_97)), (msu, .inl (cI, 16, .inl fsu)), (mke, .inl (cI, 298, .inl fke_97))]) (fr_Vv (As := [.ref mbi, .int (16 : Int32)]) (rest := []) (C := RX6) ⟨hx, hb, hml, hown, hts⟩ (tX6_passRow aM mke mbi mN mkd mks mcd mpr msk mow mmi mst mbi msu mik 16 vka_87 viw fke_87 fbi (16 : Int32) vka_97 fke_97 fbi_97 q_97) gX6_passAll_X6_passRow rfl (fr_preV (As := [.ref mbi, .int (16 : Int32)]) (b := aM) (ci := 6) (q0 := 0) (wc := [(aM, .inr (6, [.ref mN, .ref mkd, .ref mks, .ref mcd, .ref mpr, .ref msk, .ref mow, .ref mmi, .ref mst, .ref mbi, .ref msu, .ref mke, .ref mik, .int vka_87, .int viw])), (mke, .inl (cI, 298, .inl fke_87)), (mbi, .inl (cI, 16, .inl fbi))]) hK hN hP hD [0, 12, 10] (by decide) rfl rfl rfl) (n := 2) (by decide +kernel) ⟨Nat.le_of_ble_eq_true rfl, Nat.le_of_ble_eq_true rfl⟩ rfl hl.1 rfl (Nat.le_of_ble_eq_true rfl) dX6_passAll_97 ⟨Nat.zero_le _, Nat.zero_le _⟩) hP hD hS hA [0, 12, 10] [1, 2, 3, 4, 5, 6, 7, 8, 9, 11] [10, 0, 1, 2, 3, 4, 5, 6, 7, 8, 12, 9, 11] rfl rfl (by decide) (by decide) (by decide) (fun _ => rfl) (c2 := 0) (s2 := 0) rfl rfl (fun _ H locs hP hD hS => ?_)
  refine lv_aload_n hx hb dX6_passAll_100 rfl (lv_at hl 0 rfl) ?_
  refine lv_aload_n hx hb dX6_passAll_101 rfl (lv_at hl 0 rfl) ?_
  refine va_get (D := D) (ci := 6) (v := .ref msu) (C := RX6) (T := TX6) (N := 15) hx hb hts i6 hown hK hP 0 rfl rfl 10 (by decide) (hts (.fieldLink RX6 40 RX6 "sums" "[I") (List.mem_of_getElem? (i := 11) rfl)) (fun _ h9 => h9) rfl dX6_passAll_102 ?_
  refine lv_bipush (v := (16 : Int32)) hx hb dX6_passAll_105 (by decide) ?_
  obtain ⟨vka_107, fke_107, fsu_107, q_107, h⟩ := bd3_some h
  refine fr_rw_v (S := Unit) (wc := [(aM, .inr (6, [.ref mN, .ref mkd, .ref mks, .ref mcd, .ref mpr, .ref msk, .ref mow, .ref mmi, .ref mst, .ref mbi, .ref msu, .ref mke, .ref mik, .int vka_97, .int viw])), (mke, .inl (cI, 298, .inl fke_97)), (msu, .inl (cI, 16, .inl fsu))]) (wc' := fun _ => [(aM, .inr (6, [.ref mN, .ref mkd, .ref mks, .ref mcd, .ref mpr, .ref msk, .ref mow, .ref mmi, .ref mst, .ref mbi, .ref msu, .ref mke, .ref mik, .int vka_107, .int viw])), (mke, .inl (cI, 298, .inl fke_107)), (msu, .inl (cI, 16, .inl fsu_107))]) (wr := [(mN, .inl (cI, 9, .inl fN_7)), (mkd, .inl (cI, 8, .inl fkd_17)), (mks, .inl (cI, 8, .inl fks_27)), (mcd, .inl (cI, 12, .inl fcd_37)), (mpr, .inl (cI, 16, .inl fpr_47)), (msk, .inl (cI, 16, .inl fsk_57)), (mow, .inl (cI, 16, .inl fow_67)), (mmi, .inl (cI, 16, .inl fmi_77)), (mst, .inl (cI, 16, .inl fst_87)), (mbi, .inl (cI, 16, .inl fbi_97))]) (w2 := fun _ => [(aM, .inr (6, [.ref mN, .ref mkd, .ref mks, .ref mcd, .ref mpr, .ref msk, .ref mow, .ref mmi, .ref mst, .ref mbi, .ref msu, .ref mke, .ref mik, .int vka_107, .int viw])), (mN, .inl (cI, 9, .inl fN_7)), (mkd, .inl (cI, 8, .inl fkd_17)), (mks, .inl (cI, 8, .inl fks_27)), (mcd, .inl (cI, 12, .inl fcd_37)), (mpr, .inl (cI, 16, .inl fpr_47)), (msk, .inl (cI, 16, .inl fsk_57)), (mow, .inl (cI, 16, .inl fow_67)), (mmi, .inl (cI, 16, .inl fmi_77)), (mst, .inl (cI, 16, .inl fst_87)), (mbi, .inl (cI, 16, .inl fbi_97)), (msu, .inl (cI, 16, .inl fsu_107)), (mke, .inl (cI, 298, .inl fke_107))]) (fr_Vv (As := [.ref msu, .int (16 : Int32)]) (rest := []) (C := RX6) ⟨hx, hb, hml, hown, hts⟩ (tX6_passRow aM mke msu mN mkd mks mcd mpr msk mow mmi mst mbi msu mik 16 vka_97 viw fke_97 fsu (16 : Int32) vka_107 fke_107 fsu_107 q_107) gX6_passAll_X6_passRow rfl (fr_preV (As := [.ref msu, .int (16 : Int32)]) (b := aM) (ci := 6) (q0 := 0) (wc := [(aM, .inr (6, [.ref mN, .ref mkd, .ref mks, .ref mcd, .ref mpr, .ref msk, .ref mow, .ref mmi, .ref mst, .ref mbi, .ref msu, .ref mke, .ref mik, .int vka_97, .int viw])), (mke, .inl (cI, 298, .inl fke_97)), (msu, .inl (cI, 16, .inl fsu))]) hK hN hP hD [0, 12, 11] (by decide) rfl rfl rfl) (n := 2) (by decide +kernel) ⟨Nat.le_of_ble_eq_true rfl, Nat.le_of_ble_eq_true rfl⟩ rfl hl.1 rfl (Nat.le_of_ble_eq_true rfl) dX6_passAll_107 ⟨Nat.zero_le _, Nat.zero_le _⟩) hP hD hS hA [0, 12, 11] [1, 2, 3, 4, 5, 6, 7, 8, 9, 10] [10, 0, 1, 2, 3, 4, 5, 6, 7, 8, 9, 12, 11] rfl rfl (by decide) (by decide) (by decide) (fun _ => rfl) (c2 := 0) (s2 := 0) rfl rfl (fun _ H locs hP hD hS => ?_)
  exact hret vka_107 fN_7 fkd_17 fks_27 fcd_37 fpr_47 fsk_57 fow_67 fmi_77 fst_87 fbi_97 fsu_107 fke_107 110 ls H locs dX6_passAll_110 hP hD hS h
def fX6_image (vka : Int32) (viw : Int32) (fN : Nat → Int32) (fkd : Nat → Int32) (fks : Nat → Int32) (fcd : Nat → Int32) (fpr : Nat → Int32) (fsk : Nat → Int32) (fow : Nat → Int32) (fmi : Nat → Int32) (fst : Nat → Int32) (fbi : Nat → Int32) (fsu : Nat → Int32) (fke : Nat → Int32) (fik : Nat → Int32) (x1 : Int32) : Option (Int32 × Int32 × Int32 × (Nat → Int32) × (Nat → Int32) × (Nat → Int32) × (Nat → Int32) × (Nat → Int32) × (Nat → Int32) × (Nat → Int32) × (Nat → Int32) × (Nat → Int32) × (Nat → Int32) × (Nat → Int32) × (Nat → Int32) × (Nat → Int32)) :=
  bd1 (fX6_in x1.toInt64 (0 : Int64) (1 : Int64)) fun r_4 =>
  if r_4 = 0 then
    some ((-2 : Int32), vka, viw, fN, fkd, fks, fcd, fpr, fsk, fow, fmi, fst, fbi, fsu, fke, fik)
  else
    bd13 (fX6_passAll ((149 : Int32) * x1) (1 : Int32) fN fkd fks fcd fpr fsk fow fmi fst fbi fsu fke) fun vka_28 fN_28 fkd_28 fks_28 fcd_28 fpr_28 fsk_28 fow_28 fmi_28 fst_28 fbi_28 fsu_28 fke_28 =>
    if x1 < 0 ∨ 2 ≤ x1.toNatClampNeg then none else
    some ((1 : Int32), vka_28, (1 : Int32), fN_28, fkd_28, fks_28, fcd_28, fpr_28, fsk_28, fow_28, fmi_28, fst_28, fbi_28, fsu_28, fke_28, upd fik x1.toNatClampNeg (vp_nar .boolean (1 : Int32)))
abbrev rX6_image : Room := { frames := 2, cells := 0, slots := 0, locals := 43 }
set_option maxHeartbeats 4000000 in
set_option maxRecDepth 100000 in
theorem tX6_image {l : Launch} {D : va_G} {cI cZ cP : ClassId} (aM mN mkd mks mcd mpr msk mow mmi mst mbi msu mke mik : Nat) (vka : Int32) (viw : Int32) (fN : Nat → Int32) (fkd : Nat → Int32) (fks : Nat → Int32) (fcd : Nat → Int32) (fpr : Nat → Int32) (fsk : Nat → Int32) (fow : Nat → Int32) (fmi : Nat → Int32) (fst : Nat → Int32) (fbi : Nat → Int32) (fsu : Nat → Int32) (fke : Nat → Int32) (fik : Nat → Int32) (x1 : Int32) (r : Int32) (oka : Int32) (oiw : Int32) (oN : Nat → Int32) (okd : Nat → Int32) (oks : Nat → Int32) (ocd : Nat → Int32) (opr : Nat → Int32) (osk : Nat → Int32) (oow : Nat → Int32) (omi : Nat → Int32) (ost : Nat → Int32) (obi : Nat → Int32) (osu : Nat → Int32) (oke : Nat → Int32) (oik : Nat → Int32) (h : fX6_image vka viw fN fkd fks fcd fpr fsk fow fmi fst fbi fsu fke fik x1 = some (r, oka, oiw, oN, okd, oks, ocd, opr, osk, oow, omi, ost, obi, osu, oke, oik)) : CtI l D cI cZ cP yX6_image wsX6_image rX6_image [.ref aM, .int x1] [(aM, .inr (6, [.ref mN, .ref mkd, .ref mks, .ref mcd, .ref mpr, .ref msk, .ref mow, .ref mmi, .ref mst, .ref mbi, .ref msu, .ref mke, .ref mik, .int vka, .int viw])), (mN, .inl (cI, 9, .inl fN)), (mkd, .inl (cI, 8, .inl fkd)), (mks, .inl (cI, 8, .inl fks)), (mcd, .inl (cI, 12, .inl fcd)), (mpr, .inl (cI, 16, .inl fpr)), (msk, .inl (cI, 16, .inl fsk)), (mow, .inl (cI, 16, .inl fow)), (mmi, .inl (cI, 16, .inl fmi)), (mst, .inl (cI, 16, .inl fst)), (mbi, .inl (cI, 16, .inl fbi)), (msu, .inl (cI, 16, .inl fsu)), (mke, .inl (cI, 298, .inl fke)), (mik, .inl (cZ, 2, .inl fik))] (fun _ : Unit => [(aM, .inr (6, [.ref mN, .ref mkd, .ref mks, .ref mcd, .ref mpr, .ref msk, .ref mow, .ref mmi, .ref mst, .ref mbi, .ref msu, .ref mke, .ref mik, .int oka, .int oiw])), (mN, .inl (cI, 9, .inl oN)), (mkd, .inl (cI, 8, .inl okd)), (mks, .inl (cI, 8, .inl oks)), (mcd, .inl (cI, 12, .inl ocd)), (mpr, .inl (cI, 16, .inl opr)), (msk, .inl (cI, 16, .inl osk)), (mow, .inl (cI, 16, .inl oow)), (mmi, .inl (cI, 16, .inl omi)), (mst, .inl (cI, 16, .inl ost)), (mbi, .inl (cI, 16, .inl obi)), (msu, .inl (cI, 16, .inl osu)), (mke, .inl (cI, 298, .inl oke)), (mik, .inl (cZ, 2, .inl oik))]) r := by
  refine CtI.ofW (cc := cX6_image) (maxL := 2) (by decide) rfl (Nat.le_of_ble_eq_true rfl) (lv := [(0, .ref aM), (1, .int x1)]) rfl ?_
  intro p e s m args below meth c A Q ls hx hb hml hown hts hK hN hP hD hS hA hl hret0
  have hown : s.vm.findClass RX6 = some m.cls := hown
  have i6 : ∀ w ∈ wsX60, w ∈ wsX6_image := mem_ps [28, 29, 30, 31, 32, 33, 34, 35, 36, 37, 38, 39, 40, 41, 42] rfl
  have hret : ∀ (v : Int32) (zka : Int32) (ziw : Int32) (zN : Nat → Int32) (zkd : Nat → Int32) (zks : Nat → Int32) (zcd : Nat → Int32) (zpr : Nat → Int32) (zsk : Nat → Int32) (zow : Nat → Int32) (zmi : Nat → Int32) (zst : Nat → Int32) (zbi : Nat → Int32) (zsu : Nat → Int32) (zke : Nat → Int32) (zik : Nat → Int32) (pc : Nat) (ls : Array Slot) (H : Heap) (locs : List Loc), narrow .int (.int v) = .int v → decode cX6_image pc = .ok (.ireturn, 1) → va_P D vwCl [(aM, .inr (6, [.ref mN, .ref mkd, .ref mks, .ref mcd, .ref mpr, .ref msk, .ref mow, .ref mmi, .ref mst, .ref mbi, .ref msu, .ref mke, .ref mik, .int zka, .int ziw])), (mN, .inl (cI, 9, .inl zN)), (mkd, .inl (cI, 8, .inl zkd)), (mks, .inl (cI, 8, .inl zks)), (mcd, .inl (cI, 12, .inl zcd)), (mpr, .inl (cI, 16, .inl zpr)), (msk, .inl (cI, 16, .inl zsk)), (mow, .inl (cI, 16, .inl zow)), (mmi, .inl (cI, 16, .inl zmi)), (mst, .inl (cI, 16, .inl zst)), (mbi, .inl (cI, 16, .inl zbi)), (msu, .inl (cI, 16, .inl zsu)), (mke, .inl (cI, 298, .inl zke)), (mik, .inl (cZ, 2, .inl zik))] H → va_D A [(aM, .inr (6, [.ref mN, .ref mkd, .ref mks, .ref mcd, .ref mpr, .ref msk, .ref mow, .ref mmi, .ref mst, .ref mbi, .ref msu, .ref mke, .ref mik, .int zka, .int ziw])), (mN, .inl (cI, 9, .inl zN)), (mkd, .inl (cI, 8, .inl zkd)), (mks, .inl (cI, 8, .inl zks)), (mcd, .inl (cI, 12, .inl zcd)), (mpr, .inl (cI, 16, .inl zpr)), (msk, .inl (cI, 16, .inl zsk)), (mow, .inl (cI, 16, .inl zow)), (mmi, .inl (cI, 16, .inl zmi)), (mst, .inl (cI, 16, .inl zst)), (mbi, .inl (cI, 16, .inl zbi)), (msu, .inl (cI, 16, .inl zsu)), (mke, .inl (cI, 298, .inl zke)), (mik, .inl (cZ, 2, .inl zik))] → va_S A s.heap H locs → some (v, zka, ziw, zN, zkd, zks, zcd, zpr, zsk, zow, zmi, zst, zbi, zsu, zke, zik) = some (r, oka, oiw, oN, okd, oks, ocd, opr, osk, oow, omi, ost, obi, osu, oke, oik) → W p l e rX6_image s m args below meth c H locs 0 0 Q (F0 m pc ls [.int v]) := by
    intro v zka ziw zN zkd zks zcd zpr zsk zow zmi zst zbi zsu zke zik pc ls H locs hn hd hP hD hS h
    cases h
    exact hret0 pc ls H locs () hn hd hP hD hS
  clear hret0
  unfold fX6_image at h
  obtain ⟨H, hH⟩ : ∃ H, H = s.heap := ⟨_, rfl⟩
  have hP : va_P D vwCl [(aM, .inr (6, [.ref mN, .ref mkd, .ref mks, .ref mcd, .ref mpr, .ref msk, .ref mow, .ref mmi, .ref mst, .ref mbi, .ref msu, .ref mke, .ref mik, .int vka, .int viw])), (mN, .inl (cI, 9, .inl fN)), (mkd, .inl (cI, 8, .inl fkd)), (mks, .inl (cI, 8, .inl fks)), (mcd, .inl (cI, 12, .inl fcd)), (mpr, .inl (cI, 16, .inl fpr)), (msk, .inl (cI, 16, .inl fsk)), (mow, .inl (cI, 16, .inl fow)), (mmi, .inl (cI, 16, .inl fmi)), (mst, .inl (cI, 16, .inl fst)), (mbi, .inl (cI, 16, .inl fbi)), (msu, .inl (cI, 16, .inl fsu)), (mke, .inl (cI, 298, .inl fke)), (mik, .inl (cZ, 2, .inl fik))] H := by rw [hH]; exact hP
  obtain ⟨locs, hlocs⟩ : ∃ x : List Loc, x = [] := ⟨_, rfl⟩
  have hS : va_S A s.heap H locs := by rw [hH, hlocs]; exact hS
  suffices hgo : W p l e rX6_image s m args below meth c H locs 0 0 Q (F0 m 0 ls []) by rw [hH, hlocs] at hgo; exact hgo
  refine lv_iload_n hx hb dX6_image_0 rfl (lv_at hl 1 rfl) ?_
  refine lv_i2l (v := x1.toInt64) hx hb dX6_image_1 rfl ?_
  refine lv_lconst (v := (0 : Int64)) hx hb dX6_image_2 (by decide) ?_
  refine lv_lconst (v := (1 : Int64)) hx hb dX6_image_3 (by decide) ?_
  obtain ⟨r_4, q_4, h⟩ := bd1_some h
  refine fr_ro_i (S := Unit) (wc := []) (fr_S (As := [.long x1.toInt64, .long (0 : Int64), .long (1 : Int64)]) (rest := []) ⟨hx, hb, hml, hown, hts⟩ (tX6_in x1.toInt64 (0 : Int64) (1 : Int64) r_4 q_4) gX6_image_X6_in rfl (fr_pre (As := [.long x1.toInt64, .long (0 : Int64), .long (1 : Int64)]) (wc := []) hK hN hP hD [] (by decide) rfl) (n := 3) (by decide +kernel) ⟨Nat.le_of_ble_eq_true rfl, Nat.le_of_ble_eq_true rfl⟩ rfl hl.1 rfl (Nat.le_of_ble_eq_true rfl) dX6_image_4 ⟨Nat.zero_le _, Nat.zero_le _⟩) hP hD hS hA [] rfl (c2 := 0) (s2 := 0) rfl rfl (fun H locs hP hS => ?_)
  refine lv_if_ne (tgt := 13) hx hb dX6_image_7 (by decide) (fun c1 => ?_) (fun c1 => ?_)
  · have h := (if_neg c1).symm.trans h
    refine lv_aload_n hx hb dX6_image_13 rfl (lv_at hl 0 rfl) ?_
    refine lv_sipush (v := (149 : Int32)) hx hb dX6_image_14 (by decide) ?_
    refine lv_iload_n hx hb dX6_image_17 rfl (lv_at hl 1 rfl) ?_
    refine lv_imul hx hb dX6_image_18 ?_
    refine va_put (D := D) (ci := 6) (v := .int ((149 : Int32) * x1)) (ty := .int) (C := RX6) (T := TX6) (N := 15) hx hb hts i6 tyX6 tyX6_ok nmX6 hown hK hP hD hS 0 rfl rfl 13 (by decide) (hts (.fieldLink RX6 141 RX6 "keptAt" "I") (List.mem_of_getElem? (i := 1) rfl)) (fun _ h9 => h9) rfl (by decide +kernel) rfl rfl (Nat.le_of_ble_eq_true rfl) dX6_image_19 (fun H locs hP hD hS => ?_)
    have hP : va_P D vwCl [(aM, .inr (6, [.ref mN, .ref mkd, .ref mks, .ref mcd, .ref mpr, .ref msk, .ref mow, .ref mmi, .ref mst, .ref mbi, .ref msu, .ref mke, .ref mik, .int ((149 : Int32) * x1), .int viw])), (mN, .inl (cI, 9, .inl fN)), (mkd, .inl (cI, 8, .inl fkd)), (mks, .inl (cI, 8, .inl fks)), (mcd, .inl (cI, 12, .inl fcd)), (mpr, .inl (cI, 16, .inl fpr)), (msk, .inl (cI, 16, .inl fsk)), (mow, .inl (cI, 16, .inl fow)), (mmi, .inl (cI, 16, .inl fmi)), (mst, .inl (cI, 16, .inl fst)), (mbi, .inl (cI, 16, .inl fbi)), (msu, .inl (cI, 16, .inl fsu)), (mke, .inl (cI, 298, .inl fke)), (mik, .inl (cZ, 2, .inl fik))] H := hP
    have hD : va_D A [(aM, .inr (6, [.ref mN, .ref mkd, .ref mks, .ref mcd, .ref mpr, .ref msk, .ref mow, .ref mmi, .ref mst, .ref mbi, .ref msu, .ref mke, .ref mik, .int ((149 : Int32) * x1), .int viw])), (mN, .inl (cI, 9, .inl fN)), (mkd, .inl (cI, 8, .inl fkd)), (mks, .inl (cI, 8, .inl fks)), (mcd, .inl (cI, 12, .inl fcd)), (mpr, .inl (cI, 16, .inl fpr)), (msk, .inl (cI, 16, .inl fsk)), (mow, .inl (cI, 16, .inl fow)), (mmi, .inl (cI, 16, .inl fmi)), (mst, .inl (cI, 16, .inl fst)), (mbi, .inl (cI, 16, .inl fbi)), (msu, .inl (cI, 16, .inl fsu)), (mke, .inl (cI, 298, .inl fke)), (mik, .inl (cZ, 2, .inl fik))] := hD
    refine lv_aload_n hx hb dX6_image_22 rfl (lv_at hl 0 rfl) ?_
    refine lv_iconst (v := (1 : Int32)) hx hb dX6_image_23 (by decide) ?_
    refine va_put (D := D) (ci := 6) (v := .int (1 : Int32)) (ty := .boolean) (C := RX6) (T := TX6) (N := 15) hx hb hts i6 tyX6 tyX6_ok nmX6 hown hK hP hD hS 0 rfl rfl 14 (by decide) (hts (.fieldLink RX6 137 RX6 "isWriting" "Z") (List.mem_of_getElem? (i := 2) rfl)) (fun _ h9 => h9) rfl (by decide +kernel) rfl rfl (Nat.le_of_ble_eq_true rfl) dX6_image_24 (fun H locs hP hD hS => ?_)
    have hP : va_P D vwCl [(aM, .inr (6, [.ref mN, .ref mkd, .ref mks, .ref mcd, .ref mpr, .ref msk, .ref mow, .ref mmi, .ref mst, .ref mbi, .ref msu, .ref mke, .ref mik, .int ((149 : Int32) * x1), .int (1 : Int32)])), (mN, .inl (cI, 9, .inl fN)), (mkd, .inl (cI, 8, .inl fkd)), (mks, .inl (cI, 8, .inl fks)), (mcd, .inl (cI, 12, .inl fcd)), (mpr, .inl (cI, 16, .inl fpr)), (msk, .inl (cI, 16, .inl fsk)), (mow, .inl (cI, 16, .inl fow)), (mmi, .inl (cI, 16, .inl fmi)), (mst, .inl (cI, 16, .inl fst)), (mbi, .inl (cI, 16, .inl fbi)), (msu, .inl (cI, 16, .inl fsu)), (mke, .inl (cI, 298, .inl fke)), (mik, .inl (cZ, 2, .inl fik))] H := hP
    have hD : va_D A [(aM, .inr (6, [.ref mN, .ref mkd, .ref mks, .ref mcd, .ref mpr, .ref msk, .ref mow, .ref mmi, .ref mst, .ref mbi, .ref msu, .ref mke, .ref mik, .int ((149 : Int32) * x1), .int (1 : Int32)])), (mN, .inl (cI, 9, .inl fN)), (mkd, .inl (cI, 8, .inl fkd)), (mks, .inl (cI, 8, .inl fks)), (mcd, .inl (cI, 12, .inl fcd)), (mpr, .inl (cI, 16, .inl fpr)), (msk, .inl (cI, 16, .inl fsk)), (mow, .inl (cI, 16, .inl fow)), (mmi, .inl (cI, 16, .inl fmi)), (mst, .inl (cI, 16, .inl fst)), (mbi, .inl (cI, 16, .inl fbi)), (msu, .inl (cI, 16, .inl fsu)), (mke, .inl (cI, 298, .inl fke)), (mik, .inl (cZ, 2, .inl fik))] := hD
    refine lv_aload_n hx hb dX6_image_27 rfl (lv_at hl 0 rfl) ?_
    obtain ⟨vka_28, fN_28, fkd_28, fks_28, fcd_28, fpr_28, fsk_28, fow_28, fmi_28, fst_28, fbi_28, fsu_28, fke_28, q_28, h⟩ := bd13_some h
    refine fr_rw_v (S := Unit) (wc := [(aM, .inr (6, [.ref mN, .ref mkd, .ref mks, .ref mcd, .ref mpr, .ref msk, .ref mow, .ref mmi, .ref mst, .ref mbi, .ref msu, .ref mke, .ref mik, .int ((149 : Int32) * x1), .int (1 : Int32)])), (mN, .inl (cI, 9, .inl fN)), (mkd, .inl (cI, 8, .inl fkd)), (mks, .inl (cI, 8, .inl fks)), (mcd, .inl (cI, 12, .inl fcd)), (mpr, .inl (cI, 16, .inl fpr)), (msk, .inl (cI, 16, .inl fsk)), (mow, .inl (cI, 16, .inl fow)), (mmi, .inl (cI, 16, .inl fmi)), (mst, .inl (cI, 16, .inl fst)), (mbi, .inl (cI, 16, .inl fbi)), (msu, .inl (cI, 16, .inl fsu)), (mke, .inl (cI, 298, .inl fke))]) (wc' := fun _ => [(aM, .inr (6, [.ref mN, .ref mkd, .ref mks, .ref mcd, .ref mpr, .ref msk, .ref mow, .ref mmi, .ref mst, .ref mbi, .ref msu, .ref mke, .ref mik, .int vka_28, .int (1 : Int32)])), (mN, .inl (cI, 9, .inl fN_28)), (mkd, .inl (cI, 8, .inl fkd_28)), (mks, .inl (cI, 8, .inl fks_28)), (mcd, .inl (cI, 12, .inl fcd_28)), (mpr, .inl (cI, 16, .inl fpr_28)), (msk, .inl (cI, 16, .inl fsk_28)), (mow, .inl (cI, 16, .inl fow_28)), (mmi, .inl (cI, 16, .inl fmi_28)), (mst, .inl (cI, 16, .inl fst_28)), (mbi, .inl (cI, 16, .inl fbi_28)), (msu, .inl (cI, 16, .inl fsu_28)), (mke, .inl (cI, 298, .inl fke_28))]) (wr := [(mik, .inl (cZ, 2, .inl fik))]) (w2 := fun _ => [(aM, .inr (6, [.ref mN, .ref mkd, .ref mks, .ref mcd, .ref mpr, .ref msk, .ref mow, .ref mmi, .ref mst, .ref mbi, .ref msu, .ref mke, .ref mik, .int vka_28, .int (1 : Int32)])), (mN, .inl (cI, 9, .inl fN_28)), (mkd, .inl (cI, 8, .inl fkd_28)), (mks, .inl (cI, 8, .inl fks_28)), (mcd, .inl (cI, 12, .inl fcd_28)), (mpr, .inl (cI, 16, .inl fpr_28)), (msk, .inl (cI, 16, .inl fsk_28)), (mow, .inl (cI, 16, .inl fow_28)), (mmi, .inl (cI, 16, .inl fmi_28)), (mst, .inl (cI, 16, .inl fst_28)), (mbi, .inl (cI, 16, .inl fbi_28)), (msu, .inl (cI, 16, .inl fsu_28)), (mke, .inl (cI, 298, .inl fke_28)), (mik, .inl (cZ, 2, .inl fik))]) (fr_Vv (As := []) (rest := []) (C := RX6) ⟨hx, hb, hml, hown, hts⟩ (tX6_passAll aM mN mkd mks mcd mpr msk mow mmi mst mbi msu mke mik ((149 : Int32) * x1) (1 : Int32) fN fkd fks fcd fpr fsk fow fmi fst fbi fsu fke vka_28 fN_28 fkd_28 fks_28 fcd_28 fpr_28 fsk_28 fow_28 fmi_28 fst_28 fbi_28 fsu_28 fke_28 q_28) gX6_image_X6_passAll rfl (fr_preV (As := []) (b := aM) (ci := 6) (q0 := 0) (wc := [(aM, .inr (6, [.ref mN, .ref mkd, .ref mks, .ref mcd, .ref mpr, .ref msk, .ref mow, .ref mmi, .ref mst, .ref mbi, .ref msu, .ref mke, .ref mik, .int ((149 : Int32) * x1), .int (1 : Int32)])), (mN, .inl (cI, 9, .inl fN)), (mkd, .inl (cI, 8, .inl fkd)), (mks, .inl (cI, 8, .inl fks)), (mcd, .inl (cI, 12, .inl fcd)), (mpr, .inl (cI, 16, .inl fpr)), (msk, .inl (cI, 16, .inl fsk)), (mow, .inl (cI, 16, .inl fow)), (mmi, .inl (cI, 16, .inl fmi)), (mst, .inl (cI, 16, .inl fst)), (mbi, .inl (cI, 16, .inl fbi)), (msu, .inl (cI, 16, .inl fsu)), (mke, .inl (cI, 298, .inl fke))]) hK hN hP hD [0, 1, 2, 3, 4, 5, 6, 7, 8, 9, 10, 11, 12] (by decide) rfl rfl rfl) (n := 0) (by decide +kernel) ⟨Nat.le_of_ble_eq_true rfl, Nat.le_of_ble_eq_true rfl⟩ rfl hl.1 rfl (Nat.le_of_ble_eq_true rfl) dX6_image_28 ⟨Nat.zero_le _, Nat.zero_le _⟩) hP hD hS hA [0, 1, 2, 3, 4, 5, 6, 7, 8, 9, 10, 11, 12] [13] [1, 2, 3, 4, 5, 6, 7, 8, 9, 10, 11, 12, 13, 0] rfl rfl (by decide) (by decide) (by decide) (fun _ => rfl) (c2 := 0) (s2 := 0) rfl rfl (fun _ H locs hP hD hS => ?_)
    refine lv_aload_n hx hb dX6_image_31 rfl (lv_at hl 0 rfl) ?_
    refine va_get (D := D) (ci := 6) (v := .ref mik) (C := RX6) (T := TX6) (N := 15) hx hb hts i6 hown hK hP 0 rfl rfl 12 (by decide) (hts (.fieldLink RX6 46 RX6 "isKept" "[Z") (List.mem_of_getElem? (i := 3) rfl)) (fun _ h9 => h9) rfl dX6_image_32 ?_
    refine lv_iload_n hx hb dX6_image_35 rfl (lv_at hl 1 rfl) ?_
    refine lv_iconst (v := (1 : Int32)) hx hb dX6_image_36 (by decide) ?_
    obtain ⟨g2, h⟩ := no_some h
    refine va_zast hx hb hK hP hD hS 13 1 rfl rfl g2 dX6_image_37 (fun H locs hP hD hS => ?_)
    have hP : va_P D vwCl [(aM, .inr (6, [.ref mN, .ref mkd, .ref mks, .ref mcd, .ref mpr, .ref msk, .ref mow, .ref mmi, .ref mst, .ref mbi, .ref msu, .ref mke, .ref mik, .int vka_28, .int (1 : Int32)])), (mN, .inl (cI, 9, .inl fN_28)), (mkd, .inl (cI, 8, .inl fkd_28)), (mks, .inl (cI, 8, .inl fks_28)), (mcd, .inl (cI, 12, .inl fcd_28)), (mpr, .inl (cI, 16, .inl fpr_28)), (msk, .inl (cI, 16, .inl fsk_28)), (mow, .inl (cI, 16, .inl fow_28)), (mmi, .inl (cI, 16, .inl fmi_28)), (mst, .inl (cI, 16, .inl fst_28)), (mbi, .inl (cI, 16, .inl fbi_28)), (msu, .inl (cI, 16, .inl fsu_28)), (mke, .inl (cI, 298, .inl fke_28)), (mik, .inl (cZ, 2, .inl (upd fik x1.toNatClampNeg (vp_nar .boolean (1 : Int32)))))] H := hP
    have hD : va_D A [(aM, .inr (6, [.ref mN, .ref mkd, .ref mks, .ref mcd, .ref mpr, .ref msk, .ref mow, .ref mmi, .ref mst, .ref mbi, .ref msu, .ref mke, .ref mik, .int vka_28, .int (1 : Int32)])), (mN, .inl (cI, 9, .inl fN_28)), (mkd, .inl (cI, 8, .inl fkd_28)), (mks, .inl (cI, 8, .inl fks_28)), (mcd, .inl (cI, 12, .inl fcd_28)), (mpr, .inl (cI, 16, .inl fpr_28)), (msk, .inl (cI, 16, .inl fsk_28)), (mow, .inl (cI, 16, .inl fow_28)), (mmi, .inl (cI, 16, .inl fmi_28)), (mst, .inl (cI, 16, .inl fst_28)), (mbi, .inl (cI, 16, .inl fbi_28)), (msu, .inl (cI, 16, .inl fsu_28)), (mke, .inl (cI, 298, .inl fke_28)), (mik, .inl (cZ, 2, .inl (upd fik x1.toNatClampNeg (vp_nar .boolean (1 : Int32)))))] := hD
    refine lv_iconst (v := (1 : Int32)) hx hb dX6_image_38 (by decide) ?_
    exact hret (1 : Int32) vka_28 (1 : Int32) fN_28 fkd_28 fks_28 fcd_28 fpr_28 fsk_28 fow_28 fmi_28 fst_28 fbi_28 fsu_28 fke_28 (upd fik x1.toNatClampNeg (vp_nar .boolean (1 : Int32))) 39 ls H locs rfl dX6_image_39 hP hD hS h
  · have h := (if_pos c1).symm.trans h
    refine lv_bipush (v := (-2 : Int32)) hx hb dX6_image_10 (by decide) ?_
    exact hret (-2 : Int32) vka viw fN fkd fks fcd fpr fsk fow fmi fst fbi fsu fke fik 12 ls H locs rfl dX6_image_12 hP hD hS h
def fX6_restore (vka : Int32) (viw : Int32) (fN : Nat → Int32) (fkd : Nat → Int32) (fks : Nat → Int32) (fcd : Nat → Int32) (fpr : Nat → Int32) (fsk : Nat → Int32) (fow : Nat → Int32) (fmi : Nat → Int32) (fst : Nat → Int32) (fbi : Nat → Int32) (fsu : Nat → Int32) (fke : Nat → Int32) (fik : Nat → Int32) (x1 : Int32) : Option (Int32 × Int32 × Int32 × (Nat → Int32) × (Nat → Int32) × (Nat → Int32) × (Nat → Int32) × (Nat → Int32) × (Nat → Int32) × (Nat → Int32) × (Nat → Int32) × (Nat → Int32) × (Nat → Int32) × (Nat → Int32) × (Nat → Int32)) :=
  bd1 (fX6_in x1.toInt64 (0 : Int64) (1 : Int64)) fun r_4 =>
  if r_4 = 0 then
    some ((-2 : Int32), vka, viw, fN, fkd, fks, fcd, fpr, fsk, fow, fmi, fst, fbi, fsu, fke)
  else
    if x1 < 0 ∨ 2 ≤ x1.toNatClampNeg then none else
    if (fik x1.toNatClampNeg) = 0 then
      some ((-3 : Int32), vka, viw, fN, fkd, fks, fcd, fpr, fsk, fow, fmi, fst, fbi, fsu, fke)
    else
      bd13 (fX6_passAll ((149 : Int32) * x1) (0 : Int32) fN fkd fks fcd fpr fsk fow fmi fst fbi fsu fke) fun vka_40 fN_40 fkd_40 fks_40 fcd_40 fpr_40 fsk_40 fow_40 fmi_40 fst_40 fbi_40 fsu_40 fke_40 =>
      some ((1 : Int32), vka_40, (0 : Int32), fN_40, fkd_40, fks_40, fcd_40, fpr_40, fsk_40, fow_40, fmi_40, fst_40, fbi_40, fsu_40, fke_40)
abbrev rX6_restore : Room := { frames := 2, cells := 0, slots := 0, locals := 43 }
set_option maxHeartbeats 4000000 in
set_option maxRecDepth 100000 in
theorem tX6_restore {l : Launch} {D : va_G} {cI cZ cP : ClassId} (aM mN mkd mks mcd mpr msk mow mmi mst mbi msu mke mik : Nat) (vka : Int32) (viw : Int32) (fN : Nat → Int32) (fkd : Nat → Int32) (fks : Nat → Int32) (fcd : Nat → Int32) (fpr : Nat → Int32) (fsk : Nat → Int32) (fow : Nat → Int32) (fmi : Nat → Int32) (fst : Nat → Int32) (fbi : Nat → Int32) (fsu : Nat → Int32) (fke : Nat → Int32) (fik : Nat → Int32) (x1 : Int32) (r : Int32) (oka : Int32) (oiw : Int32) (oN : Nat → Int32) (okd : Nat → Int32) (oks : Nat → Int32) (ocd : Nat → Int32) (opr : Nat → Int32) (osk : Nat → Int32) (oow : Nat → Int32) (omi : Nat → Int32) (ost : Nat → Int32) (obi : Nat → Int32) (osu : Nat → Int32) (oke : Nat → Int32) (h : fX6_restore vka viw fN fkd fks fcd fpr fsk fow fmi fst fbi fsu fke fik x1 = some (r, oka, oiw, oN, okd, oks, ocd, opr, osk, oow, omi, ost, obi, osu, oke)) : CtI l D cI cZ cP yX6_restore wsX6_restore rX6_restore [.ref aM, .int x1] [(aM, .inr (6, [.ref mN, .ref mkd, .ref mks, .ref mcd, .ref mpr, .ref msk, .ref mow, .ref mmi, .ref mst, .ref mbi, .ref msu, .ref mke, .ref mik, .int vka, .int viw])), (mN, .inl (cI, 9, .inl fN)), (mkd, .inl (cI, 8, .inl fkd)), (mks, .inl (cI, 8, .inl fks)), (mcd, .inl (cI, 12, .inl fcd)), (mpr, .inl (cI, 16, .inl fpr)), (msk, .inl (cI, 16, .inl fsk)), (mow, .inl (cI, 16, .inl fow)), (mmi, .inl (cI, 16, .inl fmi)), (mst, .inl (cI, 16, .inl fst)), (mbi, .inl (cI, 16, .inl fbi)), (msu, .inl (cI, 16, .inl fsu)), (mke, .inl (cI, 298, .inl fke)), (mik, .inl (cZ, 2, .inl fik))] (fun _ : Unit => [(aM, .inr (6, [.ref mN, .ref mkd, .ref mks, .ref mcd, .ref mpr, .ref msk, .ref mow, .ref mmi, .ref mst, .ref mbi, .ref msu, .ref mke, .ref mik, .int oka, .int oiw])), (mN, .inl (cI, 9, .inl oN)), (mkd, .inl (cI, 8, .inl okd)), (mks, .inl (cI, 8, .inl oks)), (mcd, .inl (cI, 12, .inl ocd)), (mpr, .inl (cI, 16, .inl opr)), (msk, .inl (cI, 16, .inl osk)), (mow, .inl (cI, 16, .inl oow)), (mmi, .inl (cI, 16, .inl omi)), (mst, .inl (cI, 16, .inl ost)), (mbi, .inl (cI, 16, .inl obi)), (msu, .inl (cI, 16, .inl osu)), (mke, .inl (cI, 298, .inl oke)), (mik, .inl (cZ, 2, .inl fik))]) r := by
  refine CtI.ofW (cc := cX6_restore) (maxL := 2) (by decide) rfl (Nat.le_of_ble_eq_true rfl) (lv := [(0, .ref aM), (1, .int x1)]) rfl ?_
  intro p e s m args below meth c A Q ls hx hb hml hown hts hK hN hP hD hS hA hl hret0
  have hown : s.vm.findClass RX6 = some m.cls := hown
  have i6 : ∀ w ∈ wsX60, w ∈ wsX6_restore := mem_ps [28, 29, 30, 31, 32, 33, 34, 35, 36, 37, 38, 39, 40, 41, 42] rfl
  have hret : ∀ (v : Int32) (zka : Int32) (ziw : Int32) (zN : Nat → Int32) (zkd : Nat → Int32) (zks : Nat → Int32) (zcd : Nat → Int32) (zpr : Nat → Int32) (zsk : Nat → Int32) (zow : Nat → Int32) (zmi : Nat → Int32) (zst : Nat → Int32) (zbi : Nat → Int32) (zsu : Nat → Int32) (zke : Nat → Int32) (pc : Nat) (ls : Array Slot) (H : Heap) (locs : List Loc), narrow .int (.int v) = .int v → decode cX6_restore pc = .ok (.ireturn, 1) → va_P D vwCl [(aM, .inr (6, [.ref mN, .ref mkd, .ref mks, .ref mcd, .ref mpr, .ref msk, .ref mow, .ref mmi, .ref mst, .ref mbi, .ref msu, .ref mke, .ref mik, .int zka, .int ziw])), (mN, .inl (cI, 9, .inl zN)), (mkd, .inl (cI, 8, .inl zkd)), (mks, .inl (cI, 8, .inl zks)), (mcd, .inl (cI, 12, .inl zcd)), (mpr, .inl (cI, 16, .inl zpr)), (msk, .inl (cI, 16, .inl zsk)), (mow, .inl (cI, 16, .inl zow)), (mmi, .inl (cI, 16, .inl zmi)), (mst, .inl (cI, 16, .inl zst)), (mbi, .inl (cI, 16, .inl zbi)), (msu, .inl (cI, 16, .inl zsu)), (mke, .inl (cI, 298, .inl zke)), (mik, .inl (cZ, 2, .inl fik))] H → va_D A [(aM, .inr (6, [.ref mN, .ref mkd, .ref mks, .ref mcd, .ref mpr, .ref msk, .ref mow, .ref mmi, .ref mst, .ref mbi, .ref msu, .ref mke, .ref mik, .int zka, .int ziw])), (mN, .inl (cI, 9, .inl zN)), (mkd, .inl (cI, 8, .inl zkd)), (mks, .inl (cI, 8, .inl zks)), (mcd, .inl (cI, 12, .inl zcd)), (mpr, .inl (cI, 16, .inl zpr)), (msk, .inl (cI, 16, .inl zsk)), (mow, .inl (cI, 16, .inl zow)), (mmi, .inl (cI, 16, .inl zmi)), (mst, .inl (cI, 16, .inl zst)), (mbi, .inl (cI, 16, .inl zbi)), (msu, .inl (cI, 16, .inl zsu)), (mke, .inl (cI, 298, .inl zke)), (mik, .inl (cZ, 2, .inl fik))] → va_S A s.heap H locs → some (v, zka, ziw, zN, zkd, zks, zcd, zpr, zsk, zow, zmi, zst, zbi, zsu, zke) = some (r, oka, oiw, oN, okd, oks, ocd, opr, osk, oow, omi, ost, obi, osu, oke) → W p l e rX6_restore s m args below meth c H locs 0 0 Q (F0 m pc ls [.int v]) := by
    intro v zka ziw zN zkd zks zcd zpr zsk zow zmi zst zbi zsu zke pc ls H locs hn hd hP hD hS h
    cases h
    exact hret0 pc ls H locs () hn hd hP hD hS
  clear hret0
  unfold fX6_restore at h
  obtain ⟨H, hH⟩ : ∃ H, H = s.heap := ⟨_, rfl⟩
  have hP : va_P D vwCl [(aM, .inr (6, [.ref mN, .ref mkd, .ref mks, .ref mcd, .ref mpr, .ref msk, .ref mow, .ref mmi, .ref mst, .ref mbi, .ref msu, .ref mke, .ref mik, .int vka, .int viw])), (mN, .inl (cI, 9, .inl fN)), (mkd, .inl (cI, 8, .inl fkd)), (mks, .inl (cI, 8, .inl fks)), (mcd, .inl (cI, 12, .inl fcd)), (mpr, .inl (cI, 16, .inl fpr)), (msk, .inl (cI, 16, .inl fsk)), (mow, .inl (cI, 16, .inl fow)), (mmi, .inl (cI, 16, .inl fmi)), (mst, .inl (cI, 16, .inl fst)), (mbi, .inl (cI, 16, .inl fbi)), (msu, .inl (cI, 16, .inl fsu)), (mke, .inl (cI, 298, .inl fke)), (mik, .inl (cZ, 2, .inl fik))] H := by rw [hH]; exact hP
  obtain ⟨locs, hlocs⟩ : ∃ x : List Loc, x = [] := ⟨_, rfl⟩
  have hS : va_S A s.heap H locs := by rw [hH, hlocs]; exact hS
  suffices hgo : W p l e rX6_restore s m args below meth c H locs 0 0 Q (F0 m 0 ls []) by rw [hH, hlocs] at hgo; exact hgo
  refine lv_iload_n hx hb dX6_restore_0 rfl (lv_at hl 1 rfl) ?_
  refine lv_i2l (v := x1.toInt64) hx hb dX6_restore_1 rfl ?_
  refine lv_lconst (v := (0 : Int64)) hx hb dX6_restore_2 (by decide) ?_
  refine lv_lconst (v := (1 : Int64)) hx hb dX6_restore_3 (by decide) ?_
  obtain ⟨r_4, q_4, h⟩ := bd1_some h
  refine fr_ro_i (S := Unit) (wc := []) (fr_S (As := [.long x1.toInt64, .long (0 : Int64), .long (1 : Int64)]) (rest := []) ⟨hx, hb, hml, hown, hts⟩ (tX6_in x1.toInt64 (0 : Int64) (1 : Int64) r_4 q_4) gX6_restore_X6_in rfl (fr_pre (As := [.long x1.toInt64, .long (0 : Int64), .long (1 : Int64)]) (wc := []) hK hN hP hD [] (by decide) rfl) (n := 3) (by decide +kernel) ⟨Nat.le_of_ble_eq_true rfl, Nat.le_of_ble_eq_true rfl⟩ rfl hl.1 rfl (Nat.le_of_ble_eq_true rfl) dX6_restore_4 ⟨Nat.zero_le _, Nat.zero_le _⟩) hP hD hS hA [] rfl (c2 := 0) (s2 := 0) rfl rfl (fun H locs hP hS => ?_)
  refine lv_if_ne (tgt := 13) hx hb dX6_restore_7 (by decide) (fun c1 => ?_) (fun c1 => ?_)
  · have h := (if_neg c1).symm.trans h
    refine lv_aload_n hx hb dX6_restore_13 rfl (lv_at hl 0 rfl) ?_
    refine va_get (D := D) (ci := 6) (v := .ref mik) (C := RX6) (T := TX6) (N := 15) hx hb hts i6 hown hK hP 0 rfl rfl 12 (by decide) (hts (.fieldLink RX6 46 RX6 "isKept" "[Z") (List.mem_of_getElem? (i := 1) rfl)) (fun _ h9 => h9) rfl dX6_restore_14 ?_
    refine lv_iload_n hx hb dX6_restore_17 rfl (lv_at hl 1 rfl) ?_
    obtain ⟨g2, h⟩ := no_some h
    refine va_zald hx hb hK hP 13 1 rfl rfl g2 dX6_restore_18 ?_
    refine lv_if_ne (tgt := 25) hx hb dX6_restore_19 (by decide) (fun c3 => ?_) (fun c3 => ?_)
    · have h := (if_neg c3).symm.trans h
      refine lv_aload_n hx hb dX6_restore_25 rfl (lv_at hl 0 rfl) ?_
      refine lv_sipush (v := (149 : Int32)) hx hb dX6_restore_26 (by decide) ?_
      refine lv_iload_n hx hb dX6_restore_29 rfl (lv_at hl 1 rfl) ?_
      refine lv_imul hx hb dX6_restore_30 ?_
      refine va_put (D := D) (ci := 6) (v := .int ((149 : Int32) * x1)) (ty := .int) (C := RX6) (T := TX6) (N := 15) hx hb hts i6 tyX6 tyX6_ok nmX6 hown hK hP hD hS 0 rfl rfl 13 (by decide) (hts (.fieldLink RX6 141 RX6 "keptAt" "I") (List.mem_of_getElem? (i := 2) rfl)) (fun _ h9 => h9) rfl (by decide +kernel) rfl rfl (Nat.le_of_ble_eq_true rfl) dX6_restore_31 (fun H locs hP hD hS => ?_)
      have hP : va_P D vwCl [(aM, .inr (6, [.ref mN, .ref mkd, .ref mks, .ref mcd, .ref mpr, .ref msk, .ref mow, .ref mmi, .ref mst, .ref mbi, .ref msu, .ref mke, .ref mik, .int ((149 : Int32) * x1), .int viw])), (mN, .inl (cI, 9, .inl fN)), (mkd, .inl (cI, 8, .inl fkd)), (mks, .inl (cI, 8, .inl fks)), (mcd, .inl (cI, 12, .inl fcd)), (mpr, .inl (cI, 16, .inl fpr)), (msk, .inl (cI, 16, .inl fsk)), (mow, .inl (cI, 16, .inl fow)), (mmi, .inl (cI, 16, .inl fmi)), (mst, .inl (cI, 16, .inl fst)), (mbi, .inl (cI, 16, .inl fbi)), (msu, .inl (cI, 16, .inl fsu)), (mke, .inl (cI, 298, .inl fke)), (mik, .inl (cZ, 2, .inl fik))] H := hP
      have hD : va_D A [(aM, .inr (6, [.ref mN, .ref mkd, .ref mks, .ref mcd, .ref mpr, .ref msk, .ref mow, .ref mmi, .ref mst, .ref mbi, .ref msu, .ref mke, .ref mik, .int ((149 : Int32) * x1), .int viw])), (mN, .inl (cI, 9, .inl fN)), (mkd, .inl (cI, 8, .inl fkd)), (mks, .inl (cI, 8, .inl fks)), (mcd, .inl (cI, 12, .inl fcd)), (mpr, .inl (cI, 16, .inl fpr)), (msk, .inl (cI, 16, .inl fsk)), (mow, .inl (cI, 16, .inl fow)), (mmi, .inl (cI, 16, .inl fmi)), (mst, .inl (cI, 16, .inl fst)), (mbi, .inl (cI, 16, .inl fbi)), (msu, .inl (cI, 16, .inl fsu)), (mke, .inl (cI, 298, .inl fke)), (mik, .inl (cZ, 2, .inl fik))] := hD
      refine lv_aload_n hx hb dX6_restore_34 rfl (lv_at hl 0 rfl) ?_
      refine lv_iconst (v := (0 : Int32)) hx hb dX6_restore_35 (by decide) ?_
      refine va_put (D := D) (ci := 6) (v := .int (0 : Int32)) (ty := .boolean) (C := RX6) (T := TX6) (N := 15) hx hb hts i6 tyX6 tyX6_ok nmX6 hown hK hP hD hS 0 rfl rfl 14 (by decide) (hts (.fieldLink RX6 137 RX6 "isWriting" "Z") (List.mem_of_getElem? (i := 3) rfl)) (fun _ h9 => h9) rfl (by decide +kernel) rfl rfl (Nat.le_of_ble_eq_true rfl) dX6_restore_36 (fun H locs hP hD hS => ?_)
      have hP : va_P D vwCl [(aM, .inr (6, [.ref mN, .ref mkd, .ref mks, .ref mcd, .ref mpr, .ref msk, .ref mow, .ref mmi, .ref mst, .ref mbi, .ref msu, .ref mke, .ref mik, .int ((149 : Int32) * x1), .int (0 : Int32)])), (mN, .inl (cI, 9, .inl fN)), (mkd, .inl (cI, 8, .inl fkd)), (mks, .inl (cI, 8, .inl fks)), (mcd, .inl (cI, 12, .inl fcd)), (mpr, .inl (cI, 16, .inl fpr)), (msk, .inl (cI, 16, .inl fsk)), (mow, .inl (cI, 16, .inl fow)), (mmi, .inl (cI, 16, .inl fmi)), (mst, .inl (cI, 16, .inl fst)), (mbi, .inl (cI, 16, .inl fbi)), (msu, .inl (cI, 16, .inl fsu)), (mke, .inl (cI, 298, .inl fke)), (mik, .inl (cZ, 2, .inl fik))] H := hP
      have hD : va_D A [(aM, .inr (6, [.ref mN, .ref mkd, .ref mks, .ref mcd, .ref mpr, .ref msk, .ref mow, .ref mmi, .ref mst, .ref mbi, .ref msu, .ref mke, .ref mik, .int ((149 : Int32) * x1), .int (0 : Int32)])), (mN, .inl (cI, 9, .inl fN)), (mkd, .inl (cI, 8, .inl fkd)), (mks, .inl (cI, 8, .inl fks)), (mcd, .inl (cI, 12, .inl fcd)), (mpr, .inl (cI, 16, .inl fpr)), (msk, .inl (cI, 16, .inl fsk)), (mow, .inl (cI, 16, .inl fow)), (mmi, .inl (cI, 16, .inl fmi)), (mst, .inl (cI, 16, .inl fst)), (mbi, .inl (cI, 16, .inl fbi)), (msu, .inl (cI, 16, .inl fsu)), (mke, .inl (cI, 298, .inl fke)), (mik, .inl (cZ, 2, .inl fik))] := hD
      refine lv_aload_n hx hb dX6_restore_39 rfl (lv_at hl 0 rfl) ?_
      obtain ⟨vka_40, fN_40, fkd_40, fks_40, fcd_40, fpr_40, fsk_40, fow_40, fmi_40, fst_40, fbi_40, fsu_40, fke_40, q_40, h⟩ := bd13_some h
      refine fr_rw_v (S := Unit) (wc := [(aM, .inr (6, [.ref mN, .ref mkd, .ref mks, .ref mcd, .ref mpr, .ref msk, .ref mow, .ref mmi, .ref mst, .ref mbi, .ref msu, .ref mke, .ref mik, .int ((149 : Int32) * x1), .int (0 : Int32)])), (mN, .inl (cI, 9, .inl fN)), (mkd, .inl (cI, 8, .inl fkd)), (mks, .inl (cI, 8, .inl fks)), (mcd, .inl (cI, 12, .inl fcd)), (mpr, .inl (cI, 16, .inl fpr)), (msk, .inl (cI, 16, .inl fsk)), (mow, .inl (cI, 16, .inl fow)), (mmi, .inl (cI, 16, .inl fmi)), (mst, .inl (cI, 16, .inl fst)), (mbi, .inl (cI, 16, .inl fbi)), (msu, .inl (cI, 16, .inl fsu)), (mke, .inl (cI, 298, .inl fke))]) (wc' := fun _ => [(aM, .inr (6, [.ref mN, .ref mkd, .ref mks, .ref mcd, .ref mpr, .ref msk, .ref mow, .ref mmi, .ref mst, .ref mbi, .ref msu, .ref mke, .ref mik, .int vka_40, .int (0 : Int32)])), (mN, .inl (cI, 9, .inl fN_40)), (mkd, .inl (cI, 8, .inl fkd_40)), (mks, .inl (cI, 8, .inl fks_40)), (mcd, .inl (cI, 12, .inl fcd_40)), (mpr, .inl (cI, 16, .inl fpr_40)), (msk, .inl (cI, 16, .inl fsk_40)), (mow, .inl (cI, 16, .inl fow_40)), (mmi, .inl (cI, 16, .inl fmi_40)), (mst, .inl (cI, 16, .inl fst_40)), (mbi, .inl (cI, 16, .inl fbi_40)), (msu, .inl (cI, 16, .inl fsu_40)), (mke, .inl (cI, 298, .inl fke_40))]) (wr := [(mik, .inl (cZ, 2, .inl fik))]) (w2 := fun _ => [(aM, .inr (6, [.ref mN, .ref mkd, .ref mks, .ref mcd, .ref mpr, .ref msk, .ref mow, .ref mmi, .ref mst, .ref mbi, .ref msu, .ref mke, .ref mik, .int vka_40, .int (0 : Int32)])), (mN, .inl (cI, 9, .inl fN_40)), (mkd, .inl (cI, 8, .inl fkd_40)), (mks, .inl (cI, 8, .inl fks_40)), (mcd, .inl (cI, 12, .inl fcd_40)), (mpr, .inl (cI, 16, .inl fpr_40)), (msk, .inl (cI, 16, .inl fsk_40)), (mow, .inl (cI, 16, .inl fow_40)), (mmi, .inl (cI, 16, .inl fmi_40)), (mst, .inl (cI, 16, .inl fst_40)), (mbi, .inl (cI, 16, .inl fbi_40)), (msu, .inl (cI, 16, .inl fsu_40)), (mke, .inl (cI, 298, .inl fke_40)), (mik, .inl (cZ, 2, .inl fik))]) (fr_Vv (As := []) (rest := []) (C := RX6) ⟨hx, hb, hml, hown, hts⟩ (tX6_passAll aM mN mkd mks mcd mpr msk mow mmi mst mbi msu mke mik ((149 : Int32) * x1) (0 : Int32) fN fkd fks fcd fpr fsk fow fmi fst fbi fsu fke vka_40 fN_40 fkd_40 fks_40 fcd_40 fpr_40 fsk_40 fow_40 fmi_40 fst_40 fbi_40 fsu_40 fke_40 q_40) gX6_restore_X6_passAll rfl (fr_preV (As := []) (b := aM) (ci := 6) (q0 := 0) (wc := [(aM, .inr (6, [.ref mN, .ref mkd, .ref mks, .ref mcd, .ref mpr, .ref msk, .ref mow, .ref mmi, .ref mst, .ref mbi, .ref msu, .ref mke, .ref mik, .int ((149 : Int32) * x1), .int (0 : Int32)])), (mN, .inl (cI, 9, .inl fN)), (mkd, .inl (cI, 8, .inl fkd)), (mks, .inl (cI, 8, .inl fks)), (mcd, .inl (cI, 12, .inl fcd)), (mpr, .inl (cI, 16, .inl fpr)), (msk, .inl (cI, 16, .inl fsk)), (mow, .inl (cI, 16, .inl fow)), (mmi, .inl (cI, 16, .inl fmi)), (mst, .inl (cI, 16, .inl fst)), (mbi, .inl (cI, 16, .inl fbi)), (msu, .inl (cI, 16, .inl fsu)), (mke, .inl (cI, 298, .inl fke))]) hK hN hP hD [0, 1, 2, 3, 4, 5, 6, 7, 8, 9, 10, 11, 12] (by decide) rfl rfl rfl) (n := 0) (by decide +kernel) ⟨Nat.le_of_ble_eq_true rfl, Nat.le_of_ble_eq_true rfl⟩ rfl hl.1 rfl (Nat.le_of_ble_eq_true rfl) dX6_restore_40 ⟨Nat.zero_le _, Nat.zero_le _⟩) hP hD hS hA [0, 1, 2, 3, 4, 5, 6, 7, 8, 9, 10, 11, 12] [13] [1, 2, 3, 4, 5, 6, 7, 8, 9, 10, 11, 12, 13, 0] rfl rfl (by decide) (by decide) (by decide) (fun _ => rfl) (c2 := 0) (s2 := 0) rfl rfl (fun _ H locs hP hD hS => ?_)
      refine lv_iconst (v := (1 : Int32)) hx hb dX6_restore_43 (by decide) ?_
      exact hret (1 : Int32) vka_40 (0 : Int32) fN_40 fkd_40 fks_40 fcd_40 fpr_40 fsk_40 fow_40 fmi_40 fst_40 fbi_40 fsu_40 fke_40 44 ls H locs rfl dX6_restore_44 hP hD hS h
    · have h := (if_pos c3).symm.trans h
      refine lv_bipush (v := (-3 : Int32)) hx hb dX6_restore_22 (by decide) ?_
      exact hret (-3 : Int32) vka viw fN fkd fks fcd fpr fsk fow fmi fst fbi fsu fke 24 ls H locs rfl dX6_restore_24 hP hD hS h
  · have h := (if_pos c1).symm.trans h
    refine lv_bipush (v := (-2 : Int32)) hx hb dX6_restore_10 (by decide) ?_
    exact hret (-2 : Int32) vka viw fN fkd fks fcd fpr fsk fow fmi fst fbi fsu fke 12 ls H locs rfl dX6_restore_12 hP hD hS h
def fX6_told (fN : Nat → Int32) (fks : Nat → Int32) (fcd : Nat → Int32) (x1 : Int32) : Option (Int32) :=
  bd1 (fX6_isCell fN (x1 - (100 : Int32))) fun r_5 =>
  if r_5 = 0 then
    if x1 = (4 : Int32) then
      bd1 (fX6_stocks fN fks) fun r_27 =>
      some r_27
    else
      bd1 (fX6_in x1.toInt64 (0 : Int64) (8 : Int64)) fun r_37 =>
      if r_37 = 0 then
        some (-2 : Int32)
      else
        if x1 < 0 ∨ 9 ≤ x1.toNatClampNeg then none else
        some (fN x1.toNatClampNeg)
  else
    if x1 - (100 : Int32) < 0 ∨ 12 ≤ (x1 - (100 : Int32)).toNatClampNeg then none else
    some (fcd ((x1 - (100 : Int32)).toNatClampNeg))
abbrev rX6_told : Room := { frames := 2, cells := 0, slots := 0, locals := 46 }
set_option maxHeartbeats 4000000 in
set_option maxRecDepth 100000 in
theorem tX6_told {l : Launch} {D : va_G} {cI cZ cP : ClassId} (aM mN mkd mks mcd mpr msk mow mmi mst mbi msu mke mik : Nat) (vka : Int32) (viw : Int32) (fN : Nat → Int32) (fkd : Nat → Int32) (fks : Nat → Int32) (fcd : Nat → Int32) (fpr : Nat → Int32) (fsk : Nat → Int32) (fow : Nat → Int32) (fmi : Nat → Int32) (fst : Nat → Int32) (fbi : Nat → Int32) (fsu : Nat → Int32) (fke : Nat → Int32) (fik : Nat → Int32) (x1 : Int32) (r : Int32) (h : fX6_told fN fks fcd x1 = some r) : CtI l D cI cZ cP yX6_told wsX6_told rX6_told [.ref aM, .int x1] [(aM, .inr (6, [.ref mN, .ref mkd, .ref mks, .ref mcd, .ref mpr, .ref msk, .ref mow, .ref mmi, .ref mst, .ref mbi, .ref msu, .ref mke, .ref mik, .int vka, .int viw])), (mN, .inl (cI, 9, .inl fN)), (mkd, .inl (cI, 8, .inl fkd)), (mks, .inl (cI, 8, .inl fks)), (mcd, .inl (cI, 12, .inl fcd)), (mpr, .inl (cI, 16, .inl fpr)), (msk, .inl (cI, 16, .inl fsk)), (mow, .inl (cI, 16, .inl fow)), (mmi, .inl (cI, 16, .inl fmi)), (mst, .inl (cI, 16, .inl fst)), (mbi, .inl (cI, 16, .inl fbi)), (msu, .inl (cI, 16, .inl fsu)), (mke, .inl (cI, 298, .inl fke)), (mik, .inl (cZ, 2, .inl fik))] (fun _ : Unit => [(aM, .inr (6, [.ref mN, .ref mkd, .ref mks, .ref mcd, .ref mpr, .ref msk, .ref mow, .ref mmi, .ref mst, .ref mbi, .ref msu, .ref mke, .ref mik, .int vka, .int viw])), (mN, .inl (cI, 9, .inl fN)), (mkd, .inl (cI, 8, .inl fkd)), (mks, .inl (cI, 8, .inl fks)), (mcd, .inl (cI, 12, .inl fcd)), (mpr, .inl (cI, 16, .inl fpr)), (msk, .inl (cI, 16, .inl fsk)), (mow, .inl (cI, 16, .inl fow)), (mmi, .inl (cI, 16, .inl fmi)), (mst, .inl (cI, 16, .inl fst)), (mbi, .inl (cI, 16, .inl fbi)), (msu, .inl (cI, 16, .inl fsu)), (mke, .inl (cI, 298, .inl fke)), (mik, .inl (cZ, 2, .inl fik))]) r := by
  refine CtI.ofW (cc := cX6_told) (maxL := 2) (by decide) rfl (Nat.le_of_ble_eq_true rfl) (lv := [(0, .ref aM), (1, .int x1)]) rfl ?_
  intro p e s m args below meth c A Q ls hx hb hml hown hts hK hN hP hD hS hA hl hret0
  have hown : s.vm.findClass RX6 = some m.cls := hown
  have i6 : ∀ w ∈ wsX60, w ∈ wsX6_told := mem_ps [25, 26, 27, 28, 29, 30, 31, 32, 33, 34, 35, 36, 37, 38, 39] rfl
  have hret : ∀ (v : Int32) (pc : Nat) (ls : Array Slot) (H : Heap) (locs : List Loc), narrow .int (.int v) = .int v → decode cX6_told pc = .ok (.ireturn, 1) → va_P D vwCl [(aM, .inr (6, [.ref mN, .ref mkd, .ref mks, .ref mcd, .ref mpr, .ref msk, .ref mow, .ref mmi, .ref mst, .ref mbi, .ref msu, .ref mke, .ref mik, .int vka, .int viw])), (mN, .inl (cI, 9, .inl fN)), (mkd, .inl (cI, 8, .inl fkd)), (mks, .inl (cI, 8, .inl fks)), (mcd, .inl (cI, 12, .inl fcd)), (mpr, .inl (cI, 16, .inl fpr)), (msk, .inl (cI, 16, .inl fsk)), (mow, .inl (cI, 16, .inl fow)), (mmi, .inl (cI, 16, .inl fmi)), (mst, .inl (cI, 16, .inl fst)), (mbi, .inl (cI, 16, .inl fbi)), (msu, .inl (cI, 16, .inl fsu)), (mke, .inl (cI, 298, .inl fke)), (mik, .inl (cZ, 2, .inl fik))] H → va_D A [(aM, .inr (6, [.ref mN, .ref mkd, .ref mks, .ref mcd, .ref mpr, .ref msk, .ref mow, .ref mmi, .ref mst, .ref mbi, .ref msu, .ref mke, .ref mik, .int vka, .int viw])), (mN, .inl (cI, 9, .inl fN)), (mkd, .inl (cI, 8, .inl fkd)), (mks, .inl (cI, 8, .inl fks)), (mcd, .inl (cI, 12, .inl fcd)), (mpr, .inl (cI, 16, .inl fpr)), (msk, .inl (cI, 16, .inl fsk)), (mow, .inl (cI, 16, .inl fow)), (mmi, .inl (cI, 16, .inl fmi)), (mst, .inl (cI, 16, .inl fst)), (mbi, .inl (cI, 16, .inl fbi)), (msu, .inl (cI, 16, .inl fsu)), (mke, .inl (cI, 298, .inl fke)), (mik, .inl (cZ, 2, .inl fik))] → va_S A s.heap H locs → some v = some r → W p l e rX6_told s m args below meth c H locs 0 0 Q (F0 m pc ls [.int v]) := by
    intro v pc ls H locs hn hd hP hD hS h
    cases h
    exact hret0 pc ls H locs () hn hd hP hD hS
  clear hret0
  unfold fX6_told at h
  obtain ⟨H, hH⟩ : ∃ H, H = s.heap := ⟨_, rfl⟩
  have hP : va_P D vwCl [(aM, .inr (6, [.ref mN, .ref mkd, .ref mks, .ref mcd, .ref mpr, .ref msk, .ref mow, .ref mmi, .ref mst, .ref mbi, .ref msu, .ref mke, .ref mik, .int vka, .int viw])), (mN, .inl (cI, 9, .inl fN)), (mkd, .inl (cI, 8, .inl fkd)), (mks, .inl (cI, 8, .inl fks)), (mcd, .inl (cI, 12, .inl fcd)), (mpr, .inl (cI, 16, .inl fpr)), (msk, .inl (cI, 16, .inl fsk)), (mow, .inl (cI, 16, .inl fow)), (mmi, .inl (cI, 16, .inl fmi)), (mst, .inl (cI, 16, .inl fst)), (mbi, .inl (cI, 16, .inl fbi)), (msu, .inl (cI, 16, .inl fsu)), (mke, .inl (cI, 298, .inl fke)), (mik, .inl (cZ, 2, .inl fik))] H := by rw [hH]; exact hP
  obtain ⟨locs, hlocs⟩ : ∃ x : List Loc, x = [] := ⟨_, rfl⟩
  have hS : va_S A s.heap H locs := by rw [hH, hlocs]; exact hS
  suffices hgo : W p l e rX6_told s m args below meth c H locs 0 0 Q (F0 m 0 ls []) by rw [hH, hlocs] at hgo; exact hgo
  refine lv_aload_n hx hb dX6_told_0 rfl (lv_at hl 0 rfl) ?_
  refine lv_iload_n hx hb dX6_told_1 rfl (lv_at hl 1 rfl) ?_
  refine lv_bipush (v := (100 : Int32)) hx hb dX6_told_2 (by decide) ?_
  refine lv_isub hx hb dX6_told_4 ?_
  obtain ⟨r_5, q_5, h⟩ := bd1_some h
  refine fr_ro_i (S := Unit) (wc := [(aM, .inr (6, [.ref mN, .ref mkd, .ref mks, .ref mcd, .ref mpr, .ref msk, .ref mow, .ref mmi, .ref mst, .ref mbi, .ref msu, .ref mke, .ref mik, .int vka, .int viw])), (mN, .inl (cI, 9, .inl fN))]) (fr_V (As := [.int (x1 - (100 : Int32))]) (rest := []) (C := RX6) ⟨hx, hb, hml, hown, hts⟩ (tX6_isCell aM mN mkd mks mcd mpr msk mow mmi mst mbi msu mke mik vka viw fN (x1 - (100 : Int32)) r_5 q_5) gX6_told_X6_isCell rfl (fr_preV (As := [.int (x1 - (100 : Int32))]) (b := aM) (ci := 6) (q0 := 0) (wc := [(aM, .inr (6, [.ref mN, .ref mkd, .ref mks, .ref mcd, .ref mpr, .ref msk, .ref mow, .ref mmi, .ref mst, .ref mbi, .ref msu, .ref mke, .ref mik, .int vka, .int viw])), (mN, .inl (cI, 9, .inl fN))]) hK hN hP hD [0, 1] (by decide) rfl rfl rfl) (n := 1) (by decide +kernel) ⟨Nat.le_of_ble_eq_true rfl, Nat.le_of_ble_eq_true rfl⟩ rfl hl.1 rfl (Nat.le_of_ble_eq_true rfl) dX6_told_5 ⟨Nat.zero_le _, Nat.zero_le _⟩) hP hD hS hA [0, 1] rfl (c2 := 0) (s2 := 0) rfl rfl (fun H locs hP hS => ?_)
  refine lv_if_eq (tgt := 21) hx hb dX6_told_8 (by decide) (fun c1 => ?_) (fun c1 => ?_)
  · have h := (if_pos c1).symm.trans h
    refine lv_iload_n hx hb dX6_told_21 rfl (lv_at hl 1 rfl) ?_
    refine lv_iconst (v := (4 : Int32)) hx hb dX6_told_22 (by decide) ?_
    refine lv_icmp_ne (tgt := 31) hx hb dX6_told_23 (by decide) (fun c2 => ?_) (fun c2 => ?_)
    · have h := (if_neg c2).symm.trans h
      refine lv_iload_n hx hb dX6_told_31 rfl (lv_at hl 1 rfl) ?_
      refine lv_i2l (v := x1.toInt64) hx hb dX6_told_32 rfl ?_
      refine lv_lconst (v := (0 : Int64)) hx hb dX6_told_33 (by decide) ?_
      refine lv_ldc2 (v := (8 : Int64)) hx hb hown (hts (.constantLong RX6 152 (8 : Int64)) (List.mem_of_getElem? (i := 2) rfl)) dX6_told_34 ?_
      obtain ⟨r_37, q_37, h⟩ := bd1_some h
      refine fr_ro_i (S := Unit) (wc := []) (fr_S (As := [.long x1.toInt64, .long (0 : Int64), .long (8 : Int64)]) (rest := []) ⟨hx, hb, hml, hown, hts⟩ (tX6_in x1.toInt64 (0 : Int64) (8 : Int64) r_37 q_37) gX6_told_X6_in rfl (fr_pre (As := [.long x1.toInt64, .long (0 : Int64), .long (8 : Int64)]) (wc := []) hK hN hP hD [] (by decide) rfl) (n := 3) (by decide +kernel) ⟨Nat.le_of_ble_eq_true rfl, Nat.le_of_ble_eq_true rfl⟩ rfl hl.1 rfl (Nat.le_of_ble_eq_true rfl) dX6_told_37 ⟨Nat.zero_le _, Nat.zero_le _⟩) hP hD hS hA [] rfl (c2 := 0) (s2 := 0) rfl rfl (fun H locs hP hS => ?_)
      refine lv_if_eq (tgt := 52) hx hb dX6_told_40 (by decide) (fun c3 => ?_) (fun c3 => ?_)
      · have h := (if_pos c3).symm.trans h
        refine lv_bipush (v := (-2 : Int32)) hx hb dX6_told_52 (by decide) ?_
        exact hret (-2 : Int32) 54 ls H locs rfl dX6_told_54 hP hD hS h
      · have h := (if_neg c3).symm.trans h
        refine lv_aload_n hx hb dX6_told_43 rfl (lv_at hl 0 rfl) ?_
        refine va_get (D := D) (ci := 6) (v := .ref mN) (C := RX6) (T := TX6) (N := 15) hx hb hts i6 hown hK hP 0 rfl rfl 0 (by decide) (hts (.fieldLink RX6 7 RX6 "now" "[I") (List.mem_of_getElem? (i := 3) rfl)) (fun _ h9 => h9) rfl dX6_told_44 ?_
        refine lv_iload_n hx hb dX6_told_47 rfl (lv_at hl 1 rfl) ?_
        obtain ⟨g4, h⟩ := no_some h
        refine va_iald hx hb hK hP 1 0 rfl rfl g4 dX6_told_48 ?_
        refine lv_goto (tgt := 54) hx hb dX6_told_49 (by decide) ?_
        exact hret (fN x1.toNatClampNeg) 54 ls H locs rfl dX6_told_54 hP hD hS h
    · have h := (if_pos c2).symm.trans h
      refine lv_aload_n hx hb dX6_told_26 rfl (lv_at hl 0 rfl) ?_
      obtain ⟨r_27, q_27, h⟩ := bd1_some h
      refine fr_ro_i (S := Unit) (wc := [(aM, .inr (6, [.ref mN, .ref mkd, .ref mks, .ref mcd, .ref mpr, .ref msk, .ref mow, .ref mmi, .ref mst, .ref mbi, .ref msu, .ref mke, .ref mik, .int vka, .int viw])), (mN, .inl (cI, 9, .inl fN)), (mks, .inl (cI, 8, .inl fks))]) (fr_V (As := []) (rest := []) (C := RX6) ⟨hx, hb, hml, hown, hts⟩ (tX6_stocks aM mN mks mkd mcd mpr msk mow mmi mst mbi msu mke mik vka viw fN fks r_27 q_27) gX6_told_X6_stocks rfl (fr_preV (As := []) (b := aM) (ci := 6) (q0 := 0) (wc := [(aM, .inr (6, [.ref mN, .ref mkd, .ref mks, .ref mcd, .ref mpr, .ref msk, .ref mow, .ref mmi, .ref mst, .ref mbi, .ref msu, .ref mke, .ref mik, .int vka, .int viw])), (mN, .inl (cI, 9, .inl fN)), (mks, .inl (cI, 8, .inl fks))]) hK hN hP hD [0, 1, 3] (by decide) rfl rfl rfl) (n := 0) (by decide +kernel) ⟨Nat.le_of_ble_eq_true rfl, Nat.le_of_ble_eq_true rfl⟩ rfl hl.1 rfl (Nat.le_of_ble_eq_true rfl) dX6_told_27 ⟨Nat.zero_le _, Nat.zero_le _⟩) hP hD hS hA [0, 1, 3] rfl (c2 := 0) (s2 := 0) rfl rfl (fun H locs hP hS => ?_)
      exact hret r_27 30 ls H locs rfl dX6_told_30 hP hD hS h
  · have h := (if_neg c1).symm.trans h
    refine lv_aload_n hx hb dX6_told_11 rfl (lv_at hl 0 rfl) ?_
    refine va_get (D := D) (ci := 6) (v := .ref mcd) (C := RX6) (T := TX6) (N := 15) hx hb hts i6 hown hK hP 0 rfl rfl 3 (by decide) (hts (.fieldLink RX6 19 RX6 "cellDots" "[I") (List.mem_of_getElem? (i := 1) rfl)) (fun _ h9 => h9) rfl dX6_told_12 ?_
    refine lv_iload_n hx hb dX6_told_15 rfl (lv_at hl 1 rfl) ?_
    refine lv_bipush (v := (100 : Int32)) hx hb dX6_told_16 (by decide) ?_
    refine lv_isub hx hb dX6_told_18 ?_
    obtain ⟨g5, h⟩ := no_some h
    refine va_iald hx hb hK hP 4 0 rfl rfl g5 dX6_told_19 ?_
    exact hret (fcd ((x1 - (100 : Int32)).toNatClampNeg)) 20 ls H locs rfl dX6_told_20 hP hD hS h
