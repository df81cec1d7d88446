def fX2_firstSlot_b4 (fKs : Nat → Int32) : Nat → Int32 → Int32 → Int32 → Option (Int32)
  | 0, _, _, _ => none
  | n + 1, x1, x2, x3 =>
    if x1 ≤ x3 then
      some x2
    else
      if (8 : Int32) ≤ x3 then
        some x2
      else
        if x3 < 0 ∨ 8 ≤ x3.toNatClampNeg then none else
        bdv (x2 + (fKs x3.toNatClampNeg)) fun x2_23 =>
        fX2_firstSlot_b4 fKs n x1 x2_23 (x3 + 1)
def fX2_firstSlot (fKs : Nat → Int32) (x1 : Int32) : Option (Int32) :=
  fX2_firstSlot_b4 fKs FU x1 (0 : Int32) (0 : Int32)
abbrev rX2_firstSlot : Room := { frames := 0, cells := 0, slots := 0, locals := 0 }
set_option maxHeartbeats 4000000 in
set_option maxRecDepth 100000 in
theorem tX2_firstSlot {l : Launch} {D : va_G} {cI cZ cP : ClassId} (aK aKs aKd : Nat) (vKn : Int32) (fKs : Nat → Int32) (x1 : Int32) (r : Int32) (h : fX2_firstSlot fKs x1 = some r) : CtI l D cI cZ cP yX2_firstSlot wsX2_firstSlot rX2_firstSlot [.ref aK, .int x1] [(aK, .inr (2, [.int vKn, .ref aKd, .ref aKs])), (aKs, .inl (cI, 8, .inl fKs))] (fun _ : Unit => [(aK, .inr (2, [.int vKn, .ref aKd, .ref aKs])), (aKs, .inl (cI, 8, .inl fKs))]) r := by
  refine CtI.ofW (cc := cX2_firstSlot) (maxL := 4) (by decide) rfl (Nat.le_of_ble_eq_true rfl) (lv := [(0, .ref aK), (1, .int x1)]) rfl ?_
  intro p e s m args below meth c A Q ls hx hb hml hown hts hK hN hP hD hS hA hl hret0
  have hown : s.vm.findClass RX2 = some m.cls := hown
  have i2 : ∀ w ∈ wsX20, w ∈ wsX2_firstSlot := mem_ps [2, 3, 4] rfl
  have hret : ∀ (v : Int32) (pc : Nat) (ls : Array Slot) (H : Heap) (locs : List Loc), narrow .int (.int v) = .int v → decode cX2_firstSlot pc = .ok (.ireturn, 1) → va_P D vwCl [(aK, .inr (2, [.int vKn, .ref aKd, .ref aKs])), (aKs, .inl (cI, 8, .inl fKs))] H → va_D A [(aK, .inr (2, [.int vKn, .ref aKd, .ref aKs])), (aKs, .inl (cI, 8, .inl fKs))] → va_S A s.heap H locs → some v = some r → W p l e rX2_firstSlot s m args below meth c H locs 0 0 Q (F0 m pc ls [.int v]) := by
    intro v pc ls H locs hn hd hP hD hS h
    cases h
    exact hret0 pc ls H locs () hn hd hP hD hS
  clear hret0
  have hb4 : ∀ (n : Nat) (x1 : Int32) (x2 : Int32) (x3 : Int32) (H : Heap) (locs : List Loc) (ls : Array Slot), va_P D vwCl [(aK, .inr (2, [.int vKn, .ref aKd, .ref aKs])), (aKs, .inl (cI, 8, .inl fKs))] H → va_D A [(aK, .inr (2, [.int vKn, .ref aKd, .ref aKs])), (aKs, .inl (cI, 8, .inl fKs))] → va_S A s.heap H locs → lv_has ls 4 [(0, .ref aK), (1, .int x1), (2, .int x2), (3, .int x3)] → fX2_firstSlot_b4 fKs n x1 x2 x3 = some r → W p l e rX2_firstSlot s m args below meth c H locs 0 0 Q (F0 m 4 ls []) := by
    intro n
    induction n with
    | zero => intro x1 x2 x3 H locs ls hP hD hS hl h; exact absurd h (by rw [fX2_firstSlot_b4]; exact fun z => by cases z)
    | succ n ih =>
      intro x1 x2 x3 H locs ls hP hD hS hl h
      rw [fX2_firstSlot_b4] at h
      refine lv_iload_n hx hb dX2_firstSlot_4 rfl (lv_at hl 3 rfl) ?_
      refine lv_iload_n hx hb dX2_firstSlot_5 rfl (lv_at hl 1 rfl) ?_
      refine lv_icmp_ge (tgt := 30) hx hb dX2_firstSlot_6 (by decide) (fun c1 => ?_) (fun c1 => ?_)
      · have h := (if_pos c1).symm.trans h
        refine lv_iload_n hx hb dX2_firstSlot_30 rfl (lv_at hl 2 rfl) ?_
        exact hret x2 31 ls H locs rfl dX2_firstSlot_31 hP hD hS h
      · have h := (if_neg c1).symm.trans h
        refine lv_iload_n hx hb dX2_firstSlot_9 rfl (lv_at hl 3 rfl) ?_
        refine lv_bipush (v := (8 : Int32)) hx hb dX2_firstSlot_10 (by decide) ?_
        refine lv_icmp_ge (tgt := 30) hx hb dX2_firstSlot_12 (by decide) (fun c2 => ?_) (fun c2 => ?_)
        · have h := (if_pos c2).symm.trans h
          refine lv_iload_n hx hb dX2_firstSlot_30 rfl (lv_at hl 2 rfl) ?_
          exact hret x2 31 ls H locs rfl dX2_firstSlot_31 hP hD hS h
        · have h := (if_neg c2).symm.trans h
          refine lv_iload_n hx hb dX2_firstSlot_15 rfl (lv_at hl 2 rfl) ?_
          refine lv_aload_n hx hb dX2_firstSlot_16 rfl (lv_at hl 0 rfl) ?_
          refine va_get (D := D) (ci := 2) (v := .ref aKs) (C := RX2) (T := TX2) (N := 3) hx hb hts i2 hown hK hP 0 rfl rfl 2 (by decide) (hts (.fieldLink RX2 15 RX2 "stocks" "[I") (List.mem_of_getElem? (i := 1) rfl)) (fun _ h9 => h9) rfl dX2_firstSlot_17 ?_
          refine lv_iload_n hx hb dX2_firstSlot_20 rfl (lv_at hl 3 rfl) ?_
          obtain ⟨g3, h⟩ := no_some h
          refine va_iald hx hb hK hP 1 0 rfl rfl g3 dX2_firstSlot_21 ?_
          refine lv_iadd hx hb dX2_firstSlot_22 ?_
          refine lv_topi (fun x2_23 ex2_23 => ?_)
          have h := bdv_some ex2_23 h
          refine lv_istore_n (lv' := [(2, .int x2_23), (0, .ref aK), (1, .int x1), (3, .int x3)]) hx hb dX2_firstSlot_23 rfl hl (by decide) rfl (fun ls hl => ?_)
          refine lv_iinc (v := x3 + 1) (lv' := [(3, .int (x3 + 1)), (2, .int x2_23), (0, .ref aK), (1, .int x1)]) hx hb dX2_firstSlot_24 hl (k := 3) rfl rfl (by decide) rfl (fun ls hl => ?_)
          refine lv_goto (tgt := 4) hx hb dX2_firstSlot_27 (by decide) ?_
          exact ih x1 x2_23 (x3 + 1) H locs ls hP hD hS (lv_sub hl [2, 3, 1, 0] rfl) h
  unfold fX2_firstSlot at h
  obtain ⟨H, hH⟩ : ∃ H, H = s.heap := ⟨_, rfl⟩
  have hP : va_P D vwCl [(aK, .inr (2, [.int vKn, .ref aKd, .ref aKs])), (aKs, .inl (cI, 8, .inl fKs))] H := by rw [hH]; exact hP
  obtain ⟨locs, hlocs⟩ : ∃ x : List Loc, x = [] := ⟨_, rfl⟩
  have hS : va_S A s.heap H locs := by rw [hH, hlocs]; exact hS
  suffices hgo : W p l e rX2_firstSlot s m args below meth c H locs 0 0 Q (F0 m 0 ls []) by rw [hH, hlocs] at hgo; exact hgo
  refine lv_iconst (v := (0 : Int32)) hx hb dX2_firstSlot_0 (by decide) ?_
  refine lv_istore_n (lv' := [(2, .int (0 : Int32)), (0, .ref aK), (1, .int x1)]) hx hb dX2_firstSlot_1 rfl hl (by decide) rfl (fun ls hl => ?_)
  refine lv_iconst (v := (0 : Int32)) hx hb dX2_firstSlot_2 (by decide) ?_
  refine lv_istore_n (lv' := [(3, .int (0 : Int32)), (2, .int (0 : Int32)), (0, .ref aK), (1, .int x1)]) hx hb dX2_firstSlot_3 rfl hl (by decide) rfl (fun ls hl => ?_)
  exact hb4 FU x1 (0 : Int32) (0 : Int32) H locs ls hP hD hS (lv_sub hl [2, 3, 1, 0] rfl) h
def fX2_slots (vKn : Int32) (fKs : Nat → Int32) : Option (Int32) :=
  bd1 (fX2_firstSlot fKs vKn) fun r_5 =>
  some r_5
abbrev rX2_slots : Room := { frames := 1, cells := 0, slots := 0, locals := 23 }
set_option maxHeartbeats 4000000 in
set_option maxRecDepth 100000 in
theorem tX2_slots {l : Launch} {D : va_G} {cI cZ cP : ClassId} (aK aKs aKd : Nat) (vKn : Int32) (fKs : Nat → Int32) (r : Int32) (h : fX2_slots vKn fKs = some r) : CtI l D cI cZ cP yX2_slots wsX2_slots rX2_slots [.ref aK] [(aK, .inr (2, [.int vKn, .ref aKd, .ref aKs])), (aKs, .inl (cI, 8, .inl fKs))] (fun _ : Unit => [(aK, .inr (2, [.int vKn, .ref aKd, .ref aKs])), (aKs, .inl (cI, 8, .inl fKs))]) r := by
  refine CtI.ofW (cc := cX2_slots) (maxL := 1) (by decide) rfl (Nat.le_of_ble_eq_true rfl) (lv := [(0, .ref aK)]) rfl ?_
  intro p e s m args below meth c A Q ls hx hb hml hown hts hK hN hP hD hS hA hl hret0
  have hown : s.vm.findClass RX2 = some m.cls := hown
  have i2 : ∀ w ∈ wsX20, w ∈ wsX2_slots := mem_ps [8, 9, 10] rfl
  have hret : ∀ (v : Int32) (pc : Nat) (ls : Array Slot) (H : Heap) (locs : List Loc), narrow .int (.int v) = .int v → decode cX2_slots pc = .ok (.ireturn, 1) → va_P D vwCl [(aK, .inr (2, [.int vKn, .ref aKd, .ref aKs])), (aKs, .inl (cI, 8, .inl fKs))] H → va_D A [(aK, .inr (2, [.int vKn, .ref aKd, .ref aKs])), (aKs, .inl (cI, 8, .inl fKs))] → va_S A s.heap H locs → some v = some r → W p l e rX2_slots s m args below meth c H locs 0 0 Q (F0 m pc ls [.int v]) := by
    intro v pc ls H locs hn hd hP hD hS h
    cases h
    exact hret0 pc ls H locs () hn hd hP hD hS
  clear hret0
  unfold fX2_slots at h
  obtain ⟨H, hH⟩ : ∃ H, H = s.heap := ⟨_, rfl⟩
  have hP : va_P D vwCl [(aK, .inr (2, [.int vKn, .ref aKd, .ref aKs])), (aKs, .inl (cI, 8, .inl fKs))] H := by rw [hH]; exact hP
  obtain ⟨locs, hlocs⟩ : ∃ x : List Loc, x = [] := ⟨_, rfl⟩
  have hS : va_S A s.heap H locs := by rw [hH, hlocs]; exact hS
  suffices hgo : W p l e rX2_slots s m args below meth c H locs 0 0 Q (F0 m 0 ls []) by rw [hH, hlocs] at hgo; exact hgo
  refine lv_aload_n hx hb dX2_slots_0 rfl (lv_at hl 0 rfl) ?_
  refine lv_aload_n hx hb dX2_slots_1 rfl (lv_at hl 0 rfl) ?_
  refine va_get (D := D) (ci := 2) (v := .int vKn) (C := RX2) (T := TX2) (N := 3) hx hb hts i2 hown hK hP 0 rfl rfl 0 (by decide) (hts (.fieldLink RX2 18 RX2 "count" "I") (List.mem_of_getElem? (i := 1) rfl)) (fun _ h9 => h9) rfl dX2_slots_2 ?_
  obtain ⟨r_5, q_5, h⟩ := bd1_some h
  refine fr_ro_i (S := Unit) (wc := [(aK, .inr (2, [.int vKn, .ref aKd, .ref aKs])), (aKs, .inl (cI, 8, .inl fKs))]) (fr_V (As := [.int vKn]) (rest := []) (C := RX2) ⟨hx, hb, hml, hown, hts⟩ (tX2_firstSlot aK aKs aKd vKn fKs vKn r_5 q_5) gX2_slots_X2_firstSlot rfl (fr_preV (As := [.int vKn]) (b := aK) (ci := 2) (q0 := 0) (wc := [(aK, .inr (2, [.int vKn, .ref aKd, .ref aKs])), (aKs, .inl (cI, 8, .inl fKs))]) hK hN hP hD [0, 1] (by decide) rfl rfl rfl) (n := 1) (by decide +kernel) ⟨Nat.le_of_ble_eq_true rfl, Nat.le_of_ble_eq_true rfl⟩ rfl hl.1 rfl (Nat.le_of_ble_eq_true rfl) dX2_slots_5 ⟨Nat.zero_le _, Nat.zero_le _⟩) hP hD hS hA [0, 1] rfl (c2 := 0) (s2 := 0) rfl rfl (fun H locs hP hS => ?_)
  exact hret r_5 8 ls H locs rfl dX2_slots_8 hP hD hS h
def fX2_ofSlot_b4 (vKn : Int32) (fKs : Nat → Int32) : Nat → Int32 → Int32 → Int32 → Option (Int32)
  | 0, _, _, _ => none
  | n + 1, x1, x2, x3 =>
    if vKn ≤ x3 then
      some (-6 : Int32)
    else
      if (8 : Int32) ≤ x3 then
        some (-6 : Int32)
      else
        if x3 < 0 ∨ 8 ≤ x3.toNatClampNeg then none else
        bdv (x2 + (fKs x3.toNatClampNeg)) fun x2_26 =>
        if x1 < 0 then
          fX2_ofSlot_b4 vKn fKs n x1 x2_26 (x3 + 1)
        else
          if x2_26 ≤ x1 then
            fX2_ofSlot_b4 vKn fKs n x1 x2_26 (x3 + 1)
          else
            some x3
def fX2_ofSlot (vKn : Int32) (fKs : Nat → Int32) (x1 : Int32) : Option (Int32) :=
  fX2_ofSlot_b4 vKn fKs FU x1 (0 : Int32) (0 : Int32)
abbrev rX2_ofSlot : Room := { frames := 0, cells := 0, slots := 0, locals := 0 }
set_option maxHeartbeats 4000000 in
set_option maxRecDepth 100000 in
theorem tX2_ofSlot {l : Launch} {D : va_G} {cI cZ cP : ClassId} (aK aKs aKd : Nat) (vKn : Int32) (fKs : Nat → Int32) (x1 : Int32) (r : Int32) (h : fX2_ofSlot vKn fKs x1 = some r) : CtI l D cI cZ cP yX2_ofSlot wsX2_ofSlot rX2_ofSlot [.ref aK, .int x1] [(aK, .inr (2, [.int vKn, .ref aKd, .ref aKs])), (aKs, .inl (cI, 8, .inl fKs))] (fun _ : Unit => [(aK, .inr (2, [.int vKn, .ref aKd, .ref aKs])), (aKs, .inl (cI, 8, .inl fKs))]) r := by
  refine CtI.ofW (cc := cX2_ofSlot) (maxL := 4) (by decide) rfl (Nat.le_of_ble_eq_true rfl) (lv := [(0, .ref aK), (1, .int x1)]) rfl ?_
  intro p e s m args below meth c A Q ls hx hb hml hown hts hK hN hP hD hS hA hl hret0
  have hown : s.vm.findClass RX2 = some m.cls := hown
  have i2 : ∀ w ∈ wsX20, w ∈ wsX2_ofSlot := mem_ps [3, 4, 5] rfl
  have hret : ∀ (v : Int32) (pc : Nat) (ls : Array Slot) (H : Heap) (locs : List Loc), narrow .int (.int v) = .int v → decode cX2_ofSlot pc = .ok (.ireturn, 1) → va_P D vwCl [(aK, .inr (2, [.int vKn, .ref aKd, .ref aKs])), (aKs, .inl (cI, 8, .inl fKs))] H → va_D A [(aK, .inr (2, [.int vKn, .ref aKd, .ref aKs])), (aKs, .inl (cI, 8, .inl fKs))] → va_S A s.heap H locs → some v = some r → W p l e rX2_ofSlot s m args below meth c H locs 0 0 Q (F0 m pc ls [.int v]) := by
    intro v pc ls H locs hn hd hP hD hS h
    cases h
    exact hret0 pc ls H locs () hn hd hP hD hS
  clear hret0
  have hb4 : ∀ (n : Nat) (x1 : Int32) (x2 : Int32) (x3 : Int32) (H : Heap) (locs : List Loc) (ls : Array Slot), va_P D vwCl [(aK, .inr (2, [.int vKn, .ref aKd, .ref aKs])), (aKs, .inl (cI, 8, .inl fKs))] H → va_D A [(aK, .inr (2, [.int vKn, .ref aKd, .ref aKs])), (aKs, .inl (cI, 8, .inl fKs))] → va_S A s.heap H locs → lv_has ls 4 [(0, .ref aK), (1, .int x1), (2, .int x2), (3, .int x3)] → fX2_ofSlot_b4 vKn fKs n x1 x2 x3 = some r → W p l e rX2_ofSlot s m args below meth c H locs 0 0 Q (F0 m 4 ls []) := by
    intro n
    induction n with
    | zero => intro x1 x2 x3 H locs ls hP hD hS hl h; exact absurd h (by rw [fX2_ofSlot_b4]; exact fun z => by cases z)
    | succ n ih =>
      intro x1 x2 x3 H locs ls hP hD hS hl h
      rw [fX2_ofSlot_b4] at h
      refine lv_iload_n hx hb dX2_ofSlot_4 rfl (lv_at hl 3 rfl) ?_
      refine lv_aload_n hx hb dX2_ofSlot_5 rfl (lv_at hl 0 rfl) ?_
      refine va_get (D := D) (ci := 2) (v := .int vKn) (C := RX2) (T := TX2) (N := 3) hx hb hts i2 hown hK hP 0 rfl rfl 0 (by decide) (hts (.fieldLink RX2 18 RX2 "count" "I") (List.mem_of_getElem? (i := 1) rfl)) (fun _ h9 => h9) rfl dX2_ofSlot_6 ?_
      refine lv_icmp_ge (tgt := 44) hx hb dX2_ofSlot_9 (by decide) (fun c1 => ?_) (fun c1 => ?_)
      · have h := (if_pos c1).symm.trans h
        refine lv_bipush (v := (-6 : Int32)) hx hb dX2_ofSlot_44 (by decide) ?_
        exact hret (-6 : Int32) 46 ls H locs rfl dX2_ofSlot_46 hP hD hS h
      · have h := (if_neg c1).symm.trans h
        refine lv_iload_n hx hb dX2_ofSlot_12 rfl (lv_at hl 3 rfl) ?_
        refine lv_bipush (v := (8 : Int32)) hx hb dX2_ofSlot_13 (by decide) ?_
        refine lv_icmp_ge (tgt := 44) hx hb dX2_ofSlot_15 (by decide) (fun c2 => ?_) (fun c2 => ?_)
        · have h := (if_pos c2).symm.trans h
          refine lv_bipush (v := (-6 : Int32)) hx hb dX2_ofSlot_44 (by decide) ?_
          exact hret (-6 : Int32) 46 ls H locs rfl dX2_ofSlot_46 hP hD hS h
        · have h := (if_neg c2).symm.trans h
          refine lv_iload_n hx hb dX2_ofSlot_18 rfl (lv_at hl 2 rfl) ?_
          refine lv_aload_n hx hb dX2_ofSlot_19 rfl (lv_at hl 0 rfl) ?_
          refine va_get (D := D) (ci := 2) (v := .ref aKs) (C := RX2) (T := TX2) (N := 3) hx hb hts i2 hown hK hP 0 rfl rfl 2 (by decide) (hts (.fieldLink RX2 15 RX2 "stocks" "[I") (List.mem_of_getElem? (i := 2) rfl)) (fun _ h9 => h9) rfl dX2_ofSlot_20 ?_
          refine lv_iload_n hx hb dX2_ofSlot_23 rfl (lv_at hl 3 rfl) ?_
          obtain ⟨g3, h⟩ := no_some h
          refine va_iald hx hb hK hP 1 0 rfl rfl g3 dX2_ofSlot_24 ?_
          refine lv_iadd hx hb dX2_ofSlot_25 ?_
          refine lv_topi (fun x2_26 ex2_26 => ?_)
          have h := bdv_some ex2_26 h
          refine lv_istore_n (lv' := [(2, .int x2_26), (0, .ref aK), (1, .int x1), (3, .int x3)]) hx hb dX2_ofSlot_26 rfl hl (by decide) rfl (fun ls hl => ?_)
          refine lv_iload_n hx hb dX2_ofSlot_27 rfl (lv_at hl 2 rfl) ?_
          refine lv_if_lt (tgt := 38) hx hb dX2_ofSlot_28 (by decide) (fun c4 => ?_) (fun c4 => ?_)
          · have h := (if_pos c4).symm.trans h
            refine lv_iinc (v := x3 + 1) (lv' := [(3, .int (x3 + 1)), (2, .int x2_26), (0, .ref aK), (1, .int x1)]) hx hb dX2_ofSlot_38 hl (k := 3) rfl rfl (by decide) rfl (fun ls hl => ?_)
            refine lv_goto (tgt := 4) hx hb dX2_ofSlot_41 (by decide) ?_
            exact ih x1 x2_26 (x3 + 1) H locs ls hP hD hS (lv_sub hl [2, 3, 1, 0] rfl) h
          · have h := (if_neg c4).symm.trans h
            refine lv_iload_n hx hb dX2_ofSlot_31 rfl (lv_at hl 2 rfl) ?_
            refine lv_iload_n hx hb dX2_ofSlot_32 rfl (lv_at hl 0 rfl) ?_
            refine lv_icmp_ge (tgt := 38) hx hb dX2_ofSlot_33 (by decide) (fun c5 => ?_) (fun c5 => ?_)
            · have h := (if_pos c5).symm.trans h
              refine lv_iinc (v := x3 + 1) (lv' := [(3, .int (x3 + 1)), (2, .int x2_26), (0, .ref aK), (1, .int x1)]) hx hb dX2_ofSlot_38 hl (k := 3) rfl rfl (by decide) rfl (fun ls hl => ?_)
              refine lv_goto (tgt := 4) hx hb dX2_ofSlot_41 (by decide) ?_
              exact ih x1 x2_26 (x3 + 1) H locs ls hP hD hS (lv_sub hl [2, 3, 1, 0] rfl) h
            · have h := (if_neg c5).symm.trans h
              refine lv_iload_n hx hb dX2_ofSlot_36 rfl (lv_at hl 3 rfl) ?_
              exact hret x3 37 ls H locs rfl dX2_ofSlot_37 hP hD hS h
  unfold fX2_ofSlot at h
  obtain ⟨H, hH⟩ : ∃ H, H = s.heap := ⟨_, rfl⟩
  have hP : va_P D vwCl [(aK, .inr (2, [.int vKn, .ref aKd, .ref aKs])), (aKs, .inl (cI, 8, .inl fKs))] H := by rw [hH]; exact hP
  obtain ⟨locs, hlocs⟩ : ∃ x : List Loc, x = [] := ⟨_, rfl⟩
  have hS : va_S A s.heap H locs := by rw [hH, hlocs]; exact hS
  suffices hgo : W p l e rX2_ofSlot s m args below meth c H locs 0 0 Q (F0 m 0 ls []) by rw [hH, hlocs] at hgo; exact hgo
  refine lv_iconst (v := (0 : Int32)) hx hb dX2_ofSlot_0 (by decide) ?_
  refine lv_istore_n (lv' := [(2, .int (0 : Int32)), (0, .ref aK), (1, .int x1)]) hx hb dX2_ofSlot_1 rfl hl (by decide) rfl (fun ls hl => ?_)
  refine lv_iconst (v := (0 : Int32)) hx hb dX2_ofSlot_2 (by decide) ?_
  refine lv_istore_n (lv' := [(3, .int (0 : Int32)), (2, .int (0 : Int32)), (0, .ref aK), (1, .int x1)]) hx hb dX2_ofSlot_3 rfl hl (by decide) rfl (fun ls hl => ?_)
  exact hb4 FU x1 (0 : Int32) (0 : Int32) H locs ls hP hD hS (lv_sub hl [2, 3, 1, 0] rfl) h
def fX1_has (vCn : Int32) (x1 : Int32) : Option (Int32) :=
  if x1 < 0 then
    some (0 : Int32)
  else
    if vCn ≤ x1 then
      some (0 : Int32)
    else
      if (12 : Int32) ≤ x1 then
        some (0 : Int32)
      else
        some (1 : Int32)
abbrev rX1_has : Room := { frames := 0, cells := 0, slots := 0, locals := 0 }
set_option maxHeartbeats 4000000 in
set_option maxRecDepth 100000 in
theorem tX1_has {l : Launch} {D : va_G} {cI cZ cP : ClassId} (aC aCd : Nat) (vCn : Int32) (x1 : Int32) (r : Int32) (h : fX1_has vCn x1 = some r) : CtI l D cI cZ cP yX1_has wsX1_has rX1_has [.ref aC, .int x1] [(aC, .inr (1, [.int vCn, .ref aCd]))] (fun _ : Unit => [(aC, .inr (1, [.int vCn, .ref aCd]))]) r := by
  refine CtI.ofW (cc := cX1_has) (maxL := 2) (by decide) rfl (Nat.le_of_ble_eq_true rfl) (lv := [(0, .ref aC), (1, .int x1)]) rfl ?_
  intro p e s m args below meth c A Q ls hx hb hml hown hts hK hN hP hD hS hA hl hret0
  have hown : s.vm.findClass RX1 = some m.cls := hown
  have i1 : ∀ w ∈ wsX10, w ∈ wsX1_has := mem_ps [2, 3] rfl
  have hret : ∀ (v : Int32) (pc : Nat) (ls : Array Slot) (H : Heap) (locs : List Loc), narrow .boolean (.int v) = .int v → decode cX1_has pc = .ok (.ireturn, 1) → va_P D vwCl [(aC, .inr (1, [.int vCn, .ref aCd]))] H → va_D A [(aC, .inr (1, [.int vCn, .ref aCd]))] → va_S A s.heap H locs → some v = some r → W p l e rX1_has s m args below meth c H locs 0 0 Q (F0 m pc ls [.int v]) := by
    intro v pc ls H locs hn hd hP hD hS h
    cases h
    exact hret0 pc ls H locs () hn hd hP hD hS
  clear hret0
  unfold fX1_has at h
  obtain ⟨H, hH⟩ : ∃ H, H = s.heap := ⟨_, rfl⟩
  have hP : va_P D vwCl [(aC, .inr (1, [.int vCn, .ref aCd]))] H := by rw [hH]; exact hP
  obtain ⟨locs, hlocs⟩ : ∃ x : List Loc, x = [] := ⟨_, rfl⟩
  have hS : va_S A s.heap H locs := by rw [hH, hlocs]; exact hS
  suffices hgo : W p l e rX1_has s m args below meth c H locs 0 0 Q (F0 m 0 ls []) by rw [hH, hlocs] at hgo; exact hgo
  refine lv_iload_n hx hb dX1_has_0 rfl (lv_at hl 1 rfl) ?_
  refine lv_if_lt (tgt := 22) hx hb dX1_has_1 (by decide) (fun c1 => ?_) (fun c1 => ?_)
  · have h := (if_pos c1).symm.trans h
    refine lv_iconst (v := (0 : Int32)) hx hb dX1_has_22 (by decide) ?_
    exact hret (0 : Int32) 23 ls H locs rfl dX1_has_23 hP hD hS h
  · have h := (if_neg c1).symm.trans h
    refine lv_iload_n hx hb dX1_has_4 rfl (lv_at hl 1 rfl) ?_
    refine lv_aload_n hx hb dX1_has_5 rfl (lv_at hl 0 rfl) ?_
    refine va_get (D := D) (ci := 1) (v := .int vCn) (C := RX1) (T := TX1) (N := 2) hx hb hts i1 hown hK hP 0 rfl rfl 0 (by decide) (hts (.fieldLink RX1 15 RX1 "count" "I") (List.mem_of_getElem? (i := 1) rfl)) (fun _ h9 => h9) rfl dX1_has_6 ?_
    refine lv_icmp_ge (tgt := 22) hx hb dX1_has_9 (by decide) (fun c2 => ?_) (fun c2 => ?_)
    · have h := (if_pos c2).symm.trans h
      refine lv_iconst (v := (0 : Int32)) hx hb dX1_has_22 (by decide) ?_
      exact hret (0 : Int32) 23 ls H locs rfl dX1_has_23 hP hD hS h
    · have h := (if_neg c2).symm.trans h
      refine lv_iload_n hx hb dX1_has_12 rfl (lv_at hl 1 rfl) ?_
      refine lv_bipush (v := (12 : Int32)) hx hb dX1_has_13 (by decide) ?_
      refine lv_icmp_ge (tgt := 22) hx hb dX1_has_15 (by decide) (fun c3 => ?_) (fun c3 => ?_)
      · have h := (if_pos c3).symm.trans h
        refine lv_iconst (v := (0 : Int32)) hx hb dX1_has_22 (by decide) ?_
        exact hret (0 : Int32) 23 ls H locs rfl dX1_has_23 hP hD hS h
      · have h := (if_neg c3).symm.trans h
        refine lv_iconst (v := (1 : Int32)) hx hb dX1_has_18 (by decide) ?_
        refine lv_goto (tgt := 23) hx hb dX1_has_19 (by decide) ?_
        exact hret (1 : Int32) 23 ls H locs rfl dX1_has_23 hP hD hS h
def fX2_has (vKn : Int32) (x1 : Int32) : Option (Int32) :=
  if x1 < 0 then
    some (0 : Int32)
  else
    if vKn ≤ x1 then
      some (0 : Int32)
    else
      if (8 : Int32) ≤ x1 then
        some (0 : Int32)
      else
        some (1 : Int32)
abbrev rX2_has : Room := { frames := 0, cells := 0, slots := 0, locals := 0 }
set_option maxHeartbeats 4000000 in
set_option maxRecDepth 100000 in
theorem tX2_has {l : Launch} {D : va_G} {cI cZ cP : ClassId} (aK aKd aKs : Nat) (vKn : Int32) (x1 : Int32) (r : Int32) (h : fX2_has vKn x1 = some r) : CtI l D cI cZ cP yX2_has wsX2_has rX2_has [.ref aK, .int x1] [(aK, .inr (2, [.int vKn, .ref aKd, .ref aKs]))] (fun _ : Unit => [(aK, .inr (2, [.int vKn, .ref aKd, .ref aKs]))]) r := by
  refine CtI.ofW (cc := cX2_has) (maxL := 2) (by decide) rfl (Nat.le_of_ble_eq_true rfl) (lv := [(0, .ref aK), (1, .int x1)]) rfl ?_
  intro p e s m args below meth c A Q ls hx hb hml hown hts hK hN hP hD hS hA hl hret0
  have hown : s.vm.findClass RX2 = some m.cls := hown
  have i2 : ∀ w ∈ wsX20, w ∈ wsX2_has := mem_ps [2, 3, 4] rfl
  have hret : ∀ (v : Int32) (pc : Nat) (ls : Array Slot) (H : Heap) (locs : List Loc), narrow .boolean (.int v) = .int v → decode cX2_has pc = .ok (.ireturn, 1) → va_P D vwCl [(aK, .inr (2, [.int vKn, .ref aKd, .ref aKs]))] H → va_D A [(aK, .inr (2, [.int vKn, .ref aKd, .ref aKs]))] → va_S A s.heap H locs → some v = some r → W p l e rX2_has s m args below meth c H locs 0 0 Q (F0 m pc ls [.int v]) := by
    intro v pc ls H locs hn hd hP hD hS h
    cases h
    exact hret0 pc ls H locs () hn hd hP hD hS
  clear hret0
  unfold fX2_has at h
  obtain ⟨H, hH⟩ : ∃ H, H = s.heap := ⟨_, rfl⟩
  have hP : va_P D vwCl [(aK, .inr (2, [.int vKn, .ref aKd, .ref aKs]))] H := by rw [hH]; exact hP
  obtain ⟨locs, hlocs⟩ : ∃ x : List Loc, x = [] := ⟨_, rfl⟩
  have hS : va_S A s.heap H locs := by rw [hH, hlocs]; exact hS
  suffices hgo : W p l e rX2_has s m args below meth c H locs 0 0 Q (F0 m 0 ls []) by rw [hH, hlocs] at hgo; exact hgo
  refine lv_iload_n hx hb dX2_has_0 rfl (lv_at hl 1 rfl) ?_
  refine lv_if_lt (tgt := 22) hx hb dX2_has_1 (by decide) (fun c1 => ?_) (fun c1 => ?_)
  · have h := (if_pos c1).symm.trans h
    refine lv_iconst (v := (0 : Int32)) hx hb dX2_has_22 (by decide) ?_
    exact hret (0 : Int32) 23 ls H locs rfl dX2_has_23 hP hD hS h
  · have h := (if_neg c1).symm.trans h
    refine lv_iload_n hx hb dX2_has_4 rfl (lv_at hl 1 rfl) ?_
    refine lv_aload_n hx hb dX2_has_5 rfl (lv_at hl 0 rfl) ?_
    refine va_get (D := D) (ci := 2) (v := .int vKn) (C := RX2) (T := TX2) (N := 3) hx hb hts i2 hown hK hP 0 rfl rfl 0 (by decide) (hts (.fieldLink RX2 18 RX2 "count" "I") (List.mem_of_getElem? (i := 1) rfl)) (fun _ h9 => h9) rfl dX2_has_6 ?_
    refine lv_icmp_ge (tgt := 22) hx hb dX2_has_9 (by decide) (fun c2 => ?_) (fun c2 => ?_)
    · have h := (if_pos c2).symm.trans h
      refine lv_iconst (v := (0 : Int32)) hx hb dX2_has_22 (by decide) ?_
      exact hret (0 : Int32) 23 ls H locs rfl dX2_has_23 hP hD hS h
    · have h := (if_neg c2).symm.trans h
      refine lv_iload_n hx hb dX2_has_12 rfl (lv_at hl 1 rfl) ?_
      refine lv_bipush (v := (8 : Int32)) hx hb dX2_has_13 (by decide) ?_
      refine lv_icmp_ge (tgt := 22) hx hb dX2_has_15 (by decide) (fun c3 => ?_) (fun c3 => ?_)
      · have h := (if_pos c3).symm.trans h
        refine lv_iconst (v := (0 : Int32)) hx hb dX2_has_22 (by decide) ?_
        exact hret (0 : Int32) 23 ls H locs rfl dX2_has_23 hP hD hS h
      · have h := (if_neg c3).symm.trans h
        refine lv_iconst (v := (1 : Int32)) hx hb dX2_has_18 (by decide) ?_
        refine lv_goto (tgt := 23) hx hb dX2_has_19 (by decide) ?_
        exact hret (1 : Int32) 23 ls H locs rfl dX2_has_23 hP hD hS h
def fX5_dotsApart_b49 (k11 : Int32 → Int32 → Int32 → Int32 → Int32 → Option (Int32)) (x2 : Int32) (x4 : Int32) (x5 : Int32) (x6 : Int32) (y0 : Int32) (y1 : Int32) : Option (Int32) :=
  bdv (y1 + y0) fun x3_50 =>
  bdv (x4 / (10 : Int32)) fun x4_56 =>
  bdv (x5 / (10 : Int32)) fun x5_63 =>
  k11 x2 x3_50 x4_56 x5_63 (x6 + 1)
def fX5_dotsApart_b11  : Nat → Int32 → Int32 → Int32 → Int32 → Int32 → Option (Int32)
  | 0, _, _, _, _, _ => none
  | n + 1, x2, x3, x4, x5, x6 =>
    if (4 : Int32) ≤ x6 then
      some x3
    else
      bdv (if 0 ≤ ((x4 - x4 / (10 : Int32) * (10 : Int32)) - (x5 - x5 / (10 : Int32) * (10 : Int32))) then ((x4 - x4 / (10 : Int32) * (10 : Int32)) - (x5 - x5 / (10 : Int32) * (10 : Int32))) else 0 - ((x4 - x4 / (10 : Int32) * (10 : Int32)) - (x5 - x5 / (10 : Int32) * (10 : Int32)))) fun x_28 =>
      if x2 = (1 : Int32) then
        fX5_dotsApart_b49 (fun x2 x3 x4 x5 x6 => fX5_dotsApart_b11 n x2 x3 x4 x5 x6) x2 x4 x5 x6 (x_28 * x_28) x3
      else
        fX5_dotsApart_b49 (fun x2 x3 x4 x5 x6 => fX5_dotsApart_b11 n x2 x3 x4 x5 x6) x2 x4 x5 x6 x_28 x3
def fX5_dotsApart (x0 : Int32) (x1 : Int32) (x2 : Int32) : Option (Int32) :=
  fX5_dotsApart_b11  FU x2 (0 : Int32) x0 x1 (0 : Int32)
abbrev rX5_dotsApart : Room := { frames := 1, cells := 0, slots := 0, locals := 13 }
set_option maxHeartbeats 4000000 in
set_option maxRecDepth 100000 in
theorem tX5_dotsApart {l : Launch} {D : va_G} {cI cZ cP : ClassId} (x0 : Int32) (x1 : Int32) (x2 : Int32) (r : Int32) (h : fX5_dotsApart x0 x1 x2 = some r) : CtI l D cI cZ cP yX5_dotsApart wsX5_dotsApart rX5_dotsApart [.int x0, .int x1, .int x2] [] (fun _ : Unit => []) r := by
  refine CtI.ofW (cc := cX5_dotsApart) (maxL := 8) (by decide) rfl (Nat.le_of_ble_eq_true rfl) (lv := [(0, .int x0), (1, .int x1), (2, .int x2)]) rfl ?_
  intro p e s m args below meth c A Q ls hx hb hml hown hts hK hN hP hD hS hA hl hret0
  have hown : s.vm.findClass RX5 = some m.cls := hown
  have hret : ∀ (v : Int32) (pc : Nat) (ls : Array Slot) (H : Heap) (locs : List Loc), narrow .int (.int v) = .int v → decode cX5_dotsApart pc = .ok (.ireturn, 1) → va_P D vwCl [] H → va_D A [] → va_S A s.heap H locs → some v = some r → W p l e rX5_dotsApart s m args below meth c H locs 0 0 Q (F0 m pc ls [.int v]) := by
    intro v pc ls H locs hn hd hP hD hS h
    cases h
    exact hret0 pc ls H locs () hn hd hP hD hS
  clear hret0
  have hb49 : ∀ (k11 : Int32 → Int32 → Int32 → Int32 → Int32 → Option (Int32)) (hk11 : ∀ (x2 : Int32) (x3 : Int32) (x4 : Int32) (x5 : Int32) (x6 : Int32) (H : Heap) (locs : List Loc) (ls : Array Slot), va_P D vwCl [] H → va_D A [] → va_S A s.heap H locs → lv_has ls 8 [(2, .int x2), (3, .int x3), (4, .int x4), (5, .int x5), (6, .int x6)] → k11 x2 x3 x4 x5 x6 = some r → W p l e rX5_dotsApart s m args below meth c H locs 0 0 Q (F0 m 11 ls [])) (x2 : Int32) (x4 : Int32) (x5 : Int32) (x6 : Int32) (y0 : Int32) (y1 : Int32) (H : Heap) (locs : List Loc) (ls : Array Slot), va_P D vwCl [] H → va_D A [] → va_S A s.heap H locs → lv_has ls 8 [(2, .int x2), (4, .int x4), (5, .int x5), (6, .int x6)] → fX5_dotsApart_b49 k11 x2 x4 x5 x6 y0 y1 = some r → W p l e rX5_dotsApart s m args below meth c H locs 0 0 Q (F0 m 49 ls [.int y0, .int y1]) := by
    intro k11 hk11 x2 x4 x5 x6 y0 y1 H locs ls hP hD hS hl h
    unfold fX5_dotsApart_b49 at h
    refine lv_iadd hx hb dX5_dotsApart_49 ?_
    refine lv_topi (fun x3_50 ex3_50 => ?_)
    have h := bdv_some ex3_50 h
    refine lv_istore_n (lv' := [(3, .int x3_50), (2, .int x2), (4, .int x4), (5, .int x5), (6, .int x6)]) hx hb dX5_dotsApart_50 rfl hl (by decide) rfl (fun ls hl => ?_)
    refine lv_iload hx hb dX5_dotsApart_51 (lv_at hl 2 rfl) ?_
    refine lv_bipush (v := (10 : Int32)) hx hb dX5_dotsApart_53 (by decide) ?_
    refine lv_idiv hx hb dX5_dotsApart_55 (by decide) ?_
    refine lv_topi (fun x4_56 ex4_56 => ?_)
    have h := bdv_some ex4_56 h
    refine lv_istore (lv' := [(4, .int x4_56), (3, .int x3_50), (2, .int x2), (5, .int x5), (6, .int x6)]) hx hb dX5_dotsApart_56 hl (by decide) rfl (fun ls hl => ?_)
    refine lv_iload hx hb dX5_dotsApart_58 (lv_at hl 3 rfl) ?_
    refine lv_bipush (v := (10 : Int32)) hx hb dX5_dotsApart_60 (by decide) ?_
    refine lv_idiv hx hb dX5_dotsApart_62 (by decide) ?_
    refine lv_topi (fun x5_63 ex5_63 => ?_)
    have h := bdv_some ex5_63 h
    refine lv_istore (lv' := [(5, .int x5_63), (4, .int x4_56), (3, .int x3_50), (2, .int x2), (6, .int x6)]) hx hb dX5_dotsApart_63 hl (by decide) rfl (fun ls hl => ?_)
    refine lv_iinc (v := x6 + 1) (lv' := [(6, .int (x6 + 1)), (5, .int x5_63), (4, .int x4_56), (3, .int x3_50), (2, .int x2)]) hx hb dX5_dotsApart_65 hl (k := 4) rfl rfl (by decide) rfl (fun ls hl => ?_)
    refine lv_goto (tgt := 11) hx hb dX5_dotsApart_68 (by decide) ?_
    exact hk11 x2 x3_50 x4_56 x5_63 (x6 + 1) H locs ls hP hD hS (lv_sub hl [4, 3, 2, 1, 0] rfl) h
  have hb11 : ∀ (n : Nat) (x2 : Int32) (x3 : Int32) (x4 : Int32) (x5 : Int32) (x6 : Int32) (H : Heap) (locs : List Loc) (ls : Array Slot), va_P D vwCl [] H → va_D A [] → va_S A s.heap H locs → lv_has ls 8 [(2, .int x2), (3, .int x3), (4, .int x4), (5, .int x5), (6, .int x6)] → fX5_dotsApart_b11  n x2 x3 x4 x5 x6 = some r → W p l e rX5_dotsApart s m args below meth c H locs 0 0 Q (F0 m 11 ls []) := by
    intro n
    induction n with
    | zero => intro x2 x3 x4 x5 x6 H locs ls hP hD hS hl h; exact absurd h (by rw [fX5_dotsApart_b11]; exact fun z => by cases z)
    | succ n ih =>
      intro x2 x3 x4 x5 x6 H locs ls hP hD hS hl h
      rw [fX5_dotsApart_b11] at h
      refine lv_iload hx hb dX5_dotsApart_11 (lv_at hl 4 rfl) ?_
      refine lv_iconst (v := (4 : Int32)) hx hb dX5_dotsApart_13 (by decide) ?_
      refine lv_icmp_ge (tgt := 71) hx hb dX5_dotsApart_14 (by decide) (fun c1 => ?_) (fun c1 => ?_)
      · have h := (if_pos c1).symm.trans h
        refine lv_iload_n hx hb dX5_dotsApart_71 rfl (lv_at hl 1 rfl) ?_
        exact hret x3 72 ls H locs rfl dX5_dotsApart_72 hP hD hS h
      · have h := (if_neg c1).symm.trans h
        refine lv_iload hx hb dX5_dotsApart_17 (lv_at hl 2 rfl) ?_
        refine lv_bipush (v := (10 : Int32)) hx hb dX5_dotsApart_19 (by decide) ?_
        refine lv_irem hx hb dX5_dotsApart_21 (by decide) ?_
        refine lv_iload hx hb dX5_dotsApart_22 (lv_at hl 3 rfl) ?_
        refine lv_bipush (v := (10 : Int32)) hx hb dX5_dotsApart_24 (by decide) ?_
        refine lv_irem hx hb dX5_dotsApart_26 (by decide) ?_
        refine lv_isub hx hb dX5_dotsApart_27 ?_
        refine va_mabs hx hb (hml.trans hl.1.symm) hown (hts (.methodLink RX5 179 Lib.Math.abs.name) (List.mem_of_getElem? (i := 1) rfl)) (hts (.static Lib.Math.abs.name) (List.mem_of_getElem? (i := 2) rfl)) (hts (.initialized "java/lang/Math") (List.mem_of_getElem? (i := 3) rfl)) (hts (.code Lib.Math.abs.name Lib.Math.abs.code 1 (some .int)) (List.mem_of_getElem? (i := 4) rfl)) (Nat.le_of_ble_eq_true rfl) (Nat.le_of_ble_eq_true rfl) (Nat.zero_le _) (Nat.zero_le _) dX5_dotsApart_28 ?_
        refine lv_topi (fun x_28 ex_28 => ?_)
        have h := bdv_some ex_28 h
        refine lv_istore (lv' := [(7, .int x_28), (2, .int x2), (3, .int x3), (4, .int x4), (5, .int x5), (6, .int x6)]) hx hb dX5_dotsApart_31 hl (by decide) rfl (fun ls hl => ?_)
        refine lv_iload_n hx hb dX5_dotsApart_33 rfl (lv_at hl 2 rfl) ?_
        refine lv_iload_n hx hb dX5_dotsApart_34 rfl (lv_at hl 1 rfl) ?_
        refine lv_iconst (v := (1 : Int32)) hx hb dX5_dotsApart_35 (by decide) ?_
        refine lv_icmp_ne (tgt := 47) hx hb dX5_dotsApart_36 (by decide) (fun c2 => ?_) (fun c2 => ?_)
        · have h := (if_neg c2).symm.trans h
          refine lv_iload hx hb dX5_dotsApart_47 (lv_at hl 0 rfl) ?_
          exact hb49 (fun x2 x3 x4 x5 x6 => fX5_dotsApart_b11 n x2 x3 x4 x5 x6) ih x2 x4 x5 x6 x_28 x3 H locs ls hP hD hS (lv_sub hl [1, 3, 4, 5] rfl) h
        · have h := (if_pos c2).symm.trans h
          refine lv_iload hx hb dX5_dotsApart_39 (lv_at hl 0 rfl) ?_
          refine lv_iload hx hb dX5_dotsApart_41 (lv_at hl 0 rfl) ?_
          refine lv_imul hx hb dX5_dotsApart_43 ?_
          refine lv_goto (tgt := 49) hx hb dX5_dotsApart_44 (by decide) ?_
          exact hb49 (fun x2 x3 x4 x5 x6 => fX5_dotsApart_b11 n x2 x3 x4 x5 x6) ih x2 x4 x5 x6 (x_28 * x_28) x3 H locs ls hP hD hS (lv_sub hl [1, 3, 4, 5] rfl) h
  unfold fX5_dotsApart at h
  obtain ⟨H, hH⟩ : ∃ H, H = s.heap := ⟨_, rfl⟩
  have hP : va_P D vwCl [] H := by rw [hH]; exact hP
  obtain ⟨locs, hlocs⟩ : ∃ x : List Loc, x = [] := ⟨_, rfl⟩
  have hS : va_S A s.heap H locs := by rw [hH, hlocs]; exact hS
  suffices hgo : W p l e rX5_dotsApart s m args below meth c H locs 0 0 Q (F0 m 0 ls []) by rw [hH, hlocs] at hgo; exact hgo
  refine lv_iconst (v := (0 : Int32)) hx hb dX5_dotsApart_0 (by decide) ?_
  refine lv_istore_n (lv' := [(3, .int (0 : Int32)), (0, .int x0), (1, .int x1), (2, .int x2)]) hx hb dX5_dotsApart_1 rfl hl (by decide) rfl (fun ls hl => ?_)
  refine lv_iload_n hx hb dX5_dotsApart_2 rfl (lv_at hl 1 rfl) ?_
  refine lv_istore (lv' := [(4, .int x0), (3, .int (0 : Int32)), (0, .int x0), (1, .int x1), (2, .int x2)]) hx hb dX5_dotsApart_3 hl (by decide) rfl (fun ls hl => ?_)
  refine lv_iload_n hx hb dX5_dotsApart_5 rfl (lv_at hl 3 rfl) ?_
  refine lv_istore (lv' := [(5, .int x1), (4, .int x0), (3, .int (0 : Int32)), (0, .int x0), (1, .int x1), (2, .int x2)]) hx hb dX5_dotsApart_6 hl (by decide) rfl (fun ls hl => ?_)
  refine lv_iconst (v := (0 : Int32)) hx hb dX5_dotsApart_8 (by decide) ?_
  refine lv_istore (lv' := [(6, .int (0 : Int32)), (5, .int x1), (4, .int x0), (3, .int (0 : Int32)), (0, .int x0), (1, .int x1), (2, .int x2)]) hx hb dX5_dotsApart_9 hl (by decide) rfl (fun ls hl => ?_)
  exact hb11 FU x2 (0 : Int32) x0 x1 (0 : Int32) H locs ls hP hD hS (lv_sub hl [6, 3, 2, 1, 0] rfl) h
def fX1_add (vCn : Int32) (fCd : Nat → Int32) (x1 : Int32) : Option (Int32 × (Nat → Int32)) :=
  if vCn < 0 then
    some (vCn, fCd)
  else
    if vCn < (12 : Int32) then
      if vCn < 0 ∨ 12 ≤ vCn.toNatClampNeg then none else
      some (vCn + (1 : Int32), upd fCd vCn.toNatClampNeg x1)
    else
      some (vCn, fCd)
abbrev rX1_add : Room := { frames := 0, cells := 0, slots := 0, locals := 0 }
set_option maxHeartbeats 4000000 in
set_option maxRecDepth 100000 in
theorem tX1_add {l : Launch} {D : va_G} {cI cZ cP : ClassId} (aC aCd : Nat) (vCn : Int32) (fCd : Nat → Int32) (x1 : Int32) (oCn : Int32) (oCd : Nat → Int32) (h : fX1_add vCn fCd x1 = some (oCn, oCd)) : CtV l D cI cZ cP yX1_add wsX1_add rX1_add [.ref aC, .int x1] [(aC, .inr (1, [.int vCn, .ref aCd])), (aCd, .inl (cI, 12, .inl fCd))] (fun _ : Unit => [(aC, .inr (1, [.int oCn, .ref aCd])), (aCd, .inl (cI, 12, .inl oCd))]) := by
  refine CtV.ofW (cc := cX1_add) (maxL := 2) (by decide) rfl (Nat.le_of_ble_eq_true rfl) (lv := [(0, .ref aC), (1, .int x1)]) rfl ?_
  intro p e s m args below meth c A Q ls hx hb hml hown hts hK hN hP hD hS hA hl hin hret0
  have hown : s.vm.findClass RX1 = some m.cls := hown
  have i1 : ∀ w ∈ wsX10, w ∈ wsX1_add := mem_ps [3, 4] rfl
  have hret : ∀ (zCn : Int32) (zCd : Nat → Int32) (pc : Nat) (ls : Array Slot) (H : Heap) (locs : List Loc), decode cX1_add pc = .ok (.return_, 1) → va_P D vwCl [(aC, .inr (1, [.int zCn, .ref aCd])), (aCd, .inl (cI, 12, .inl zCd))] H → va_D A [(aC, .inr (1, [.int zCn, .ref aCd])), (aCd, .inl (cI, 12, .inl zCd))] → va_S A s.heap H locs → some (zCn, zCd) = some (oCn, oCd) → W p l e rX1_add s m args below meth c H locs 0 0 Q (F0 m pc ls []) := by
    intro zCn zCd pc ls H locs hd hP hD hS h
    cases h
    exact hret0 pc ls H locs () hd hP hD hS
  clear hret0
  unfold fX1_add at h
  obtain ⟨H, hH⟩ : ∃ H, H = s.heap := ⟨_, rfl⟩
  have hP : va_P D vwCl [(aC, .inr (1, [.int vCn, .ref aCd])), (aCd, .inl (cI, 12, .inl fCd))] H := by rw [hH]; exact hP
  obtain ⟨locs, hlocs⟩ : ∃ x : List Loc, x = [] := ⟨_, rfl⟩
  have hS : va_S A s.heap H locs := by rw [hH, hlocs]; exact hS
  suffices hgo : W p l e rX1_add s m args below meth c H locs 0 0 Q (F0 m 0 ls []) by rw [hH, hlocs] at hgo; exact hgo
  refine lv_aload_n hx hb dX1_add_0 rfl (lv_at hl 0 rfl) ?_
  refine va_get (D := D) (ci := 1) (v := .int vCn) (C := RX1) (T := TX1) (N := 2) hx hb hts i1 hown hK hP 0 rfl rfl 0 (by decide) (hts (.fieldLink RX1 15 RX1 "count" "I") (List.mem_of_getElem? (i := 1) rfl)) (fun _ h9 => h9) rfl dX1_add_1 ?_
  refine lv_if_lt (tgt := 16) hx hb dX1_add_4 (by decide) (fun c1 => ?_) (fun c1 => ?_)
  · have h := (if_pos c1).symm.trans h
    exact hret vCn fCd 16 ls H locs dX1_add_16 hP hD hS h
  · have h := (if_neg c1).symm.trans h
    refine lv_aload_n hx hb dX1_add_7 rfl (lv_at hl 0 rfl) ?_
    refine va_get (D := D) (ci := 1) (v := .int vCn) (C := RX1) (T := TX1) (N := 2) hx hb hts i1 hown hK hP 0 rfl rfl 0 (by decide) (hts (.fieldLink RX1 15 RX1 "count" "I") (List.mem_of_getElem? (i := 1) rfl)) (fun _ h9 => h9) rfl dX1_add_8 ?_
    refine lv_bipush (v := (12 : Int32)) hx hb dX1_add_11 (by decide) ?_
    refine lv_icmp_lt (tgt := 17) hx hb dX1_add_13 (by decide) (fun c2 => ?_) (fun c2 => ?_)
    · have h := (if_pos c2).symm.trans h
      refine lv_aload_n hx hb dX1_add_17 rfl (lv_at hl 0 rfl) ?_
      refine va_get (D := D) (ci := 1) (v := .ref aCd) (C := RX1) (T := TX1) (N := 2) hx hb hts i1 hown hK hP 0 rfl rfl 1 (by decide) (hts (.fieldLink RX1 9 RX1 "dots" "[I") (List.mem_of_getElem? (i := 2) rfl)) (fun _ h9 => h9) rfl dX1_add_18 ?_
      refine lv_aload_n hx hb dX1_add_21 rfl (lv_at hl 0 rfl) ?_
      refine va_get (D := D) (ci := 1) (v := .int vCn) (C := RX1) (T := TX1) (N := 2) hx hb hts i1 hown hK hP 0 rfl rfl 0 (by decide) (hts (.fieldLink RX1 15 RX1 "count" "I") (List.mem_of_getElem? (i := 1) rfl)) (fun _ h9 => h9) rfl dX1_add_22 ?_
      refine lv_iload_n hx hb dX1_add_25 rfl (lv_at hl 1 rfl) ?_
      obtain ⟨g3, h⟩ := no_some h
      refine va_iast hx hb hK hP hD hS 1 0 rfl rfl g3 dX1_add_26 (fun H locs hP hD hS => ?_)
      have hP : va_P D vwCl [(aC, .inr (1, [.int vCn, .ref aCd])), (aCd, .inl (cI, 12, .inl (upd fCd vCn.toNatClampNeg x1)))] H := hP
      have hD : va_D A [(aC, .inr (1, [.int vCn, .ref aCd])), (aCd, .inl (cI, 12, .inl (upd fCd vCn.toNatClampNeg x1)))] := hD
      refine lv_aload_n hx hb dX1_add_27 rfl (lv_at hl 0 rfl) ?_
      refine lv_dup hx hb dX1_add_28 rfl ?_
      refine va_get (D := D) (ci := 1) (v := .int vCn) (C := RX1) (T := TX1) (N := 2) hx hb hts i1 hown hK hP 0 rfl rfl 0 (by decide) (hts (.fieldLink RX1 15 RX1 "count" "I") (List.mem_of_getElem? (i := 1) rfl)) (fun _ h9 => h9) rfl dX1_add_29 ?_
      refine lv_iconst (v := (1 : Int32)) hx hb dX1_add_32 (by decide) ?_
      refine lv_iadd hx hb dX1_add_33 ?_
      refine va_put (D := D) (ci := 1) (v := .int (vCn + (1 : Int32))) (ty := .int) (C := RX1) (T := TX1) (N := 2) hx hb hts i1 tyX1 tyX1_ok nmX1 hown hK hP hD hS 0 rfl rfl 0 (by decide) (hts (.fieldLink RX1 15 RX1 "count" "I") (List.mem_of_getElem? (i := 1) rfl)) (fun _ h9 => h9) rfl (by decide +kernel) rfl rfl (Nat.le_of_ble_eq_true rfl) dX1_add_34 (fun H locs hP hD hS => ?_)
      have hP : va_P D vwCl [(aC, .inr (1, [.int (vCn + (1 : Int32)), .ref aCd])), (aCd, .inl (cI, 12, .inl (upd fCd vCn.toNatClampNeg x1)))] H := hP
      have hD : va_D A [(aC, .inr (1, [.int (vCn + (1 : Int32)), .ref aCd])), (aCd, .inl (cI, 12, .inl (upd fCd vCn.toNatClampNeg x1)))] := hD
      exact hret (vCn + (1 : Int32)) (upd fCd vCn.toNatClampNeg x1) 37 ls H locs dX1_add_37 hP hD hS h
    · have h := (if_neg c2).symm.trans h
      exact hret vCn fCd 16 ls H locs dX1_add_16 hP hD hS h
def fX1_takeOut_b21  : Nat → Int32 → Int32 → (Nat → Int32) → Option (Int32 × (Nat → Int32))
  | 0, _, _, _ => none
  | n + 1, x2, vCn, fCd =>
    if vCn ≤ x2 then
      some (vCn, fCd)
    else
      if (12 : Int32) ≤ (x2 + (1 : Int32)) then
        some (vCn, fCd)
      else
        if x2 + (1 : Int32) < 0 ∨ 12 ≤ (x2 + (1 : Int32)).toNatClampNeg then none else
        if x2 < 0 ∨ 12 ≤ x2.toNatClampNeg then none else
        fX1_takeOut_b21  n (x2 + 1) vCn (upd fCd x2.toNatClampNeg (fCd ((x2 + (1 : Int32)).toNatClampNeg)))
def fX1_takeOut (vCn : Int32) (fCd : Nat → Int32) (x1 : Int32) : Option (Int32 × (Nat → Int32)) :=
  bd1 (fX1_has vCn x1) fun r_2 =>
  if r_2 = 0 then
    some (vCn, fCd)
  else
    fX1_takeOut_b21  FU x1 (vCn - (1 : Int32)) fCd
abbrev rX1_takeOut : Room := { frames := 1, cells := 0, slots := 0, locals := 21 }
set_option maxHeartbeats 4000000 in
set_option maxRecDepth 100000 in
theorem tX1_takeOut {l : Launch} {D : va_G} {cI cZ cP : ClassId} (aC aCd : Nat) (vCn : Int32) (fCd : Nat → Int32) (x1 : Int32) (oCn : Int32) (oCd : Nat → Int32) (h : fX1_takeOut vCn fCd x1 = some (oCn, oCd)) : CtV l D cI cZ cP yX1_takeOut wsX1_takeOut rX1_takeOut [.ref aC, .int x1] [(aC, .inr (1, [.int vCn, .ref aCd])), (aCd, .inl (cI, 12, .inl fCd))] (fun _ : Unit => [(aC, .inr (1, [.int oCn, .ref aCd])), (aCd, .inl (cI, 12, .inl oCd))]) := by
  refine CtV.ofW (cc := cX1_takeOut) (maxL := 3) (by decide) rfl (Nat.le_of_ble_eq_true rfl) (lv := [(0, .ref aC), (1, .int x1)]) rfl ?_
  intro p e s m args below meth c A Q ls hx hb hml hown hts hK hN hP hD hS hA hl hin hret0
  have hown : s.vm.findClass RX1 = some m.cls := hown
  have i1 : ∀ w ∈ wsX10, w ∈ wsX1_takeOut := mem_ps [8, 9] rfl
  have hret : ∀ (zCn : Int32) (zCd : Nat → Int32) (pc : Nat) (ls : Array Slot) (H : Heap) (locs : List Loc), decode cX1_takeOut pc = .ok (.return_, 1) → va_P D vwCl [(aC, .inr (1, [.int zCn, .ref aCd])), (aCd, .inl (cI, 12, .inl zCd))] H → va_D A [(aC, .inr (1, [.int zCn, .ref aCd])), (aCd, .inl (cI, 12, .inl zCd))] → va_S A s.heap H locs → some (zCn, zCd) = some (oCn, oCd) → W p l e rX1_takeOut s m args below meth c H locs 0 0 Q (F0 m pc ls []) := by
    intro zCn zCd pc ls H locs hd hP hD hS h
    cases h
    exact hret0 pc ls H locs () hd hP hD hS
  clear hret0
  have hb21 : ∀ (n : Nat) (x2 : Int32) (vCn : Int32) (fCd : Nat → Int32) (H : Heap) (locs : List Loc) (ls : Array Slot), va_P D vwCl [(aC, .inr (1, [.int vCn, .ref aCd])), (aCd, .inl (cI, 12, .inl fCd))] H → va_D A [(aC, .inr (1, [.int vCn, .ref aCd])), (aCd, .inl (cI, 12, .inl fCd))] → va_S A s.heap H locs → lv_has ls 3 [(0, .ref aC), (2, .int x2)] → fX1_takeOut_b21  n x2 vCn fCd = some (oCn, oCd) → W p l e rX1_takeOut s m args below meth c H locs 0 0 Q (F0 m 21 ls []) := by
    intro n
    induction n with
    | zero => intro x2 vCn fCd H locs ls hP hD hS hl h; exact absurd h (by rw [fX1_takeOut_b21]; exact fun z => by cases z)
    | succ n ih =>
      intro x2 vCn fCd H locs ls hP hD hS hl h
      rw [fX1_takeOut_b21] at h
      refine lv_iload_n hx hb dX1_takeOut_21 rfl (lv_at hl 1 rfl) ?_
      refine lv_aload_n hx hb dX1_takeOut_22 rfl (lv_at hl 0 rfl) ?_
      refine va_get (D := D) (ci := 1) (v := .int vCn) (C := RX1) (T := TX1) (N := 2) hx hb hts i1 hown hK hP 0 rfl rfl 0 (by decide) (hts (.fieldLink RX1 15 RX1 "count" "I") (List.mem_of_getElem? (i := 1) rfl)) (fun _ h9 => h9) rfl dX1_takeOut_23 ?_
      refine lv_icmp_ge (tgt := 57) hx hb dX1_takeOut_26 (by decide) (fun c1 => ?_) (fun c1 => ?_)
      · have h := (if_pos c1).symm.trans h
        exact hret vCn fCd 57 ls H locs dX1_takeOut_57 hP hD hS h
      · have h := (if_neg c1).symm.trans h
        refine lv_iload_n hx hb dX1_takeOut_29 rfl (lv_at hl 1 rfl) ?_
        refine lv_iconst (v := (1 : Int32)) hx hb dX1_takeOut_30 (by decide) ?_
        refine lv_iadd hx hb dX1_takeOut_31 ?_
        refine lv_bipush (v := (12 : Int32)) hx hb dX1_takeOut_32 (by decide) ?_
        refine lv_icmp_ge (tgt := 57) hx hb dX1_takeOut_34 (by decide) (fun c2 => ?_) (fun c2 => ?_)
        · have h := (if_pos c2).symm.trans h
          exact hret vCn fCd 57 ls H locs dX1_takeOut_57 hP hD hS h
        · have h := (if_neg c2).symm.trans h
          refine lv_aload_n hx hb dX1_takeOut_37 rfl (lv_at hl 0 rfl) ?_
          refine va_get (D := D) (ci := 1) (v := .ref aCd) (C := RX1) (T := TX1) (N := 2) hx hb hts i1 hown hK hP 0 rfl rfl 1 (by decide) (hts (.fieldLink RX1 9 RX1 "dots" "[I") (List.mem_of_getElem? (i := 2) rfl)) (fun _ h9 => h9) rfl dX1_takeOut_38 ?_
          refine lv_iload_n hx hb dX1_takeOut_41 rfl (lv_at hl 1 rfl) ?_
          refine lv_aload_n hx hb dX1_takeOut_42 rfl (lv_at hl 0 rfl) ?_
          refine va_get (D := D) (ci := 1) (v := .ref aCd) (C := RX1) (T := TX1) (N := 2) hx hb hts i1 hown hK hP 0 rfl rfl 1 (by decide) (hts (.fieldLink RX1 9 RX1 "dots" "[I") (List.mem_of_getElem? (i := 2) rfl)) (fun _ h9 => h9) rfl dX1_takeOut_43 ?_
          refine lv_iload_n hx hb dX1_takeOut_46 rfl (lv_at hl 1 rfl) ?_
          refine lv_iconst (v := (1 : Int32)) hx hb dX1_takeOut_47 (by decide) ?_
          refine lv_iadd hx hb dX1_takeOut_48 ?_
          obtain ⟨g3, h⟩ := no_some h
          refine va_iald hx hb hK hP 1 0 rfl rfl g3 dX1_takeOut_49 ?_
          obtain ⟨g4, h⟩ := no_some h
          refine va_iast hx hb hK hP hD hS 1 0 rfl rfl g4 dX1_takeOut_50 (fun H locs hP hD hS => ?_)
          have hP : va_P D vwCl [(aC, .inr (1, [.int vCn, .ref aCd])), (aCd, .inl (cI, 12, .inl (upd fCd x2.toNatClampNeg (fCd ((x2 + (1 : Int32)).toNatClampNeg)))))] H := hP
          have hD : va_D A [(aC, .inr (1, [.int vCn, .ref aCd])), (aCd, .inl (cI, 12, .inl (upd fCd x2.toNatClampNeg (fCd ((x2 + (1 : Int32)).toNatClampNeg)))))] := hD
          refine lv_iinc (v := x2 + 1) (lv' := [(2, .int (x2 + 1)), (0, .ref aC)]) hx hb dX1_takeOut_51 hl (k := 1) rfl rfl (by decide) rfl (fun ls hl => ?_)
          refine lv_goto (tgt := 21) hx hb dX1_takeOut_54 (by decide) ?_
          exact ih (x2 + 1) vCn (upd fCd x2.toNatClampNeg (fCd ((x2 + (1 : Int32)).toNatClampNeg))) H locs ls hP hD hS (lv_sub hl [1, 0] rfl) h
  unfold fX1_takeOut at h
  obtain ⟨H, hH⟩ : ∃ H, H = s.heap := ⟨_, rfl⟩
  have hP : va_P D vwCl [(aC, .inr (1, [.int vCn, .ref aCd])), (aCd, .inl (cI, 12, .inl fCd))] H := by rw [hH]; exact hP
  obtain ⟨locs, hlocs⟩ : ∃ x : List Loc, x = [] := ⟨_, rfl⟩
  have hS : va_S A s.heap H locs := by rw [hH, hlocs]; exact hS
  suffices hgo : W p l e rX1_takeOut s m args below meth c H locs 0 0 Q (F0 m 0 ls []) by rw [hH, hlocs] at hgo; exact hgo
  refine lv_aload_n hx hb dX1_takeOut_0 rfl (lv_at hl 0 rfl) ?_
  refine lv_iload_n hx hb dX1_takeOut_1 rfl (lv_at hl 1 rfl) ?_
  obtain ⟨r_2, q_2, h⟩ := bd1_some h
  refine fr_ro_i (S := Unit) (wc := [(aC, .inr (1, [.int vCn, .ref aCd]))]) (fr_V (As := [.int x1]) (rest := []) (C := RX1) ⟨hx, hb, hml, hown, hts⟩ (tX1_has aC aCd vCn x1 r_2 q_2) gX1_takeOut_X1_has rfl (fr_preV (As := [.int x1]) (b := aC) (ci := 1) (q0 := 0) (wc := [(aC, .inr (1, [.int vCn, .ref aCd]))]) hK hN hP hD [0] (by decide) rfl rfl rfl) (n := 1) (by decide +kernel) ⟨Nat.le_of_ble_eq_true rfl, Nat.le_of_ble_eq_true rfl⟩ rfl hl.1 rfl (Nat.le_of_ble_eq_true rfl) dX1_takeOut_2 ⟨Nat.zero_le _, Nat.zero_le _⟩) hP hD hS hA [0] rfl (c2 := 0) (s2 := 0) rfl rfl (fun H locs hP hS => ?_)
  refine lv_if_ne (tgt := 9) hx hb dX1_takeOut_5 (by decide) (fun c5 => ?_) (fun c5 => ?_)
  · have h := (if_neg c5).symm.trans h
    refine lv_aload_n hx hb dX1_takeOut_9 rfl (lv_at hl 0 rfl) ?_
    refine lv_dup hx hb dX1_takeOut_10 rfl ?_
    refine va_get (D := D) (ci := 1) (v := .int vCn) (C := RX1) (T := TX1) (N := 2) hx hb hts i1 hown hK hP 0 rfl rfl 0 (by decide) (hts (.fieldLink RX1 15 RX1 "count" "I") (List.mem_of_getElem? (i := 1) rfl)) (fun _ h9 => h9) rfl dX1_takeOut_11 ?_
    refine lv_iconst (v := (1 : Int32)) hx hb dX1_takeOut_14 (by decide) ?_
    refine lv_isub hx hb dX1_takeOut_15 ?_
    refine va_put (D := D) (ci := 1) (v := .int (vCn - (1 : Int32))) (ty := .int) (C := RX1) (T := TX1) (N := 2) hx hb hts i1 tyX1 tyX1_ok nmX1 hown hK hP hD hS 0 rfl rfl 0 (by decide) (hts (.fieldLink RX1 15 RX1 "count" "I") (List.mem_of_getElem? (i := 1) rfl)) (fun _ h9 => h9) rfl (by decide +kernel) rfl rfl (Nat.le_of_ble_eq_true rfl) dX1_takeOut_16 (fun H locs hP hD hS => ?_)
    have hP : va_P D vwCl [(aC, .inr (1, [.int (vCn - (1 : Int32)), .ref aCd])), (aCd, .inl (cI, 12, .inl fCd))] H := hP
    have hD : va_D A [(aC, .inr (1, [.int (vCn - (1 : Int32)), .ref aCd])), (aCd, .inl (cI, 12, .inl fCd))] := hD
    refine lv_iload_n hx hb dX1_takeOut_19 rfl (lv_at hl 1 rfl) ?_
    refine lv_istore_n (lv' := [(2, .int x1), (0, .ref aC), (1, .int x1)]) hx hb dX1_takeOut_20 rfl hl (by decide) rfl (fun ls hl => ?_)
    exact hb21 FU x1 (vCn - (1 : Int32)) fCd H locs ls hP hD hS (lv_sub hl [1, 0] rfl) h
  · have h := (if_pos c5).symm.trans h
    exact hret vCn fCd 8 ls H locs dX1_takeOut_8 hP hD hS h
def fX1_copyFrom (vCn : Int32) (fCd : Nat → Int32) (vCn2 : Int32) (fCd2 : Nat → Int32) : Option (Int32 × (Nat → Int32)) :=
  some (vCn2, va_cpy fCd2 fCd 0 0 12)
abbrev rX1_copyFrom : Room := { frames := 1, cells := 0, slots := 0, locals := 60 }
set_option maxHeartbeats 4000000 in
set_option maxRecDepth 100000 in
theorem tX1_copyFrom {l : Launch} {D : va_G} {cI cZ cP : ClassId} (aC aCd aC2 aCd2 : Nat) (vCn : Int32) (fCd : Nat → Int32) (vCn2 : Int32) (fCd2 : Nat → Int32) (oCn : Int32) (oCd : Nat → Int32) (h : fX1_copyFrom vCn fCd vCn2 fCd2 = some (oCn, oCd)) : CtV l D cI cZ cP yX1_copyFrom wsX1_copyFrom rX1_copyFrom [.ref aC, .ref aC2] [(aC, .inr (1, [.int vCn, .ref aCd])), (aCd, .inl (cI, 12, .inl fCd)), (aC2, .inr (1, [.int vCn2, .ref aCd2])), (aCd2, .inl (cI, 12, .inl fCd2))] (fun _ : Unit => [(aC, .inr (1, [.int oCn, .ref aCd])), (aCd, .inl (cI, 12, .inl oCd)), (aC2, .inr (1, [.int vCn2, .ref aCd2])), (aCd2, .inl (cI, 12, .inl fCd2))]) := by
  refine CtV.ofW (cc := cX1_copyFrom) (maxL := 2) (by decide) rfl (Nat.le_of_ble_eq_true rfl) (lv := [(0, .ref aC), (1, .ref aC2)]) rfl ?_
  intro p e s m args below meth c A Q ls hx hb hml hown hts hK hN hP hD hS hA hl hin hret0
  have hown : s.vm.findClass RX1 = some m.cls := hown
  have i1 : ∀ w ∈ wsX10, w ∈ wsX1_copyFrom := mem_ps [7, 8] rfl
  have hret : ∀ (zCn : Int32) (zCd : Nat → Int32) (pc : Nat) (ls : Array Slot) (H : Heap) (locs : List Loc), decode cX1_copyFrom pc = .ok (.return_, 1) → va_P D vwCl [(aC, .inr (1, [.int zCn, .ref aCd])), (aCd, .inl (cI, 12, .inl zCd)), (aC2, .inr (1, [.int vCn2, .ref aCd2])), (aCd2, .inl (cI, 12, .inl fCd2))] H → va_D A [(aC, .inr (1, [.int zCn, .ref aCd])), (aCd, .inl (cI, 12, .inl zCd)), (aC2, .inr (1, [.int vCn2, .ref aCd2])), (aCd2, .inl (cI, 12, .inl fCd2))] → va_S A s.heap H locs → some (zCn, zCd) = some (oCn, oCd) → W p l e rX1_copyFrom s m args below meth c H locs 0 0 Q (F0 m pc ls []) := by
    intro zCn zCd pc ls H locs hd hP hD hS h
    cases h
    exact hret0 pc ls H locs () hd hP hD hS
  clear hret0
  unfold fX1_copyFrom at h
  obtain ⟨H, hH⟩ : ∃ H, H = s.heap := ⟨_, rfl⟩
  have hP : va_P D vwCl [(aC, .inr (1, [.int vCn, .ref aCd])), (aCd, .inl (cI, 12, .inl fCd)), (aC2, .inr (1, [.int vCn2, .ref aCd2])), (aCd2, .inl (cI, 12, .inl fCd2))] H := by rw [hH]; exact hP
  obtain ⟨locs, hlocs⟩ : ∃ x : List Loc, x = [] := ⟨_, rfl⟩
  have hS : va_S A s.heap H locs := by rw [hH, hlocs]; exact hS
  suffices hgo : W p l e rX1_copyFrom s m args below meth c H locs 0 0 Q (F0 m 0 ls []) by rw [hH, hlocs] at hgo; exact hgo
  refine lv_aload_n hx hb dX1_copyFrom_0 rfl (lv_at hl 0 rfl) ?_
  refine lv_aload_n hx hb dX1_copyFrom_1 rfl (lv_at hl 1 rfl) ?_
  refine va_get (D := D) (ci := 1) (v := .int vCn2) (C := RX1) (T := TX1) (N := 2) hx hb hts i1 hown hK hP 2 rfl rfl 0 (by decide) (hts (.fieldLink RX1 15 RX1 "count" "I") (List.mem_of_getElem? (i := 1) rfl)) (fun _ h9 => h9) rfl dX1_copyFrom_2 ?_
  refine va_put (D := D) (ci := 1) (v := .int vCn2) (ty := .int) (C := RX1) (T := TX1) (N := 2) hx hb hts i1 tyX1 tyX1_ok nmX1 hown hK hP hD hS 0 rfl rfl 0 (by decide) (hts (.fieldLink RX1 15 RX1 "count" "I") (List.mem_of_getElem? (i := 1) rfl)) (fun _ h9 => h9) rfl (by decide +kernel) rfl rfl (Nat.le_of_ble_eq_true rfl) dX1_copyFrom_5 (fun H locs hP hD hS => ?_)
  have hP : va_P D vwCl [(aC, .inr (1, [.int vCn2, .ref aCd])), (aCd, .inl (cI, 12, .inl fCd)), (aC2, .inr (1, [.int vCn2, .ref aCd2])), (aCd2, .inl (cI, 12, .inl fCd2))] H := hP
  have hD : va_D A [(aC, .inr (1, [.int vCn2, .ref aCd])), (aCd, .inl (cI, 12, .inl fCd)), (aC2, .inr (1, [.int vCn2, .ref aCd2])), (aCd2, .inl (cI, 12, .inl fCd2))] := hD
  refine lv_aload_n hx hb dX1_copyFrom_8 rfl (lv_at hl 1 rfl) ?_
  refine va_get (D := D) (ci := 1) (v := .ref aCd2) (C := RX1) (T := TX1) (N := 2) hx hb hts i1 hown hK hP 2 rfl rfl 1 (by decide) (hts (.fieldLink RX1 9 RX1 "dots" "[I") (List.mem_of_getElem? (i := 2) rfl)) (fun _ h9 => h9) rfl dX1_copyFrom_9 ?_
  refine lv_iconst (v := (0 : Int32)) hx hb dX1_copyFrom_12 (by decide) ?_
  refine lv_aload_n hx hb dX1_copyFrom_13 rfl (lv_at hl 0 rfl) ?_
  refine va_get (D := D) (ci := 1) (v := .ref aCd) (C := RX1) (T := TX1) (N := 2) hx hb hts i1 hown hK hP 0 rfl rfl 1 (by decide) (hts (.fieldLink RX1 9 RX1 "dots" "[I") (List.mem_of_getElem? (i := 2) rfl)) (fun _ h9 => h9) rfl dX1_copyFrom_14 ?_
  refine lv_iconst (v := (0 : Int32)) hx hb dX1_copyFrom_17 (by decide) ?_
  refine lv_bipush (v := (12 : Int32)) hx hb dX1_copyFrom_18 (by decide) ?_
  refine va_copyi hx hb (hml.trans hl.1.symm) hown (hts (.methodLink RX1 23 arraycopyName) (List.mem_of_getElem? (i := 3) rfl)) (hts (.native arraycopyName) (List.mem_of_getElem? (i := 4) rfl)) (hts (.static arraycopyName) (List.mem_of_getElem? (i := 5) rfl)) (hts (.initialized "java/lang/System") (List.mem_of_getElem? (i := 6) rfl)) hK hP hD hS 3 1 0 0 (ty := .int) rfl rfl rfl rfl rfl (by decide) (by decide) (by decide) (by decide) (by decide) (fun _ _ => rfl) (Nat.le_of_ble_eq_true rfl) (Nat.le_of_ble_eq_true rfl) dX1_copyFrom_20 (fun H locs hP hD hS => ?_)
  have hP : va_P D vwCl [(aC, .inr (1, [.int vCn2, .ref aCd])), (aCd, .inl (cI, 12, .inl (va_cpy fCd2 fCd 0 0 12))), (aC2, .inr (1, [.int vCn2, .ref aCd2])), (aCd2, .inl (cI, 12, .inl fCd2))] H := hP
  have hD : va_D A [(aC, .inr (1, [.int vCn2, .ref aCd])), (aCd, .inl (cI, 12, .inl (va_cpy fCd2 fCd 0 0 12))), (aC2, .inr (1, [.int vCn2, .ref aCd2])), (aCd2, .inl (cI, 12, .inl fCd2))] := hD
  exact hret vCn2 (va_cpy fCd2 fCd 0 0 12) 23 ls H locs dX1_copyFrom_23 hP hD hS h
def fX2_numberOf_b2 (vKn : Int32) (fKd : Nat → Int32) : Nat → Int32 → Int32 → Option (Int32)
  | 0, _, _ => none
  | n + 1, x1, x2 =>
    if vKn ≤ x2 then
      some (-6 : Int32)
    else
      if (8 : Int32) ≤ x2 then
        some (-6 : Int32)
      else
        if x2 < 0 ∨ 8 ≤ x2.toNatClampNeg then none else
        if (fKd x2.toNatClampNeg) = x1 then
          some x2
        else
          fX2_numberOf_b2 vKn fKd n x1 (x2 + 1)
def fX2_numberOf (vKn : Int32) (fKd : Nat → Int32) (x1 : Int32) : Option (Int32) :=
  fX2_numberOf_b2 vKn fKd FU x1 (0 : Int32)
abbrev rX2_numberOf : Room := { frames := 0, cells := 0, slots := 0, locals := 0 }
set_option maxHeartbeats 4000000 in
set_option maxRecDepth 100000 in
theorem tX2_numberOf {l : Launch} {D : va_G} {cI cZ cP : ClassId} (aK aKd aKs : Nat) (vKn : Int32) (fKd : Nat → Int32) (x1 : Int32) (r : Int32) (h : fX2_numberOf vKn fKd x1 = some r) : CtI l D cI cZ cP yX2_numberOf wsX2_numberOf rX2_numberOf [.ref aK, .int x1] [(aK, .inr (2, [.int vKn, .ref aKd, .ref aKs])), (aKd, .inl (cI, 8, .inl fKd))] (fun _ : Unit => [(aK, .inr (2, [.int vKn, .ref aKd, .ref aKs])), (aKd, .inl (cI, 8, .inl fKd))]) r := by
  refine CtI.ofW (cc := cX2_numberOf) (maxL := 3) (by decide) rfl (Nat.le_of_ble_eq_true rfl) (lv := [(0, .ref aK), (1, .int x1)]) rfl ?_
  intro p e s m args below meth c A Q ls hx hb hml hown hts hK hN hP hD hS hA hl hret0
  have hown : s.vm.findClass RX2 = some m.cls := hown
  have i2 : ∀ w ∈ wsX20, w ∈ wsX2_numberOf := mem_ps [3, 4, 5] rfl
  have hret : ∀ (v : Int32) (pc : Nat) (ls : Array Slot) (H : Heap) (locs : List Loc), narrow .int (.int v) = .int v → decode cX2_numberOf pc = .ok (.ireturn, 1) → va_P D vwCl [(aK, .inr (2, [.int vKn, .ref aKd, .ref aKs])), (aKd, .inl (cI, 8, .inl fKd))] H → va_D A [(aK, .inr (2, [.int vKn, .ref aKd, .ref aKs])), (aKd, .inl (cI, 8, .inl fKd))] → va_S A s.heap H locs → some v = some r → W p l e rX2_numberOf s m args below meth c H locs 0 0 Q (F0 m pc ls [.int v]) := by
    intro v pc ls H locs hn hd hP hD hS h
    cases h
    exact hret0 pc ls H locs () hn hd hP hD hS
  clear hret0
  have hb2 : ∀ (n : Nat) (x1 : Int32) (x2 : Int32) (H : Heap) (locs : List Loc) (ls : Array Slot), va_P D vwCl [(aK, .inr (2, [.int vKn, .ref aKd, .ref aKs])), (aKd, .inl (cI, 8, .inl fKd))] H → va_D A [(aK, .inr (2, [.int vKn, .ref aKd, .ref aKs])), (aKd, .inl (cI, 8, .inl fKd))] → va_S A s.heap H locs → lv_has ls 3 [(0, .ref aK), (1, .int x1), (2, .int x2)] → fX2_numberOf_b2 vKn fKd n x1 x2 = some r → W p l e rX2_numberOf s m args below meth c H locs 0 0 Q (F0 m 2 ls []) := by
    intro n
    induction n with
    | zero => intro x1 x2 H locs ls hP hD hS hl h; exact absurd h (by rw [fX2_numberOf_b2]; exact fun z => by cases z)
    | succ n ih =>
      intro x1 x2 H locs ls hP hD hS hl h
      rw [fX2_numberOf_b2] at h
      refine lv_iload_n hx hb dX2_numberOf_2 rfl (lv_at hl 2 rfl) ?_
      refine lv_aload_n hx hb dX2_numberOf_3 rfl (lv_at hl 0 rfl) ?_
      refine va_get (D := D) (ci := 2) (v := .int vKn) (C := RX2) (T := TX2) (N := 3) hx hb hts i2 hown hK hP 0 rfl rfl 0 (by decide) (hts (.fieldLink RX2 18 RX2 "count" "I") (List.mem_of_getElem? (i := 1) rfl)) (fun _ h9 => h9) rfl dX2_numberOf_4 ?_
      refine lv_icmp_ge (tgt := 34) hx hb dX2_numberOf_7 (by decide) (fun c1 => ?_) (fun c1 => ?_)
      · have h := (if_pos c1).symm.trans h
        refine lv_bipush (v := (-6 : Int32)) hx hb dX2_numberOf_34 (by decide) ?_
        exact hret (-6 : Int32) 36 ls H locs rfl dX2_numberOf_36 hP hD hS h
      · have h := (if_neg c1).symm.trans h
        refine lv_iload_n hx hb dX2_numberOf_10 rfl (lv_at hl 2 rfl) ?_
        refine lv_bipush (v := (8 : Int32)) hx hb dX2_numberOf_11 (by decide) ?_
        refine lv_icmp_ge (tgt := 34) hx hb dX2_numberOf_13 (by decide) (fun c2 => ?_) (fun c2 => ?_)
        · have h := (if_pos c2).symm.trans h
          refine lv_bipush (v := (-6 : Int32)) hx hb dX2_numberOf_34 (by decide) ?_
          exact hret (-6 : Int32) 36 ls H locs rfl dX2_numberOf_36 hP hD hS h
        · have h := (if_neg c2).symm.trans h
          refine lv_aload_n hx hb dX2_numberOf_16 rfl (lv_at hl 0 rfl) ?_
          refine va_get (D := D) (ci := 2) (v := .ref aKd) (C := RX2) (T := TX2) (N := 3) hx hb hts i2 hown hK hP 0 rfl rfl 1 (by decide) (hts (.fieldLink RX2 9 RX2 "dots" "[I") (List.mem_of_getElem? (i := 2) rfl)) (fun _ h9 => h9) rfl dX2_numberOf_17 ?_
          refine lv_iload_n hx hb dX2_numberOf_20 rfl (lv_at hl 2 rfl) ?_
          obtain ⟨g3, h⟩ := no_some h
          refine va_iald hx hb hK hP 1 0 rfl rfl g3 dX2_numberOf_21 ?_
          refine lv_iload_n hx hb dX2_numberOf_22 rfl (lv_at hl 1 rfl) ?_
          refine lv_icmp_ne (tgt := 28) hx hb dX2_numberOf_23 (by decide) (fun c4 => ?_) (fun c4 => ?_)
          · have h := (if_neg c4).symm.trans h
            refine lv_iinc (v := x2 + 1) (lv' := [(2, .int (x2 + 1)), (0, .ref aK), (1, .int x1)]) hx hb dX2_numberOf_28 hl (k := 2) rfl rfl (by decide) rfl (fun ls hl => ?_)
            refine lv_goto (tgt := 2) hx hb dX2_numberOf_31 (by decide) ?_
            exact ih x1 (x2 + 1) H locs ls hP hD hS (lv_sub hl [1, 2, 0] rfl) h
          · have h := (if_pos c4).symm.trans h
            refine lv_iload_n hx hb dX2_numberOf_26 rfl (lv_at hl 2 rfl) ?_
            exact hret x2 27 ls H locs rfl dX2_numberOf_27 hP hD hS h
  unfold fX2_numberOf at h
  obtain ⟨H, hH⟩ : ∃ H, H = s.heap := ⟨_, rfl⟩
  have hP : va_P D vwCl [(aK, .inr (2, [.int vKn, .ref aKd, .ref aKs])), (aKd, .inl (cI, 8, .inl fKd))] H := by rw [hH]; exact hP
  obtain ⟨locs, hlocs⟩ : ∃ x : List Loc, x = [] := ⟨_, rfl⟩
  have hS : va_S A s.heap H locs := by rw [hH, hlocs]; exact hS
  suffices hgo : W p l e rX2_numberOf s m args below meth c H locs 0 0 Q (F0 m 0 ls []) by rw [hH, hlocs] at hgo; exact hgo
  refine lv_iconst (v := (0 : Int32)) hx hb dX2_numberOf_0 (by decide) ?_
  refine lv_istore_n (lv' := [(2, .int (0 : Int32)), (0, .ref aK), (1, .int x1)]) hx hb dX2_numberOf_1 rfl hl (by decide) rfl (fun ls hl => ?_)
  exact hb2 FU x1 (0 : Int32) H locs ls hP hD hS (lv_sub hl [1, 2, 0] rfl) h
def fX2_hasRoom_b48 (vKn : Int32) (fKd : Nat → Int32) (fKs : Nat → Int32) (x2 : Int32) (y0 : Int32) : Option (Int32) :=
  if y0 = 0 then
    some (0 : Int32)
  else
    bd1 (fX2_slots vKn fKs) fun r_56 =>
    if (16 : Int32) < (r_56 + x2) then
      some (0 : Int32)
    else
      some (1 : Int32)
def fX2_hasRoom (vKn : Int32) (fKd : Nat → Int32) (fKs : Nat → Int32) (x1 : Int32) (x2 : Int32) : Option (Int32) :=
  bd1 (fX2_numberOf vKn fKd x1) fun r_2 =>
  bd1 (fX2_has vKn r_2) fun r_8 =>
  if r_8 = 0 then
    if (8 : Int32) ≤ vKn then
      fX2_hasRoom_b48 vKn fKd fKs x2 (0 : Int32)
    else
      fX2_hasRoom_b48 vKn fKd fKs x2 (1 : Int32)
  else
    if r_2 < 0 ∨ 8 ≤ r_2.toNatClampNeg then none else
    if (4 : Int32) < ((fKs r_2.toNatClampNeg) + x2) then
      fX2_hasRoom_b48 vKn fKd fKs x2 (0 : Int32)
    else
      fX2_hasRoom_b48 vKn fKd fKs x2 (1 : Int32)
abbrev rX2_hasRoom : Room := { frames := 2, cells := 0, slots := 0, locals := 43 }
set_option maxHeartbeats 4000000 in
set_option maxRecDepth 100000 in
theorem tX2_hasRoom {l : Launch} {D : va_G} {cI cZ cP : ClassId} (aK aKd aKs : Nat) (vKn : Int32) (fKd : Nat → Int32) (fKs : Nat → Int32) (x1 : Int32) (x2 : Int32) (r : Int32) (h : fX2_hasRoom vKn fKd fKs x1 x2 = some r) : CtI l D cI cZ cP yX2_hasRoom wsX2_hasRoom rX2_hasRoom [.ref aK, .int x1, .int x2] [(aK, .inr (2, [.int vKn, .ref aKd, .ref aKs])), (aKd, .inl (cI, 8, .inl fKd)), (aKs, .inl (cI, 8, .inl fKs))] (fun _ : Unit => [(aK, .inr (2, [.int vKn, .ref aKd, .ref aKs])), (aKd, .inl (cI, 8, .inl fKd)), (aKs, .inl (cI, 8, .inl fKs))]) r := by
  refine CtI.ofW (cc := cX2_hasRoom) (maxL := 5) (by decide) rfl (Nat.le_of_ble_eq_true rfl) (lv := [(0, .ref aK), (1, .int x1), (2, .int x2)]) rfl ?_
  intro p e s m args below meth c A Q ls hx hb hml hown hts hK hN hP hD hS hA hl hret0
  have hown : s.vm.findClass RX2 = some m.cls := hown
  have i2 : ∀ w ∈ wsX20, w ∈ wsX2_hasRoom := mem_ps [21, 22, 23] rfl
  have hret : ∀ (v : Int32) (pc : Nat) (ls : Array Slot) (H : Heap) (locs : List Loc), narrow .boolean (.int v) = .int v → decode cX2_hasRoom pc = .ok (.ireturn, 1) → va_P D vwCl [(aK, .inr (2, [.int vKn, .ref aKd, .ref aKs])), (aKd, .inl (cI, 8, .inl fKd)), (aKs, .inl (cI, 8, .inl fKs))] H → va_D A [(aK, .inr (2, [.int vKn, .ref aKd, .ref aKs])), (aKd, .inl (cI, 8, .inl fKd)), (aKs, .inl (cI, 8, .inl fKs))] → va_S A s.heap H locs → some v = some r → W p l e rX2_hasRoom s m args below meth c H locs 0 0 Q (F0 m pc ls [.int v]) := by
    intro v pc ls H locs hn hd hP hD hS h
    cases h
    exact hret0 pc ls H locs () hn hd hP hD hS
  clear hret0
  have hb48 : ∀ (x2 : Int32) (y0 : Int32) (H : Heap) (locs : List Loc) (ls : Array Slot), va_P D vwCl [(aK, .inr (2, [.int vKn, .ref aKd, .ref aKs])), (aKd, .inl (cI, 8, .inl fKd)), (aKs, .inl (cI, 8, .inl fKs))] H → va_D A [(aK, .inr (2, [.int vKn, .ref aKd, .ref aKs])), (aKd, .inl (cI, 8, .inl fKd)), (aKs, .inl (cI, 8, .inl fKs))] → va_S A s.heap H locs → lv_has ls 5 [(0, .ref aK), (2, .int x2)] → fX2_hasRoom_b48 vKn fKd fKs x2 y0 = some r → W p l e rX2_hasRoom s m args below meth c H locs 0 0 Q (F0 m 48 ls [.int y0]) := by
    intro x2 y0 H locs ls hP hD hS hl h
    unfold fX2_hasRoom_b48 at h
    refine lv_istore (lv' := [(4, .int y0), (0, .ref aK), (2, .int x2)]) hx hb dX2_hasRoom_48 hl (by decide) rfl (fun ls hl => ?_)
    refine lv_iload hx hb dX2_hasRoom_50 (lv_at hl 0 rfl) ?_
    refine lv_if_eq (tgt := 70) hx hb dX2_hasRoom_52 (by decide) (fun c1 => ?_) (fun c1 => ?_)
    · have h := (if_pos c1).symm.trans h
      refine lv_iconst (v := (0 : Int32)) hx hb dX2_hasRoom_70 (by decide) ?_
      exact hret (0 : Int32) 71 ls H locs rfl dX2_hasRoom_71 hP hD hS h
    · have h := (if_neg c1).symm.trans h
      refine lv_aload_n hx hb dX2_hasRoom_55 rfl (lv_at hl 1 rfl) ?_
      obtain ⟨r_56, q_56, h⟩ := bd1_some h
      refine fr_ro_i (S := Unit) (wc := [(aK, .inr (2, [.int vKn, .ref aKd, .ref aKs])), (aKs, .inl (cI, 8, .inl fKs))]) (fr_V (As := []) (rest := []) (C := RX2) ⟨hx, hb, hml, hown, hts⟩ (tX2_slots aK aKs aKd vKn fKs r_56 q_56) gX2_hasRoom_X2_slots rfl (fr_preV (As := []) (b := aK) (ci := 2) (q0 := 0) (wc := [(aK, .inr (2, [.int vKn, .ref aKd, .ref aKs])), (aKs, .inl (cI, 8, .inl fKs))]) hK hN hP hD [0, 2] (by decide) rfl rfl rfl) (n := 0) (by decide +kernel) ⟨Nat.le_of_ble_eq_true rfl, Nat.le_of_ble_eq_true rfl⟩ rfl hl.1 rfl (Nat.le_of_ble_eq_true rfl) dX2_hasRoom_56 ⟨Nat.zero_le _, Nat.zero_le _⟩) hP hD hS hA [0, 2] rfl (c2 := 0) (s2 := 0) rfl rfl (fun H locs hP hS => ?_)
      refine lv_iload_n hx hb dX2_hasRoom_59 rfl (lv_at hl 2 rfl) ?_
      refine lv_iadd hx hb dX2_hasRoom_60 ?_
      refine lv_bipush (v := (16 : Int32)) hx hb dX2_hasRoom_61 (by decide) ?_
      refine lv_icmp_gt (tgt := 70) hx hb dX2_hasRoom_63 (by decide) (fun c2 => ?_) (fun c2 => ?_)
      · have h := (if_pos c2).symm.trans h
        refine lv_iconst (v := (0 : Int32)) hx hb dX2_hasRoom_70 (by decide) ?_
        exact hret (0 : Int32) 71 ls H locs rfl dX2_hasRoom_71 hP hD hS h
      · have h := (if_neg c2).symm.trans h
        refine lv_iconst (v := (1 : Int32)) hx hb dX2_hasRoom_66 (by decide) ?_
        refine lv_goto (tgt := 71) hx hb dX2_hasRoom_67 (by decide) ?_
        exact hret (1 : Int32) 71 ls H locs rfl dX2_hasRoom_71 hP hD hS h
  unfold fX2_hasRoom at h
  obtain ⟨H, hH⟩ : ∃ H, H = s.heap := ⟨_, rfl⟩
  have hP : va_P D vwCl [(aK, .inr (2, [.int vKn, .ref aKd, .ref aKs])), (aKd, .inl (cI, 8, .inl fKd)), (aKs, .inl (cI, 8, .inl fKs))] H := by rw [hH]; exact hP
  obtain ⟨locs, hlocs⟩ : ∃ x : List Loc, x = [] := ⟨_, rfl⟩
  have hS : va_S A s.heap H locs := by rw [hH, hlocs]; exact hS
  suffices hgo : W p l e rX2_hasRoom s m args below meth c H locs 0 0 Q (F0 m 0 ls []) by rw [hH, hlocs] at hgo; exact hgo
  refine lv_aload_n hx hb dX2_hasRoom_0 rfl (lv_at hl 0 rfl) ?_
  refine lv_iload_n hx hb dX2_hasRoom_1 rfl (lv_at hl 1 rfl) ?_
  obtain ⟨r_2, q_2, h⟩ := bd1_some h
  refine fr_ro_i (S := Unit) (wc := [(aK, .inr (2, [.int vKn, .ref aKd, .ref aKs])), (aKd, .inl (cI, 8, .inl fKd))]) (fr_V (As := [.int x1]) (rest := []) (C := RX2) ⟨hx, hb, hml, hown, hts⟩ (tX2_numberOf aK aKd aKs vKn fKd x1 r_2 q_2) gX2_hasRoom_X2_numberOf rfl (fr_preV (As := [.int x1]) (b := aK) (ci := 2) (q0 := 0) (wc := [(aK, .inr (2, [.int vKn, .ref aKd, .ref aKs])), (aKd, .inl (cI, 8, .inl fKd))]) hK hN hP hD [0, 1] (by decide) rfl rfl rfl) (n := 1) (by decide +kernel) ⟨Nat.le_of_ble_eq_true rfl, Nat.le_of_ble_eq_true rfl⟩ rfl hl.1 rfl (Nat.le_of_ble_eq_true rfl) dX2_hasRoom_2 ⟨Nat.zero_le _, Nat.zero_le _⟩) hP hD hS hA [0, 1] rfl (c2 := 0) (s2 := 0) rfl rfl (fun H locs hP hS => ?_)
  refine lv_istore_n (lv' := [(3, .int r_2), (0, .ref aK), (1, .int x1), (2, .int x2)]) hx hb dX2_hasRoom_5 rfl hl (by decide) rfl (fun ls hl => ?_)
  refine lv_aload_n hx hb dX2_hasRoom_6 rfl (lv_at hl 1 rfl) ?_
  refine lv_iload_n hx hb dX2_hasRoom_7 rfl (lv_at hl 0 rfl) ?_
  obtain ⟨r_8, q_8, h⟩ := bd1_some h
  refine fr_ro_i (S := Unit) (wc := [(aK, .inr (2, [.int vKn, .ref aKd, .ref aKs]))]) (fr_V (As := [.int r_2]) (rest := []) (C := RX2) ⟨hx, hb, hml, hown, hts⟩ (tX2_has aK aKd aKs vKn r_2 r_8 q_8) gX2_hasRoom_X2_has rfl (fr_preV (As := [.int r_2]) (b := aK) (ci := 2) (q0 := 0) (wc := [(aK, .inr (2, [.int vKn, .ref aKd, .ref aKs]))]) hK hN hP hD [0] (by decide) rfl rfl rfl) (n := 1) (by decide +kernel) ⟨Nat.le_of_ble_eq_true rfl, Nat.le_of_ble_eq_true rfl⟩ rfl hl.1 rfl (Nat.le_of_ble_eq_true rfl) dX2_hasRoom_8 ⟨Nat.zero_le _, Nat.zero_le _⟩) hP hD hS hA [0] rfl (c2 := 0) (s2 := 0) rfl rfl (fun H locs hP hS => ?_)
  refine lv_if_eq (tgt := 34) hx hb dX2_hasRoom_11 (by decide) (fun c3 => ?_) (fun c3 => ?_)
  · have h := (if_pos c3).symm.trans h
    refine lv_aload_n hx hb dX2_hasRoom_34 rfl (lv_at hl 1 rfl) ?_
    refine va_get (D := D) (ci := 2) (v := .int vKn) (C := RX2) (T := TX2) (N := 3) hx hb hts i2 hown hK hP 0 rfl rfl 0 (by decide) (hts (.fieldLink RX2 18 RX2 "count" "I") (List.mem_of_getElem? (i := 2) rfl)) (fun _ h9 => h9) rfl dX2_hasRoom_35 ?_
    refine lv_bipush (v := (8 : Int32)) hx hb dX2_hasRoom_38 (by decide) ?_
    refine lv_icmp_ge (tgt := 47) hx hb dX2_hasRoom_40 (by decide) (fun c4 => ?_) (fun c4 => ?_)
    · have h := (if_pos c4).symm.trans h
      refine lv_iconst (v := (0 : Int32)) hx hb dX2_hasRoom_47 (by decide) ?_
      exact hb48 x2 (0 : Int32) H locs ls hP hD hS (lv_sub hl [1, 3] rfl) h
    · have h := (if_neg c4).symm.trans h
      refine lv_iconst (v := (1 : Int32)) hx hb dX2_hasRoom_43 (by decide) ?_
      refine lv_goto (tgt := 48) hx hb dX2_hasRoom_44 (by decide) ?_
      exact hb48 x2 (1 : Int32) H locs ls hP hD hS (lv_sub hl [1, 3] rfl) h
  · have h := (if_neg c3).symm.trans h
    refine lv_aload_n hx hb dX2_hasRoom_14 rfl (lv_at hl 1 rfl) ?_
    refine va_get (D := D) (ci := 2) (v := .ref aKs) (C := RX2) (T := TX2) (N := 3) hx hb hts i2 hown hK hP 0 rfl rfl 2 (by decide) (hts (.fieldLink RX2 15 RX2 "stocks" "[I") (List.mem_of_getElem? (i := 1) rfl)) (fun _ h9 => h9) rfl dX2_hasRoom_15 ?_
    refine lv_iload_n hx hb dX2_hasRoom_18 rfl (lv_at hl 0 rfl) ?_
    obtain ⟨g5, h⟩ := no_some h
    refine va_iald hx hb hK hP 2 0 rfl rfl g5 dX2_hasRoom_19 ?_
    refine lv_iload_n hx hb dX2_hasRoom_20 rfl (lv_at hl 3 rfl) ?_
    refine lv_iadd hx hb dX2_hasRoom_21 ?_
    refine lv_iconst (v := (4 : Int32)) hx hb dX2_hasRoom_22 (by decide) ?_
    refine lv_icmp_gt (tgt := 30) hx hb dX2_hasRoom_23 (by decide) (fun c6 => ?_) (fun c6 => ?_)
    · have h := (if_pos c6).symm.trans h
      refine lv_iconst (v := (0 : Int32)) hx hb dX2_hasRoom_30 (by decide) ?_
      refine lv_goto (tgt := 48) hx hb dX2_hasRoom_31 (by decide) ?_
      exact hb48 x2 (0 : Int32) H locs ls hP hD hS (lv_sub hl [1, 3] rfl) h
    · have h := (if_neg c6).symm.trans h
      refine lv_iconst (v := (1 : Int32)) hx hb dX2_hasRoom_26 (by decide) ?_
      refine lv_goto (tgt := 48) hx hb dX2_hasRoom_27 (by decide) ?_
      exact hb48 x2 (1 : Int32) H locs ls hP hD hS (lv_sub hl [1, 3] rfl) h
def fX2_add_b71  (x2 : Int32) (x4 : Int32) (vKn : Int32) (fKd : Nat → Int32) (fKs : Nat → Int32) : Option (Int32 × Int32 × (Nat → Int32) × (Nat → Int32)) :=
  if x4 < 0 ∨ 8 ≤ x4.toNatClampNeg then none else
  if x4 < 0 ∨ 8 ≤ x4.toNatClampNeg then none else
  if x4 < 0 ∨ 8 ≤ x4.toNatClampNeg then none else
  some ((upd fKs x4.toNatClampNeg ((fKs x4.toNatClampNeg) + x2)) x4.toNatClampNeg, vKn, fKd, upd fKs x4.toNatClampNeg ((fKs x4.toNatClampNeg) + x2))
def fX2_add_b20  (x1 : Int32) (x2 : Int32) (y0 : Int32) (vKn : Int32) (fKd : Nat → Int32) (fKs : Nat → Int32) : Option (Int32 × Int32 × (Nat → Int32) × (Nat → Int32)) :=
  if y0 < 0 then
    some ((0 : Int32), vKn, fKd, fKs)
  else
    if y0 < (8 : Int32) then
      if y0 = vKn then
        if y0 < 0 ∨ 8 ≤ y0.toNatClampNeg then none else
        if y0 < 0 ∨ 8 ≤ y0.toNatClampNeg then none else
        fX2_add_b71  x2 y0 (vKn + (1 : Int32)) (upd fKd y0.toNatClampNeg x1) (upd fKs y0.toNatClampNeg (0 : Int32))
      else
        fX2_add_b71  x2 y0 vKn fKd fKs
    else
      some ((0 : Int32), vKn, fKd, fKs)
def fX2_add (vKn : Int32) (fKd : Nat → Int32) (fKs : Nat → Int32) (x1 : Int32) (x2 : Int32) : Option (Int32 × Int32 × (Nat → Int32) × (Nat → Int32)) :=
  bd1 (fX2_numberOf vKn fKd x1) fun r_2 =>
  if r_2 = (-6 : Int32) then
    fX2_add_b20  x1 x2 vKn vKn fKd fKs
  else
    fX2_add_b20  x1 x2 r_2 vKn fKd fKs
abbrev rX2_add : Room := { frames := 1, cells := 0, slots := 0, locals := 22 }
set_option maxHeartbeats 4000000 in
set_option maxRecDepth 100000 in
theorem tX2_add {l : Launch} {D : va_G} {cI cZ cP : ClassId} (aK aKd aKs : Nat) (vKn : Int32) (fKd : Nat → Int32) (fKs : Nat → Int32) (x1 : Int32) (x2 : Int32) (r : Int32) (oKn : Int32) (oKd : Nat → Int32) (oKs : Nat → Int32) (h : fX2_add vKn fKd fKs x1 x2 = some (r, oKn, oKd, oKs)) : CtI l D cI cZ cP yX2_add wsX2_add rX2_add [.ref aK, .int x1, .int x2] [(aK, .inr (2, [.int vKn, .ref aKd, .ref aKs])), (aKd, .inl (cI, 8, .inl fKd)), (aKs, .inl (cI, 8, .inl fKs))] (fun _ : Unit => [(aK, .inr (2, [.int oKn, .ref aKd, .ref aKs])), (aKd, .inl (cI, 8, .inl oKd)), (aKs, .inl (cI, 8, .inl oKs))]) r := by
  refine CtI.ofW (cc := cX2_add) (maxL := 5) (by decide) rfl (Nat.le_of_ble_eq_true rfl) (lv := [(0, .ref aK), (1, .int x1), (2, .int x2)]) rfl ?_
  intro p e s m args below meth c A Q ls hx hb hml hown hts hK hN hP hD hS hA hl hret0
  have hown : s.vm.findClass RX2 = some m.cls := hown
  have i2 : ∀ w ∈ wsX20, w ∈ wsX2_add := mem_ps [9, 10, 11] rfl
  have hret : ∀ (v : Int32) (zKn : Int32) (zKd : Nat → Int32) (zKs : Nat → Int32) (pc : Nat) (ls : Array Slot) (H : Heap) (locs : List Loc), narrow .int (.int v) = .int v → decode cX2_add pc = .ok (.ireturn, 1) → va_P D vwCl [(aK, .inr (2, [.int zKn, .ref aKd, .ref aKs])), (aKd, .inl (cI, 8, .inl zKd)), (aKs, .inl (cI, 8, .inl zKs))] H → va_D A [(aK, .inr (2, [.int zKn, .ref aKd, .ref aKs])), (aKd, .inl (cI, 8, .inl zKd)), (aKs, .inl (cI, 8, .inl zKs))] → va_S A s.heap H locs → some (v, zKn, zKd, zKs) = some (r, oKn, oKd, oKs) → W p l e rX2_add s m args below meth c H locs 0 0 Q (F0 m pc ls [.int v]) := by
    intro v zKn zKd zKs pc ls H locs hn hd hP hD hS h
    cases h
    exact hret0 pc ls H locs () hn hd hP hD hS
  clear hret0
  have hb71 : ∀ (x2 : Int32) (x4 : Int32) (vKn : Int32) (fKd : Nat → Int32) (fKs : Nat → Int32) (H : Heap) (locs : List Loc) (ls : Array Slot), va_P D vwCl [(aK, .inr (2, [.int vKn, .ref aKd, .ref aKs])), (aKd, .inl (cI, 8, .inl fKd)), (aKs, .inl (cI, 8, .inl fKs))] H → va_D A [(aK, .inr (2, [.int vKn, .ref aKd, .ref aKs])), (aKd, .inl (cI, 8, .inl fKd)), (aKs, .inl (cI, 8, .inl fKs))] → va_S A s.heap H locs → lv_has ls 5 [(0, .ref aK), (2, .int x2), (4, .int x4)] → fX2_add_b71  x2 x4 vKn fKd fKs = some (r, oKn, oKd, oKs) → W p l e rX2_add s m args below meth c H locs 0 0 Q (F0 m 71 ls []) := by
    intro x2 x4 vKn fKd fKs H locs ls hP hD hS hl h
    unfold fX2_add_b71 at h
    refine lv_aload_n hx hb dX2_add_71 rfl (lv_at hl 0 rfl) ?_
    refine va_get (D := D) (ci := 2) (v := .ref aKs) (C := RX2) (T := TX2) (N := 3) hx hb hts i2 hown hK hP 0 rfl rfl 2 (by decide) (hts (.fieldLink RX2 15 RX2 "stocks" "[I") (List.mem_of_getElem? (i := 3) rfl)) (fun _ h9 => h9) rfl dX2_add_72 ?_
    refine lv_iload hx hb dX2_add_75 (lv_at hl 2 rfl) ?_
    refine lv_dup2_11 hx hb dX2_add_77 rfl rfl ?_
    obtain ⟨g1, h⟩ := no_some h
    refine va_iald hx hb hK hP 2 0 rfl rfl g1 dX2_add_78 ?_
    refine lv_iload_n hx hb dX2_add_79 rfl (lv_at hl 1 rfl) ?_
    refine lv_iadd hx hb dX2_add_80 ?_
    obtain ⟨g2, h⟩ := no_some h
    refine va_iast hx hb hK hP hD hS 2 0 rfl rfl g2 dX2_add_81 (fun H locs hP hD hS => ?_)
    have hP : va_P D vwCl [(aK, .inr (2, [.int vKn, .ref aKd, .ref aKs])), (aKd, .inl (cI, 8, .inl fKd)), (aKs, .inl (cI, 8, .inl (upd fKs x4.toNatClampNeg ((fKs x4.toNatClampNeg) + x2))))] H := hP
    have hD : va_D A [(aK, .inr (2, [.int vKn, .ref aKd, .ref aKs])), (aKd, .inl (cI, 8, .inl fKd)), (aKs, .inl (cI, 8, .inl (upd fKs x4.toNatClampNeg ((fKs x4.toNatClampNeg) + x2))))] := hD
    refine lv_aload_n hx hb dX2_add_82 rfl (lv_at hl 0 rfl) ?_
    refine va_get (D := D) (ci := 2) (v := .ref aKs) (C := RX2) (T := TX2) (N := 3) hx hb hts i2 hown hK hP 0 rfl rfl 2 (by decide) (hts (.fieldLink RX2 15 RX2 "stocks" "[I") (List.mem_of_getElem? (i := 3) rfl)) (fun _ h9 => h9) rfl dX2_add_83 ?_
    refine lv_iload hx hb dX2_add_86 (lv_at hl 2 rfl) ?_
    obtain ⟨g3, h⟩ := no_some h
    refine va_iald hx hb hK hP 2 0 rfl rfl g3 dX2_add_88 ?_
    exact hret ((upd fKs x4.toNatClampNeg ((fKs x4.toNatClampNeg) + x2)) x4.toNatClampNeg) vKn fKd (upd fKs x4.toNatClampNeg ((fKs x4.toNatClampNeg) + x2)) 89 ls H locs rfl dX2_add_89 hP hD hS h
  have hb20 : ∀ (x1 : Int32) (x2 : Int32) (y0 : Int32) (vKn : Int32) (fKd : Nat → Int32) (fKs : Nat → Int32) (H : Heap) (locs : List Loc) (ls : Array Slot), va_P D vwCl [(aK, .inr (2, [.int vKn, .ref aKd, .ref aKs])), (aKd, .inl (cI, 8, .inl fKd)), (aKs, .inl (cI, 8, .inl fKs))] H → va_D A [(aK, .inr (2, [.int vKn, .ref aKd, .ref aKs])), (aKd, .inl (cI, 8, .inl fKd)), (aKs, .inl (cI, 8, .inl fKs))] → va_S A s.heap H locs → lv_has ls 5 [(0, .ref aK), (1, .int x1), (2, .int x2)] → fX2_add_b20  x1 x2 y0 vKn fKd fKs = some (r, oKn, oKd, oKs) → W p l e rX2_add s m args below meth c H locs 0 0 Q (F0 m 20 ls [.int y0]) := by
    intro x1 x2 y0 vKn fKd fKs H locs ls hP hD hS hl h
    unfold fX2_add_b20 at h
    refine lv_istore (lv' := [(4, .int y0), (0, .ref aK), (1, .int x1), (2, .int x2)]) hx hb dX2_add_20 hl (by decide) rfl (fun ls hl => ?_)
    refine lv_iload hx hb dX2_add_22 (lv_at hl 0 rfl) ?_
    refine lv_if_lt (tgt := 34) hx hb dX2_add_24 (by decide) (fun c4 => ?_) (fun c4 => ?_)
    · have h := (if_pos c4).symm.trans h
      refine lv_iconst (v := (0 : Int32)) hx hb dX2_add_34 (by decide) ?_
      exact hret (0 : Int32) vKn fKd fKs 35 ls H locs rfl dX2_add_35 hP hD hS h
    · have h := (if_neg c4).symm.trans h
      refine lv_iload hx hb dX2_add_27 (lv_at hl 0 rfl) ?_
      refine lv_bipush (v := (8 : Int32)) hx hb dX2_add_29 (by decide) ?_
      refine lv_icmp_lt (tgt := 36) hx hb dX2_add_31 (by decide) (fun c5 => ?_) (fun c5 => ?_)
      · have h := (if_pos c5).symm.trans h
        refine lv_iload hx hb dX2_add_36 (lv_at hl 0 rfl) ?_
        refine lv_aload_n hx hb dX2_add_38 rfl (lv_at hl 1 rfl) ?_
        refine va_get (D := D) (ci := 2) (v := .int vKn) (C := RX2) (T := TX2) (N := 3) hx hb hts i2 hown hK hP 0 rfl rfl 0 (by decide) (hts (.fieldLink RX2 18 RX2 "count" "I") (List.mem_of_getElem? (i := 1) rfl)) (fun _ h9 => h9) rfl dX2_add_39 ?_
        refine lv_icmp_ne (tgt := 71) hx hb dX2_add_42 (by decide) (fun c6 => ?_) (fun c6 => ?_)
        · have h := (if_neg c6).symm.trans h
          exact hb71 x2 y0 vKn fKd fKs H locs ls hP hD hS (lv_sub hl [1, 3, 0] rfl) h
        · have h := (if_pos c6).symm.trans h
          refine lv_aload_n hx hb dX2_add_45 rfl (lv_at hl 1 rfl) ?_
          refine va_get (D := D) (ci := 2) (v := .ref aKd) (C := RX2) (T := TX2) (N := 3) hx hb hts i2 hown hK hP 0 rfl rfl 1 (by decide) (hts (.fieldLink RX2 9 RX2 "dots" "[I") (List.mem_of_getElem? (i := 2) rfl)) (fun _ h9 => h9) rfl dX2_add_46 ?_
          refine lv_iload hx hb dX2_add_49 (lv_at hl 0 rfl) ?_
          refine lv_iload_n hx hb dX2_add_51 rfl (lv_at hl 2 rfl) ?_
          obtain ⟨g7, h⟩ := no_some h
          refine va_iast hx hb hK hP hD hS 1 0 rfl rfl g7 dX2_add_52 (fun H locs hP hD hS => ?_)
          have hP : va_P D vwCl [(aK, .inr (2, [.int vKn, .ref aKd, .ref aKs])), (aKd, .inl (cI, 8, .inl (upd fKd y0.toNatClampNeg x1))), (aKs, .inl (cI, 8, .inl fKs))] H := hP
          have hD : va_D A [(aK, .inr (2, [.int vKn, .ref aKd, .ref aKs])), (aKd, .inl (cI, 8, .inl (upd fKd y0.toNatClampNeg x1))), (aKs, .inl (cI, 8, .inl fKs))] := hD
          refine lv_aload_n hx hb dX2_add_53 rfl (lv_at hl 1 rfl) ?_
          refine va_get (D := D) (ci := 2) (v := .ref aKs) (C := RX2) (T := TX2) (N := 3) hx hb hts i2 hown hK hP 0 rfl rfl 2 (by decide) (hts (.fieldLink RX2 15 RX2 "stocks" "[I") (List.mem_of_getElem? (i := 3) rfl)) (fun _ h9 => h9) rfl dX2_add_54 ?_
          refine lv_iload hx hb dX2_add_57 (lv_at hl 0 rfl) ?_
          refine lv_iconst (v := (0 : Int32)) hx hb dX2_add_59 (by decide) ?_
          obtain ⟨g8, h⟩ := no_some h
          refine va_iast hx hb hK hP hD hS 2 0 rfl rfl g8 dX2_add_60 (fun H locs hP hD hS => ?_)
          have hP : va_P D vwCl [(aK, .inr (2, [.int vKn, .ref aKd, .ref aKs])), (aKd, .inl (cI, 8, .inl (upd fKd y0.toNatClampNeg x1))), (aKs, .inl (cI, 8, .inl (upd fKs y0.toNatClampNeg (0 : Int32))))] H := hP
          have hD : va_D A [(aK, .inr (2, [.int vKn, .ref aKd, .ref aKs])), (aKd, .inl (cI, 8, .inl (upd fKd y0.toNatClampNeg x1))), (aKs, .inl (cI, 8, .inl (upd fKs y0.toNatClampNeg (0 : Int32))))] := hD
          refine lv_aload_n hx hb dX2_add_61 rfl (lv_at hl 1 rfl) ?_
          refine lv_dup hx hb dX2_add_62 rfl ?_
          refine va_get (D := D) (ci := 2) (v := .int vKn) (C := RX2) (T := TX2) (N := 3) hx hb hts i2 hown hK hP 0 rfl rfl 0 (by decide) (hts (.fieldLink RX2 18 RX2 "count" "I") (List.mem_of_getElem? (i := 1) rfl)) (fun _ h9 => h9) rfl dX2_add_63 ?_
          refine lv_iconst (v := (1 : Int32)) hx hb dX2_add_66 (by decide) ?_
          refine lv_iadd hx hb dX2_add_67 ?_
          refine va_put (D := D) (ci := 2) (v := .int (vKn + (1 : Int32))) (ty := .int) (C := RX2) (T := TX2) (N := 3) hx hb hts i2 tyX2 tyX2_ok nmX2 hown hK hP hD hS 0 rfl rfl 0 (by decide) (hts (.fieldLink RX2 18 RX2 "count" "I") (List.mem_of_getElem? (i := 1) rfl)) (fun _ h9 => h9) rfl (by decide +kernel) rfl rfl (Nat.le_of_ble_eq_true rfl) dX2_add_68 (fun H locs hP hD hS => ?_)
          have hP : va_P D vwCl [(aK, .inr (2, [.int (vKn + (1 : Int32)), .ref aKd, .ref aKs])), (aKd, .inl (cI, 8, .inl (upd fKd y0.toNatClampNeg x1))), (aKs, .inl (cI, 8, .inl (upd fKs y0.toNatClampNeg (0 : Int32))))] H := hP
          have hD : va_D A [(aK, .inr (2, [.int (vKn + (1 : Int32)), .ref aKd, .ref aKs])), (aKd, .inl (cI, 8, .inl (upd fKd y0.toNatClampNeg x1))), (aKs, .inl (cI, 8, .inl (upd fKs y0.toNatClampNeg (0 : Int32))))] := hD
          exact hb71 x2 y0 (vKn + (1 : Int32)) (upd fKd y0.toNatClampNeg x1) (upd fKs y0.toNatClampNeg (0 : Int32)) H locs ls hP hD hS (lv_sub hl [1, 3, 0] rfl) h
      · have h := (if_neg c5).symm.trans h
        refine lv_iconst (v := (0 : Int32)) hx hb dX2_add_34 (by decide) ?_
        exact hret (0 : Int32) vKn fKd fKs 35 ls H locs rfl dX2_add_35 hP hD hS h
  unfold fX2_add at h
  obtain ⟨H, hH⟩ : ∃ H, H = s.heap := ⟨_, rfl⟩
  have hP : va_P D vwCl [(aK, .inr (2, [.int vKn, .ref aKd, .ref aKs])), (aKd, .inl (cI, 8, .inl fKd)), (aKs, .inl (cI, 8, .inl fKs))] H := by rw [hH]; exact hP
  obtain ⟨locs, hlocs⟩ : ∃ x : List Loc, x = [] := ⟨_, rfl⟩
  have hS : va_S A s.heap H locs := by rw [hH, hlocs]; exact hS
  suffices hgo : W p l e rX2_add s m args below meth c H locs 0 0 Q (F0 m 0 ls []) by rw [hH, hlocs] at hgo; exact hgo
  refine lv_aload_n hx hb dX2_add_0 rfl (lv_at hl 0 rfl) ?_
  refine lv_iload_n hx hb dX2_add_1 rfl (lv_at hl 1 rfl) ?_
  obtain ⟨r_2, q_2, h⟩ := bd1_some h
  refine fr_ro_i (S := Unit) (wc := [(aK, .inr (2, [.int vKn, .ref aKd, .ref aKs])), (aKd, .inl (cI, 8, .inl fKd))]) (fr_V (As := [.int x1]) (rest := []) (C := RX2) ⟨hx, hb, hml, hown, hts⟩ (tX2_numberOf aK aKd aKs vKn fKd x1 r_2 q_2) gX2_add_X2_numberOf rfl (fr_preV (As := [.int x1]) (b := aK) (ci := 2) (q0 := 0) (wc := [(aK, .inr (2, [.int vKn, .ref aKd, .ref aKs])), (aKd, .inl (cI, 8, .inl fKd))]) hK hN hP hD [0, 1] (by decide) rfl rfl rfl) (n := 1) (by decide +kernel) ⟨Nat.le_of_ble_eq_true rfl, Nat.le_of_ble_eq_true rfl⟩ rfl hl.1 rfl (Nat.le_of_ble_eq_true rfl) dX2_add_2 ⟨Nat.zero_le _, Nat.zero_le _⟩) hP hD hS hA [0, 1] rfl (c2 := 0) (s2 := 0) rfl rfl (fun H locs hP hS => ?_)
  refine lv_istore_n (lv' := [(3, .int r_2), (0, .ref aK), (1, .int x1), (2, .int x2)]) hx hb dX2_add_5 rfl hl (by decide) rfl (fun ls hl => ?_)
  refine lv_iload_n hx hb dX2_add_6 rfl (lv_at hl 0 rfl) ?_
  refine lv_bipush (v := (-6 : Int32)) hx hb dX2_add_7 (by decide) ?_
  refine lv_icmp_ne (tgt := 19) hx hb dX2_add_9 (by decide) (fun c9 => ?_) (fun c9 => ?_)
  · have h := (if_neg c9).symm.trans h
    refine lv_iload_n hx hb dX2_add_19 rfl (lv_at hl 0 rfl) ?_
    exact hb20 x1 x2 r_2 vKn fKd fKs H locs ls hP hD hS (lv_sub hl [1, 2, 3] rfl) h
  · have h := (if_pos c9).symm.trans h
    refine lv_aload_n hx hb dX2_add_12 rfl (lv_at hl 1 rfl) ?_
    refine va_get (D := D) (ci := 2) (v := .int vKn) (C := RX2) (T := TX2) (N := 3) hx hb hts i2 hown hK hP 0 rfl rfl 0 (by decide) (hts (.fieldLink RX2 18 RX2 "count" "I") (List.mem_of_getElem? (i := 1) rfl)) (fun _ h9 => h9) rfl dX2_add_13 ?_
    refine lv_goto (tgt := 20) hx hb dX2_add_16 (by decide) ?_
    exact hb20 x1 x2 vKn vKn fKd fKs H locs ls hP hD hS (lv_sub hl [1, 2, 3] rfl) h
def fX2_takeOut_b21  : Nat → Int32 → Int32 → (Nat → Int32) → (Nat → Int32) → Option (Int32 × (Nat → Int32) × (Nat → Int32))
  | 0, _, _, _, _ => none
  | n + 1, x2, vKn, fKd, fKs =>
    if vKn ≤ x2 then
      some (vKn, fKd, fKs)
    else
      if (8 : Int32) ≤ (x2 + (1 : Int32)) then
        some (vKn, fKd, fKs)
      else
        if x2 + (1 : Int32) < 0 ∨ 8 ≤ (x2 + (1 : Int32)).toNatClampNeg then none else
        if x2 < 0 ∨ 8 ≤ x2.toNatClampNeg then none else
        if x2 + (1 : Int32) < 0 ∨ 8 ≤ (x2 + (1 : Int32)).toNatClampNeg then none else
        if x2 < 0 ∨ 8 ≤ x2.toNatClampNeg then none else
        fX2_takeOut_b21  n (x2 + 1) vKn (upd fKd x2.toNatClampNeg (fKd ((x2 + (1 : Int32)).toNatClampNeg))) (upd fKs x2.toNatClampNeg (fKs ((x2 + (1 : Int32)).toNatClampNeg)))
def fX2_takeOut (vKn : Int32) (fKd : Nat → Int32) (fKs : Nat → Int32) (x1 : Int32) : Option (Int32 × (Nat → Int32) × (Nat → Int32)) :=
  bd1 (fX2_has vKn x1) fun r_2 =>
  if r_2 = 0 then
    some (vKn, fKd, fKs)
  else
    fX2_takeOut_b21  FU x1 (vKn - (1 : Int32)) fKd fKs
abbrev rX2_takeOut : Room := { frames := 1, cells := 0, slots := 0, locals := 21 }
set_option maxHeartbeats 4000000 in
set_option maxRecDepth 100000 in
theorem tX2_takeOut {l : Launch} {D : va_G} {cI cZ cP : ClassId} (aK aKd aKs : Nat) (vKn : Int32) (fKd : Nat → Int32) (fKs : Nat → Int32) (x1 : Int32) (oKn : Int32) (oKd : Nat → Int32) (oKs : Nat → Int32) (h : fX2_takeOut vKn fKd fKs x1 = some (oKn, oKd, oKs)) : CtV l D cI cZ cP yX2_takeOut wsX2_takeOut rX2_takeOut [.ref aK, .int x1] [(aK, .inr (2, [.int vKn, .ref aKd, .ref aKs])), (aKd, .inl (cI, 8, .inl fKd)), (aKs, .inl (cI, 8, .inl fKs))] (fun _ : Unit => [(aK, .inr (2, [.int oKn, .ref aKd, .ref aKs])), (aKd, .inl (cI, 8, .inl oKd)), (aKs, .inl (cI, 8, .inl oKs))]) := by
  refine CtV.ofW (cc := cX2_takeOut) (maxL := 3) (by decide) rfl (Nat.le_of_ble_eq_true rfl) (lv := [(0, .ref aK), (1, .int x1)]) rfl ?_
  intro p e s m args below meth c A Q ls hx hb hml hown hts hK hN hP hD hS hA hl hin hret0
  have hown : s.vm.findClass RX2 = some m.cls := hown
  have i2 : ∀ w ∈ wsX20, w ∈ wsX2_takeOut := mem_ps [9, 10, 11] rfl
  have hret : ∀ (zKn : Int32) (zKd : Nat → Int32) (zKs : Nat → Int32) (pc : Nat) (ls : Array Slot) (H : Heap) (locs : List Loc), decode cX2_takeOut pc = .ok (.return_, 1) → va_P D vwCl [(aK, .inr (2, [.int zKn, .ref aKd, .ref aKs])), (aKd, .inl (cI, 8, .inl zKd)), (aKs, .inl (cI, 8, .inl zKs))] H → va_D A [(aK, .inr (2, [.int zKn, .ref aKd, .ref aKs])), (aKd, .inl (cI, 8, .inl zKd)), (aKs, .inl (cI, 8, .inl zKs))] → va_S A s.heap H locs → some (zKn, zKd, zKs) = some (oKn, oKd, oKs) → W p l e rX2_takeOut s m args below meth c H locs 0 0 Q (F0 m pc ls []) := by
    intro zKn zKd zKs pc ls H locs hd hP hD hS h
    cases h
    exact hret0 pc ls H locs () hd hP hD hS
  clear hret0
  have hb21 : ∀ (n : Nat) (x2 : Int32) (vKn : Int32) (fKd : Nat → Int32) (fKs : Nat → Int32) (H : Heap) (locs : List Loc) (ls : Array Slot), va_P D vwCl [(aK, .inr (2, [.int vKn, .ref aKd, .ref aKs])), (aKd, .inl (cI, 8, .inl fKd)), (aKs, .inl (cI, 8, .inl fKs))] H → va_D A [(aK, .inr (2, [.int vKn, .ref aKd, .ref aKs])), (aKd, .inl (cI, 8, .inl fKd)), (aKs, .inl (cI, 8, .inl fKs))] → va_S A s.heap H locs → lv_has ls 3 [(0, .ref aK), (2, .int x2)] → fX2_takeOut_b21  n x2 vKn fKd fKs = some (oKn, oKd, oKs) → W p l e rX2_takeOut s m args below meth c H locs 0 0 Q (F0 m 21 ls []) := by
    intro n
    induction n with
    | zero => intro x2 vKn fKd fKs H locs ls hP hD hS hl h; exact absurd h (by rw [fX2_takeOut_b21]; exact fun z => by cases z)
    | succ n ih =>
      intro x2 vKn fKd fKs H locs ls hP hD hS hl h
      rw [fX2_takeOut_b21] at h
      refine lv_iload_n hx hb dX2_takeOut_21 rfl (lv_at hl 1 rfl) ?_
      refine lv_aload_n hx hb dX2_takeOut_22 rfl (lv_at hl 0 rfl) ?_
      refine va_get (D := D) (ci := 2) (v := .int vKn) (C := RX2) (T := TX2) (N := 3) hx hb hts i2 hown hK hP 0 rfl rfl 0 (by decide) (hts (.fieldLink RX2 18 RX2 "count" "I") (List.mem_of_getElem? (i := 1) rfl)) (fun _ h9 => h9) rfl dX2_takeOut_23 ?_
      refine lv_icmp_ge (tgt := 71) hx hb dX2_takeOut_26 (by decide) (fun c1 => ?_) (fun c1 => ?_)
      · have h := (if_pos c1).symm.trans h
        exact hret vKn fKd fKs 71 ls H locs dX2_takeOut_71 hP hD hS h
      · have h := (if_neg c1).symm.trans h
        refine lv_iload_n hx hb dX2_takeOut_29 rfl (lv_at hl 1 rfl) ?_
        refine lv_iconst (v := (1 : Int32)) hx hb dX2_takeOut_30 (by decide) ?_
        refine lv_iadd hx hb dX2_takeOut_31 ?_
        refine lv_bipush (v := (8 : Int32)) hx hb dX2_takeOut_32 (by decide) ?_
        refine lv_icmp_ge (tgt := 71) hx hb dX2_takeOut_34 (by decide) (fun c2 => ?_) (fun c2 => ?_)
        · have h := (if_pos c2).symm.trans h
          exact hret vKn fKd fKs 71 ls H locs dX2_takeOut_71 hP hD hS h
        · have h := (if_neg c2).symm.trans h
          refine lv_aload_n hx hb dX2_takeOut_37 rfl (lv_at hl 0 rfl) ?_
          refine va_get (D := D) (ci := 2) (v := .ref aKd) (C := RX2) (T := TX2) (N := 3) hx hb hts i2 hown hK hP 0 rfl rfl 1 (by decide) (hts (.fieldLink RX2 9 RX2 "dots" "[I") (List.mem_of_getElem? (i := 2) rfl)) (fun _ h9 => h9) rfl dX2_takeOut_38 ?_
          refine lv_iload_n hx hb dX2_takeOut_41 rfl (lv_at hl 1 rfl) ?_
          refine lv_aload_n hx hb dX2_takeOut_42 rfl (lv_at hl 0 rfl) ?_
          refine va_get (D := D) (ci := 2) (v := .ref aKd) (C := RX2) (T := TX2) (N := 3) hx hb hts i2 hown hK hP 0 rfl rfl 1 (by decide) (hts (.fieldLink RX2 9 RX2 "dots" "[I") (List.mem_of_getElem? (i := 2) rfl)) (fun _ h9 => h9) rfl dX2_takeOut_43 ?_
          refine lv_iload_n hx hb dX2_takeOut_46 rfl (lv_at hl 1 rfl) ?_
          refine lv_iconst (v := (1 : Int32)) hx hb dX2_takeOut_47 (by decide) ?_
          refine lv_iadd hx hb dX2_takeOut_48 ?_
          obtain ⟨g3, h⟩ := no_some h
          refine va_iald hx hb hK hP 1 0 rfl rfl g3 dX2_takeOut_49 ?_
          obtain ⟨g4, h⟩ := no_some h
          refine va_iast hx hb hK hP hD hS 1 0 rfl rfl g4 dX2_takeOut_50 (fun H locs hP hD hS => ?_)
          have hP : va_P D vwCl [(aK, .inr (2, [.int vKn, .ref aKd, .ref aKs])), (aKd, .inl (cI, 8, .inl (upd fKd x2.toNatClampNeg (fKd ((x2 + (1 : Int32)).toNatClampNeg))))), (aKs, .inl (cI, 8, .inl fKs))] H := hP
          have hD : va_D A [(aK, .inr (2, [.int vKn, .ref aKd, .ref aKs])), (aKd, .inl (cI, 8, .inl (upd fKd x2.toNatClampNeg (fKd ((x2 + (1 : Int32)).toNatClampNeg))))), (aKs, .inl (cI, 8, .inl fKs))] := hD
          refine lv_aload_n hx hb dX2_takeOut_51 rfl (lv_at hl 0 rfl) ?_
          refine va_get (D := D) (ci := 2) (v := .ref aKs) (C := RX2) (T := TX2) (N := 3) hx hb hts i2 hown hK hP 0 rfl rfl 2 (by decide) (hts (.fieldLink RX2 15 RX2 "stocks" "[I") (List.mem_of_getElem? (i := 3) rfl)) (fun _ h9 => h9) rfl dX2_takeOut_52 ?_
          refine lv_iload_n hx hb dX2_takeOut_55 rfl (lv_at hl 1 rfl) ?_
          refine lv_aload_n hx hb dX2_takeOut_56 rfl (lv_at hl 0 rfl) ?_
          refine va_get (D := D) (ci := 2) (v := .ref aKs) (C := RX2) (T := TX2) (N := 3) hx hb hts i2 hown hK hP 0 rfl rfl 2 (by decide) (hts (.fieldLink RX2 15 RX2 "stocks" "[I") (List.mem_of_getElem? (i := 3) rfl)) (fun _ h9 => h9) rfl dX2_takeOut_57 ?_
          refine lv_iload_n hx hb dX2_takeOut_60 rfl (lv_at hl 1 rfl) ?_
          refine lv_iconst (v := (1 : Int32)) hx hb dX2_takeOut_61 (by decide) ?_
          refine lv_iadd hx hb dX2_takeOut_62 ?_
          obtain ⟨g5, h⟩ := no_some h
          refine va_iald hx hb hK hP 2 0 rfl rfl g5 dX2_takeOut_63 ?_
          obtain ⟨g6, h⟩ := no_some h
          refine va_iast hx hb hK hP hD hS 2 0 rfl rfl g6 dX2_takeOut_64 (fun H locs hP hD hS => ?_)
          have hP : va_P D vwCl [(aK, .inr (2, [.int vKn, .ref aKd, .ref aKs])), (aKd, .inl (cI, 8, .inl (upd fKd x2.toNatClampNeg (fKd ((x2 + (1 : Int32)).toNatClampNeg))))), (aKs, .inl (cI, 8, .inl (upd fKs x2.toNatClampNeg (fKs ((x2 + (1 : Int32)).toNatClampNeg)))))] H := hP
          have hD : va_D A [(aK, .inr (2, [.int vKn, .ref aKd, .ref aKs])), (aKd, .inl (cI, 8, .inl (upd fKd x2.toNatClampNeg (fKd ((x2 + (1 : Int32)).toNatClampNeg))))), (aKs, .inl (cI, 8, .inl (upd fKs x2.toNatClampNeg (fKs ((x2 + (1 : Int32)).toNatClampNeg)))))] := hD
          refine lv_iinc (v := x2 + 1) (lv' := [(2, .int (x2 + 1)), (0, .ref aK)]) hx hb dX2_takeOut_65 hl (k := 1) rfl rfl (by decide) rfl (fun ls hl => ?_)
          refine lv_goto (tgt := 21) hx hb dX2_takeOut_68 (by decide) ?_
          exact ih (x2 + 1) vKn (upd fKd x2.toNatClampNeg (fKd ((x2 + (1 : Int32)).toNatClampNeg))) (upd fKs x2.toNatClampNeg (fKs ((x2 + (1 : Int32)).toNatClampNeg))) H locs ls hP hD hS (lv_sub hl [1, 0] rfl) h
  unfold fX2_takeOut at h
  obtain ⟨H, hH⟩ : ∃ H, H = s.heap := ⟨_, rfl⟩
  have hP : va_P D vwCl [(aK, .inr (2, [.int vKn, .ref aKd, .ref aKs])), (aKd, .inl (cI, 8, .inl fKd)), (aKs, .inl (cI, 8, .inl fKs))] H := by rw [hH]; exact hP
  obtain ⟨locs, hlocs⟩ : ∃ x : List Loc, x = [] := ⟨_, rfl⟩
  have hS : va_S A s.heap H locs := by rw [hH, hlocs]; exact hS
  suffices hgo : W p l e rX2_takeOut s m args below meth c H locs 0 0 Q (F0 m 0 ls []) by rw [hH, hlocs] at hgo; exact hgo
  refine lv_aload_n hx hb dX2_takeOut_0 rfl (lv_at hl 0 rfl) ?_
  refine lv_iload_n hx hb dX2_takeOut_1 rfl (lv_at hl 1 rfl) ?_
  obtain ⟨r_2, q_2, h⟩ := bd1_some h
  refine fr_ro_i (S := Unit) (wc := [(aK, .inr (2, [.int vKn, .ref aKd, .ref aKs]))]) (fr_V (As := [.int x1]) (rest := []) (C := RX2) ⟨hx, hb, hml, hown, hts⟩ (tX2_has aK aKd aKs vKn x1 r_2 q_2) gX2_takeOut_X2_has rfl (fr_preV (As := [.int x1]) (b := aK) (ci := 2) (q0 := 0) (wc := [(aK, .inr (2, [.int vKn, .ref aKd, .ref aKs]))]) hK hN hP hD [0] (by decide) rfl rfl rfl) (n := 1) (by decide +kernel) ⟨Nat.le_of_ble_eq_true rfl, Nat.le_of_ble_eq_true rfl⟩ rfl hl.1 rfl (Nat.le_of_ble_eq_true rfl) dX2_takeOut_2 ⟨Nat.zero_le _, Nat.zero_le _⟩) hP hD hS hA [0] rfl (c2 := 0) (s2 := 0) rfl rfl (fun H locs hP hS => ?_)
  refine lv_if_ne (tgt := 9) hx hb dX2_takeOut_5 (by decide) (fun c7 => ?_) (fun c7 => ?_)
  · have h := (if_neg c7).symm.trans h
    refine lv_aload_n hx hb dX2_takeOut_9 rfl (lv_at hl 0 rfl) ?_
    refine lv_dup hx hb dX2_takeOut_10 rfl ?_
    refine va_get (D := D) (ci := 2) (v := .int vKn) (C := RX2) (T := TX2) (N := 3) hx hb hts i2 hown hK hP 0 rfl rfl 0 (by decide) (hts (.fieldLink RX2 18 RX2 "count" "I") (List.mem_of_getElem? (i := 1) rfl)) (fun _ h9 => h9) rfl dX2_takeOut_11 ?_
    refine lv_iconst (v := (1 : Int32)) hx hb dX2_takeOut_14 (by decide) ?_
    refine lv_isub hx hb dX2_takeOut_15 ?_
    refine va_put (D := D) (ci := 2) (v := .int (vKn - (1 : Int32))) (ty := .int) (C := RX2) (T := TX2) (N := 3) hx hb hts i2 tyX2 tyX2_ok nmX2 hown hK hP hD hS 0 rfl rfl 0 (by decide) (hts (.fieldLink RX2 18 RX2 "count" "I") (List.mem_of_getElem? (i := 1) rfl)) (fun _ h9 => h9) rfl (by decide +kernel) rfl rfl (Nat.le_of_ble_eq_true rfl) dX2_takeOut_16 (fun H locs hP hD hS => ?_)
    have hP : va_P D vwCl [(aK, .inr (2, [.int (vKn - (1 : Int32)), .ref aKd, .ref aKs])), (aKd, .inl (cI, 8, .inl fKd)), (aKs, .inl (cI, 8, .inl fKs))] H := hP
    have hD : va_D A [(aK, .inr (2, [.int (vKn - (1 : Int32)), .ref aKd, .ref aKs])), (aKd, .inl (cI, 8, .inl fKd)), (aKs, .inl (cI, 8, .inl fKs))] := hD
    refine lv_iload_n hx hb dX2_takeOut_19 rfl (lv_at hl 1 rfl) ?_
    refine lv_istore_n (lv' := [(2, .int x1), (0, .ref aK), (1, .int x1)]) hx hb dX2_takeOut_20 rfl hl (by decide) rfl (fun ls hl => ?_)
    exact hb21 FU x1 (vKn - (1 : Int32)) fKd fKs H locs ls hP hD hS (lv_sub hl [1, 0] rfl) h
  · have h := (if_pos c7).symm.trans h
    exact hret vKn fKd fKs 8 ls H locs dX2_takeOut_8 hP hD hS h
def fX2_copyFrom (vKn : Int32) (fKd : Nat → Int32) (fKs : Nat → Int32) (vKn2 : Int32) (fKd2 : Nat → Int32) (fKs2 : Nat → Int32) : Option (Int32 × (Nat → Int32) × (Nat → Int32)) :=
  some (vKn2, va_cpy fKd2 fKd 0 0 8, va_cpy fKs2 fKs 0 0 8)
abbrev rX2_copyFrom : Room := { frames := 1, cells := 0, slots := 0, locals := 60 }
set_option maxHeartbeats 4000000 in
set_option maxRecDepth 100000 in
theorem tX2_copyFrom {l : Launch} {D : va_G} {cI cZ cP : ClassId} (aK aKd aKs aK2 aKd2 aKs2 : Nat) (vKn : Int32) (fKd : Nat → Int32) (fKs : Nat → Int32) (vKn2 : Int32) (fKd2 : Nat → Int32) (fKs2 : Nat → Int32) (oKn : Int32) (oKd : Nat → Int32) (oKs : Nat → Int32) (h : fX2_copyFrom vKn fKd fKs vKn2 fKd2 fKs2 = some (oKn, oKd, oKs)) : CtV l D cI cZ cP yX2_copyFrom wsX2_copyFrom rX2_copyFrom [.ref aK, .ref aK2] [(aK, .inr (2, [.int vKn, .ref aKd, .ref aKs])), (aKd, .inl (cI, 8, .inl fKd)), (aKs, .inl (cI, 8, .inl fKs)), (aK2, .inr (2, [.int vKn2, .ref aKd2, .ref aKs2])), (aKd2, .inl (cI, 8, .inl fKd2)), (aKs2, .inl (cI, 8, .inl fKs2))] (fun _ : Unit => [(aK, .inr (2, [.int oKn, .ref aKd, .ref aKs])), (aKd, .inl (cI, 8, .inl oKd)), (aKs, .inl (cI, 8, .inl oKs)), (aK2, .inr (2, [.int vKn2, .ref aKd2, .ref aKs2])), (aKd2, .inl (cI, 8, .inl fKd2)), (aKs2, .inl (cI, 8, .inl fKs2))]) := by
  refine CtV.ofW (cc := cX2_copyFrom) (maxL := 2) (by decide) rfl (Nat.le_of_ble_eq_true rfl) (lv := [(0, .ref aK), (1, .ref aK2)]) rfl ?_
  intro p e s m args below meth c A Q ls hx hb hml hown hts hK hN hP hD hS hA hl hin hret0
  have hown : s.vm.findClass RX2 = some m.cls := hown
  have i2 : ∀ w ∈ wsX20, w ∈ wsX2_copyFrom := mem_ps [8, 9, 10] rfl
  have hret : ∀ (zKn : Int32) (zKd : Nat → Int32) (zKs : Nat → Int32) (pc : Nat) (ls : Array Slot) (H : Heap) (locs : List Loc), decode cX2_copyFrom pc = .ok (.return_, 1) → va_P D vwCl [(aK, .inr (2, [.int zKn, .ref aKd, .ref aKs])), (aKd, .inl (cI, 8, .inl zKd)), (aKs, .inl (cI, 8, .inl zKs)), (aK2, .inr (2, [.int vKn2, .ref aKd2, .ref aKs2])), (aKd2, .inl (cI, 8, .inl fKd2)), (aKs2, .inl (cI, 8, .inl fKs2))] H → va_D A [(aK, .inr (2, [.int zKn, .ref aKd, .ref aKs])), (aKd, .inl (cI, 8, .inl zKd)), (aKs, .inl (cI, 8, .inl zKs)), (aK2, .inr (2, [.int vKn2, .ref aKd2, .ref aKs2])), (aKd2, .inl (cI, 8, .inl fKd2)), (aKs2, .inl (cI, 8, .inl fKs2))] → va_S A s.heap H locs → some (zKn, zKd, zKs) = some (oKn, oKd, oKs) → W p l e rX2_copyFrom s m args below meth c H locs 0 0 Q (F0 m pc ls []) := by
    intro zKn zKd zKs pc ls H locs hd hP hD hS h
    cases h
    exact hret0 pc ls H locs () hd hP hD hS
  clear hret0
  unfold fX2_copyFrom at h
  obtain ⟨H, hH⟩ : ∃ H, H = s.heap := ⟨_, rfl⟩
  have hP : va_P D vwCl [(aK, .inr (2, [.int vKn, .ref aKd, .ref aKs])), (aKd, .inl (cI, 8, .inl fKd)), (aKs, .inl (cI, 8, .inl fKs)), (aK2, .inr (2, [.int vKn2, .ref aKd2, .ref aKs2])), (aKd2, .inl (cI, 8, .inl fKd2)), (aKs2, .inl (cI, 8, .inl fKs2))] H := by rw [hH]; exact hP
  obtain ⟨locs, hlocs⟩ : ∃ x : List Loc, x = [] := ⟨_, rfl⟩
  have hS : va_S A s.heap H locs := by rw [hH, hlocs]; exact hS
  suffices hgo : W p l e rX2_copyFrom s m args below meth c H locs 0 0 Q (F0 m 0 ls []) by rw [hH, hlocs] at hgo; exact hgo
  refine lv_aload_n hx hb dX2_copyFrom_0 rfl (lv_at hl 0 rfl) ?_
  refine lv_aload_n hx hb dX2_copyFrom_1 rfl (lv_at hl 1 rfl) ?_
  refine va_get (D := D) (ci := 2) (v := .int vKn2) (C := RX2) (T := TX2) (N := 3) hx hb hts i2 hown hK hP 3 rfl rfl 0 (by decide) (hts (.fieldLink RX2 18 RX2 "count" "I") (List.mem_of_getElem? (i := 1) rfl)) (fun _ h9 => h9) rfl dX2_copyFrom_2 ?_
  refine va_put (D := D) (ci := 2) (v := .int vKn2) (ty := .int) (C := RX2) (T := TX2) (N := 3) hx hb hts i2 tyX2 tyX2_ok nmX2 hown hK hP hD hS 0 rfl rfl 0 (by decide) (hts (.fieldLink RX2 18 RX2 "count" "I") (List.mem_of_getElem? (i := 1) rfl)) (fun _ h9 => h9) rfl (by decide +kernel) rfl rfl (Nat.le_of_ble_eq_true rfl) dX2_copyFrom_5 (fun H locs hP hD hS => ?_)
  have hP : va_P D vwCl [(aK, .inr (2, [.int vKn2, .ref aKd, .ref aKs])), (aKd, .inl (cI, 8, .inl fKd)), (aKs, .inl (cI, 8, .inl fKs)), (aK2, .inr (2, [.int vKn2, .ref aKd2, .ref aKs2])), (aKd2, .inl (cI, 8, .inl fKd2)), (aKs2, .inl (cI, 8, .inl fKs2))] H := hP
  have hD : va_D A [(aK, .inr (2, [.int vKn2, .ref aKd, .ref aKs])), (aKd, .inl (cI, 8, .inl fKd)), (aKs, .inl (cI, 8, .inl fKs)), (aK2, .inr (2, [.int vKn2, .ref aKd2, .ref aKs2])), (aKd2, .inl (cI, 8, .inl fKd2)), (aKs2, .inl (cI, 8, .inl fKs2))] := hD
  refine lv_aload_n hx hb dX2_copyFrom_8 rfl (lv_at hl 1 rfl) ?_
  refine va_get (D := D) (ci := 2) (v := .ref aKd2) (C := RX2) (T := TX2) (N := 3) hx hb hts i2 hown hK hP 3 rfl rfl 1 (by decide) (hts (.fieldLink RX2 9 RX2 "dots" "[I") (List.mem_of_getElem? (i := 2) rfl)) (fun _ h9 => h9) rfl dX2_copyFrom_9 ?_
  refine lv_iconst (v := (0 : Int32)) hx hb dX2_copyFrom_12 (by decide) ?_
  refine lv_aload_n hx hb dX2_copyFrom_13 rfl (lv_at hl 0 rfl) ?_
  refine va_get (D := D) (ci := 2) (v := .ref aKd) (C := RX2) (T := TX2) (N := 3) hx hb hts i2 hown hK hP 0 rfl rfl 1 (by decide) (hts (.fieldLink RX2 9 RX2 "dots" "[I") (List.mem_of_getElem? (i := 2) rfl)) (fun _ h9 => h9) rfl dX2_copyFrom_14 ?_
  refine lv_iconst (v := (0 : Int32)) hx hb dX2_copyFrom_17 (by decide) ?_
  refine lv_bipush (v := (8 : Int32)) hx hb dX2_copyFrom_18 (by decide) ?_
  refine va_copyi hx hb (hml.trans hl.1.symm) hown (hts (.methodLink RX2 37 arraycopyName) (List.mem_of_getElem? (i := 3) rfl)) (hts (.native arraycopyName) (List.mem_of_getElem? (i := 4) rfl)) (hts (.static arraycopyName) (List.mem_of_getElem? (i := 5) rfl)) (hts (.initialized "java/lang/System") (List.mem_of_getElem? (i := 6) rfl)) hK hP hD hS 4 1 0 0 (ty := .int) rfl rfl rfl rfl rfl (by decide) (by decide) (by decide) (by decide) (by decide) (fun _ _ => rfl) (Nat.le_of_ble_eq_true rfl) (Nat.le_of_ble_eq_true rfl) dX2_copyFrom_20 (fun H locs hP hD hS => ?_)
  have hP : va_P D vwCl [(aK, .inr (2, [.int vKn2, .ref aKd, .ref aKs])), (aKd, .inl (cI, 8, .inl (va_cpy fKd2 fKd 0 0 8))), (aKs, .inl (cI, 8, .inl fKs)), (aK2, .inr (2, [.int vKn2, .ref aKd2, .ref aKs2])), (aKd2, .inl (cI, 8, .inl fKd2)), (aKs2, .inl (cI, 8, .inl fKs2))] H := hP
  have hD : va_D A [(aK, .inr (2, [.int vKn2, .ref aKd, .ref aKs])), (aKd, .inl (cI, 8, .inl (va_cpy fKd2 fKd 0 0 8))), (aKs, .inl (cI, 8, .inl fKs)), (aK2, .inr (2, [.int vKn2, .ref aKd2, .ref aKs2])), (aKd2, .inl (cI, 8, .inl fKd2)), (aKs2, .inl (cI, 8, .inl fKs2))] := hD
  refine lv_aload_n hx hb dX2_copyFrom_23 rfl (lv_at hl 1 rfl) ?_
  refine va_get (D := D) (ci := 2) (v := .ref aKs2) (C := RX2) (T := TX2) (N := 3) hx hb hts i2 hown hK hP 3 rfl rfl 2 (by decide) (hts (.fieldLink RX2 15 RX2 "stocks" "[I") (List.mem_of_getElem? (i := 7) rfl)) (fun _ h9 => h9) rfl dX2_copyFrom_24 ?_
  refine lv_iconst (v := (0 : Int32)) hx hb dX2_copyFrom_27 (by decide) ?_
  refine lv_aload_n hx hb dX2_copyFrom_28 rfl (lv_at hl 0 rfl) ?_
  refine va_get (D := D) (ci := 2) (v := .ref aKs) (C := RX2) (T := TX2) (N := 3) hx hb hts i2 hown hK hP 0 rfl rfl 2 (by decide) (hts (.fieldLink RX2 15 RX2 "stocks" "[I") (List.mem_of_getElem? (i := 7) rfl)) (fun _ h9 => h9) rfl dX2_copyFrom_29 ?_
  refine lv_iconst (v := (0 : Int32)) hx hb dX2_copyFrom_32 (by decide) ?_
  refine lv_bipush (v := (8 : Int32)) hx hb dX2_copyFrom_33 (by decide) ?_
  refine va_copyi hx hb (hml.trans hl.1.symm) hown (hts (.methodLink RX2 37 arraycopyName) (List.mem_of_getElem? (i := 3) rfl)) (hts (.native arraycopyName) (List.mem_of_getElem? (i := 4) rfl)) (hts (.static arraycopyName) (List.mem_of_getElem? (i := 5) rfl)) (hts (.initialized "java/lang/System") (List.mem_of_getElem? (i := 6) rfl)) hK hP hD hS 5 2 0 0 (ty := .int) rfl rfl rfl rfl rfl (by decide) (by decide) (by decide) (by decide) (by decide) (fun _ _ => rfl) (Nat.le_of_ble_eq_true rfl) (Nat.le_of_ble_eq_true rfl) dX2_copyFrom_35 (fun H locs hP hD hS => ?_)
  have hP : va_P D vwCl [(aK, .inr (2, [.int vKn2, .ref aKd, .ref aKs])), (aKd, .inl (cI, 8, .inl (va_cpy fKd2 fKd 0 0 8))), (aKs, .inl (cI, 8, .inl (va_cpy fKs2 fKs 0 0 8))), (aK2, .inr (2, [.int vKn2, .ref aKd2, .ref aKs2])), (aKd2, .inl (cI, 8, .inl fKd2)), (aKs2, .inl (cI, 8, .inl fKs2))] H := hP
  have hD : va_D A [(aK, .inr (2, [.int vKn2, .ref aKd, .ref aKs])), (aKd, .inl (cI, 8, .inl (va_cpy fKd2 fKd 0 0 8))), (aKs, .inl (cI, 8, .inl (va_cpy fKs2 fKs 0 0 8))), (aK2, .inr (2, [.int vKn2, .ref aKd2, .ref aKs2])), (aKd2, .inl (cI, 8, .inl fKd2)), (aKs2, .inl (cI, 8, .inl fKs2))] := hD
  exact hret vKn2 (va_cpy fKd2 fKd 0 0 8) (va_cpy fKs2 fKs 0 0 8) 38 ls H locs dX2_copyFrom_38 hP hD hS h
def fX5_areDots (x0 : Int32) : Option (Int32) :=
  if x0 < 0 then
    some (0 : Int32)
  else
    if (9999 : Int32) < x0 then
      some (0 : Int32)
    else
      some (1 : Int32)
abbrev rX5_areDots : Room := { frames := 0, cells := 0, slots := 0, locals := 0 }
set_option maxHeartbeats 4000000 in
set_option maxRecDepth 100000 in
theorem tX5_areDots {l : Launch} {D : va_G} {cI cZ cP : ClassId} (x0 : Int32) (r : Int32) (h : fX5_areDots x0 = some r) : CtI l D cI cZ cP yX5_areDots wsX5_areDots rX5_areDots [.int x0] [] (fun _ : Unit => []) r := by
  refine CtI.ofW (cc := cX5_areDots) (maxL := 1) (by decide) rfl (Nat.le_of_ble_eq_true rfl) (lv := [(0, .int x0)]) rfl ?_
  intro p e s m args below meth c A Q ls hx hb hml hown hts hK hN hP hD hS hA hl hret0
  have hown : s.vm.findClass RX5 = some m.cls := hown
  have hret : ∀ (v : Int32) (pc : Nat) (ls : Array Slot) (H : Heap) (locs : List Loc), narrow .boolean (.int v) = .int v → decode cX5_areDots pc = .ok (.ireturn, 1) → va_P D vwCl [] H → va_D A [] → va_S A s.heap H locs → some v = some r → W p l e rX5_areDots s m args below meth c H locs 0 0 Q (F0 m pc ls [.int v]) := by
    intro v pc ls H locs hn hd hP hD hS h
    cases h
    exact hret0 pc ls H locs () hn hd hP hD hS
  clear hret0
  unfold fX5_areDots at h
  obtain ⟨H, hH⟩ : ∃ H, H = s.heap := ⟨_, rfl⟩
  have hP : va_P D vwCl [] H := by rw [hH]; exact hP
  obtain ⟨locs, hlocs⟩ : ∃ x : List Loc, x = [] := ⟨_, rfl⟩
  have hS : va_S A s.heap H locs := by rw [hH, hlocs]; exact hS
  suffices hgo : W p l e rX5_areDots s m args below meth c H locs 0 0 Q (F0 m 0 ls []) by rw [hH, hlocs] at hgo; exact hgo
  refine lv_iload_n hx hb dX5_areDots_0 rfl (lv_at hl 0 rfl) ?_
  refine lv_if_lt (tgt := 15) hx hb dX5_areDots_1 (by decide) (fun c1 => ?_) (fun c1 => ?_)
  · have h := (if_pos c1).symm.trans h
    refine lv_iconst (v := (0 : Int32)) hx hb dX5_areDots_15 (by decide) ?_
    exact hret (0 : Int32) 16 ls H locs rfl dX5_areDots_16 hP hD hS h
  · have h := (if_neg c1).symm.trans h
    refine lv_iload_n hx hb dX5_areDots_4 rfl (lv_at hl 0 rfl) ?_
    refine lv_sipush (v := (9999 : Int32)) hx hb dX5_areDots_5 (by decide) ?_
    refine lv_icmp_gt (tgt := 15) hx hb dX5_areDots_8 (by decide) (fun c2 => ?_) (fun c2 => ?_)
    · have h := (if_pos c2).symm.trans h
      refine lv_iconst (v := (0 : Int32)) hx hb dX5_areDots_15 (by decide) ?_
      exact hret (0 : Int32) 16 ls H locs rfl dX5_areDots_16 hP hD hS h
    · have h := (if_neg c2).symm.trans h
      refine lv_iconst (v := (1 : Int32)) hx hb dX5_areDots_11 (by decide) ?_
      refine lv_goto (tgt := 16) hx hb dX5_areDots_12 (by decide) ?_
      exact hret (1 : Int32) 16 ls H locs rfl dX5_areDots_16 hP hD hS h
