def fX2_has (vKn : Int32) (x1 : Int32) : Option (Int32) :=
  if x1 < 0 then
    some (0 : Int32)
  else
    if vKn ≤ x1 then
      some (0 : Int32)
    else
      if (8 : Int32) ≤ x1 then
        some (0 : Int32)
      else
        some (1 : Int32)
abbrev rX2_has : Room := { frames := 0, cells := 0, slots := 0, locals := 0 }
set_option maxHeartbeats 4000000 in
set_option maxRecDepth 100000 in
theorem tX2_has {l : Launch} {D : va_G} {cI cZ cP : ClassId} (aK aKd aKs : Nat) (vKn : Int32) (x1 : Int32) (r : Int32) (h : fX2_has vKn x1 = some r) : CtI l D cI cZ cP yX2_has wsX2_has rX2_has [.ref aK, .int x1] [(aK, .inr (2, [.int vKn, .ref aKd, .ref aKs]))] (fun _ : Unit => [(aK, .inr (2, [.int vKn, .ref aKd, .ref aKs]))]) r := by
  refine CtI.ofW (cc := cX2_has) (maxL := 2) (by decide) rfl (Nat.le_of_ble_eq_true rfl) (lv := [(0, .ref aK), (1, .int x1)]) rfl ?_
  intro p e s m args below meth c A Q ls hx hb hml hown hts hK hN hP hD hS hA hl hret0
  have hown : s.vm.findClass RX2 = some m.cls := hown
  have i2 : ∀ w ∈ wsX20, w ∈ wsX2_has := mem_ps [2, 3, 4] rfl
  have hret : ∀ (v : Int32) (pc : Nat) (ls : Array Slot) (H : Heap) (locs : List Loc), narrow .boolean (.int v) = .int v → decode cX2_has pc = .ok (.ireturn, 1) → va_P D vwCl [(aK, .inr (2, [.int vKn, .ref aKd, .ref aKs]))] H → va_D A [(aK, .inr (2, [.int vKn, .ref aKd, .ref aKs]))] → va_S A s.heap H locs → some v = some r → W p l e rX2_has s m args below meth c H locs 0 0 Q (F0 m pc ls [.int v]) := by
    intro v pc ls H locs hn hd hP hD hS h
    cases h
    exact hret0 pc ls H locs () hn hd hP hD hS
  clear hret0
  unfold fX2_has at h
  obtain ⟨H, hH⟩ : ∃ H, H = s.heap := ⟨_, rfl⟩
  have hP : va_P D vwCl [(aK, .inr (2, [.int vKn, .ref aKd, .ref aKs]))] H := by rw [hH]; exact hP
  obtain ⟨locs, hlocs⟩ : ∃ x : List Loc, x = [] := ⟨_, rfl⟩
  have hS : va_S A s.heap H locs := by rw [hH, hlocs]; exact hS
  suffices hgo : W p l e rX2_has s m args below meth c H locs 0 0 Q (F0 m 0 ls []) by rw [hH, hlocs] at hgo; exact hgo
  refine lv_iload_n hx hb dX2_has_0 rfl (lv_at hl 1 rfl) ?_
  refine lv_if_lt (tgt := 22) hx hb dX2_has_1 (by decide) (fun c1 => ?_) (fun c1 => ?_)
  · have h := (if_pos c1).symm.trans h
    refine lv_iconst (v := (0 : Int32)) hx hb dX2_has_22 (by decide) ?_
    exact hret (0 : Int32) 23 ls H locs rfl dX2_has_23 hP hD hS h
  · have h := (if_neg c1).symm.trans h
    refine lv_iload_n hx hb dX2_has_4 rfl (lv_at hl 1 rfl) ?_
    refine lv_aload_n hx hb dX2_has_5 rfl (lv_at hl 0 rfl) ?_
    refine va_get (D := D) (ci := 2) (v := .int vKn) (C := RX2) (T := TX2) (N := 3) hx hb hts i2 hown hK hP 0 rfl rfl 0 (by decide) (hts (.fieldLink RX2 18 RX2 "count" "I") (List.mem_of_getElem? (i := 1) rfl)) (fun _ h9 => h9) rfl dX2_has_6 ?_
    refine lv_icmp_ge (tgt := 22) hx hb dX2_has_9 (by decide) (fun c2 => ?_) (fun c2 => ?_)
    · have h := (if_pos c2).symm.trans h
      refine lv_iconst (v := (0 : Int32)) hx hb dX2_has_22 (by decide) ?_
      exact hret (0 : Int32) 23 ls H locs rfl dX2_has_23 hP hD hS h
    · have h := (if_neg c2).symm.trans h
      refine lv_iload_n hx hb dX2_has_12 rfl (lv_at hl 1 rfl) ?_
      refine lv_bipush (v := (8 : Int32)) hx hb dX2_has_13 (by decide) ?_
      refine lv_icmp_ge (tgt := 22) hx hb dX2_has_15 (by decide) (fun c3 => ?_) (fun c3 => ?_)
      · have h := (if_pos c3).symm.trans h
        refine lv_iconst (v := (0 : Int32)) hx hb dX2_has_22 (by decide) ?_
        exact hret (0 : Int32) 23 ls H locs rfl dX2_has_23 hP hD hS h
      · have h := (if_neg c3).symm.trans h
        refine lv_iconst (v := (1 : Int32)) hx hb dX2_has_18 (by decide) ?_
        refine lv_goto (tgt := 23) hx hb dX2_has_19 (by decide) ?_
        exact hret (1 : Int32) 23 ls H locs rfl dX2_has_23 hP hD hS h
def fX2_numberOf_b2 (vKn : Int32) (fKd : Nat → Int32) : Nat → Int32 → Int32 → Option (Int32)
  | 0, _, _ => none
  | n + 1, x1, x2 =>
    if vKn ≤ x2 then
      some (-6 : Int32)
    else
      if (8 : Int32) ≤ x2 then
        some (-6 : Int32)
      else
        if x2 < 0 ∨ 8 ≤ x2.toNatClampNeg then none else
        if (fKd x2.toNatClampNeg) = x1 then
          some x2
        else
          fX2_numberOf_b2 vKn fKd n x1 (x2 + 1)
def fX2_numberOf (vKn : Int32) (fKd : Nat → Int32) (x1 : Int32) : Option (Int32) :=
  fX2_numberOf_b2 vKn fKd FU x1 (0 : Int32)
abbrev rX2_numberOf : Room := { frames := 0, cells := 0, slots := 0, locals := 0 }
set_option maxHeartbeats 4000000 in
set_option maxRecDepth 100000 in
theorem tX2_numberOf {l : Launch} {D : va_G} {cI cZ cP : ClassId} (aK aKd aKs : Nat) (vKn : Int32) (fKd : Nat → Int32) (x1 : Int32) (r : Int32) (h : fX2_numberOf vKn fKd x1 = some r) : CtI l D cI cZ cP yX2_numberOf wsX2_numberOf rX2_numberOf [.ref aK, .int x1] [(aK, .inr (2, [.int vKn, .ref aKd, .ref aKs])), (aKd, .inl (cI, 8, .inl fKd))] (fun _ : Unit => [(aK, .inr (2, [.int vKn, .ref aKd, .ref aKs])), (aKd, .inl (cI, 8, .inl fKd))]) r := by
  refine CtI.ofW (cc := cX2_numberOf) (maxL := 3) (by decide) rfl (Nat.le_of_ble_eq_true rfl) (lv := [(0, .ref aK), (1, .int x1)]) rfl ?_
  intro p e s m args below meth c A Q ls hx hb hml hown hts hK hN hP hD hS hA hl hret0
  have hown : s.vm.findClass RX2 = some m.cls := hown
  have i2 : ∀ w ∈ wsX20, w ∈ wsX2_numberOf := mem_ps [3, 4, 5] rfl
  have hret : ∀ (v : Int32) (pc : Nat) (ls : Array Slot) (H : Heap) (locs : List Loc), narrow .int (.int v) = .int v → decode cX2_numberOf pc = .ok (.ireturn, 1) → va_P D vwCl [(aK, .inr (2, [.int vKn, .ref aKd, .ref aKs])), (aKd, .inl (cI, 8, .inl fKd))] H → va_D A [(aK, .inr (2, [.int vKn, .ref aKd, .ref aKs])), (aKd, .inl (cI, 8, .inl fKd))] → va_S A s.heap H locs → some v = some r → W p l e rX2_numberOf s m args below meth c H locs 0 0 Q (F0 m pc ls [.int v]) := by
    intro v pc ls H locs hn hd hP hD hS h
    cases h
    exact hret0 pc ls H locs () hn hd hP hD hS
  clear hret0
  have hb2 : ∀ (n : Nat) (x1 : Int32) (x2 : Int32) (H : Heap) (locs : List Loc) (ls : Array Slot), va_P D vwCl [(aK, .inr (2, [.int vKn, .ref aKd, .ref aKs])), (aKd, .inl (cI, 8, .inl fKd))] H → va_D A [(aK, .inr (2, [.int vKn, .ref aKd, .ref aKs])), (aKd, .inl (cI, 8, .inl fKd))] → va_S A s.heap H locs → lv_has ls 3 [(0, .ref aK), (1, .int x1), (2, .int x2)] → fX2_numberOf_b2 vKn fKd n x1 x2 = some r → W p l e rX2_numberOf s m args below meth c H locs 0 0 Q (F0 m 2 ls []) := by
    intro n
    induction n with
    | zero => intro x1 x2 H locs ls hP hD hS hl h; exact absurd h (by rw [fX2_numberOf_b2]; exact fun z => by cases z)
    | succ n ih =>
      intro x1 x2 H locs ls hP hD hS hl h
      rw [fX2_numberOf_b2] at h
      refine lv_iload_n hx hb dX2_numberOf_2 rfl (lv_at hl 2 rfl) ?_
      refine lv_aload_n hx hb dX2_numberOf_3 rfl (lv_at hl 0 rfl) ?_
      refine va_get (D := D) (ci := 2) (v := .int vKn) (C := RX2) (T := TX2) (N := 3) hx hb hts i2 hown hK hP 0 rfl rfl 0 (by decide) (hts (.fieldLink RX2 18 RX2 "count" "I") (List.mem_of_getElem? (i := 1) rfl)) (fun _ h9 => h9) rfl dX2_numberOf_4 ?_
      refine lv_icmp_ge (tgt := 34) hx hb dX2_numberOf_7 (by decide) (fun c1 => ?_) (fun c1 => ?_)
      · have h := (if_pos c1).symm.trans h
        refine lv_bipush (v := (-6 : Int32)) hx hb dX2_numberOf_34 (by decide) ?_
        exact hret (-6 : Int32) 36 ls H locs rfl dX2_numberOf_36 hP hD hS h
      · have h := (if_neg c1).symm.trans h
        refine lv_iload_n hx hb dX2_numberOf_10 rfl (lv_at hl 2 rfl) ?_
        refine lv_bipush (v := (8 : Int32)) hx hb dX2_numberOf_11 (by decide) ?_
        refine lv_icmp_ge (tgt := 34) hx hb dX2_numberOf_13 (by decide) (fun c2 => ?_) (fun c2 => ?_)
        · have h := (if_pos c2).symm.trans h
          refine lv_bipush (v := (-6 : Int32)) hx hb dX2_numberOf_34 (by decide) ?_
          exact hret (-6 : Int32) 36 ls H locs rfl dX2_numberOf_36 hP hD hS h
        · have h := (if_neg c2).symm.trans h
          refine lv_aload_n hx hb dX2_numberOf_16 rfl (lv_at hl 0 rfl) ?_
          refine va_get (D := D) (ci := 2) (v := .ref aKd) (C := RX2) (T := TX2) (N := 3) hx hb hts i2 hown hK hP 0 rfl rfl 1 (by decide) (hts (.fieldLink RX2 9 RX2 "dots" "[I") (List.mem_of_getElem? (i := 2) rfl)) (fun _ h9 => h9) rfl dX2_numberOf_17 ?_
          refine lv_iload_n hx hb dX2_numberOf_20 rfl (lv_at hl 2 rfl) ?_
          obtain ⟨g3, h⟩ := no_some h
          refine va_iald hx hb hK hP 1 0 rfl rfl g3 dX2_numberOf_21 ?_
          refine lv_iload_n hx hb dX2_numberOf_22 rfl (lv_at hl 1 rfl) ?_
          refine lv_icmp_ne (tgt := 28) hx hb dX2_numberOf_23 (by decide) (fun c4 => ?_) (fun c4 => ?_)
          · have h := (if_neg c4).symm.trans h
            refine lv_iinc (v := x2 + 1) (lv' := [(2, .int (x2 + 1)), (0, .ref aK), (1, .int x1)]) hx hb dX2_numberOf_28 hl (k := 2) rfl rfl (by decide) rfl (fun ls hl => ?_)
            refine lv_goto (tgt := 2) hx hb dX2_numberOf_31 (by decide) ?_
            exact ih x1 (x2 + 1) H locs ls hP hD hS (lv_sub hl [1, 2, 0] rfl) h
          · have h := (if_pos c4).symm.trans h
            refine lv_iload_n hx hb dX2_numberOf_26 rfl (lv_at hl 2 rfl) ?_
            exact hret x2 27 ls H locs rfl dX2_numberOf_27 hP hD hS h
  unfold fX2_numberOf at h
  obtain ⟨H, hH⟩ : ∃ H, H = s.heap := ⟨_, rfl⟩
  have hP : va_P D vwCl [(aK, .inr (2, [.int vKn, .ref aKd, .ref aKs])), (aKd, .inl (cI, 8, .inl fKd))] H := by rw [hH]; exact hP
  obtain ⟨locs, hlocs⟩ : ∃ x : List Loc, x = [] := ⟨_, rfl⟩
  have hS : va_S A s.heap H locs := by rw [hH, hlocs]; exact hS
  suffices hgo : W p l e rX2_numberOf s m args below meth c H locs 0 0 Q (F0 m 0 ls []) by rw [hH, hlocs] at hgo; exact hgo
  refine lv_iconst (v := (0 : Int32)) hx hb dX2_numberOf_0 (by decide) ?_
  refine lv_istore_n (lv' := [(2, .int (0 : Int32)), (0, .ref aK), (1, .int x1)]) hx hb dX2_numberOf_1 rfl hl (by decide) rfl (fun ls hl => ?_)
  exact hb2 FU x1 (0 : Int32) H locs ls hP hD hS (lv_sub hl [1, 2, 0] rfl) h
def fX2_firstSlot_b4 (fKs : Nat → Int32) : Nat → Int32 → Int32 → Int32 → Option (Int32)
  | 0, _, _, _ => none
  | n + 1, x1, x2, x3 =>
    if x1 ≤ x3 then
      some x2
    else
      if (8 : Int32) ≤ x3 then
        some x2
      else
        if x3 < 0 ∨ 8 ≤ x3.toNatClampNeg then none else
        bdv (x2 + (fKs x3.toNatClampNeg)) fun x2_23 =>
        fX2_firstSlot_b4 fKs n x1 x2_23 (x3 + 1)
def fX2_firstSlot (fKs : Nat → Int32) (x1 : Int32) : Option (Int32) :=
  fX2_firstSlot_b4 fKs FU x1 (0 : Int32) (0 : Int32)
abbrev rX2_firstSlot : Room := { frames := 0, cells := 0, slots := 0, locals := 0 }
set_option maxHeartbeats 4000000 in
set_option maxRecDepth 100000 in
theorem tX2_firstSlot {l : Launch} {D : va_G} {cI cZ cP : ClassId} (aK aKs aKd : Nat) (vKn : Int32) (fKs : Nat → Int32) (x1 : Int32) (r : Int32) (h : fX2_firstSlot fKs x1 = some r) : CtI l D cI cZ cP yX2_firstSlot wsX2_firstSlot rX2_firstSlot [.ref aK, .int x1] [(aK, .inr (2, [.int vKn, .ref aKd, .ref aKs])), (aKs, .inl (cI, 8, .inl fKs))] (fun _ : Unit => [(aK, .inr (2, [.int vKn, .ref aKd, .ref aKs])), (aKs, .inl (cI, 8, .inl fKs))]) r := by
  refine CtI.ofW (cc := cX2_firstSlot) (maxL := 4) (by decide) rfl (Nat.le_of_ble_eq_true rfl) (lv := [(0, .ref aK), (1, .int x1)]) rfl ?_
  intro p e s m args below meth c A Q ls hx hb hml hown hts hK hN hP hD hS hA hl hret0
  have hown : s.vm.findClass RX2 = some m.cls := hown
  have i2 : ∀ w ∈ wsX20, w ∈ wsX2_firstSlot := mem_ps [2, 3, 4] rfl
  have hret : ∀ (v : Int32) (pc : Nat) (ls : Array Slot) (H : Heap) (locs : List Loc), narrow .int (.int v) = .int v → decode cX2_firstSlot pc = .ok (.ireturn, 1) → va_P D vwCl [(aK, .inr (2, [.int vKn, .ref aKd, .ref aKs])), (aKs, .inl (cI, 8, .inl fKs))] H → va_D A [(aK, .inr (2, [.int vKn, .ref aKd, .ref aKs])), (aKs, .inl (cI, 8, .inl fKs))] → va_S A s.heap H locs → some v = some r → W p l e rX2_firstSlot s m args below meth c H locs 0 0 Q (F0 m pc ls [.int v]) := by
    intro v pc ls H locs hn hd hP hD hS h
    cases h
    exact hret0 pc ls H locs () hn hd hP hD hS
  clear hret0
  have hb4 : ∀ (n : Nat) (x1 : Int32) (x2 : Int32) (x3 : Int32) (H : Heap) (locs : List Loc) (ls : Array Slot), va_P D vwCl [(aK, .inr (2, [.int vKn, .ref aKd, .ref aKs])), (aKs, .inl (cI, 8, .inl fKs))] H → va_D A [(aK, .inr (2, [.int vKn, .ref aKd, .ref aKs])), (aKs, .inl (cI, 8, .inl fKs))] → va_S A s.heap H locs → lv_has ls 4 [(0, .ref aK), (1, .int x1), (2, .int x2), (3, .int x3)] → fX2_firstSlot_b4 fKs n x1 x2 x3 = some r → W p l e rX2_firstSlot s m args below meth c H locs 0 0 Q (F0 m 4 ls []) := by
    intro n
    induction n with
    | zero => intro x1 x2 x3 H locs ls hP hD hS hl h; exact absurd h (by rw [fX2_firstSlot_b4]; exact fun z => by cases z)
    | succ n ih =>
      intro x1 x2 x3 H locs ls hP hD hS hl h
      rw [fX2_firstSlot_b4] at h
      refine lv_iload_n hx hb dX2_firstSlot_4 rfl (lv_at hl 3 rfl) ?_
      refine lv_iload_n hx hb dX2_firstSlot_5 rfl (lv_at hl 1 rfl) ?_
      refine lv_icmp_ge (tgt := 30) hx hb dX2_firstSlot_6 (by decide) (fun c1 => ?_) (fun c1 => ?_)
      · have h := (if_pos c1).symm.trans h
        refine lv_iload_n hx hb dX2_firstSlot_30 rfl (lv_at hl 2 rfl) ?_
        exact hret x2 31 ls H locs rfl dX2_firstSlot_31 hP hD hS h
      · have h := (if_neg c1).symm.trans h
        refine lv_iload_n hx hb dX2_firstSlot_9 rfl (lv_at hl 3 rfl) ?_
        refine lv_bipush (v := (8 : Int32)) hx hb dX2_firstSlot_10 (by decide) ?_
        refine lv_icmp_ge (tgt := 30) hx hb dX2_firstSlot_12 (by decide) (fun c2 => ?_) (fun c2 => ?_)
        · have h := (if_pos c2).symm.trans h
          refine lv_iload_n hx hb dX2_firstSlot_30 rfl (lv_at hl 2 rfl) ?_
          exact hret x2 31 ls H locs rfl dX2_firstSlot_31 hP hD hS h
        · have h := (if_neg c2).symm.trans h
          refine lv_iload_n hx hb dX2_firstSlot_15 rfl (lv_at hl 2 rfl) ?_
          refine lv_aload_n hx hb dX2_firstSlot_16 rfl (lv_at hl 0 rfl) ?_
          refine va_get (D := D) (ci := 2) (v := .ref aKs) (C := RX2) (T := TX2) (N := 3) hx hb hts i2 hown hK hP 0 rfl rfl 2 (by decide) (hts (.fieldLink RX2 15 RX2 "stocks" "[I") (List.mem_of_getElem? (i := 1) rfl)) (fun _ h9 => h9) rfl dX2_firstSlot_17 ?_
          refine lv_iload_n hx hb dX2_firstSlot_20 rfl (lv_at hl 3 rfl) ?_
          obtain ⟨g3, h⟩ := no_some h
          refine va_iald hx hb hK hP 1 0 rfl rfl g3 dX2_firstSlot_21 ?_
          refine lv_iadd hx hb dX2_firstSlot_22 ?_
          refine lv_topi (fun x2_23 ex2_23 => ?_)
          have h := bdv_some ex2_23 h
          refine lv_istore_n (lv' := [(2, .int x2_23), (0, .ref aK), (1, .int x1), (3, .int x3)]) hx hb dX2_firstSlot_23 rfl hl (by decide) rfl (fun ls hl => ?_)
          refine lv_iinc (v := x3 + 1) (lv' := [(3, .int (x3 + 1)), (2, .int x2_23), (0, .ref aK), (1, .int x1)]) hx hb dX2_firstSlot_24 hl (k := 3) rfl rfl (by decide) rfl (fun ls hl => ?_)
          refine lv_goto (tgt := 4) hx hb dX2_firstSlot_27 (by decide) ?_
          exact ih x1 x2_23 (x3 + 1) H locs ls hP hD hS (lv_sub hl [2, 3, 1, 0] rfl) h
  unfold fX2_firstSlot at h
  obtain ⟨H, hH⟩ : ∃ H, H = s.heap := ⟨_, rfl⟩
  have hP : va_P D vwCl [(aK, .inr (2, [.int vKn, .ref aKd, .ref aKs])), (aKs, .inl (cI, 8, .inl fKs))] H := by rw [hH]; exact hP
  obtain ⟨locs, hlocs⟩ : ∃ x : List Loc, x = [] := ⟨_, rfl⟩
  have hS : va_S A s.heap H locs := by rw [hH, hlocs]; exact hS
  suffices hgo : W p l e rX2_firstSlot s m args below meth c H locs 0 0 Q (F0 m 0 ls []) by rw [hH, hlocs] at hgo; exact hgo
  refine lv_iconst (v := (0 : Int32)) hx hb dX2_firstSlot_0 (by decide) ?_
  refine lv_istore_n (lv' := [(2, .int (0 : Int32)), (0, .ref aK), (1, .int x1)]) hx hb dX2_firstSlot_1 rfl hl (by decide) rfl (fun ls hl => ?_)
  refine lv_iconst (v := (0 : Int32)) hx hb dX2_firstSlot_2 (by decide) ?_
  refine lv_istore_n (lv' := [(3, .int (0 : Int32)), (2, .int (0 : Int32)), (0, .ref aK), (1, .int x1)]) hx hb dX2_firstSlot_3 rfl hl (by decide) rfl (fun ls hl => ?_)
  exact hb4 FU x1 (0 : Int32) (0 : Int32) H locs ls hP hD hS (lv_sub hl [2, 3, 1, 0] rfl) h
def fX2_slots (vKn : Int32) (fKs : Nat → Int32) : Option (Int32) :=
  bd1 (fX2_firstSlot fKs vKn) fun r_5 =>
  some r_5
abbrev rX2_slots : Room := { frames := 1, cells := 0, slots := 0, locals := 23 }
set_option maxHeartbeats 4000000 in
set_option maxRecDepth 100000 in
theorem tX2_slots {l : Launch} {D : va_G} {cI cZ cP : ClassId} (aK aKs aKd : Nat) (vKn : Int32) (fKs : Nat → Int32) (r : Int32) (h : fX2_slots vKn fKs = some r) : CtI l D cI cZ cP yX2_slots wsX2_slots rX2_slots [.ref aK] [(aK, .inr (2, [.int vKn, .ref aKd, .ref aKs])), (aKs, .inl (cI, 8, .inl fKs))] (fun _ : Unit => [(aK, .inr (2, [.int vKn, .ref aKd, .ref aKs])), (aKs, .inl (cI, 8, .inl fKs))]) r := by
  refine CtI.ofW (cc := cX2_slots) (maxL := 1) (by decide) rfl (Nat.le_of_ble_eq_true rfl) (lv := [(0, .ref aK)]) rfl ?_
  intro p e s m args below meth c A Q ls hx hb hml hown hts hK hN hP hD hS hA hl hret0
  have hown : s.vm.findClass RX2 = some m.cls := hown
  have i2 : ∀ w ∈ wsX20, w ∈ wsX2_slots := mem_ps [8, 9, 10] rfl
  have hret : ∀ (v : Int32) (pc : Nat) (ls : Array Slot) (H : Heap) (locs : List Loc), narrow .int (.int v) = .int v → decode cX2_slots pc = .ok (.ireturn, 1) → va_P D vwCl [(aK, .inr (2, [.int vKn, .ref aKd, .ref aKs])), (aKs, .inl (cI, 8, .inl fKs))] H → va_D A [(aK, .inr (2, [.int vKn, .ref aKd, .ref aKs])), (aKs, .inl (cI, 8, .inl fKs))] → va_S A s.heap H locs → some v = some r → W p l e rX2_slots s m args below meth c H locs 0 0 Q (F0 m pc ls [.int v]) := by
    intro v pc ls H locs hn hd hP hD hS h
    cases h
    exact hret0 pc ls H locs () hn hd hP hD hS
  clear hret0
  unfold fX2_slots at h
  obtain ⟨H, hH⟩ : ∃ H, H = s.heap := ⟨_, rfl⟩
  have hP : va_P D vwCl [(aK, .inr (2, [.int vKn, .ref aKd, .ref aKs])), (aKs, .inl (cI, 8, .inl fKs))] H := by rw [hH]; exact hP
  obtain ⟨locs, hlocs⟩ : ∃ x : List Loc, x = [] := ⟨_, rfl⟩
  have hS : va_S A s.heap H locs := by rw [hH, hlocs]; exact hS
  suffices hgo : W p l e rX2_slots s m args below meth c H locs 0 0 Q (F0 m 0 ls []) by rw [hH, hlocs] at hgo; exact hgo
  refine lv_aload_n hx hb dX2_slots_0 rfl (lv_at hl 0 rfl) ?_
  refine lv_aload_n hx hb dX2_slots_1 rfl (lv_at hl 0 rfl) ?_
  refine va_get (D := D) (ci := 2) (v := .int vKn) (C := RX2) (T := TX2) (N := 3) hx hb hts i2 hown hK hP 0 rfl rfl 0 (by decide) (hts (.fieldLink RX2 18 RX2 "count" "I") (List.mem_of_getElem? (i := 1) rfl)) (fun _ h9 => h9) rfl dX2_slots_2 ?_
  obtain ⟨r_5, q_5, h⟩ := bd1_some h
  refine fr_ro_i (S := Unit) (wc := [(aK, .inr (2, [.int vKn, .ref aKd, .ref aKs])), (aKs, .inl (cI, 8, .inl fKs))]) (fr_V (As := [.int vKn]) (rest := []) (C := RX2) ⟨hx, hb, hml, hown, hts⟩ (tX2_firstSlot aK aKs aKd vKn fKs vKn r_5 q_5) gX2_slots_X2_firstSlot rfl (fr_preV (As := [.int vKn]) (b := aK) (ci := 2) (q0 := 0) (wc := [(aK, .inr (2, [.int vKn, .ref aKd, .ref aKs])), (aKs, .inl (cI, 8, .inl fKs))]) hK hN hP hD [0, 1] (by decide) rfl rfl rfl) (by decide +kernel) ⟨Nat.le_of_ble_eq_true rfl, Nat.le_of_ble_eq_true rfl⟩ hl.1 rfl (Nat.le_of_ble_eq_true rfl) dX2_slots_5 ⟨Nat.zero_le _, Nat.zero_le _⟩) hP hD hS hA [0, 1] rfl (c2 := 0) (s2 := 0) rfl rfl (fun H locs hP hS => ?_)
  exact hret r_5 8 ls H locs rfl dX2_slots_8 hP hD hS h
