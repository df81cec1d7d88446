/-! 05.j: the other calls -/
theorem s_cell {B : Int} {mo sh kn : Int32} {kd ks : Ar} {cn : Int32} {cd : Ar} {va co bi ph : Int32} {pr ho he N sk : Ar} (h : RelP B mo sh kn kd ks cn cd va co bi ph pr ho he N sk) (x : Int32) :
    ∃ (r cn' va' : Int32) (cd' N' : Ar), fX5_cell cn cd va x = some (r, cn', cd', va') ∧ fX6_cell N cd x = some (r, N', cd') ∧ RelP B mo sh kn kd ks cn' cd' va' co bi ph pr ho he N' sk := by
  obtain ⟨k, c, hs, hco, hsa⟩ := id h
  obtain ⟨h1, h2, h3, h4, h5, h6, h7, h8⟩ := hs
  obtain ⟨w1, w2, w3, w4, w5, w6, w7⟩ := h4
  subst h2
  unfold fX5_cell fX6_cell
  by_cases hd : okD x
  · rw [areDots_t hd, isDots_t hd, bd1, bd1, if_neg n10, if_neg n10, fX6_cells, bd1, h8]
    by_cases hc : c = 12
    · rw [hc, if_neg (show ¬ nI 12 < (12 : Int32) by decide), if_pos (show nI 12 = (12 : Int32) from rfl)]
      rw [hc] at h
      exact ⟨_, _, _, _, _, rfl, rfl, h⟩
    · have hc' : c < 12 := by omega
      rw [if_pos (show nI c < (12 : Int32) from nI_lt (b := 12) hc' (by decide)), if_neg (show ¬ nI c = (12 : Int32) from fun z => hc ((nI_eq (b := 12) (by omega) (by decide)).mp z)), bd1, rd (by omega) (by omega), nI_clamp (by omega)]
      unfold fX1_add
      rw [if_neg (nI_pos (by omega)), if_pos (show nI c < (12 : Int32) from nI_lt (b := 12) hc' (by decide)), rd (by omega) (by omega), nI_clamp (by omega), bd2, end_eq, bd1, fX6_cells, bd1, eN_lo (by decide), upd_s, show nI c + (1 : Int32) = nI (c + 1) from nI_1 c]
      refine ⟨_, _, _, _, _, rfl, rfl, ?_⟩
      refine RelP_end (k := k) (c := c + 1) ⟨h1, rfl, h3, ⟨w1, w2, w3, w4, w5, by omega, fun i hi => ?_⟩, ?_, ?_, ?_, upd_s⟩ hco
      · by_cases z : i = c
        · rw [z, upd_s]; exact hd
        · rw [upd_n z]; exact w7 i (by omega)
      · rw [upd_n (by decide), h5]
      · rw [upd_n (by decide), h6]
      · rw [upd_n (by decide), h7]
  · rw [areDots_f hd, isDots_f hd, bd1, bd1, if_pos rfl, if_pos rfl]
    exact ⟨_, _, _, _, _, rfl, rfl, h⟩
theorem s_change {B : Int} {mo sh kn : Int32} {kd ks : Ar} {cn : Int32} {cd : Ar} {va co bi ph : Int32} {pr ho he N sk : Ar} (h : RelP B mo sh kn kd ks cn cd va co bi ph pr ho he N sk) (x y : Int32) :
    ∃ (r co' : Int32) (cd' N' : Ar), fX5_change cn cd co x y = some (r, cd', co') ∧ fX6_change N cd x y = some (r, N', cd') ∧ RelP B mo sh kn kd ks cn cd' va co' bi ph pr ho he N' sk := by
  obtain ⟨k, c, hs, hco, hsa⟩ := id h
  obtain ⟨h1, h2, h3, h4, h5, h6, h7, h8⟩ := hs
  obtain ⟨w1, w2, w3, w4, w5, w6, w7⟩ := h4
  subst h2
  unfold fX5_change fX6_change
  rcases cnt (c := c) x with ⟨j, hj, e⟩ | hx
  · subst e
    rw [has1_t w6 hj, isCell_t h8 w6 hj, bd1, bd1, if_neg n10, if_neg n10]
    by_cases hd : okD y
    · rw [areDots_t hd, isDots_t hd, bd1, bd1, if_neg n10, if_neg n10, rd (by omega) (by omega), rd (by omega) (by omega), nI_clamp (by omega), bdv, bdv]
      by_cases e : y = cd j
      · rw [if_pos e, if_neg (show ¬ (nI j < 0 ∨ 12 ≤ j) from fun z => z.elim (nI_pos (by omega)) (by omega)), if_pos e, e, upd_id, upd_id]
        exact ⟨_, _, _, _, rfl, rfl, h⟩
      · rw [if_neg e, if_neg (show ¬ (nI j < 0 ∨ 12 ≤ j) from fun z => z.elim (nI_pos (by omega)) (by omega)), if_neg (show ¬ (nI j < 0 ∨ 12 ≤ j) from fun z => z.elim (nI_pos (by omega)) (by omega)), if_neg e]
        refine ⟨_, _, _, _, rfl, rfl, k, c, ⟨h1, rfl, h3, ⟨w1, w2, w3, w4, w5, w6, fun i hi => ?_⟩, ?_, ?_, ?_, ?_⟩, Or.inl rfl, ?_⟩
        · by_cases z : i = j
          · rw [z, upd_s]; exact hd
          · rw [upd_n z]; exact w7 i hi
        · rw [upd_n (by decide), h5]
        · rw [upd_n (by decide), h6]
        · rw [upd_n (by decide), h7]
        · rw [upd_n (by decide), h8]
        · unfold RSa at hsa ⊢
          rw [upd_n (show (5 : Nat) ≠ 6 by decide), upd_s, upd_n (show (7 : Nat) ≠ 6 by decide), upd_n (show (8 : Nat) ≠ 6 by decide), upd_n (show (4 : Nat) ≠ 6 by decide)]
          rcases hsa with ⟨a1, a2, a3, a4, a5⟩ | ⟨a1, a2, a3, a4⟩
          · exact Or.inl ⟨a1, a2, rfl, a4, a5⟩
          · exact Or.inr ⟨a1, a2, rfl, a4⟩
    · rw [areDots_f hd, isDots_f hd, bd1, bd1, if_pos rfl, if_pos rfl]
      exact ⟨_, _, _, _, rfl, rfl, h⟩
  · rw [has1_f w6 hx, isCell_f h8 w6 hx, bd1, bd1, if_pos rfl, if_pos rfl]
    exact ⟨_, _, _, _, rfl, rfl, h⟩
theorem takeOutC_loop {m : Nat} (hm : m ≤ 11) : ∀ r i n (cd : Ar), i + r = m → r < n → fX1_takeOut_b21 n (nI i) (nI m) cd = some (nI m, sft i m cd) := by
  intro r
  induction r with
  | zero =>
    intro i n cd hi hn
    obtain ⟨n, rfl⟩ := fu_pos hn
    obtain rfl : i = m := by omega
    rw [fX1_takeOut_b21, if_pos (nI_le (by omega) (by omega)), sft_end]
  | succ r ih =>
    intro i n cd hi hn
    obtain ⟨n, rfl⟩ := fu_pos hn
    have e : nI i + (1 : Int32) = nI (i + 1) := nI_1 i
    rw [fX1_takeOut_b21, if_neg (nI_ge (by omega) (by omega)), e, if_neg (ge12 (by omega : i + 1 < 12)), rd (by omega) (by omega), rd (by omega) (by omega), nI_clamp (by omega), nI_clamp (by omega), ih (i + 1) n _ (by omega) (by omega), sft_step (by omega)]
theorem removeM_loop {m : Nat} {N : Ar} (hm : m ≤ 11) (hN : N 3 = nI m) : ∀ r i n (cd : Ar), i + r = m → r < n → fX6_remove_b22 n (nI i) N cd = some (nI m, eN N, sft i m cd) := by
  intro r
  induction r with
  | zero =>
    intro i n cd hi hn
    obtain ⟨n, rfl⟩ := fu_pos hn
    obtain rfl : i = m := by omega
    rw [fX6_remove_b22, fX6_cells, bd1, hN, if_pos (nI_le (by omega) (by omega)), end_eq, bd1, fX6_cells, bd1, eN_lo (by decide), hN, sft_end]
  | succ r ih =>
    intro i n cd hi hn
    obtain ⟨n, rfl⟩ := fu_pos hn
    have e : nI i + (1 : Int32) = nI (i + 1) := nI_1 i
    rw [fX6_remove_b22, fX6_cells, bd1, hN, if_neg (nI_ge (by omega) (by omega)), e, rd (by omega) (by omega), rd (by omega) (by omega), nI_clamp (by omega), nI_clamp (by omega), ih (i + 1) n _ (by omega) (by omega), sft_step (by omega)]
theorem s_remove {B : Int} {mo sh kn : Int32} {kd ks : Ar} {cn : Int32} {cd : Ar} {va co bi ph : Int32} {pr ho he N sk : Ar} (h : RelP B mo sh kn kd ks cn cd va co bi ph pr ho he N sk) (x : Int32) :
    ∃ (r cn' va' : Int32) (cd' N' : Ar), fX5_remove cn cd va x = some (r, cn', cd', va') ∧ fX6_remove N cd x = some (r, N', cd') ∧ RelP B mo sh kn kd ks cn' cd' va' co bi ph pr ho he N' sk := by
  obtain ⟨k, c, hs, hco, hsa⟩ := id h
  obtain ⟨h1, h2, h3, h4, h5, h6, h7, h8⟩ := hs
  obtain ⟨w1, w2, w3, w4, w5, w6, w7⟩ := h4
  subst h2
  unfold fX5_remove fX6_remove
  rcases cnt (c := c) x with ⟨j, hj, e⟩ | hx
  · subst e
    have hN : (upd N 3 (N 3 - 1)) 3 = nI (c - 1) := by rw [upd_s, h8]; exact nI_sb (b := 1) (by omega)
    have ht : fX1_takeOut (nI c) cd (nI j) = some (nI (c - 1), sft j (c - 1) cd) := by
      unfold fX1_takeOut
      rw [has1_t w6 hj, bd1, if_neg n10, show nI c - (1 : Int32) = nI (c - 1) from nI_sb (b := 1) (by omega)]
      exact takeOutC_loop (by omega) (c - 1 - j) j FU cd (by omega) (FU_gt (by omega))
    rw [has1_t w6 hj, isCell_t h8 w6 hj, bd1, bd1, if_neg n10, if_neg n10, ht, bd2, removeM_loop (by omega) hN (c - 1 - j) j FU cd (by omega) (FU_gt (by omega))]
    refine ⟨_, _, _, _, _, rfl, rfl, ?_⟩
    refine RelP_end (k := k) (c := c - 1) ⟨h1, rfl, h3, ⟨w1, w2, w3, w4, w5, by omega, fun i hi => ?_⟩, ?_, ?_, ?_, hN⟩ hco
    · unfold sft
      by_cases z : j ≤ i ∧ i < c - 1
      · rw [if_pos z]; exact w7 _ (by omega)
      · rw [if_neg z]; exact w7 _ (by omega)
    · rw [upd_n (by decide), h5]
    · rw [upd_n (by decide), h6]
    · rw [upd_n (by decide), h7]
  · rw [has1_f w6 hx, isCell_f h8 w6 hx, bd1, bd1, if_pos rfl, if_pos rfl]
    exact ⟨_, _, _, _, _, rfl, rfl, h⟩
theorem s_find {B : Int} {mo sh kn : Int32} {kd ks : Ar} {cn : Int32} {cd : Ar} {va co bi ph : Int32} {pr ho he N sk : Ar} (h : RelP B mo sh kn kd ks cn cd va co bi ph pr ho he N sk) (x : Int32) : ∃ r : Int32, fX5_find kn kd x = some r ∧ fX6_find N kd x = some r := by
  obtain ⟨k, c, ⟨h1, h2, h3, h4, h5, h6, h7, h8⟩, hco, hsa⟩ := id h
  subst h1
  unfold fX5_find fX6_find
  by_cases hd : okD x
  · rw [areDots_t hd, isDots_t hd, bd1, bd1, if_neg n10, if_neg n10, numberOf_eq h4.2.1, kindOf_eq h7 h4.2.1]
    exact ⟨_, rfl, rfl⟩
  · rw [areDots_f hd, isDots_f hd, bd1, bd1, if_pos rfl, if_pos rfl]
    exact ⟨_, rfl, rfl⟩
theorem s_difference {B : Int} {mo sh kn : Int32} {kd ks : Ar} {cn : Int32} {cd : Ar} {va co bi ph : Int32} {pr ho he N sk : Ar} (h : RelP B mo sh kn kd ks cn cd va co bi ph pr ho he N sk) (x y : Int32) : ∃ r : Int32, fX5_difference mo kn kd cn cd x y = some r ∧ fX6_difference N kd cd x y = some r := by
  obtain ⟨k, c, ⟨h1, h2, h3, h4, h5, h6, h7, h8⟩, hco, hsa⟩ := id h
  obtain ⟨w1, w2, w3, w4, w5, w6, w7⟩ := h4
  subst h1; subst h2
  unfold fX5_difference fX6_difference
  rcases cnt (c := c) x with ⟨j, hj, e⟩ | hx
  · subst e
    rw [has1_t w6 hj, isCell_t h8 w6 hj, bd1, bd1, if_neg n10, if_neg n10, fX6_kinds, bd1, h7]
    rcases cnt (c := k) y with ⟨i, hi, e⟩ | hy
    · subst e
      rw [has2_t w2 hi, inc_t (by omega) hi, bd1, bd1, if_neg n10, if_neg n10, apart_eq w2 w6 hj hi (w7 j hj) (w3 i hi), rd (by omega) (by omega), rd (by omega) (by omega), nI_clamp (by omega), nI_clamp (by omega), differenceOf_eq (by rw [h5]; exact w1) (w7 j hj) (w3 i hi), h5]
      exact ⟨_, rfl, rfl⟩
    · rw [has2_f w2 hy, inc_f (by omega) hy, bd1, bd1, if_pos rfl, if_pos rfl]
      exact ⟨_, rfl, rfl⟩
  · rw [has1_f w6 hx, isCell_f h8 w6 hx, bd1, bd1, if_pos rfl, if_pos rfl]
    exact ⟨_, rfl, rfl⟩
/-- valid, done: as both sides see it -/
theorem done_cases {B : Int} {ks : Ar} {va co bi ph : Int32} {pr ho he N sk : Ar} {k c : Nat} (hco : co = 0 ∨ co = 1) (h : RSa B ks va co bi ph pr ho he N sk k c) :
    (va = 0 ∧ fX4_isDone va co = some 0 ∧ fX6_isDone N = some 0 ∧ fX6_isValid N = some 0) ∨ (va = 1 ∧ co = 0 ∧ fX4_isDone va co = some 0 ∧ fX6_isDone N = some 0 ∧ fX6_isValid N = some 1) ∨ (va = 1 ∧ co = 1 ∧ fX4_isDone va co = some 1 ∧ fX6_isDone N = some 1 ∧ fX6_isValid N = some 1) := by
  unfold fX4_isDone fX6_isDone fX6_isValid
  rcases h with ⟨a1, a2, a3, a4, a5⟩ | ⟨a1, a2, a3, a4⟩
  · left
    subst a1
    rw [a2]
    exact ⟨rfl, rfl, rfl, rfl⟩
  · right
    subst a1
    rw [a2, a3]
    rcases hco with e | e
    · left; subst e; exact ⟨rfl, rfl, rfl, rfl, rfl⟩
    · right; subst e; exact ⟨rfl, rfl, rfl, rfl, rfl⟩
theorem have_loop {ks he N sk : Ar} {k c n : Nat} {x : Int32} (hk : k ≤ 8) (hc : c ≤ 12) (hs : okS ks k) (hn : n = ssum ks k) (h16 : n ≤ 16) (N3 : N 3 = nI c) (hd : fX6_isDone N = some 1) (hK : ∀ s, s < n → ∃ j, isK ks k s j ∧ sk s = nI j) (hhe : ∀ b, b < c → ∃ s, s < n ∧ he b = nI s) :
    ∀ r i (T : Int32), i + r = c → ∃ T' : Int32, (∀ f, r < f → fX3_cellsThatHave_b4 (nI k) ks (nI c) he f x T (nI i) = some T') ∧ (∀ f, r < f → fX6_having_b4 N sk he f x T (nI i) = some T') := by
  intro r
  induction r with
  | zero =>
    intro i T hi
    refine ⟨T, fun f hf => ?_, fun f hf => ?_⟩
    · obtain ⟨f, rfl⟩ := fu_pos hf
      rw [fX3_cellsThatHave_b4, if_pos (nI_le (by omega) (by omega))]
    · obtain ⟨f, rfl⟩ := fu_pos hf
      rw [fX6_having_b4, fX6_cells, bd1, N3, if_pos (nI_le (by omega) (by omega))]
  | succ r ih =>
    intro i T hi
    obtain ⟨s, hs', es⟩ := hhe i (by omega)
    obtain ⟨j, hj, ej⟩ := hK s hs'
    obtain ⟨T', g1, g2⟩ := ih (i + 1) (if nI j = x then T + 1 else T) (by omega)
    refine ⟨T', fun f hf => ?_, fun f hf => ?_⟩
    · obtain ⟨f, rfl⟩ := fu_pos hf
      have g := g1 f (by omega)
      rw [fX3_cellsThatHave_b4, if_neg (nI_ge (by omega) (by omega)), kindOfC_eq hk hs (by omega) (by omega) es hj, bd1, nI_1]
      by_cases z : nI j = x
      · rw [if_pos z] at g ⊢; exact g
      · rw [if_neg z] at g ⊢; exact g
    · obtain ⟨f, rfl⟩ := fu_pos hf
      have g := g2 f (by omega)
      rw [fX6_having_b4, fX6_cells, bd1, N3, if_neg (nI_ge (by omega) (by omega)), hd, bd1, if_neg n10, rd (by omega) (by omega), nI_clamp (by omega), es, rd (by omega) (by omega), nI_clamp (by omega), ej, nI_1]
      by_cases z : nI j = x
      · rw [if_pos z] at g ⊢; rw [bdv]; exact g
      · rw [if_neg z] at g ⊢; rw [bdv, show T + (0 : Int32) = T from Int32.add_zero _]; exact g
theorem s_kind {B : Int} {mo sh kn : Int32} {kd ks : Ar} {cn : Int32} {cd : Ar} {va co bi ph : Int32} {pr ho he N sk : Ar} (h : RelP B mo sh kn kd ks cn cd va co bi ph pr ho he N sk) (x y : Int32) : ∃ r : Int32, fX5_kind kn kd ks cn va co he x y = some r ∧ fX6_kind N kd ks sk he x y = some r := by
  obtain ⟨k, c, ⟨h1, h2, h3, h4, h5, h6, h7, h8⟩, hco, hsa⟩ := id h
  obtain ⟨w1, w2, w3, w4, w5, w6, w7⟩ := h4
  subst h1; subst h2
  unfold fX5_kind fX6_kind
  rw [fX6_kinds, bd1, h7]
  rcases cnt (c := k) x with ⟨j, hj, e⟩ | hx
  · subst e
    rw [has2_t w2 hj, inc_t (by omega) hj, bd1, bd1, if_neg n10, if_neg n10]
    by_cases e0 : y = 0
    · rw [if_pos e0, if_pos e0, rd (by omega) (by omega)]; exact ⟨_, rfl, rfl⟩
    rw [if_neg e0, if_neg e0]
    by_cases e1 : y = 1
    · rw [if_pos e1, if_pos e1, rd (by omega) (by omega)]; exact ⟨_, rfl, rfl⟩
    rw [if_neg e1, if_neg e1]
    by_cases e2 : y = 2
    · rw [if_pos e2, if_pos e2, firstSlot_eq w2 w4 (by omega), firstSlotM_eq w2 w4 (by omega)]; exact ⟨_, rfl, rfl⟩
    rw [if_neg e2, if_neg e2]
    by_cases e3 : y = 3
    · rw [if_pos e3, if_pos e3]
      have hno : fX4_isDone va co = some 0 → fX6_isDone N = some 0 → ∃ r : Int32, (bd1 (fX4_isDone va co) fun r_93 => if r_93 = 0 then some (0 : Int32) else bd1 (fX3_cellsThatHave (nI k) ks (nI c) he (nI j)) fun r_104 => some r_104) = some r ∧ (bd1 (fX6_having N sk he (nI j)) fun r_70 => some r_70) = some r := by
        intro z1 z2
        refine ⟨0, by rw [z1]; rfl, ?_⟩
        unfold fX6_having
        obtain ⟨f, hf⟩ : ∃ f, FU = f + 1 := ⟨1000000, rfl⟩
        rw [hf, fX6_having_b4, fX6_cells, bd1, h8]
        by_cases z : nI c ≤ (0 : Int32)
        · rw [if_pos z]; rfl
        · rw [if_neg z, z2]; rfl
      rcases done_cases hco hsa with ⟨-, z1, z2, -⟩ | ⟨-, -, z1, z2, -⟩ | ⟨z0, z00, z1, z2, -⟩
      · exact hno z1 z2
      · exact hno z1 z2
      · rcases hsa with ⟨a1, -⟩ | ⟨a1, a2, a3, a4, a5, a6, a7, a8, a9, a10, a11⟩
        · rw [z0] at a1; exact absurd a1 n10
        · obtain ⟨T, g1, g2⟩ := have_loop (x := nI j) w2 w6 w4 rfl (by omega) h8 z2 a10 (fun b hb => by obtain ⟨s, q1, q2, -⟩ := a11.2.1 b (by omega); exact ⟨s, q1, q2⟩) c 0 0 (by omega)
          have g1' : fX3_cellsThatHave (nI k) ks (nI c) he (nI j) = some T := g1 FU (FU_gt (by omega))
          have g2' : fX6_having N sk he (nI j) = some T := g2 FU (FU_gt (by omega))
          refine ⟨T, ?_, ?_⟩
          · rw [z1, bd1, if_neg n10, g1']; rfl
          · rw [g2']; rfl
    rw [if_neg e3, if_neg e3]
    exact ⟨_, rfl, rfl⟩
  · rw [has2_f w2 hx, inc_f (by omega) hx, bd1, bd1, if_pos rfl, if_pos rfl]
    exact ⟨_, rfl, rfl⟩
theorem hasPhase_t {p j : Nat} (hp : p ≤ 16) (hj : j < p) : fX4_hasPhase (nI p) (nI j) = some 1 := by
  unfold fX4_hasPhase
  rw [if_neg (nI_pos (by omega)), if_neg (nI_ge hj (by omega)), if_neg (ge16 (by omega : j < 16))]
theorem hasPhase_f {p : Nat} (hp : p ≤ 16) {x : Int32} (h : ∀ j, j < p → x ≠ nI j) : fX4_hasPhase (nI p) x = some 0 := by
  unfold fX4_hasPhase
  by_cases h1 : x < 0
  · rw [if_pos h1]
  · rw [if_neg h1, if_pos (by
      rw [Int32.le_iff_toInt_le, nI_toInt (by omega)]
      rw [Int32.lt_iff_toInt_lt, i0] at h1
      have := notin h; omega)]
theorem s_phase {B : Int} {mo sh kn : Int32} {kd ks : Ar} {cn : Int32} {cd : Ar} {va co bi ph : Int32} {pr ho he N sk : Ar} (h : RelP B mo sh kn kd ks cn cd va co bi ph pr ho he N sk) (st pb ps : Ar) (x y : Int32) : ∃ r : Int32, fX5_phase va ph st pb ps x y = some r ∧ fX6_phase N st pb ps x y = some r := by
  obtain ⟨k, c, ⟨h1, h2, h3, h4, h5, h6, h7, h8⟩, hco, hsa⟩ := id h
  unfold fX5_phase fX6_phase fX6_isValid
  rcases hsa with ⟨a1, a2, -⟩ | ⟨a1, a2, a3, a4, a5, ⟨p, hp, ep⟩, -⟩
  · rw [if_pos a1, if_neg (by rw [a2]; decide), bd1, if_pos rfl]
    exact ⟨_, rfl, rfl⟩
  · rw [if_neg (by rw [a1]; decide), if_pos a2, bd1, if_neg n10, a4, ep]
    rcases cnt (c := p) x with ⟨j, hj, e⟩ | hx
    · subst e
      rw [hasPhase_t hp hj, inc_t (by omega) hj, bd1, if_neg n10]
      by_cases e0 : y = 0
      · rw [if_pos e0, rd (by omega) (by omega)]; exact ⟨_, rfl, rfl⟩
      rw [if_neg e0]
      by_cases e1 : y = 1
      · rw [if_pos e1, rd (by omega) (by omega)]; exact ⟨_, rfl, rfl⟩
      rw [if_neg e1]
      by_cases e2 : y = 2
      · rw [if_pos e2, rd (by omega) (by omega)]; exact ⟨_, rfl, rfl⟩
      rw [if_neg e2]
      exact ⟨_, rfl, rfl⟩
    · rw [hasPhase_f hp hx, inc_f (by omega) hx, bd1, if_pos rfl]
      exact ⟨_, rfl, rfl⟩
theorem s_place {B : Int} {mo sh kn : Int32} {kd ks : Ar} {cn : Int32} {cd : Ar} {va co bi ph : Int32} {pr ho he N sk : Ar} (h : RelP B mo sh kn kd ks cn cd va co bi ph pr ho he N sk) (x : Int32) : ∃ r : Int32, fX5_place kn ks cn va co he x = some r ∧ fX6_place N sk he x = some r := by
  obtain ⟨k, c, ⟨h1, h2, h3, h4, h5, h6, h7, h8⟩, hco, hsa⟩ := id h
  obtain ⟨w1, w2, w3, w4, w5, w6, w7⟩ := h4
  subst h1; subst h2
  unfold fX5_place fX6_place
  rcases done_cases hco hsa with ⟨-, z1, z2, -⟩ | ⟨-, -, z1, z2, -⟩ | ⟨z0, z00, z1, z2, -⟩
  · rw [z1, z2, bd1, bd1, if_pos rfl, if_pos rfl]; exact ⟨_, rfl, rfl⟩
  · rw [z1, z2, bd1, bd1, if_pos rfl, if_pos rfl]; exact ⟨_, rfl, rfl⟩
  · rw [z1, z2, bd1, bd1, if_neg n10, if_neg n10]
    rcases cnt (c := c) x with ⟨j, hj, e⟩ | hx
    · subst e
      rcases hsa with ⟨a1, -⟩ | ⟨a1, a2, a3, a4, a5, a6, a7, a8, a9, a10, a11⟩
      · rw [z0] at a1; exact absurd a1 n10
      · obtain ⟨s, q1, q2, -⟩ := a11.2.1 j (by omega)
        obtain ⟨i, q3, q4⟩ := a10 s q1
        rw [has1_t w6 hj, isCell_t h8 w6 hj, bd1, bd1, if_neg n10, if_neg n10, kindOfC_eq w2 w4 w5 (by omega) q2 q3, rd (by omega) (by omega), nI_clamp (by omega), q2, rd (by omega) (by omega), nI_clamp (by omega), q4]
        exact ⟨_, rfl, rfl⟩
    · rw [has1_f w6 hx, isCell_f h8 w6 hx, bd1, bd1, if_pos rfl, if_pos rfl]
      exact ⟨_, rfl, rfl⟩
theorem s_total {B : Int} {mo sh kn : Int32} {kd ks : Ar} {cn : Int32} {cd : Ar} {va co bi ph : Int32} {pr ho he N sk : Ar} (h : RelP B mo sh kn kd ks cn cd va co bi ph pr ho he N sk) : ∃ r : Int32, fX5_total mo kn kd ks cn cd va co he = some r ∧ fX6_total N kd cd sk he = some r := by
  obtain ⟨k, c, ⟨h1, h2, h3, h4, h5, h6, h7, h8⟩, hco, hsa⟩ := id h
  subst h1; subst h2
  unfold fX5_total fX6_total
  rcases done_cases hco hsa with ⟨-, z1, z2, -⟩ | ⟨-, -, z1, z2, -⟩ | ⟨z0, z00, z1, z2, -⟩
  · rw [z1, z2, bd1, bd1, if_pos rfl, if_pos rfl]; exact ⟨_, rfl, rfl⟩
  · rw [z1, z2, bd1, bd1, if_pos rfl, if_pos rfl]; exact ⟨_, rfl, rfl⟩
  · rcases hsa with ⟨a1, -⟩ | ⟨a1, a2, a3, a4, a5, a6, a7, a8, a9, a10, a11⟩
    · rw [z0] at a1; exact absurd a1 n10
    · have hK' : ∀ s, s < ssum ks k → isK ks k s (sk s).toNatClampNeg ∧ sk s = nI (sk s).toNatClampNeg := fun s hs => by
        obtain ⟨j, a, b⟩ := a10 s hs
        have hj := a.1
        have hk := h4.2.1
        rw [b, nI_clamp (by omega)]
        exact ⟨a, rfl⟩
      obtain ⟨T, t1, t2⟩ := sum_eq (kf := fun s => (sk s).toNatClampNeg) h4 rfl h5 h8 hK' (fun b hb => by obtain ⟨s, q1, q2, -⟩ := a11.2.1 b (by omega); exact ⟨s, q1, q2⟩)
      rw [z1, z2, bd1, bd1, if_neg n10, if_neg n10, t1, t2]
      exact ⟨_, rfl, rfl⟩
theorem row_f {x : Int32} (h : ∀ j, j < 16 → x ≠ nI j) : fX4_isInRow x = some 0 := by
  unfold fX4_isInRow
  by_cases h1 : x < 0
  · rw [if_pos h1]
  · rw [if_neg h1, if_pos (by
      rw [Int32.le_iff_toInt_le, show (16 : Int32).toInt = 16 from rfl]
      rw [Int32.lt_iff_toInt_lt, i0] at h1
      have := notin h; omega)]
theorem s_slot {B : Int} {mo sh kn : Int32} {kd ks : Ar} {cn : Int32} {cd : Ar} {va co bi ph : Int32} {pr ho he N sk : Ar} (h : RelP B mo sh kn kd ks cn cd va co bi ph pr ho he N sk) (x y : Int32) : ∃ r : Int32, fX5_slot kn ks cn va co pr ho x y = some r ∧ fX6_slot N pr sk ho x y = some r := by
  obtain ⟨k, c, ⟨h1, h2, h3, h4, h5, h6, h7, h8⟩, hco, hsa⟩ := id h
  obtain ⟨w1, w2, w3, w4, w5, w6, w7⟩ := h4
  subst h1; subst h2
  unfold fX5_slot fX6_slot
  have main : va = 1 → ∃ r : Int32, fX5_slot_b34 (nI k) ks (nI c) va co pr ho x y = some r ∧ fX6_slot_b22 N pr sk ho x y = some r := by
    intro hva
    rcases hsa with ⟨a1, -⟩ | ⟨a1, a2, a3, a4, a5, a6, a7, a8, a9, a10, a11⟩
    · rw [hva] at a1; exact absurd a1 n10
    · unfold fX5_slot_b34 fX6_slot_b22
      rw [a9]
      rcases cnt (c := ssum ks k) x with ⟨s, hs, e⟩ | hx
      · subst e
        rw [row_t (by omega), inc_t (by omega) hs, bd1, bd1, if_neg n10, if_neg n10, slots_eq w2 w4, bd1, if_pos (nI_lt hs (by omega))]
        by_cases e0 : y = 0
        · rw [if_pos e0, if_pos e0, rd (by omega) (by omega)]; exact ⟨_, rfl, rfl⟩
        rw [if_neg e0, if_neg e0]
        by_cases e1 : y = 1
        · obtain ⟨j, q1, q2⟩ := a10 s hs
          rw [if_pos e1, if_pos e1, ofSlot_eq w2 w4 w5 q1, rd (by omega) (by omega), nI_clamp (by omega), q2]; exact ⟨_, rfl, rfl⟩
        rw [if_neg e1, if_neg e1]
        by_cases e2 : y = 2
        · obtain ⟨b, q1, q2, -⟩ := a11.2.2.1 s hs
          rw [if_pos e2, if_pos e2, rd (by omega) (by omega), nI_clamp (by omega), fX6_cells, bd1, h8, q2]
          unfold fX3_cellOf
          rw [row_t (by omega), bd1, if_neg n10, rd (by omega) (by omega), nI_clamp (by omega), bdv, q2]
          by_cases z : b < c
          · rw [has1_t w6 z, bd1, if_neg n10, if_neg (nI_ge z (by omega)), if_neg (show ¬ (nI s < 0 ∨ 16 ≤ s) from fun z => z.elim (nI_pos (by omega)) (by omega))]; exact ⟨_, rfl, rfl⟩
          · rw [has1_f w6 (fun j hj e => by rw [nI_eq (by omega) (by omega)] at e; omega), bd1, if_pos rfl, if_pos (nI_le (by omega) (by omega))]; exact ⟨_, rfl, rfl⟩
        rw [if_neg e2, if_neg e2]
        exact ⟨_, rfl, rfl⟩
      · rw [inc_f (by omega) hx, bd1, if_pos rfl]
        refine ⟨-1, ?_, rfl⟩
        rcases cnt (c := 16) x with ⟨s, hs, e⟩ | hx2
        · subst e
          have : ssum ks k ≤ s := by
            rcases Nat.lt_or_ge s (ssum ks k) with z | z
            · exact absurd rfl (hx s z)
            · exact z
          rw [row_t hs, bd1, if_neg n10, slots_eq w2 w4, bd1, if_neg (nI_nlt this (by omega))]
        · rw [row_f hx2, bd1, if_pos rfl]
  rcases done_cases hco hsa with ⟨z0, z1, z2, z3⟩ | ⟨z0, z00, z1, z2, z3⟩ | ⟨z0, z00, z1, z2, z3⟩
  · rw [if_pos z0, z3, bd1, if_pos rfl]; exact ⟨_, rfl, rfl⟩
  · rw [if_neg (by rw [z0]; decide), z3, bd1, if_neg n10]
    by_cases e2 : y = 2
    · rw [if_pos e2, if_pos e2, if_pos z00, z2, bd1, if_pos rfl]; exact ⟨_, rfl, rfl⟩
    · rw [if_neg e2, if_neg e2]; exact main z0
  · rw [if_neg (by rw [z0]; decide), z3, bd1, if_neg n10]
    by_cases e2 : y = 2
    · rw [if_pos e2, if_pos e2, if_neg (by rw [z00]; decide), z2, bd1, if_neg n10]; exact main z0
    · rw [if_neg e2, if_neg e2]; exact main z0
theorem s_gain {B : Int} {mo sh kn : Int32} {kd ks : Ar} {cn : Int32} {cd : Ar} {va co bi ph : Int32} {pr ho he N sk : Ar} (h : RelP B mo sh kn kd ks cn cd va co bi ph pr ho he N sk) (Sl : Int32) (Wo : Ar) (x y : Int32) : ∃ (r Sl' : Int32) (Wo' : Ar), fX5_gain Sl Wo mo kn kd ks cn cd va co pr he x y = some (r, Sl', Wo') ∧ fX6_gain N kd cd pr sk he x y = some r := by
  obtain ⟨k, c, ⟨h1, h2, h3, h4, h5, h6, h7, h8⟩, hco, hsa⟩ := id h
  have w6 := h4.2.2.2.2.2.1
  have w5 := h4.2.2.2.2.1
  subst h1; subst h2
  unfold fX5_gain fX6_gain
  have main : va = 1 → ∃ (r Sl' : Int32) (Wo' : Ar), fX5_gain_b33 mo (nI k) kd ks (nI c) cd va co pr he x y Sl Wo = some (r, Sl', Wo') ∧ fX6_gain_b21 N kd cd pr sk he x y = some r := by
    intro hva
    rcases hsa with ⟨a1, -⟩ | ⟨a1, a2, a3, a4, a5, a6, a7, a8, a9, a10, a11⟩
    · rw [hva] at a1; exact absurd a1 n10
    · unfold fX5_gain_b33 fX6_gain_b21
      rcases cnt (c := c) x with ⟨j, hj, e⟩ | hx
      · subst e
        have hK' : ∀ s, s < ssum ks k → isK ks k s (sk s).toNatClampNeg ∧ sk s = nI (sk s).toNatClampNeg := fun s hs => by
          obtain ⟨j, a, b⟩ := a10 s hs
          have hj := a.1
          have hk := h4.2.1
          rw [b, nI_clamp (by omega)]
          exact ⟨a, rfl⟩
        obtain ⟨Wo', r1, r2⟩ := readWorths_eq (kf := fun s => (sk s).toNatClampNeg) h4 rfl (fun s hs => (hK' s hs).1) Sl Wo
        have hgM : ∀ t, t < ssum ks k → fX6_gainOf N kd cd pr sk (nI j) (nI t) = some (gn (wt mo kd cd c (ssum ks k) fun s => (sk s).toNatClampNeg) pr j t) := fun t ht => gainM_eq (kf := fun s => (sk s).toNatClampNeg) h4 h5 h8 a9 (hK' t ht).1 (hK' t ht).2 (by omega) (by omega) pr
        have hgC : ∀ t, t < ssum ks k → Wo' (j * 16 + t) - pr t = gn (wt mo kd cd c (ssum ks k) fun s => (sk s).toNatClampNeg) pr j t := fun t ht => by rw [r1 j t (by omega) ht]; rfl
        rw [has1_t w6 hj, isCell_t h8 w6 hj, bd1, bd1, if_neg n10, if_neg n10]
        by_cases e0 : y = 0
        · obtain ⟨s, q1, q2, -⟩ := a11.2.1 j (by omega)
          have g1 := ownGain_eq (Wo := Wo') (pr := pr) (he := he) (b := j) (s := s) (by omega) (by omega) q2
          rw [hgC s q1] at g1
          rw [if_pos e0, l0, l1, in_t (by rw [e0]; decide) (by rw [e0]; decide), bd1, if_neg n10, if_pos e0, rd (by omega) (by omega), nI_clamp (by omega), q2, hgM s q1]
          unfold fX5_gain_b62
          rw [r2, bd2, if_pos e0, g1]
          exact ⟨_, _, _, rfl, rfl⟩
        · by_cases e1 : y = 1
          · rw [if_neg e0, if_pos e1, l0, l1, in_t (by rw [e1]; decide) (by rw [e1]; decide), bd1, if_neg n10, if_neg e0, best_eq (by omega) a7 a9 hgM, bd1, hgM _ (amx_lt _ a7)]
            unfold fX5_gain_b62
            rw [r2, bd2, if_neg e0, greatGain_eq (by omega) a7 (by omega) hgC]
            exact ⟨_, _, _, rfl, rfl⟩
          · have n0 : y.toInt ≠ 0 := fun z => e0 (Int32.toInt_inj.mp z)
            have n1 : y.toInt ≠ 1 := fun z => e1 (Int32.toInt_inj.mp z)
            rw [if_neg e0, if_neg e1, l0, l1, in_f (by rw [show (0 : Int32).toInt = 0 from rfl, show (1 : Int32).toInt = 1 from rfl]; omega), bd1, if_pos rfl]
            exact ⟨_, _, _, rfl, rfl⟩
      · rw [has1_f w6 hx, isCell_f h8 w6 hx, bd1, bd1, if_pos rfl, if_pos rfl]
        exact ⟨_, _, _, rfl, rfl⟩
  rcases done_cases hco hsa with ⟨z0, z1, z2, z3⟩ | ⟨z0, z00, z1, z2, z3⟩ | ⟨z0, z00, z1, z2, z3⟩
  · rw [if_pos z0, z3, bd1, if_pos rfl]; exact ⟨_, _, _, rfl, rfl⟩
  · rw [if_neg (by rw [z0]; decide), z3, bd1, if_neg n10]
    by_cases e2 : y = 0
    · rw [if_pos e2, if_pos e2, if_pos z00, z2, bd1, if_pos rfl]; exact ⟨_, _, _, rfl, rfl⟩
    · rw [if_neg e2, if_neg e2]; exact main z0
  · rw [if_neg (by rw [z0]; decide), z3, bd1, if_neg n10]
    by_cases e2 : y = 0
    · rw [if_pos e2, if_pos e2, if_neg (by rw [z00]; decide), z2, bd1, if_neg n10]; exact main z0
    · rw [if_neg e2, if_neg e2]; exact main z0
