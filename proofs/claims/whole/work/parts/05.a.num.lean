/-! 05.a: numbers; finding a kind; sums of stocks; the kind of a slot -/
abbrev Ar : Type := Nat → Int32
theorem nI_sb {a b : Nat} (h : b ≤ a) : nI a - nI b = nI (a - b) := (Int32.ofNat_sub a b h).symm
theorem nI_ml (a b : Nat) : nI a * nI b = nI (a * b) := (Int32.ofNat_mul a b).symm
theorem nI_dv {a b : Nat} (ha : a < 2 ^ 31) (hb : b < 2 ^ 31) : nI a / nI b = nI (a / b) := (Int32.ofNat_div ha hb).symm
theorem rd {α : Type} {j n : Nat} {k : Option α} (h : j < n) (hn : n < 2 ^ 31) : (if nI j < 0 ∨ n ≤ (nI j).toNatClampNeg then none else k) = k := if_neg (nI_in h hn)
theorem ge8 {j : Nat} (h : j < 8) : ¬ (8 : Int32) ≤ nI j := nI_ge (b := 8) h (by decide)
theorem ge12 {j : Nat} (h : j < 12) : ¬ (12 : Int32) ≤ nI j := nI_ge (b := 12) h (by decide)
theorem ge16 {j : Nat} (h : j < 16) : ¬ (16 : Int32) ≤ nI j := nI_ge (b := 16) h (by decide)
theorem notin {c : Nat} {x : Int32} (h : ∀ j, j < c → x ≠ nI j) : x.toInt < 0 ∨ (c : Int) ≤ x.toInt := by
  rcases Int.lt_or_le x.toInt 0 with h1 | h1
  · exact Or.inl h1
  · refine Or.inr (Int.not_lt.mp fun h2 => ?_)
    have h3 : x = nI x.toInt.toNat := Int32.toInt_inj.mp (by rw [nI_toInt (by have := x.toInt_lt; omega)]; omega)
    exact h x.toInt.toNat (by omega) h3
theorem nI_tN {x : Int32} (h : 0 ≤ x.toInt) : x = nI x.toNatClampNeg := by
  have e : x.toNatClampNeg = x.toInt.toNat := (Int32.toNat_toInt x).symm
  exact Int32.toInt_inj.mp (by rw [e, nI_toInt (by have := x.toInt_lt; omega)]; omega)
theorem nI_of0 {x : Int32} (h : 0 ≤ x.toInt) : ∃ j : Nat, (j : Int) = x.toInt ∧ x = nI j := ⟨x.toInt.toNat, by omega, by
  have := nI_tN h
  rw [← Int32.toNat_toInt] at this
  exact this⟩
theorem m6_neg : (-6 : Int32) < 0 := by decide
theorem nI_ne6 {j : Nat} (h : j < 2 ^ 31) : nI j ≠ -6 := fun e => nI_pos h (by rw [e]; exact m6_neg)
theorem upd_s {f : Ar} {k : Nat} {x : Int32} : upd f k x k = x := if_pos rfl
theorem upd_n {f : Ar} {k j : Nat} {x : Int32} (h : j ≠ k) : upd f k x j = f j := if_neg h
theorem upd_id {f : Ar} {k : Nat} : upd f k (f k) = f := funext fun j => by
  by_cases h : j = k
  · subst h; exact upd_s
  · exact upd_n h
theorem upd_uu {f : Ar} {k : Nat} {x y : Int32} : upd (upd f k x) k y = upd f k y := funext fun j => by
  by_cases h : j = k
  · subst h; rw [upd_s, upd_s]
  · rw [upd_n h, upd_n h, upd_n h]
theorem FU_big : ∃ k, FU = k + 1000000 := ⟨1, rfl⟩
theorem FU_gt {n : Nat} (h : n ≤ 1000000) : n < FU := Nat.lt_of_le_of_lt h (Nat.le_of_ble_eq_true rfl)
theorem fu_pos {r n : Nat} (h : r < n) : ∃ k, n = k + 1 := ⟨n - 1, by omega⟩
/-! dots -/
def okD (x : Int32) : Prop := 0 ≤ x.toInt ∧ x.toInt ≤ 9999
theorem i9999 : (9999 : Int32).toInt = 9999 := rfl
theorem i0 : (0 : Int32).toInt = 0 := rfl
theorem areDots_t {x : Int32} (h : okD x) : fX5_areDots x = some 1 := by
  unfold fX5_areDots
  rw [if_neg (by rw [Int32.lt_iff_toInt_lt, i0]; have := h.1; omega), if_neg (by rw [Int32.lt_iff_toInt_lt, i9999]; have := h.2; omega)]
theorem areDots_f {x : Int32} (h : ¬ okD x) : fX5_areDots x = some 0 := by
  unfold fX5_areDots
  split
  · rfl
  · split
    · rfl
    · rename_i h1 h2
      refine absurd ⟨?_, ?_⟩ h
      · rw [Int32.lt_iff_toInt_lt, i0] at h1; omega
      · rw [Int32.lt_iff_toInt_lt, i9999] at h2; omega
theorem in_t {x lo hi : Int32} (h1 : lo.toInt ≤ x.toInt) (h2 : x.toInt ≤ hi.toInt) : fX6_in x.toInt64 lo.toInt64 hi.toInt64 = some 1 := by
  unfold fX6_in
  rw [if_neg (by rw [lg_cmp_lt, Int32.toInt64_lt, Int32.lt_iff_toInt_lt]; omega), if_neg (by rw [lg_cmp_gt, Int32.toInt64_lt, Int32.lt_iff_toInt_lt]; omega)]
theorem in_f {x lo hi : Int32} (h : x.toInt < lo.toInt ∨ hi.toInt < x.toInt) : fX6_in x.toInt64 lo.toInt64 hi.toInt64 = some 0 := by
  unfold fX6_in
  rcases h with h | h
  · rw [if_pos (by rw [lg_cmp_lt, Int32.toInt64_lt, Int32.lt_iff_toInt_lt]; omega)]
  · by_cases h1 : lg_cmp x.toInt64 lo.toInt64 < 0
    · rw [if_pos h1]
    · rw [if_neg h1, if_pos (by rw [lg_cmp_gt, Int32.toInt64_lt, Int32.lt_iff_toInt_lt]; omega)]
theorem l0 : (0 : Int64) = (0 : Int32).toInt64 := by decide
theorem l1 : (1 : Int64) = (1 : Int32).toInt64 := by decide
theorem l2 : (2 : Int64) = (2 : Int32).toInt64 := by decide
theorem l4 : (4 : Int64) = (4 : Int32).toInt64 := by decide
theorem l8 : (8 : Int64) = (8 : Int32).toInt64 := by decide
theorem l9 : (9 : Int64) = (9 : Int32).toInt64 := by decide
theorem l9999 : (9999 : Int64) = (9999 : Int32).toInt64 := by decide
theorem isDots_t {x : Int32} (h : okD x) : fX6_isDots x = some 1 := by
  unfold fX6_isDots
  rw [l0, l9999, in_t (by rw [i0]; exact h.1) (by rw [i9999]; exact h.2)]
  rfl
theorem isDots_f {x : Int32} (h : ¬ okD x) : fX6_isDots x = some 0 := by
  unfold fX6_isDots
  rw [l0, l9999, in_f (by
    rw [i0, i9999]
    by_cases h1 : x.toInt < 0
    · exact Or.inl h1
    · exact Or.inr (Int.not_le.mp fun h2 => h ⟨by omega, h2⟩))]
  rfl
/-- a count c, and an index x: among them, or not -/
theorem cnt {c : Nat} (x : Int32) : (∃ j, j < c ∧ x = nI j) ∨ ∀ j, j < c → x ≠ nI j := by
  by_cases h : ∃ j, j < c ∧ x = nI j
  · exact Or.inl h
  · exact Or.inr fun j hj e => h ⟨j, hj, e⟩
theorem inc_t {c j : Nat} (hc : c < 2 ^ 31) (hj : j < c) : fX6_in (nI j).toInt64 0 (nI c - 1).toInt64 = some 1 := by
  have e : nI c - 1 = nI (c - 1) := nI_sb (b := 1) (by omega)
  rw [l0, e]
  exact in_t (by rw [i0, nI_toInt (by omega)]; omega) (by rw [nI_toInt (by omega), nI_toInt (by omega)]; omega)
theorem inc_f {c : Nat} (hc : c < 2 ^ 31) {x : Int32} (h : ∀ j, j < c → x ≠ nI j) : fX6_in x.toInt64 0 (nI c - 1).toInt64 = some 0 := by
  have h1 := notin h
  rw [l0]
  refine in_f ?_
  rw [i0]
  rcases h1 with h1 | h1
  · exact Or.inl h1
  · refine Or.inr ?_
    rcases Nat.eq_zero_or_pos c with h0 | h0
    · subst h0
      have : (nI 0 - 1).toInt = -1 := rfl
      rw [this]; omega
    · have e : nI c - 1 = nI (c - 1) := nI_sb (b := 1) (by omega)
      rw [e, nI_toInt (by omega)]; omega
theorem has2_t {kn j : Nat} (hk : kn ≤ 8) (hj : j < kn) : fX2_has (nI kn) (nI j) = some 1 := by
  unfold fX2_has
  rw [if_neg (nI_pos (by omega)), if_neg (nI_ge hj (by omega)), if_neg (ge8 (by omega : j < 8))]
theorem has2_f {kn : Nat} (hk : kn ≤ 8) {x : Int32} (h : ∀ j, j < kn → x ≠ nI j) : fX2_has (nI kn) x = some 0 := by
  unfold fX2_has
  by_cases h1 : x < 0
  · rw [if_pos h1]
  · rw [if_neg h1, if_pos (by
      rw [Int32.le_iff_toInt_le, nI_toInt (by omega)]
      rw [Int32.lt_iff_toInt_lt, i0] at h1
      have := notin h; omega)]
theorem has1_t {cn j : Nat} (hk : cn ≤ 12) (hj : j < cn) : fX1_has (nI cn) (nI j) = some 1 := by
  unfold fX1_has
  rw [if_neg (nI_pos (by omega)), if_neg (nI_ge hj (by omega)), if_neg (ge12 (by omega : j < 12))]
theorem has1_f {cn : Nat} (hk : cn ≤ 12) {x : Int32} (h : ∀ j, j < cn → x ≠ nI j) : fX1_has (nI cn) x = some 0 := by
  unfold fX1_has
  by_cases h1 : x < 0
  · rw [if_pos h1]
  · rw [if_neg h1, if_pos (by
      rw [Int32.le_iff_toInt_le, nI_toInt (by omega)]
      rw [Int32.lt_iff_toInt_lt, i0] at h1
      have := notin h; omega)]
theorem isCell_t {N : Ar} {cn j : Nat} (hN : N 3 = nI cn) (hk : cn ≤ 12) (hj : j < cn) : fX6_isCell N (nI j) = some 1 := by
  unfold fX6_isCell fX6_cells
  show (bd1 (fX6_in (nI j).toInt64 0 (N 3 - 1).toInt64) fun r_10 => if r_10 = 0 ∨ r_10 = 1 then some r_10 else none) = some 1
  rw [hN, inc_t (by omega) hj]
  rfl
theorem isCell_f {N : Ar} {cn : Nat} (hN : N 3 = nI cn) (hk : cn ≤ 12) {x : Int32} (h : ∀ j, j < cn → x ≠ nI j) : fX6_isCell N x = some 0 := by
  unfold fX6_isCell fX6_cells
  show (bd1 (fX6_in x.toInt64 0 (N 3 - 1).toInt64) fun r_10 => if r_10 = 0 ∨ r_10 = 1 then some r_10 else none) = some 0
  rw [hN, inc_f (by omega) h]
  rfl
theorem row_t {j : Nat} (hj : j < 16) : fX4_isInRow (nI j) = some 1 := by
  unfold fX4_isInRow
  rw [if_neg (nI_pos (by omega)), if_neg (ge16 hj)]
theorem row_6 : fX4_isInRow (-6) = some 0 := by decide
/-! the first kind with such dots -/
def fndF (kd : Ar) (x : Int32) : Nat → Nat → Int32
  | 0, _ => -6
  | r + 1, i => if kd i = x then nI i else fndF kd x r (i + 1)
theorem fndF_spec (kd : Ar) (x : Int32) : ∀ r i, (fndF kd x r i = -6 ∧ ∀ j, i ≤ j → j < i + r → kd j ≠ x) ∨ ∃ j, i ≤ j ∧ j < i + r ∧ kd j = x ∧ fndF kd x r i = nI j := by
  intro r
  induction r with
  | zero => intro i; exact Or.inl ⟨rfl, fun j h1 h2 => absurd h2 (by omega)⟩
  | succ r ih =>
    intro i
    unfold fndF
    by_cases h : kd i = x
    · rw [if_pos h]; exact Or.inr ⟨i, by omega, by omega, h, rfl⟩
    · rw [if_neg h]
      rcases ih (i + 1) with ⟨h1, h2⟩ | ⟨j, h1, h2, h3, h4⟩
      · refine Or.inl ⟨h1, fun j h3 h4 => ?_⟩
        rcases Nat.eq_or_lt_of_le h3 with h5 | h5
        · rw [← h5]; exact h
        · exact h2 j (by omega) (by omega)
      · exact Or.inr ⟨j, by omega, by omega, h3, h4⟩
theorem numberOf_loop {kn : Nat} (hk : kn ≤ 8) (kd : Ar) (x : Int32) : ∀ r i n, i + r = kn → r < n → fX2_numberOf_b2 (nI kn) kd n x (nI i) = some (fndF kd x r i) := by
  intro r
  induction r with
  | zero =>
    intro i n hi hn
    obtain ⟨n, rfl⟩ := fu_pos hn
    rw [fX2_numberOf_b2, if_pos (nI_le (by omega) (by omega))]
    rfl
  | succ r ih =>
    intro i n hi hn
    obtain ⟨n, rfl⟩ := fu_pos hn
    rw [fX2_numberOf_b2, if_neg (nI_ge (by omega) (by omega)), if_neg (ge8 (by omega : i < 8)), rd (by omega) (by omega), nI_clamp (by omega), fndF]
    by_cases h : kd i = x
    · rw [if_pos h, if_pos h]
    · rw [if_neg h, if_neg h, nI_1]
      exact ih (i + 1) n (by omega) (by omega)
theorem numberOf_eq {kn : Nat} (hk : kn ≤ 8) (kd : Ar) (x : Int32) : fX2_numberOf (nI kn) kd x = some (fndF kd x kn 0) := numberOf_loop hk kd x kn 0 FU (by omega) (FU_gt (by omega))
theorem kindOf_loop {kn : Nat} {N : Ar} (hN : N 2 = nI kn) (hk : kn ≤ 8) (kd : Ar) (x : Int32) : ∀ r i n, i + r = kn → r < n → fX6_kindOf_b2 N kd n x (nI i) = some (fndF kd x r i) := by
  intro r
  induction r with
  | zero =>
    intro i n hi hn
    obtain ⟨n, rfl⟩ := fu_pos hn
    rw [fX6_kindOf_b2, fX6_kinds, bd1, hN, if_pos (nI_le (by omega) (by omega))]
    rfl
  | succ r ih =>
    intro i n hi hn
    obtain ⟨n, rfl⟩ := fu_pos hn
    rw [fX6_kindOf_b2, fX6_kinds, bd1, hN, if_neg (nI_ge (by omega) (by omega)), rd (by omega) (by omega), nI_clamp (by omega), fndF]
    by_cases h : kd i = x
    · rw [if_pos h, if_pos h]
    · rw [if_neg h, if_neg h, nI_1]
      exact ih (i + 1) n (by omega) (by omega)
theorem kindOf_eq {kn : Nat} {N : Ar} (hN : N 2 = nI kn) (hk : kn ≤ 8) (kd : Ar) (x : Int32) : fX6_kindOf N kd x = some (fndF kd x kn 0) := kindOf_loop hN hk kd x kn 0 FU (by omega) (FU_gt (by omega))
/-! sums of stocks -/
def ssum (ks : Ar) : Nat → Nat
  | 0 => 0
  | j + 1 => ssum ks j + (ks j).toNatClampNeg
def okS (ks : Ar) (kn : Nat) : Prop := ∀ j, j < kn → 1 ≤ (ks j).toInt ∧ (ks j).toInt ≤ 4
theorem okS_n {ks : Ar} {kn j : Nat} (h : okS ks kn) (hj : j < kn) : ks j = nI (ks j).toNatClampNeg := nI_tN (by have := (h j hj).1; omega)
theorem okS_b {ks : Ar} {kn j : Nat} (h : okS ks kn) (hj : j < kn) : 1 ≤ (ks j).toNatClampNeg ∧ (ks j).toNatClampNeg ≤ 4 := by
  have h1 := h j hj
  have e : (ks j).toNatClampNeg = (ks j).toInt.toNat := (Int32.toNat_toInt _).symm
  omega
theorem ssum_mono {ks : Ar} : ∀ {i j : Nat}, i ≤ j → ssum ks i ≤ ssum ks j := by
  intro i j h
  induction j with
  | zero => rw [Nat.le_zero.mp h]; exact Nat.le_refl _
  | succ j ih =>
    rcases Nat.eq_or_lt_of_le h with h1 | h1
    · rw [h1]; exact Nat.le_refl _
    · exact Nat.le_trans (ih (by omega)) (Nat.le_add_right _ _)
theorem firstSlot_loop {ks : Ar} {kn j : Nat} (hk : kn ≤ 8) (hs : okS ks kn) (hj : j ≤ kn) : ∀ r i n, i + r = j → r < n → fX2_firstSlot_b4 ks n (nI j) (nI (ssum ks i)) (nI i) = some (nI (ssum ks j)) := by
  intro r
  induction r with
  | zero =>
    intro i n hi hn
    obtain ⟨n, rfl⟩ := fu_pos hn
    obtain rfl : i = j := by omega
    rw [fX2_firstSlot_b4, if_pos (nI_le (by omega) (by omega))]
  | succ r ih =>
    intro i n hi hn
    obtain ⟨n, rfl⟩ := fu_pos hn
    rw [fX2_firstSlot_b4, if_neg (nI_ge (by omega) (by omega)), if_neg (ge8 (by omega : i < 8)), rd (by omega) (by omega), nI_clamp (by omega), bdv, nI_1]
    have e : nI (ssum ks i) + ks i = nI (ssum ks (i + 1)) := by rw [okS_n hs (by omega : i < kn), nI_add]; rfl
    rw [e]
    exact ih (i + 1) n (by omega) (by omega)
theorem firstSlot_eq {ks : Ar} {kn j : Nat} (hk : kn ≤ 8) (hs : okS ks kn) (hj : j ≤ kn) : fX2_firstSlot ks (nI j) = some (nI (ssum ks j)) := firstSlot_loop hk hs hj j 0 FU (by omega) (FU_gt (by omega))
theorem slots_eq {ks : Ar} {kn : Nat} (hk : kn ≤ 8) (hs : okS ks kn) : fX2_slots (nI kn) ks = some (nI (ssum ks kn)) := by
  unfold fX2_slots
  rw [firstSlot_eq hk hs (Nat.le_refl _)]
  rfl
theorem firstSlotM_loop {ks : Ar} {kn j : Nat} (hk : kn ≤ 8) (hs : okS ks kn) (hj : j ≤ kn) : ∀ r i n, i + r = j → r < n → fX6_firstSlot_b4 ks n (nI j) (nI (ssum ks i)) (nI i) = some (nI (ssum ks j)) := by
  intro r
  induction r with
  | zero =>
    intro i n hi hn
    obtain ⟨n, rfl⟩ := fu_pos hn
    obtain rfl : i = j := by omega
    rw [fX6_firstSlot_b4, if_pos (nI_le (by omega) (by omega))]
  | succ r ih =>
    intro i n hi hn
    obtain ⟨n, rfl⟩ := fu_pos hn
    rw [fX6_firstSlot_b4, if_neg (nI_ge (by omega) (by omega)), rd (by omega) (by omega), nI_clamp (by omega), bdv, nI_1]
    have e : nI (ssum ks i) + ks i = nI (ssum ks (i + 1)) := by rw [okS_n hs (by omega : i < kn), nI_add]; rfl
    rw [e]
    exact ih (i + 1) n (by omega) (by omega)
theorem firstSlotM_eq {ks : Ar} {kn j : Nat} (hk : kn ≤ 8) (hs : okS ks kn) (hj : j ≤ kn) : fX6_firstSlot ks (nI j) = some (nI (ssum ks j)) := firstSlotM_loop hk hs hj j 0 FU (by omega) (FU_gt (by omega))
theorem stocks_loop {N ks : Ar} {kn : Nat} (hN : N 2 = nI kn) (hk : kn ≤ 8) (hs : okS ks kn) : ∀ r i n, i + r = kn → r < n → fX6_stocks_b4 N ks n (nI (ssum ks i)) (nI i) = some (nI (ssum ks kn)) := by
  intro r
  induction r with
  | zero =>
    intro i n hi hn
    obtain ⟨n, rfl⟩ := fu_pos hn
    obtain rfl : i = kn := by omega
    rw [fX6_stocks_b4, fX6_kinds, bd1, hN, if_pos (nI_le (by omega) (by omega))]
  | succ r ih =>
    intro i n hi hn
    obtain ⟨n, rfl⟩ := fu_pos hn
    rw [fX6_stocks_b4, fX6_kinds, bd1, hN, if_neg (nI_ge (by omega) (by omega)), rd (by omega) (by omega), nI_clamp (by omega), bdv, nI_1]
    have e : nI (ssum ks i) + ks i = nI (ssum ks (i + 1)) := by rw [okS_n hs (by omega : i < kn), nI_add]; rfl
    rw [e]
    exact ih (i + 1) n (by omega) (by omega)
theorem stocks_eq {N ks : Ar} {kn : Nat} (hN : N 2 = nI kn) (hk : kn ≤ 8) (hs : okS ks kn) : fX6_stocks N ks = some (nI (ssum ks kn)) := stocks_loop hN hk hs kn 0 FU (by omega) (FU_gt (by omega))
/-! the kind of a slot -/
def isK (ks : Ar) (kn s j : Nat) : Prop := j < kn ∧ ssum ks j ≤ s ∧ s < ssum ks (j + 1)
theorem ofSlot_loop {ks : Ar} {kn s j : Nat} (hk : kn ≤ 8) (hs : okS ks kn) (h16 : ssum ks kn ≤ 16) (hj : isK ks kn s j) : ∀ r i n, i + r = j → r < n → fX2_ofSlot_b4 (nI kn) ks n (nI s) (nI (ssum ks i)) (nI i) = some (nI j) := by
  have hb : ∀ i, i ≤ kn → ssum ks i ≤ 16 := fun i hi => Nat.le_trans (ssum_mono hi) h16
  obtain ⟨hj1, hj2, hj3⟩ := hj
  have hs16 := hb (j + 1) hj1
  intro r
  induction r with
  | zero =>
    intro i n hi hn
    obtain ⟨n, rfl⟩ := fu_pos hn
    obtain rfl : i = j := by omega
    have e : nI (ssum ks i) + ks i = nI (ssum ks (i + 1)) := by rw [okS_n hs (by omega : i < kn), nI_add]; rfl
    rw [fX2_ofSlot_b4, if_neg (nI_ge (by omega) (by omega)), if_neg (ge8 (by omega : i < 8)), rd (by omega) (by omega), nI_clamp (by omega), bdv, e, if_neg (nI_pos (by omega)), if_neg (nI_ge hj3 (by omega))]
  | succ r ih =>
    intro i n hi hn
    obtain ⟨n, rfl⟩ := fu_pos hn
    have e : nI (ssum ks i) + ks i = nI (ssum ks (i + 1)) := by rw [okS_n hs (by omega : i < kn), nI_add]; rfl
    have h1 := hb (i + 1) (by omega)
    have h2 : ssum ks (i + 1) ≤ ssum ks j := ssum_mono (by omega)
    rw [fX2_ofSlot_b4, if_neg (nI_ge (by omega) (by omega)), if_neg (ge8 (by omega : i < 8)), rd (by omega) (by omega), nI_clamp (by omega), bdv, e, if_neg (nI_pos (by omega)), if_pos (nI_le (by omega) (by omega)), nI_1]
    exact ih (i + 1) n (by omega) (by omega)
theorem ofSlot_eq {ks : Ar} {kn s j : Nat} (hk : kn ≤ 8) (hs : okS ks kn) (h16 : ssum ks kn ≤ 16) (hj : isK ks kn s j) : fX2_ofSlot (nI kn) ks (nI s) = some (nI j) := ofSlot_loop hk hs h16 hj j 0 FU (by omega) (FU_gt (by have := hj.1; omega))
theorem isK_ex {ks : Ar} {s : Nat} : ∀ {kn : Nat}, s < ssum ks kn → ∃ j, isK ks kn s j := by
  intro kn
  induction kn with
  | zero => intro h; exact absurd h (Nat.not_lt_zero _)
  | succ kn ih =>
    intro h
    rcases Nat.lt_or_ge s (ssum ks kn) with h1 | h1
    · obtain ⟨j, a, b, c⟩ := ih h1
      exact ⟨j, by omega, b, c⟩
    · exact ⟨kn, by omega, h1, h⟩
theorem isK_uniq {ks : Ar} {kn s i j : Nat} (hi : isK ks kn s i) (hj : isK ks kn s j) : i = j := by
  rcases Nat.lt_trichotomy i j with h | h | h
  · have := ssum_mono (ks := ks) (show i + 1 ≤ j by omega); have := hi.2.2; have := hj.2.1; omega
  · exact h
  · have := ssum_mono (ks := ks) (show j + 1 ≤ i by omega); have := hj.2.2; have := hi.2.1; omega
