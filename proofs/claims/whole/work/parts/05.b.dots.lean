/-! 05.b: how far dots are apart -/
def ab (p q : Nat) : Nat := if q ≤ p then p - q else q - p
def sq (mo : Int32) (x : Nat) : Nat := if mo = 1 then x * x else x
theorem ab_le {p q : Nat} (hp : p < 10) (hq : q < 10) : ab p q ≤ 9 := by unfold ab; split <;> omega
theorem sq_le {mo : Int32} {x : Nat} (h : x ≤ 9) : sq mo x ≤ 81 := by
  unfold sq
  split
  · exact Nat.mul_le_mul h h
  · omega
theorem abs1 : ∀ p, p < 10 → ∀ q, q < 10 → (if 0 ≤ nI p - nI q then nI p - nI q else 0 - (nI p - nI q)) = nI (ab p q) := by decide +kernel
theorem abs2 : ∀ p, p < 10 → ∀ q, q < 10 → (if 0 ≤ nI p - nI q then nI p - nI q else -(nI p - nI q)) = nI (ab p q) := by decide +kernel
theorem dig {a : Nat} (ha : a < 2 ^ 31) : nI a - nI a / (10 : Int32) * (10 : Int32) = nI (a % 10) := by
  show nI a - nI a / nI 10 * nI 10 = nI (a % 10)
  rw [nI_dv ha (by decide), nI_ml, nI_sb (Nat.div_mul_le_self a 10)]
  congr 1
  omega
theorem ge4 {j : Nat} (h : j < 4) : ¬ (4 : Int32) ≤ nI j := nI_ge (b := 4) h (by decide)
theorem apart_step {mo : Int32} {n s a b i : Nat} (ha : a < 10000) (hb : b < 10000) (hi : i < 4) : fX5_dotsApart_b11 (n + 1) mo (nI s) (nI a) (nI b) (nI i) = fX5_dotsApart_b11 n mo (nI (s + sq mo (ab (a % 10) (b % 10)))) (nI (a / 10)) (nI (b / 10)) (nI (i + 1)) := by
  have e1 : nI a / (10 : Int32) = nI (a / 10) := nI_dv (b := 10) (by omega) (by decide)
  have e2 : nI b / (10 : Int32) = nI (b / 10) := nI_dv (b := 10) (by omega) (by decide)
  rw [fX5_dotsApart_b11, if_neg (ge4 hi), bdv, dig (by omega), dig (by omega), abs1 (a % 10) (Nat.mod_lt _ (by decide)) (b % 10) (Nat.mod_lt _ (by decide))]
  unfold fX5_dotsApart_b49 sq
  by_cases h : mo = 1
  · rw [if_pos h, if_pos h, bdv, bdv, bdv, nI_ml, nI_add, e1, e2, nI_1]
  · rw [if_neg h, if_neg h, bdv, bdv, bdv, nI_add, e1, e2, nI_1]
def dfN (mo : Int32) (a b : Nat) : Nat := sq mo (ab (a % 10) (b % 10)) + sq mo (ab (a / 10 % 10) (b / 10 % 10)) + sq mo (ab (a / 100 % 10) (b / 100 % 10)) + sq mo (ab (a / 1000 % 10) (b / 1000 % 10))
theorem dfN_le {mo : Int32} {a b : Nat} : dfN mo a b ≤ 324 := by
  have h : ∀ p q : Nat, sq mo (ab (p % 10) (q % 10)) ≤ 81 := fun p q => sq_le (ab_le (Nat.mod_lt _ (by decide)) (Nat.mod_lt _ (by decide)))
  have h0 := h a b
  have h1 := h (a / 10) (b / 10)
  have h2 := h (a / 100) (b / 100)
  have h3 := h (a / 1000) (b / 1000)
  unfold dfN
  omega
theorem dotsApart_n {mo : Int32} {a b : Nat} (ha : a < 10000) (hb : b < 10000) : fX5_dotsApart (nI a) (nI b) mo = some (nI (dfN mo a b)) := by
  unfold fX5_dotsApart
  obtain ⟨k, hk⟩ : ∃ k, FU = k + 1 + 1 + 1 + 1 + 1 := ⟨999996, rfl⟩
  rw [hk, ← nI_0, apart_step ha hb (by decide), apart_step (by omega) (by omega) (by decide), apart_step (by omega) (by omega) (by decide), apart_step (by omega) (by omega) (by decide)]
  rw [fX5_dotsApart_b11, if_pos (show (4 : Int32) ≤ nI (0 + 1 + 1 + 1 + 1) by decide)]
  have e2 : a / 10 / 10 = a / 100 := Nat.div_div_eq_div_mul a 10 10
  have e3 : a / 100 / 10 = a / 1000 := Nat.div_div_eq_div_mul a 100 10
  have f2 : b / 10 / 10 = b / 100 := Nat.div_div_eq_div_mul b 10 10
  have f3 : b / 100 / 10 = b / 1000 := Nat.div_div_eq_div_mul b 100 10
  rw [e2, e3, f2, f3]
  unfold dfN
  rw [Nat.zero_add]
theorem diffM_step {N : Ar} {n s a b by' : Nat} (hN : N 0 = 0 ∨ N 0 = 1) (ha : a < 10000) (hb : b < 10000) (h0 : 0 < by') (h1 : by' ≤ 1000) : fX6_differenceOf_b5 N (n + 1) (nI a) (nI b) (nI s) (nI by') = fX6_differenceOf_b5 N n (nI a) (nI b) (nI (s + sq (N 0) (ab (a / by' % 10) (b / by' % 10)))) (nI (by' * 10)) := by
  have e1 : nI a / nI by' = nI (a / by') := nI_dv (by omega) (by omega)
  have e2 : nI b / nI by' = nI (b / by') := nI_dv (by omega) (by omega)
  have l1 : a / by' < 2 ^ 31 := Nat.lt_of_le_of_lt (Nat.div_le_self _ _) (by omega)
  have l2 : b / by' < 2 ^ 31 := Nat.lt_of_le_of_lt (Nat.div_le_self _ _) (by omega)
  have h2 := abs2 (a / by' % 10) (Nat.mod_lt _ (by decide)) (b / by' % 10) (Nat.mod_lt _ (by decide))
  have e5 : nI by' * (10 : Int32) = nI (by' * 10) := nI_ml by' 10
  have hz : ∀ y : Nat, fX6_differenceOf_b43 N (fun x1 x2 x3 x4 => fX6_differenceOf_b5 N n x1 x2 x3 x4) (nI a) (nI b) (nI s) (nI by') (nI y) = fX6_differenceOf_b5 N n (nI a) (nI b) (nI (s + sq (N 0) y)) (nI (by' * 10)) := by
    intro y
    unfold fX6_differenceOf_b43 sq
    rcases hN with h | h
    · rw [if_pos h, if_neg (by rw [h]; decide), bdv, bdv, nI_add, e5]
    · rw [if_neg (by rw [h]; decide), if_pos h, bdv, bdv, nI_ml, nI_add, e5]
  rw [fX6_differenceOf_b5, if_neg (show ¬ (1000 : Int32) < nI by' from nI_nlt (a := 1000) (b := by') h1 (by decide)), if_neg (nI_ne0 h0 (by omega)), if_neg (nI_ne0 h0 (by omega)), bdv, e1, e2, dig l1, dig l2]
  by_cases h : 0 ≤ nI (a / by' % 10) - nI (b / by' % 10)
  · rw [if_pos h] at h2
    rw [if_pos h, h2, hz]
  · rw [if_neg h] at h2
    rw [if_neg h, h2, hz]
theorem differenceOf_n {N : Ar} {a b : Nat} (hN : N 0 = 0 ∨ N 0 = 1) (ha : a < 10000) (hb : b < 10000) : fX6_differenceOf N (nI a) (nI b) = some (nI (dfN (N 0) a b)) := by
  unfold fX6_differenceOf
  obtain ⟨k, hk⟩ : ∃ k, FU = k + 1 + 1 + 1 + 1 + 1 := ⟨999996, rfl⟩
  have e : (1 : Int32) = nI 1 := rfl
  rw [hk, ← nI_0, e, diffM_step hN ha hb (by decide) (by decide), diffM_step hN ha hb (by decide) (by decide), diffM_step hN ha hb (by decide) (by decide), diffM_step hN ha hb (by decide) (by decide)]
  rw [fX6_differenceOf_b5, if_pos (show (1000 : Int32) < nI (1 * 10 * 10 * 10 * 10) by decide)]
  show some (nI (0 + sq (N 0) (ab (a / 1 % 10) (b / 1 % 10)) + sq (N 0) (ab (a / 10 % 10) (b / 10 % 10)) + sq (N 0) (ab (a / 100 % 10) (b / 100 % 10)) + sq (N 0) (ab (a / 1000 % 10) (b / 1000 % 10)))) = some (nI (dfN (N 0) a b))
  unfold dfN
  rw [Nat.zero_add, Nat.div_one, Nat.div_one]
def df (mo a b : Int32) : Int32 := nI (dfN mo a.toNatClampNeg b.toNatClampNeg)
theorem df_le (mo a b : Int32) : ∃ d, d ≤ 324 ∧ df mo a b = nI d := ⟨_, dfN_le, rfl⟩
theorem okD_n {a : Int32} (h : okD a) : a = nI a.toNatClampNeg ∧ a.toNatClampNeg < 10000 := by
  refine ⟨nI_tN h.1, ?_⟩
  have e : a.toNatClampNeg = a.toInt.toNat := (Int32.toNat_toInt a).symm
  have := h.1; have := h.2
  omega
theorem dotsApart_eq {mo a b : Int32} (ha : okD a) (hb : okD b) : fX5_dotsApart a b mo = some (df mo a b) := by
  have h1 := okD_n ha
  have h2 := okD_n hb
  have h3 := dotsApart_n (mo := mo) h1.2 h2.2
  rw [← h1.1, ← h2.1] at h3
  exact h3
theorem differenceOf_eq {N : Ar} {a b : Int32} (hN : N 0 = 0 ∨ N 0 = 1) (ha : okD a) (hb : okD b) : fX6_differenceOf N a b = some (df (N 0) a b) := by
  have h1 := okD_n ha
  have h2 := okD_n hb
  have h3 := differenceOf_n hN h1.2 h2.2
  rw [← h1.1, ← h2.1] at h3
  exact h3
theorem apart_eq {mo : Int32} {kn cn c j : Nat} {kd cd : Ar} (hk : kn ≤ 8) (hc : cn ≤ 12) (hcc : c < cn) (hj : j < kn) (h1 : okD (cd c)) (h2 : okD (kd j)) : fX3_apart mo (nI kn) kd (nI cn) cd (nI c) (nI j) = some (df mo (cd c) (kd j)) := by
  unfold fX3_apart
  rw [has1_t hc hcc, bd1, if_neg (by decide), has2_t hk hj, bd1, if_neg (by decide), rd (by omega) (by omega), rd (by omega) (by omega), nI_clamp (by omega), nI_clamp (by omega), dotsApart_eq h1 h2]
  rfl
/-! the greatest difference: both sides come to the same -/
def okC (cd : Ar) (cn : Nat) : Prop := ∀ j, j < cn → okD (cd j)
theorem great_in {mo : Int32} {N kd cd : Ar} {kn cn c : Nat} (hmo : mo = 0 ∨ mo = 1) (hN0 : N 0 = mo) (hN2 : N 2 = nI kn) (hk : kn ≤ 8) (hc : cn ≤ 12) (hcc : c < cn) (hkd : okC kd kn) (hcd : okC cd cn) :
    ∀ r i D, i + r = kn → D ≤ 324 → ∃ D', D' ≤ 324 ∧ (∀ n, r < n → ∀ k4, fX3_greatestDifference_b17 mo (nI kn) kd (nI cn) cd k4 n (nI D) (nI c) (nI i) = k4 (nI D') (nI (c + 1))) ∧ (∀ n, r < n → ∀ k4, fX6_greatest_b14 N kd cd k4 n (nI D) (nI c) (nI i) = k4 (nI D') (nI (c + 1))) := by
  intro r
  induction r with
  | zero =>
    intro i D hi hD
    refine ⟨D, hD, fun n hn k4 => ?_, fun n hn k4 => ?_⟩
    · obtain ⟨n, rfl⟩ := fu_pos hn
      rw [fX3_greatestDifference_b17, if_pos (nI_le (by omega) (by omega)), nI_1]
    · obtain ⟨n, rfl⟩ := fu_pos hn
      rw [fX6_greatest_b14, fX6_kinds, bd1, hN2, if_pos (nI_le (by omega) (by omega)), nI_1]
  | succ r ih =>
    intro i D hi hD
    have hi8 : i < kn := by omega
    obtain ⟨d, hd, ed⟩ := df_le mo (cd c) (kd i)
    have q1 := apart_eq (mo := mo) hk hc hcc hi8 (hcd c hcc) (hkd i hi8)
    have q2 : fX6_differenceOf N (cd c) (kd i) = some (df mo (cd c) (kd i)) := by
      have := differenceOf_eq (N := N) (by rw [hN0]; exact hmo) (hcd c hcc) (hkd i hi8)
      rw [hN0] at this; exact this
    rw [ed] at q1 q2
    obtain ⟨D', h1, h2, h3⟩ := ih (i + 1) (if D < d then d else D) (by omega) (by split <;> omega)
    have emax : (if nI D < nI d then nI d else nI D) = nI (if D < d then d else D) := by
      by_cases h : D < d
      · rw [if_pos h, if_pos (nI_lt h (by omega))]
      · rw [if_neg h, if_neg (nI_nlt (by omega) (by omega))]
    refine ⟨D', h1, fun n hn k4 => ?_, fun n hn k4 => ?_⟩
    · obtain ⟨n, rfl⟩ := fu_pos hn
      rw [fX3_greatestDifference_b17, if_neg (nI_ge (by omega) (by omega)), q1, bd1, bdv, emax, nI_1]
      exact h2 n (by omega) k4
    · obtain ⟨n, rfl⟩ := fu_pos hn
      rw [fX6_greatest_b14, fX6_kinds, bd1, hN2, if_neg (nI_ge (by omega) (by omega)), rd (by omega) (by omega), rd (by omega) (by omega), nI_clamp (by omega), nI_clamp (by omega), q2, bd1, nI_1]
      by_cases h : D < d
      · rw [if_neg (nI_ge h (by omega))]
        rw [if_pos h] at h3
        exact h3 n (by omega) k4
      · rw [if_pos (nI_le (by omega) (by omega))]
        rw [if_neg h] at h3
        exact h3 n (by omega) k4
theorem great_out {mo : Int32} {N kd cd : Ar} {kn cn : Nat} (hmo : mo = 0 ∨ mo = 1) (hN0 : N 0 = mo) (hN2 : N 2 = nI kn) (hN3 : N 3 = nI cn) (hk : kn ≤ 8) (hc : cn ≤ 12) (hkd : okC kd kn) (hcd : okC cd cn) :
    ∀ r c D, c + r = cn → D ≤ 324 → ∃ D', D' ≤ 324 ∧ (∀ n, r < n → fX3_greatestDifference_b4 mo (nI kn) kd (nI cn) cd n (nI D) (nI c) = some (nI D')) ∧ (∀ n, r < n → fX6_greatest_b4 N kd cd n (nI D) (nI c) = some (nI D')) := by
  intro r
  induction r with
  | zero =>
    intro c D hi hD
    refine ⟨D, hD, fun n hn => ?_, fun n hn => ?_⟩
    · obtain ⟨n, rfl⟩ := fu_pos hn
      rw [fX3_greatestDifference_b4, if_pos (nI_le (by omega) (by omega))]
    · obtain ⟨n, rfl⟩ := fu_pos hn
      rw [fX6_greatest_b4, fX6_cells, bd1, hN3, if_pos (nI_le (by omega) (by omega))]
  | succ r ih =>
    intro c D hi hD
    obtain ⟨D1, g1, g2, g3⟩ := great_in (c := c) hmo hN0 hN2 hk hc (by omega) hkd hcd kn 0 D (by omega) hD
    obtain ⟨D', h1, h2, h3⟩ := ih (c + 1) D1 (by omega) g1
    refine ⟨D', h1, fun n hn => ?_, fun n hn => ?_⟩
    · obtain ⟨n, rfl⟩ := fu_pos hn
      rw [fX3_greatestDifference_b4, if_neg (nI_ge (by omega) (by omega)), ← nI_0, g2 FU (FU_gt (by omega))]
      exact h2 n (by omega)
    · obtain ⟨n, rfl⟩ := fu_pos hn
      rw [fX6_greatest_b4, fX6_cells, bd1, hN3, if_neg (nI_ge (by omega) (by omega)), ← nI_0, g3 FU (FU_gt (by omega))]
      exact h3 n (by omega)
theorem great_eq {mo : Int32} {N kd cd : Ar} {kn cn : Nat} (hmo : mo = 0 ∨ mo = 1) (hN0 : N 0 = mo) (hN2 : N 2 = nI kn) (hN3 : N 3 = nI cn) (hk : kn ≤ 8) (hc : cn ≤ 12) (hkd : okC kd kn) (hcd : okC cd cn) :
    ∃ D, D ≤ 324 ∧ fX3_greatestDifference mo (nI kn) kd (nI cn) cd = some (nI D) ∧ fX6_greatest N kd cd = some (nI D) := by
  obtain ⟨D, h1, h2, h3⟩ := great_out hmo hN0 hN2 hN3 hk hc hkd hcd cn 0 0 (by omega) (by omega)
  exact ⟨D, h1, h2 FU (FU_gt (by omega)), h3 FU (FU_gt (by omega))⟩
