/-! 05.d: a bid, on both sides -/
/-- the first place of the greatest among the first i, and the greatest of the others -/
def amx (g : Nat → Int32) : Nat → Nat
  | 0 => 0
  | i + 1 => if g (amx g i) < g i then i else amx g i
def sec (g : Nat → Int32) : Nat → Int32
  | 0 => g 0
  | i + 1 => if g (amx g i) < g i then g (amx g i) else if i = 0 then g 0 else if i = 1 then g i else if sec g i < g i then g i else sec g i
theorem i32_nlt {a b : Int32} (h : ¬ a < b) : b ≤ a := by rw [Int32.le_iff_toInt_le]; rw [Int32.lt_iff_toInt_lt] at h; omega
theorem i32_nle {a b : Int32} (h : ¬ a ≤ b) : b < a := by rw [Int32.lt_iff_toInt_lt]; rw [Int32.le_iff_toInt_le] at h; omega
theorem i32_lt_nle {a b : Int32} (h : a < b) : ¬ b ≤ a := by rw [Int32.le_iff_toInt_le]; rw [Int32.lt_iff_toInt_lt] at h; omega
theorem i32_le_nlt {a b : Int32} (h : a ≤ b) : ¬ b < a := by rw [Int32.lt_iff_toInt_lt]; rw [Int32.le_iff_toInt_le] at h; omega
theorem i32_ant {a b : Int32} (h : a ≤ b) (h2 : b ≤ a) : a = b := Int32.toInt_inj.mp (by rw [Int32.le_iff_toInt_le] at h h2; omega)
theorem i32_tr {a b c : Int32} (h : a ≤ b) (h2 : b ≤ c) : a ≤ c := by rw [Int32.le_iff_toInt_le] at *; omega
theorem i32_lt_le {a b : Int32} (h : a < b) : a ≤ b := by rw [Int32.le_iff_toInt_le]; rw [Int32.lt_iff_toInt_lt] at h; omega
theorem i32_rf {a : Int32} : a ≤ a := by rw [Int32.le_iff_toInt_le]; exact Int.le_refl _
theorem i32_irr {a : Int32} : ¬ a < a := by rw [Int32.lt_iff_toInt_lt]; omega
theorem amx_lt (g : Nat → Int32) : ∀ {i}, 0 < i → amx g i < i := by
  intro i
  induction i with
  | zero => intro h; exact absurd h (by omega)
  | succ i ih =>
    intro _
    unfold amx
    split
    · omega
    · rcases Nat.eq_zero_or_pos i with h | h
      · subst h; exact Nat.zero_lt_one
      · have := ih h; omega
theorem amx_max (g : Nat → Int32) : ∀ {i s}, s < i → g s ≤ g (amx g i) := by
  intro i
  induction i with
  | zero => intro s h; exact absurd h (by omega)
  | succ i ih =>
    intro s h
    unfold amx
    by_cases hg : g (amx g i) < g i
    · rw [if_pos hg]
      rcases Nat.eq_or_lt_of_le (Nat.lt_succ_iff.mp h) with h1 | h1
      · rw [h1]; exact i32_rf
      · exact i32_tr (ih h1) (i32_lt_le hg)
    · rw [if_neg hg]
      rcases Nat.eq_or_lt_of_le (Nat.lt_succ_iff.mp h) with h1 | h1
      · rw [h1]; exact i32_nlt hg
      · exact ih h1
theorem amx_1 (g : Nat → Int32) : amx g 1 = 0 := by unfold amx; split <;> rfl
theorem sec_1 (g : Nat → Int32) : sec g 1 = g 0 := by
  unfold sec
  split
  · rfl
  · exact if_pos rfl
theorem sec_spec (g : Nat → Int32) : ∀ {i}, 2 ≤ i → (∀ s, s < i → s ≠ amx g i → g s ≤ sec g i) ∧ ∃ s, s < i ∧ s ≠ amx g i ∧ g s = sec g i := by
  intro i
  induction i with
  | zero => intro h; exact absurd h (by omega)
  | succ i ih =>
    intro h
    have hi : 0 < i := by omega
    have ha := amx_lt g hi
    by_cases hg : g (amx g i) < g i
    · have e1 : amx g (i + 1) = i := by rw [amx, if_pos hg]
      have e2 : sec g (i + 1) = g (amx g i) := by rw [sec, if_pos hg]
      rw [e1, e2]
      exact ⟨fun s hs hne => amx_max g (by omega), amx g i, by omega, by omega, rfl⟩
    · have e1 : amx g (i + 1) = amx g i := by rw [amx, if_neg hg]
      rw [e1]
      by_cases h1 : i = 1
      · subst h1
        have e2 : sec g 2 = g 1 := by rw [sec, if_neg hg, if_neg (by decide), if_pos rfl]
        rw [e2, amx_1]
        exact ⟨fun s hs hne => by rw [show s = 1 by omega]; exact i32_rf, 1, by omega, by omega, rfl⟩
      · obtain ⟨g1, s0, g2, g3, g4⟩ := ih (by omega)
        by_cases h2 : sec g i < g i
        · have e2 : sec g (i + 1) = g i := by rw [sec, if_neg hg, if_neg (by omega), if_neg h1, if_pos h2]
          rw [e2]
          refine ⟨fun s hs hne => ?_, i, by omega, by omega, rfl⟩
          rcases Nat.eq_or_lt_of_le (Nat.lt_succ_iff.mp hs) with h3 | h3
          · rw [h3]; exact i32_rf
          · exact i32_tr (g1 s h3 hne) (i32_lt_le h2)
        · have e2 : sec g (i + 1) = sec g i := by rw [sec, if_neg hg, if_neg (by omega), if_neg h1, if_neg h2]
          rw [e2]
          refine ⟨fun s hs hne => ?_, s0, by omega, g3, g4⟩
          rcases Nat.eq_or_lt_of_le (Nat.lt_succ_iff.mp hs) with h3 | h3
          · rw [h3]; exact i32_nlt h2
          · exact g1 s h3 hne
/-- what a bid leaves -/
def bidP (g : Nat → Int32) (n : Nat) (ep : Int32) (pr : Ar) : Ar := upd pr (amx g n) (pr (amx g n) + ((g (amx g n) - sec g n) + ep))
def bidO (g : Nat → Int32) (n b : Nat) (ho : Ar) : Ar := upd ho (amx g n) (nI b)
def bidE (g : Nat → Int32) (n b : Nat) (ho he : Ar) : Ar := upd (if ho (amx g n) = -6 then he else upd he (ho (amx g n)).toNatClampNeg (-6)) b (nI (amx g n))
def okE (f : Ar) (n : Nat) : Prop := ∀ s, s < n → f s = -6 ∨ ∃ b, b < n ∧ f s = nI b
theorem give_eq {ho he : Ar} {n j b : Nat} (hn : n ≤ 16) (hj : j < n) (hb : b < n) (ho' : okE ho n) : fX4_give ho he (nI j) (nI b) = some (upd ho j (nI b), upd (if ho j = -6 then he else upd he (ho j).toNatClampNeg (-6)) b (nI j)) := by
  unfold fX4_give
  rw [row_t (by omega), bd1, if_neg (by decide), row_t (by omega), bd1, if_neg (by decide), rd (by omega) (by omega), nI_clamp (by omega), bdv]
  rcases ho' j hj with e | ⟨b', hb', e⟩
  · rw [e, row_6, bd1, if_pos rfl, if_pos rfl, fX4_give_b37, rd (by omega) (by omega), rd (by omega) (by omega), nI_clamp (by omega), nI_clamp (by omega)]
  · rw [e, row_t (by omega), bd1, if_neg (by decide), if_neg (nI_ne6 (by omega)), rd (by omega) (by omega), fX4_give_b37, rd (by omega) (by omega), rd (by omega) (by omega), nI_clamp (by omega), nI_clamp (by omega), nI_clamp (by omega)]
theorem mb_loop {Wo pr ho he : Ar} {n b : Nat} {ep : Int32} {g : Nat → Int32} (hn : n ≤ 16) (hb : b < n) (hg : ∀ s, s < n → Wo (b * 16 + s) - pr s = g s) (ho' : okE ho n) :
    ∀ r i n0, i + r = n → 0 < i → r < n0 → fX0_makeBid_b54 (nI n) Wo n0 (nI b) ep (nI (b * 16)) (nI (amx g i)) (g (amx g i)) (sec g i) (nI i) pr ho he = some (bidP g n ep pr, bidO g n b ho, bidE g n b ho he) := by
  intro r
  induction r with
  | zero =>
    intro i n0 hi h0 hn0
    obtain ⟨n0, rfl⟩ := fu_pos hn0
    obtain rfl : i = n := by omega
    have ha := amx_lt g h0
    rw [fX0_makeBid_b54, if_pos (nI_le (by omega) (by omega)), rd (by omega) (by omega), rd (by omega) (by omega), nI_clamp (by omega), give_eq hn ha hb ho', bd2]
    rfl
  | succ r ih =>
    intro i n0 hi h0 hn0
    obtain ⟨n0, rfl⟩ := fu_pos hn0
    have e0 : nI (b * 16) + nI i = nI (b * 16 + i) := nI_add _ _
    rw [fX0_makeBid_b54, if_neg (nI_ge (by omega) (by omega)), e0, rd (by omega) (by omega), rd (by omega) (by omega), nI_clamp (by omega), nI_clamp (by omega), bdv, hg i (by omega), nI_1]
    have IH := ih (i + 1) n0 (by omega) (by omega) (by omega)
    by_cases hgi : g (amx g i) < g i
    · have e1 : amx g (i + 1) = i := by rw [amx, if_pos hgi]
      have e2 : sec g (i + 1) = g (amx g i) := by rw [sec, if_pos hgi]
      rw [e1, e2] at IH
      rw [if_neg (i32_lt_nle hgi)]
      exact IH
    · have e1 : amx g (i + 1) = amx g i := by rw [amx, if_neg hgi]
      rw [e1] at IH
      rw [if_pos (i32_nlt hgi)]
      by_cases h1 : i = 1
      · subst h1
        have e2 : sec g (1 + 1) = g 1 := by rw [sec, if_neg hgi, if_neg (by decide), if_pos rfl]
        rw [e2] at IH
        rw [if_pos (show nI 1 = (1 : Int32) from rfl)]
        exact IH
      · rw [if_neg (show ¬ nI i = (1 : Int32) from fun z => h1 ((nI_eq (b := 1) (by omega) (by decide)).mp z))]
        by_cases h2 : sec g i < g i
        · have e2 : sec g (i + 1) = g i := by rw [sec, if_neg hgi, if_neg (by omega), if_neg h1, if_pos h2]
          rw [e2] at IH
          rw [if_neg (i32_lt_nle h2)]
          exact IH
        · have e2 : sec g (i + 1) = sec g i := by rw [sec, if_neg hgi, if_neg (by omega), if_neg h1, if_neg h2]
          rw [e2] at IH
          rw [if_pos (i32_nlt h2)]
          exact IH
theorem makeBid_eq {Wo pr ho he : Ar} {n b : Nat} {ep : Int32} {g : Nat → Int32} (hn : n ≤ 16) (hb : b < n) (hg : ∀ s, s < n → Wo (b * 16 + s) - pr s = g s) (ho' : okE ho n) : fX0_makeBid (nI n) Wo pr ho he (nI b) ep = some (bidP g n ep pr, bidO g n b ho, bidE g n b ho he) := by
  unfold fX0_makeBid
  have e : nI b * (16 : Int32) = nI (b * 16) := nI_ml b 16
  have h := mb_loop (he := he) (ep := ep) hn hb hg ho' (n - 1) 1 FU (by omega) (by omega) (FU_gt (by omega))
  have hg0 := hg 0 (by omega)
  rw [Nat.add_zero] at hg0
  rw [row_t (by omega), bd1, if_neg (by decide), if_pos (show nI n ≤ (16 : Int32) from nI_le (b := 16) hn (by decide)), bdv, e, rd (by omega) (by omega), nI_clamp (by omega), bdv, hg0]
  rw [amx_1, sec_1] at h
  exact h
/-! the reference's best and second -/
theorem best_loop {N kd cd pr sk : Ar} {n b : Nat} {g : Nat → Int32} (hn : n ≤ 16) (hN : N 4 = nI n) (hg : ∀ s, s < n → fX6_gainOf N kd cd pr sk (nI b) (nI s) = some (g s)) :
    ∀ r i n0, i + r = n → 0 < i → r < n0 → fX6_bestFor_b6 N kd cd pr sk n0 (nI b) (-6) (nI (amx g i)) (nI i) = some (nI (amx g n)) := by
  intro r
  induction r with
  | zero =>
    intro i n0 hi h0 hn0
    obtain ⟨n0, rfl⟩ := fu_pos hn0
    obtain rfl : i = n := by omega
    rw [fX6_bestFor_b6, hN, if_pos (nI_le (by omega) (by omega))]
  | succ r ih =>
    intro i n0 hi h0 hn0
    obtain ⟨n0, rfl⟩ := fu_pos hn0
    have ha := amx_lt g h0
    have IH := ih (i + 1) n0 (by omega) (by omega) (by omega)
    rw [fX6_bestFor_b6, hN, if_neg (nI_ge (by omega) (by omega)), if_neg (nI_ne6 (by omega)), if_neg (nI_pos (by omega)), hg i (by omega), bd1, hg _ (by omega), bd1, nI_1]
    by_cases hgi : g (amx g i) < g i
    · rw [amx, if_pos hgi] at IH
      rw [if_neg (i32_lt_nle hgi)]
      exact IH
    · rw [amx, if_neg hgi] at IH
      rw [if_pos (i32_nlt hgi)]
      exact IH
theorem best_eq {N kd cd pr sk : Ar} {n b : Nat} {g : Nat → Int32} (hn : n ≤ 16) (hn0 : 0 < n) (hN : N 4 = nI n) (hg : ∀ s, s < n → fX6_gainOf N kd cd pr sk (nI b) (nI s) = some (g s)) : fX6_bestFor N kd cd pr sk (nI b) (-6) = some (nI (amx g n)) := by
  unfold fX6_bestFor
  obtain ⟨k, hk⟩ : ∃ k, FU = k + 1 := ⟨1000000, rfl⟩
  have h := best_loop (b := b) hn hN hg (n - 1) 1 k (by omega) (by omega) (by have := FU_gt (n := 1000000) (Nat.le_refl _); omega)
  rw [amx_1] at h
  rw [hk, ← nI_0, fX6_bestFor_b6, hN, if_neg (nI_ge hn0 (by omega)), if_neg (nI_ne6 (by omega)), if_pos m6_neg, nI_1]
  exact h
theorem second_loop {N kd cd pr sk : Ar} {n b a : Nat} {g : Nat → Int32} (hn : n ≤ 16) (hN : N 4 = nI n) (ha : a < n) (hg : ∀ s, s < n → fX6_gainOf N kd cd pr sk (nI b) (nI s) = some (g s)) :
    ∀ r i x3, i + r = n → ((x3 = -6 ∧ ∀ s, s < i → s = a) ∨ ∃ j, j < i ∧ j ≠ a ∧ x3 = nI j ∧ ∀ s, s < i → s ≠ a → g s ≤ g j) → ∃ x, ((x = -6 ∧ ∀ s, s < n → s = a) ∨ ∃ j, j < n ∧ j ≠ a ∧ x = nI j ∧ ∀ s, s < n → s ≠ a → g s ≤ g j) ∧ ∀ n0, r < n0 → fX6_bestFor_b6 N kd cd pr sk n0 (nI b) (nI a) x3 (nI i) = some x := by
  intro r
  induction r with
  | zero =>
    intro i x3 hi hx
    obtain rfl : i = n := by omega
    refine ⟨x3, hx, fun n0 hn0 => ?_⟩
    obtain ⟨n0, rfl⟩ := fu_pos hn0
    rw [fX6_bestFor_b6, hN, if_pos (nI_le (by omega) (by omega))]
  | succ r ih =>
    intro i x3 hi hx
    by_cases hia : i = a
    · obtain ⟨x, g1, g2⟩ := ih (i + 1) x3 (by omega) (by
        rcases hx with ⟨e, h⟩ | ⟨j, h1, h2, h3, h4⟩
        · exact Or.inl ⟨e, fun s hs => by
            rcases Nat.eq_or_lt_of_le (Nat.lt_succ_iff.mp hs) with h5 | h5
            · omega
            · exact h s h5⟩
        · exact Or.inr ⟨j, by omega, h2, h3, fun s hs hne => h4 s (by omega) hne⟩)
      refine ⟨x, g1, fun n0 hn0 => ?_⟩
      obtain ⟨n0, rfl⟩ := fu_pos hn0
      rw [fX6_bestFor_b6, hN, if_neg (nI_ge (by omega) (by omega)), if_pos (by rw [hia]), nI_1]
      exact g2 n0 (by omega)
    · have hne : ¬ nI i = nI a := fun z => hia ((nI_eq (by omega) (by omega)).mp z)
      rcases hx with ⟨e, h⟩ | ⟨j, h1, h2, h3, h4⟩
      · obtain ⟨x, g1, g2⟩ := ih (i + 1) (nI i) (by omega) (Or.inr ⟨i, by omega, hia, rfl, fun s hs hsa => by
          rcases Nat.eq_or_lt_of_le (Nat.lt_succ_iff.mp hs) with h5 | h5
          · rw [h5]; exact i32_rf
          · exact absurd (h s h5) hsa⟩)
        refine ⟨x, g1, fun n0 hn0 => ?_⟩
        obtain ⟨n0, rfl⟩ := fu_pos hn0
        rw [fX6_bestFor_b6, hN, if_neg (nI_ge (by omega) (by omega)), if_neg hne, e, if_pos m6_neg, nI_1]
        exact g2 n0 (by omega)
      · by_cases hgj : g j < g i
        · obtain ⟨x, g1, g2⟩ := ih (i + 1) (nI i) (by omega) (Or.inr ⟨i, by omega, hia, rfl, fun s hs hsa => by
            rcases Nat.eq_or_lt_of_le (Nat.lt_succ_iff.mp hs) with h5 | h5
            · rw [h5]; exact i32_rf
            · exact i32_tr (h4 s h5 hsa) (i32_lt_le hgj)⟩)
          refine ⟨x, g1, fun n0 hn0 => ?_⟩
          obtain ⟨n0, rfl⟩ := fu_pos hn0
          rw [fX6_bestFor_b6, hN, if_neg (nI_ge (by omega) (by omega)), if_neg hne, h3, if_neg (nI_pos (by omega)), hg i (by omega), bd1, hg j (by omega), bd1, if_neg (i32_lt_nle hgj), nI_1]
          exact g2 n0 (by omega)
        · obtain ⟨x, g1, g2⟩ := ih (i + 1) x3 (by omega) (Or.inr ⟨j, by omega, h2, h3, fun s hs hsa => by
            rcases Nat.eq_or_lt_of_le (Nat.lt_succ_iff.mp hs) with h5 | h5
            · rw [h5]; exact i32_nlt hgj
            · exact h4 s h5 hsa⟩)
          refine ⟨x, g1, fun n0 hn0 => ?_⟩
          obtain ⟨n0, rfl⟩ := fu_pos hn0
          have g3 := g2 n0 (by omega)
          rw [h3] at g3
          rw [fX6_bestFor_b6, hN, if_neg (nI_ge (by omega) (by omega)), if_neg hne, h3, if_neg (nI_pos (by omega)), hg i (by omega), bd1, hg j (by omega), bd1, if_pos (i32_nlt hgj), nI_1]
          exact g3
theorem sub_self32 (x : Int32) : x - x = 0 := Int32.sub_self x
theorem bidM_end {N kd cd sk pr ho he : Ar} {n b : Nat} {ep y0 : Int32} {g : Nat → Int32} (hn : n ≤ 16) (hn0 : 0 < n) (hb : b < n) (ho' : okE ho n) (hy : y0 = g (amx g n) - sec g n) : fX6_bid_b39 N kd cd sk (nI b) ep (nI (amx g n)) y0 pr ho he = some (bidP g n ep pr, bidO g n b ho, bidE g n b ho he) := by
  have ha := amx_lt g hn0
  subst hy
  unfold fX6_bid_b39
  rw [rd (by omega) (by omega), rd (by omega) (by omega), rd (by omega) (by omega), nI_clamp (by omega)]
  rcases ho' (amx g n) ha with e | ⟨b', hb', e⟩
  · rw [e, if_pos m6_neg, fX6_bid_b76, rd (by omega) (by omega), rd (by omega) (by omega), nI_clamp (by omega), nI_clamp (by omega)]
    unfold bidP bidO bidE
    rw [e, if_pos rfl]
  · rw [e, if_neg (nI_pos (by omega)), if_neg (show ¬ (nI (amx g n) < 0 ∨ 16 ≤ amx g n) from fun z => z.elim (nI_pos (by omega)) (by omega)), rd (by omega) (by omega), fX6_bid_b76, rd (by omega) (by omega), rd (by omega) (by omega), nI_clamp (by omega), nI_clamp (by omega), nI_clamp (by omega)]
    unfold bidP bidO bidE
    rw [e, if_neg (nI_ne6 (by omega)), nI_clamp (by omega)]
theorem bidM_eq {N kd cd sk pr ho he : Ar} {n b : Nat} {ep : Int32} {g : Nat → Int32} (hn : n ≤ 16) (hN : N 4 = nI n) (hb : b < n) (hg : ∀ s, s < n → fX6_gainOf N kd cd pr sk (nI b) (nI s) = some (g s)) (ho' : okE ho n) : fX6_bid N kd cd pr sk ho he (nI b) ep = some (bidP g n ep pr, bidO g n b ho, bidE g n b ho he) := by
  have hn0 : 0 < n := by omega
  have ha := amx_lt g hn0
  obtain ⟨x, h1, h2⟩ := second_loop (b := b) hn hN ha hg n 0 (-6) (by omega) (Or.inl ⟨rfl, fun s hs => absurd hs (by omega)⟩)
  have h3 : fX6_bestFor N kd cd pr sk (nI b) (nI (amx g n)) = some x := h2 FU (FU_gt (by omega))
  unfold fX6_bid
  rw [best_eq hn hn0 hN hg, bd1, h3, bd1]
  rcases h1 with ⟨e, h⟩ | ⟨j, q1, q2, q3, q4⟩
  · have hn1 : n = 1 := by
      rcases Nat.lt_or_ge 1 n with hz | hz
      · have z0 := h 0 (by omega); have z1 := h 1 hz; omega
      · omega
    rw [e, if_neg (by decide)]
    refine bidM_end hn hn0 hb ho' ?_
    rw [hn1, amx_1, sec_1, sub_self32]
  · have hn2 : 2 ≤ n := by omega
    obtain ⟨s1, s0, s2, s3, s4⟩ := sec_spec g hn2
    have es : g j = sec g n := i32_ant (s1 j q1 q2) (by rw [← s4]; exact q4 s0 s2 s3)
    rw [q3, if_pos (nI_pos' (by omega)), hg _ ha, bd1, hg j q1, bd1]
    exact bidM_end hn hn0 hb ho' (by rw [es])
