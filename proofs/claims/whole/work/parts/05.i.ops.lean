/-! 05.i: the relation between the class's picture and the reference's rows; the calls that change kinds and cells -/
/-- what holds of kinds and cells -/
def RSt (mo sh kn : Int32) (kd ks : Ar) (cn : Int32) (cd : Ar) (N : Ar) (k c : Nat) : Prop := kn = nI k ∧ cn = nI c ∧ (∃ h, 2 ≤ h ∧ h ≤ 9 ∧ sh = nI h) ∧ Wf mo k kd ks c cd ∧ N 0 = mo ∧ N 1 = sh ∧ N 2 = nI k ∧ N 3 = nI c
/-- what holds of the sale -/
def RSa (B : Int) (ks : Ar) (va co bi ph : Int32) (pr ho he N sk : Ar) (k c : Nat) : Prop := (va = 0 ∧ N 5 = 0 ∧ N 6 = 0 ∧ N 7 = 0 ∧ N 8 = 0) ∨
  (va = 1 ∧ N 5 = 1 ∧ N 6 = co ∧ N 7 = ph ∧ N 8 = bi ∧ (∃ p, p ≤ 16 ∧ ph = nI p) ∧ 0 < ssum ks k ∧ c ≤ ssum ks k ∧ N 4 = nI (ssum ks k) ∧ (∀ s, s < ssum ks k → ∃ j, isK ks k s j ∧ sk s = nI j) ∧ Vl B (ssum ks k) pr ho he)
def RelP (B : Int) (mo sh kn : Int32) (kd ks : Ar) (cn : Int32) (cd : Ar) (va co bi ph : Int32) (pr ho he N sk : Ar) : Prop := ∃ k c : Nat, RSt mo sh kn kd ks cn cd N k c ∧ (co = 0 ∨ co = 1) ∧ RSa B ks va co bi ph pr ho he N sk k c
theorem RelP.mono {B B' : Int} {mo sh kn : Int32} {kd ks : Ar} {cn : Int32} {cd : Ar} {va co bi ph : Int32} {pr ho he N sk : Ar} (h : RelP B mo sh kn kd ks cn cd va co bi ph pr ho he N sk) (hB : B ≤ B') : RelP B' mo sh kn kd ks cn cd va co bi ph pr ho he N sk := by
  obtain ⟨k, c, h1, h2, h3⟩ := h
  refine ⟨k, c, h1, h2, ?_⟩
  rcases h3 with h | ⟨a1, a2, a3, a4, a5, a6, a7, a8, a9, a10, a11⟩
  · exact Or.inl h
  · exact Or.inr ⟨a1, a2, a3, a4, a5, a6, a7, a8, a9, a10, a11.mono hB⟩
def eN (N : Ar) : Ar := upd (upd (upd (upd N 5 0) 6 0) 7 0) 8 0
theorem end_eq (N : Ar) : fX6_end N = some (eN N) := rfl
theorem eN_lo {N : Ar} {j : Nat} (h : j < 5) : eN N j = N j := by
  unfold eN
  rw [upd_n (by omega), upd_n (by omega), upd_n (by omega), upd_n (by omega)]
theorem eN_hi {N : Ar} : eN N 5 = 0 ∧ eN N 6 = 0 ∧ eN N 7 = 0 ∧ eN N 8 = 0 := by
  unfold eN
  refine ⟨?_, ?_, ?_, ?_⟩
  · rw [upd_n (by decide), upd_n (by decide), upd_n (by decide), upd_s]
  · rw [upd_n (by decide), upd_n (by decide), upd_s]
  · rw [upd_n (by decide), upd_s]
  · rw [upd_s]
/-- kinds and cells as told, and no valid auction -/
theorem RelP_end {B : Int} {mo sh kn : Int32} {kd ks : Ar} {cn : Int32} {cd : Ar} {co bi ph : Int32} {pr ho he N sk : Ar} {k c : Nat} (h : RSt mo sh kn kd ks cn cd N k c) (hco : co = 0 ∨ co = 1) : RelP B mo sh kn kd ks cn cd 0 co bi ph pr ho he (eN N) sk := by
  obtain ⟨h1, h2, h3, h4, h5, h6, h7, h8⟩ := h
  refine ⟨k, c, ⟨h1, h2, h3, h4, ?_, ?_, ?_, ?_⟩, hco, Or.inl ⟨rfl, eN_hi⟩⟩
  · rw [eN_lo (by decide), h5]
  · rw [eN_lo (by decide), h6]
  · rw [eN_lo (by decide), h7]
  · rw [eN_lo (by decide), h8]
theorem n10 : ¬ (1 : Int32) = 0 := by decide
theorem s_mode {B : Int} {mo sh kn : Int32} {kd ks : Ar} {cn : Int32} {cd : Ar} {va co bi ph : Int32} {pr ho he N sk : Ar} (h : RelP B mo sh kn kd ks cn cd va co bi ph pr ho he N sk) (x : Int32) :
    ∃ (r mo' va' : Int32) (N' : Ar), fX5_mode mo va x = some (r, mo', va') ∧ fX6_mode N x = some (r, N') ∧ RelP B mo' sh kn kd ks cn cd va' co bi ph pr ho he N' sk := by
  obtain ⟨k, c, hs, hco, hsa⟩ := id h
  obtain ⟨h1, h2, h3, h4, h5, h6, h7, h8⟩ := hs
  have hx : (x = 0 ∨ x = 1) ∨ (x ≠ 0 ∧ x ≠ 1 ∧ (x.toInt < (0 : Int32).toInt ∨ (1 : Int32).toInt < x.toInt)) := by
    by_cases e0 : x = 0
    · exact Or.inl (Or.inl e0)
    · by_cases e1 : x = 1
      · exact Or.inl (Or.inr e1)
      · refine Or.inr ⟨e0, e1, ?_⟩
        have n0 : x.toInt ≠ 0 := fun z => e0 (Int32.toInt_inj.mp z)
        have n1 : x.toInt ≠ 1 := fun z => e1 (Int32.toInt_inj.mp z)
        rw [show (0 : Int32).toInt = 0 from rfl, show (1 : Int32).toInt = 1 from rfl]
        omega
  rcases hx with hx | ⟨e0, e1, e2⟩
  · have hin : fX6_in x.toInt64 (0 : Int64) (1 : Int64) = some 1 := by
      rw [l0, l1]
      rcases hx with e | e
      · rw [e]; exact in_t (by decide) (by decide)
      · rw [e]; exact in_t (by decide) (by decide)
    have hc : fX5_mode mo va x = fX5_mode_b12 x mo va := by
      unfold fX5_mode
      rcases hx with e | e
      · rw [if_pos e]
      · rw [if_neg (by rw [e]; decide), if_pos e]
    by_cases hm : x = mo
    · refine ⟨mo, mo, va, N, ?_, ?_, h⟩
      · rw [hc, fX5_mode_b12, if_pos hm]
      · unfold fX6_mode
        rw [hin, bd1, if_neg (by decide), bdv, h5, if_pos hm, hm, ← h5, upd_id]
    · refine ⟨mo, x, 0, eN (upd N 0 x), ?_, ?_, ?_⟩
      · rw [hc, fX5_mode_b12, if_neg hm]
      · unfold fX6_mode
        rw [hin, bd1, if_neg (by decide), bdv, h5, if_neg hm, end_eq, bd1]
      · refine RelP_end (k := k) (c := c) ⟨h1, h2, h3, ⟨hx, h4.2⟩, upd_s, ?_, ?_, ?_⟩ hco
        · rw [upd_n (by decide), h6]
        · rw [upd_n (by decide), h7]
        · rw [upd_n (by decide), h8]
  · refine ⟨-2, mo, va, N, ?_, ?_, h⟩
    · unfold fX5_mode
      rw [if_neg e0, if_neg e1]
    · unfold fX6_mode
      rw [l0, l1, in_f e2, bd1, if_pos rfl]
theorem s_shrink {B : Int} {mo sh kn : Int32} {kd ks : Ar} {cn : Int32} {cd : Ar} {va co bi ph : Int32} {pr ho he N sk : Ar} (h : RelP B mo sh kn kd ks cn cd va co bi ph pr ho he N sk) (x : Int32) :
    ∃ (r sh' : Int32) (N' : Ar), fX5_shrink sh x = some (r, sh') ∧ fX6_shrink N x = some (r, N') ∧ RelP B mo sh' kn kd ks cn cd va co bi ph pr ho he N' sk := by
  obtain ⟨k, c, hs, hco, hsa⟩ := id h
  obtain ⟨h1, h2, h3, h4, h5, h6, h7, h8⟩ := hs
  by_cases hx : 2 ≤ x.toInt ∧ x.toInt ≤ 9
  · obtain ⟨j, hj, ej⟩ := nI_of0 (x := x) (by omega)
    refine ⟨sh, x, upd N 1 x, ?_, ?_, k, c, ⟨h1, h2, ⟨j, by omega, by omega, ej⟩, h4, ?_, upd_s, ?_, ?_⟩, hco, ?_⟩
    · unfold fX5_shrink
      rw [if_neg (by rw [Int32.lt_iff_toInt_lt, show (2 : Int32).toInt = 2 from rfl]; omega), if_pos (by rw [Int32.le_iff_toInt_le, show (9 : Int32).toInt = 9 from rfl]; omega)]
    · unfold fX6_shrink
      rw [l2, l9, in_t (by rw [show (2 : Int32).toInt = 2 from rfl]; omega) (by rw [show (9 : Int32).toInt = 9 from rfl]; omega), bd1, if_neg (by decide), bdv, h6]
    · rw [upd_n (by decide), h5]
    · rw [upd_n (by decide), h7]
    · rw [upd_n (by decide), h8]
    · unfold RSa at hsa ⊢
      rw [upd_n (show (5 : Nat) ≠ 1 by decide), upd_n (show (6 : Nat) ≠ 1 by decide), upd_n (show (7 : Nat) ≠ 1 by decide), upd_n (show (8 : Nat) ≠ 1 by decide), upd_n (show (4 : Nat) ≠ 1 by decide)]
      exact hsa
  · refine ⟨-2, sh, N, ?_, ?_, h⟩
    · unfold fX5_shrink
      by_cases e : x < 2
      · rw [if_pos e]
      · rw [if_neg e, if_neg (by
          rw [Int32.lt_iff_toInt_lt, show (2 : Int32).toInt = 2 from rfl] at e
          rw [Int32.le_iff_toInt_le, show (9 : Int32).toInt = 9 from rfl]; omega)]
    · unfold fX6_shrink
      rw [l2, l9, in_f (by rw [show (2 : Int32).toInt = 2 from rfl, show (9 : Int32).toInt = 9 from rfl]; omega), bd1, if_pos rfl]
/-! sums of changed stocks -/
theorem ssum_upd_lo {f : Ar} {j : Nat} {v : Int32} : ∀ {i : Nat}, i ≤ j → ssum (upd f j v) i = ssum f i := by
  intro i
  induction i with
  | zero => intro _; rfl
  | succ i ih => intro h; rw [ssum, ssum, ih (by omega), upd_n (by omega)]
theorem ssum_upd_hi {f : Ar} {j : Nat} {v : Int32} : ∀ {i : Nat}, j < i → ssum (upd f j v) i + (f j).toNatClampNeg = ssum f i + v.toNatClampNeg := by
  intro i
  induction i with
  | zero => intro h; exact absurd h (by omega)
  | succ i ih =>
    intro h
    rw [ssum, ssum]
    rcases Nat.eq_or_lt_of_le (Nat.lt_succ_iff.mp h) with e | e
    · subst e; rw [ssum_upd_lo (Nat.le_refl _), upd_s]; omega
    · rw [upd_n (by omega)]; have := ih e; omega
/-- a row from which one has gone -/
def sft (i m : Nat) (f : Ar) : Ar := fun j => if i ≤ j ∧ j < m then f (j + 1) else f j
theorem sft_step {i m : Nat} {f : Ar} (h : i < m) : sft (i + 1) m (upd f i (f (i + 1))) = sft i m f := funext fun j => by
  unfold sft
  by_cases e : j = i
  · subst e
    rw [if_neg (by omega), upd_s, if_pos ⟨Nat.le_refl _, h⟩]
  · by_cases e2 : i + 1 ≤ j ∧ j < m
    · rw [if_pos e2, if_pos (by omega), upd_n (by omega)]
    · rw [if_neg e2, if_neg (by omega), upd_n e]
theorem sft_end {m : Nat} {f : Ar} : sft m m f = f := funext fun j => if_neg (by omega)
theorem sft_lo {k m : Nat} {f : Ar} : ∀ {i : Nat}, i ≤ k → ssum (sft k m f) i = ssum f i := by
  intro i
  induction i with
  | zero => intro _; rfl
  | succ i ih =>
    intro h
    rw [ssum, ssum, ih (by omega)]
    have e : sft k m f i = f i := if_neg (by omega)
    rw [e]
theorem sft_hi {k m : Nat} {f : Ar} : ∀ {i : Nat}, k ≤ i → i ≤ m → ssum (sft k m f) i + (f k).toNatClampNeg = ssum f (i + 1) := by
  intro i
  induction i with
  | zero => intro h _; rw [show k = 0 by omega]; rfl
  | succ i ih =>
    intro h hm
    rcases Nat.eq_or_lt_of_le h with e | e
    · rw [← e, sft_lo (Nat.le_refl _)]; rfl
    · have h1 := ih (by omega) (by omega)
      rw [ssum, ssum]
      have e2 : sft k m f i = f (i + 1) := if_pos (by omega)
      rw [e2]
      omega
theorem takeOutK_loop {m : Nat} (hm : m ≤ 7) : ∀ r i n (kd ks : Ar), i + r = m → r < n → fX2_takeOut_b21 n (nI i) (nI m) kd ks = some (nI m, sft i m kd, sft i m ks) := by
  intro r
  induction r with
  | zero =>
    intro i n kd ks hi hn
    obtain ⟨n, rfl⟩ := fu_pos hn
    obtain rfl : i = m := by omega
    rw [fX2_takeOut_b21, if_pos (nI_le (by omega) (by omega)), sft_end, sft_end]
  | succ r ih =>
    intro i n kd ks hi hn
    obtain ⟨n, rfl⟩ := fu_pos hn
    have e : nI i + (1 : Int32) = nI (i + 1) := nI_1 i
    rw [fX2_takeOut_b21, if_neg (nI_ge (by omega) (by omega)), e, if_neg (ge8 (by omega : i + 1 < 8)), rd (by omega) (by omega), rd (by omega) (by omega), rd (by omega) (by omega), rd (by omega) (by omega), nI_clamp (by omega), nI_clamp (by omega), ih (i + 1) n _ _ (by omega) (by omega), sft_step (by omega), sft_step (by omega)]
theorem takeOutK_eq {k j : Nat} (hk : k ≤ 8) (hj : j < k) (kd ks : Ar) : fX2_takeOut (nI k) kd ks (nI j) = some (nI (k - 1), sft j (k - 1) kd, sft j (k - 1) ks) := by
  unfold fX2_takeOut
  rw [has2_t hk hj, bd1, if_neg (by decide), show nI k - (1 : Int32) = nI (k - 1) from nI_sb (b := 1) (by omega)]
  exact takeOutK_loop (by omega) (k - 1 - j) j FU kd ks (by omega) (FU_gt (by omega))
theorem dropM_loop {m : Nat} {N : Ar} (hm : m ≤ 7) (hN : N 2 = nI m) : ∀ r i n (kd ks : Ar), i + r = m → r < n → fX6_drop_b35 n (nI i) N kd ks = some (nI m, eN N, sft i m kd, sft i m ks) := by
  intro r
  induction r with
  | zero =>
    intro i n kd ks hi hn
    obtain ⟨n, rfl⟩ := fu_pos hn
    obtain rfl : i = m := by omega
    rw [fX6_drop_b35, fX6_kinds, bd1, hN, if_pos (nI_le (by omega) (by omega)), end_eq, bd1, fX6_kinds, bd1, eN_lo (by decide), hN, sft_end, sft_end]
  | succ r ih =>
    intro i n kd ks hi hn
    obtain ⟨n, rfl⟩ := fu_pos hn
    have e : nI i + (1 : Int32) = nI (i + 1) := nI_1 i
    rw [fX6_drop_b35, fX6_kinds, bd1, hN, if_neg (nI_ge (by omega) (by omega)), e, rd (by omega) (by omega), rd (by omega) (by omega), rd (by omega) (by omega), rd (by omega) (by omega), nI_clamp (by omega), nI_clamp (by omega), ih (i + 1) n _ _ (by omega) (by omega), sft_step (by omega), sft_step (by omega)]
theorem s_drop {B : Int} {mo sh kn : Int32} {kd ks : Ar} {cn : Int32} {cd : Ar} {va co bi ph : Int32} {pr ho he N sk : Ar} (h : RelP B mo sh kn kd ks cn cd va co bi ph pr ho he N sk) (x : Int32) :
    ∃ (r kn' va' : Int32) (kd' ks' N' : Ar), fX5_drop kn kd ks va x = some (r, kn', kd', ks', va') ∧ fX6_drop N kd ks x = some (r, N', kd', ks') ∧ RelP B mo sh kn' kd' ks' cn cd va' co bi ph pr ho he N' sk := by
  obtain ⟨k, c, hs, hco, hsa⟩ := id h
  obtain ⟨h1, h2, h3, h4, h5, h6, h7, h8⟩ := hs
  obtain ⟨w1, w2, w3, w4, w5, w6, w7⟩ := h4
  subst h1
  unfold fX5_drop fX6_drop
  by_cases hd : okD x
  · rw [areDots_t hd, isDots_t hd, bd1, bd1, if_neg (by decide), if_neg (by decide), numberOf_eq w2, kindOf_eq h7 w2, bd1, bd1]
    rcases fndF_spec kd x k 0 with ⟨e, -⟩ | ⟨j, -, hj, -, e⟩
    · rw [e, if_pos rfl, if_neg (by decide)]
      exact ⟨_, _, _, _, _, _, rfl, rfl, h⟩
    · rw [Nat.zero_add] at hj
      have hN : (upd N 2 (N 2 - 1)) 2 = nI (k - 1) := by rw [upd_s, h7]; exact nI_sb (b := 1) (by omega)
      rw [e, if_neg (nI_ne6 (by omega)), if_pos (nI_pos' (by omega)), takeOutK_eq w2 hj, bd3, dropM_loop (by omega) hN (k - 1 - j) j FU kd ks (by omega) (FU_gt (by omega))]
      refine ⟨_, _, _, _, _, _, rfl, rfl, ?_⟩
      have hsh : ∀ (f : Ar) i, i < k - 1 → ∃ i', i' < k ∧ sft j (k - 1) f i = f i' := fun f i hi => by
        unfold sft
        by_cases z : j ≤ i ∧ i < k - 1
        · rw [if_pos z]; exact ⟨i + 1, by omega, rfl⟩
        · rw [if_neg z]; exact ⟨i, by omega, rfl⟩
      refine RelP_end (k := k - 1) (c := c) ⟨rfl, h2, h3, ⟨w1, by omega, fun i hi => ?_, fun i hi => ?_, ?_, w6, w7⟩, ?_, ?_, hN, ?_⟩ hco
      · obtain ⟨i', a, b⟩ := hsh kd i hi
        rw [b]; exact w3 i' a
      · obtain ⟨i', a, b⟩ := hsh ks i hi
        rw [b]; exact w4 i' a
      · have q := sft_hi (k := j) (m := k - 1) (f := ks) (i := k - 1) (by omega) (Nat.le_refl _)
        rw [show k - 1 + 1 = k by omega] at q
        omega
      · rw [upd_n (by decide), h5]
      · rw [upd_n (by decide), h6]
      · rw [upd_n (by decide), h8]
  · rw [areDots_f hd, isDots_f hd, bd1, bd1, if_pos rfl, if_pos rfl]
    exact ⟨_, _, _, _, _, _, rfl, rfl, h⟩
theorem s_stock {B : Int} {mo sh kn : Int32} {kd ks : Ar} {cn : Int32} {cd : Ar} {va co bi ph : Int32} {pr ho he N sk : Ar} (h : RelP B mo sh kn kd ks cn cd va co bi ph pr ho he N sk) (x y : Int32) :
    ∃ (r kn' va' : Int32) (kd' ks' N' : Ar), fX5_stock kn kd ks va x y = some (r, kn', kd', ks', va') ∧ fX6_stock N kd ks x y = some (r, N', kd', ks') ∧ RelP B mo sh kn' kd' ks' cn cd va' co bi ph pr ho he N' sk := by
  obtain ⟨k, c, hs, hco, hsa⟩ := id h
  obtain ⟨h1, h2, h3, h4, h5, h6, h7, h8⟩ := hs
  obtain ⟨w1, w2, w3, w4, w5, w6, w7⟩ := h4
  subst h1
  unfold fX5_stock fX6_stock
  by_cases hd : okD x
  · rw [areDots_t hd, isDots_t hd, bd1, bd1, if_neg n10, if_neg n10]
    by_cases hy : 1 ≤ y.toInt ∧ y.toInt ≤ 4
    · obtain ⟨n, hn, en⟩ := nI_of0 (x := y) (by omega)
      rw [l1, l4, in_t (by rw [show (1 : Int32).toInt = 1 from rfl]; omega) (by rw [show (4 : Int32).toInt = 4 from rfl]; omega), bd1, if_neg n10, if_neg (show ¬ y < 1 by rw [Int32.lt_iff_toInt_lt, show (1 : Int32).toInt = 1 from rfl]; omega), if_pos (show y ≤ 4 by rw [Int32.le_iff_toInt_le, show (4 : Int32).toInt = 4 from rfl]; omega), kindOf_eq h7 w2, bd1]
      have hnum := numberOf_eq w2 kd x
      have hsl := slots_eq w2 w4
      have hst := stocks_eq (N := N) h7 w2 w4
      subst en
      have hn' : n ≤ 4 := by omega
      have hn1 : 1 ≤ n := by omega
      unfold fX2_hasRoom
      rw [hnum, bd1]
      rcases fndF_spec kd x k 0 with ⟨e, -⟩ | ⟨j, -, hj, -, e⟩
      · -- a new kind
        rw [e] at hnum ⊢
        rw [has2_f w2 (fun j hj z => nI_ne6 (by omega) z.symm), bd1, if_pos rfl, if_neg (show ¬ (0 : Int32) ≤ -6 by decide)]
        unfold fX6_stock_b42 fX6_kinds
        rw [if_neg (show ¬ (0 : Int32) ≤ -6 by decide), bd1, h7]
        by_cases hk8 : k = 8
        · rw [hk8, if_pos (show (8 : Int32) ≤ nI 8 by decide), if_pos (show nI 8 = (8 : Int32) from rfl), fX2_hasRoom_b48, if_pos rfl, bd1, if_pos rfl]
          rw [hk8] at h
          exact ⟨_, _, _, _, _, _, rfl, rfl, h⟩
        · have hk : k < 8 := by omega
          rw [if_neg (ge8 hk), if_neg (show ¬ nI k = (8 : Int32) from fun z => hk8 ((nI_eq (b := 8) (by omega) (by decide)).mp z)), fX2_hasRoom_b48, if_neg n10, hsl, bd1]
          unfold fX6_stock_b57
          rw [show (0 : Int32) + nI n = nI n from Int32.zero_add _, if_neg (show ¬ (4 : Int32) < nI n from nI_nlt (a := 4) hn' (by decide)), hst, bd1, nI_add]
          by_cases h16 : ssum ks k + n ≤ 16
          · rw [if_neg (show ¬ (16 : Int32) < nI (ssum ks k + n) from nI_nlt (a := 16) h16 (by decide)), bd1, if_neg n10, if_pos (show nI (ssum ks k + n) ≤ (16 : Int32) from nI_le (b := 16) h16 (by decide)), if_neg (show ¬ (0 : Int32) ≤ -6 by decide), fX6_kinds, bd1, h7, rd (by omega) (by omega), nI_clamp (by omega)]
            unfold fX6_stock_b105 fX2_add
            rw [hnum, bd1, if_pos rfl, rd (by omega) (by omega), end_eq, bd1, nI_clamp (by omega)]
            unfold fX2_add_b20 fX2_add_b71
            rw [if_neg (nI_pos (by omega)), if_pos (show nI k < (8 : Int32) from nI_lt (b := 8) hk (by decide)), if_pos rfl, rd (by omega) (by omega), rd (by omega) (by omega), rd (by omega) (by omega), rd (by omega) (by omega), rd (by omega) (by omega), nI_clamp (by omega), upd_uu, upd_s, upd_s, show (0 : Int32) + nI n = nI n from Int32.zero_add _, bd4, show nI k + (1 : Int32) = nI (k + 1) from nI_1 k]
            refine ⟨_, _, _, _, _, _, rfl, rfl, ?_⟩
            refine RelP_end (k := k + 1) (c := c) ⟨rfl, h2, h3, ⟨w1, by omega, fun i hi => ?_, fun i hi => ?_, ?_, w6, w7⟩, ?_, ?_, upd_s, ?_⟩ hco
            · by_cases z : i = k
              · rw [z, upd_s]; exact hd
              · rw [upd_n z]; exact w3 i (by omega)
            · by_cases z : i = k
              · rw [z, upd_s, nI_toInt (by omega)]; omega
              · rw [upd_n z]; exact w4 i (by omega)
            · rw [ssum, ssum_upd_lo (Nat.le_refl _), upd_s, nI_clamp (by omega)]; exact h16
            · rw [upd_n (by decide), h5]
            · rw [upd_n (by decide), h6]
            · rw [upd_n (by decide), h8]
          · rw [if_pos (show (16 : Int32) < nI (ssum ks k + n) from nI_lt (a := 16) (by omega) (by omega)), bd1, if_pos rfl, if_neg (show ¬ nI (ssum ks k + n) ≤ (16 : Int32) from nI_ge (a := 16) (by omega) (by omega))]
            exact ⟨_, _, _, _, _, _, rfl, rfl, h⟩
      · -- one that is there
        rw [Nat.zero_add] at hj
        have ek := okS_n w4 hj
        have bk := okS_b w4 hj
        rw [e] at hnum ⊢
        rw [has2_t w2 hj, bd1, if_neg n10, if_pos (nI_pos' (by omega)), rd (by omega) (by omega), rd (by omega) (by omega), nI_clamp (by omega)]
        unfold fX6_stock_b42 fX6_stock_b57
        rw [if_pos (nI_pos' (by omega))]
        have hadd : ks j + nI n = nI ((ks j).toNatClampNeg + n) := by rw [ek, nI_add, nI_clamp (by omega)]
        rw [hadd]
        by_cases h4' : (ks j).toNatClampNeg + n ≤ 4
        · rw [if_neg (show ¬ (4 : Int32) < nI ((ks j).toNatClampNeg + n) from nI_nlt (a := 4) h4' (by decide)), if_neg (show ¬ (4 : Int32) < nI ((ks j).toNatClampNeg + n) from nI_nlt (a := 4) h4' (by decide)), fX2_hasRoom_b48, if_neg n10, hsl, bd1, hst, bd1, nI_add]
          by_cases h16 : ssum ks k + n ≤ 16
          · rw [if_neg (show ¬ (16 : Int32) < nI (ssum ks k + n) from nI_nlt (a := 16) h16 (by decide)), bd1, if_neg n10, if_pos (show nI (ssum ks k + n) ≤ (16 : Int32) from nI_le (b := 16) h16 (by decide)), if_pos (nI_pos' (by omega))]
            unfold fX6_stock_b105 fX2_add
            rw [hnum, bd1, if_neg (nI_ne6 (by omega)), rd (by omega) (by omega), end_eq, bd1, nI_clamp (by omega)]
            unfold fX2_add_b20 fX2_add_b71
            rw [if_neg (nI_pos (by omega)), if_pos (show nI j < (8 : Int32) from nI_lt (b := 8) (by omega) (by decide)), if_neg (show ¬ nI j = nI k from fun z => by have := (nI_eq (by omega) (by omega)).mp z; omega), rd (by omega) (by omega), rd (by omega) (by omega), rd (by omega) (by omega), nI_clamp (by omega), upd_s, hadd, bd4]
            refine ⟨_, _, _, _, _, _, rfl, rfl, ?_⟩
            refine RelP_end (k := k) (c := c) ⟨rfl, h2, h3, ⟨w1, w2, w3, fun i hi => ?_, ?_, w6, w7⟩, h5, h6, h7, h8⟩ hco
            · by_cases z : i = j
              · rw [z, upd_s, nI_toInt (by omega)]; omega
              · rw [upd_n z]; exact w4 i hi
            · have q := ssum_upd_hi (f := ks) (v := nI ((ks j).toNatClampNeg + n)) hj
              rw [nI_clamp (by omega)] at q
              omega
          · rw [if_pos (show (16 : Int32) < nI (ssum ks k + n) from nI_lt (a := 16) (by omega) (by omega)), bd1, if_pos rfl, if_neg (show ¬ nI (ssum ks k + n) ≤ (16 : Int32) from nI_ge (a := 16) (by omega) (by omega))]
            exact ⟨_, _, _, _, _, _, rfl, rfl, h⟩
        · rw [if_pos (show (4 : Int32) < nI ((ks j).toNatClampNeg + n) from nI_lt (a := 4) (by omega) (by omega)), if_pos (show (4 : Int32) < nI ((ks j).toNatClampNeg + n) from nI_lt (a := 4) (by omega) (by omega)), fX2_hasRoom_b48, if_pos rfl, bd1, if_pos rfl]
          exact ⟨_, _, _, _, _, _, rfl, rfl, h⟩
    · rw [l1, l4, in_f (by rw [show (1 : Int32).toInt = 1 from rfl, show (4 : Int32).toInt = 4 from rfl]; omega), bd1, if_pos (show (0 : Int32) = 0 from rfl)]
      refine ⟨-2, nI k, va, kd, ks, N, ?_, rfl, h⟩
      by_cases z : y < 1
      · rw [if_pos z]
      · rw [if_neg z, if_neg (by
          rw [Int32.lt_iff_toInt_lt, show (1 : Int32).toInt = 1 from rfl] at z
          rw [Int32.le_iff_toInt_le, show (4 : Int32).toInt = 4 from rfl]; omega)]
  · rw [areDots_f hd, isDots_f hd, bd1, bd1, if_pos rfl, if_pos rfl]
    exact ⟨_, _, _, _, _, _, rfl, rfl, h⟩
