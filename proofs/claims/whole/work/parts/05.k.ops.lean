/-! 05.k: told; auction and repair; images -/
theorem i32_sa (x y : Int32) : x - y + y = x := Int32.sub_add_cancel x y
theorem s_told {B : Int} {mo sh kn : Int32} {kd ks : Ar} {cn : Int32} {cd : Ar} {va co bi ph : Int32} {pr ho he N sk : Ar} (h : RelP B mo sh kn kd ks cn cd va co bi ph pr ho he N sk) (x : Int32) : ∃ r : Int32, fX5_told mo sh kn ks cn cd va co bi ph x = some r ∧ fX6_told N ks cd x = some r := by
  obtain ⟨k, c, ⟨h1, h2, h3, h4, h5, h6, h7, h8⟩, hco, hsa⟩ := id h
  obtain ⟨w1, w2, w3, w4, w5, w6, w7⟩ := h4
  subst h1; subst h2
  unfold fX5_told fX6_told
  rcases cnt (c := c) (x - 100) with ⟨j, hj, e⟩ | hx
  · have ex : x = nI (j + 100) := by
      have := i32_sa x 100
      rw [e] at this
      rw [← this]
      exact nI_add j 100
    have ne : ∀ i : Nat, i < 9 → x ≠ nI i := fun i hi z => by
      rw [ex] at z
      have := (nI_eq (by omega) (by omega)).mp z
      omega
    rw [e, isCell_t h8 w6 hj, bd1, if_neg n10, rd (by omega) (by omega), nI_clamp (by omega), if_neg (show ¬ x = (0 : Int32) from ne 0 (by decide)), if_neg (show ¬ x = (1 : Int32) from ne 1 (by decide)), if_neg (show ¬ x = (2 : Int32) from ne 2 (by decide)), if_neg (show ¬ x = (3 : Int32) from ne 3 (by decide)), if_neg (show ¬ x = (4 : Int32) from ne 4 (by decide)), if_neg (show ¬ x = (5 : Int32) from ne 5 (by decide)), if_neg (show ¬ x = (6 : Int32) from ne 6 (by decide)), if_neg (show ¬ x = (7 : Int32) from ne 7 (by decide)), if_neg (show ¬ x = (8 : Int32) from ne 8 (by decide))]
    unfold fX5_toldOfCell
    rw [if_neg (show ¬ x < (100 : Int32) by rw [ex]; exact nI_nlt (b := 100) (by omega) (by omega)), e, has1_t w6 hj, bd1, if_neg n10, rd (by omega) (by omega), nI_clamp (by omega)]
    exact ⟨_, rfl, rfl⟩
  · rw [isCell_f h8 w6 hx, bd1, if_pos rfl]
    by_cases e0 : x = 0
    · subst e0; exact ⟨mo, rfl, by rw [if_neg (by decide), l0, l8, in_t (by decide) (by decide), bd1, if_neg n10, if_neg (by decide)]; exact congrArg some h5⟩
    rw [if_neg e0]
    by_cases e1 : x = 1
    · subst e1; exact ⟨sh, rfl, by rw [if_neg (by decide), l0, l8, in_t (by decide) (by decide), bd1, if_neg n10, if_neg (by decide)]; exact congrArg some h6⟩
    rw [if_neg e1]
    by_cases e2 : x = 2
    · subst e2; exact ⟨nI k, rfl, by rw [if_neg (by decide), l0, l8, in_t (by decide) (by decide), bd1, if_neg n10, if_neg (by decide)]; exact congrArg some h7⟩
    rw [if_neg e2]
    by_cases e3 : x = 3
    · subst e3; exact ⟨nI c, rfl, by rw [if_neg (by decide), l0, l8, in_t (by decide) (by decide), bd1, if_neg n10, if_neg (by decide)]; exact congrArg some h8⟩
    rw [if_neg e3]
    by_cases e4 : x = 4
    · rw [if_pos e4, if_pos e4, slots_eq w2 w4, stocks_eq h7 w2 w4]; exact ⟨_, rfl, rfl⟩
    rw [if_neg e4, if_neg e4]
    have hM : ∀ i : Nat, i < 9 → x = nI i → (bd1 (fX6_in x.toInt64 (0 : Int64) (8 : Int64)) fun r_37 => if r_37 = 0 then some (-2 : Int32) else if x < 0 ∨ 9 ≤ x.toNatClampNeg then none else some (N x.toNatClampNeg)) = some (N i) := by
      intro i hi e
      subst e
      rw [l0, l8, in_t (by rw [i0, nI_toInt (by omega)]; omega) (by rw [nI_toInt (by omega), show (8 : Int32).toInt = 8 from rfl]; omega), bd1, if_neg n10, rd hi (by decide), nI_clamp (by omega)]
    by_cases e5 : x = 5
    · rw [if_pos e5, hM 5 (by decide) e5]
      rcases hsa with ⟨a1, a2, -⟩ | ⟨a1, a2, -⟩
      · rw [if_pos a1, a2]; exact ⟨_, rfl, rfl⟩
      · rw [if_neg (by rw [a1]; decide), a2]; exact ⟨_, rfl, rfl⟩
    rw [if_neg e5]
    by_cases e6 : x = 6
    · rw [if_pos e6, hM 6 (by decide) e6]
      unfold fX4_isDone
      rcases hsa with ⟨a1, a2, a3, -⟩ | ⟨a1, a2, a3, -⟩
      · rw [a3, a1]; exact ⟨_, rfl, rfl⟩
      · rw [a1, a3]
        rcases hco with q | q
        · rw [q]; exact ⟨_, rfl, rfl⟩
        · rw [q]; exact ⟨_, rfl, rfl⟩
    rw [if_neg e6]
    by_cases e7 : x = 7
    · rw [if_pos e7, hM 7 (by decide) e7]
      rcases hsa with ⟨a1, a2, a3, a4, -⟩ | ⟨a1, a2, a3, a4, -⟩
      · rw [if_pos a1, a4]; exact ⟨_, rfl, rfl⟩
      · rw [if_neg (by rw [a1]; decide), a4]; exact ⟨_, rfl, rfl⟩
    rw [if_neg e7]
    by_cases e8 : x = 8
    · rw [if_pos e8, hM 8 (by decide) e8]
      rcases hsa with ⟨a1, a2, a3, a4, a5⟩ | ⟨a1, a2, a3, a4, a5, -⟩
      · rw [if_pos a1, a5]; exact ⟨_, rfl, rfl⟩
      · rw [if_neg (by rw [a1]; decide), a5]; exact ⟨_, rfl, rfl⟩
    rw [if_neg e8]
    have nz : ∀ i : Nat, i < 9 → x.toInt ≠ i := fun i hi z => by
      have : x = nI i := Int32.toInt_inj.mp (by rw [nI_toInt (by omega)]; exact z)
      rcases (show i = 0 ∨ i = 1 ∨ i = 2 ∨ i = 3 ∨ i = 4 ∨ i = 5 ∨ i = 6 ∨ i = 7 ∨ i = 8 by omega) with q | q | q | q | q | q | q | q | q <;> subst q
      · exact e0 this
      · exact e1 this
      · exact e2 this
      · exact e3 this
      · exact e4 this
      · exact e5 this
      · exact e6 this
      · exact e7 this
      · exact e8 this
    have m0 := nz 0 (by decide); have m1 := nz 1 (by decide); have m2 := nz 2 (by decide); have m3 := nz 3 (by decide); have m4 := nz 4 (by decide); have m5 := nz 5 (by decide); have m6 := nz 6 (by decide); have m7 := nz 7 (by decide); have m8 := nz 8 (by decide)
    rw [l0, l8, in_f (by rw [i0, show (8 : Int32).toInt = 8 from rfl]; omega), bd1, if_pos rfl]
    refine ⟨-2, ?_, rfl⟩
    unfold fX5_toldOfCell
    by_cases z : x < 100
    · rw [if_pos z]; rfl
    · rw [if_neg z, has1_f w6 hx, bd1, if_pos rfl]; rfl
theorem s_auction {B : Int} {mo sh kn : Int32} {kd ks : Ar} {cn : Int32} {cd : Ar} {va co bi ph : Int32} {pr ho he N sk : Ar} (h : RelP B mo sh kn kd ks cn cd va co bi ph pr ho he N sk) (hB : 340000 ≤ B) (Sl : Int32) (Wo st pb ps : Ar) :
    ∃ (r Sl' va' co' bi' ph' : Int32) (Wo' pr' ho' he' st' pb' ps' N' sk' : Ar), fX5_auction Sl Wo mo sh kn kd ks cn cd va co bi ph pr ho he st pb ps = some (r, Sl', Wo', va', co', bi', ph', pr', ho', he', st', pb', ps') ∧ fX6_auction N kd ks cd pr sk ho he st pb ps = some (r, N', pr', sk', ho', he', st', pb', ps') ∧ RelP B mo sh kn kd ks cn cd va' co' bi' ph' pr' ho' he' N' sk' := by
  obtain ⟨k, c, ⟨h1, h2, ⟨s, s1, s2, s3⟩, h4, h5, h6, h7, h8⟩, hco, hsa⟩ := id h
  have h6' : N 1 = nI s := by rw [h6, s3]
  rcases auction_sim (sk := sk) (pr := pr) (Sl := Sl) (va := va) (co := co) (bi := bi) (ph := ph) (Wo := Wo) (ho := ho) (he := he) (st := st) (pb := pb) (ps := ps) h4 rfl s1 s2 h5 h6' h7 h8 with ⟨q1, q2⟩ | ⟨ph', N', Wo', pr', sk', ho', he', st', pb', ps', tot, a1, a2, a3, a4, a5, a6, a7, a8, a9, a10, a11, a12, a13⟩
  · rw [← h1, ← h2, ← s3] at q1
    exact ⟨_, _, _, _, _, _, _, _, _, _, _, _, _, _, _, q1, q2, h⟩
  · rw [← h1, ← h2, ← s3] at a3
    refine ⟨_, _, _, _, _, _, _, _, _, _, _, _, _, _, _, a3, a4, k, c, ⟨h1, h2, ⟨s, s1, s2, s3⟩, h4, ?_, ?_, ?_, ?_⟩, Or.inr rfl, Or.inr ⟨rfl, a9, a10, a11, a12, ⟨ph', a5, rfl⟩, a1, a2, a8, a13, a6.mono hB⟩⟩
    · rw [a7 0 (by decide), h5]
    · rw [a7 1 (by decide), h6]
    · rw [a7 2 (by decide), h7]
    · rw [a7 3 (by decide), h8]
theorem s_repair {B : Int} {mo sh kn : Int32} {kd ks : Ar} {cn : Int32} {cd : Ar} {va co bi ph : Int32} {pr ho he N sk : Ar} (h : RelP B mo sh kn kd ks cn cd va co bi ph pr ho he N sk) (hB : B ≤ 400000000) (Sl : Int32) (Wo : Ar) :
    ∃ (r Sl' va' co' bi' : Int32) (Wo' pr' ho' he' N' : Ar), fX5_repair Sl Wo mo kn kd ks cn cd va co bi pr ho he = some (r, Sl', Wo', va', co', bi', pr', ho', he') ∧ fX6_repair N kd cd pr sk ho he = some (r, N', pr', ho', he') ∧ RelP (B + 21000) mo sh kn kd ks cn cd va' co' bi' ph pr' ho' he' N' sk := by
  obtain ⟨k, c, ⟨h1, h2, h3, h4, h5, h6, h7, h8⟩, hco, hsa⟩ := id h
  rcases done_cases hco hsa with ⟨z0, z1, z2, z3⟩ | ⟨z0, z00, z1, z2, z3⟩ | ⟨z0, z00, z1, z2, z3⟩
  · refine ⟨-3, Sl, va, co, bi, Wo, pr, ho, he, N, ?_, ?_, h.mono (by omega)⟩
    · unfold fX5_repair; rw [if_pos z0]
    · unfold fX6_repair; rw [z3, bd1, if_pos rfl]
  · rcases hsa with ⟨a1, -⟩ | ⟨a1, a2, a3, a4, a5, a6, a7, a8, a9, a10, a11⟩
    · rw [z0] at a1; exact absurd a1 n10
    · obtain ⟨k', Wo', pr', ho', he', r1, r2, r3⟩ := repair_sim (Sl := Sl) (Wo := Wo) (bi := bi) h4 rfl a7 a10 h5 h8 a9 a2 (by rw [a3, z00]) hB a11
      rw [← h1, ← h2] at r1
      refine ⟨nI k', _, 1, 1, nI k', Wo', pr', ho', he', _, by rw [z0, z00]; exact r1, r2, k, c, ⟨h1, h2, h3, h4, ?_, ?_, ?_, ?_⟩, Or.inr rfl, Or.inr ⟨rfl, ?_, ?_, ?_, ?_, a6, a7, a8, ?_, a10, r3⟩⟩
      · rw [upd_n (by decide), upd_n (by decide), h5]
      · rw [upd_n (by decide), upd_n (by decide), h6]
      · rw [upd_n (by decide), upd_n (by decide), h7]
      · rw [upd_n (by decide), upd_n (by decide), h8]
      · rw [upd_n (by decide), upd_n (by decide), a2]
      · rw [upd_s]
      · rw [upd_n (by decide), upd_n (by decide), a4]
      · rw [upd_n (by decide), upd_s]
      · rw [upd_n (by decide), upd_n (by decide), a9]
  · refine ⟨0, Sl, va, co, bi, Wo, pr, ho, he, N, ?_, ?_, h.mono (by omega)⟩
    · unfold fX5_repair; rw [if_neg (by rw [z0]; decide), if_neg (by rw [z00]; decide)]
    · unfold fX6_repair; rw [z3, bd1, if_neg n10, z2, bd1, if_neg n10]
/-! a row passed into what is kept, and back -/
def pkk (a n : Nat) (f ke : Ar) : Ar := fun q => if a ≤ q ∧ q < a + n then f (q - a) else ke q
theorem passW_loop {nRo n a : Nat} {Ro : Ar} (hn : n ≤ nRo) (hR : nRo < 2 ^ 31) (ha : a + n ≤ 298) : ∀ r i f ke, i + r = n → r < f → fX6_passRow_b2 1 nRo f (nI n) (nI i) (nI (a + i)) ke Ro = some (nI (a + n), (fun q => if a + i ≤ q ∧ q < a + n then Ro (q - a) else ke q), Ro) := by
  intro r
  induction r with
  | zero =>
    intro i f ke hi hf
    obtain ⟨f, rfl⟩ := fu_pos hf
    obtain rfl : i = n := by omega
    rw [fX6_passRow_b2, if_pos (nI_le (by omega) (by omega)), show (fun q => if a + i ≤ q ∧ q < a + i then Ro (q - a) else ke q) = ke from funext fun q => if_neg (by omega)]
  | succ r ih =>
    intro i f ke hi hf
    obtain ⟨f, rfl⟩ := fu_pos hf
    rw [fX6_passRow_b2, if_neg (nI_ge (by omega) (by omega)), if_neg n10, rd (by omega) (by omega), fX6_passRow_b31, rd (by omega) (by omega), rd (by omega) (by omega), rd (by omega) (by omega), nI_clamp (by omega), nI_clamp (by omega), upd_id, nI_1, nI_1, show a + i + 1 = a + (i + 1) by omega, ih (i + 1) f _ (by omega) (by omega)]
    have e : (fun q => if a + (i + 1) ≤ q ∧ q < a + n then Ro (q - a) else upd ke (a + i) (Ro i) q) = fun q => if a + i ≤ q ∧ q < a + n then Ro (q - a) else ke q := funext fun q => by
      by_cases z : q = a + i
      · rw [z, if_neg (by omega), upd_s, if_pos (by omega), show a + i - a = i by omega]
      · rw [upd_n z]
        by_cases y : a + (i + 1) ≤ q ∧ q < a + n
        · rw [if_pos y, if_pos (by omega)]
        · rw [if_neg y, if_neg (by omega)]
    rw [e]
theorem passW {nRo n a : Nat} (Ro ke : Ar) (hn : n ≤ nRo) (hR : nRo < 2 ^ 31) (ha : a + n ≤ 298) : fX6_passRow (nI a) 1 ke Ro nRo (nI n) = some (nI (a + n), pkk a n Ro ke, Ro) := passW_loop hn hR ha n 0 FU ke (by omega) (FU_gt (by omega))
theorem passR_loop {nRo n a : Nat} {ke : Ar} (hn : n ≤ nRo) (hR : nRo < 2 ^ 31) (ha : a + n ≤ 298) : ∀ r i f Ro, i + r = n → r < f → ∃ Ro' : Ar, (∀ j, i ≤ j → j < n → Ro' j = ke (a + j)) ∧ (∀ j, j < i → Ro' j = Ro j) ∧ fX6_passRow_b2 0 nRo f (nI n) (nI i) (nI (a + i)) ke Ro = some (nI (a + n), ke, Ro') := by
  intro r
  induction r with
  | zero =>
    intro i f Ro hi hf
    obtain ⟨f, rfl⟩ := fu_pos hf
    obtain rfl : i = n := by omega
    exact ⟨Ro, fun j h1 h2 => absurd h2 (by omega), fun _ _ => rfl, by rw [fX6_passRow_b2, if_pos (nI_le (by omega) (by omega))]⟩
  | succ r ih =>
    intro i f Ro hi hf
    obtain ⟨f, rfl⟩ := fu_pos hf
    obtain ⟨Ro', h1, h2, h3⟩ := ih (i + 1) f (upd Ro i (ke (a + i))) (by omega) (by omega)
    refine ⟨Ro', fun j g1 g2 => ?_, fun j g1 => ?_, ?_⟩
    · rcases Nat.eq_or_lt_of_le g1 with g | g
      · rw [← g, h2 i (by omega), upd_s]
      · exact h1 j g g2
    · rw [h2 j (by omega), upd_n (by omega)]
    · rw [fX6_passRow_b2, if_neg (nI_ge (by omega) (by omega)), if_pos rfl, rd (by omega) (by omega), fX6_passRow_b31, rd (by omega) (by omega), rd (by omega) (by omega), rd (by omega) (by omega), nI_clamp (by omega), nI_clamp (by omega), upd_s, upd_id, nI_1, nI_1, show a + i + 1 = a + (i + 1) by omega]
      exact h3
theorem passR {nRo n a : Nat} (Ro ke : Ar) (hn : n ≤ nRo) (hR : nRo < 2 ^ 31) (ha : a + n ≤ 298) : ∃ Ro' : Ar, (∀ j, j < n → Ro' j = ke (a + j)) ∧ fX6_passRow (nI a) 0 ke Ro nRo (nI n) = some (nI (a + n), ke, Ro') := by
  obtain ⟨Ro', h1, -, h3⟩ := passR_loop (nRo := nRo) (ke := ke) hn hR ha n 0 FU Ro (by omega) (FU_gt (by omega))
  exact ⟨Ro', fun j hj => h1 j (by omega) hj, h3⟩
/-- the rows as they are kept from a on -/
def KRel (a : Nat) (ke N kd ks cd pr sk ho he st pb ps : Ar) : Prop := (∀ j, j < 9 → ke (a + j) = N j) ∧ (∀ j, j < 8 → ke (a + 9 + j) = kd j) ∧ (∀ j, j < 8 → ke (a + 17 + j) = ks j) ∧ (∀ j, j < 12 → ke (a + 25 + j) = cd j) ∧ (∀ j, j < 16 → ke (a + 37 + j) = pr j) ∧ (∀ j, j < 16 → ke (a + 53 + j) = sk j) ∧ (∀ j, j < 16 → ke (a + 69 + j) = ho j) ∧ (∀ j, j < 16 → ke (a + 85 + j) = he j) ∧ (∀ j, j < 16 → ke (a + 101 + j) = st j) ∧ (∀ j, j < 16 → ke (a + 117 + j) = pb j) ∧ ∀ j, j < 16 → ke (a + 133 + j) = ps j
theorem pkk_in {a n q : Nat} {f ke : Ar} (h1 : a ≤ q) (h2 : q < a + n) : pkk a n f ke q = f (q - a) := if_pos ⟨h1, h2⟩
theorem pkk_out {a n q : Nat} {f ke : Ar} (h : q < a ∨ a + n ≤ q) : pkk a n f ke q = ke q := if_neg (by omega)
theorem passAllW {a : Nat} (ha : a + 149 ≤ 298) (N kd ks cd pr sk ho he st pb ps ke : Ar) : ∃ ke' : Ar, fX6_passAll (nI a) 1 N kd ks cd pr sk ho he st pb ps ke = some (nI (a + 149), N, kd, ks, cd, pr, sk, ho, he, st, pb, ps, ke') ∧ KRel a ke' N kd ks cd pr sk ho he st pb ps ∧ ∀ q, q < a ∨ a + 149 ≤ q → ke' q = ke q := by
  have c9 : (9 : Int32) = nI 9 := rfl
  have c8 : (8 : Int32) = nI 8 := rfl
  have c12 : (12 : Int32) = nI 12 := rfl
  have c16 : (16 : Int32) = nI 16 := rfl
  refine ⟨pkk (a + 133) 16 ps (pkk (a + 117) 16 pb (pkk (a + 101) 16 st (pkk (a + 85) 16 he (pkk (a + 69) 16 ho (pkk (a + 53) 16 sk (pkk (a + 37) 16 pr (pkk (a + 25) 12 cd (pkk (a + 17) 8 ks (pkk (a + 9) 8 kd (pkk a 9 N ke)))))))))), ?_, ?_, ?_⟩
  · unfold fX6_passAll
    rw [c9, c8, c12, c16, passW N ke (by decide) (by decide) (by omega), bd3, passW kd _ (by decide) (by decide) (by omega), bd3, show a + 9 + 8 = a + 17 by omega, passW ks _ (by decide) (by decide) (by omega), bd3, show a + 17 + 8 = a + 25 by omega, passW cd _ (by decide) (by decide) (by omega), bd3, show a + 25 + 12 = a + 37 by omega, passW pr _ (by decide) (by decide) (by omega), bd3, show a + 37 + 16 = a + 53 by omega, passW sk _ (by decide) (by decide) (by omega), bd3, show a + 53 + 16 = a + 69 by omega, passW ho _ (by decide) (by decide) (by omega), bd3, show a + 69 + 16 = a + 85 by omega, passW he _ (by decide) (by decide) (by omega), bd3, show a + 85 + 16 = a + 101 by omega, passW st _ (by decide) (by decide) (by omega), bd3, show a + 101 + 16 = a + 117 by omega, passW pb _ (by decide) (by decide) (by omega), bd3, show a + 117 + 16 = a + 133 by omega, passW ps _ (by decide) (by decide) (by omega), bd3]
  · refine ⟨fun j hj => ?_, fun j hj => ?_, fun j hj => ?_, fun j hj => ?_, fun j hj => ?_, fun j hj => ?_, fun j hj => ?_, fun j hj => ?_, fun j hj => ?_, fun j hj => ?_, fun j hj => ?_⟩
    · rw [pkk_out (by omega), pkk_out (by omega), pkk_out (by omega), pkk_out (by omega), pkk_out (by omega), pkk_out (by omega), pkk_out (by omega), pkk_out (by omega), pkk_out (by omega), pkk_out (by omega), pkk_in (by omega) (by omega), show a + j - a = j by omega]
    · rw [pkk_out (by omega), pkk_out (by omega), pkk_out (by omega), pkk_out (by omega), pkk_out (by omega), pkk_out (by omega), pkk_out (by omega), pkk_out (by omega), pkk_out (by omega), pkk_in (by omega) (by omega), show a + 9 + j - (a + 9) = j by omega]
    · rw [pkk_out (by omega), pkk_out (by omega), pkk_out (by omega), pkk_out (by omega), pkk_out (by omega), pkk_out (by omega), pkk_out (by omega), pkk_out (by omega), pkk_in (by omega) (by omega), show a + 17 + j - (a + 17) = j by omega]
    · rw [pkk_out (by omega), pkk_out (by omega), pkk_out (by omega), pkk_out (by omega), pkk_out (by omega), pkk_out (by omega), pkk_out (by omega), pkk_in (by omega) (by omega), show a + 25 + j - (a + 25) = j by omega]
    · rw [pkk_out (by omega), pkk_out (by omega), pkk_out (by omega), pkk_out (by omega), pkk_out (by omega), pkk_out (by omega), pkk_in (by omega) (by omega), show a + 37 + j - (a + 37) = j by omega]
    · rw [pkk_out (by omega), pkk_out (by omega), pkk_out (by omega), pkk_out (by omega), pkk_out (by omega), pkk_in (by omega) (by omega), show a + 53 + j - (a + 53) = j by omega]
    · rw [pkk_out (by omega), pkk_out (by omega), pkk_out (by omega), pkk_out (by omega), pkk_in (by omega) (by omega), show a + 69 + j - (a + 69) = j by omega]
    · rw [pkk_out (by omega), pkk_out (by omega), pkk_out (by omega), pkk_in (by omega) (by omega), show a + 85 + j - (a + 85) = j by omega]
    · rw [pkk_out (by omega), pkk_out (by omega), pkk_in (by omega) (by omega), show a + 101 + j - (a + 101) = j by omega]
    · rw [pkk_out (by omega), pkk_in (by omega) (by omega), show a + 117 + j - (a + 117) = j by omega]
    · rw [pkk_in (by omega) (by omega), show a + 133 + j - (a + 133) = j by omega]
  · intro q hq
    rw [pkk_out (by omega), pkk_out (by omega), pkk_out (by omega), pkk_out (by omega), pkk_out (by omega), pkk_out (by omega), pkk_out (by omega), pkk_out (by omega), pkk_out (by omega), pkk_out (by omega), pkk_out (by omega)]
theorem passAllR {a : Nat} (ha : a + 149 ≤ 298) (N kd ks cd pr sk ho he st pb ps ke : Ar) : ∃ N' kd' ks' cd' pr' sk' ho' he' st' pb' ps' : Ar, fX6_passAll (nI a) 0 N kd ks cd pr sk ho he st pb ps ke = some (nI (a + 149), N', kd', ks', cd', pr', sk', ho', he', st', pb', ps', ke) ∧ KRel a ke N' kd' ks' cd' pr' sk' ho' he' st' pb' ps' := by
  have c9 : (9 : Int32) = nI 9 := rfl
  have c8 : (8 : Int32) = nI 8 := rfl
  have c12 : (12 : Int32) = nI 12 := rfl
  have c16 : (16 : Int32) = nI 16 := rfl
  obtain ⟨N', g1, r1⟩ := passR (a := a) (nRo := 9) (n := 9) N ke (by decide) (by decide) (by omega)
  obtain ⟨kd', g2, r2⟩ := passR (a := a + 9) (nRo := 8) (n := 8) kd ke (by decide) (by decide) (by omega)
  obtain ⟨ks', g3, r3⟩ := passR (a := a + 17) (nRo := 8) (n := 8) ks ke (by decide) (by decide) (by omega)
  obtain ⟨cd', g4, r4⟩ := passR (a := a + 25) (nRo := 12) (n := 12) cd ke (by decide) (by decide) (by omega)
  obtain ⟨pr', g5, r5⟩ := passR (a := a + 37) (nRo := 16) (n := 16) pr ke (by decide) (by decide) (by omega)
  obtain ⟨sk', g6, r6⟩ := passR (a := a + 53) (nRo := 16) (n := 16) sk ke (by decide) (by decide) (by omega)
  obtain ⟨ho', g7, r7⟩ := passR (a := a + 69) (nRo := 16) (n := 16) ho ke (by decide) (by decide) (by omega)
  obtain ⟨he', g8, r8⟩ := passR (a := a + 85) (nRo := 16) (n := 16) he ke (by decide) (by decide) (by omega)
  obtain ⟨st', g9, r9⟩ := passR (a := a + 101) (nRo := 16) (n := 16) st ke (by decide) (by decide) (by omega)
  obtain ⟨pb', g10, r10⟩ := passR (a := a + 117) (nRo := 16) (n := 16) pb ke (by decide) (by decide) (by omega)
  obtain ⟨ps', g11, r11⟩ := passR (a := a + 133) (nRo := 16) (n := 16) ps ke (by decide) (by decide) (by omega)
  refine ⟨N', kd', ks', cd', pr', sk', ho', he', st', pb', ps', ?_, fun j hj => (g1 j hj).symm, fun j hj => (g2 j hj).symm, fun j hj => (g3 j hj).symm, fun j hj => (g4 j hj).symm, fun j hj => (g5 j hj).symm, fun j hj => (g6 j hj).symm, fun j hj => (g7 j hj).symm, fun j hj => (g8 j hj).symm, fun j hj => (g9 j hj).symm, fun j hj => (g10 j hj).symm, fun j hj => (g11 j hj).symm⟩
  unfold fX6_passAll
  rw [c9, c8, c12, c16, r1, bd3, r2, bd3, show a + 9 + 8 = a + 17 by omega, r3, bd3, show a + 17 + 8 = a + 25 by omega, r4, bd3, show a + 25 + 12 = a + 37 by omega, r5, bd3, show a + 37 + 16 = a + 53 by omega, r6, bd3, show a + 53 + 16 = a + 69 by omega, r7, bd3, show a + 69 + 16 = a + 85 by omega, r8, bd3, show a + 85 + 16 = a + 101 by omega, r9, bd3, show a + 101 + 16 = a + 117 by omega, r10, bd3, show a + 117 + 16 = a + 133 by omega, r11, bd3]
/-- the reference keeps, and goes back -/
theorem imageM_out {x ka iw : Int32} {N kd ks cd pr sk ho he st pb ps ke ik : Ar} (h : x < 0 ∨ ¬ x < 2) : fX6_image ka iw N kd ks cd pr sk ho he st pb ps ke ik x = some (-2, ka, iw, N, kd, ks, cd, pr, sk, ho, he, st, pb, ps, ke, ik) ∧ fX6_restore ka iw N kd ks cd pr sk ho he st pb ps ke ik x = some (-2, ka, iw, N, kd, ks, cd, pr, sk, ho, he, st, pb, ps, ke) := by
  have hin : fX6_in x.toInt64 (0 : Int64) (1 : Int64) = some 0 := by
    rw [l0, l1]
    refine in_f ?_
    rw [i0, show (1 : Int32).toInt = 1 from rfl]
    rw [Int32.lt_iff_toInt_lt, Int32.lt_iff_toInt_lt, i0, show (2 : Int32).toInt = 2 from rfl] at h
    omega
  unfold fX6_image fX6_restore
  rw [hin, bd1, bd1, if_pos rfl, if_pos rfl]
  exact ⟨rfl, rfl⟩
theorem in01 {k : Nat} (hk : k < 2) : fX6_in (nI k).toInt64 (0 : Int64) (1 : Int64) = some 1 := by
  rw [l0, l1]
  exact in_t (by rw [i0, nI_toInt (by omega)]; omega) (by rw [nI_toInt (by omega), show (1 : Int32).toInt = 1 from rfl]; omega)
theorem imageM {k : Nat} (hk : k < 2) (ka iw : Int32) (N kd ks cd pr sk ho he st pb ps ke ik : Ar) : ∃ ke' : Ar, fX6_image ka iw N kd ks cd pr sk ho he st pb ps ke ik (nI k) = some (1, nI (149 * k + 149), 1, N, kd, ks, cd, pr, sk, ho, he, st, pb, ps, ke', upd ik k 1) ∧ KRel (149 * k) ke' N kd ks cd pr sk ho he st pb ps ∧ ∀ q, q < 149 * k ∨ 149 * k + 149 ≤ q → ke' q = ke q := by
  obtain ⟨ke', h1, h2, h3⟩ := passAllW (a := 149 * k) (by omega) N kd ks cd pr sk ho he st pb ps ke
  refine ⟨ke', ?_, h2, h3⟩
  unfold fX6_image
  rw [in01 hk, bd1, if_neg n10, show (149 : Int32) * nI k = nI (149 * k) from nI_ml 149 k, h1, bd13, rd hk (by decide), nI_clamp (by omega)]
  rfl
theorem restoreM_no {k : Nat} (hk : k < 2) (ka iw : Int32) (N kd ks cd pr sk ho he st pb ps ke ik : Ar) (hi : ik k = 0) : fX6_restore ka iw N kd ks cd pr sk ho he st pb ps ke ik (nI k) = some (-3, ka, iw, N, kd, ks, cd, pr, sk, ho, he, st, pb, ps, ke) := by
  unfold fX6_restore
  rw [in01 hk, bd1, if_neg n10, rd hk (by decide), nI_clamp (by omega), hi, if_pos rfl]
theorem restoreM {k : Nat} (hk : k < 2) (ka iw : Int32) (N kd ks cd pr sk ho he st pb ps ke ik : Ar) (hi : ik k = 1) : ∃ N' kd' ks' cd' pr' sk' ho' he' st' pb' ps' : Ar, fX6_restore ka iw N kd ks cd pr sk ho he st pb ps ke ik (nI k) = some (1, nI (149 * k + 149), 0, N', kd', ks', cd', pr', sk', ho', he', st', pb', ps', ke) ∧ KRel (149 * k) ke N' kd' ks' cd' pr' sk' ho' he' st' pb' ps' := by
  obtain ⟨N', kd', ks', cd', pr', sk', ho', he', st', pb', ps', h1, h2⟩ := passAllR (a := 149 * k) (by omega) N kd ks cd pr sk ho he st pb ps ke
  refine ⟨N', kd', ks', cd', pr', sk', ho', he', st', pb', ps', ?_, h2⟩
  unfold fX6_restore
  rw [in01 hk, bd1, if_neg n10, rd hk (by decide), nI_clamp (by omega), hi, if_neg n10, show (149 : Int32) * nI k = nI (149 * k) from nI_ml 149 k, h1, bd13]
