/-! 05.c: rows laid anew; worths; what all differ by -/
def zf (i : Nat) (f : Ar) (v : Int32) : Ar := fun j => if i ≤ j ∧ j < 16 then v else f j
theorem zf_step {i : Nat} {f : Ar} {v : Int32} (h : i < 16) : zf (i + 1) (upd f i v) v = zf i f v := funext fun j => by
  unfold zf
  by_cases h1 : j = i
  · subst h1
    rw [if_neg (by omega), upd_s, if_pos ⟨Nat.le_refl _, h⟩]
  · rw [upd_n h1]
    by_cases h2 : i + 1 ≤ j ∧ j < 16
    · rw [if_pos h2, if_pos (by omega)]
    · rw [if_neg h2, if_neg (by omega)]
theorem zf_end {f : Ar} {v : Int32} : zf 16 f v = f := funext fun j => if_neg (by omega)
theorem zf_at {f : Ar} {v : Int32} {j : Nat} (h : j < 16) : zf 0 f v j = v := if_pos ⟨Nat.zero_le _, h⟩
theorem begin_loop (ph : Int32) : ∀ r i n pr, i + r = 16 → r < n → fX4_begin_b7 n (nI i) ph pr = some (ph, zf i pr 0) := by
  intro r
  induction r with
  | zero =>
    intro i n pr hi hn
    obtain ⟨n, rfl⟩ := fu_pos hn
    obtain rfl : i = 16 := by omega
    rw [fX4_begin_b7, if_pos (show (16 : Int32) ≤ nI 16 by decide), zf_end]
  | succ r ih =>
    intro i n pr hi hn
    obtain ⟨n, rfl⟩ := fu_pos hn
    rw [fX4_begin_b7, if_neg (ge16 (by omega : i < 16)), rd (by omega) (by omega), nI_clamp (by omega), nI_1, ih (i + 1) n _ (by omega) (by omega), zf_step (by omega)]
theorem begin_eq (ph : Int32) (pr : Ar) : fX4_begin ph pr = some (0, zf 0 pr 0) := begin_loop 0 16 0 FU pr (by omega) (FU_gt (by omega))
theorem freeAll_loop : ∀ r i n ho he, i + r = 16 → r < n → fX4_freeAll_b2 n (nI i) ho he = some (zf i ho (-6), zf i he (-6)) := by
  intro r
  induction r with
  | zero =>
    intro i n ho he hi hn
    obtain ⟨n, rfl⟩ := fu_pos hn
    obtain rfl : i = 16 := by omega
    rw [fX4_freeAll_b2, if_pos (show (16 : Int32) ≤ nI 16 by decide), zf_end, zf_end]
  | succ r ih =>
    intro i n ho he hi hn
    obtain ⟨n, rfl⟩ := fu_pos hn
    rw [fX4_freeAll_b2, if_neg (ge16 (by omega : i < 16)), rd (by omega) (by omega), rd (by omega) (by omega), nI_clamp (by omega), nI_1, ih (i + 1) n _ _ (by omega) (by omega), zf_step (by omega), zf_step (by omega)]
theorem freeAll_eq (ho he : Ar) : fX4_freeAll ho he = some (zf 0 ho (-6), zf 0 he (-6)) := freeAll_loop 16 0 FU ho he (by omega) (FU_gt (by omega))
theorem freeAllM_loop : ∀ r i n ho he, i + r = 16 → r < n → fX6_freeAll_b2 n (nI i) ho he = some (zf i ho (-6), zf i he (-6)) := by
  intro r
  induction r with
  | zero =>
    intro i n ho he hi hn
    obtain ⟨n, rfl⟩ := fu_pos hn
    obtain rfl : i = 16 := by omega
    rw [fX6_freeAll_b2, if_pos (show (16 : Int32) ≤ nI 16 by decide), zf_end, zf_end]
  | succ r ih =>
    intro i n ho he hi hn
    obtain ⟨n, rfl⟩ := fu_pos hn
    rw [fX6_freeAll_b2, if_neg (ge16 (by omega : i < 16)), rd (by omega) (by omega), rd (by omega) (by omega), nI_clamp (by omega), nI_1, ih (i + 1) n _ _ (by omega) (by omega), zf_step (by omega), zf_step (by omega)]
theorem freeAllM_eq (ho he : Ar) : fX6_freeAll ho he = some (zf 0 ho (-6), zf 0 he (-6)) := freeAllM_loop 16 0 FU ho he (by omega) (FU_gt (by omega))
/-! the reference lays its slots -/
theorem lay_end (ks N sk : Ar) : ∀ r i n pr, i + r = 16 → r < n → fX6_laySlots_b55 ks n (nI i) N pr sk = some (N, zf i pr 0, sk) := by
  intro r
  induction r with
  | zero =>
    intro i n pr hi hn
    obtain ⟨n, rfl⟩ := fu_pos hn
    obtain rfl : i = 16 := by omega
    rw [fX6_laySlots_b55, if_pos (show (16 : Int32) ≤ nI 16 by decide), zf_end]
  | succ r ih =>
    intro i n pr hi hn
    obtain ⟨n, rfl⟩ := fu_pos hn
    rw [fX6_laySlots_b55, if_neg (ge16 (by omega : i < 16)), rd (by omega) (by omega), nI_clamp (by omega), nI_1, ih (i + 1) n _ (by omega) (by omega), zf_step (by omega)]
theorem lay_in {ks N pr : Ar} {kn k : Nat} (hk : kn ≤ 8) (hs : okS ks kn) (h16 : ssum ks kn ≤ 16) (hkk : k < kn) : ∀ r e sk, e + r = (ks k).toNatClampNeg → ∃ sk' : Ar, (∀ s, s < ssum ks k + e → sk' s = sk s) ∧ (∀ s, ssum ks k + e ≤ s → s < ssum ks (k + 1) → sk' s = nI k) ∧
    ∀ n, r < n → ∀ k4, fX6_laySlots_b14 ks k4 n (nI (ssum ks k + e)) (nI k) (nI e) N pr sk = k4 (nI (ssum ks (k + 1))) (nI (k + 1)) N pr sk' := by
  have hb := okS_b hs hkk
  have hn0 := okS_n hs hkk
  have htop : ssum ks (k + 1) ≤ 16 := Nat.le_trans (ssum_mono hkk) h16
  have hdef : ssum ks (k + 1) = ssum ks k + (ks k).toNatClampNeg := rfl
  intro r
  induction r with
  | zero =>
    intro e sk he
    refine ⟨sk, fun _ _ => rfl, fun s h1 h2 => absurd h2 (by omega), fun n hn k4 => ?_⟩
    obtain ⟨n, rfl⟩ := fu_pos hn
    rw [fX6_laySlots_b14, rd (by omega) (by omega), nI_clamp (by omega), hn0, if_pos (nI_le (by omega) (by omega)), nI_1, show ssum ks k + e = ssum ks (k + 1) by omega]
  | succ r ih =>
    intro e sk he
    obtain ⟨sk', h1, h2, h3⟩ := ih (e + 1) (upd sk (ssum ks k + e) (nI k)) (by omega)
    refine ⟨sk', fun s hs1 => ?_, fun s hs1 hs2 => ?_, fun n hn k4 => ?_⟩
    · rw [h1 s (by omega), upd_n (by omega)]
    · rcases Nat.eq_or_lt_of_le hs1 with h | h
      · rw [← h, h1 _ (by omega), upd_s]
      · exact h2 s (by omega) hs2
    · obtain ⟨n, rfl⟩ := fu_pos hn
      rw [fX6_laySlots_b14, rd (by omega) (by omega), nI_clamp (by omega), hn0, if_neg (nI_ge (by omega) (by omega)), rd (by omega) (by omega), nI_clamp (by omega), nI_1, nI_1]
      exact h3 n (by omega) k4
theorem lay_out {ks N pr : Ar} {kn : Nat} (hk : kn ≤ 8) (hs : okS ks kn) (h16 : ssum ks kn ≤ 16) (hN : N 2 = nI kn) : ∀ r k sk, k + r = kn → (∀ s, s < ssum ks k → ∃ j, isK ks kn s j ∧ sk s = nI j) → ∃ sk' : Ar, (∀ s, s < ssum ks kn → ∃ j, isK ks kn s j ∧ sk' s = nI j) ∧
    ∀ n, r < n → fX6_laySlots_b4 ks n (nI (ssum ks k)) (nI k) N pr sk = some (upd N 4 (nI (ssum ks kn)), zf 0 pr 0, sk') := by
  intro r
  induction r with
  | zero =>
    intro k sk hkr hsk
    obtain rfl : k = kn := by omega
    refine ⟨sk, hsk, fun n hn => ?_⟩
    obtain ⟨n, rfl⟩ := fu_pos hn
    rw [fX6_laySlots_b4, fX6_kinds, bd1, hN, if_pos (nI_le (by omega) (by omega)), ← nI_0, lay_end _ _ _ 16 0 FU _ (by omega) (FU_gt (by omega))]
    rfl
  | succ r ih =>
    intro k sk hkr hsk
    obtain ⟨sk1, h1, h2, h3⟩ := lay_in (N := N) (pr := pr) (k := k) hk hs h16 (by omega) (ks k).toNatClampNeg 0 sk (by omega)
    obtain ⟨sk', g1, g2⟩ := ih (k + 1) sk1 (by omega) (fun s hs1 => by
      rcases Nat.lt_or_ge s (ssum ks k) with h | h
      · rw [h1 s (by omega)]; exact hsk s h
      · exact ⟨k, ⟨by omega, h, hs1⟩, h2 s (by omega) hs1⟩)
    refine ⟨sk', g1, fun n hn => ?_⟩
    obtain ⟨n, rfl⟩ := fu_pos hn
    have h4 := h3 FU (FU_gt (by have := okS_b hs (show k < kn by omega); omega)) (fun x1 x2 fN fpr fsk => fX6_laySlots_b4 ks n x1 x2 fN fpr fsk)
    rw [Nat.add_zero] at h4
    rw [fX6_laySlots_b4, fX6_kinds, bd1, hN, if_neg (nI_ge (by omega) (by omega)), ← nI_0, h4]
    exact g2 n (by omega)
theorem lay_eq {ks N pr sk : Ar} {kn : Nat} (hk : kn ≤ 8) (hs : okS ks kn) (h16 : ssum ks kn ≤ 16) (hN : N 2 = nI kn) : ∃ sk' : Ar, (∀ s, s < ssum ks kn → ∃ j, isK ks kn s j ∧ sk' s = nI j) ∧ fX6_laySlots N ks pr sk = some (upd N 4 (nI (ssum ks kn)), zf 0 pr 0, sk') := by
  obtain ⟨sk', h1, h2⟩ := lay_out (N := N) (pr := pr) hk hs h16 hN kn 0 sk (by omega) (fun s h => absurd h (Nat.not_lt_zero _))
  exact ⟨sk', h1, h2 FU (FU_gt (by omega))⟩
/-! worths -/
def Wf (mo : Int32) (kn : Nat) (kd ks : Ar) (cn : Nat) (cd : Ar) : Prop := (mo = 0 ∨ mo = 1) ∧ kn ≤ 8 ∧ okC kd kn ∧ okS ks kn ∧ ssum ks kn ≤ 16 ∧ cn ≤ 12 ∧ okC cd cn
def wt (mo : Int32) (kd cd : Ar) (cn n : Nat) (kf : Nat → Nat) (b s : Nat) : Int32 := if b < cn then (-(df mo (cd b) (kd (kf s)))) * (nI n + 1) else 0
theorem worth_eq {mo : Int32} {kn cn n b s : Nat} {kd ks cd : Ar} {kf : Nat → Nat} (h : Wf mo kn kd ks cn cd) (hK : isK ks kn s (kf s)) (hb : b < 16) : fX0_worth (nI n) mo (nI kn) kd (nI cn) cd (nI b) (nI (kf s)) = some (wt mo kd cd cn n kf b s) := by
  obtain ⟨h1, h2, h3, h4, h5, h6, h7⟩ := h
  unfold fX0_worth wt
  by_cases hc : b < cn
  · rw [if_pos hc, has1_t h6 hc, bd1, if_neg (by decide), fX0_worth_b19, if_pos rfl, apart_eq h2 h6 hc hK.1 (h7 b hc) (h3 _ hK.1), bd1]
  · rw [if_neg hc, has1_f h6 (fun j hj e => by rw [nI_eq (by omega) (by omega)] at e; omega), bd1, if_pos rfl, fX0_worth_b19, if_neg (by decide)]
theorem rw_in {mo : Int32} {kn cn n s : Nat} {kd ks cd : Ar} {kf : Nat → Nat} (h : Wf mo kn kd ks cn cd) (hn16 : n ≤ 16) (hs : s < n) (hK : isK ks kn s (kf s)) :
    ∀ r b (Wo : Ar), b + r = n → ∃ Wo' : Ar, (∀ b', b ≤ b' → b' < n → Wo' (b' * 16 + s) = wt mo kd cd cn n kf b' s) ∧ (∀ q, (∀ b', b ≤ b' → b' < n → q ≠ b' * 16 + s) → Wo' q = Wo q) ∧
      ∀ n0, r < n0 → ∀ k21, fX0_readWorths_b43 mo (nI kn) kd ks (nI cn) cd k21 n0 (nI s) (nI (kf s)) (nI b) (nI n) Wo = k21 (nI (s + 1)) (nI n) Wo' := by
  intro r
  induction r with
  | zero =>
    intro b Wo hb
    refine ⟨Wo, fun b' h1 h2 => absurd h2 (by omega), fun q _ => rfl, fun n0 hn0 k21 => ?_⟩
    obtain ⟨n0, rfl⟩ := fu_pos hn0
    rw [fX0_readWorths_b43, if_pos (nI_le (by omega) (by omega)), nI_1]
  | succ r ih =>
    intro b Wo hb
    obtain ⟨Wo', h1, h2, h3⟩ := ih (b + 1) (upd Wo (b * 16 + s) (wt mo kd cd cn n kf b s)) (by omega)
    refine ⟨Wo', fun b' g1 g2 => ?_, fun q hq => ?_, fun n0 hn0 k21 => ?_⟩
    · rcases Nat.eq_or_lt_of_le g1 with g | g
      · rw [← g, h2 _ (fun b'' _ _ => by omega), upd_s]
      · exact h1 b' g g2
    · rw [h2 q (fun b' g1 g2 => hq b' (by omega) g2), upd_n (hq b (Nat.le_refl _) (by omega))]
    · obtain ⟨n0, rfl⟩ := fu_pos hn0
      have e : nI b * (16 : Int32) + nI s = nI (b * 16 + s) := by rw [show nI b * (16 : Int32) = nI (b * 16) from nI_ml b 16, nI_add]
      rw [fX0_readWorths_b43, if_neg (nI_ge (by omega) (by omega)), worth_eq h hK (by omega), bd1, e, rd (by omega) (by omega), nI_clamp (by omega), nI_1]
      exact h3 n0 (by omega) k21
theorem rw_out {mo : Int32} {kn cn n : Nat} {kd ks cd : Ar} {kf : Nat → Nat} (h : Wf mo kn kd ks cn cd) (hn : n = ssum ks kn) (hK : ∀ s, s < n → isK ks kn s (kf s)) :
    ∀ r s (Wo : Ar), s + r = n → ∃ Wo' : Ar, (∀ b s', b < n → s ≤ s' → s' < n → Wo' (b * 16 + s') = wt mo kd cd cn n kf b s') ∧ (∀ b s', b < n → s' < s → Wo' (b * 16 + s') = Wo (b * 16 + s')) ∧
      ∀ n0, r < n0 → fX0_readWorths_b21 mo (nI kn) kd ks (nI cn) cd n0 (nI s) (nI n) Wo = some (nI n, Wo') := by
  have h16 : n ≤ 16 := by rw [hn]; exact h.2.2.2.2.1
  intro r
  induction r with
  | zero =>
    intro s Wo hs
    refine ⟨Wo, fun b s' _ h1 h2 => absurd h2 (by omega), fun _ _ _ _ => rfl, fun n0 hn0 => ?_⟩
    obtain ⟨n0, rfl⟩ := fu_pos hn0
    rw [fX0_readWorths_b21, if_pos (nI_le (by omega) (by omega))]
  | succ r ih =>
    intro s Wo hs
    obtain ⟨W1, a1, a2, a3⟩ := rw_in (n := n) (s := s) h h16 (by omega) (hK s (by omega)) n 0 Wo (by omega)
    obtain ⟨Wo', b1, b2, b3⟩ := ih (s + 1) W1 (by omega)
    refine ⟨Wo', fun b s' g1 g2 g3 => ?_, fun b s' g1 g2 => ?_, fun n0 hn0 => ?_⟩
    · rcases Nat.eq_or_lt_of_le g2 with g | g
      · rw [← g, b2 b s g1 (by omega), a1 b (by omega) g1]
      · exact b1 b s' g1 g g3
    · rw [b2 b s' g1 (by omega), a2 _ (fun b' _ _ => by omega)]
    · obtain ⟨n0, rfl⟩ := fu_pos hn0
      rw [fX0_readWorths_b21, if_neg (nI_ge (by omega) (by omega)), ofSlot_eq h.2.1 h.2.2.2.1 h.2.2.2.2.1 (hK s (by omega)), bd1, ← nI_0, a3 FU (FU_gt (by omega))]
      exact b3 n0 (by omega)
theorem readWorths_eq {mo : Int32} {kn cn n : Nat} {kd ks cd : Ar} {kf : Nat → Nat} (h : Wf mo kn kd ks cn cd) (hn : n = ssum ks kn) (hK : ∀ s, s < n → isK ks kn s (kf s)) (Sl : Int32) (Wo : Ar) :
    ∃ Wo' : Ar, (∀ b s, b < n → s < n → Wo' (b * 16 + s) = wt mo kd cd cn n kf b s) ∧ fX0_readWorths Sl Wo mo (nI kn) kd ks (nI cn) cd = some (nI n, Wo') := by
  obtain ⟨Wo', h1, h2, h3⟩ := rw_out h hn hK n 0 Wo (by omega)
  have h16 : n ≤ 16 := by rw [hn]; exact h.2.2.2.2.1
  refine ⟨Wo', fun b s hb hs => h1 b s hb (by omega) hs, ?_⟩
  unfold fX0_readWorths
  rw [slots_eq h.2.1 h.2.2.2.1, bd1, ← hn, bdv, if_neg (show ¬ (16 : Int32) < nI n from nI_nlt (a := 16) h16 (by decide))]
  exact h3 FU (FU_gt (by omega))
theorem gainM_eq {mo : Int32} {kn cn n b s : Nat} {N kd ks cd sk : Ar} {kf : Nat → Nat} (h : Wf mo kn kd ks cn cd) (hN0 : N 0 = mo) (hN3 : N 3 = nI cn) (hN4 : N 4 = nI n) (hK : isK ks kn s (kf s)) (hsk : sk s = nI (kf s)) (hb : b < 16) (hs : s < 16) (P : Ar) : fX6_gainOf N kd cd P sk (nI b) (nI s) = some (wt mo kd cd cn n kf b s - P s) := by
  obtain ⟨h1, h2, h3, h4, h5, h6, h7⟩ := h
  have hk8 := hK.1
  unfold fX6_gainOf wt fX6_cells
  rw [bd1, hN3]
  by_cases hc : b < cn
  · rw [if_neg (nI_ge hc (by omega)), if_pos hc, rd (by omega) (by omega), rd (by omega) (by omega), nI_clamp (by omega), nI_clamp (by omega), hsk, rd (by omega) (by omega), nI_clamp (by omega), differenceOf_eq (by rw [hN0]; exact h1) (h7 b hc) (h3 _ hk8), bd1, bdv, if_neg (show ¬ (nI s < 0 ∨ 16 ≤ s) from fun z => z.elim (nI_pos (by omega)) (by omega)), hN0, hN4]
  · rw [if_pos (nI_le (by omega) (by omega)), if_neg hc, rd (by omega) (by omega), nI_clamp (by omega)]
/-! what all differ by -/
theorem kindOfC_eq {ks he : Ar} {kn c s j : Nat} (hk : kn ≤ 8) (hs : okS ks kn) (h16 : ssum ks kn ≤ 16) (hc : c < 16) (hhe : he c = nI s) (hj : isK ks kn s j) : fX3_kindOf (nI kn) ks he (nI c) = some (nI j) := by
  unfold fX3_kindOf fX4_slotOf
  rw [row_t hc, bd1, if_neg (by decide), rd (by omega) (by omega), nI_clamp (by omega), hhe, bd1, ofSlot_eq hk hs h16 hj]
  rfl
theorem sum_loop {mo : Int32} {kn cn n : Nat} {N kd ks cd sk he : Ar} {kf : Nat → Nat} (h : Wf mo kn kd ks cn cd) (hn : n = ssum ks kn) (hN0 : N 0 = mo) (hN3 : N 3 = nI cn) (hK : ∀ s, s < n → isK ks kn s (kf s) ∧ sk s = nI (kf s)) (hhe : ∀ c, c < cn → ∃ s, s < n ∧ he c = nI s) :
    ∀ r c (T : Int32), c + r = cn → ∃ T' : Int32, (∀ n0, r < n0 → fX3_sumOfDifferences_b4 mo (nI kn) kd ks (nI cn) cd he n0 T (nI c) = some T') ∧ (∀ n0, r < n0 → fX6_sumOf_b4 N kd cd sk he n0 T (nI c) = some T') := by
  obtain ⟨h1, h2, h3, h4, h5, h6, h7⟩ := h
  intro r
  induction r with
  | zero =>
    intro c T hc
    refine ⟨T, fun n0 hn0 => ?_, fun n0 hn0 => ?_⟩
    · obtain ⟨n0, rfl⟩ := fu_pos hn0
      rw [fX3_sumOfDifferences_b4, if_pos (nI_le (by omega) (by omega))]
    · obtain ⟨n0, rfl⟩ := fu_pos hn0
      rw [fX6_sumOf_b4, fX6_cells, bd1, hN3, if_pos (nI_le (by omega) (by omega))]
  | succ r ih =>
    intro c T hc
    have hcc : c < cn := by omega
    obtain ⟨s, hs, es⟩ := hhe c hcc
    obtain ⟨hKs, hsk⟩ := hK s hs
    have hk8 := hKs.1
    obtain ⟨T', g1, g2⟩ := ih (c + 1) (T + df mo (cd c) (kd (kf s))) (by omega)
    refine ⟨T', fun n0 hn0 => ?_, fun n0 hn0 => ?_⟩
    · obtain ⟨n0, rfl⟩ := fu_pos hn0
      rw [fX3_sumOfDifferences_b4, if_neg (nI_ge (by omega) (by omega)), kindOfC_eq h2 h4 h5 (by omega) es hKs, bd1, apart_eq h2 h6 hcc hk8 (h7 c hcc) (h3 _ hk8), bd1, bdv, nI_1]
      exact g1 n0 (by omega)
    · obtain ⟨n0, rfl⟩ := fu_pos hn0
      rw [fX6_sumOf_b4, fX6_cells, bd1, hN3, if_neg (nI_ge (by omega) (by omega)), rd (by omega) (by omega), rd (by omega) (by omega), nI_clamp (by omega), es, rd (by omega) (by omega), nI_clamp (by omega), hsk, rd (by omega) (by omega), nI_clamp (by omega), differenceOf_eq (by rw [hN0]; exact h1) (h7 c hcc) (h3 _ hk8), bd1, bdv, hN0, nI_1]
      exact g2 n0 (by omega)
theorem sum_eq {mo : Int32} {kn cn n : Nat} {N kd ks cd sk he : Ar} {kf : Nat → Nat} (h : Wf mo kn kd ks cn cd) (hn : n = ssum ks kn) (hN0 : N 0 = mo) (hN3 : N 3 = nI cn) (hK : ∀ s, s < n → isK ks kn s (kf s) ∧ sk s = nI (kf s)) (hhe : ∀ c, c < cn → ∃ s, s < n ∧ he c = nI s) :
    ∃ T : Int32, fX3_sumOfDifferences mo (nI kn) kd ks (nI cn) cd he = some T ∧ fX6_sumOf N kd cd sk he = some T := by
  obtain ⟨T, h1, h2⟩ := sum_loop h hn hN0 hN3 hK hhe cn 0 0 (by omega)
  have h12 := h.2.2.2.2.2.1
  exact ⟨T, h1 FU (FU_gt (by omega)), h2 FU (FU_gt (by omega))⟩
