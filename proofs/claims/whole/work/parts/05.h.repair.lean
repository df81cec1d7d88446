/-! 05.h: gains, and the repair, on both sides -/
theorem gainC_eq {Wo pr : Ar} {b s : Nat} (hb : b < 16) (hs : s < 16) : fX0_gainOf Wo pr (nI b) (nI s) = some (Wo (b * 16 + s) - pr s) := by
  unfold fX0_gainOf
  have e : nI b * (16 : Int32) + nI s = nI (b * 16 + s) := by rw [show nI b * (16 : Int32) = nI (b * 16) from nI_ml b 16, nI_add]
  rw [row_t hb, bd1, if_neg (by decide), row_t hs, bd1, if_neg (by decide), e, rd (by omega) (by omega), rd (by omega) (by omega), nI_clamp (by omega), nI_clamp (by omega)]
theorem ownGain_eq {Wo pr he : Ar} {b s : Nat} (hb : b < 16) (hs : s < 16) (h : he b = nI s) : fX0_ownGain Wo pr he (nI b) = some (Wo (b * 16 + s) - pr s) := by
  unfold fX0_ownGain fX4_slotOf
  rw [row_t hb, bd1, if_neg (by decide), rd (by omega) (by omega), nI_clamp (by omega), h, bd1, gainC_eq hb hs]
  rfl
theorem greatGain_loop {Wo pr : Ar} {n b : Nat} {g : Nat → Int32} (hn : n ≤ 16) (hb : b < 16) (hg : ∀ s, s < n → Wo (b * 16 + s) - pr s = g s) : ∀ r i n0, i + r = n → 0 < i → r < n0 → fX0_greatestGain_b9 (nI n) Wo pr n0 (nI b) (g (amx g i)) (nI i) = some (g (amx g n)) := by
  intro r
  induction r with
  | zero =>
    intro i n0 hi h0 hn0
    obtain ⟨n0, rfl⟩ := fu_pos hn0
    obtain rfl : i = n := by omega
    rw [fX0_greatestGain_b9, if_pos (nI_le (by omega) (by omega))]
  | succ r ih =>
    intro i n0 hi h0 hn0
    obtain ⟨n0, rfl⟩ := fu_pos hn0
    have IH := ih (i + 1) n0 (by omega) (by omega) (by omega)
    rw [fX0_greatestGain_b9, if_neg (nI_ge (by omega) (by omega)), gainC_eq hb (by omega), bd1, hg i (by omega), bdv, nI_1]
    by_cases h : g (amx g i) < g i
    · rw [if_pos h]
      rw [amx, if_pos h] at IH
      exact IH
    · rw [if_neg h]
      rw [amx, if_neg h] at IH
      exact IH
theorem greatGain_eq {Wo pr : Ar} {n b : Nat} {g : Nat → Int32} (hn : n ≤ 16) (hn0 : 0 < n) (hb : b < 16) (hg : ∀ s, s < n → Wo (b * 16 + s) - pr s = g s) : fX0_greatestGain (nI n) Wo pr (nI b) = some (g (amx g n)) := by
  unfold fX0_greatestGain
  have h := greatGain_loop hn hb hg (n - 1) 1 FU (by omega) (by omega) (FU_gt (by omega))
  rw [amx_1] at h
  have h0 := gainC_eq (Wo := Wo) (pr := pr) hb (show 0 < 16 by decide)
  rw [hg 0 hn0] at h0
  rw [show (0 : Int32) = nI 0 from rfl, h0, bd1]
  exact h
theorem setFree_eq {ho he : Ar} {b s : Nat} (hb : b < 16) (hs : s < 16) (h : he b = nI s) : fX4_setFree ho he (nI b) = some (upd ho s (-6), upd he b (-6)) := by
  unfold fX4_setFree
  rw [row_t hb, bd1, if_neg (by decide), rd (by omega) (by omega), nI_clamp (by omega), bdv, h, row_t hs, bd1, if_neg (by decide), rd (by omega) (by omega), if_neg (show ¬ (nI b < 0 ∨ 16 ≤ b) from fun z => z.elim (nI_pos (by omega)) (by omega)), nI_clamp (by omega)]
theorem Mt_drop {n b s : Nat} {ho he : Ar} (hn : n ≤ 16) (hb : b < n) (hs : s < n) (h : Mt n ho he) (e : he b = nI s) : Mt n (upd ho s (-6)) (upd he b (-6)) := by
  have inj : ∀ {x y : Nat}, x < n → y < n → nI x = nI y → x = y := fun hx hy e => (nI_eq (by omega) (by omega)).mp e
  have hne6 : ∀ {x : Nat}, x < n → nI x ≠ -6 := fun hx => nI_ne6 (by omega)
  have e0 := (h.2.2 b s hb hs).mp e
  refine ⟨fun s' hs' => ?_, fun b' hb' => ?_, fun b' s' hb' hs' => ?_⟩
  · by_cases z : s' = s
    · rw [z, upd_s]; exact Or.inl rfl
    · rw [upd_n z]; exact h.1 s' hs'
  · by_cases z : b' = b
    · rw [z, upd_s]; exact Or.inl rfl
    · rw [upd_n z]; exact h.2.1 b' hb'
  · by_cases z : b' = b
    · rw [z, upd_s]
      refine ⟨fun q => absurd q.symm (hne6 hs'), fun q => ?_⟩
      by_cases y : s' = s
      · rw [y, upd_s] at q; exact absurd q.symm (hne6 hb)
      · rw [upd_n y] at q
        have := (h.2.2 b s' hb hs').mpr q
        rw [e] at this
        exact absurd (inj hs hs' this).symm y
    · rw [upd_n z]
      by_cases y : s' = s
      · rw [y, upd_s]
        refine ⟨fun q => ?_, fun q => absurd q.symm (hne6 hb')⟩
        have := (h.2.2 b' s hb' hs).mp q
        rw [e0] at this
        exact absurd (inj hb hb' this).symm z
      · rw [upd_n y]; exact h.2.2 b' s' hb' hs'
theorem mend_loop {mo : Int32} {kn cn n : Nat} {N kd ks cd sk Wo pr : Ar} {kf : Nat → Nat} {B : Int} (h : Wf mo kn kd ks cn cd) (hn : n = ssum ks kn) (hn0 : 0 < n) (hK : ∀ s, s < n → isK ks kn s (kf s) ∧ sk s = nI (kf s)) (hWo : ∀ b s, b < n → s < n → Wo (b * 16 + s) = wt mo kd cd cn n kf b s) (N0 : N 0 = mo) (N3 : N 3 = nI cn) (N4 : N 4 = nI n) (hB : B ≤ 400000000) (hpr : ∀ s, s < n → 0 ≤ (pr s).toInt ∧ (pr s).toInt ≤ B) :
    ∀ (r b : Nat) (ho he : Ar), b + r = n → Mt n ho he → (∀ b', b ≤ b' → b' < n → ∃ s, s < n ∧ he b' = nI s) → (∀ b' s, b' < b → s < n → he b' = nI s → ∀ t, t < n → (wt mo kd cd cn n kf b' t).toInt - (pr t).toInt - 1 ≤ (wt mo kd cd cn n kf b' s).toInt - (pr s).toInt) →
      ∃ ho' he' : Ar, Mt n ho' he' ∧ Cs n (wt mo kd cd cn n kf) 1 pr he' ∧
        (∀ f va co bi, r < f → fX0_mend_b6 mo (nI kn) kd ks (nI cn) cd f (nI b) (nI n) Wo va co bi pr ho he = bd4 (fX0_bidTillNoneIsFree (nI n) Wo pr ho' he' (1 : Int32)) fun r_45 fPr_45 fHo_45 fHe_45 => bd3 (fX4_finish va co bi r_45) fun vVa_54 vCo_54 vBi_54 => some (r_45, nI n, Wo, vVa_54, vCo_54, vBi_54, fPr_45, fHo_45, fHe_45)) ∧
        (∀ f, r < f → fX6_repair_b21 kd cd sk f (nI b) N pr ho he = bd4 (fX6_phaseOf N kd cd pr sk ho' he' (1 : Int32)) fun r_94 fpr_94 fow_94 fmi_94 => some ((upd (upd N 8 r_94) 6 (1 : Int32)) 8, upd (upd N 8 r_94) 6 (1 : Int32), fpr_94, fow_94, fmi_94)) := by
  have h16 : n ≤ 16 := by rw [hn]; exact h.2.2.2.2.1
  have hw : ∀ b s, -5508 ≤ (wt mo kd cd cn n kf b s).toInt ∧ (wt mo kd cd cn n kf b s).toInt ≤ 0 := fun b s => wt_bd h16
  intro r
  induction r with
  | zero =>
    intro b ho he hb hMt _ hC
    refine ⟨ho, he, hMt, fun b' s hb' hs e t ht => hC b' s (by omega) hs e t ht, fun f va co bi hf => ?_, fun f hf => ?_⟩
    · obtain ⟨f, rfl⟩ := fu_pos hf
      rw [fX0_mend_b6, if_pos (nI_le (by omega) (by omega))]
    · obtain ⟨f, rfl⟩ := fu_pos hf
      rw [fX6_repair_b21, N4, if_pos (nI_le (by omega) (by omega))]
  | succ r ih =>
    intro b ho he hb hMt hA hC
    have hbn : b < n := by omega
    obtain ⟨s, hs, es⟩ := hA b (Nat.le_refl _) hbn
    have hgI : ∀ t, t < n → (gn (wt mo kd cd cn n kf) pr b t).toInt = (wt mo kd cd cn n kf b t).toInt - (pr t).toInt := fun t ht => by
      have q1 := hw b t
      have q2 := hpr t ht
      exact tI_sub (by omega) (by omega)
    have ha := amx_lt (gn (wt mo kd cd cn n kf) pr b) hn0
    have hgM : ∀ t, t < n → fX6_gainOf N kd cd pr sk (nI b) (nI t) = some (gn (wt mo kd cd cn n kf) pr b t) := fun t ht => gainM_eq h N0 N3 N4 (hK t ht).1 (hK t ht).2 (by omega) (by omega) pr
    have hgC : ∀ t, t < n → Wo (b * 16 + t) - pr t = gn (wt mo kd cd cn n kf) pr b t := fun t ht => by rw [hWo b t hbn ht]; rfl
    have c1 := ownGain_eq (Wo := Wo) (pr := pr) (he := he) (b := b) (s := s) (by omega) (by omega) es
    rw [hgC s hs] at c1
    have c2 := greatGain_eq (Wo := Wo) (pr := pr) (b := b) h16 hn0 (by omega) hgC
    have m2 := best_eq (b := b) h16 hn0 N4 hgM
    -- one turn, class and reference, by whether it is content
    have tC : ∀ f va co bi, fX0_mend_b6 mo (nI kn) kd ks (nI cn) cd (f + 1) (nI b) (nI n) Wo va co bi pr ho he = if (gn (wt mo kd cd cn n kf) pr b (amx (gn (wt mo kd cd cn n kf) pr b) n) - 1) ≤ gn (wt mo kd cd cn n kf) pr b s then fX0_mend_b6 mo (nI kn) kd ks (nI cn) cd f (nI (b + 1)) (nI n) Wo va co bi pr ho he else fX0_mend_b6 mo (nI kn) kd ks (nI cn) cd f (nI (b + 1)) (nI n) Wo va co bi pr (upd ho s (-6)) (upd he b (-6)) := by
      intro f va co bi
      rw [fX0_mend_b6, if_neg (nI_ge (by omega) (by omega)), c1, bd1, c2, bd1, setFree_eq (by omega) (by omega) es, bd2, nI_1]
    have tM : ∀ f, fX6_repair_b21 kd cd sk (f + 1) (nI b) N pr ho he = if (gn (wt mo kd cd cn n kf) pr b (amx (gn (wt mo kd cd cn n kf) pr b) n) - 1) ≤ gn (wt mo kd cd cn n kf) pr b s then fX6_repair_b21 kd cd sk f (nI (b + 1)) N pr ho he else fX6_repair_b21 kd cd sk f (nI (b + 1)) N pr (upd ho s (-6)) (upd he b (-6)) := by
      intro f
      rw [fX6_repair_b21, N4, if_neg (nI_ge (by omega) (by omega)), rd (by omega) (by omega), nI_clamp (by omega), es, hgM s hs, bd1, m2, bd1, hgM _ ha, bd1, nI_1, if_neg (show ¬ (nI b < 0 ∨ 16 ≤ b) from fun z => z.elim (nI_pos (by omega)) (by omega)), rd (by omega) (by omega), nI_clamp (by omega), if_neg (show ¬ (nI b < 0 ∨ 16 ≤ b) from fun z => z.elim (nI_pos (by omega)) (by omega))]
    have q1 := hw b (amx (gn (wt mo kd cd cn n kf) pr b) n)
    have q2 := hpr _ ha
    have q3 := hgI _ ha
    have e1 : (gn (wt mo kd cd cn n kf) pr b (amx (gn (wt mo kd cd cn n kf) pr b) n) - 1).toInt = (gn (wt mo kd cd cn n kf) pr b (amx (gn (wt mo kd cd cn n kf) pr b) n)).toInt - 1 := tI_sub (by rw [q3, show (1 : Int32).toInt = 1 from rfl]; omega) (by rw [q3, show (1 : Int32).toInt = 1 from rfl]; omega)
    by_cases hc : (gn (wt mo kd cd cn n kf) pr b (amx (gn (wt mo kd cd cn n kf) pr b) n) - 1) ≤ gn (wt mo kd cd cn n kf) pr b s
    · obtain ⟨ho', he', r1, r2, r3, r4⟩ := ih (b + 1) ho he (by omega) hMt (fun b' g1 g2 => hA b' (by omega) g2) (fun b' s' g1 g2 g3 t ht => by
        rcases Nat.eq_or_lt_of_le (Nat.lt_succ_iff.mp g1) with g4 | g4
        · subst g4
          rw [es] at g3
          have e2 : s = s' := (nI_eq (by omega) (by omega)).mp g3
          subst e2
          have z1 := Int32.le_iff_toInt_le.mp hc
          have z2 := Int32.le_iff_toInt_le.mp (amx_max (gn (wt mo kd cd cn n kf) pr b') ht)
          rw [e1] at z1
          rw [hgI s hs] at z1
          rw [hgI t ht] at z2
          omega
        · exact hC b' s' g4 g2 g3 t ht)
      refine ⟨ho', he', r1, r2, fun f va co bi hf => ?_, fun f hf => ?_⟩
      · obtain ⟨f, rfl⟩ := fu_pos hf
        rw [tC, if_pos hc]
        exact r3 f va co bi (by omega)
      · obtain ⟨f, rfl⟩ := fu_pos hf
        rw [tM, if_pos hc]
        exact r4 f (by omega)
    · obtain ⟨ho', he', r1, r2, r3, r4⟩ := ih (b + 1) (upd ho s (-6)) (upd he b (-6)) (by omega) (Mt_drop h16 hbn hs hMt es) (fun b' g1 g2 => by rw [upd_n (by omega)]; exact hA b' (by omega) g2) (fun b' s' g1 g2 g3 t ht => by
        by_cases g4 : b' = b
        · rw [g4, upd_s] at g3; exact absurd g3.symm (nI_ne6 (by omega))
        · rw [upd_n g4] at g3
          exact hC b' s' (by omega) g2 g3 t ht)
      refine ⟨ho', he', r1, r2, fun f va co bi hf => ?_, fun f hf => ?_⟩
      · obtain ⟨f, rfl⟩ := fu_pos hf
        rw [tC, if_neg hc]
        exact r3 f va co bi (by omega)
      · obtain ⟨f, rfl⟩ := fu_pos hf
        rw [tM, if_neg hc]
        exact r4 f (by omega)
/-- a repair of what is valid and not done -/
theorem repair_sim {mo : Int32} {kn cn n : Nat} {N kd ks cd sk Wo pr ho he : Ar} {Sl bi : Int32} {B : Int} (h : Wf mo kn kd ks cn cd) (hn : n = ssum ks kn) (hn0 : 0 < n) (hK : ∀ s, s < n → ∃ j, isK ks kn s j ∧ sk s = nI j) (N0 : N 0 = mo) (N3 : N 3 = nI cn) (N4 : N 4 = nI n) (N5 : N 5 = 1) (N6 : N 6 = 0) (hB : B ≤ 400000000) (hV : Vl B n pr ho he) :
    ∃ (k' : Nat) (Wo' pr' ho' he' : Ar), fX5_repair Sl Wo mo (nI kn) kd ks (nI cn) cd 1 0 bi pr ho he = some (nI k', nI n, Wo', 1, 1, nI k', pr', ho', he') ∧ fX6_repair N kd cd pr sk ho he = some (nI k', upd (upd N 8 (nI k')) 6 1, pr', ho', he') ∧ Vl (B + 21000) n pr' ho' he' := by
  have h16 : n ≤ 16 := by rw [hn]; exact h.2.2.2.2.1
  have hK' : ∀ s, s < n → isK ks kn s (sk s).toNatClampNeg ∧ sk s = nI (sk s).toNatClampNeg := fun s hs => by
    obtain ⟨j, a, b⟩ := hK s hs
    have hj := a.1
    have hk := h.2.1
    rw [b, nI_clamp (by omega)]
    exact ⟨a, rfl⟩
  obtain ⟨Wo', w1, w2⟩ := readWorths_eq (kf := fun s => (sk s).toNatClampNeg) h hn (fun s hs => (hK' s hs).1) Sl Wo
  obtain ⟨v1, v2, v3, v4, v5⟩ := hV
  obtain ⟨ho1, he1, m1, m2, m3, m4⟩ := mend_loop (sk := sk) (Wo := Wo') h hn hn0 hK' w1 N0 N3 N4 hB v4 n 0 ho he (by omega) v1 (fun b' _ hb' => by obtain ⟨s, a, b, -⟩ := v2 b' hb'; exact ⟨s, a, b⟩) (fun b' s hb' => absurd hb' (by omega))
  obtain ⟨k', pr', ho', he', r1, r2, r3, r4, r5, r6, r7⟩ := run_all (w := wt mo kd cd cn n fun s => (sk s).toNatClampNeg) (ep := nI 1) (e := 1) (B := B) h16 hn0 (fun b s _ _ => wt_bd h16) (nI_toInt (by decide)) (by decide) (by decide) m1 m2 hB v4 v5
  have t1 : fX0_bidTillNoneIsFree (nI n) Wo' pr ho1 he1 (1 : Int32) = some (nI k', pr', ho', he') := till_eq h16 w1 r2 r1 m1.1 m1.2.1
  have t2 : fX6_phaseOf N kd cd pr sk ho1 he1 (1 : Int32) = some (nI k', pr', ho', he') := tillM_eq h16 N4 (fun b s P hb hs => gainM_eq h N0 N3 N4 (hK' s hs).1 (hK' s hs).2 (by omega) (by omega) P) r2 m1.1 m1.2.1
  refine ⟨k', Wo', pr', ho', he', ?_, ?_, r3, r4, r5, r6, fun s t hs ht => by have := r7 s t hs ht; omega⟩
  · have m3' := m3 FU 1 0 bi (FU_gt (by omega))
    rw [t1, bd4, finish_eq, bd3] at m3'
    unfold fX5_repair fX0_mend
    rw [if_neg (by decide), if_pos rfl, w2, bd2, show (0 : Int32) = nI 0 from rfl]
    rw [show (0 : Int32) = nI 0 from rfl] at m3'
    rw [m3']
    rfl
  · have m4' := m4 FU (FU_gt (by omega))
    rw [t2, bd4] at m4'
    unfold fX6_repair fX6_isValid fX6_isDone
    rw [if_pos N5, bd1, if_neg (by decide), if_pos N5, if_neg (by rw [N6]; decide), bd1, if_pos rfl, show (0 : Int32) = nI 0 from rfl, m4', upd_n (by decide), upd_s]
