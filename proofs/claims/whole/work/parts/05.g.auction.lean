/-! 05.g: the auction, on both sides -/
def Vl (B : Int) (n : Nat) (pr ho he : Ar) : Prop := Mt n ho he ∧ (∀ b, b < n → ∃ s, s < n ∧ he b = nI s ∧ ho s = nI b) ∧ (∀ s, s < n → ∃ b, b < n ∧ ho s = nI b ∧ he b = nI s) ∧ (∀ s, s < n → 0 ≤ (pr s).toInt ∧ (pr s).toInt ≤ B) ∧ ∀ s t, s < n → t < n → (pr s).toInt ≤ (pr t).toInt + 6885
theorem Vl.mono {B B' : Int} {n : Nat} {pr ho he : Ar} (h : Vl B n pr ho he) (hB : B ≤ B') : Vl B' n pr ho he := ⟨h.1, h.2.1, h.2.2.1, fun s hs => ⟨(h.2.2.2.1 s hs).1, Int.le_trans (h.2.2.2.1 s hs).2 hB⟩, h.2.2.2.2⟩
theorem notePhase_eq {ph : Nat} (h : ph < 16) (st pb ps : Ar) (x1 x2 x3 : Int32) : fX4_notePhase (nI ph) st pb ps x1 x2 x3 = some (nI (ph + 1), upd st ph x1, upd pb ph x2, upd ps ph x3) := by
  unfold fX4_notePhase
  rw [if_neg (nI_pos (by omega)), if_pos (show nI ph < (16 : Int32) from nI_lt (b := 16) h (by decide)), rd (by omega) (by omega), rd (by omega) (by omega), rd (by omega) (by omega), nI_clamp (by omega)]
  rw [show nI ph + (1 : Int32) = nI (ph + 1) from nI_1 ph]
def en (x : Nat) : Nat := if 1 < x then x else 1
theorem oneM {x : Nat} (h : x < 2 ^ 31) : fX6_oneAtLeast (nI x) = some (nI (en x)) := by
  unfold fX6_oneAtLeast en
  rcases Nat.lt_trichotomy 1 x with h1 | h1 | h1
  · rw [if_pos (show (1 : Int32) ≤ nI x from nI_le (a := 1) (by omega) h), if_pos h1]
  · subst h1; rfl
  · rw [if_neg (show ¬ (1 : Int32) ≤ nI x from nI_ge (b := 1) h1 (by decide)), if_neg (by omega)]; rfl
theorem oneC {x : Nat} (h : x < 2 ^ 31) : (if (1 : Int32) < nI x then nI x else (1 : Int32)) = nI (en x) := by
  unfold en
  by_cases h1 : 1 < x
  · rw [if_pos (show (1 : Int32) < nI x from nI_lt (a := 1) h1 h), if_pos h1]
  · rw [if_neg (show ¬ (1 : Int32) < nI x from nI_nlt (a := 1) (b := x) (by omega) (by decide)), if_neg h1]; rfl
theorem en_pos (x : Nat) : 1 ≤ en x := by unfold en; split <;> omega
theorem en_le {x m : Nat} (h : x ≤ m) (hm : 1 ≤ m) : en x ≤ m := by unfold en; split <;> omega
/-- one phase -/
theorem phase1 {mo : Int32} {kn cn n : Nat} {kd ks cd sk Wo pr : Ar} {kf : Nat → Nat} {e ph : Nat} {B : Int} (h : Wf mo kn kd ks cn cd) (hn : n = ssum ks kn) (hn0 : 0 < n) (hcn : cn ≤ n) (hK : ∀ s, s < n → isK ks kn s (kf s) ∧ sk s = nI (kf s)) (hWo : ∀ b s, b < n → s < n → Wo (b * 16 + s) = wt mo kd cd cn n kf b s)
    (he1 : 1 ≤ e) (he2 : e ≤ 1377) (hph : ph < 16) (hB : B ≤ 400000000) (hpr : ∀ s, s < n → 0 ≤ (pr s).toInt ∧ (pr s).toInt ≤ B) (hsp : ∀ s t, s < n → t < n → (pr s).toInt ≤ (pr t).toInt + 6885) (ho he st pb ps : Ar) :
    ∃ (k' : Nat) (pr' ho' he' : Ar) (T : Int32), fX0_auctionPhase (nI n) Wo mo (nI kn) kd ks (nI cn) cd (nI ph) pr ho he st pb ps (nI e) = some (nI k', nI (ph + 1), pr', ho', he', upd st ph (nI e), upd pb ph (nI k'), upd ps ph T) ∧
      (∀ N : Ar, N 0 = mo → N 3 = nI cn → N 4 = nI n → fX6_phaseOf N kd cd pr sk (zf 0 ho (-6)) (zf 0 he (-6)) (nI e) = some (nI k', pr', ho', he') ∧ fX6_sumOf N kd cd sk he' = some T) ∧ Vl (B + 21000) n pr' ho' he' := by
  have h16 : n ≤ 16 := by rw [hn]; exact h.2.2.2.2.1
  have hMt := Mt_free (ho := ho) (he := he) h16
  have hw : ∀ b s, b < n → s < n → -5508 ≤ (wt mo kd cd cn n kf b s).toInt ∧ (wt mo kd cd cn n kf b s).toInt ≤ 0 := fun b s _ _ => wt_bd h16
  obtain ⟨k', pr', ho', he', r1, r2, r3, r4, r5, r6, r7⟩ := run_all (w := wt mo kd cd cn n kf) (ep := nI e) (e := e) (B := B) h16 hn0 hw (nI_toInt (by omega)) (by omega) (by omega) hMt (fun b s hb hs hz => by rw [zf_at (by omega)] at hz; exact absurd hz.symm (nI_ne6 (by omega))) hB hpr hsp
  have hT : ∃ T : Int32, ∀ N : Ar, N 0 = mo → N 3 = nI cn → fX3_sumOfDifferences mo (nI kn) kd ks (nI cn) cd he' = some T ∧ fX6_sumOf N kd cd sk he' = some T := by
    have hhe : ∀ c, c < cn → ∃ s, s < n ∧ he' c = nI s := fun c hc => by
      obtain ⟨s, a, b, -⟩ := r4 c (by omega)
      exact ⟨s, a, b⟩
    obtain ⟨T, t1, -⟩ := sum_eq (N := fun i => if i = 0 then mo else nI cn) (sk := sk) h hn rfl rfl hK hhe
    refine ⟨T, fun N h0 h3 => ?_⟩
    obtain ⟨T2, t2, t3⟩ := sum_eq (N := N) (sk := sk) h hn h0 h3 hK hhe
    rw [t1] at t2
    cases t2
    exact ⟨t1, t3⟩
  obtain ⟨T, hT⟩ := hT
  have hTc := (hT (fun i => if i = 0 then mo else nI cn) rfl rfl).1
  refine ⟨k', pr', ho', he', T, ?_, fun N h0 h3 h4 => ⟨?_, (hT N h0 h3).2⟩, r3, r4, r5, r6, fun s t hs ht => by have := r7 s t hs ht; omega⟩
  · unfold fX0_auctionPhase
    rw [freeAll_eq, bd2, till_eq h16 hWo r2 r1 hMt.1 hMt.2.1, bd4, hTc, bd1, notePhase_eq hph, bd4]
  · exact tillM_eq h16 h4 (fun b s P hb hs => gainM_eq h h0 h3 h4 (hK s hs).1 (hK s hs).2 (by omega) (by omega) P) r2 hMt.1 hMt.2.1
theorem finish_eq (va co bi x : Int32) : fX4_finish va co bi x = some (1, 1, x) := rfl
/-- the phases that are left -/
theorem phases {mo : Int32} {kn cn n sh : Nat} {kd ks cd sk Wo : Ar} {kf : Nat → Nat} (h : Wf mo kn kd ks cn cd) (hn : n = ssum ks kn) (hn0 : 0 < n) (hcn : cn ≤ n) (hK : ∀ s, s < n → isK ks kn s (kf s) ∧ sk s = nI (kf s)) (hWo : ∀ b s, b < n → s < n → Wo (b * 16 + s) = wt mo kd cd cn n kf b s) (hs1 : 2 ≤ sh) (hs2 : sh ≤ 9) :
    ∀ (m e ph : Nat) (B : Int) (N pr ho he st pb ps : Ar) (bids : Int32), 1 ≤ e → e ≤ 1377 → e < 2 ^ m → ph + m ≤ 16 → B + 21000 * m ≤ 400000000 → N 0 = mo → N 1 = nI sh → N 3 = nI cn → N 4 = nI n → N 7 = nI ph → N 8 = bids →
      (∀ s, s < n → 0 ≤ (pr s).toInt ∧ (pr s).toInt ≤ B) → (∀ s t, s < n → t < n → (pr s).toInt ≤ (pr t).toInt + 6885) →
      ∃ (ph' : Nat) (N' pr' ho' he' st' pb' ps' : Ar) (tot : Int32), ph' ≤ 16 ∧ Vl (B + 21000 * m) n pr' ho' he' ∧ (∀ j, j < 5 → N' j = N j) ∧ N' 5 = 1 ∧ N' 6 = 1 ∧ N' 7 = nI ph' ∧ N' 8 = tot ∧
        (∀ f, m < f → fX6_auction_b62 kd ks cd f (nI e) 1 N pr sk ho he st pb ps = some (tot, N', pr', sk, ho', he', st', pb', ps')) ∧
        (∀ f va co bi, m < f → (bd8 (fX0_auctionPhase (nI n) Wo mo (nI kn) kd ks (nI cn) cd (nI ph) pr ho he st pb ps (nI e)) fun r ph1 pr1 ho1 he1 st1 pb1 ps1 => fX0_holdAuction_b40 mo (nI sh) (nI kn) kd ks (nI cn) cd f (nI e) (bids + r) (nI (ph + 1)) (nI n) Wo va co bi ph1 pr1 ho1 he1 st1 pb1 ps1) = some (tot, nI n, Wo, 1, 1, tot, nI ph', pr', ho', he', st', pb', ps')) := by
  intro m
  induction m with
  | zero => intro e ph B N pr ho he st pb ps bids h1 _ h2; exact absurd h2 (by omega)
  | succ m ih =>
    intro e ph B N pr ho he st pb ps bids h1 h2 h3 h4 hB N0 N1 N3 N4 N7 N8 hpr hsp
    obtain ⟨k', pr', ho', he', T, q1, q2, q3⟩ := phase1 (ph := ph) h hn hn0 hcn hK hWo h1 h2 (by omega) (by omega) hpr hsp ho he st pb ps
    obtain ⟨q4, q5⟩ := q2 N N0 N3 N4
    -- the reference's numbers behind this phase
    have hN2 : upd (upd N 8 (N 8 + (upd pb (nI ph).toNatClampNeg (nI k')) (nI ph).toNatClampNeg)) 7 ((upd N 8 (N 8 + (upd pb (nI ph).toNatClampNeg (nI k')) (nI ph).toNatClampNeg)) 7 + 1) = upd (upd N 8 (bids + nI k')) 7 (nI (ph + 1)) := by
      rw [upd_s, N8, upd_n (show (7 : Nat) ≠ 8 by decide), N7, nI_1]
    have hshn : nI sh ≠ 0 := nI_ne0 (by omega) (by omega)
    have hdiv : nI e / nI sh = nI (e / sh) := nI_dv (by omega) (by omega)
    have hdl : e / sh ≤ e / 2 := Nat.div_le_div_left hs1 (by decide)
    -- the reference, one turn
    have hM : ∀ f, 0 < f → fX6_auction_b62 kd ks cd (f + 1) (nI e) 1 N pr sk ho he st pb ps = fX6_auction_b62 kd ks cd f (nI (en (e / sh))) (if e ≤ 1 then 0 else 1) (upd (upd N 8 (bids + nI k')) 7 (nI (ph + 1))) pr' sk ho' he' (upd st ph (nI e)) (upd pb ph (nI k')) (upd ps ph T) := by
      intro f _
      rw [fX6_auction_b62, if_neg (by decide), freeAllM_eq, bd2, N7, rd (by omega) (by omega), q4, bd4, rd (by omega) (by omega), q5, bd1, rd (by omega) (by omega), rd (by omega) (by omega)]
      have hc := nI_clamp (show ph < 2 ^ 31 by omega)
      have hN2' := hN2
      rw [hc] at hN2'
      rw [hc]
      by_cases e1 : e ≤ 1
      · rw [if_pos (show nI e ≤ (1 : Int32) from nI_le (b := 1) e1 (by decide)), fX6_auction_b159, hN2']
        rw [if_neg (show ¬ (upd (upd N 8 (bids + nI k')) 7 (nI (ph + 1))) 1 = 0 by rw [upd_n (by decide), upd_n (by decide), N1]; exact hshn)]
        rw [upd_n (show (1 : Nat) ≠ 7 by decide), upd_n (show (1 : Nat) ≠ 8 by decide), N1, hdiv, oneM (by omega), bd1, if_pos e1]
      · rw [if_neg (show ¬ nI e ≤ (1 : Int32) from nI_ge (a := 1) (b := e) (by omega) (by omega)), fX6_auction_b159, hN2']
        rw [if_neg (show ¬ (upd (upd N 8 (bids + nI k')) 7 (nI (ph + 1))) 1 = 0 by rw [upd_n (by decide), upd_n (by decide), N1]; exact hshn)]
        rw [upd_n (show (1 : Nat) ≠ 7 by decide), upd_n (show (1 : Nat) ≠ 8 by decide), N1, hdiv, oneM (by omega), bd1, if_neg e1]
    by_cases e1 : e ≤ 1
    · -- the last one
      refine ⟨ph + 1, upd (upd (upd (upd N 8 (bids + nI k')) 7 (nI (ph + 1))) 5 1) 6 1, pr', ho', he', upd st ph (nI e), upd pb ph (nI k'), upd ps ph T, bids + nI k', by omega, q3.mono (by omega), fun j hj => ?_, ?_, ?_, ?_, ?_, fun f hf => ?_, fun f va co bi hf => ?_⟩
      · rw [upd_n (by omega), upd_n (by omega), upd_n (by omega), upd_n (by omega)]
      · rw [upd_n (by decide), upd_s]
      · rw [upd_s]
      · rw [upd_n (by decide), upd_n (by decide), upd_s]
      · rw [upd_n (by decide), upd_n (by decide), upd_n (by decide), upd_s]
      · obtain ⟨f, rfl⟩ := fu_pos hf
        obtain ⟨f, rfl⟩ := fu_pos (show 0 < f by omega)
        rw [hM (f + 1) (by omega), if_pos e1, fX6_auction_b62, if_pos rfl]
        rw [show (upd (upd (upd (upd N 8 (bids + nI k')) 7 (nI (ph + 1))) 5 1) 6 1) 8 = bids + nI k' by rw [upd_n (by decide), upd_n (by decide), upd_n (by decide), upd_s]]
      · obtain ⟨f, rfl⟩ := fu_pos hf
        rw [q1, bd8, fX0_holdAuction_b40]
        have hx : fX0_holdAuction_b83 mo (nI sh) (nI kn) kd ks (nI cn) cd (bids + nI k') (nI n) Wo va co bi (nI (ph + 1)) pr' ho' he' (upd st ph (nI e)) (upd pb ph (nI k')) (upd ps ph T) = some (bids + nI k', nI n, Wo, 1, 1, bids + nI k', nI (ph + 1), pr', ho', he', upd st ph (nI e), upd pb ph (nI k'), upd ps ph T) := by
          unfold fX0_holdAuction_b83
          rw [finish_eq, bd3]
        by_cases e2 : (16 : Int32) ≤ nI (ph + 1)
        · rw [if_pos e2, hx]
        · rw [if_neg e2, if_pos (show nI e ≤ (1 : Int32) from nI_le (b := 1) e1 (by decide)), hx]
    · -- another one
      have hm0 : 0 < m := by
        rcases Nat.eq_zero_or_pos m with z | z
        · subst z; exact absurd h3 (by omega)
        · exact z
      have h5 : e / 2 < 2 ^ m := by
        have : 2 ^ (m + 1) = 2 ^ m * 2 := Nat.pow_succ 2 m
        omega
      obtain ⟨ph', N', pr2, ho2, he2, st2, pb2, ps2, tot, a1, a2, a3, a4, a5, a6, a7, a8, a9⟩ := ih (en (e / sh)) (ph + 1) (B + 21000) (upd (upd N 8 (bids + nI k')) 7 (nI (ph + 1))) pr' ho' he' (upd st ph (nI e)) (upd pb ph (nI k')) (upd ps ph T) (bids + nI k') (en_pos _) (Nat.le_trans (en_le hdl (by omega)) (by omega)) (Nat.lt_of_le_of_lt (en_le hdl (by omega)) h5) (by omega) (by omega)
        (by rw [upd_n (by decide), upd_n (by decide), N0]) (by rw [upd_n (by decide), upd_n (by decide), N1]) (by rw [upd_n (by decide), upd_n (by decide), N3]) (by rw [upd_n (by decide), upd_n (by decide), N4]) (by rw [upd_s]) (by rw [upd_n (by decide), upd_s]) q3.2.2.2.1 q3.2.2.2.2
      refine ⟨ph', N', pr2, ho2, he2, st2, pb2, ps2, tot, a1, a2.mono (by omega), fun j hj => ?_, a4, a5, a6, a7, fun f hf => ?_, fun f va co bi hf => ?_⟩
      · rw [a3 j hj, upd_n (by omega), upd_n (by omega)]
      · obtain ⟨f, rfl⟩ := fu_pos hf
        rw [hM f (by omega), if_neg e1]
        exact a8 f (by omega)
      · obtain ⟨f, rfl⟩ := fu_pos hf
        have e3 : (if (2 : Int32) < nI sh then nI sh else (2 : Int32)) = nI sh := by
          by_cases z : 2 < sh
          · rw [if_pos (show (2 : Int32) < nI sh from nI_lt (a := 2) z (by omega))]
          · rw [if_neg (show ¬ (2 : Int32) < nI sh from nI_nlt (a := 2) (b := sh) (by omega) (by decide)), show sh = 2 by omega]; rfl
        rw [q1, bd8, fX0_holdAuction_b40, if_neg (ge16 (show ph + 1 < 16 by omega)), if_neg (show ¬ nI e ≤ (1 : Int32) from nI_ge (a := 1) (b := e) (by omega) (by omega)), bdv, e3, if_neg hshn, bdv, hdiv, oneC (by omega)]
        have a9' := a9 f va co bi (by omega)
        rw [← nI_1 (ph + 1)] at a9'
        exact a9'
theorem bd13_of {α1 α2 α3 α4 α5 α6 α7 α8 α9 α10 α11 α12 α13 β : Type} {x : Option (α1 × α2 × α3 × α4 × α5 × α6 × α7 × α8 × α9 × α10 × α11 × α12 × α13)} {k : α1 → α2 → α3 → α4 → α5 → α6 → α7 → α8 → α9 → α10 → α11 → α12 → α13 → Option β} {y1 : α1} {y2 : α2} {y3 : α3} {y4 : α4} {y5 : α5} {y6 : α6} {y7 : α7} {y8 : α8} {y9 : α9} {y10 : α10} {y11 : α11} {y12 : α12} {y13 : α13} (h : x = some (y1, y2, y3, y4, y5, y6, y7, y8, y9, y10, y11, y12, y13)) : bd13 x k = k y1 y2 y3 y4 y5 y6 y7 y8 y9 y10 y11 y12 y13 := by rw [h]; rfl
/-- the whole auction: refused alike, or done alike -/
theorem auction_sim {mo : Int32} {kn cn n sh : Nat} {kd ks cd sk N pr : Ar} {Sl va co bi ph : Int32} {Wo ho he st pb ps : Ar} (h : Wf mo kn kd ks cn cd) (hn : n = ssum ks kn) (hs1 : 2 ≤ sh) (hs2 : sh ≤ 9) (N0 : N 0 = mo) (N1 : N 1 = nI sh) (N2 : N 2 = nI kn) (N3 : N 3 = nI cn) :
    (fX5_auction Sl Wo mo (nI sh) (nI kn) kd ks (nI cn) cd va co bi ph pr ho he st pb ps = some (-5, Sl, Wo, va, co, bi, ph, pr, ho, he, st, pb, ps) ∧ fX6_auction N kd ks cd pr sk ho he st pb ps = some (-5, N, pr, sk, ho, he, st, pb, ps)) ∨
    ∃ (ph' : Nat) (N' Wo' pr' sk' ho' he' st' pb' ps' : Ar) (tot : Int32), 0 < n ∧ cn ≤ n ∧ fX5_auction Sl Wo mo (nI sh) (nI kn) kd ks (nI cn) cd va co bi ph pr ho he st pb ps = some (tot, nI n, Wo', 1, 1, tot, nI ph', pr', ho', he', st', pb', ps') ∧ fX6_auction N kd ks cd pr sk ho he st pb ps = some (tot, N', pr', sk', ho', he', st', pb', ps') ∧
      ph' ≤ 16 ∧ Vl 340000 n pr' ho' he' ∧ (∀ j, j < 4 → N' j = N j) ∧ N' 4 = nI n ∧ N' 5 = 1 ∧ N' 6 = 1 ∧ N' 7 = nI ph' ∧ N' 8 = tot ∧ ∀ s, s < n → ∃ j, isK ks kn s j ∧ sk' s = nI j := by
  have hc := slots_eq h.2.1 h.2.2.2.1
  have hm := stocks_eq N2 h.2.1 h.2.2.2.1
  have h16 : n ≤ 16 := by rw [hn]; exact h.2.2.2.2.1
  have h12 := h.2.2.2.2.2.1
  rw [← hn] at hc hm
  unfold fX5_auction fX6_auction
  rw [hc, hm, bd1, bd1]
  by_cases z0 : n = 0
  · left
    rw [z0, if_pos (show nI 0 = (0 : Int32) from rfl), if_pos (show nI 0 = (0 : Int32) from rfl)]
    exact ⟨rfl, rfl⟩
  · have hne : ¬ nI n = (0 : Int32) := nI_ne0 (by omega) (by omega)
    rw [if_neg hne, if_neg hne, fX6_cells, bd1, bd1, N3]
    by_cases z1 : cn ≤ n
    · right
      rw [if_pos (nI_le z1 (by omega)), if_pos (nI_le z1 (by omega))]
      obtain ⟨sk', l1, l2⟩ := lay_eq (N := N) (pr := pr) (sk := sk) h.2.1 h.2.2.2.1 h.2.2.2.2.1 N2
      rw [← hn] at l1 l2
      have hK : ∀ s, s < n → isK ks kn s (sk' s).toNatClampNeg ∧ sk' s = nI (sk' s).toNatClampNeg := fun s hs => by
        obtain ⟨j, a, b⟩ := l1 s hs
        have hj := a.1
        have hk := h.2.1
        rw [b, nI_clamp (by omega)]
        exact ⟨a, rfl⟩
      obtain ⟨Wo', w1, w2⟩ := readWorths_eq (kf := fun s => (sk' s).toNatClampNeg) h hn (fun s hs => (hK s hs).1) Sl Wo
      have M0 : ∀ j, j < 4 → (upd (upd (upd N 4 (nI n)) 7 0) 8 0) j = N j := fun j hj => by rw [upd_n (by omega), upd_n (by omega), upd_n (by omega)]
      have M4 : (upd (upd (upd N 4 (nI n)) 7 0) 8 0) 4 = nI n := by rw [upd_n (by decide), upd_n (by decide), upd_s]
      obtain ⟨Dm, d1, d2, d3⟩ := great_eq (N := upd (upd (upd N 4 (nI n)) 7 0) 8 0) h.1 (by rw [M0 0 (by decide), N0]) (by rw [M0 2 (by decide), N2]) (by rw [M0 3 (by decide), N3]) h.2.1 h12 h.2.2.1 h.2.2.2.2.2.2
      have hmul : Dm * (n + 1) ≤ 5508 := Nat.le_trans (Nat.mul_le_mul d1 (show n + 1 ≤ 17 by omega)) (by decide)
      have e1 : nI Dm * (nI n + 1) / (4 : Int32) = nI (Dm * (n + 1) / 4) := by
        rw [nI_1, nI_ml]
        exact nI_dv (b := 4) (by omega) (by decide)
      obtain ⟨ph', N', pr', ho', he', st', pb', ps', tot, a1, a2, a3, a4, a5, a6, a7, a8, a9⟩ := phases (sk := sk') (Wo := Wo') h hn (by omega) z1 hK w1 hs1 hs2 11 (en (Dm * (n + 1) / 4)) 0 0 (upd (upd (upd N 4 (nI n)) 7 0) 8 0) (zf 0 pr 0) ho he st pb ps 0 (en_pos _) (en_le (by omega) (by decide)) (Nat.lt_of_le_of_lt (en_le (m := 1377) (by omega) (by decide)) (by decide)) (by decide) (by decide)
        (by rw [M0 0 (by decide), N0]) (by rw [M0 1 (by decide), N1]) (by rw [M0 3 (by decide), N3]) M4 (by rw [upd_n (by decide), upd_s]; rfl) (by rw [upd_s]) (fun s hs => by rw [zf_at (by omega)]; exact ⟨by decide, by decide⟩) (fun s t hs ht => by rw [zf_at (by omega), zf_at (by omega)]; decide)
      refine ⟨ph', N', Wo', pr', sk', ho', he', st', pb', ps', tot, by omega, z1, ?_, ?_, a1, a2.mono (by decide), fun j hj => by rw [a3 j (by omega), M0 j hj], by rw [a3 4 (by decide), M4], a4, a5, a6, a7, l1⟩
      · have a9' := a9 FU va co bi (FU_gt (by decide))
        unfold fX0_holdAuction
        rw [w2, bd2, begin_eq, bd2, d2, bd1, e1, bdv, oneC (by omega)]
        simp only [Int32.zero_add] at a9'
        exact (bd13_of a9').trans rfl
      · have a8' := a8 FU (FU_gt (by decide))
        rw [l2, bd3, d3, bd1, M4, e1, oneM (by omega), bd1]
        exact a8'
    · left
      rw [if_neg (nI_ge (by omega) (by omega)), if_neg (nI_ge (by omega) (by omega))]
      exact ⟨rfl, rfl⟩
