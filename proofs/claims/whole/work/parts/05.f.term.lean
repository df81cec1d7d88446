/-! 05.f: the bids come to an end: prices only grow, and those of free slots stay low -/
theorem bm {z : Int} (h1 : -2147483648 ≤ z) (h2 : z < 2147483648) : z.bmod (2 ^ 32) = z := by
  have e : ((2 ^ 32 : Nat) : Int) = 4294967296 := rfl
  exact Int.bmod_eq_of_le (by rw [e]; omega) (by rw [e]; omega)
theorem tI_sub {a b : Int32} (h1 : -2147483648 ≤ a.toInt - b.toInt) (h2 : a.toInt - b.toInt < 2147483648) : (a - b).toInt = a.toInt - b.toInt := by rw [Int32.toInt_sub]; exact bm h1 h2
theorem tI_add {a b : Int32} (h1 : -2147483648 ≤ a.toInt + b.toInt) (h2 : a.toInt + b.toInt < 2147483648) : (a + b).toInt = a.toInt + b.toInt := by rw [Int32.toInt_add]; exact bm h1 h2
theorem wt_bd {mo : Int32} {kd cd : Ar} {cn n b s : Nat} {kf : Nat → Nat} (hn : n ≤ 16) : -5508 ≤ (wt mo kd cd cn n kf b s).toInt ∧ (wt mo kd cd cn n kf b s).toInt ≤ 0 := by
  unfold wt
  by_cases h : b < cn
  · rw [if_pos h]
    obtain ⟨d, hd, e⟩ := df_le mo (cd b) (kd (kf s))
    have hm : d * (n + 1) ≤ 5508 := Nat.le_trans (Nat.mul_le_mul hd (show n + 1 ≤ 17 by omega)) (by decide)
    have e1 : (-(nI d)).toInt = -(d : Int) := by rw [Int32.toInt_neg, nI_toInt (by omega)]; exact bm (by omega) (by omega)
    have e2 : (-(d : Int)) * ((n + 1 : Nat) : Int) = -((d * (n + 1) : Nat) : Int) := by rw [Int.neg_mul, Int.natCast_mul]
    have e3 : ((-(nI d)) * nI (n + 1)).toInt = -((d * (n + 1) : Nat) : Int) := by
      rw [Int32.toInt_mul, e1, nI_toInt (by omega), e2]
      exact bm (by omega) (by omega)
    rw [e, nI_1, e3]
    omega
  · rw [if_neg h]
    exact ⟨by decide, by decide⟩
theorem bid_int {n b : Nat} {w : Nat → Nat → Int32} {ep : Int32} {pr : Ar} {e : Int} (hn : 0 < n) (hw : ∀ b s, b < n → s < n → -5508 ≤ (w b s).toInt ∧ (w b s).toInt ≤ 0) (hb : b < n) (hp : ∀ s, s < n → -100000 ≤ (pr s).toInt ∧ (pr s).toInt ≤ 536870912) (he : ep.toInt = e) (h1 : 1 ≤ e) (h2 : e ≤ 2000) :
    ∃ v : Int, (∀ t, t < n → t ≠ amx (gn w pr b) n → (w b t).toInt - (pr t).toInt ≤ v) ∧ v ≤ (w b (amx (gn w pr b) n)).toInt - (pr (amx (gn w pr b) n)).toInt ∧ (∃ t, t < n ∧ v = (w b t).toInt - (pr t).toInt) ∧
      (bidP (gn w pr b) n ep pr (amx (gn w pr b) n)).toInt = (w b (amx (gn w pr b) n)).toInt - v + e ∧ ∀ s, s ≠ amx (gn w pr b) n → bidP (gn w pr b) n ep pr s = pr s := by
  have gI : ∀ s, s < n → (gn w pr b s).toInt = (w b s).toInt - (pr s).toInt := fun s hs => by
    have q1 := hw b s hb hs
    have q2 := hp s hs
    exact tI_sub (by omega) (by omega)
  have ha := amx_lt (gn w pr b) hn
  have hmax : ∀ s, s < n → (gn w pr b s).toInt ≤ (gn w pr b (amx (gn w pr b) n)).toInt := fun s hs => Int32.le_iff_toInt_le.mp (amx_max (gn w pr b) hs)
  have hv : ∃ t, t < n ∧ sec (gn w pr b) n = gn w pr b t ∧ ∀ t', t' < n → t' ≠ amx (gn w pr b) n → (gn w pr b t').toInt ≤ (gn w pr b t).toInt := by
    rcases Nat.lt_or_ge 1 n with h | h
    · obtain ⟨q1, t, q2, q3, q4⟩ := sec_spec (gn w pr b) (show 2 ≤ n by omega)
      refine ⟨t, q2, q4.symm, fun t' h1 h2 => ?_⟩
      rw [q4]
      exact Int32.le_iff_toInt_le.mp (q1 t' h1 h2)
    · obtain rfl : n = 1 := by omega
      refine ⟨0, by omega, sec_1 _, fun t' h1 h2 => ?_⟩
      rw [show t' = 0 by omega]
      exact Int.le_refl _
  obtain ⟨t, ht, et, hmx⟩ := hv
  have wa := hw b _ hb ha
  have wt' := hw b t hb ht
  have pa := hp _ ha
  have pt := hp t ht
  have ga := gI _ ha
  have gt := gI t ht
  have gm := hmax t ht
  refine ⟨(w b t).toInt - (pr t).toInt, fun t' h1 h2 => ?_, ?_, ⟨t, ht, rfl⟩, ?_, fun s hs => upd_n hs⟩
  · rw [← gI t' h1, ← gt]; exact hmx t' h1 h2
  · rw [← gt, ← ga]; exact gm
  · have hq := he
    have z1 : (gn w pr b (amx (gn w pr b) n) - gn w pr b t).toInt = ((w b (amx (gn w pr b) n)).toInt - (pr (amx (gn w pr b) n)).toInt) - ((w b t).toInt - (pr t).toInt) := by
      rw [tI_sub (by rw [ga, gt]; omega) (by rw [ga, gt]; omega), ga, gt]
    have z2 : (gn w pr b (amx (gn w pr b) n) - gn w pr b t + ep).toInt = ((w b (amx (gn w pr b) n)).toInt - (pr (amx (gn w pr b) n)).toInt) - ((w b t).toInt - (pr t).toInt) + e := by
      rw [tI_add (by rw [z1, he]; omega) (by rw [z1, he]; omega), z1, he]
    unfold bidP
    rw [upd_s, et, tI_add (by rw [z2]; omega) (by rw [z2]; omega), z2]
    omega
/-! the measure -/
def phi (c : Int) (f : Nat → Int) : Nat → Nat
  | 0 => 0
  | n + 1 => phi c f n + (c - f n).toNat
theorem phi_same {c : Int} {f g : Nat → Int} : ∀ {n : Nat}, (∀ s, s < n → f s = g s) → phi c f n = phi c g n := by
  intro n
  induction n with
  | zero => intro _; rfl
  | succ n ih => intro h; rw [phi, phi, ih (fun s hs => h s (by omega)), h n (by omega)]
theorem phi_lt {c : Int} {f g : Nat → Int} {a : Nat} : ∀ {n : Nat}, a < n → (∀ s, s < n → s ≠ a → g s = f s) → f a < g a → g a ≤ c → phi c g n < phi c f n := by
  intro n
  induction n with
  | zero => intro h; exact absurd h (by omega)
  | succ n ih =>
    intro ha hs h1 h2
    rw [phi, phi]
    by_cases e : a = n
    · subst e
      rw [phi_same (fun s hs' => hs s (by omega) (by omega))]
      omega
    · rw [hs n (by omega) (by omega)]
      have := ih (by omega) (fun s hs' => hs s (by omega)) h1 h2
      omega
theorem phi_le {c : Int} {f : Nat → Int} {m : Nat} : ∀ {n : Nat}, (∀ s, s < n → c - f s ≤ m) → phi c f n ≤ n * m := by
  intro n
  induction n with
  | zero => intro _; exact Nat.zero_le _
  | succ n ih =>
    intro h
    have h1 := ih (fun s hs => h s (by omega))
    have h2 := h n (by omega)
    rw [phi, Nat.succ_mul]
    omega
def Cs (n : Nat) (w : Nat → Nat → Int32) (e : Int) (pr he : Ar) : Prop := ∀ b s, b < n → s < n → he b = nI s → ∀ t, t < n → (w b t).toInt - (pr t).toInt - e ≤ (w b s).toInt - (pr s).toInt
theorem cs_bid {n b : Nat} {w : Nat → Nat → Int32} {ep : Int32} {e v : Int} {pr ho he : Ar} (hn : n ≤ 16) (hn0 : 0 < n) (hb : b < n) (hfree : he b = -6) (hMt : Mt n ho he) (hCs : Cs n w e pr he) (h1 : 1 ≤ e) (v1 : ∀ t, t < n → t ≠ amx (gn w pr b) n → (w b t).toInt - (pr t).toInt ≤ v) (v2 : v ≤ (w b (amx (gn w pr b) n)).toInt - (pr (amx (gn w pr b) n)).toInt)
    (v4 : (bidP (gn w pr b) n ep pr (amx (gn w pr b) n)).toInt = (w b (amx (gn w pr b) n)).toInt - v + e) (v5 : ∀ s, s ≠ amx (gn w pr b) n → bidP (gn w pr b) n ep pr s = pr s) : Cs n w e (bidP (gn w pr b) n ep pr) (bidE (gn w pr b) n b ho he) := by
  have ha := amx_lt (gn w pr b) hn0
  have hMt' := Mt_bid (g := gn w pr b) hn hb hfree hMt
  have inj : ∀ {x y : Nat}, x < n → y < n → nI x = nI y → x = y := fun hx hy e => (nI_eq (by omega) (by omega)).mp e
  intro b2 s2 hb2 hs2 e2 t ht
  by_cases eb : b2 = b
  · subst eb
    have e3 : bidE (gn w pr b2) n b2 ho he b2 = nI (amx (gn w pr b2) n) := by unfold bidE; exact upd_s
    rw [e3] at e2
    have es := inj ha hs2 e2
    rw [← es, v4]
    by_cases et : t = amx (gn w pr b2) n
    · rw [et, v4]; omega
    · rw [v5 t et]; have := v1 t ht et; omega
  · have h3 := (hMt'.2.2 b2 s2 hb2 hs2).mp e2
    have hs : s2 ≠ amx (gn w pr b) n := fun z => by
      rw [z] at h3
      unfold bidO at h3
      rw [upd_s] at h3
      exact eb (inj hb hb2 h3).symm
    unfold bidO at h3
    rw [upd_n hs] at h3
    have h4 := hCs b2 s2 hb2 hs2 ((hMt.2.2 b2 s2 hb2 hs2).mpr h3) t ht
    rw [v5 s2 hs]
    by_cases et : t = amx (gn w pr b) n
    · rw [et] at h4 ⊢; rw [v4]; omega
    · rw [v5 t et]; exact h4
theorem run_end {n : Nat} {w : Nat → Nat → Int32} {ep : Int32} {e base D M : Int} {p0 : Nat → Int} (hn : n ≤ 16) (hn0 : 0 < n) (hw : ∀ b s, b < n → s < n → -5508 ≤ (w b s).toInt ∧ (w b s).toInt ≤ 0) (hep : ep.toInt = e) (h1 : 1 ≤ e) (h2 : e ≤ 2000) (hD0 : 0 ≤ D) (hD : D ≤ 20000) (hM : M = D + 5508 + e) (hb1 : -50000 ≤ base) (hb2 : base ≤ 500000000) :
    ∀ (m k : Nat) (pr ho he : Ar), phi (base + M) (fun s => (pr s).toInt) n < m → Mt n ho he → Cs n w e pr he → (∀ s, s < n → p0 s ≤ (pr s).toInt ∧ base ≤ (pr s).toInt ∧ (pr s).toInt ≤ base + M ∧ (ho s = -6 → (pr s).toInt ≤ base + D)) →
      ∃ (k' : Nat) (pr' ho' he' : Ar), k' ≤ k + m + 1 ∧ (∀ f, m + 1 < f → runB n w ep f k pr ho he = some (k', pr', ho', he')) ∧ Mt n ho' he' ∧ (∀ b, b < n → he' b ≠ -6) ∧ Cs n w e pr' he' ∧ ∀ s, s < n → p0 s ≤ (pr' s).toInt ∧ (pr' s).toInt ≤ base + M + 5508 + e := by
  intro m
  induction m with
  | zero => intro k pr ho he h; exact absurd h (by omega)
  | succ m ih =>
    intro k pr ho he hphi hMt hCs hpr
    cases hf : ffF he n 0 with
    | none =>
      refine ⟨k, pr, ho, he, by omega, fun f hf' => ?_, hMt, fun b hb => ffF_none hf b (by omega) (by omega), hCs, fun s hs => ⟨(hpr s hs).1, by have := (hpr s hs).2.2.1; omega⟩⟩
      obtain ⟨f, rfl⟩ := fu_pos hf'
      exact runB_none hf
    | some b =>
      obtain ⟨-, hb, hfree⟩ := ffF_some hf
      have hb : b < n := by omega
      have hp : ∀ s, s < n → -100000 ≤ (pr s).toInt ∧ (pr s).toInt ≤ 536870912 := fun s hs => by have := hpr s hs; omega
      obtain ⟨v, v1, v2, ⟨t0, ht0, v3⟩, v4, v5⟩ := bid_int hn0 hw hb hp hep h1 h2
      have ha := amx_lt (gn w pr b) hn0
      have wa := hw b _ hb ha
      have w0 := hw b t0 hb ht0
      have pa := hpr _ ha
      have pt := hpr t0 ht0
      have hMt' := Mt_bid (g := gn w pr b) hn hb hfree hMt
      have hCs' := cs_bid (ho := ho) hn hn0 hb hfree hMt hCs h1 v1 v2 v4 v5
      by_cases hu : ∃ u, u < n ∧ ho u = -6 ∧ u ≠ amx (gn w pr b) n
      · obtain ⟨u, hu1, hu2, hu3⟩ := hu
        have q1 := v1 u hu1 hu3
        have q2 := (hpr u hu1).2.2.2 hu2
        have q3 := hw b u hb hu1
        have q4 := phi_lt (c := base + M) (f := fun s => (pr s).toInt) (g := fun s => (bidP (gn w pr b) n ep pr s).toInt) ha (fun s _ hs => by show (bidP _ _ _ _ s).toInt = _; rw [v5 s hs]) (by show (pr _).toInt < (bidP _ _ _ _ _).toInt; rw [v4]; omega) (by show (bidP _ _ _ _ _).toInt ≤ _; rw [v4]; omega)
        obtain ⟨k', pr', ho', he', r1, r2, r3, r4, r5, r6⟩ := ih (k + 1) (bidP (gn w pr b) n ep pr) (bidO (gn w pr b) n b ho) (bidE (gn w pr b) n b ho he) (by omega) hMt' hCs' (fun s hs => by
          by_cases e1 : s = amx (gn w pr b) n
          · rw [e1, v4]
            refine ⟨by omega, by omega, by omega, fun z => ?_⟩
            unfold bidO at z
            rw [upd_s] at z
            exact absurd z (nI_ne6 (by omega))
          · rw [v5 s e1]
            unfold bidO
            rw [upd_n e1]
            exact hpr s hs)
        refine ⟨k', pr', ho', he', by omega, fun f hf' => ?_, r3, r4, r5, r6⟩
        obtain ⟨f, rfl⟩ := fu_pos hf'
        rw [runB_some hf]
        exact r2 f (by omega)
      · have hall : ∀ s, s < n → bidO (gn w pr b) n b ho s ≠ -6 := fun s hs => by
          unfold bidO
          by_cases e1 : s = amx (gn w pr b) n
          · rw [e1, upd_s]; exact nI_ne6 (by omega)
          · rw [upd_n e1]; exact fun e2 => hu ⟨s, hs, e2, e1⟩
        have hfull := Mt_full hn hMt' hall
        have hnone : ffF (bidE (gn w pr b) n b ho he) n 0 = none := by
          cases hz : ffF (bidE (gn w pr b) n b ho he) n 0 with
          | none => rfl
          | some b2 =>
            obtain ⟨-, z1, z2⟩ := ffF_some hz
            obtain ⟨s, z3, z4, -⟩ := hfull b2 (by omega)
            rw [z2] at z4
            exact absurd z4.symm (nI_ne6 (by omega))
        refine ⟨k + 1, bidP (gn w pr b) n ep pr, bidO (gn w pr b) n b ho, bidE (gn w pr b) n b ho he, by omega, fun f hf' => ?_, hMt', fun b2 hb2 => ?_, hCs', fun s hs => ?_⟩
        · obtain ⟨f, rfl⟩ := fu_pos hf'
          obtain ⟨f, rfl⟩ := fu_pos (show 0 < f by omega)
          rw [runB_some hf, runB_none hnone]
        · obtain ⟨s, z3, z4, -⟩ := hfull b2 hb2
          rw [z4]; exact nI_ne6 (by omega)
        · by_cases e1 : s = amx (gn w pr b) n
          · rw [e1, v4]; omega
          · rw [v5 s e1]
            have q := hpr s hs
            omega
/-- prices that lie close to one another: the whole run of bids -/
theorem run_all {n : Nat} {w : Nat → Nat → Int32} {ep : Int32} {e B : Int} (hn : n ≤ 16) (hn0 : 0 < n) (hw : ∀ b s, b < n → s < n → -5508 ≤ (w b s).toInt ∧ (w b s).toInt ≤ 0) (hep : ep.toInt = e) (h1 : 1 ≤ e) (h2 : e ≤ 1377) {pr ho he : Ar} (hMt : Mt n ho he) (hCs : Cs n w e pr he) (hB : B ≤ 400000000) (hpr : ∀ s, s < n → 0 ≤ (pr s).toInt ∧ (pr s).toInt ≤ B) (hsp : ∀ s t, s < n → t < n → (pr s).toInt ≤ (pr t).toInt + 6885) :
    ∃ (k' : Nat) (pr' ho' he' : Ar), k' < 1000000 ∧ runB n w ep FU 0 pr ho he = some (k', pr', ho', he') ∧ Mt n ho' he' ∧ (∀ b, b < n → ∃ s, s < n ∧ he' b = nI s ∧ ho' s = nI b) ∧ (∀ s, s < n → ∃ b, b < n ∧ ho' s = nI b ∧ he' b = nI s) ∧ (∀ s, s < n → 0 ≤ (pr' s).toInt ∧ (pr' s).toInt ≤ B + 21000) ∧ ∀ s t, s < n → t < n → (pr' s).toInt ≤ (pr' t).toInt + 5508 + e := by
  have hp0 := hpr 0 hn0
  obtain ⟨k', pr', ho', he', r1, r2, r3, r4, r5, r6⟩ := run_end (p0 := fun s => (pr s).toInt) (base := (pr 0).toInt - 6885) (D := 13770) (M := 13770 + 5508 + e) hn hn0 hw hep h1 (by omega) (by omega) (by omega) rfl (by omega) (by omega) 330481 0 pr ho he (by
    have := phi_le (c := (pr 0).toInt - 6885 + (13770 + 5508 + e)) (f := fun s => (pr s).toInt) (m := 20655) (n := n) (fun s hs => by show _ - (pr s).toInt ≤ _; have := hsp 0 s hn0 hs; omega)
    have h3 : n * 20655 ≤ 16 * 20655 := Nat.mul_le_mul_right _ hn
    omega) hMt hCs (fun s hs => by
    have q1 := hsp s 0 hs hn0
    have q2 := hsp 0 s hn0 hs
    exact ⟨Int.le_refl _, by omega, by omega, fun _ => by omega⟩)
  have hfb : ∀ b, b < n → ∃ s, s < n ∧ ho' s = nI b ∧ he' b = nI s := fun b hb => by
    obtain ⟨s, hs, e⟩ := (r3.2.1 b hb).resolve_left (r4 b hb)
    exact ⟨s, hs, (r3.2.2 b s hb hs).mp e, e⟩
  have hfs := Mt_full hn r3.swap r4
  refine ⟨k', pr', ho', he', by omega, r2 FU (FU_gt (by omega)), r3, fun b hb => ?_, fun s hs => hfs s hs, fun s hs => ?_, fun s t hs ht => ?_⟩
  · obtain ⟨s, a, b', c⟩ := hfb b hb
    exact ⟨s, a, c, b'⟩
  · have q := r6 s hs
    have q1 := hpr s hs
    have q2 : (pr s).toInt ≤ (pr' s).toInt := q.1
    omega
  · obtain ⟨b, hb, -, e⟩ := hfs s hs
    have q := r5 b s hb hs e t ht
    have w1 := hw b t hb ht
    have w2 := hw b s hb hs
    omega
