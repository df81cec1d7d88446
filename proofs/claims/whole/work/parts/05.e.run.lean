/-! 05.e: bids till none is free, on both sides -/
def ffF (he : Ar) : Nat → Nat → Option Nat
  | 0, _ => none
  | r + 1, i => if he i = -6 then some i else ffF he r (i + 1)
def frI (o : Option Nat) : Int32 := match o with
  | none => -6
  | some b => nI b
theorem ffF_some {he : Ar} : ∀ {r i b}, ffF he r i = some b → i ≤ b ∧ b < i + r ∧ he b = -6 := by
  intro r
  induction r with
  | zero => intro i b h; cases h
  | succ r ih =>
    intro i b h
    unfold ffF at h
    by_cases hz : he i = -6
    · rw [if_pos hz] at h; cases h; exact ⟨by omega, by omega, hz⟩
    · rw [if_neg hz] at h
      obtain ⟨h1, h2, h3⟩ := ih h
      exact ⟨by omega, by omega, h3⟩
theorem ffF_none {he : Ar} : ∀ {r i}, ffF he r i = none → ∀ b, i ≤ b → b < i + r → he b ≠ -6 := by
  intro r
  induction r with
  | zero => intro i h b h1 h2; exact absurd h2 (by omega)
  | succ r ih =>
    intro i h b h1 h2
    unfold ffF at h
    by_cases hz : he i = -6
    · rw [if_pos hz] at h; cases h
    · rw [if_neg hz] at h
      rcases Nat.eq_or_lt_of_le h1 with h3 | h3
      · rw [← h3]; exact hz
      · exact ih h b (by omega) (by omega)
theorem leastFree_loop {he : Ar} {n : Nat} (hn : n ≤ 16) : ∀ r i n0, i + r = n → r < n0 → fX0_leastFree_b10 (nI n) he n0 (nI i) = some (frI (ffF he r i)) := by
  intro r
  induction r with
  | zero =>
    intro i n0 hi hn0
    obtain ⟨n0, rfl⟩ := fu_pos hn0
    rw [fX0_leastFree_b10, if_pos (nI_le (by omega) (by omega))]
    rfl
  | succ r ih =>
    intro i n0 hi hn0
    obtain ⟨n0, rfl⟩ := fu_pos hn0
    rw [fX0_leastFree_b10, if_neg (nI_ge (by omega) (by omega)), if_neg (ge16 (by omega : i < 16)), rd (by omega) (by omega), nI_clamp (by omega), ffF]
    by_cases h : he i = -6
    · rw [if_pos h, if_pos h]; rfl
    · rw [if_neg h, if_neg h, nI_1]
      exact ih (i + 1) n0 (by omega) (by omega)
theorem leastFree_eq {he : Ar} {n : Nat} (hn : n ≤ 16) : fX0_leastFree (nI n) he = some (frI (ffF he n 0)) := leastFree_loop hn n 0 FU (by omega) (FU_gt (by omega))
theorem firstFree_loop {N he : Ar} {n : Nat} (hn : n ≤ 16) (hN : N 4 = nI n) (hE : okE he n) : ∀ r i n0, i + r = n → r < n0 → fX6_firstFree_b2 N he n0 (nI i) = some (frI (ffF he r i)) := by
  intro r
  induction r with
  | zero =>
    intro i n0 hi hn0
    obtain ⟨n0, rfl⟩ := fu_pos hn0
    rw [fX6_firstFree_b2, hN, if_pos (nI_le (by omega) (by omega))]
    rfl
  | succ r ih =>
    intro i n0 hi hn0
    obtain ⟨n0, rfl⟩ := fu_pos hn0
    rw [fX6_firstFree_b2, hN, if_neg (nI_ge (by omega) (by omega)), rd (by omega) (by omega), nI_clamp (by omega), ffF]
    rcases hE i (by omega) with e | ⟨b, hb, e⟩
    · rw [e, if_pos rfl, if_neg (by decide)]; rfl
    · rw [e, if_neg (nI_ne6 (by omega)), if_pos (nI_pos' (by omega)), nI_1]
      exact ih (i + 1) n0 (by omega) (by omega)
theorem firstFree_eq {N he : Ar} {n : Nat} (hn : n ≤ 16) (hN : N 4 = nI n) (hE : okE he n) : fX6_firstFree N he = some (frI (ffF he n 0)) := firstFree_loop hn hN hE n 0 FU (by omega) (FU_gt (by omega))
def gn (w : Nat → Nat → Int32) (pr : Ar) (b s : Nat) : Int32 := w b s - pr s
def runB (n : Nat) (w : Nat → Nat → Int32) (ep : Int32) : Nat → Nat → Ar → Ar → Ar → Option (Nat × Ar × Ar × Ar)
  | 0, _, _, _, _ => none
  | f + 1, k, pr, ho, he => match ffF he n 0 with
    | none => some (k, pr, ho, he)
    | some b => runB n w ep f (k + 1) (bidP (gn w pr b) n ep pr) (bidO (gn w pr b) n b ho) (bidE (gn w pr b) n b ho he)
theorem runB_none {n : Nat} {w : Nat → Nat → Int32} {ep : Int32} {f k : Nat} {pr ho he : Ar} (h : ffF he n 0 = none) : runB n w ep (f + 1) k pr ho he = some (k, pr, ho, he) := by rw [runB, h]
theorem runB_some {n : Nat} {w : Nat → Nat → Int32} {ep : Int32} {f k b : Nat} {pr ho he : Ar} (h : ffF he n 0 = some b) : runB n w ep (f + 1) k pr ho he = runB n w ep f (k + 1) (bidP (gn w pr b) n ep pr) (bidO (gn w pr b) n b ho) (bidE (gn w pr b) n b ho he) := by rw [runB, h]
theorem runB_ge {n : Nat} {w : Nat → Nat → Int32} {ep : Int32} : ∀ {f k : Nat} {pr ho he : Ar} {q : Nat × Ar × Ar × Ar}, runB n w ep f k pr ho he = some q → k ≤ q.1 := by
  intro f
  induction f with
  | zero => intro k pr ho he q h; cases h
  | succ f ih =>
    intro k pr ho he q h
    cases hf : ffF he n 0 with
    | none => rw [runB_none hf] at h; cases h; exact Nat.le_refl _
    | some b => rw [runB_some hf] at h; have := ih h; omega
theorem okE_bidO {g : Nat → Int32} {n b : Nat} {ho : Ar} (hb : b < n) (h : okE ho n) : okE (bidO g n b ho) n := fun s hs => by
  unfold bidO
  by_cases e : s = amx g n
  · rw [e, upd_s]; exact Or.inr ⟨b, hb, rfl⟩
  · rw [upd_n e]; exact h s hs
theorem okE_bidE {g : Nat → Int32} {n b : Nat} {ho he : Ar} (hn : 0 < n) (h : okE he n) : okE (bidE g n b ho he) n := fun s hs => by
  unfold bidE
  by_cases e : s = b
  · rw [e, upd_s]; exact Or.inr ⟨_, amx_lt g hn, rfl⟩
  · rw [upd_n e]
    by_cases e2 : ho (amx g n) = -6
    · rw [if_pos e2]; exact h s hs
    · rw [if_neg e2]
      by_cases e3 : s = (ho (amx g n)).toNatClampNeg
      · rw [e3, upd_s]; exact Or.inl rfl
      · rw [upd_n e3]; exact h s hs
theorem ge1m {k : Nat} (h : k < 1000000) : ¬ (1000000 : Int32) ≤ nI k := nI_ge (b := 1000000) h (by decide)
theorem till_loop {Wo : Ar} {n : Nat} {w : Nat → Nat → Int32} {ep : Int32} (hn : n ≤ 16) (hW : ∀ b s, b < n → s < n → Wo (b * 16 + s) = w b s) : ∀ f k (pr ho he : Ar) (q : Nat × Ar × Ar × Ar), runB n w ep f k pr ho he = some q → q.1 < 1000000 → okE ho n → okE he n → fX0_bidTillNoneIsFree_b2 (nI n) Wo f ep (nI k) pr ho he = some (nI q.1, q.2.1, q.2.2.1, q.2.2.2) := by
  intro f
  induction f with
  | zero => intro k pr ho he q h; cases h
  | succ f ih =>
    intro k pr ho he q h hq hO hE
    have hge := runB_ge h
    rw [fX0_bidTillNoneIsFree_b2, if_neg (ge1m (by omega)), leastFree_eq hn, bd1]
    cases hf : ffF he n 0 with
    | none =>
      rw [runB_none hf] at h
      cases h
      exact if_pos rfl
    | some b =>
      rw [runB_some hf] at h
      obtain ⟨-, hb, -⟩ := ffF_some hf
      have hb : b < n := by omega
      have e := makeBid_eq (Wo := Wo) (pr := pr) (ho := ho) (he := he) (ep := ep) (g := gn w pr b) hn hb (fun s hs => by rw [hW b s hb hs]; rfl) hO
      rw [show frI (some b) = nI b from rfl, if_neg (nI_ne6 (by omega)), e, bd3, nI_1]
      exact ih (k + 1) _ _ _ q h hq (okE_bidO hb hO) (okE_bidE (by omega) hE)
theorem tillM_loop {N kd cd sk : Ar} {n : Nat} {w : Nat → Nat → Int32} {ep : Int32} (hn : n ≤ 16) (hN : N 4 = nI n) (hW : ∀ b s P, b < n → s < n → fX6_gainOf N kd cd P sk (nI b) (nI s) = some (w b s - P s)) : ∀ f k (pr ho he : Ar) (q : Nat × Ar × Ar × Ar), runB n w ep f k pr ho he = some q → okE ho n → okE he n → fX6_phaseOf_b7 N kd cd sk f ep (nI k) (frI (ffF he n 0)) pr ho he = some (nI q.1, q.2.1, q.2.2.1, q.2.2.2) := by
  intro f
  induction f with
  | zero => intro k pr ho he q h; cases h
  | succ f ih =>
    intro k pr ho he q h hO hE
    rw [fX6_phaseOf_b7]
    cases hf : ffF he n 0 with
    | none =>
      rw [runB_none hf] at h
      cases h
      exact if_pos m6_neg
    | some b =>
      rw [runB_some hf] at h
      obtain ⟨-, hb, -⟩ := ffF_some hf
      have hb : b < n := by omega
      have e := bidM_eq (he := he) (ep := ep) (g := gn w pr b) hn hN hb (fun s hs => hW b s pr hb hs) hO
      have hE2 : okE (bidE (gn w pr b) n b ho he) n := okE_bidE (by omega) hE
      rw [show frI (some b) = nI b from rfl, if_neg (nI_pos (by omega)), e, bd3, firstFree_eq hn hN hE2, bd1, nI_1]
      exact ih (k + 1) _ _ _ q h (okE_bidO hb hO) hE2
theorem till_eq {Wo : Ar} {n : Nat} {w : Nat → Nat → Int32} {ep : Int32} {pr ho he : Ar} {k' : Nat} {pr' ho' he' : Ar} (hn : n ≤ 16) (hW : ∀ b s, b < n → s < n → Wo (b * 16 + s) = w b s) (h : runB n w ep FU 0 pr ho he = some (k', pr', ho', he')) (hk : k' < 1000000) (hO : okE ho n) (hE : okE he n) : fX0_bidTillNoneIsFree (nI n) Wo pr ho he ep = some (nI k', pr', ho', he') :=
  till_loop hn hW FU 0 pr ho he _ h hk hO hE
theorem tillM_eq {N kd cd sk : Ar} {n : Nat} {w : Nat → Nat → Int32} {ep : Int32} {pr ho he : Ar} {k' : Nat} {pr' ho' he' : Ar} (hn : n ≤ 16) (hN : N 4 = nI n) (hW : ∀ b s P, b < n → s < n → fX6_gainOf N kd cd P sk (nI b) (nI s) = some (w b s - P s)) (h : runB n w ep FU 0 pr ho he = some (k', pr', ho', he')) (hO : okE ho n) (hE : okE he n) : fX6_phaseOf N kd cd pr sk ho he ep = some (nI k', pr', ho', he') := by
  unfold fX6_phaseOf
  rw [firstFree_eq hn hN hE, bd1]
  exact tillM_loop hn hN hW FU 0 pr ho he _ h hO hE
/-! who has what: the two rows are one another's inverse -/
def Mt (n : Nat) (ho he : Ar) : Prop := okE ho n ∧ okE he n ∧ ∀ b s, b < n → s < n → (he b = nI s ↔ ho s = nI b)
theorem Mt.swap {n : Nat} {ho he : Ar} (h : Mt n ho he) : Mt n he ho := ⟨h.2.1, h.1, fun b s hb hs => (h.2.2 s b hs hb).symm⟩
theorem Mt_free {n : Nat} {ho he : Ar} (hn : n ≤ 16) : Mt n (zf 0 ho (-6)) (zf 0 he (-6)) := by
  refine ⟨fun s hs => Or.inl (zf_at (by omega)), fun s hs => Or.inl (zf_at (by omega)), fun b s hb hs => ?_⟩
  rw [zf_at (by omega), zf_at (by omega)]
  exact ⟨fun h => absurd h.symm (nI_ne6 (by omega)), fun h => absurd h.symm (nI_ne6 (by omega))⟩
theorem Mt_bid {n b : Nat} {ho he : Ar} {g : Nat → Int32} (hn : n ≤ 16) (hb : b < n) (hf : he b = -6) (h : Mt n ho he) : Mt n (bidO g n b ho) (bidE g n b ho he) := by
  have h0 : 0 < n := by omega
  have ha := amx_lt g h0
  refine ⟨okE_bidO hb h.1, okE_bidE h0 h.2.1, fun b' s' hb' hs' => ?_⟩
  have inj : ∀ {x y : Nat}, x < n → y < n → nI x = nI y → x = y := fun hx hy e => (nI_eq (by omega) (by omega)).mp e
  have hne6 : ∀ {x : Nat}, x < n → nI x ≠ -6 := fun hx => nI_ne6 (by omega)
  unfold bidO bidE
  by_cases e1 : b' = b
  · subst e1
    rw [upd_s]
    by_cases e2 : s' = amx g n
    · rw [e2, upd_s]; exact ⟨fun _ => rfl, fun _ => rfl⟩
    · rw [upd_n e2]
      refine ⟨fun e => absurd (inj ha hs' e).symm e2, fun e => ?_⟩
      have := (h.2.2 b' s' hb hs').mpr e
      rw [hf] at this
      exact absurd this.symm (hne6 hs')
  · rw [upd_n e1]
    rcases h.1 (amx g n) ha with e3 | ⟨b0, hb0, e3⟩
    · rw [if_pos e3]
      by_cases e2 : s' = amx g n
      · rw [e2, upd_s]
        refine ⟨fun e => ?_, fun e => absurd (inj hb hb' e).symm e1⟩
        have := (h.2.2 b' _ hb' ha).mp e
        rw [e3] at this
        exact absurd this.symm (hne6 hb')
      · rw [upd_n e2]; exact h.2.2 b' s' hb' hs'
    · rw [e3, if_neg (hne6 hb0), nI_clamp (by omega)]
      have q0 : he b0 = nI (amx g n) := (h.2.2 b0 _ hb0 ha).mpr e3
      by_cases e4 : b' = b0
      · subst e4
        rw [upd_s]
        refine ⟨fun e => absurd e.symm (hne6 hs'), fun e => ?_⟩
        by_cases e2 : s' = amx g n
        · rw [e2, upd_s] at e; exact absurd (inj hb hb' e).symm e1
        · rw [upd_n e2] at e
          have := (h.2.2 b' s' hb' hs').mpr e
          rw [q0] at this
          exact absurd (inj ha hs' this).symm e2
      · rw [upd_n e4]
        by_cases e2 : s' = amx g n
        · rw [e2, upd_s]
          refine ⟨fun e => ?_, fun e => absurd (inj hb hb' e).symm e1⟩
          have := (h.2.2 b' _ hb' ha).mp e
          rw [e3] at this
          exact absurd (inj hb0 hb' this).symm e4
        · rw [upd_n e2]; exact h.2.2 b' s' hb' hs'
theorem pigeon : ∀ (n : Nat) (f : Nat → Nat), (∀ i, i < n → f i < n) → (∀ i j, i < n → j < n → f i = f j → i = j) → ∀ j, j < n → ∃ i, i < n ∧ f i = j := by
  intro n
  induction n with
  | zero => intro f _ _ j hj; exact absurd hj (by omega)
  | succ n ih =>
    intro f hf hi j hj
    have hg := ih (fun i => if f i = n then f n else f i) (fun i h => by
      show (if f i = n then f n else f i) < n
      by_cases e : f i = n
      · rw [if_pos e]
        rcases Nat.eq_or_lt_of_le (Nat.lt_succ_iff.mp (hf n (by omega))) with e2 | e2
        · have := hi i n (by omega) (by omega) (by omega); omega
        · exact e2
      · rw [if_neg e]
        have := hf i (by omega)
        omega) (fun i k h1 h2 e => by
      have e : (if f i = n then f n else f i) = (if f k = n then f n else f k) := e
      by_cases a : f i = n
      · by_cases c : f k = n
        · exact hi i k (by omega) (by omega) (by omega)
        · rw [if_pos a, if_neg c] at e
          have := hi n k (by omega) (by omega) e; omega
      · by_cases c : f k = n
        · rw [if_neg a, if_pos c] at e
          have := hi i n (by omega) (by omega) e; omega
        · rw [if_neg a, if_neg c] at e
          exact hi i k (by omega) (by omega) e)
    by_cases e1 : j = f n
    · exact ⟨n, by omega, e1.symm⟩
    · by_cases e2 : j = n
      · have h3 : f n < n := by have := hf n (by omega); omega
        obtain ⟨i, h4, h5⟩ := hg (f n) h3
        have h5 : (if f i = n then f n else f i) = f n := h5
        by_cases a : f i = n
        · exact ⟨i, by omega, by omega⟩
        · rw [if_neg a] at h5
          have := hi i n (by omega) (by omega) h5; omega
      · obtain ⟨i, h4, h5⟩ := hg j (by omega)
        have h5 : (if f i = n then f n else f i) = j := h5
        by_cases a : f i = n
        · rw [if_pos a] at h5; exact absurd h5.symm e1
        · rw [if_neg a] at h5; exact ⟨i, by omega, h5⟩
/-- if every slot has an owner, every bidder has a slot (and the other way, by swap) -/
theorem Mt_full {n : Nat} {ho he : Ar} (hn : n ≤ 16) (h : Mt n ho he) (hf : ∀ s, s < n → ho s ≠ -6) : ∀ b, b < n → ∃ s, s < n ∧ he b = nI s ∧ ho s = nI b := by
  have hv : ∀ s, s < n → ∃ b, b < n ∧ ho s = nI b := fun s hs => (h.1 s hs).resolve_left (hf s hs)
  have hc : ∀ s, s < n → (ho s).toNatClampNeg < n ∧ ho s = nI (ho s).toNatClampNeg := fun s hs => by
    obtain ⟨b, hb, e⟩ := hv s hs
    rw [e, nI_clamp (by omega)]
    exact ⟨hb, rfl⟩
  intro b hb
  obtain ⟨s, hs, e⟩ := pigeon n (fun s => (ho s).toNatClampNeg) (fun s hs => (hc s hs).1) (fun i j hi hj e => by
    have e : (ho i).toNatClampNeg = (ho j).toNatClampNeg := e
    have h1 := (h.2.2 _ i (hc i hi).1 hi).mpr (hc i hi).2
    have h2 := (h.2.2 _ j (hc j hj).1 hj).mpr (hc j hj).2
    rw [e, h2] at h1
    exact ((nI_eq (by omega) (by omega)).mp h1).symm) b hb
  have e : (ho s).toNatClampNeg = b := e
  have h2 : ho s = nI b := by rw [← e]; exact (hc s hs).2
  exact ⟨s, hs, (h.2.2 b s hb hs).mpr h2, h2⟩
