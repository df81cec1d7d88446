/-! 06.a: contracts over a larger world; the worlds of class and reference -/
theorem va_P_mem {D : va_G} {cl : List vw_C} {ws : va_W} {H : Heap} : va_P D cl ws H ↔ ∀ q ∈ ws, va_at D cl q H :=
  ⟨fun h q hq => by obtain ⟨k, hk⟩ := List.mem_iff_getElem?.mp hq; exact h k q hk, fun h k q hk => h q (List.mem_of_getElem? hk)⟩
theorem va_D_pw {A : Nat → Prop} {ws : va_W} : va_D A ws ↔ ws.Pairwise (fun p q => p.1 ≠ q.1) ∧ ∀ q ∈ ws, A q.1 := by
  constructor
  · intro h
    refine ⟨List.pairwise_iff_getElem.mpr fun i j hi hj hij e => ?_, fun q hq => by obtain ⟨k, hk⟩ := List.mem_iff_getElem?.mp hq; exact h.2 k q hk⟩
    have := h.1 i j _ _ (List.getElem?_eq_getElem hi) (List.getElem?_eq_getElem hj) e
    omega
  · intro h
    refine ⟨fun i j p q hi hj e => ?_, fun k q hk => h.2 q (List.mem_of_getElem? hk)⟩
    obtain ⟨hi', ei⟩ := List.getElem?_eq_some_iff.mp hi
    obtain ⟨hj', ej⟩ := List.getElem?_eq_some_iff.mp hj
    have hp := List.pairwise_iff_getElem.mp h.1
    rcases Nat.lt_trichotomy i j with z | z | z
    · exact absurd (by rw [ei, ej]; exact e) (hp i j hi' hj' z)
    · exact z
    · exact absurd (by rw [ei, ej]; exact e.symm) (hp j i hj' hi' z)
theorem va_A_mem {ws : va_W} {sz q : Nat} : va_A ws sz q ↔ (∃ e, (q, e) ∈ ws) ∨ sz ≤ q := by
  constructor
  · rintro (⟨k, e, h⟩ | h)
    · exact Or.inl ⟨e, List.mem_of_getElem? h⟩
    · exact Or.inr h
  · rintro (⟨e, h⟩ | h)
    · obtain ⟨k, hk⟩ := List.mem_iff_getElem?.mp h
      exact Or.inl ⟨k, e, hk⟩
    · exact Or.inr h
theorem Met.cons {l : Launch} {y : MethodName} {ws : List Cond} {rm : Room} {Pc Pc' : Array Value → State → Prop} {Qc Qc' : Array Value → State → Outcome → State → Prop} {mc ms : Nat} {free free' : Addr → Prop} (hM : Met l y ws rm Pc Qc mc ms free) (hP : ∀ a s, Pc' a s → Pc a s) (hQ : ∀ a s o t, Pc' a s → Qc a s o t → Qc' a s o t) (hf : ∀ q, free q → free' q) : Met l y ws rm Pc' Qc' mc ms free' := by
  intro p e ha hc hk s m args below hfr happ hp hkk
  obtain ⟨n, o, h1, h2, h3, h4, L, h5, h6⟩ := hM p e ha hc hk s m args below hfr happ (hP _ _ hp) hkk
  exact ⟨n, o, h1, h2, h3, hQ _ _ _ _ hp h4, L, h5, fun q hq => hf _ (h6 q hq)⟩
/-- the frame rule: what else lies in the world stays -/
theorem CtI.frp {l : Launch} {D : va_G} {cI cZ cP : ClassId} {y : MethodName} {ws : List Cond} {rm : Room} {As : List Value} {wc : va_W} {S : Type} {wc' : S → va_W} {r : Int32} (hM : CtI l D cI cZ cP y ws rm As wc wc' r) (w T : va_W) (w2 : S → va_W) (hp : w.Perm (wc ++ T)) (hp2 : ∀ u, (w2 u).Perm (wc' u ++ T)) : CtI l D cI cZ cP y ws rm As w w2 r := by
  intro sz
  have hsub : ∀ q, va_A wc sz q → va_A w sz q := fun q h => by
    rcases va_A_mem.mp h with ⟨e, h⟩ | h
    · exact va_A_mem.mpr (Or.inl ⟨e, hp.mem_iff.mpr (List.mem_append_left _ h)⟩)
    · exact va_A_mem.mpr (Or.inr h)
  refine Met.cons (hM sz) ?_ ?_ hsub
  · intro a s h
    obtain ⟨h0, hsz, hP, hK, hD⟩ := h
    have hP' := va_P_mem.mp hP
    have hD' := va_D_pw.mp hD
    exact ⟨h0, hsz, va_P_mem.mpr (fun q hq => hP' q (hp.mem_iff.mpr (List.mem_append_left _ hq))), hK, va_D_pw.mpr ⟨(List.pairwise_append.mp ((hp.pairwise_iff (fun h => Ne.symm h)).mp hD'.1)).1, fun _ _ => trivial⟩⟩
  · intro a s o t h hq
    obtain ⟨h0, hsz, hP, hK, hD⟩ := h
    obtain ⟨⟨r', u, ho, hr, hPw, hDw⟩, hF⟩ := hq
    have hP' := va_P_mem.mp hP
    have hD' := va_D_pw.mp hD
    obtain ⟨d1, d2, d3⟩ := List.pairwise_append.mp ((hp.pairwise_iff (fun h => Ne.symm h)).mp hD'.1)
    have hDw' := va_D_pw.mp hDw
    have hT : ∀ q ∈ T, q.1 < s.heap.size ∧ ¬ va_A wc sz q.1 := fun q hq => by
      have hl := (hP' q (hp.mem_iff.mpr (List.mem_append_right _ hq))).lt
      refine ⟨hl, fun z => ?_⟩
      rcases va_A_mem.mp z with ⟨e, z⟩ | z
      · exact d3 _ z q hq rfl
      · omega
    refine ⟨⟨r', u, ho, hr, va_P_mem.mpr fun q hq => ?_, va_D_pw.mpr ⟨?_, fun q hq => ?_⟩⟩, hF.1, fun q h1 h2 => hF.2 q h1 (fun z => h2 (hsub q z))⟩
    · rcases List.mem_append.mp ((hp2 u).mem_iff.mp hq) with z | z
      · exact va_P_mem.mp hPw q z
      · obtain ⟨g1, g2⟩ := hT q z
        exact (hP' q (hp.mem_iff.mpr (List.mem_append_right _ z))).kept (hF.2 q.1 g1 g2)
    · refine ((hp2 u).pairwise_iff (fun h => Ne.symm h)).mpr (List.pairwise_append.mpr ⟨hDw'.1, d2, fun x hx q hq e => ?_⟩)
      exact (hT q hq).2 (by rw [← e]; exact hDw'.2 x hx)
    · rcases List.mem_append.mp ((hp2 u).mem_iff.mp hq) with z | z
      · exact hsub _ (hDw'.2 q z)
      · exact va_A_mem.mpr (Or.inl ⟨q.2, hp.mem_iff.mpr (List.mem_append_right _ z)⟩)
theorem va_D_fst {A : Nat → Prop} {w w' : va_W} (h : w'.map Prod.fst = w.map Prod.fst) (hD : va_D A w) : va_D A w' := by
  have hD' := va_D_pw.mp hD
  refine va_D_pw.mpr ⟨?_, fun q hq => ?_⟩
  · have h1 : (w.map Prod.fst).Pairwise (fun a b => a ≠ b) := List.pairwise_map.mpr hD'.1
    rw [← h] at h1
    exact List.pairwise_map.mp h1
  · have h1 : q.1 ∈ w'.map Prod.fst := List.mem_map.mpr ⟨q, hq, rfl⟩
    rw [h] at h1
    obtain ⟨x, hx, e⟩ := List.mem_map.mp h1
    rw [← e]
    exact hD'.2 x hx
section LWF
variable {p : Program} {l : Launch} {e : Env} {R : Room} {s : State} {m : MethodId} {args : Array Value} {below : List Frame} {meth : Method} {c : Code} {H H0 : Heap} {locs : List Loc} {cells slots : Nat} {Q : State → Prop}
variable {D : va_G} {cI cZ cP : ClassId} {A : Nat → Prop} {w : va_W} {S : Type} {w2 : S → va_W} {r : Int32} {pc mc ms : Nat} {ls : Array Slot} {st0 rest : List Value} {a : Array Value}
theorem fr_all_i {c2 s2 : Nat} (hr : va_Run p l e R s m args below meth c H locs cells slots mc ms (F0 m pc ls st0) rest (va_Qi (fun (r' : Int32) (_ : S) => r' = r) (BX D w w2 H.size) (va_A w H.size) a) (va_A w H.size))
    (hD : va_D A w) (hS : va_S A H0 H locs) (hA : ∀ q, H0.size ≤ q → A q) (hc2 : cells + mc ≤ c2) (hs2 : slots + ms ≤ s2)
    (kk : ∀ (u : S) (H1 : Heap) (locs1 : List Loc), va_P D vwCl (w2 u) H1 → va_D A (w2 u) → va_S A H0 H1 locs1 → W p l e R s m args below meth c H1 locs1 c2 s2 Q (F0 m (pc + 3) ls (.int r :: rest))) : W p l e R s m args below meth c H locs cells slots Q (F0 m pc ls st0) := by
  have hF : ∀ q, va_A w H.size q → A q := fun q h => by
    rcases h with ⟨k, x, h⟩ | h
    · exact hD.2 k _ h
    · exact hA q (Nat.le_trans hS.1 h)
  refine va_calli hr hS (fun q _ h => hF q h) hF (fun r1 u t H1 locs ht hvm hw hB hz1 hk1 hS => ?_)
  obtain ⟨hP1, hD1⟩ := hB
  rw [ht] at hP1
  subst hw
  refine W.widen hc2 hs2 ?_
  exact kk u H1 locs hP1 (hD1.weaken (fun _ q _ h => hF q.1 h)) hS
theorem fr_preW {As : List Value} {b ci : Nat} {C : String} {T : u_T} {N : Nat} {fs : List Value} (hK : va_K D vwCl (kTy cI cZ cP) s) (hN : Nx s) (hP : va_P D vwCl w H) (hD : va_D A w) (hc : vwCl[ci]? = some (C, T, N)) (he : (b, (.inr (ci, fs) : va_E)) ∈ w) : PreV s H C b (PreX D cI cZ cP (.ref b :: As) w H.size) As := by
  obtain ⟨q0, h0⟩ := List.mem_iff_getElem?.mp he
  exact ⟨preX_blind, va_recv hK hP hc h0, fun U hU hW => ⟨rfl, by rw [hU], by rw [hU]; exact hP, Kx.warm hW ⟨hK, hN⟩, hD.weaken (fun _ _ _ _ => trivial)⟩⟩
variable {y : MethodName} {ws ws' : List Cond} {rm : Room} {cc bytes : ByteArray} {nL maxL n index : Nat} {Ts : List Cond} {own : String} {b : Nat} {As : List Value} {wc : va_W} {wc' : S → va_W}
theorem fr_I (S0 : CallFix p m c cc nL s args Ts own) (hM : CtV l D cI cZ cP y ws rm (.ref b :: As) wc wc') (hG : GoodIn Ts ws) (hw : ws = Cond.code y bytes maxL none :: ws') (hini : Cond.initialized y.cls ∈ Ts) (hl : Cond.methodLink own index y ∈ Ts) (him : Cond.instanceMethod y ∈ Ts) (hnm : y.name = "<init>") (hp : PreS s H (PreX D cI cZ cP (.ref b :: As) wc H.size) (.ref b :: As))
    (hd : y.cls ≠ "java/lang/invoke/MethodHandle" ∧ y.cls ≠ "java/lang/invoke/VarHandle" ∧ (parseMethodDescriptor y.desc).map (fun d => d.parameters.length) = some n) (hR : rm.frames + 1 ≤ R.frames ∧ 8 + (maxL + 11) + rm.locals ≤ R.locals) (hn : As.length = n)
    (hsize : ls.size = nL) (hst : st0 = As.reverse ++ .ref b :: rest) (hcat : (rest.map fun v => v.category).sum ≤ 8) (hdg : decode cc pc = .ok (.invokespecial index, 3)) (hf : cells + rm.cells ≤ R.cells ∧ slots + rm.slots ≤ R.slots) :
    va_Run p l e R s m args below meth c H locs cells slots rm.cells rm.slots (F0 m pc ls st0) rest (va_Qv (fun (_ : S) => True) (BX D wc wc' H.size) (va_A wc H.size) (Value.ref b :: As).toArray) (va_A wc H.size) :=
  va_runI S0 (hM H.size) (cwI n S0.2.2.2.2 hG hw rfl rfl (S0.2.2.2.2 _ hini) (S0.2.2.2.2 _ hl) (S0.2.2.2.2 _ him) hnm hd hR) hp rfl hn hsize hst (lv_room hcat) hdg hf
end LWF
/-- a picture's cells, at the addresses a 0, a 1 .. -/
def pW (cI : ClassId) (a : Nat → Nat) (mo : Int32) (sh : Int32) (kn : Int32) (kd : Ar) (ks : Ar) (cn : Int32) (cd : Ar) (va : Int32) (co : Int32) (bi : Int32) (ph : Int32) (pr : Ar) (ho : Ar) (he : Ar) (st : Ar) (pb : Ar) (ps : Ar) : va_W := [((a 0), .inr (3, [.int mo, .int sh, .ref (a 1), .ref (a 4), .ref (a 6)])), ((a 1), .inr (2, [.int kn, .ref (a 2), .ref (a 3)])), ((a 2), .inl (cI, 8, .inl kd)), ((a 3), .inl (cI, 8, .inl ks)), ((a 4), .inr (1, [.int cn, .ref (a 5)])), ((a 5), .inl (cI, 12, .inl cd)), ((a 6), .inr (4, [.int va, .int co, .int bi, .int ph, .ref (a 7), .ref (a 8), .ref (a 9), .ref (a 10), .ref (a 11), .ref (a 12)])), ((a 7), .inl (cI, 16, .inl pr)), ((a 8), .inl (cI, 16, .inl ho)), ((a 9), .inl (cI, 16, .inl he)), ((a 10), .inl (cI, 16, .inl st)), ((a 11), .inl (cI, 16, .inl pb)), ((a 12), .inl (cI, 16, .inl ps))]
/-- the class's cells (but for its images) -/
def cW (cI cP : ClassId) (aX aI aB aW : Nat) (a : Nat → Nat) (Im : Nat → Option Nat) (Sl : Int32) (Wo : Ar) (mo : Int32) (sh : Int32) (kn : Int32) (kd : Ar) (ks : Ar) (cn : Int32) (cd : Ar) (va : Int32) (co : Int32) (bi : Int32) (ph : Int32) (pr : Ar) (ho : Ar) (he : Ar) (st : Ar) (pb : Ar) (ps : Ar) : va_W := [(aX, .inr (5, [.ref aB, .ref (a 0), .ref aI])), (aI, .inl (cP, 2, .inr (.inr (.inr (.inr Im))))), (aB, .inr (0, [.ref (a 0), .ref (a 6), .ref aW, .int Sl])), (aW, .inl (cI, 256, .inl Wo)), ((a 0), .inr (3, [.int mo, .int sh, .ref (a 1), .ref (a 4), .ref (a 6)])), ((a 1), .inr (2, [.int kn, .ref (a 2), .ref (a 3)])), ((a 2), .inl (cI, 8, .inl kd)), ((a 3), .inl (cI, 8, .inl ks)), ((a 4), .inr (1, [.int cn, .ref (a 5)])), ((a 5), .inl (cI, 12, .inl cd)), ((a 6), .inr (4, [.int va, .int co, .int bi, .int ph, .ref (a 7), .ref (a 8), .ref (a 9), .ref (a 10), .ref (a 11), .ref (a 12)])), ((a 7), .inl (cI, 16, .inl pr)), ((a 8), .inl (cI, 16, .inl ho)), ((a 9), .inl (cI, 16, .inl he)), ((a 10), .inl (cI, 16, .inl st)), ((a 11), .inl (cI, 16, .inl pb)), ((a 12), .inl (cI, 16, .inl ps))]
/-- the reference's cells -/
def mW (cI cZ : ClassId) (aM : Nat) (a : Nat → Nat) (ka iw : Int32) (N kd ks cd pr sk ho he st pb ps ke ik : Ar) : va_W := [(aM, .inr (6, [.ref (a 0), .ref (a 1), .ref (a 2), .ref (a 3), .ref (a 4), .ref (a 5), .ref (a 6), .ref (a 7), .ref (a 8), .ref (a 9), .ref (a 10), .ref (a 11), .ref (a 12), .int ka, .int iw])), ((a 0), .inl (cI, 9, .inl N)), ((a 1), .inl (cI, 8, .inl kd)), ((a 2), .inl (cI, 8, .inl ks)), ((a 3), .inl (cI, 12, .inl cd)), ((a 4), .inl (cI, 16, .inl pr)), ((a 5), .inl (cI, 16, .inl sk)), ((a 6), .inl (cI, 16, .inl ho)), ((a 7), .inl (cI, 16, .inl he)), ((a 8), .inl (cI, 16, .inl st)), ((a 9), .inl (cI, 16, .inl pb)), ((a 10), .inl (cI, 16, .inl ps)), ((a 11), .inl (cI, 298, .inl ke)), ((a 12), .inl (cZ, 2, .inl ik))]
/-- an image, on both sides -/
def ImR (B : Int) (cI : ClassId) (o : Nat) (im : Option Nat) (ikk : Int32) (ke : Ar) (t : va_W) : Prop := (im = none ∧ ikk = 0 ∧ t = []) ∨
  (ikk = 1 ∧ ∃ (a : Nat → Nat) (mo : Int32) (sh : Int32) (kn : Int32) (kd : Ar) (ks : Ar) (cn : Int32) (cd : Ar) (va : Int32) (co : Int32) (bi : Int32) (ph : Int32) (pr : Ar) (ho : Ar) (he : Ar) (st : Ar) (pb : Ar) (ps : Ar) (N sk : Ar), im = some (a 0) ∧ t = pW cI a mo sh kn kd ks cn cd va co bi ph pr ho he st pb ps ∧ RelP B mo sh kn kd ks cn cd va co bi ph pr ho he N sk ∧ KRel o ke N kd ks cd pr sk ho he st pb ps)
theorem ImR.mono {B B' : Int} {cI : ClassId} {o : Nat} {im : Option Nat} {ikk : Int32} {ke : Ar} {t : va_W} (h : ImR B cI o im ikk ke t) (hB : B ≤ B') : ImR B' cI o im ikk ke t := by
  rcases h with h | ⟨h1, a, mo, sh, kn, kd, ks, cn, cd, va, co, bi, ph, pr, ho, he, st, pb, ps, N, sk, h2, h3, h4, h5⟩
  · exact Or.inl h
  · exact Or.inr ⟨h1, a, mo, sh, kn, kd, ks, cn, cd, va, co, bi, ph, pr, ho, he, st, pb, ps, N, sk, h2, h3, h4.mono hB, h5⟩
theorem KRel.kept {o : Nat} {ke ke' N kd ks cd pr sk ho he st pb ps : Ar} (h : KRel o ke N kd ks cd pr sk ho he st pb ps) (hk : ∀ q, o ≤ q → q < o + 149 → ke' q = ke q) : KRel o ke' N kd ks cd pr sk ho he st pb ps := by
  obtain ⟨h1, h2, h3, h4, h5, h6, h7, h8, h9, h10, h11⟩ := h
  refine ⟨fun j hj => ?_, fun j hj => ?_, fun j hj => ?_, fun j hj => ?_, fun j hj => ?_, fun j hj => ?_, fun j hj => ?_, fun j hj => ?_, fun j hj => ?_, fun j hj => ?_, fun j hj => ?_⟩
  · rw [hk _ (by omega) (by omega)]; exact h1 j hj
  · rw [hk _ (by omega) (by omega)]; exact h2 j hj
  · rw [hk _ (by omega) (by omega)]; exact h3 j hj
  · rw [hk _ (by omega) (by omega)]; exact h4 j hj
  · rw [hk _ (by omega) (by omega)]; exact h5 j hj
  · rw [hk _ (by omega) (by omega)]; exact h6 j hj
  · rw [hk _ (by omega) (by omega)]; exact h7 j hj
  · rw [hk _ (by omega) (by omega)]; exact h8 j hj
  · rw [hk _ (by omega) (by omega)]; exact h9 j hj
  · rw [hk _ (by omega) (by omega)]; exact h10 j hj
  · rw [hk _ (by omega) (by omega)]; exact h11 j hj
theorem ImR.kept {B : Int} {cI : ClassId} {o : Nat} {im : Option Nat} {ikk : Int32} {ke ke' : Ar} {t : va_W} (h : ImR B cI o im ikk ke t) (hk : ∀ q, o ≤ q → q < o + 149 → ke' q = ke q) : ImR B cI o im ikk ke' t := by
  rcases h with h | ⟨h1, a, mo, sh, kn, kd, ks, cn, cd, va, co, bi, ph, pr, ho, he, st, pb, ps, N, sk, h2, h3, h4, h5⟩
  · exact Or.inl h
  · exact Or.inr ⟨h1, a, mo, sh, kn, kd, ks, cn, cd, va, co, bi, ph, pr, ho, he, st, pb, ps, N, sk, h2, h3, h4, h5.kept hk⟩
def BK (k : Nat) : Int := 340000 + 21000 * (k : Int)
theorem BK_mono {k : Nat} : BK k ≤ BK (k + 1) := by unfold BK; omega
/-- class and reference after k calls -/
def LI (cI cZ cP : ClassId) (k aX aM : Nat) (w : va_W) : Prop := ∃ (aI aB aW : Nat) (ad : Nat → Nat) (Im : Nat → Option Nat) (Sl : Int32) (Wo : Ar) (mo : Int32) (sh : Int32) (kn : Int32) (kd : Ar) (ks : Ar) (cn : Int32) (cd : Ar) (va : Int32) (co : Int32) (bi : Int32) (ph : Int32) (pr : Ar) (ho : Ar) (he : Ar) (st : Ar) (pb : Ar) (ps : Ar) (am : Nat → Nat) (ka iw : Int32) (N sk ke ik : Ar) (t0 t1 : va_W),
  w = cW cI cP aX aI aB aW ad Im Sl Wo mo sh kn kd ks cn cd va co bi ph pr ho he st pb ps ++ (t0 ++ t1) ++ mW cI cZ aM am ka iw N kd ks cd pr sk ho he st pb ps ke ik ∧ RelP (BK k) mo sh kn kd ks cn cd va co bi ph pr ho he N sk ∧ ImR (BK k) cI 0 (Im 0) (ik 0) ke t0 ∧ ImR (BK k) cI 149 (Im 1) (ik 1) ke t1
def OpOK (l : Launch) (D : va_G) (cI cZ cP : ClassId) (yc : MethodName) (wsc : List Cond) (ym : MethodName) (wsm : List Cond) (Ac Am : List Value) (k aX aM : Nat) (w : va_W) : Prop := ∃ (r : Int32) (rc rmm : Room) (S : Type) (w1 : S → va_W), (rc.frames ≤ 7 ∧ rc.locals ≤ 250 ∧ rc.cells ≤ 13 ∧ rc.slots ≤ 144) ∧ (rmm.frames ≤ 7 ∧ rmm.locals ≤ 250 ∧ rmm.cells = 0 ∧ rmm.slots = 0) ∧ CtI l D cI cZ cP yc wsc rc Ac w w1 r ∧ (∀ u, (∃ fs, (aM, (.inr (6, fs) : va_E)) ∈ w1 u)) ∧
  ∀ u, ∃ w2 : va_W, CtI l D cI cZ cP ym wsm rmm Am (w1 u) (fun _ : Unit => w2) r ∧ ∃ w3 : va_W, (∀ H, va_P D vwCl w2 H → va_P D vwCl w3 H) ∧ w3.map Prod.fst = w2.map Prod.fst ∧ LI cI cZ cP (k + 1) aX aM w3
