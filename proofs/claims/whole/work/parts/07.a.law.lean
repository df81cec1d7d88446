/-! THE CLAIM OUT OF ONE WALK OF THE LAW'S BODY. Your part is whole_start (and what it stands on); all else here is the same for every law, but numbers. -/
def R_law : String := "BidMosaicLaw"
def lw_P (b : Addr) (xs : List Int32) (args : Array Value) (s : State) : Prop := args = #[.ref b] ∧ s.IntsAt b xs ∧ xs.length ≤ 1536 ∧ (Jvm.Cond.and given_1 narrow_1).before args s = true
def lw_Q (_ : Array Value) (s : State) (o : Outcome) (t : State) : Prop := o = .returned (some (.int 1)) ∧ Framed s o t [] 600000 7302250
def lw_Z (below : List Frame) (a : Array Value) (s : State) : State → Prop := fun t => ∃ o, t.status = .running ∧ Ended t below o ∧ lw_Q a s o t
/-- the law's own end, with 1 on the stack, nothing written that was there before, its room as the claim has it -/
theorem lw_ret {p : Program} {l : Launch} {e : Env} {s : State} {m : MethodId} {below : List Frame} {meth : Method} {c : Code} {b : Nat} (hx : p.tables.exec = Jvm.exec) (hb : c.code = code) (hr : meth.sig.returnType = ret) (hlocks : meth.locks = false) {pc : Nat} {H : Heap} {ls : Array Slot} (hdg : decode code pc = .ok (.ireturn, 1)) : W p l e room_1 s m #[Value.ref b] below meth c H [] 600000 7302250 (lw_Z below #[Value.ref b] s) (F0 m pc ls [.int 1]) := by
  intro T hT X
  obtain ⟨fs, hret, hrun, hended, hW, hframe⟩ := X.leave (v := some (.int 1)) (hlocks := hlocks) (fun h => by rw [hr] at h; cases h)
  have hmeth' : T.vm.method? m = some meth := X.method'
  refine ⟨T.setFrames fs, ?_, .returned (some (.int 1)), hrun, hended, rfl, ⟨_, rfl⟩, hW, hframe⟩
  jvm_step X.here [X.here.top, hx, hb, hdg, hmeth', hr, ret, narrow_b1]
  (try refine ⟨rfl, ?_⟩); (try refine ⟨rfl, ?_⟩)
  first | (intro acts; rw [hret _ acts rfl rfl rfl]) | rw [hret _ _ rfl rfl rfl]
  exact Steps.refl _
/-- what holds at the law's entry: the machine, the code, the tables' words (any of lw_tbl by 'hts w (by decide +kernel)'), the script of L ints xs at the cell b, what the Statement gives of the start (any of its parts by flat_of_before) -/
def lw_At (p : Program) (s : State) (m : MethodId) (meth : Method) (c : Code) (b L : Nat) (xs : Nat → Int32) : Prop :=
  p.tables.exec = Jvm.exec ∧ c.code = code ∧ meth.sig.returnType = ret ∧ c.maxLocals = 4 ∧ s.vm.findClass R_law = some m.cls ∧ (∀ w ∈ lw_tbl, w.before #[Value.ref b] s = true) ∧ va_X b L xs s s.heap ∧ b < s.heap.size ∧ meth.locks = false ∧ (Jvm.Cond.and given_1 narrow_1).before #[Value.ref b] s = true
theorem LI.hasX {cI cZ cP : ClassId} {k aX aM : Nat} {w : va_W} (h : LI cI cZ cP k aX aM w) : ∃ fs, (aX, (.inr (5, fs) : va_E)) ∈ w := by
  obtain ⟨aI, aB, aW, ad, Im, Sl, Wo, mo, sh, kn, kd, ks, cn, cd, va, co, bi, ph, pr, ho, he, st, pb, ps, am, ka, iw, N, sk, ke, ik, t0, t1, rfl, -⟩ := h
  exact ⟨_, List.mem_append_left _ (List.mem_append_left _ (List.mem_of_getElem? (i := 0) rfl))⟩
theorem LI.mono {cI cZ cP : ClassId} {k aX aM : Nat} {w : va_W} (h : LI cI cZ cP k aX aM w) : LI cI cZ cP (k + 1) aX aM w := by
  obtain ⟨aI, aB, aW, ad, Im, Sl, Wo, mo, sh, kn, kd, ks, cn, cd, va, co, bi, ph, pr, ho, he, st, pb, ps, am, ka, iw, N, sk, ke, ik, t0, t1, h1, h2, h3, h4⟩ := h
  exact ⟨aI, aB, aW, ad, Im, Sl, Wo, mo, sh, kn, kd, ks, cn, cd, va, co, bi, ph, pr, ho, he, st, pb, ps, am, ka, iw, N, sk, ke, ik, t0, t1, h1, h2.mono BK_mono, h3.mono BK_mono, h4.mono BK_mono⟩
set_option maxHeartbeats 8000000 in
set_option maxRecDepth 100000 in
theorem law_mode {p : Program} {l : Launch} {e : Env} {s : State} {m : MethodId} {below : List Frame} {meth : Method} {c : Code} {D : va_G} {cI cZ cP : ClassId} {b L : Nat} {xs : Nat → Int32} (hL : L ≤ 1536) (C0 : lw_At p s m meth c b L xs) (hK : va_K D vwCl (kTy cI cZ cP) s) (hN : Nx s) {aX aM : Nat} {k : Nat} (hk : k ≤ 511) (hi : 3 * k + 3 ≤ L) (nxt : ∀ (w : va_W) (H : Heap) (locs : List Loc) (ls : Array Slot), LI cI cZ cP (k + 1) aX aM w → va_P D vwCl w H → va_D (fun q : Nat => s.heap.size ≤ q) w → va_S (fun q : Nat => s.heap.size ≤ q) s.heap H locs → lv_has ls 4 [(0, .ref b), (1, .ref aX), (2, .ref aM), (3, .int (nI (3 * (k + 1))))] → W p l e room_1 s m #[Value.ref b] below meth c H locs (31 + 13 * (k + 1)) (873 + 144 * (k + 1)) (lw_Z below #[Value.ref b] s) (F0 m 18 ls [])) : ∀ (w : va_W) (H : Heap) (locs : List Loc) (ls : Array Slot), LI cI cZ cP k aX aM w → va_P D vwCl w H → va_D (fun q : Nat => s.heap.size ≤ q) w → va_S (fun q : Nat => s.heap.size ≤ q) s.heap H locs → lv_has ls 4 [(0, .ref b), (1, .ref aX), (2, .ref aM), (3, .int (nI (3 * k)))] → W p l e room_1 s m #[Value.ref b] below meth c H locs (31 + 13 * k) (873 + 144 * k) (lw_Z below #[Value.ref b] s) (F0 m 128 ls []) := by
  obtain ⟨hx, hb, hr, hml, hown, hts0, hX, hbl, hlocks, hgv⟩ := id C0
  have hts : ∀ w ∈ wsL_law, w.before #[Value.ref b] s = true := fun w h => hts0 w (wsL_law_in w h)
  have hown : s.vm.findClass RL = some m.cls := hown
  have hb : c.code = cL_law := hb
  have hA : ∀ q : Nat, s.heap.size ≤ q → (fun q : Nat => s.heap.size ≤ q) q := fun _ h => h
  have hbA : ¬ (fun q : Nat => s.heap.size ≤ q) b := Nat.not_le.mpr hbl
  intro w H locs ls hLI hP hD hS hl
  have hin1 : vp_in (nI (3 * k) + (1 : Int32)) L := by rw [show nI (3 * k) + (1 : Int32) = nI (3 * k + 1) from nI_add (3 * k) 1]; exact vp_in_nI (by omega) (by omega)
  obtain ⟨r, rc, rmm, S, w1, ⟨f1, f2, f3, f4⟩, ⟨g1, g2, g3, g4⟩, hc, hmem, hm⟩ := op_mode (l := l) (D := D) (show k ≤ 512 by omega) hLI (xs (nI (3 * k) + (1 : Int32)).toNatClampNeg)
  obtain ⟨fs, hfs⟩ := hLI.hasX
  refine lv_aload_n hx hb dL_law_128 rfl (lv_at hl 1 rfl) ?_
  refine lv_aload_n hx hb dL_law_129 rfl (lv_at hl 0 rfl) ?_
  refine lv_iload_n hx hb dL_law_130 rfl (lv_at hl 3 rfl) ?_
  refine lv_iconst (v := (1 : Int32)) hx hb dL_law_131 (by decide) ?_
  refine lv_iadd hx hb dL_law_132 ?_
  refine va_sld hx hb hX hbl hbA hS hin1 dL_law_133 ?_
  refine fr_all_i (w := w) (w2 := w1) (c2 := 31 + 13 * (k + 1)) (s2 := 873 + 144 * (k + 1)) (fr_V (As := [.int (xs (nI (3 * k) + (1 : Int32)).toNatClampNeg)]) (rest := []) (C := RX5) ⟨hx, hb, hml, hown, hts⟩ hc gL_law_X5_mode rfl (fr_preW (ci := 5) (T := TX5) (N := 3) hK hN hP hD rfl hfs) (n := 1) (by decide +kernel) ⟨show rc.frames + 1 ≤ 9 by omega, show 8 + (3 + 11) + rc.locals ≤ 322 by omega⟩ rfl hl.1 rfl (Nat.le_of_ble_eq_true rfl) dL_law_134 ⟨show 31 + 13 * k + rc.cells ≤ 600000 by omega, show 873 + 144 * k + rc.slots ≤ 7302250 by omega⟩) hD hS hA (by omega) (by omega) (fun u H locs hP hD hS => ?_)
  obtain ⟨w2, hc2, w3, hw3, hfst, hLI2⟩ := hm u
  obtain ⟨fs2, hfs2⟩ := hmem u
  refine lv_aload_n hx hb dL_law_137 rfl (lv_at hl 2 rfl) ?_
  refine lv_aload_n hx hb dL_law_138 rfl (lv_at hl 0 rfl) ?_
  refine lv_iload_n hx hb dL_law_139 rfl (lv_at hl 3 rfl) ?_
  refine lv_iconst (v := (1 : Int32)) hx hb dL_law_140 (by decide) ?_
  refine lv_iadd hx hb dL_law_141 ?_
  refine va_sld hx hb hX hbl hbA hS hin1 dL_law_142 ?_
  refine fr_all_i (w := w1 u) (w2 := fun _ : Unit => w2) (c2 := 31 + 13 * (k + 1)) (s2 := 873 + 144 * (k + 1)) (fr_V (As := [.int (xs (nI (3 * k) + (1 : Int32)).toNatClampNeg)]) (rest := [.int r]) (C := RX6) ⟨hx, hb, hml, hown, hts⟩ hc2 gL_law_X6_mode rfl (fr_preW (ci := 6) (T := TX6) (N := 15) hK hN hP hD rfl hfs2) (n := 1) (by decide +kernel) ⟨show rmm.frames + 1 ≤ 9 by omega, show 8 + (3 + 11) + rmm.locals ≤ 322 by omega⟩ rfl hl.1 rfl (Nat.le_of_ble_eq_true rfl) dL_law_143 ⟨show 31 + 13 * (k + 1) + rmm.cells ≤ 600000 by omega, show 873 + 144 * (k + 1) + rmm.slots ≤ 7302250 by omega⟩) hD hS hA (by omega) (by omega) (fun _ H locs hP hD hS => ?_)
  refine lv_icmp_eq (tgt := 628) hx hb dL_law_146 (by decide) (fun _ => ?_) (fun z => absurd rfl z)
  refine lv_iinc (v := nI (3 * (k + 1))) (lv' := [(3, .int (nI (3 * (k + 1)))), (0, .ref b), (1, .ref aX), (2, .ref aM)]) hx hb dL_law_628 hl (k := 3) rfl (nI_add (3 * k) 3) (by decide) rfl (fun ls hl => ?_)
  refine lv_goto (tgt := 18) hx hb dL_law_631 (by decide) ?_
  exact nxt w3 H locs ls hLI2 (hw3 H hP) (va_D_fst hfst hD) hS (lv_sub hl [1, 2, 3, 0] rfl)
set_option maxHeartbeats 8000000 in
set_option maxRecDepth 100000 in
theorem law_shrink {p : Program} {l : Launch} {e : Env} {s : State} {m : MethodId} {below : List Frame} {meth : Method} {c : Code} {D : va_G} {cI cZ cP : ClassId} {b L : Nat} {xs : Nat → Int32} (hL : L ≤ 1536) (C0 : lw_At p s m meth c b L xs) (hK : va_K D vwCl (kTy cI cZ cP) s) (hN : Nx s) {aX aM : Nat} {k : Nat} (hk : k ≤ 511) (hi : 3 * k + 3 ≤ L) (nxt : ∀ (w : va_W) (H : Heap) (locs : List Loc) (ls : Array Slot), LI cI cZ cP (k + 1) aX aM w → va_P D vwCl w H → va_D (fun q : Nat => s.heap.size ≤ q) w → va_S (fun q : Nat => s.heap.size ≤ q) s.heap H locs → lv_has ls 4 [(0, .ref b), (1, .ref aX), (2, .ref aM), (3, .int (nI (3 * (k + 1))))] → W p l e room_1 s m #[Value.ref b] below meth c H locs (31 + 13 * (k + 1)) (873 + 144 * (k + 1)) (lw_Z below #[Value.ref b] s) (F0 m 18 ls [])) : ∀ (w : va_W) (H : Heap) (locs : List Loc) (ls : Array Slot), LI cI cZ cP k aX aM w → va_P D vwCl w H → va_D (fun q : Nat => s.heap.size ≤ q) w → va_S (fun q : Nat => s.heap.size ≤ q) s.heap H locs → lv_has ls 4 [(0, .ref b), (1, .ref aX), (2, .ref aM), (3, .int (nI (3 * k)))] → W p l e room_1 s m #[Value.ref b] below meth c H locs (31 + 13 * k) (873 + 144 * k) (lw_Z below #[Value.ref b] s) (F0 m 151 ls []) := by
  obtain ⟨hx, hb, hr, hml, hown, hts0, hX, hbl, hlocks, hgv⟩ := id C0
  have hts : ∀ w ∈ wsL_law, w.before #[Value.ref b] s = true := fun w h => hts0 w (wsL_law_in w h)
  have hown : s.vm.findClass RL = some m.cls := hown
  have hb : c.code = cL_law := hb
  have hA : ∀ q : Nat, s.heap.size ≤ q → (fun q : Nat => s.heap.size ≤ q) q := fun _ h => h
  have hbA : ¬ (fun q : Nat => s.heap.size ≤ q) b := Nat.not_le.mpr hbl
  intro w H locs ls hLI hP hD hS hl
  have hin1 : vp_in (nI (3 * k) + (1 : Int32)) L := by rw [show nI (3 * k) + (1 : Int32) = nI (3 * k + 1) from nI_add (3 * k) 1]; exact vp_in_nI (by omega) (by omega)
  obtain ⟨r, rc, rmm, S, w1, ⟨f1, f2, f3, f4⟩, ⟨g1, g2, g3, g4⟩, hc, hmem, hm⟩ := op_shrink (l := l) (D := D) (show k ≤ 512 by omega) hLI (xs (nI (3 * k) + (1 : Int32)).toNatClampNeg)
  obtain ⟨fs, hfs⟩ := hLI.hasX
  refine lv_aload_n hx hb dL_law_151 rfl (lv_at hl 1 rfl) ?_
  refine lv_aload_n hx hb dL_law_152 rfl (lv_at hl 0 rfl) ?_
  refine lv_iload_n hx hb dL_law_153 rfl (lv_at hl 3 rfl) ?_
  refine lv_iconst (v := (1 : Int32)) hx hb dL_law_154 (by decide) ?_
  refine lv_iadd hx hb dL_law_155 ?_
  refine va_sld hx hb hX hbl hbA hS hin1 dL_law_156 ?_
  refine fr_all_i (w := w) (w2 := w1) (c2 := 31 + 13 * (k + 1)) (s2 := 873 + 144 * (k + 1)) (fr_V (As := [.int (xs (nI (3 * k) + (1 : Int32)).toNatClampNeg)]) (rest := []) (C := RX5) ⟨hx, hb, hml, hown, hts⟩ hc gL_law_X5_shrink rfl (fr_preW (ci := 5) (T := TX5) (N := 3) hK hN hP hD rfl hfs) (n := 1) (by decide +kernel) ⟨show rc.frames + 1 ≤ 9 by omega, show 8 + (3 + 11) + rc.locals ≤ 322 by omega⟩ rfl hl.1 rfl (Nat.le_of_ble_eq_true rfl) dL_law_157 ⟨show 31 + 13 * k + rc.cells ≤ 600000 by omega, show 873 + 144 * k + rc.slots ≤ 7302250 by omega⟩) hD hS hA (by omega) (by omega) (fun u H locs hP hD hS => ?_)
  obtain ⟨w2, hc2, w3, hw3, hfst, hLI2⟩ := hm u
  obtain ⟨fs2, hfs2⟩ := hmem u
  refine lv_aload_n hx hb dL_law_160 rfl (lv_at hl 2 rfl) ?_
  refine lv_aload_n hx hb dL_law_161 rfl (lv_at hl 0 rfl) ?_
  refine lv_iload_n hx hb dL_law_162 rfl (lv_at hl 3 rfl) ?_
  refine lv_iconst (v := (1 : Int32)) hx hb dL_law_163 (by decide) ?_
  refine lv_iadd hx hb dL_law_164 ?_
  refine va_sld hx hb hX hbl hbA hS hin1 dL_law_165 ?_
  refine fr_all_i (w := w1 u) (w2 := fun _ : Unit => w2) (c2 := 31 + 13 * (k + 1)) (s2 := 873 + 144 * (k + 1)) (fr_V (As := [.int (xs (nI (3 * k) + (1 : Int32)).toNatClampNeg)]) (rest := [.int r]) (C := RX6) ⟨hx, hb, hml, hown, hts⟩ hc2 gL_law_X6_shrink rfl (fr_preW (ci := 6) (T := TX6) (N := 15) hK hN hP hD rfl hfs2) (n := 1) (by decide +kernel) ⟨show rmm.frames + 1 ≤ 9 by omega, show 8 + (3 + 11) + rmm.locals ≤ 322 by omega⟩ rfl hl.1 rfl (Nat.le_of_ble_eq_true rfl) dL_law_166 ⟨show 31 + 13 * (k + 1) + rmm.cells ≤ 600000 by omega, show 873 + 144 * (k + 1) + rmm.slots ≤ 7302250 by omega⟩) hD hS hA (by omega) (by omega) (fun _ H locs hP hD hS => ?_)
  refine lv_icmp_eq (tgt := 628) hx hb dL_law_169 (by decide) (fun _ => ?_) (fun z => absurd rfl z)
  refine lv_iinc (v := nI (3 * (k + 1))) (lv' := [(3, .int (nI (3 * (k + 1)))), (0, .ref b), (1, .ref aX), (2, .ref aM)]) hx hb dL_law_628 hl (k := 3) rfl (nI_add (3 * k) 3) (by decide) rfl (fun ls hl => ?_)
  refine lv_goto (tgt := 18) hx hb dL_law_631 (by decide) ?_
  exact nxt w3 H locs ls hLI2 (hw3 H hP) (va_D_fst hfst hD) hS (lv_sub hl [1, 2, 3, 0] rfl)
set_option maxHeartbeats 8000000 in
set_option maxRecDepth 100000 in
theorem law_stock {p : Program} {l : Launch} {e : Env} {s : State} {m : MethodId} {below : List Frame} {meth : Method} {c : Code} {D : va_G} {cI cZ cP : ClassId} {b L : Nat} {xs : Nat → Int32} (hL : L ≤ 1536) (C0 : lw_At p s m meth c b L xs) (hK : va_K D vwCl (kTy cI cZ cP) s) (hN : Nx s) {aX aM : Nat} {k : Nat} (hk : k ≤ 511) (hi : 3 * k + 3 ≤ L) (nxt : ∀ (w : va_W) (H : Heap) (locs : List Loc) (ls : Array Slot), LI cI cZ cP (k + 1) aX aM w → va_P D vwCl w H → va_D (fun q : Nat => s.heap.size ≤ q) w → va_S (fun q : Nat => s.heap.size ≤ q) s.heap H locs → lv_has ls 4 [(0, .ref b), (1, .ref aX), (2, .ref aM), (3, .int (nI (3 * (k + 1))))] → W p l e room_1 s m #[Value.ref b] below meth c H locs (31 + 13 * (k + 1)) (873 + 144 * (k + 1)) (lw_Z below #[Value.ref b] s) (F0 m 18 ls [])) : ∀ (w : va_W) (H : Heap) (locs : List Loc) (ls : Array Slot), LI cI cZ cP k aX aM w → va_P D vwCl w H → va_D (fun q : Nat => s.heap.size ≤ q) w → va_S (fun q : Nat => s.heap.size ≤ q) s.heap H locs → lv_has ls 4 [(0, .ref b), (1, .ref aX), (2, .ref aM), (3, .int (nI (3 * k)))] → W p l e room_1 s m #[Value.ref b] below meth c H locs (31 + 13 * k) (873 + 144 * k) (lw_Z below #[Value.ref b] s) (F0 m 174 ls []) := by
  obtain ⟨hx, hb, hr, hml, hown, hts0, hX, hbl, hlocks, hgv⟩ := id C0
  have hts : ∀ w ∈ wsL_law, w.before #[Value.ref b] s = true := fun w h => hts0 w (wsL_law_in w h)
  have hown : s.vm.findClass RL = some m.cls := hown
  have hb : c.code = cL_law := hb
  have hA : ∀ q : Nat, s.heap.size ≤ q → (fun q : Nat => s.heap.size ≤ q) q := fun _ h => h
  have hbA : ¬ (fun q : Nat => s.heap.size ≤ q) b := Nat.not_le.mpr hbl
  intro w H locs ls hLI hP hD hS hl
  have hin1 : vp_in (nI (3 * k) + (1 : Int32)) L := by rw [show nI (3 * k) + (1 : Int32) = nI (3 * k + 1) from nI_add (3 * k) 1]; exact vp_in_nI (by omega) (by omega)
  have hin2 : vp_in (nI (3 * k) + (2 : Int32)) L := by rw [show nI (3 * k) + (2 : Int32) = nI (3 * k + 2) from nI_add (3 * k) 2]; exact vp_in_nI (by omega) (by omega)
  obtain ⟨r, rc, rmm, S, w1, ⟨f1, f2, f3, f4⟩, ⟨g1, g2, g3, g4⟩, hc, hmem, hm⟩ := op_stock (l := l) (D := D) (show k ≤ 512 by omega) hLI (xs (nI (3 * k) + (1 : Int32)).toNatClampNeg) (xs (nI (3 * k) + (2 : Int32)).toNatClampNeg)
  obtain ⟨fs, hfs⟩ := hLI.hasX
  refine lv_aload_n hx hb dL_law_174 rfl (lv_at hl 1 rfl) ?_
  refine lv_aload_n hx hb dL_law_175 rfl (lv_at hl 0 rfl) ?_
  refine lv_iload_n hx hb dL_law_176 rfl (lv_at hl 3 rfl) ?_
  refine lv_iconst (v := (1 : Int32)) hx hb dL_law_177 (by decide) ?_
  refine lv_iadd hx hb dL_law_178 ?_
  refine va_sld hx hb hX hbl hbA hS hin1 dL_law_179 ?_
  refine lv_aload_n hx hb dL_law_180 rfl (lv_at hl 0 rfl) ?_
  refine lv_iload_n hx hb dL_law_181 rfl (lv_at hl 3 rfl) ?_
  refine lv_iconst (v := (2 : Int32)) hx hb dL_law_182 (by decide) ?_
  refine lv_iadd hx hb dL_law_183 ?_
  refine va_sld hx hb hX hbl hbA hS hin2 dL_law_184 ?_
  refine fr_all_i (w := w) (w2 := w1) (c2 := 31 + 13 * (k + 1)) (s2 := 873 + 144 * (k + 1)) (fr_V (As := [.int (xs (nI (3 * k) + (1 : Int32)).toNatClampNeg), .int (xs (nI (3 * k) + (2 : Int32)).toNatClampNeg)]) (rest := []) (C := RX5) ⟨hx, hb, hml, hown, hts⟩ hc gL_law_X5_stock rfl (fr_preW (ci := 5) (T := TX5) (N := 3) hK hN hP hD rfl hfs) (n := 2) (by decide +kernel) ⟨show rc.frames + 1 ≤ 9 by omega, show 8 + (3 + 11) + rc.locals ≤ 322 by omega⟩ rfl hl.1 rfl (Nat.le_of_ble_eq_true rfl) dL_law_185 ⟨show 31 + 13 * k + rc.cells ≤ 600000 by omega, show 873 + 144 * k + rc.slots ≤ 7302250 by omega⟩) hD hS hA (by omega) (by omega) (fun u H locs hP hD hS => ?_)
  obtain ⟨w2, hc2, w3, hw3, hfst, hLI2⟩ := hm u
  obtain ⟨fs2, hfs2⟩ := hmem u
  refine lv_aload_n hx hb dL_law_188 rfl (lv_at hl 2 rfl) ?_
  refine lv_aload_n hx hb dL_law_189 rfl (lv_at hl 0 rfl) ?_
  refine lv_iload_n hx hb dL_law_190 rfl (lv_at hl 3 rfl) ?_
  refine lv_iconst (v := (1 : Int32)) hx hb dL_law_191 (by decide) ?_
  refine lv_iadd hx hb dL_law_192 ?_
  refine va_sld hx hb hX hbl hbA hS hin1 dL_law_193 ?_
  refine lv_aload_n hx hb dL_law_194 rfl (lv_at hl 0 rfl) ?_
  refine lv_iload_n hx hb dL_law_195 rfl (lv_at hl 3 rfl) ?_
  refine lv_iconst (v := (2 : Int32)) hx hb dL_law_196 (by decide) ?_
  refine lv_iadd hx hb dL_law_197 ?_
  refine va_sld hx hb hX hbl hbA hS hin2 dL_law_198 ?_
  refine fr_all_i (w := w1 u) (w2 := fun _ : Unit => w2) (c2 := 31 + 13 * (k + 1)) (s2 := 873 + 144 * (k + 1)) (fr_V (As := [.int (xs (nI (3 * k) + (1 : Int32)).toNatClampNeg), .int (xs (nI (3 * k) + (2 : Int32)).toNatClampNeg)]) (rest := [.int r]) (C := RX6) ⟨hx, hb, hml, hown, hts⟩ hc2 gL_law_X6_stock rfl (fr_preW (ci := 6) (T := TX6) (N := 15) hK hN hP hD rfl hfs2) (n := 2) (by decide +kernel) ⟨show rmm.frames + 1 ≤ 9 by omega, show 8 + (5 + 11) + rmm.locals ≤ 322 by omega⟩ rfl hl.1 rfl (Nat.le_of_ble_eq_true rfl) dL_law_199 ⟨show 31 + 13 * (k + 1) + rmm.cells ≤ 600000 by omega, show 873 + 144 * (k + 1) + rmm.slots ≤ 7302250 by omega⟩) hD hS hA (by omega) (by omega) (fun _ H locs hP hD hS => ?_)
  refine lv_icmp_eq (tgt := 628) hx hb dL_law_202 (by decide) (fun _ => ?_) (fun z => absurd rfl z)
  refine lv_iinc (v := nI (3 * (k + 1))) (lv' := [(3, .int (nI (3 * (k + 1)))), (0, .ref b), (1, .ref aX), (2, .ref aM)]) hx hb dL_law_628 hl (k := 3) rfl (nI_add (3 * k) 3) (by decide) rfl (fun ls hl => ?_)
  refine lv_goto (tgt := 18) hx hb dL_law_631 (by decide) ?_
  exact nxt w3 H locs ls hLI2 (hw3 H hP) (va_D_fst hfst hD) hS (lv_sub hl [1, 2, 3, 0] rfl)
set_option maxHeartbeats 8000000 in
set_option maxRecDepth 100000 in
theorem law_drop {p : Program} {l : Launch} {e : Env} {s : State} {m : MethodId} {below : List Frame} {meth : Method} {c : Code} {D : va_G} {cI cZ cP : ClassId} {b L : Nat} {xs : Nat → Int32} (hL : L ≤ 1536) (C0 : lw_At p s m meth c b L xs) (hK : va_K D vwCl (kTy cI cZ cP) s) (hN : Nx s) {aX aM : Nat} {k : Nat} (hk : k ≤ 511) (hi : 3 * k + 3 ≤ L) (nxt : ∀ (w : va_W) (H : Heap) (locs : List Loc) (ls : Array Slot), LI cI cZ cP (k + 1) aX aM w → va_P D vwCl w H → va_D (fun q : Nat => s.heap.size ≤ q) w → va_S (fun q : Nat => s.heap.size ≤ q) s.heap H locs → lv_has ls 4 [(0, .ref b), (1, .ref aX), (2, .ref aM), (3, .int (nI (3 * (k + 1))))] → W p l e room_1 s m #[Value.ref b] below meth c H locs (31 + 13 * (k + 1)) (873 + 144 * (k + 1)) (lw_Z below #[Value.ref b] s) (F0 m 18 ls [])) : ∀ (w : va_W) (H : Heap) (locs : List Loc) (ls : Array Slot), LI cI cZ cP k aX aM w → va_P D vwCl w H → va_D (fun q : Nat => s.heap.size ≤ q) w → va_S (fun q : Nat => s.heap.size ≤ q) s.heap H locs → lv_has ls 4 [(0, .ref b), (1, .ref aX), (2, .ref aM), (3, .int (nI (3 * k)))] → W p l e room_1 s m #[Value.ref b] below meth c H locs (31 + 13 * k) (873 + 144 * k) (lw_Z below #[Value.ref b] s) (F0 m 207 ls []) := by
  obtain ⟨hx, hb, hr, hml, hown, hts0, hX, hbl, hlocks, hgv⟩ := id C0
  have hts : ∀ w ∈ wsL_law, w.before #[Value.ref b] s = true := fun w h => hts0 w (wsL_law_in w h)
  have hown : s.vm.findClass RL = some m.cls := hown
  have hb : c.code = cL_law := hb
  have hA : ∀ q : Nat, s.heap.size ≤ q → (fun q : Nat => s.heap.size ≤ q) q := fun _ h => h
  have hbA : ¬ (fun q : Nat => s.heap.size ≤ q) b := Nat.not_le.mpr hbl
  intro w H locs ls hLI hP hD hS hl
  have hin1 : vp_in (nI (3 * k) + (1 : Int32)) L := by rw [show nI (3 * k) + (1 : Int32) = nI (3 * k + 1) from nI_add (3 * k) 1]; exact vp_in_nI (by omega) (by omega)
  obtain ⟨r, rc, rmm, S, w1, ⟨f1, f2, f3, f4⟩, ⟨g1, g2, g3, g4⟩, hc, hmem, hm⟩ := op_drop (l := l) (D := D) (show k ≤ 512 by omega) hLI (xs (nI (3 * k) + (1 : Int32)).toNatClampNeg)
  obtain ⟨fs, hfs⟩ := hLI.hasX
  refine lv_aload_n hx hb dL_law_207 rfl (lv_at hl 1 rfl) ?_
  refine lv_aload_n hx hb dL_law_208 rfl (lv_at hl 0 rfl) ?_
  refine lv_iload_n hx hb dL_law_209 rfl (lv_at hl 3 rfl) ?_
  refine lv_iconst (v := (1 : Int32)) hx hb dL_law_210 (by decide) ?_
  refine lv_iadd hx hb dL_law_211 ?_
  refine va_sld hx hb hX hbl hbA hS hin1 dL_law_212 ?_
  refine fr_all_i (w := w) (w2 := w1) (c2 := 31 + 13 * (k + 1)) (s2 := 873 + 144 * (k + 1)) (fr_V (As := [.int (xs (nI (3 * k) + (1 : Int32)).toNatClampNeg)]) (rest := []) (C := RX5) ⟨hx, hb, hml, hown, hts⟩ hc gL_law_X5_drop rfl (fr_preW (ci := 5) (T := TX5) (N := 3) hK hN hP hD rfl hfs) (n := 1) (by decide +kernel) ⟨show rc.frames + 1 ≤ 9 by omega, show 8 + (3 + 11) + rc.locals ≤ 322 by omega⟩ rfl hl.1 rfl (Nat.le_of_ble_eq_true rfl) dL_law_213 ⟨show 31 + 13 * k + rc.cells ≤ 600000 by omega, show 873 + 144 * k + rc.slots ≤ 7302250 by omega⟩) hD hS hA (by omega) (by omega) (fun u H locs hP hD hS => ?_)
  obtain ⟨w2, hc2, w3, hw3, hfst, hLI2⟩ := hm u
  obtain ⟨fs2, hfs2⟩ := hmem u
  refine lv_aload_n hx hb dL_law_216 rfl (lv_at hl 2 rfl) ?_
  refine lv_aload_n hx hb dL_law_217 rfl (lv_at hl 0 rfl) ?_
  refine lv_iload_n hx hb dL_law_218 rfl (lv_at hl 3 rfl) ?_
  refine lv_iconst (v := (1 : Int32)) hx hb dL_law_219 (by decide) ?_
  refine lv_iadd hx hb dL_law_220 ?_
  refine va_sld hx hb hX hbl hbA hS hin1 dL_law_221 ?_
  refine fr_all_i (w := w1 u) (w2 := fun _ : Unit => w2) (c2 := 31 + 13 * (k + 1)) (s2 := 873 + 144 * (k + 1)) (fr_V (As := [.int (xs (nI (3 * k) + (1 : Int32)).toNatClampNeg)]) (rest := [.int r]) (C := RX6) ⟨hx, hb, hml, hown, hts⟩ hc2 gL_law_X6_drop rfl (fr_preW (ci := 6) (T := TX6) (N := 15) hK hN hP hD rfl hfs2) (n := 1) (by decide +kernel) ⟨show rmm.frames + 1 ≤ 9 by omega, show 8 + (4 + 11) + rmm.locals ≤ 322 by omega⟩ rfl hl.1 rfl (Nat.le_of_ble_eq_true rfl) dL_law_222 ⟨show 31 + 13 * (k + 1) + rmm.cells ≤ 600000 by omega, show 873 + 144 * (k + 1) + rmm.slots ≤ 7302250 by omega⟩) hD hS hA (by omega) (by omega) (fun _ H locs hP hD hS => ?_)
  refine lv_icmp_eq (tgt := 628) hx hb dL_law_225 (by decide) (fun _ => ?_) (fun z => absurd rfl z)
  refine lv_iinc (v := nI (3 * (k + 1))) (lv' := [(3, .int (nI (3 * (k + 1)))), (0, .ref b), (1, .ref aX), (2, .ref aM)]) hx hb dL_law_628 hl (k := 3) rfl (nI_add (3 * k) 3) (by decide) rfl (fun ls hl => ?_)
  refine lv_goto (tgt := 18) hx hb dL_law_631 (by decide) ?_
  exact nxt w3 H locs ls hLI2 (hw3 H hP) (va_D_fst hfst hD) hS (lv_sub hl [1, 2, 3, 0] rfl)
set_option maxHeartbeats 8000000 in
set_option maxRecDepth 100000 in
theorem law_kind {p : Program} {l : Launch} {e : Env} {s : State} {m : MethodId} {below : List Frame} {meth : Method} {c : Code} {D : va_G} {cI cZ cP : ClassId} {b L : Nat} {xs : Nat → Int32} (hL : L ≤ 1536) (C0 : lw_At p s m meth c b L xs) (hK : va_K D vwCl (kTy cI cZ cP) s) (hN : Nx s) {aX aM : Nat} {k : Nat} (hk : k ≤ 511) (hi : 3 * k + 3 ≤ L) (nxt : ∀ (w : va_W) (H : Heap) (locs : List Loc) (ls : Array Slot), LI cI cZ cP (k + 1) aX aM w → va_P D vwCl w H → va_D (fun q : Nat => s.heap.size ≤ q) w → va_S (fun q : Nat => s.heap.size ≤ q) s.heap H locs → lv_has ls 4 [(0, .ref b), (1, .ref aX), (2, .ref aM), (3, .int (nI (3 * (k + 1))))] → W p l e room_1 s m #[Value.ref b] below meth c H locs (31 + 13 * (k + 1)) (873 + 144 * (k + 1)) (lw_Z below #[Value.ref b] s) (F0 m 18 ls [])) : ∀ (w : va_W) (H : Heap) (locs : List Loc) (ls : Array Slot), LI cI cZ cP k aX aM w → va_P D vwCl w H → va_D (fun q : Nat => s.heap.size ≤ q) w → va_S (fun q : Nat => s.heap.size ≤ q) s.heap H locs → lv_has ls 4 [(0, .ref b), (1, .ref aX), (2, .ref aM), (3, .int (nI (3 * k)))] → W p l e room_1 s m #[Value.ref b] below meth c H locs (31 + 13 * k) (873 + 144 * k) (lw_Z below #[Value.ref b] s) (F0 m 230 ls []) := by
  obtain ⟨hx, hb, hr, hml, hown, hts0, hX, hbl, hlocks, hgv⟩ := id C0
  have hts : ∀ w ∈ wsL_law, w.before #[Value.ref b] s = true := fun w h => hts0 w (wsL_law_in w h)
  have hown : s.vm.findClass RL = some m.cls := hown
  have hb : c.code = cL_law := hb
  have hA : ∀ q : Nat, s.heap.size ≤ q → (fun q : Nat => s.heap.size ≤ q) q := fun _ h => h
  have hbA : ¬ (fun q : Nat => s.heap.size ≤ q) b := Nat.not_le.mpr hbl
  intro w H locs ls hLI hP hD hS hl
  have hin1 : vp_in (nI (3 * k) + (1 : Int32)) L := by rw [show nI (3 * k) + (1 : Int32) = nI (3 * k + 1) from nI_add (3 * k) 1]; exact vp_in_nI (by omega) (by omega)
  have hin2 : vp_in (nI (3 * k) + (2 : Int32)) L := by rw [show nI (3 * k) + (2 : Int32) = nI (3 * k + 2) from nI_add (3 * k) 2]; exact vp_in_nI (by omega) (by omega)
  obtain ⟨r, rc, rmm, S, w1, ⟨f1, f2, f3, f4⟩, ⟨g1, g2, g3, g4⟩, hc, hmem, hm⟩ := op_kind (l := l) (D := D) (show k ≤ 512 by omega) hLI (xs (nI (3 * k) + (1 : Int32)).toNatClampNeg) (xs (nI (3 * k) + (2 : Int32)).toNatClampNeg)
  obtain ⟨fs, hfs⟩ := hLI.hasX
  refine lv_aload_n hx hb dL_law_230 rfl (lv_at hl 1 rfl) ?_
  refine lv_aload_n hx hb dL_law_231 rfl (lv_at hl 0 rfl) ?_
  refine lv_iload_n hx hb dL_law_232 rfl (lv_at hl 3 rfl) ?_
  refine lv_iconst (v := (1 : Int32)) hx hb dL_law_233 (by decide) ?_
  refine lv_iadd hx hb dL_law_234 ?_
  refine va_sld hx hb hX hbl hbA hS hin1 dL_law_235 ?_
  refine lv_aload_n hx hb dL_law_236 rfl (lv_at hl 0 rfl) ?_
  refine lv_iload_n hx hb dL_law_237 rfl (lv_at hl 3 rfl) ?_
  refine lv_iconst (v := (2 : Int32)) hx hb dL_law_238 (by decide) ?_
  refine lv_iadd hx hb dL_law_239 ?_
  refine va_sld hx hb hX hbl hbA hS hin2 dL_law_240 ?_
  refine fr_all_i (w := w) (w2 := w1) (c2 := 31 + 13 * (k + 1)) (s2 := 873 + 144 * (k + 1)) (fr_V (As := [.int (xs (nI (3 * k) + (1 : Int32)).toNatClampNeg), .int (xs (nI (3 * k) + (2 : Int32)).toNatClampNeg)]) (rest := []) (C := RX5) ⟨hx, hb, hml, hown, hts⟩ hc gL_law_X5_kind rfl (fr_preW (ci := 5) (T := TX5) (N := 3) hK hN hP hD rfl hfs) (n := 2) (by decide +kernel) ⟨show rc.frames + 1 ≤ 9 by omega, show 8 + (3 + 11) + rc.locals ≤ 322 by omega⟩ rfl hl.1 rfl (Nat.le_of_ble_eq_true rfl) dL_law_241 ⟨show 31 + 13 * k + rc.cells ≤ 600000 by omega, show 873 + 144 * k + rc.slots ≤ 7302250 by omega⟩) hD hS hA (by omega) (by omega) (fun u H locs hP hD hS => ?_)
  obtain ⟨w2, hc2, w3, hw3, hfst, hLI2⟩ := hm u
  obtain ⟨fs2, hfs2⟩ := hmem u
  refine lv_aload_n hx hb dL_law_244 rfl (lv_at hl 2 rfl) ?_
  refine lv_aload_n hx hb dL_law_245 rfl (lv_at hl 0 rfl) ?_
  refine lv_iload_n hx hb dL_law_246 rfl (lv_at hl 3 rfl) ?_
  refine lv_iconst (v := (1 : Int32)) hx hb dL_law_247 (by decide) ?_
  refine lv_iadd hx hb dL_law_248 ?_
  refine va_sld hx hb hX hbl hbA hS hin1 dL_law_249 ?_
  refine lv_aload_n hx hb dL_law_250 rfl (lv_at hl 0 rfl) ?_
  refine lv_iload_n hx hb dL_law_251 rfl (lv_at hl 3 rfl) ?_
  refine lv_iconst (v := (2 : Int32)) hx hb dL_law_252 (by decide) ?_
  refine lv_iadd hx hb dL_law_253 ?_
  refine va_sld hx hb hX hbl hbA hS hin2 dL_law_254 ?_
  refine fr_all_i (w := w1 u) (w2 := fun _ : Unit => w2) (c2 := 31 + 13 * (k + 1)) (s2 := 873 + 144 * (k + 1)) (fr_V (As := [.int (xs (nI (3 * k) + (1 : Int32)).toNatClampNeg), .int (xs (nI (3 * k) + (2 : Int32)).toNatClampNeg)]) (rest := [.int r]) (C := RX6) ⟨hx, hb, hml, hown, hts⟩ hc2 gL_law_X6_kind rfl (fr_preW (ci := 6) (T := TX6) (N := 15) hK hN hP hD rfl hfs2) (n := 2) (by decide +kernel) ⟨show rmm.frames + 1 ≤ 9 by omega, show 8 + (3 + 11) + rmm.locals ≤ 322 by omega⟩ rfl hl.1 rfl (Nat.le_of_ble_eq_true rfl) dL_law_255 ⟨show 31 + 13 * (k + 1) + rmm.cells ≤ 600000 by omega, show 873 + 144 * (k + 1) + rmm.slots ≤ 7302250 by omega⟩) hD hS hA (by omega) (by omega) (fun _ H locs hP hD hS => ?_)
  refine lv_icmp_eq (tgt := 628) hx hb dL_law_258 (by decide) (fun _ => ?_) (fun z => absurd rfl z)
  refine lv_iinc (v := nI (3 * (k + 1))) (lv' := [(3, .int (nI (3 * (k + 1)))), (0, .ref b), (1, .ref aX), (2, .ref aM)]) hx hb dL_law_628 hl (k := 3) rfl (nI_add (3 * k) 3) (by decide) rfl (fun ls hl => ?_)
  refine lv_goto (tgt := 18) hx hb dL_law_631 (by decide) ?_
  exact nxt w3 H locs ls hLI2 (hw3 H hP) (va_D_fst hfst hD) hS (lv_sub hl [1, 2, 3, 0] rfl)
set_option maxHeartbeats 8000000 in
set_option maxRecDepth 100000 in
theorem law_find {p : Program} {l : Launch} {e : Env} {s : State} {m : MethodId} {below : List Frame} {meth : Method} {c : Code} {D : va_G} {cI cZ cP : ClassId} {b L : Nat} {xs : Nat → Int32} (hL : L ≤ 1536) (C0 : lw_At p s m meth c b L xs) (hK : va_K D vwCl (kTy cI cZ cP) s) (hN : Nx s) {aX aM : Nat} {k : Nat} (hk : k ≤ 511) (hi : 3 * k + 3 ≤ L) (nxt : ∀ (w : va_W) (H : Heap) (locs : List Loc) (ls : Array Slot), LI cI cZ cP (k + 1) aX aM w → va_P D vwCl w H → va_D (fun q : Nat => s.heap.size ≤ q) w → va_S (fun q : Nat => s.heap.size ≤ q) s.heap H locs → lv_has ls 4 [(0, .ref b), (1, .ref aX), (2, .ref aM), (3, .int (nI (3 * (k + 1))))] → W p l e room_1 s m #[Value.ref b] below meth c H locs (31 + 13 * (k + 1)) (873 + 144 * (k + 1)) (lw_Z below #[Value.ref b] s) (F0 m 18 ls [])) : ∀ (w : va_W) (H : Heap) (locs : List Loc) (ls : Array Slot), LI cI cZ cP k aX aM w → va_P D vwCl w H → va_D (fun q : Nat => s.heap.size ≤ q) w → va_S (fun q : Nat => s.heap.size ≤ q) s.heap H locs → lv_has ls 4 [(0, .ref b), (1, .ref aX), (2, .ref aM), (3, .int (nI (3 * k)))] → W p l e room_1 s m #[Value.ref b] below meth c H locs (31 + 13 * k) (873 + 144 * k) (lw_Z below #[Value.ref b] s) (F0 m 263 ls []) := by
  obtain ⟨hx, hb, hr, hml, hown, hts0, hX, hbl, hlocks, hgv⟩ := id C0
  have hts : ∀ w ∈ wsL_law, w.before #[Value.ref b] s = true := fun w h => hts0 w (wsL_law_in w h)
  have hown : s.vm.findClass RL = some m.cls := hown
  have hb : c.code = cL_law := hb
  have hA : ∀ q : Nat, s.heap.size ≤ q → (fun q : Nat => s.heap.size ≤ q) q := fun _ h => h
  have hbA : ¬ (fun q : Nat => s.heap.size ≤ q) b := Nat.not_le.mpr hbl
  intro w H locs ls hLI hP hD hS hl
  have hin1 : vp_in (nI (3 * k) + (1 : Int32)) L := by rw [show nI (3 * k) + (1 : Int32) = nI (3 * k + 1) from nI_add (3 * k) 1]; exact vp_in_nI (by omega) (by omega)
  obtain ⟨r, rc, rmm, S, w1, ⟨f1, f2, f3, f4⟩, ⟨g1, g2, g3, g4⟩, hc, hmem, hm⟩ := op_find (l := l) (D := D) (show k ≤ 512 by omega) hLI (xs (nI (3 * k) + (1 : Int32)).toNatClampNeg)
  obtain ⟨fs, hfs⟩ := hLI.hasX
  refine lv_aload_n hx hb dL_law_263 rfl (lv_at hl 1 rfl) ?_
  refine lv_aload_n hx hb dL_law_264 rfl (lv_at hl 0 rfl) ?_
  refine lv_iload_n hx hb dL_law_265 rfl (lv_at hl 3 rfl) ?_
  refine lv_iconst (v := (1 : Int32)) hx hb dL_law_266 (by decide) ?_
  refine lv_iadd hx hb dL_law_267 ?_
  refine va_sld hx hb hX hbl hbA hS hin1 dL_law_268 ?_
  refine fr_all_i (w := w) (w2 := w1) (c2 := 31 + 13 * (k + 1)) (s2 := 873 + 144 * (k + 1)) (fr_V (As := [.int (xs (nI (3 * k) + (1 : Int32)).toNatClampNeg)]) (rest := []) (C := RX5) ⟨hx, hb, hml, hown, hts⟩ hc gL_law_X5_find rfl (fr_preW (ci := 5) (T := TX5) (N := 3) hK hN hP hD rfl hfs) (n := 1) (by decide +kernel) ⟨show rc.frames + 1 ≤ 9 by omega, show 8 + (2 + 11) + rc.locals ≤ 322 by omega⟩ rfl hl.1 rfl (Nat.le_of_ble_eq_true rfl) dL_law_269 ⟨show 31 + 13 * k + rc.cells ≤ 600000 by omega, show 873 + 144 * k + rc.slots ≤ 7302250 by omega⟩) hD hS hA (by omega) (by omega) (fun u H locs hP hD hS => ?_)
  obtain ⟨w2, hc2, w3, hw3, hfst, hLI2⟩ := hm u
  obtain ⟨fs2, hfs2⟩ := hmem u
  refine lv_aload_n hx hb dL_law_272 rfl (lv_at hl 2 rfl) ?_
  refine lv_aload_n hx hb dL_law_273 rfl (lv_at hl 0 rfl) ?_
  refine lv_iload_n hx hb dL_law_274 rfl (lv_at hl 3 rfl) ?_
  refine lv_iconst (v := (1 : Int32)) hx hb dL_law_275 (by decide) ?_
  refine lv_iadd hx hb dL_law_276 ?_
  refine va_sld hx hb hX hbl hbA hS hin1 dL_law_277 ?_
  refine fr_all_i (w := w1 u) (w2 := fun _ : Unit => w2) (c2 := 31 + 13 * (k + 1)) (s2 := 873 + 144 * (k + 1)) (fr_V (As := [.int (xs (nI (3 * k) + (1 : Int32)).toNatClampNeg)]) (rest := [.int r]) (C := RX6) ⟨hx, hb, hml, hown, hts⟩ hc2 gL_law_X6_find rfl (fr_preW (ci := 6) (T := TX6) (N := 15) hK hN hP hD rfl hfs2) (n := 1) (by decide +kernel) ⟨show rmm.frames + 1 ≤ 9 by omega, show 8 + (2 + 11) + rmm.locals ≤ 322 by omega⟩ rfl hl.1 rfl (Nat.le_of_ble_eq_true rfl) dL_law_278 ⟨show 31 + 13 * (k + 1) + rmm.cells ≤ 600000 by omega, show 873 + 144 * (k + 1) + rmm.slots ≤ 7302250 by omega⟩) hD hS hA (by omega) (by omega) (fun _ H locs hP hD hS => ?_)
  refine lv_icmp_eq (tgt := 628) hx hb dL_law_281 (by decide) (fun _ => ?_) (fun z => absurd rfl z)
  refine lv_iinc (v := nI (3 * (k + 1))) (lv' := [(3, .int (nI (3 * (k + 1)))), (0, .ref b), (1, .ref aX), (2, .ref aM)]) hx hb dL_law_628 hl (k := 3) rfl (nI_add (3 * k) 3) (by decide) rfl (fun ls hl => ?_)
  refine lv_goto (tgt := 18) hx hb dL_law_631 (by decide) ?_
  exact nxt w3 H locs ls hLI2 (hw3 H hP) (va_D_fst hfst hD) hS (lv_sub hl [1, 2, 3, 0] rfl)
set_option maxHeartbeats 8000000 in
set_option maxRecDepth 100000 in
theorem law_cell {p : Program} {l : Launch} {e : Env} {s : State} {m : MethodId} {below : List Frame} {meth : Method} {c : Code} {D : va_G} {cI cZ cP : ClassId} {b L : Nat} {xs : Nat → Int32} (hL : L ≤ 1536) (C0 : lw_At p s m meth c b L xs) (hK : va_K D vwCl (kTy cI cZ cP) s) (hN : Nx s) {aX aM : Nat} {k : Nat} (hk : k ≤ 511) (hi : 3 * k + 3 ≤ L) (nxt : ∀ (w : va_W) (H : Heap) (locs : List Loc) (ls : Array Slot), LI cI cZ cP (k + 1) aX aM w → va_P D vwCl w H → va_D (fun q : Nat => s.heap.size ≤ q) w → va_S (fun q : Nat => s.heap.size ≤ q) s.heap H locs → lv_has ls 4 [(0, .ref b), (1, .ref aX), (2, .ref aM), (3, .int (nI (3 * (k + 1))))] → W p l e room_1 s m #[Value.ref b] below meth c H locs (31 + 13 * (k + 1)) (873 + 144 * (k + 1)) (lw_Z below #[Value.ref b] s) (F0 m 18 ls [])) : ∀ (w : va_W) (H : Heap) (locs : List Loc) (ls : Array Slot), LI cI cZ cP k aX aM w → va_P D vwCl w H → va_D (fun q : Nat => s.heap.size ≤ q) w → va_S (fun q : Nat => s.heap.size ≤ q) s.heap H locs → lv_has ls 4 [(0, .ref b), (1, .ref aX), (2, .ref aM), (3, .int (nI (3 * k)))] → W p l e room_1 s m #[Value.ref b] below meth c H locs (31 + 13 * k) (873 + 144 * k) (lw_Z below #[Value.ref b] s) (F0 m 286 ls []) := by
  obtain ⟨hx, hb, hr, hml, hown, hts0, hX, hbl, hlocks, hgv⟩ := id C0
  have hts : ∀ w ∈ wsL_law, w.before #[Value.ref b] s = true := fun w h => hts0 w (wsL_law_in w h)
  have hown : s.vm.findClass RL = some m.cls := hown
  have hb : c.code = cL_law := hb
  have hA : ∀ q : Nat, s.heap.size ≤ q → (fun q : Nat => s.heap.size ≤ q) q := fun _ h => h
  have hbA : ¬ (fun q : Nat => s.heap.size ≤ q) b := Nat.not_le.mpr hbl
  intro w H locs ls hLI hP hD hS hl
  have hin1 : vp_in (nI (3 * k) + (1 : Int32)) L := by rw [show nI (3 * k) + (1 : Int32) = nI (3 * k + 1) from nI_add (3 * k) 1]; exact vp_in_nI (by omega) (by omega)
  obtain ⟨r, rc, rmm, S, w1, ⟨f1, f2, f3, f4⟩, ⟨g1, g2, g3, g4⟩, hc, hmem, hm⟩ := op_cell (l := l) (D := D) (show k ≤ 512 by omega) hLI (xs (nI (3 * k) + (1 : Int32)).toNatClampNeg)
  obtain ⟨fs, hfs⟩ := hLI.hasX
  refine lv_aload_n hx hb dL_law_286 rfl (lv_at hl 1 rfl) ?_
  refine lv_aload_n hx hb dL_law_287 rfl (lv_at hl 0 rfl) ?_
  refine lv_iload_n hx hb dL_law_288 rfl (lv_at hl 3 rfl) ?_
  refine lv_iconst (v := (1 : Int32)) hx hb dL_law_289 (by decide) ?_
  refine lv_iadd hx hb dL_law_290 ?_
  refine va_sld hx hb hX hbl hbA hS hin1 dL_law_291 ?_
  refine fr_all_i (w := w) (w2 := w1) (c2 := 31 + 13 * (k + 1)) (s2 := 873 + 144 * (k + 1)) (fr_V (As := [.int (xs (nI (3 * k) + (1 : Int32)).toNatClampNeg)]) (rest := []) (C := RX5) ⟨hx, hb, hml, hown, hts⟩ hc gL_law_X5_cell rfl (fr_preW (ci := 5) (T := TX5) (N := 3) hK hN hP hD rfl hfs) (n := 1) (by decide +kernel) ⟨show rc.frames + 1 ≤ 9 by omega, show 8 + (2 + 11) + rc.locals ≤ 322 by omega⟩ rfl hl.1 rfl (Nat.le_of_ble_eq_true rfl) dL_law_292 ⟨show 31 + 13 * k + rc.cells ≤ 600000 by omega, show 873 + 144 * k + rc.slots ≤ 7302250 by omega⟩) hD hS hA (by omega) (by omega) (fun u H locs hP hD hS => ?_)
  obtain ⟨w2, hc2, w3, hw3, hfst, hLI2⟩ := hm u
  obtain ⟨fs2, hfs2⟩ := hmem u
  refine lv_aload_n hx hb dL_law_295 rfl (lv_at hl 2 rfl) ?_
  refine lv_aload_n hx hb dL_law_296 rfl (lv_at hl 0 rfl) ?_
  refine lv_iload_n hx hb dL_law_297 rfl (lv_at hl 3 rfl) ?_
  refine lv_iconst (v := (1 : Int32)) hx hb dL_law_298 (by decide) ?_
  refine lv_iadd hx hb dL_law_299 ?_
  refine va_sld hx hb hX hbl hbA hS hin1 dL_law_300 ?_
  refine fr_all_i (w := w1 u) (w2 := fun _ : Unit => w2) (c2 := 31 + 13 * (k + 1)) (s2 := 873 + 144 * (k + 1)) (fr_V (As := [.int (xs (nI (3 * k) + (1 : Int32)).toNatClampNeg)]) (rest := [.int r]) (C := RX6) ⟨hx, hb, hml, hown, hts⟩ hc2 gL_law_X6_cell rfl (fr_preW (ci := 6) (T := TX6) (N := 15) hK hN hP hD rfl hfs2) (n := 1) (by decide +kernel) ⟨show rmm.frames + 1 ≤ 9 by omega, show 8 + (2 + 11) + rmm.locals ≤ 322 by omega⟩ rfl hl.1 rfl (Nat.le_of_ble_eq_true rfl) dL_law_301 ⟨show 31 + 13 * (k + 1) + rmm.cells ≤ 600000 by omega, show 873 + 144 * (k + 1) + rmm.slots ≤ 7302250 by omega⟩) hD hS hA (by omega) (by omega) (fun _ H locs hP hD hS => ?_)
  refine lv_icmp_eq (tgt := 628) hx hb dL_law_304 (by decide) (fun _ => ?_) (fun z => absurd rfl z)
  refine lv_iinc (v := nI (3 * (k + 1))) (lv' := [(3, .int (nI (3 * (k + 1)))), (0, .ref b), (1, .ref aX), (2, .ref aM)]) hx hb dL_law_628 hl (k := 3) rfl (nI_add (3 * k) 3) (by decide) rfl (fun ls hl => ?_)
  refine lv_goto (tgt := 18) hx hb dL_law_631 (by decide) ?_
  exact nxt w3 H locs ls hLI2 (hw3 H hP) (va_D_fst hfst hD) hS (lv_sub hl [1, 2, 3, 0] rfl)
set_option maxHeartbeats 8000000 in
set_option maxRecDepth 100000 in
theorem law_change {p : Program} {l : Launch} {e : Env} {s : State} {m : MethodId} {below : List Frame} {meth : Method} {c : Code} {D : va_G} {cI cZ cP : ClassId} {b L : Nat} {xs : Nat → Int32} (hL : L ≤ 1536) (C0 : lw_At p s m meth c b L xs) (hK : va_K D vwCl (kTy cI cZ cP) s) (hN : Nx s) {aX aM : Nat} {k : Nat} (hk : k ≤ 511) (hi : 3 * k + 3 ≤ L) (nxt : ∀ (w : va_W) (H : Heap) (locs : List Loc) (ls : Array Slot), LI cI cZ cP (k + 1) aX aM w → va_P D vwCl w H → va_D (fun q : Nat => s.heap.size ≤ q) w → va_S (fun q : Nat => s.heap.size ≤ q) s.heap H locs → lv_has ls 4 [(0, .ref b), (1, .ref aX), (2, .ref aM), (3, .int (nI (3 * (k + 1))))] → W p l e room_1 s m #[Value.ref b] below meth c H locs (31 + 13 * (k + 1)) (873 + 144 * (k + 1)) (lw_Z below #[Value.ref b] s) (F0 m 18 ls [])) : ∀ (w : va_W) (H : Heap) (locs : List Loc) (ls : Array Slot), LI cI cZ cP k aX aM w → va_P D vwCl w H → va_D (fun q : Nat => s.heap.size ≤ q) w → va_S (fun q : Nat => s.heap.size ≤ q) s.heap H locs → lv_has ls 4 [(0, .ref b), (1, .ref aX), (2, .ref aM), (3, .int (nI (3 * k)))] → W p l e room_1 s m #[Value.ref b] below meth c H locs (31 + 13 * k) (873 + 144 * k) (lw_Z below #[Value.ref b] s) (F0 m 309 ls []) := by
  obtain ⟨hx, hb, hr, hml, hown, hts0, hX, hbl, hlocks, hgv⟩ := id C0
  have hts : ∀ w ∈ wsL_law, w.before #[Value.ref b] s = true := fun w h => hts0 w (wsL_law_in w h)
  have hown : s.vm.findClass RL = some m.cls := hown
  have hb : c.code = cL_law := hb
  have hA : ∀ q : Nat, s.heap.size ≤ q → (fun q : Nat => s.heap.size ≤ q) q := fun _ h => h
  have hbA : ¬ (fun q : Nat => s.heap.size ≤ q) b := Nat.not_le.mpr hbl
  intro w H locs ls hLI hP hD hS hl
  have hin1 : vp_in (nI (3 * k) + (1 : Int32)) L := by rw [show nI (3 * k) + (1 : Int32) = nI (3 * k + 1) from nI_add (3 * k) 1]; exact vp_in_nI (by omega) (by omega)
  have hin2 : vp_in (nI (3 * k) + (2 : Int32)) L := by rw [show nI (3 * k) + (2 : Int32) = nI (3 * k + 2) from nI_add (3 * k) 2]; exact vp_in_nI (by omega) (by omega)
  obtain ⟨r, rc, rmm, S, w1, ⟨f1, f2, f3, f4⟩, ⟨g1, g2, g3, g4⟩, hc, hmem, hm⟩ := op_change (l := l) (D := D) (show k ≤ 512 by omega) hLI (xs (nI (3 * k) + (1 : Int32)).toNatClampNeg) (xs (nI (3 * k) + (2 : Int32)).toNatClampNeg)
  obtain ⟨fs, hfs⟩ := hLI.hasX
  refine lv_aload_n hx hb dL_law_309 rfl (lv_at hl 1 rfl) ?_
  refine lv_aload_n hx hb dL_law_310 rfl (lv_at hl 0 rfl) ?_
  refine lv_iload_n hx hb dL_law_311 rfl (lv_at hl 3 rfl) ?_
  refine lv_iconst (v := (1 : Int32)) hx hb dL_law_312 (by decide) ?_
  refine lv_iadd hx hb dL_law_313 ?_
  refine va_sld hx hb hX hbl hbA hS hin1 dL_law_314 ?_
  refine lv_aload_n hx hb dL_law_315 rfl (lv_at hl 0 rfl) ?_
  refine lv_iload_n hx hb dL_law_316 rfl (lv_at hl 3 rfl) ?_
  refine lv_iconst (v := (2 : Int32)) hx hb dL_law_317 (by decide) ?_
  refine lv_iadd hx hb dL_law_318 ?_
  refine va_sld hx hb hX hbl hbA hS hin2 dL_law_319 ?_
  refine fr_all_i (w := w) (w2 := w1) (c2 := 31 + 13 * (k + 1)) (s2 := 873 + 144 * (k + 1)) (fr_V (As := [.int (xs (nI (3 * k) + (1 : Int32)).toNatClampNeg), .int (xs (nI (3 * k) + (2 : Int32)).toNatClampNeg)]) (rest := []) (C := RX5) ⟨hx, hb, hml, hown, hts⟩ hc gL_law_X5_change rfl (fr_preW (ci := 5) (T := TX5) (N := 3) hK hN hP hD rfl hfs) (n := 2) (by decide +kernel) ⟨show rc.frames + 1 ≤ 9 by omega, show 8 + (4 + 11) + rc.locals ≤ 322 by omega⟩ rfl hl.1 rfl (Nat.le_of_ble_eq_true rfl) dL_law_320 ⟨show 31 + 13 * k + rc.cells ≤ 600000 by omega, show 873 + 144 * k + rc.slots ≤ 7302250 by omega⟩) hD hS hA (by omega) (by omega) (fun u H locs hP hD hS => ?_)
  obtain ⟨w2, hc2, w3, hw3, hfst, hLI2⟩ := hm u
  obtain ⟨fs2, hfs2⟩ := hmem u
  refine lv_aload_n hx hb dL_law_323 rfl (lv_at hl 2 rfl) ?_
  refine lv_aload_n hx hb dL_law_324 rfl (lv_at hl 0 rfl) ?_
  refine lv_iload_n hx hb dL_law_325 rfl (lv_at hl 3 rfl) ?_
  refine lv_iconst (v := (1 : Int32)) hx hb dL_law_326 (by decide) ?_
  refine lv_iadd hx hb dL_law_327 ?_
  refine va_sld hx hb hX hbl hbA hS hin1 dL_law_328 ?_
  refine lv_aload_n hx hb dL_law_329 rfl (lv_at hl 0 rfl) ?_
  refine lv_iload_n hx hb dL_law_330 rfl (lv_at hl 3 rfl) ?_
  refine lv_iconst (v := (2 : Int32)) hx hb dL_law_331 (by decide) ?_
  refine lv_iadd hx hb dL_law_332 ?_
  refine va_sld hx hb hX hbl hbA hS hin2 dL_law_333 ?_
  refine fr_all_i (w := w1 u) (w2 := fun _ : Unit => w2) (c2 := 31 + 13 * (k + 1)) (s2 := 873 + 144 * (k + 1)) (fr_V (As := [.int (xs (nI (3 * k) + (1 : Int32)).toNatClampNeg), .int (xs (nI (3 * k) + (2 : Int32)).toNatClampNeg)]) (rest := [.int r]) (C := RX6) ⟨hx, hb, hml, hown, hts⟩ hc2 gL_law_X6_change rfl (fr_preW (ci := 6) (T := TX6) (N := 15) hK hN hP hD rfl hfs2) (n := 2) (by decide +kernel) ⟨show rmm.frames + 1 ≤ 9 by omega, show 8 + (4 + 11) + rmm.locals ≤ 322 by omega⟩ rfl hl.1 rfl (Nat.le_of_ble_eq_true rfl) dL_law_334 ⟨show 31 + 13 * (k + 1) + rmm.cells ≤ 600000 by omega, show 873 + 144 * (k + 1) + rmm.slots ≤ 7302250 by omega⟩) hD hS hA (by omega) (by omega) (fun _ H locs hP hD hS => ?_)
  refine lv_icmp_eq (tgt := 628) hx hb dL_law_337 (by decide) (fun _ => ?_) (fun z => absurd rfl z)
  refine lv_iinc (v := nI (3 * (k + 1))) (lv' := [(3, .int (nI (3 * (k + 1)))), (0, .ref b), (1, .ref aX), (2, .ref aM)]) hx hb dL_law_628 hl (k := 3) rfl (nI_add (3 * k) 3) (by decide) rfl (fun ls hl => ?_)
  refine lv_goto (tgt := 18) hx hb dL_law_631 (by decide) ?_
  exact nxt w3 H locs ls hLI2 (hw3 H hP) (va_D_fst hfst hD) hS (lv_sub hl [1, 2, 3, 0] rfl)
set_option maxHeartbeats 8000000 in
set_option maxRecDepth 100000 in
theorem law_remove {p : Program} {l : Launch} {e : Env} {s : State} {m : MethodId} {below : List Frame} {meth : Method} {c : Code} {D : va_G} {cI cZ cP : ClassId} {b L : Nat} {xs : Nat → Int32} (hL : L ≤ 1536) (C0 : lw_At p s m meth c b L xs) (hK : va_K D vwCl (kTy cI cZ cP) s) (hN : Nx s) {aX aM : Nat} {k : Nat} (hk : k ≤ 511) (hi : 3 * k + 3 ≤ L) (nxt : ∀ (w : va_W) (H : Heap) (locs : List Loc) (ls : Array Slot), LI cI cZ cP (k + 1) aX aM w → va_P D vwCl w H → va_D (fun q : Nat => s.heap.size ≤ q) w → va_S (fun q : Nat => s.heap.size ≤ q) s.heap H locs → lv_has ls 4 [(0, .ref b), (1, .ref aX), (2, .ref aM), (3, .int (nI (3 * (k + 1))))] → W p l e room_1 s m #[Value.ref b] below meth c H locs (31 + 13 * (k + 1)) (873 + 144 * (k + 1)) (lw_Z below #[Value.ref b] s) (F0 m 18 ls [])) : ∀ (w : va_W) (H : Heap) (locs : List Loc) (ls : Array Slot), LI cI cZ cP k aX aM w → va_P D vwCl w H → va_D (fun q : Nat => s.heap.size ≤ q) w → va_S (fun q : Nat => s.heap.size ≤ q) s.heap H locs → lv_has ls 4 [(0, .ref b), (1, .ref aX), (2, .ref aM), (3, .int (nI (3 * k)))] → W p l e room_1 s m #[Value.ref b] below meth c H locs (31 + 13 * k) (873 + 144 * k) (lw_Z below #[Value.ref b] s) (F0 m 342 ls []) := by
  obtain ⟨hx, hb, hr, hml, hown, hts0, hX, hbl, hlocks, hgv⟩ := id C0
  have hts : ∀ w ∈ wsL_law, w.before #[Value.ref b] s = true := fun w h => hts0 w (wsL_law_in w h)
  have hown : s.vm.findClass RL = some m.cls := hown
  have hb : c.code = cL_law := hb
  have hA : ∀ q : Nat, s.heap.size ≤ q → (fun q : Nat => s.heap.size ≤ q) q := fun _ h => h
  have hbA : ¬ (fun q : Nat => s.heap.size ≤ q) b := Nat.not_le.mpr hbl
  intro w H locs ls hLI hP hD hS hl
  have hin1 : vp_in (nI (3 * k) + (1 : Int32)) L := by rw [show nI (3 * k) + (1 : Int32) = nI (3 * k + 1) from nI_add (3 * k) 1]; exact vp_in_nI (by omega) (by omega)
  obtain ⟨r, rc, rmm, S, w1, ⟨f1, f2, f3, f4⟩, ⟨g1, g2, g3, g4⟩, hc, hmem, hm⟩ := op_remove (l := l) (D := D) (show k ≤ 512 by omega) hLI (xs (nI (3 * k) + (1 : Int32)).toNatClampNeg)
  obtain ⟨fs, hfs⟩ := hLI.hasX
  refine lv_aload_n hx hb dL_law_342 rfl (lv_at hl 1 rfl) ?_
  refine lv_aload_n hx hb dL_law_343 rfl (lv_at hl 0 rfl) ?_
  refine lv_iload_n hx hb dL_law_344 rfl (lv_at hl 3 rfl) ?_
  refine lv_iconst (v := (1 : Int32)) hx hb dL_law_345 (by decide) ?_
  refine lv_iadd hx hb dL_law_346 ?_
  refine va_sld hx hb hX hbl hbA hS hin1 dL_law_347 ?_
  refine fr_all_i (w := w) (w2 := w1) (c2 := 31 + 13 * (k + 1)) (s2 := 873 + 144 * (k + 1)) (fr_V (As := [.int (xs (nI (3 * k) + (1 : Int32)).toNatClampNeg)]) (rest := []) (C := RX5) ⟨hx, hb, hml, hown, hts⟩ hc gL_law_X5_remove rfl (fr_preW (ci := 5) (T := TX5) (N := 3) hK hN hP hD rfl hfs) (n := 1) (by decide +kernel) ⟨show rc.frames + 1 ≤ 9 by omega, show 8 + (2 + 11) + rc.locals ≤ 322 by omega⟩ rfl hl.1 rfl (Nat.le_of_ble_eq_true rfl) dL_law_348 ⟨show 31 + 13 * k + rc.cells ≤ 600000 by omega, show 873 + 144 * k + rc.slots ≤ 7302250 by omega⟩) hD hS hA (by omega) (by omega) (fun u H locs hP hD hS => ?_)
  obtain ⟨w2, hc2, w3, hw3, hfst, hLI2⟩ := hm u
  obtain ⟨fs2, hfs2⟩ := hmem u
  refine lv_aload_n hx hb dL_law_351 rfl (lv_at hl 2 rfl) ?_
  refine lv_aload_n hx hb dL_law_352 rfl (lv_at hl 0 rfl) ?_
  refine lv_iload_n hx hb dL_law_353 rfl (lv_at hl 3 rfl) ?_
  refine lv_iconst (v := (1 : Int32)) hx hb dL_law_354 (by decide) ?_
  refine lv_iadd hx hb dL_law_355 ?_
  refine va_sld hx hb hX hbl hbA hS hin1 dL_law_356 ?_
  refine fr_all_i (w := w1 u) (w2 := fun _ : Unit => w2) (c2 := 31 + 13 * (k + 1)) (s2 := 873 + 144 * (k + 1)) (fr_V (As := [.int (xs (nI (3 * k) + (1 : Int32)).toNatClampNeg)]) (rest := [.int r]) (C := RX6) ⟨hx, hb, hml, hown, hts⟩ hc2 gL_law_X6_remove rfl (fr_preW (ci := 6) (T := TX6) (N := 15) hK hN hP hD rfl hfs2) (n := 1) (by decide +kernel) ⟨show rmm.frames + 1 ≤ 9 by omega, show 8 + (3 + 11) + rmm.locals ≤ 322 by omega⟩ rfl hl.1 rfl (Nat.le_of_ble_eq_true rfl) dL_law_357 ⟨show 31 + 13 * (k + 1) + rmm.cells ≤ 600000 by omega, show 873 + 144 * (k + 1) + rmm.slots ≤ 7302250 by omega⟩) hD hS hA (by omega) (by omega) (fun _ H locs hP hD hS => ?_)
  refine lv_icmp_eq (tgt := 628) hx hb dL_law_360 (by decide) (fun _ => ?_) (fun z => absurd rfl z)
  refine lv_iinc (v := nI (3 * (k + 1))) (lv' := [(3, .int (nI (3 * (k + 1)))), (0, .ref b), (1, .ref aX), (2, .ref aM)]) hx hb dL_law_628 hl (k := 3) rfl (nI_add (3 * k) 3) (by decide) rfl (fun ls hl => ?_)
  refine lv_goto (tgt := 18) hx hb dL_law_631 (by decide) ?_
  exact nxt w3 H locs ls hLI2 (hw3 H hP) (va_D_fst hfst hD) hS (lv_sub hl [1, 2, 3, 0] rfl)
set_option maxHeartbeats 8000000 in
set_option maxRecDepth 100000 in
theorem law_difference {p : Program} {l : Launch} {e : Env} {s : State} {m : MethodId} {below : List Frame} {meth : Method} {c : Code} {D : va_G} {cI cZ cP : ClassId} {b L : Nat} {xs : Nat → Int32} (hL : L ≤ 1536) (C0 : lw_At p s m meth c b L xs) (hK : va_K D vwCl (kTy cI cZ cP) s) (hN : Nx s) {aX aM : Nat} {k : Nat} (hk : k ≤ 511) (hi : 3 * k + 3 ≤ L) (nxt : ∀ (w : va_W) (H : Heap) (locs : List Loc) (ls : Array Slot), LI cI cZ cP (k + 1) aX aM w → va_P D vwCl w H → va_D (fun q : Nat => s.heap.size ≤ q) w → va_S (fun q : Nat => s.heap.size ≤ q) s.heap H locs → lv_has ls 4 [(0, .ref b), (1, .ref aX), (2, .ref aM), (3, .int (nI (3 * (k + 1))))] → W p l e room_1 s m #[Value.ref b] below meth c H locs (31 + 13 * (k + 1)) (873 + 144 * (k + 1)) (lw_Z below #[Value.ref b] s) (F0 m 18 ls [])) : ∀ (w : va_W) (H : Heap) (locs : List Loc) (ls : Array Slot), LI cI cZ cP k aX aM w → va_P D vwCl w H → va_D (fun q : Nat => s.heap.size ≤ q) w → va_S (fun q : Nat => s.heap.size ≤ q) s.heap H locs → lv_has ls 4 [(0, .ref b), (1, .ref aX), (2, .ref aM), (3, .int (nI (3 * k)))] → W p l e room_1 s m #[Value.ref b] below meth c H locs (31 + 13 * k) (873 + 144 * k) (lw_Z below #[Value.ref b] s) (F0 m 365 ls []) := by
  obtain ⟨hx, hb, hr, hml, hown, hts0, hX, hbl, hlocks, hgv⟩ := id C0
  have hts : ∀ w ∈ wsL_law, w.before #[Value.ref b] s = true := fun w h => hts0 w (wsL_law_in w h)
  have hown : s.vm.findClass RL = some m.cls := hown
  have hb : c.code = cL_law := hb
  have hA : ∀ q : Nat, s.heap.size ≤ q → (fun q : Nat => s.heap.size ≤ q) q := fun _ h => h
  have hbA : ¬ (fun q : Nat => s.heap.size ≤ q) b := Nat.not_le.mpr hbl
  intro w H locs ls hLI hP hD hS hl
  have hin1 : vp_in (nI (3 * k) + (1 : Int32)) L := by rw [show nI (3 * k) + (1 : Int32) = nI (3 * k + 1) from nI_add (3 * k) 1]; exact vp_in_nI (by omega) (by omega)
  have hin2 : vp_in (nI (3 * k) + (2 : Int32)) L := by rw [show nI (3 * k) + (2 : Int32) = nI (3 * k + 2) from nI_add (3 * k) 2]; exact vp_in_nI (by omega) (by omega)
  obtain ⟨r, rc, rmm, S, w1, ⟨f1, f2, f3, f4⟩, ⟨g1, g2, g3, g4⟩, hc, hmem, hm⟩ := op_difference (l := l) (D := D) (show k ≤ 512 by omega) hLI (xs (nI (3 * k) + (1 : Int32)).toNatClampNeg) (xs (nI (3 * k) + (2 : Int32)).toNatClampNeg)
  obtain ⟨fs, hfs⟩ := hLI.hasX
  refine lv_aload_n hx hb dL_law_365 rfl (lv_at hl 1 rfl) ?_
  refine lv_aload_n hx hb dL_law_366 rfl (lv_at hl 0 rfl) ?_
  refine lv_iload_n hx hb dL_law_367 rfl (lv_at hl 3 rfl) ?_
  refine lv_iconst (v := (1 : Int32)) hx hb dL_law_368 (by decide) ?_
  refine lv_iadd hx hb dL_law_369 ?_
  refine va_sld hx hb hX hbl hbA hS hin1 dL_law_370 ?_
  refine lv_aload_n hx hb dL_law_371 rfl (lv_at hl 0 rfl) ?_
  refine lv_iload_n hx hb dL_law_372 rfl (lv_at hl 3 rfl) ?_
  refine lv_iconst (v := (2 : Int32)) hx hb dL_law_373 (by decide) ?_
  refine lv_iadd hx hb dL_law_374 ?_
  refine va_sld hx hb hX hbl hbA hS hin2 dL_law_375 ?_
  refine fr_all_i (w := w) (w2 := w1) (c2 := 31 + 13 * (k + 1)) (s2 := 873 + 144 * (k + 1)) (fr_V (As := [.int (xs (nI (3 * k) + (1 : Int32)).toNatClampNeg), .int (xs (nI (3 * k) + (2 : Int32)).toNatClampNeg)]) (rest := []) (C := RX5) ⟨hx, hb, hml, hown, hts⟩ hc gL_law_X5_difference rfl (fr_preW (ci := 5) (T := TX5) (N := 3) hK hN hP hD rfl hfs) (n := 2) (by decide +kernel) ⟨show rc.frames + 1 ≤ 9 by omega, show 8 + (3 + 11) + rc.locals ≤ 322 by omega⟩ rfl hl.1 rfl (Nat.le_of_ble_eq_true rfl) dL_law_376 ⟨show 31 + 13 * k + rc.cells ≤ 600000 by omega, show 873 + 144 * k + rc.slots ≤ 7302250 by omega⟩) hD hS hA (by omega) (by omega) (fun u H locs hP hD hS => ?_)
  obtain ⟨w2, hc2, w3, hw3, hfst, hLI2⟩ := hm u
  obtain ⟨fs2, hfs2⟩ := hmem u
  refine lv_aload_n hx hb dL_law_379 rfl (lv_at hl 2 rfl) ?_
  refine lv_aload_n hx hb dL_law_380 rfl (lv_at hl 0 rfl) ?_
  refine lv_iload_n hx hb dL_law_381 rfl (lv_at hl 3 rfl) ?_
  refine lv_iconst (v := (1 : Int32)) hx hb dL_law_382 (by decide) ?_
  refine lv_iadd hx hb dL_law_383 ?_
  refine va_sld hx hb hX hbl hbA hS hin1 dL_law_384 ?_
  refine lv_aload_n hx hb dL_law_385 rfl (lv_at hl 0 rfl) ?_
  refine lv_iload_n hx hb dL_law_386 rfl (lv_at hl 3 rfl) ?_
  refine lv_iconst (v := (2 : Int32)) hx hb dL_law_387 (by decide) ?_
  refine lv_iadd hx hb dL_law_388 ?_
  refine va_sld hx hb hX hbl hbA hS hin2 dL_law_389 ?_
  refine fr_all_i (w := w1 u) (w2 := fun _ : Unit => w2) (c2 := 31 + 13 * (k + 1)) (s2 := 873 + 144 * (k + 1)) (fr_V (As := [.int (xs (nI (3 * k) + (1 : Int32)).toNatClampNeg), .int (xs (nI (3 * k) + (2 : Int32)).toNatClampNeg)]) (rest := [.int r]) (C := RX6) ⟨hx, hb, hml, hown, hts⟩ hc2 gL_law_X6_difference rfl (fr_preW (ci := 6) (T := TX6) (N := 15) hK hN hP hD rfl hfs2) (n := 2) (by decide +kernel) ⟨show rmm.frames + 1 ≤ 9 by omega, show 8 + (3 + 11) + rmm.locals ≤ 322 by omega⟩ rfl hl.1 rfl (Nat.le_of_ble_eq_true rfl) dL_law_390 ⟨show 31 + 13 * (k + 1) + rmm.cells ≤ 600000 by omega, show 873 + 144 * (k + 1) + rmm.slots ≤ 7302250 by omega⟩) hD hS hA (by omega) (by omega) (fun _ H locs hP hD hS => ?_)
  refine lv_icmp_eq (tgt := 628) hx hb dL_law_393 (by decide) (fun _ => ?_) (fun z => absurd rfl z)
  refine lv_iinc (v := nI (3 * (k + 1))) (lv' := [(3, .int (nI (3 * (k + 1)))), (0, .ref b), (1, .ref aX), (2, .ref aM)]) hx hb dL_law_628 hl (k := 3) rfl (nI_add (3 * k) 3) (by decide) rfl (fun ls hl => ?_)
  refine lv_goto (tgt := 18) hx hb dL_law_631 (by decide) ?_
  exact nxt w3 H locs ls hLI2 (hw3 H hP) (va_D_fst hfst hD) hS (lv_sub hl [1, 2, 3, 0] rfl)
set_option maxHeartbeats 8000000 in
set_option maxRecDepth 100000 in
theorem law_auction {p : Program} {l : Launch} {e : Env} {s : State} {m : MethodId} {below : List Frame} {meth : Method} {c : Code} {D : va_G} {cI cZ cP : ClassId} {b L : Nat} {xs : Nat → Int32} (hL : L ≤ 1536) (C0 : lw_At p s m meth c b L xs) (hK : va_K D vwCl (kTy cI cZ cP) s) (hN : Nx s) {aX aM : Nat} {k : Nat} (hk : k ≤ 511) (hi : 3 * k + 3 ≤ L) (nxt : ∀ (w : va_W) (H : Heap) (locs : List Loc) (ls : Array Slot), LI cI cZ cP (k + 1) aX aM w → va_P D vwCl w H → va_D (fun q : Nat => s.heap.size ≤ q) w → va_S (fun q : Nat => s.heap.size ≤ q) s.heap H locs → lv_has ls 4 [(0, .ref b), (1, .ref aX), (2, .ref aM), (3, .int (nI (3 * (k + 1))))] → W p l e room_1 s m #[Value.ref b] below meth c H locs (31 + 13 * (k + 1)) (873 + 144 * (k + 1)) (lw_Z below #[Value.ref b] s) (F0 m 18 ls [])) : ∀ (w : va_W) (H : Heap) (locs : List Loc) (ls : Array Slot), LI cI cZ cP k aX aM w → va_P D vwCl w H → va_D (fun q : Nat => s.heap.size ≤ q) w → va_S (fun q : Nat => s.heap.size ≤ q) s.heap H locs → lv_has ls 4 [(0, .ref b), (1, .ref aX), (2, .ref aM), (3, .int (nI (3 * k)))] → W p l e room_1 s m #[Value.ref b] below meth c H locs (31 + 13 * k) (873 + 144 * k) (lw_Z below #[Value.ref b] s) (F0 m 398 ls []) := by
  obtain ⟨hx, hb, hr, hml, hown, hts0, hX, hbl, hlocks, hgv⟩ := id C0
  have hts : ∀ w ∈ wsL_law, w.before #[Value.ref b] s = true := fun w h => hts0 w (wsL_law_in w h)
  have hown : s.vm.findClass RL = some m.cls := hown
  have hb : c.code = cL_law := hb
  have hA : ∀ q : Nat, s.heap.size ≤ q → (fun q : Nat => s.heap.size ≤ q) q := fun _ h => h
  have hbA : ¬ (fun q : Nat => s.heap.size ≤ q) b := Nat.not_le.mpr hbl
  intro w H locs ls hLI hP hD hS hl
  obtain ⟨r, rc, rmm, S, w1, ⟨f1, f2, f3, f4⟩, ⟨g1, g2, g3, g4⟩, hc, hmem, hm⟩ := op_auction (l := l) (D := D) (show k ≤ 512 by omega) hLI
  obtain ⟨fs, hfs⟩ := hLI.hasX
  refine lv_aload_n hx hb dL_law_398 rfl (lv_at hl 1 rfl) ?_
  refine fr_all_i (w := w) (w2 := w1) (c2 := 31 + 13 * (k + 1)) (s2 := 873 + 144 * (k + 1)) (fr_V (As := []) (rest := []) (C := RX5) ⟨hx, hb, hml, hown, hts⟩ hc gL_law_X5_auction rfl (fr_preW (ci := 5) (T := TX5) (N := 3) hK hN hP hD rfl hfs) (n := 0) (by decide +kernel) ⟨show rc.frames + 1 ≤ 9 by omega, show 8 + (2 + 11) + rc.locals ≤ 322 by omega⟩ rfl hl.1 rfl (Nat.le_of_ble_eq_true rfl) dL_law_399 ⟨show 31 + 13 * k + rc.cells ≤ 600000 by omega, show 873 + 144 * k + rc.slots ≤ 7302250 by omega⟩) hD hS hA (by omega) (by omega) (fun u H locs hP hD hS => ?_)
  obtain ⟨w2, hc2, w3, hw3, hfst, hLI2⟩ := hm u
  obtain ⟨fs2, hfs2⟩ := hmem u
  refine lv_aload_n hx hb dL_law_402 rfl (lv_at hl 2 rfl) ?_
  refine fr_all_i (w := w1 u) (w2 := fun _ : Unit => w2) (c2 := 31 + 13 * (k + 1)) (s2 := 873 + 144 * (k + 1)) (fr_V (As := []) (rest := [.int r]) (C := RX6) ⟨hx, hb, hml, hown, hts⟩ hc2 gL_law_X6_auction rfl (fr_preW (ci := 6) (T := TX6) (N := 15) hK hN hP hD rfl hfs2) (n := 0) (by decide +kernel) ⟨show rmm.frames + 1 ≤ 9 by omega, show 8 + (3 + 11) + rmm.locals ≤ 322 by omega⟩ rfl hl.1 rfl (Nat.le_of_ble_eq_true rfl) dL_law_403 ⟨show 31 + 13 * (k + 1) + rmm.cells ≤ 600000 by omega, show 873 + 144 * (k + 1) + rmm.slots ≤ 7302250 by omega⟩) hD hS hA (by omega) (by omega) (fun _ H locs hP hD hS => ?_)
  refine lv_icmp_eq (tgt := 628) hx hb dL_law_406 (by decide) (fun _ => ?_) (fun z => absurd rfl z)
  refine lv_iinc (v := nI (3 * (k + 1))) (lv' := [(3, .int (nI (3 * (k + 1)))), (0, .ref b), (1, .ref aX), (2, .ref aM)]) hx hb dL_law_628 hl (k := 3) rfl (nI_add (3 * k) 3) (by decide) rfl (fun ls hl => ?_)
  refine lv_goto (tgt := 18) hx hb dL_law_631 (by decide) ?_
  exact nxt w3 H locs ls hLI2 (hw3 H hP) (va_D_fst hfst hD) hS (lv_sub hl [1, 2, 3, 0] rfl)
set_option maxHeartbeats 8000000 in
set_option maxRecDepth 100000 in
theorem law_repair {p : Program} {l : Launch} {e : Env} {s : State} {m : MethodId} {below : List Frame} {meth : Method} {c : Code} {D : va_G} {cI cZ cP : ClassId} {b L : Nat} {xs : Nat → Int32} (hL : L ≤ 1536) (C0 : lw_At p s m meth c b L xs) (hK : va_K D vwCl (kTy cI cZ cP) s) (hN : Nx s) {aX aM : Nat} {k : Nat} (hk : k ≤ 511) (hi : 3 * k + 3 ≤ L) (nxt : ∀ (w : va_W) (H : Heap) (locs : List Loc) (ls : Array Slot), LI cI cZ cP (k + 1) aX aM w → va_P D vwCl w H → va_D (fun q : Nat => s.heap.size ≤ q) w → va_S (fun q : Nat => s.heap.size ≤ q) s.heap H locs → lv_has ls 4 [(0, .ref b), (1, .ref aX), (2, .ref aM), (3, .int (nI (3 * (k + 1))))] → W p l e room_1 s m #[Value.ref b] below meth c H locs (31 + 13 * (k + 1)) (873 + 144 * (k + 1)) (lw_Z below #[Value.ref b] s) (F0 m 18 ls [])) : ∀ (w : va_W) (H : Heap) (locs : List Loc) (ls : Array Slot), LI cI cZ cP k aX aM w → va_P D vwCl w H → va_D (fun q : Nat => s.heap.size ≤ q) w → va_S (fun q : Nat => s.heap.size ≤ q) s.heap H locs → lv_has ls 4 [(0, .ref b), (1, .ref aX), (2, .ref aM), (3, .int (nI (3 * k)))] → W p l e room_1 s m #[Value.ref b] below meth c H locs (31 + 13 * k) (873 + 144 * k) (lw_Z below #[Value.ref b] s) (F0 m 411 ls []) := by
  obtain ⟨hx, hb, hr, hml, hown, hts0, hX, hbl, hlocks, hgv⟩ := id C0
  have hts : ∀ w ∈ wsL_law, w.before #[Value.ref b] s = true := fun w h => hts0 w (wsL_law_in w h)
  have hown : s.vm.findClass RL = some m.cls := hown
  have hb : c.code = cL_law := hb
  have hA : ∀ q : Nat, s.heap.size ≤ q → (fun q : Nat => s.heap.size ≤ q) q := fun _ h => h
  have hbA : ¬ (fun q : Nat => s.heap.size ≤ q) b := Nat.not_le.mpr hbl
  intro w H locs ls hLI hP hD hS hl
  obtain ⟨r, rc, rmm, S, w1, ⟨f1, f2, f3, f4⟩, ⟨g1, g2, g3, g4⟩, hc, hmem, hm⟩ := op_repair (l := l) (D := D) (show k ≤ 512 by omega) hLI
  obtain ⟨fs, hfs⟩ := hLI.hasX
  refine lv_aload_n hx hb dL_law_411 rfl (lv_at hl 1 rfl) ?_
  refine fr_all_i (w := w) (w2 := w1) (c2 := 31 + 13 * (k + 1)) (s2 := 873 + 144 * (k + 1)) (fr_V (As := []) (rest := []) (C := RX5) ⟨hx, hb, hml, hown, hts⟩ hc gL_law_X5_repair rfl (fr_preW (ci := 5) (T := TX5) (N := 3) hK hN hP hD rfl hfs) (n := 0) (by decide +kernel) ⟨show rc.frames + 1 ≤ 9 by omega, show 8 + (1 + 11) + rc.locals ≤ 322 by omega⟩ rfl hl.1 rfl (Nat.le_of_ble_eq_true rfl) dL_law_412 ⟨show 31 + 13 * k + rc.cells ≤ 600000 by omega, show 873 + 144 * k + rc.slots ≤ 7302250 by omega⟩) hD hS hA (by omega) (by omega) (fun u H locs hP hD hS => ?_)
  obtain ⟨w2, hc2, w3, hw3, hfst, hLI2⟩ := hm u
  obtain ⟨fs2, hfs2⟩ := hmem u
  refine lv_aload_n hx hb dL_law_415 rfl (lv_at hl 2 rfl) ?_
  refine fr_all_i (w := w1 u) (w2 := fun _ : Unit => w2) (c2 := 31 + 13 * (k + 1)) (s2 := 873 + 144 * (k + 1)) (fr_V (As := []) (rest := [.int r]) (C := RX6) ⟨hx, hb, hml, hown, hts⟩ hc2 gL_law_X6_repair rfl (fr_preW (ci := 6) (T := TX6) (N := 15) hK hN hP hD rfl hfs2) (n := 0) (by decide +kernel) ⟨show rmm.frames + 1 ≤ 9 by omega, show 8 + (2 + 11) + rmm.locals ≤ 322 by omega⟩ rfl hl.1 rfl (Nat.le_of_ble_eq_true rfl) dL_law_416 ⟨show 31 + 13 * (k + 1) + rmm.cells ≤ 600000 by omega, show 873 + 144 * (k + 1) + rmm.slots ≤ 7302250 by omega⟩) hD hS hA (by omega) (by omega) (fun _ H locs hP hD hS => ?_)
  refine lv_icmp_eq (tgt := 628) hx hb dL_law_419 (by decide) (fun _ => ?_) (fun z => absurd rfl z)
  refine lv_iinc (v := nI (3 * (k + 1))) (lv' := [(3, .int (nI (3 * (k + 1)))), (0, .ref b), (1, .ref aX), (2, .ref aM)]) hx hb dL_law_628 hl (k := 3) rfl (nI_add (3 * k) 3) (by decide) rfl (fun ls hl => ?_)
  refine lv_goto (tgt := 18) hx hb dL_law_631 (by decide) ?_
  exact nxt w3 H locs ls hLI2 (hw3 H hP) (va_D_fst hfst hD) hS (lv_sub hl [1, 2, 3, 0] rfl)
set_option maxHeartbeats 8000000 in
set_option maxRecDepth 100000 in
theorem law_phase {p : Program} {l : Launch} {e : Env} {s : State} {m : MethodId} {below : List Frame} {meth : Method} {c : Code} {D : va_G} {cI cZ cP : ClassId} {b L : Nat} {xs : Nat → Int32} (hL : L ≤ 1536) (C0 : lw_At p s m meth c b L xs) (hK : va_K D vwCl (kTy cI cZ cP) s) (hN : Nx s) {aX aM : Nat} {k : Nat} (hk : k ≤ 511) (hi : 3 * k + 3 ≤ L) (nxt : ∀ (w : va_W) (H : Heap) (locs : List Loc) (ls : Array Slot), LI cI cZ cP (k + 1) aX aM w → va_P D vwCl w H → va_D (fun q : Nat => s.heap.size ≤ q) w → va_S (fun q : Nat => s.heap.size ≤ q) s.heap H locs → lv_has ls 4 [(0, .ref b), (1, .ref aX), (2, .ref aM), (3, .int (nI (3 * (k + 1))))] → W p l e room_1 s m #[Value.ref b] below meth c H locs (31 + 13 * (k + 1)) (873 + 144 * (k + 1)) (lw_Z below #[Value.ref b] s) (F0 m 18 ls [])) : ∀ (w : va_W) (H : Heap) (locs : List Loc) (ls : Array Slot), LI cI cZ cP k aX aM w → va_P D vwCl w H → va_D (fun q : Nat => s.heap.size ≤ q) w → va_S (fun q : Nat => s.heap.size ≤ q) s.heap H locs → lv_has ls 4 [(0, .ref b), (1, .ref aX), (2, .ref aM), (3, .int (nI (3 * k)))] → W p l e room_1 s m #[Value.ref b] below meth c H locs (31 + 13 * k) (873 + 144 * k) (lw_Z below #[Value.ref b] s) (F0 m 424 ls []) := by
  obtain ⟨hx, hb, hr, hml, hown, hts0, hX, hbl, hlocks, hgv⟩ := id C0
  have hts : ∀ w ∈ wsL_law, w.before #[Value.ref b] s = true := fun w h => hts0 w (wsL_law_in w h)
  have hown : s.vm.findClass RL = some m.cls := hown
  have hb : c.code = cL_law := hb
  have hA : ∀ q : Nat, s.heap.size ≤ q → (fun q : Nat => s.heap.size ≤ q) q := fun _ h => h
  have hbA : ¬ (fun q : Nat => s.heap.size ≤ q) b := Nat.not_le.mpr hbl
  intro w H locs ls hLI hP hD hS hl
  have hin1 : vp_in (nI (3 * k) + (1 : Int32)) L := by rw [show nI (3 * k) + (1 : Int32) = nI (3 * k + 1) from nI_add (3 * k) 1]; exact vp_in_nI (by omega) (by omega)
  have hin2 : vp_in (nI (3 * k) + (2 : Int32)) L := by rw [show nI (3 * k) + (2 : Int32) = nI (3 * k + 2) from nI_add (3 * k) 2]; exact vp_in_nI (by omega) (by omega)
  obtain ⟨r, rc, rmm, S, w1, ⟨f1, f2, f3, f4⟩, ⟨g1, g2, g3, g4⟩, hc, hmem, hm⟩ := op_phase (l := l) (D := D) (show k ≤ 512 by omega) hLI (xs (nI (3 * k) + (1 : Int32)).toNatClampNeg) (xs (nI (3 * k) + (2 : Int32)).toNatClampNeg)
  obtain ⟨fs, hfs⟩ := hLI.hasX
  refine lv_aload_n hx hb dL_law_424 rfl (lv_at hl 1 rfl) ?_
  refine lv_aload_n hx hb dL_law_425 rfl (lv_at hl 0 rfl) ?_
  refine lv_iload_n hx hb dL_law_426 rfl (lv_at hl 3 rfl) ?_
  refine lv_iconst (v := (1 : Int32)) hx hb dL_law_427 (by decide) ?_
  refine lv_iadd hx hb dL_law_428 ?_
  refine va_sld hx hb hX hbl hbA hS hin1 dL_law_429 ?_
  refine lv_aload_n hx hb dL_law_430 rfl (lv_at hl 0 rfl) ?_
  refine lv_iload_n hx hb dL_law_431 rfl (lv_at hl 3 rfl) ?_
  refine lv_iconst (v := (2 : Int32)) hx hb dL_law_432 (by decide) ?_
  refine lv_iadd hx hb dL_law_433 ?_
  refine va_sld hx hb hX hbl hbA hS hin2 dL_law_434 ?_
  refine fr_all_i (w := w) (w2 := w1) (c2 := 31 + 13 * (k + 1)) (s2 := 873 + 144 * (k + 1)) (fr_V (As := [.int (xs (nI (3 * k) + (1 : Int32)).toNatClampNeg), .int (xs (nI (3 * k) + (2 : Int32)).toNatClampNeg)]) (rest := []) (C := RX5) ⟨hx, hb, hml, hown, hts⟩ hc gL_law_X5_phase rfl (fr_preW (ci := 5) (T := TX5) (N := 3) hK hN hP hD rfl hfs) (n := 2) (by decide +kernel) ⟨show rc.frames + 1 ≤ 9 by omega, show 8 + (3 + 11) + rc.locals ≤ 322 by omega⟩ rfl hl.1 rfl (Nat.le_of_ble_eq_true rfl) dL_law_435 ⟨show 31 + 13 * k + rc.cells ≤ 600000 by omega, show 873 + 144 * k + rc.slots ≤ 7302250 by omega⟩) hD hS hA (by omega) (by omega) (fun u H locs hP hD hS => ?_)
  obtain ⟨w2, hc2, w3, hw3, hfst, hLI2⟩ := hm u
  obtain ⟨fs2, hfs2⟩ := hmem u
  refine lv_aload_n hx hb dL_law_438 rfl (lv_at hl 2 rfl) ?_
  refine lv_aload_n hx hb dL_law_439 rfl (lv_at hl 0 rfl) ?_
  refine lv_iload_n hx hb dL_law_440 rfl (lv_at hl 3 rfl) ?_
  refine lv_iconst (v := (1 : Int32)) hx hb dL_law_441 (by decide) ?_
  refine lv_iadd hx hb dL_law_442 ?_
  refine va_sld hx hb hX hbl hbA hS hin1 dL_law_443 ?_
  refine lv_aload_n hx hb dL_law_444 rfl (lv_at hl 0 rfl) ?_
  refine lv_iload_n hx hb dL_law_445 rfl (lv_at hl 3 rfl) ?_
  refine lv_iconst (v := (2 : Int32)) hx hb dL_law_446 (by decide) ?_
  refine lv_iadd hx hb dL_law_447 ?_
  refine va_sld hx hb hX hbl hbA hS hin2 dL_law_448 ?_
  refine fr_all_i (w := w1 u) (w2 := fun _ : Unit => w2) (c2 := 31 + 13 * (k + 1)) (s2 := 873 + 144 * (k + 1)) (fr_V (As := [.int (xs (nI (3 * k) + (1 : Int32)).toNatClampNeg), .int (xs (nI (3 * k) + (2 : Int32)).toNatClampNeg)]) (rest := [.int r]) (C := RX6) ⟨hx, hb, hml, hown, hts⟩ hc2 gL_law_X6_phase rfl (fr_preW (ci := 6) (T := TX6) (N := 15) hK hN hP hD rfl hfs2) (n := 2) (by decide +kernel) ⟨show rmm.frames + 1 ≤ 9 by omega, show 8 + (3 + 11) + rmm.locals ≤ 322 by omega⟩ rfl hl.1 rfl (Nat.le_of_ble_eq_true rfl) dL_law_449 ⟨show 31 + 13 * (k + 1) + rmm.cells ≤ 600000 by omega, show 873 + 144 * (k + 1) + rmm.slots ≤ 7302250 by omega⟩) hD hS hA (by omega) (by omega) (fun _ H locs hP hD hS => ?_)
  refine lv_icmp_eq (tgt := 628) hx hb dL_law_452 (by decide) (fun _ => ?_) (fun z => absurd rfl z)
  refine lv_iinc (v := nI (3 * (k + 1))) (lv' := [(3, .int (nI (3 * (k + 1)))), (0, .ref b), (1, .ref aX), (2, .ref aM)]) hx hb dL_law_628 hl (k := 3) rfl (nI_add (3 * k) 3) (by decide) rfl (fun ls hl => ?_)
  refine lv_goto (tgt := 18) hx hb dL_law_631 (by decide) ?_
  exact nxt w3 H locs ls hLI2 (hw3 H hP) (va_D_fst hfst hD) hS (lv_sub hl [1, 2, 3, 0] rfl)
set_option maxHeartbeats 8000000 in
set_option maxRecDepth 100000 in
theorem law_place {p : Program} {l : Launch} {e : Env} {s : State} {m : MethodId} {below : List Frame} {meth : Method} {c : Code} {D : va_G} {cI cZ cP : ClassId} {b L : Nat} {xs : Nat → Int32} (hL : L ≤ 1536) (C0 : lw_At p s m meth c b L xs) (hK : va_K D vwCl (kTy cI cZ cP) s) (hN : Nx s) {aX aM : Nat} {k : Nat} (hk : k ≤ 511) (hi : 3 * k + 3 ≤ L) (nxt : ∀ (w : va_W) (H : Heap) (locs : List Loc) (ls : Array Slot), LI cI cZ cP (k + 1) aX aM w → va_P D vwCl w H → va_D (fun q : Nat => s.heap.size ≤ q) w → va_S (fun q : Nat => s.heap.size ≤ q) s.heap H locs → lv_has ls 4 [(0, .ref b), (1, .ref aX), (2, .ref aM), (3, .int (nI (3 * (k + 1))))] → W p l e room_1 s m #[Value.ref b] below meth c H locs (31 + 13 * (k + 1)) (873 + 144 * (k + 1)) (lw_Z below #[Value.ref b] s) (F0 m 18 ls [])) : ∀ (w : va_W) (H : Heap) (locs : List Loc) (ls : Array Slot), LI cI cZ cP k aX aM w → va_P D vwCl w H → va_D (fun q : Nat => s.heap.size ≤ q) w → va_S (fun q : Nat => s.heap.size ≤ q) s.heap H locs → lv_has ls 4 [(0, .ref b), (1, .ref aX), (2, .ref aM), (3, .int (nI (3 * k)))] → W p l e room_1 s m #[Value.ref b] below meth c H locs (31 + 13 * k) (873 + 144 * k) (lw_Z below #[Value.ref b] s) (F0 m 457 ls []) := by
  obtain ⟨hx, hb, hr, hml, hown, hts0, hX, hbl, hlocks, hgv⟩ := id C0
  have hts : ∀ w ∈ wsL_law, w.before #[Value.ref b] s = true := fun w h => hts0 w (wsL_law_in w h)
  have hown : s.vm.findClass RL = some m.cls := hown
  have hb : c.code = cL_law := hb
  have hA : ∀ q : Nat, s.heap.size ≤ q → (fun q : Nat => s.heap.size ≤ q) q := fun _ h => h
  have hbA : ¬ (fun q : Nat => s.heap.size ≤ q) b := Nat.not_le.mpr hbl
  intro w H locs ls hLI hP hD hS hl
  have hin1 : vp_in (nI (3 * k) + (1 : Int32)) L := by rw [show nI (3 * k) + (1 : Int32) = nI (3 * k + 1) from nI_add (3 * k) 1]; exact vp_in_nI (by omega) (by omega)
  obtain ⟨r, rc, rmm, S, w1, ⟨f1, f2, f3, f4⟩, ⟨g1, g2, g3, g4⟩, hc, hmem, hm⟩ := op_place (l := l) (D := D) (show k ≤ 512 by omega) hLI (xs (nI (3 * k) + (1 : Int32)).toNatClampNeg)
  obtain ⟨fs, hfs⟩ := hLI.hasX
  refine lv_aload_n hx hb dL_law_457 rfl (lv_at hl 1 rfl) ?_
  refine lv_aload_n hx hb dL_law_458 rfl (lv_at hl 0 rfl) ?_
  refine lv_iload_n hx hb dL_law_459 rfl (lv_at hl 3 rfl) ?_
  refine lv_iconst (v := (1 : Int32)) hx hb dL_law_460 (by decide) ?_
  refine lv_iadd hx hb dL_law_461 ?_
  refine va_sld hx hb hX hbl hbA hS hin1 dL_law_462 ?_
  refine fr_all_i (w := w) (w2 := w1) (c2 := 31 + 13 * (k + 1)) (s2 := 873 + 144 * (k + 1)) (fr_V (As := [.int (xs (nI (3 * k) + (1 : Int32)).toNatClampNeg)]) (rest := []) (C := RX5) ⟨hx, hb, hml, hown, hts⟩ hc gL_law_X5_place rfl (fr_preW (ci := 5) (T := TX5) (N := 3) hK hN hP hD rfl hfs) (n := 1) (by decide +kernel) ⟨show rc.frames + 1 ≤ 9 by omega, show 8 + (2 + 11) + rc.locals ≤ 322 by omega⟩ rfl hl.1 rfl (Nat.le_of_ble_eq_true rfl) dL_law_463 ⟨show 31 + 13 * k + rc.cells ≤ 600000 by omega, show 873 + 144 * k + rc.slots ≤ 7302250 by omega⟩) hD hS hA (by omega) (by omega) (fun u H locs hP hD hS => ?_)
  obtain ⟨w2, hc2, w3, hw3, hfst, hLI2⟩ := hm u
  obtain ⟨fs2, hfs2⟩ := hmem u
  refine lv_aload_n hx hb dL_law_466 rfl (lv_at hl 2 rfl) ?_
  refine lv_aload_n hx hb dL_law_467 rfl (lv_at hl 0 rfl) ?_
  refine lv_iload_n hx hb dL_law_468 rfl (lv_at hl 3 rfl) ?_
  refine lv_iconst (v := (1 : Int32)) hx hb dL_law_469 (by decide) ?_
  refine lv_iadd hx hb dL_law_470 ?_
  refine va_sld hx hb hX hbl hbA hS hin1 dL_law_471 ?_
  refine fr_all_i (w := w1 u) (w2 := fun _ : Unit => w2) (c2 := 31 + 13 * (k + 1)) (s2 := 873 + 144 * (k + 1)) (fr_V (As := [.int (xs (nI (3 * k) + (1 : Int32)).toNatClampNeg)]) (rest := [.int r]) (C := RX6) ⟨hx, hb, hml, hown, hts⟩ hc2 gL_law_X6_place rfl (fr_preW (ci := 6) (T := TX6) (N := 15) hK hN hP hD rfl hfs2) (n := 1) (by decide +kernel) ⟨show rmm.frames + 1 ≤ 9 by omega, show 8 + (2 + 11) + rmm.locals ≤ 322 by omega⟩ rfl hl.1 rfl (Nat.le_of_ble_eq_true rfl) dL_law_472 ⟨show 31 + 13 * (k + 1) + rmm.cells ≤ 600000 by omega, show 873 + 144 * (k + 1) + rmm.slots ≤ 7302250 by omega⟩) hD hS hA (by omega) (by omega) (fun _ H locs hP hD hS => ?_)
  refine lv_icmp_eq (tgt := 628) hx hb dL_law_475 (by decide) (fun _ => ?_) (fun z => absurd rfl z)
  refine lv_iinc (v := nI (3 * (k + 1))) (lv' := [(3, .int (nI (3 * (k + 1)))), (0, .ref b), (1, .ref aX), (2, .ref aM)]) hx hb dL_law_628 hl (k := 3) rfl (nI_add (3 * k) 3) (by decide) rfl (fun ls hl => ?_)
  refine lv_goto (tgt := 18) hx hb dL_law_631 (by decide) ?_
  exact nxt w3 H locs ls hLI2 (hw3 H hP) (va_D_fst hfst hD) hS (lv_sub hl [1, 2, 3, 0] rfl)
set_option maxHeartbeats 8000000 in
set_option maxRecDepth 100000 in
theorem law_slot {p : Program} {l : Launch} {e : Env} {s : State} {m : MethodId} {below : List Frame} {meth : Method} {c : Code} {D : va_G} {cI cZ cP : ClassId} {b L : Nat} {xs : Nat → Int32} (hL : L ≤ 1536) (C0 : lw_At p s m meth c b L xs) (hK : va_K D vwCl (kTy cI cZ cP) s) (hN : Nx s) {aX aM : Nat} {k : Nat} (hk : k ≤ 511) (hi : 3 * k + 3 ≤ L) (nxt : ∀ (w : va_W) (H : Heap) (locs : List Loc) (ls : Array Slot), LI cI cZ cP (k + 1) aX aM w → va_P D vwCl w H → va_D (fun q : Nat => s.heap.size ≤ q) w → va_S (fun q : Nat => s.heap.size ≤ q) s.heap H locs → lv_has ls 4 [(0, .ref b), (1, .ref aX), (2, .ref aM), (3, .int (nI (3 * (k + 1))))] → W p l e room_1 s m #[Value.ref b] below meth c H locs (31 + 13 * (k + 1)) (873 + 144 * (k + 1)) (lw_Z below #[Value.ref b] s) (F0 m 18 ls [])) : ∀ (w : va_W) (H : Heap) (locs : List Loc) (ls : Array Slot), LI cI cZ cP k aX aM w → va_P D vwCl w H → va_D (fun q : Nat => s.heap.size ≤ q) w → va_S (fun q : Nat => s.heap.size ≤ q) s.heap H locs → lv_has ls 4 [(0, .ref b), (1, .ref aX), (2, .ref aM), (3, .int (nI (3 * k)))] → W p l e room_1 s m #[Value.ref b] below meth c H locs (31 + 13 * k) (873 + 144 * k) (lw_Z below #[Value.ref b] s) (F0 m 480 ls []) := by
  obtain ⟨hx, hb, hr, hml, hown, hts0, hX, hbl, hlocks, hgv⟩ := id C0
  have hts : ∀ w ∈ wsL_law, w.before #[Value.ref b] s = true := fun w h => hts0 w (wsL_law_in w h)
  have hown : s.vm.findClass RL = some m.cls := hown
  have hb : c.code = cL_law := hb
  have hA : ∀ q : Nat, s.heap.size ≤ q → (fun q : Nat => s.heap.size ≤ q) q := fun _ h => h
  have hbA : ¬ (fun q : Nat => s.heap.size ≤ q) b := Nat.not_le.mpr hbl
  intro w H locs ls hLI hP hD hS hl
  have hin1 : vp_in (nI (3 * k) + (1 : Int32)) L := by rw [show nI (3 * k) + (1 : Int32) = nI (3 * k + 1) from nI_add (3 * k) 1]; exact vp_in_nI (by omega) (by omega)
  have hin2 : vp_in (nI (3 * k) + (2 : Int32)) L := by rw [show nI (3 * k) + (2 : Int32) = nI (3 * k + 2) from nI_add (3 * k) 2]; exact vp_in_nI (by omega) (by omega)
  obtain ⟨r, rc, rmm, S, w1, ⟨f1, f2, f3, f4⟩, ⟨g1, g2, g3, g4⟩, hc, hmem, hm⟩ := op_slot (l := l) (D := D) (show k ≤ 512 by omega) hLI (xs (nI (3 * k) + (1 : Int32)).toNatClampNeg) (xs (nI (3 * k) + (2 : Int32)).toNatClampNeg)
  obtain ⟨fs, hfs⟩ := hLI.hasX
  refine lv_aload_n hx hb dL_law_480 rfl (lv_at hl 1 rfl) ?_
  refine lv_aload_n hx hb dL_law_481 rfl (lv_at hl 0 rfl) ?_
  refine lv_iload_n hx hb dL_law_482 rfl (lv_at hl 3 rfl) ?_
  refine lv_iconst (v := (1 : Int32)) hx hb dL_law_483 (by decide) ?_
  refine lv_iadd hx hb dL_law_484 ?_
  refine va_sld hx hb hX hbl hbA hS hin1 dL_law_485 ?_
  refine lv_aload_n hx hb dL_law_486 rfl (lv_at hl 0 rfl) ?_
  refine lv_iload_n hx hb dL_law_487 rfl (lv_at hl 3 rfl) ?_
  refine lv_iconst (v := (2 : Int32)) hx hb dL_law_488 (by decide) ?_
  refine lv_iadd hx hb dL_law_489 ?_
  refine va_sld hx hb hX hbl hbA hS hin2 dL_law_490 ?_
  refine fr_all_i (w := w) (w2 := w1) (c2 := 31 + 13 * (k + 1)) (s2 := 873 + 144 * (k + 1)) (fr_V (As := [.int (xs (nI (3 * k) + (1 : Int32)).toNatClampNeg), .int (xs (nI (3 * k) + (2 : Int32)).toNatClampNeg)]) (rest := []) (C := RX5) ⟨hx, hb, hml, hown, hts⟩ hc gL_law_X5_slot rfl (fr_preW (ci := 5) (T := TX5) (N := 3) hK hN hP hD rfl hfs) (n := 2) (by decide +kernel) ⟨show rc.frames + 1 ≤ 9 by omega, show 8 + (3 + 11) + rc.locals ≤ 322 by omega⟩ rfl hl.1 rfl (Nat.le_of_ble_eq_true rfl) dL_law_491 ⟨show 31 + 13 * k + rc.cells ≤ 600000 by omega, show 873 + 144 * k + rc.slots ≤ 7302250 by omega⟩) hD hS hA (by omega) (by omega) (fun u H locs hP hD hS => ?_)
  obtain ⟨w2, hc2, w3, hw3, hfst, hLI2⟩ := hm u
  obtain ⟨fs2, hfs2⟩ := hmem u
  refine lv_aload_n hx hb dL_law_494 rfl (lv_at hl 2 rfl) ?_
  refine lv_aload_n hx hb dL_law_495 rfl (lv_at hl 0 rfl) ?_
  refine lv_iload_n hx hb dL_law_496 rfl (lv_at hl 3 rfl) ?_
  refine lv_iconst (v := (1 : Int32)) hx hb dL_law_497 (by decide) ?_
  refine lv_iadd hx hb dL_law_498 ?_
  refine va_sld hx hb hX hbl hbA hS hin1 dL_law_499 ?_
  refine lv_aload_n hx hb dL_law_500 rfl (lv_at hl 0 rfl) ?_
  refine lv_iload_n hx hb dL_law_501 rfl (lv_at hl 3 rfl) ?_
  refine lv_iconst (v := (2 : Int32)) hx hb dL_law_502 (by decide) ?_
  refine lv_iadd hx hb dL_law_503 ?_
  refine va_sld hx hb hX hbl hbA hS hin2 dL_law_504 ?_
  refine fr_all_i (w := w1 u) (w2 := fun _ : Unit => w2) (c2 := 31 + 13 * (k + 1)) (s2 := 873 + 144 * (k + 1)) (fr_V (As := [.int (xs (nI (3 * k) + (1 : Int32)).toNatClampNeg), .int (xs (nI (3 * k) + (2 : Int32)).toNatClampNeg)]) (rest := [.int r]) (C := RX6) ⟨hx, hb, hml, hown, hts⟩ hc2 gL_law_X6_slot rfl (fr_preW (ci := 6) (T := TX6) (N := 15) hK hN hP hD rfl hfs2) (n := 2) (by decide +kernel) ⟨show rmm.frames + 1 ≤ 9 by omega, show 8 + (3 + 11) + rmm.locals ≤ 322 by omega⟩ rfl hl.1 rfl (Nat.le_of_ble_eq_true rfl) dL_law_505 ⟨show 31 + 13 * (k + 1) + rmm.cells ≤ 600000 by omega, show 873 + 144 * (k + 1) + rmm.slots ≤ 7302250 by omega⟩) hD hS hA (by omega) (by omega) (fun _ H locs hP hD hS => ?_)
  refine lv_icmp_eq (tgt := 628) hx hb dL_law_508 (by decide) (fun _ => ?_) (fun z => absurd rfl z)
  refine lv_iinc (v := nI (3 * (k + 1))) (lv' := [(3, .int (nI (3 * (k + 1)))), (0, .ref b), (1, .ref aX), (2, .ref aM)]) hx hb dL_law_628 hl (k := 3) rfl (nI_add (3 * k) 3) (by decide) rfl (fun ls hl => ?_)
  refine lv_goto (tgt := 18) hx hb dL_law_631 (by decide) ?_
  exact nxt w3 H locs ls hLI2 (hw3 H hP) (va_D_fst hfst hD) hS (lv_sub hl [1, 2, 3, 0] rfl)
set_option maxHeartbeats 8000000 in
set_option maxRecDepth 100000 in
theorem law_gain {p : Program} {l : Launch} {e : Env} {s : State} {m : MethodId} {below : List Frame} {meth : Method} {c : Code} {D : va_G} {cI cZ cP : ClassId} {b L : Nat} {xs : Nat → Int32} (hL : L ≤ 1536) (C0 : lw_At p s m meth c b L xs) (hK : va_K D vwCl (kTy cI cZ cP) s) (hN : Nx s) {aX aM : Nat} {k : Nat} (hk : k ≤ 511) (hi : 3 * k + 3 ≤ L) (nxt : ∀ (w : va_W) (H : Heap) (locs : List Loc) (ls : Array Slot), LI cI cZ cP (k + 1) aX aM w → va_P D vwCl w H → va_D (fun q : Nat => s.heap.size ≤ q) w → va_S (fun q : Nat => s.heap.size ≤ q) s.heap H locs → lv_has ls 4 [(0, .ref b), (1, .ref aX), (2, .ref aM), (3, .int (nI (3 * (k + 1))))] → W p l e room_1 s m #[Value.ref b] below meth c H locs (31 + 13 * (k + 1)) (873 + 144 * (k + 1)) (lw_Z below #[Value.ref b] s) (F0 m 18 ls [])) : ∀ (w : va_W) (H : Heap) (locs : List Loc) (ls : Array Slot), LI cI cZ cP k aX aM w → va_P D vwCl w H → va_D (fun q : Nat => s.heap.size ≤ q) w → va_S (fun q : Nat => s.heap.size ≤ q) s.heap H locs → lv_has ls 4 [(0, .ref b), (1, .ref aX), (2, .ref aM), (3, .int (nI (3 * k)))] → W p l e room_1 s m #[Value.ref b] below meth c H locs (31 + 13 * k) (873 + 144 * k) (lw_Z below #[Value.ref b] s) (F0 m 513 ls []) := by
  obtain ⟨hx, hb, hr, hml, hown, hts0, hX, hbl, hlocks, hgv⟩ := id C0
  have hts : ∀ w ∈ wsL_law, w.before #[Value.ref b] s = true := fun w h => hts0 w (wsL_law_in w h)
  have hown : s.vm.findClass RL = some m.cls := hown
  have hb : c.code = cL_law := hb
  have hA : ∀ q : Nat, s.heap.size ≤ q → (fun q : Nat => s.heap.size ≤ q) q := fun _ h => h
  have hbA : ¬ (fun q : Nat => s.heap.size ≤ q) b := Nat.not_le.mpr hbl
  intro w H locs ls hLI hP hD hS hl
  have hin1 : vp_in (nI (3 * k) + (1 : Int32)) L := by rw [show nI (3 * k) + (1 : Int32) = nI (3 * k + 1) from nI_add (3 * k) 1]; exact vp_in_nI (by omega) (by omega)
  have hin2 : vp_in (nI (3 * k) + (2 : Int32)) L := by rw [show nI (3 * k) + (2 : Int32) = nI (3 * k + 2) from nI_add (3 * k) 2]; exact vp_in_nI (by omega) (by omega)
  obtain ⟨r, rc, rmm, S, w1, ⟨f1, f2, f3, f4⟩, ⟨g1, g2, g3, g4⟩, hc, hmem, hm⟩ := op_gain (l := l) (D := D) (show k ≤ 512 by omega) hLI (xs (nI (3 * k) + (1 : Int32)).toNatClampNeg) (xs (nI (3 * k) + (2 : Int32)).toNatClampNeg)
  obtain ⟨fs, hfs⟩ := hLI.hasX
  refine lv_aload_n hx hb dL_law_513 rfl (lv_at hl 1 rfl) ?_
  refine lv_aload_n hx hb dL_law_514 rfl (lv_at hl 0 rfl) ?_
  refine lv_iload_n hx hb dL_law_515 rfl (lv_at hl 3 rfl) ?_
  refine lv_iconst (v := (1 : Int32)) hx hb dL_law_516 (by decide) ?_
  refine lv_iadd hx hb dL_law_517 ?_
  refine va_sld hx hb hX hbl hbA hS hin1 dL_law_518 ?_
  refine lv_aload_n hx hb dL_law_519 rfl (lv_at hl 0 rfl) ?_
  refine lv_iload_n hx hb dL_law_520 rfl (lv_at hl 3 rfl) ?_
  refine lv_iconst (v := (2 : Int32)) hx hb dL_law_521 (by decide) ?_
  refine lv_iadd hx hb dL_law_522 ?_
  refine va_sld hx hb hX hbl hbA hS hin2 dL_law_523 ?_
  refine fr_all_i (w := w) (w2 := w1) (c2 := 31 + 13 * (k + 1)) (s2 := 873 + 144 * (k + 1)) (fr_V (As := [.int (xs (nI (3 * k) + (1 : Int32)).toNatClampNeg), .int (xs (nI (3 * k) + (2 : Int32)).toNatClampNeg)]) (rest := []) (C := RX5) ⟨hx, hb, hml, hown, hts⟩ hc gL_law_X5_gain rfl (fr_preW (ci := 5) (T := TX5) (N := 3) hK hN hP hD rfl hfs) (n := 2) (by decide +kernel) ⟨show rc.frames + 1 ≤ 9 by omega, show 8 + (3 + 11) + rc.locals ≤ 322 by omega⟩ rfl hl.1 rfl (Nat.le_of_ble_eq_true rfl) dL_law_524 ⟨show 31 + 13 * k + rc.cells ≤ 600000 by omega, show 873 + 144 * k + rc.slots ≤ 7302250 by omega⟩) hD hS hA (by omega) (by omega) (fun u H locs hP hD hS => ?_)
  obtain ⟨w2, hc2, w3, hw3, hfst, hLI2⟩ := hm u
  obtain ⟨fs2, hfs2⟩ := hmem u
  refine lv_aload_n hx hb dL_law_527 rfl (lv_at hl 2 rfl) ?_
  refine lv_aload_n hx hb dL_law_528 rfl (lv_at hl 0 rfl) ?_
  refine lv_iload_n hx hb dL_law_529 rfl (lv_at hl 3 rfl) ?_
  refine lv_iconst (v := (1 : Int32)) hx hb dL_law_530 (by decide) ?_
  refine lv_iadd hx hb dL_law_531 ?_
  refine va_sld hx hb hX hbl hbA hS hin1 dL_law_532 ?_
  refine lv_aload_n hx hb dL_law_533 rfl (lv_at hl 0 rfl) ?_
  refine lv_iload_n hx hb dL_law_534 rfl (lv_at hl 3 rfl) ?_
  refine lv_iconst (v := (2 : Int32)) hx hb dL_law_535 (by decide) ?_
  refine lv_iadd hx hb dL_law_536 ?_
  refine va_sld hx hb hX hbl hbA hS hin2 dL_law_537 ?_
  refine fr_all_i (w := w1 u) (w2 := fun _ : Unit => w2) (c2 := 31 + 13 * (k + 1)) (s2 := 873 + 144 * (k + 1)) (fr_V (As := [.int (xs (nI (3 * k) + (1 : Int32)).toNatClampNeg), .int (xs (nI (3 * k) + (2 : Int32)).toNatClampNeg)]) (rest := [.int r]) (C := RX6) ⟨hx, hb, hml, hown, hts⟩ hc2 gL_law_X6_gain rfl (fr_preW (ci := 6) (T := TX6) (N := 15) hK hN hP hD rfl hfs2) (n := 2) (by decide +kernel) ⟨show rmm.frames + 1 ≤ 9 by omega, show 8 + (3 + 11) + rmm.locals ≤ 322 by omega⟩ rfl hl.1 rfl (Nat.le_of_ble_eq_true rfl) dL_law_538 ⟨show 31 + 13 * (k + 1) + rmm.cells ≤ 600000 by omega, show 873 + 144 * (k + 1) + rmm.slots ≤ 7302250 by omega⟩) hD hS hA (by omega) (by omega) (fun _ H locs hP hD hS => ?_)
  refine lv_icmp_eq (tgt := 628) hx hb dL_law_541 (by decide) (fun _ => ?_) (fun z => absurd rfl z)
  refine lv_iinc (v := nI (3 * (k + 1))) (lv' := [(3, .int (nI (3 * (k + 1)))), (0, .ref b), (1, .ref aX), (2, .ref aM)]) hx hb dL_law_628 hl (k := 3) rfl (nI_add (3 * k) 3) (by decide) rfl (fun ls hl => ?_)
  refine lv_goto (tgt := 18) hx hb dL_law_631 (by decide) ?_
  exact nxt w3 H locs ls hLI2 (hw3 H hP) (va_D_fst hfst hD) hS (lv_sub hl [1, 2, 3, 0] rfl)
set_option maxHeartbeats 8000000 in
set_option maxRecDepth 100000 in
theorem law_total {p : Program} {l : Launch} {e : Env} {s : State} {m : MethodId} {below : List Frame} {meth : Method} {c : Code} {D : va_G} {cI cZ cP : ClassId} {b L : Nat} {xs : Nat → Int32} (hL : L ≤ 1536) (C0 : lw_At p s m meth c b L xs) (hK : va_K D vwCl (kTy cI cZ cP) s) (hN : Nx s) {aX aM : Nat} {k : Nat} (hk : k ≤ 511) (hi : 3 * k + 3 ≤ L) (nxt : ∀ (w : va_W) (H : Heap) (locs : List Loc) (ls : Array Slot), LI cI cZ cP (k + 1) aX aM w → va_P D vwCl w H → va_D (fun q : Nat => s.heap.size ≤ q) w → va_S (fun q : Nat => s.heap.size ≤ q) s.heap H locs → lv_has ls 4 [(0, .ref b), (1, .ref aX), (2, .ref aM), (3, .int (nI (3 * (k + 1))))] → W p l e room_1 s m #[Value.ref b] below meth c H locs (31 + 13 * (k + 1)) (873 + 144 * (k + 1)) (lw_Z below #[Value.ref b] s) (F0 m 18 ls [])) : ∀ (w : va_W) (H : Heap) (locs : List Loc) (ls : Array Slot), LI cI cZ cP k aX aM w → va_P D vwCl w H → va_D (fun q : Nat => s.heap.size ≤ q) w → va_S (fun q : Nat => s.heap.size ≤ q) s.heap H locs → lv_has ls 4 [(0, .ref b), (1, .ref aX), (2, .ref aM), (3, .int (nI (3 * k)))] → W p l e room_1 s m #[Value.ref b] below meth c H locs (31 + 13 * k) (873 + 144 * k) (lw_Z below #[Value.ref b] s) (F0 m 546 ls []) := by
  obtain ⟨hx, hb, hr, hml, hown, hts0, hX, hbl, hlocks, hgv⟩ := id C0
  have hts : ∀ w ∈ wsL_law, w.before #[Value.ref b] s = true := fun w h => hts0 w (wsL_law_in w h)
  have hown : s.vm.findClass RL = some m.cls := hown
  have hb : c.code = cL_law := hb
  have hA : ∀ q : Nat, s.heap.size ≤ q → (fun q : Nat => s.heap.size ≤ q) q := fun _ h => h
  have hbA : ¬ (fun q : Nat => s.heap.size ≤ q) b := Nat.not_le.mpr hbl
  intro w H locs ls hLI hP hD hS hl
  obtain ⟨r, rc, rmm, S, w1, ⟨f1, f2, f3, f4⟩, ⟨g1, g2, g3, g4⟩, hc, hmem, hm⟩ := op_total (l := l) (D := D) (show k ≤ 512 by omega) hLI
  obtain ⟨fs, hfs⟩ := hLI.hasX
  refine lv_aload_n hx hb dL_law_546 rfl (lv_at hl 1 rfl) ?_
  refine fr_all_i (w := w) (w2 := w1) (c2 := 31 + 13 * (k + 1)) (s2 := 873 + 144 * (k + 1)) (fr_V (As := []) (rest := []) (C := RX5) ⟨hx, hb, hml, hown, hts⟩ hc gL_law_X5_total rfl (fr_preW (ci := 5) (T := TX5) (N := 3) hK hN hP hD rfl hfs) (n := 0) (by decide +kernel) ⟨show rc.frames + 1 ≤ 9 by omega, show 8 + (1 + 11) + rc.locals ≤ 322 by omega⟩ rfl hl.1 rfl (Nat.le_of_ble_eq_true rfl) dL_law_547 ⟨show 31 + 13 * k + rc.cells ≤ 600000 by omega, show 873 + 144 * k + rc.slots ≤ 7302250 by omega⟩) hD hS hA (by omega) (by omega) (fun u H locs hP hD hS => ?_)
  obtain ⟨w2, hc2, w3, hw3, hfst, hLI2⟩ := hm u
  obtain ⟨fs2, hfs2⟩ := hmem u
  refine lv_aload_n hx hb dL_law_550 rfl (lv_at hl 2 rfl) ?_
  refine fr_all_i (w := w1 u) (w2 := fun _ : Unit => w2) (c2 := 31 + 13 * (k + 1)) (s2 := 873 + 144 * (k + 1)) (fr_V (As := []) (rest := [.int r]) (C := RX6) ⟨hx, hb, hml, hown, hts⟩ hc2 gL_law_X6_total rfl (fr_preW (ci := 6) (T := TX6) (N := 15) hK hN hP hD rfl hfs2) (n := 0) (by decide +kernel) ⟨show rmm.frames + 1 ≤ 9 by omega, show 8 + (1 + 11) + rmm.locals ≤ 322 by omega⟩ rfl hl.1 rfl (Nat.le_of_ble_eq_true rfl) dL_law_551 ⟨show 31 + 13 * (k + 1) + rmm.cells ≤ 600000 by omega, show 873 + 144 * (k + 1) + rmm.slots ≤ 7302250 by omega⟩) hD hS hA (by omega) (by omega) (fun _ H locs hP hD hS => ?_)
  refine lv_icmp_eq (tgt := 628) hx hb dL_law_554 (by decide) (fun _ => ?_) (fun z => absurd rfl z)
  refine lv_iinc (v := nI (3 * (k + 1))) (lv' := [(3, .int (nI (3 * (k + 1)))), (0, .ref b), (1, .ref aX), (2, .ref aM)]) hx hb dL_law_628 hl (k := 3) rfl (nI_add (3 * k) 3) (by decide) rfl (fun ls hl => ?_)
  refine lv_goto (tgt := 18) hx hb dL_law_631 (by decide) ?_
  exact nxt w3 H locs ls hLI2 (hw3 H hP) (va_D_fst hfst hD) hS (lv_sub hl [1, 2, 3, 0] rfl)
set_option maxHeartbeats 8000000 in
set_option maxRecDepth 100000 in
theorem law_image {p : Program} {l : Launch} {e : Env} {s : State} {m : MethodId} {below : List Frame} {meth : Method} {c : Code} {D : va_G} {cI cZ cP : ClassId} {b L : Nat} {xs : Nat → Int32} (hL : L ≤ 1536) (C0 : lw_At p s m meth c b L xs) (hK : va_K D vwCl (kTy cI cZ cP) s) (hN : Nx s) {aX aM : Nat} {k : Nat} (hk : k ≤ 511) (hi : 3 * k + 3 ≤ L) (nxt : ∀ (w : va_W) (H : Heap) (locs : List Loc) (ls : Array Slot), LI cI cZ cP (k + 1) aX aM w → va_P D vwCl w H → va_D (fun q : Nat => s.heap.size ≤ q) w → va_S (fun q : Nat => s.heap.size ≤ q) s.heap H locs → lv_has ls 4 [(0, .ref b), (1, .ref aX), (2, .ref aM), (3, .int (nI (3 * (k + 1))))] → W p l e room_1 s m #[Value.ref b] below meth c H locs (31 + 13 * (k + 1)) (873 + 144 * (k + 1)) (lw_Z below #[Value.ref b] s) (F0 m 18 ls [])) : ∀ (w : va_W) (H : Heap) (locs : List Loc) (ls : Array Slot), LI cI cZ cP k aX aM w → va_P D vwCl w H → va_D (fun q : Nat => s.heap.size ≤ q) w → va_S (fun q : Nat => s.heap.size ≤ q) s.heap H locs → lv_has ls 4 [(0, .ref b), (1, .ref aX), (2, .ref aM), (3, .int (nI (3 * k)))] → W p l e room_1 s m #[Value.ref b] below meth c H locs (31 + 13 * k) (873 + 144 * k) (lw_Z below #[Value.ref b] s) (F0 m 559 ls []) := by
  obtain ⟨hx, hb, hr, hml, hown, hts0, hX, hbl, hlocks, hgv⟩ := id C0
  have hts : ∀ w ∈ wsL_law, w.before #[Value.ref b] s = true := fun w h => hts0 w (wsL_law_in w h)
  have hown : s.vm.findClass RL = some m.cls := hown
  have hb : c.code = cL_law := hb
  have hA : ∀ q : Nat, s.heap.size ≤ q → (fun q : Nat => s.heap.size ≤ q) q := fun _ h => h
  have hbA : ¬ (fun q : Nat => s.heap.size ≤ q) b := Nat.not_le.mpr hbl
  intro w H locs ls hLI hP hD hS hl
  have hin1 : vp_in (nI (3 * k) + (1 : Int32)) L := by rw [show nI (3 * k) + (1 : Int32) = nI (3 * k + 1) from nI_add (3 * k) 1]; exact vp_in_nI (by omega) (by omega)
  obtain ⟨r, rc, rmm, S, w1, ⟨f1, f2, f3, f4⟩, ⟨g1, g2, g3, g4⟩, hc, hmem, hm⟩ := op_image (l := l) (D := D) (show k ≤ 512 by omega) hLI (xs (nI (3 * k) + (1 : Int32)).toNatClampNeg)
  obtain ⟨fs, hfs⟩ := hLI.hasX
  refine lv_aload_n hx hb dL_law_559 rfl (lv_at hl 1 rfl) ?_
  refine lv_aload_n hx hb dL_law_560 rfl (lv_at hl 0 rfl) ?_
  refine lv_iload_n hx hb dL_law_561 rfl (lv_at hl 3 rfl) ?_
  refine lv_iconst (v := (1 : Int32)) hx hb dL_law_562 (by decide) ?_
  refine lv_iadd hx hb dL_law_563 ?_
  refine va_sld hx hb hX hbl hbA hS hin1 dL_law_564 ?_
  refine fr_all_i (w := w) (w2 := w1) (c2 := 31 + 13 * (k + 1)) (s2 := 873 + 144 * (k + 1)) (fr_V (As := [.int (xs (nI (3 * k) + (1 : Int32)).toNatClampNeg)]) (rest := []) (C := RX5) ⟨hx, hb, hml, hown, hts⟩ hc gL_law_X5_image rfl (fr_preW (ci := 5) (T := TX5) (N := 3) hK hN hP hD rfl hfs) (n := 1) (by decide +kernel) ⟨show rc.frames + 1 ≤ 9 by omega, show 8 + (2 + 11) + rc.locals ≤ 322 by omega⟩ rfl hl.1 rfl (Nat.le_of_ble_eq_true rfl) dL_law_565 ⟨show 31 + 13 * k + rc.cells ≤ 600000 by omega, show 873 + 144 * k + rc.slots ≤ 7302250 by omega⟩) hD hS hA (by omega) (by omega) (fun u H locs hP hD hS => ?_)
  obtain ⟨w2, hc2, w3, hw3, hfst, hLI2⟩ := hm u
  obtain ⟨fs2, hfs2⟩ := hmem u
  refine lv_aload_n hx hb dL_law_568 rfl (lv_at hl 2 rfl) ?_
  refine lv_aload_n hx hb dL_law_569 rfl (lv_at hl 0 rfl) ?_
  refine lv_iload_n hx hb dL_law_570 rfl (lv_at hl 3 rfl) ?_
  refine lv_iconst (v := (1 : Int32)) hx hb dL_law_571 (by decide) ?_
  refine lv_iadd hx hb dL_law_572 ?_
  refine va_sld hx hb hX hbl hbA hS hin1 dL_law_573 ?_
  refine fr_all_i (w := w1 u) (w2 := fun _ : Unit => w2) (c2 := 31 + 13 * (k + 1)) (s2 := 873 + 144 * (k + 1)) (fr_V (As := [.int (xs (nI (3 * k) + (1 : Int32)).toNatClampNeg)]) (rest := [.int r]) (C := RX6) ⟨hx, hb, hml, hown, hts⟩ hc2 gL_law_X6_image rfl (fr_preW (ci := 6) (T := TX6) (N := 15) hK hN hP hD rfl hfs2) (n := 1) (by decide +kernel) ⟨show rmm.frames + 1 ≤ 9 by omega, show 8 + (2 + 11) + rmm.locals ≤ 322 by omega⟩ rfl hl.1 rfl (Nat.le_of_ble_eq_true rfl) dL_law_574 ⟨show 31 + 13 * (k + 1) + rmm.cells ≤ 600000 by omega, show 873 + 144 * (k + 1) + rmm.slots ≤ 7302250 by omega⟩) hD hS hA (by omega) (by omega) (fun _ H locs hP hD hS => ?_)
  refine lv_icmp_eq (tgt := 628) hx hb dL_law_577 (by decide) (fun _ => ?_) (fun z => absurd rfl z)
  refine lv_iinc (v := nI (3 * (k + 1))) (lv' := [(3, .int (nI (3 * (k + 1)))), (0, .ref b), (1, .ref aX), (2, .ref aM)]) hx hb dL_law_628 hl (k := 3) rfl (nI_add (3 * k) 3) (by decide) rfl (fun ls hl => ?_)
  refine lv_goto (tgt := 18) hx hb dL_law_631 (by decide) ?_
  exact nxt w3 H locs ls hLI2 (hw3 H hP) (va_D_fst hfst hD) hS (lv_sub hl [1, 2, 3, 0] rfl)
set_option maxHeartbeats 8000000 in
set_option maxRecDepth 100000 in
theorem law_restore {p : Program} {l : Launch} {e : Env} {s : State} {m : MethodId} {below : List Frame} {meth : Method} {c : Code} {D : va_G} {cI cZ cP : ClassId} {b L : Nat} {xs : Nat → Int32} (hL : L ≤ 1536) (C0 : lw_At p s m meth c b L xs) (hK : va_K D vwCl (kTy cI cZ cP) s) (hN : Nx s) {aX aM : Nat} {k : Nat} (hk : k ≤ 511) (hi : 3 * k + 3 ≤ L) (nxt : ∀ (w : va_W) (H : Heap) (locs : List Loc) (ls : Array Slot), LI cI cZ cP (k + 1) aX aM w → va_P D vwCl w H → va_D (fun q : Nat => s.heap.size ≤ q) w → va_S (fun q : Nat => s.heap.size ≤ q) s.heap H locs → lv_has ls 4 [(0, .ref b), (1, .ref aX), (2, .ref aM), (3, .int (nI (3 * (k + 1))))] → W p l e room_1 s m #[Value.ref b] below meth c H locs (31 + 13 * (k + 1)) (873 + 144 * (k + 1)) (lw_Z below #[Value.ref b] s) (F0 m 18 ls [])) : ∀ (w : va_W) (H : Heap) (locs : List Loc) (ls : Array Slot), LI cI cZ cP k aX aM w → va_P D vwCl w H → va_D (fun q : Nat => s.heap.size ≤ q) w → va_S (fun q : Nat => s.heap.size ≤ q) s.heap H locs → lv_has ls 4 [(0, .ref b), (1, .ref aX), (2, .ref aM), (3, .int (nI (3 * k)))] → W p l e room_1 s m #[Value.ref b] below meth c H locs (31 + 13 * k) (873 + 144 * k) (lw_Z below #[Value.ref b] s) (F0 m 582 ls []) := by
  obtain ⟨hx, hb, hr, hml, hown, hts0, hX, hbl, hlocks, hgv⟩ := id C0
  have hts : ∀ w ∈ wsL_law, w.before #[Value.ref b] s = true := fun w h => hts0 w (wsL_law_in w h)
  have hown : s.vm.findClass RL = some m.cls := hown
  have hb : c.code = cL_law := hb
  have hA : ∀ q : Nat, s.heap.size ≤ q → (fun q : Nat => s.heap.size ≤ q) q := fun _ h => h
  have hbA : ¬ (fun q : Nat => s.heap.size ≤ q) b := Nat.not_le.mpr hbl
  intro w H locs ls hLI hP hD hS hl
  have hin1 : vp_in (nI (3 * k) + (1 : Int32)) L := by rw [show nI (3 * k) + (1 : Int32) = nI (3 * k + 1) from nI_add (3 * k) 1]; exact vp_in_nI (by omega) (by omega)
  obtain ⟨r, rc, rmm, S, w1, ⟨f1, f2, f3, f4⟩, ⟨g1, g2, g3, g4⟩, hc, hmem, hm⟩ := op_restore (l := l) (D := D) (show k ≤ 512 by omega) hLI (xs (nI (3 * k) + (1 : Int32)).toNatClampNeg)
  obtain ⟨fs, hfs⟩ := hLI.hasX
  refine lv_aload_n hx hb dL_law_582 rfl (lv_at hl 1 rfl) ?_
  refine lv_aload_n hx hb dL_law_583 rfl (lv_at hl 0 rfl) ?_
  refine lv_iload_n hx hb dL_law_584 rfl (lv_at hl 3 rfl) ?_
  refine lv_iconst (v := (1 : Int32)) hx hb dL_law_585 (by decide) ?_
  refine lv_iadd hx hb dL_law_586 ?_
  refine va_sld hx hb hX hbl hbA hS hin1 dL_law_587 ?_
  refine fr_all_i (w := w) (w2 := w1) (c2 := 31 + 13 * (k + 1)) (s2 := 873 + 144 * (k + 1)) (fr_V (As := [.int (xs (nI (3 * k) + (1 : Int32)).toNatClampNeg)]) (rest := []) (C := RX5) ⟨hx, hb, hml, hown, hts⟩ hc gL_law_X5_restore rfl (fr_preW (ci := 5) (T := TX5) (N := 3) hK hN hP hD rfl hfs) (n := 1) (by decide +kernel) ⟨show rc.frames + 1 ≤ 9 by omega, show 8 + (2 + 11) + rc.locals ≤ 322 by omega⟩ rfl hl.1 rfl (Nat.le_of_ble_eq_true rfl) dL_law_588 ⟨show 31 + 13 * k + rc.cells ≤ 600000 by omega, show 873 + 144 * k + rc.slots ≤ 7302250 by omega⟩) hD hS hA (by omega) (by omega) (fun u H locs hP hD hS => ?_)
  obtain ⟨w2, hc2, w3, hw3, hfst, hLI2⟩ := hm u
  obtain ⟨fs2, hfs2⟩ := hmem u
  refine lv_aload_n hx hb dL_law_591 rfl (lv_at hl 2 rfl) ?_
  refine lv_aload_n hx hb dL_law_592 rfl (lv_at hl 0 rfl) ?_
  refine lv_iload_n hx hb dL_law_593 rfl (lv_at hl 3 rfl) ?_
  refine lv_iconst (v := (1 : Int32)) hx hb dL_law_594 (by decide) ?_
  refine lv_iadd hx hb dL_law_595 ?_
  refine va_sld hx hb hX hbl hbA hS hin1 dL_law_596 ?_
  refine fr_all_i (w := w1 u) (w2 := fun _ : Unit => w2) (c2 := 31 + 13 * (k + 1)) (s2 := 873 + 144 * (k + 1)) (fr_V (As := [.int (xs (nI (3 * k) + (1 : Int32)).toNatClampNeg)]) (rest := [.int r]) (C := RX6) ⟨hx, hb, hml, hown, hts⟩ hc2 gL_law_X6_restore rfl (fr_preW (ci := 6) (T := TX6) (N := 15) hK hN hP hD rfl hfs2) (n := 1) (by decide +kernel) ⟨show rmm.frames + 1 ≤ 9 by omega, show 8 + (2 + 11) + rmm.locals ≤ 322 by omega⟩ rfl hl.1 rfl (Nat.le_of_ble_eq_true rfl) dL_law_597 ⟨show 31 + 13 * (k + 1) + rmm.cells ≤ 600000 by omega, show 873 + 144 * (k + 1) + rmm.slots ≤ 7302250 by omega⟩) hD hS hA (by omega) (by omega) (fun _ H locs hP hD hS => ?_)
  refine lv_icmp_eq (tgt := 628) hx hb dL_law_600 (by decide) (fun _ => ?_) (fun z => absurd rfl z)
  refine lv_iinc (v := nI (3 * (k + 1))) (lv' := [(3, .int (nI (3 * (k + 1)))), (0, .ref b), (1, .ref aX), (2, .ref aM)]) hx hb dL_law_628 hl (k := 3) rfl (nI_add (3 * k) 3) (by decide) rfl (fun ls hl => ?_)
  refine lv_goto (tgt := 18) hx hb dL_law_631 (by decide) ?_
  exact nxt w3 H locs ls hLI2 (hw3 H hP) (va_D_fst hfst hD) hS (lv_sub hl [1, 2, 3, 0] rfl)
set_option maxHeartbeats 8000000 in
set_option maxRecDepth 100000 in
theorem law_told {p : Program} {l : Launch} {e : Env} {s : State} {m : MethodId} {below : List Frame} {meth : Method} {c : Code} {D : va_G} {cI cZ cP : ClassId} {b L : Nat} {xs : Nat → Int32} (hL : L ≤ 1536) (C0 : lw_At p s m meth c b L xs) (hK : va_K D vwCl (kTy cI cZ cP) s) (hN : Nx s) {aX aM : Nat} {k : Nat} (hk : k ≤ 511) (hi : 3 * k + 3 ≤ L) (nxt : ∀ (w : va_W) (H : Heap) (locs : List Loc) (ls : Array Slot), LI cI cZ cP (k + 1) aX aM w → va_P D vwCl w H → va_D (fun q : Nat => s.heap.size ≤ q) w → va_S (fun q : Nat => s.heap.size ≤ q) s.heap H locs → lv_has ls 4 [(0, .ref b), (1, .ref aX), (2, .ref aM), (3, .int (nI (3 * (k + 1))))] → W p l e room_1 s m #[Value.ref b] below meth c H locs (31 + 13 * (k + 1)) (873 + 144 * (k + 1)) (lw_Z below #[Value.ref b] s) (F0 m 18 ls [])) : ∀ (w : va_W) (H : Heap) (locs : List Loc) (ls : Array Slot), LI cI cZ cP k aX aM w → va_P D vwCl w H → va_D (fun q : Nat => s.heap.size ≤ q) w → va_S (fun q : Nat => s.heap.size ≤ q) s.heap H locs → lv_has ls 4 [(0, .ref b), (1, .ref aX), (2, .ref aM), (3, .int (nI (3 * k)))] → W p l e room_1 s m #[Value.ref b] below meth c H locs (31 + 13 * k) (873 + 144 * k) (lw_Z below #[Value.ref b] s) (F0 m 605 ls []) := by
  obtain ⟨hx, hb, hr, hml, hown, hts0, hX, hbl, hlocks, hgv⟩ := id C0
  have hts : ∀ w ∈ wsL_law, w.before #[Value.ref b] s = true := fun w h => hts0 w (wsL_law_in w h)
  have hown : s.vm.findClass RL = some m.cls := hown
  have hb : c.code = cL_law := hb
  have hA : ∀ q : Nat, s.heap.size ≤ q → (fun q : Nat => s.heap.size ≤ q) q := fun _ h => h
  have hbA : ¬ (fun q : Nat => s.heap.size ≤ q) b := Nat.not_le.mpr hbl
  intro w H locs ls hLI hP hD hS hl
  have hin1 : vp_in (nI (3 * k) + (1 : Int32)) L := by rw [show nI (3 * k) + (1 : Int32) = nI (3 * k + 1) from nI_add (3 * k) 1]; exact vp_in_nI (by omega) (by omega)
  obtain ⟨r, rc, rmm, S, w1, ⟨f1, f2, f3, f4⟩, ⟨g1, g2, g3, g4⟩, hc, hmem, hm⟩ := op_told (l := l) (D := D) (show k ≤ 512 by omega) hLI (xs (nI (3 * k) + (1 : Int32)).toNatClampNeg)
  obtain ⟨fs, hfs⟩ := hLI.hasX
  refine lv_aload_n hx hb dL_law_605 rfl (lv_at hl 1 rfl) ?_
  refine lv_aload_n hx hb dL_law_606 rfl (lv_at hl 0 rfl) ?_
  refine lv_iload_n hx hb dL_law_607 rfl (lv_at hl 3 rfl) ?_
  refine lv_iconst (v := (1 : Int32)) hx hb dL_law_608 (by decide) ?_
  refine lv_iadd hx hb dL_law_609 ?_
  refine va_sld hx hb hX hbl hbA hS hin1 dL_law_610 ?_
  refine fr_all_i (w := w) (w2 := w1) (c2 := 31 + 13 * (k + 1)) (s2 := 873 + 144 * (k + 1)) (fr_V (As := [.int (xs (nI (3 * k) + (1 : Int32)).toNatClampNeg)]) (rest := []) (C := RX5) ⟨hx, hb, hml, hown, hts⟩ hc gL_law_X5_told rfl (fr_preW (ci := 5) (T := TX5) (N := 3) hK hN hP hD rfl hfs) (n := 1) (by decide +kernel) ⟨show rc.frames + 1 ≤ 9 by omega, show 8 + (2 + 11) + rc.locals ≤ 322 by omega⟩ rfl hl.1 rfl (Nat.le_of_ble_eq_true rfl) dL_law_611 ⟨show 31 + 13 * k + rc.cells ≤ 600000 by omega, show 873 + 144 * k + rc.slots ≤ 7302250 by omega⟩) hD hS hA (by omega) (by omega) (fun u H locs hP hD hS => ?_)
  obtain ⟨w2, hc2, w3, hw3, hfst, hLI2⟩ := hm u
  obtain ⟨fs2, hfs2⟩ := hmem u
  refine lv_aload_n hx hb dL_law_614 rfl (lv_at hl 2 rfl) ?_
  refine lv_aload_n hx hb dL_law_615 rfl (lv_at hl 0 rfl) ?_
  refine lv_iload_n hx hb dL_law_616 rfl (lv_at hl 3 rfl) ?_
  refine lv_iconst (v := (1 : Int32)) hx hb dL_law_617 (by decide) ?_
  refine lv_iadd hx hb dL_law_618 ?_
  refine va_sld hx hb hX hbl hbA hS hin1 dL_law_619 ?_
  refine fr_all_i (w := w1 u) (w2 := fun _ : Unit => w2) (c2 := 31 + 13 * (k + 1)) (s2 := 873 + 144 * (k + 1)) (fr_V (As := [.int (xs (nI (3 * k) + (1 : Int32)).toNatClampNeg)]) (rest := [.int r]) (C := RX6) ⟨hx, hb, hml, hown, hts⟩ hc2 gL_law_X6_told rfl (fr_preW (ci := 6) (T := TX6) (N := 15) hK hN hP hD rfl hfs2) (n := 1) (by decide +kernel) ⟨show rmm.frames + 1 ≤ 9 by omega, show 8 + (2 + 11) + rmm.locals ≤ 322 by omega⟩ rfl hl.1 rfl (Nat.le_of_ble_eq_true rfl) dL_law_620 ⟨show 31 + 13 * (k + 1) + rmm.cells ≤ 600000 by omega, show 873 + 144 * (k + 1) + rmm.slots ≤ 7302250 by omega⟩) hD hS hA (by omega) (by omega) (fun _ H locs hP hD hS => ?_)
  refine lv_icmp_eq (tgt := 628) hx hb dL_law_623 (by decide) (fun _ => ?_) (fun z => absurd rfl z)
  refine lv_iinc (v := nI (3 * (k + 1))) (lv' := [(3, .int (nI (3 * (k + 1)))), (0, .ref b), (1, .ref aX), (2, .ref aM)]) hx hb dL_law_628 hl (k := 3) rfl (nI_add (3 * k) 3) (by decide) rfl (fun ls hl => ?_)
  refine lv_goto (tgt := 18) hx hb dL_law_631 (by decide) ?_
  exact nxt w3 H locs ls hLI2 (hw3 H hP) (va_D_fst hfst hD) hS (lv_sub hl [1, 2, 3, 0] rfl)
set_option maxHeartbeats 8000000 in
set_option maxRecDepth 100000 in
theorem law_loop {p : Program} {l : Launch} {e : Env} {s : State} {m : MethodId} {below : List Frame} {meth : Method} {c : Code} {D : va_G} {cI cZ cP : ClassId} {b L : Nat} {xs : Nat → Int32} (hL : L ≤ 1536) (C0 : lw_At p s m meth c b L xs) (hK : va_K D vwCl (kTy cI cZ cP) s) (hN : Nx s) {aX aM : Nat} : ∀ (n k : Nat), k + n = 513 → k ≤ 512 → ∀ (w : va_W) (H : Heap) (locs : List Loc) (ls : Array Slot), LI cI cZ cP k aX aM w → va_P D vwCl w H → va_D (fun q : Nat => s.heap.size ≤ q) w → va_S (fun q : Nat => s.heap.size ≤ q) s.heap H locs → lv_has ls 4 [(0, .ref b), (1, .ref aX), (2, .ref aM), (3, .int (nI (3 * k)))] → W p l e room_1 s m #[Value.ref b] below meth c H locs (31 + 13 * k) (873 + 144 * k) (lw_Z below #[Value.ref b] s) (F0 m 18 ls []) := by
  obtain ⟨hx, hb, hr, hml, hown, hts0, hX, hbl, hlocks, hgv⟩ := id C0
  have hb : c.code = cL_law := hb
  have hA : ∀ q : Nat, s.heap.size ≤ q → (fun q : Nat => s.heap.size ≤ q) q := fun _ h => h
  have hbA : ¬ (fun q : Nat => s.heap.size ≤ q) b := Nat.not_le.mpr hbl
  intro n
  induction n with
  | zero => intro k h1 h2; exact absurd h1 (by omega)
  | succ n ih =>
    intro k h1 h2 w H locs ls hLI hP hD hS hl
    refine lv_iload_n hx hb dL_law_18 rfl (lv_at hl 3 rfl) ?_
    refine lv_aload_n hx hb dL_law_19 rfl (lv_at hl 0 rfl) ?_
    refine va_slen hx hb hX hbl hbA hS dL_law_20 ?_
    refine lv_iconst (v := (3 : Int32)) hx hb dL_law_21 (by decide) ?_
    refine lv_isub hx hb dL_law_22 ?_
    have hsub : (Int32.ofNat L - (3 : Int32)).toInt = (L : Int) - 3 := by
      have q1 : (Int32.ofNat L).toInt = (L : Int) := nI_toInt (by omega)
      rw [tI_sub (by rw [q1, show (3 : Int32).toInt = 3 from rfl]; omega) (by rw [q1, show (3 : Int32).toInt = 3 from rfl]; omega), q1]
      rfl
    refine lv_icmp_gt (tgt := 634) hx hb dL_law_23 (by decide) (fun c1 => ?_) (fun c1 => ?_)
    · refine lv_iconst (v := 1) hx hb dL_law_634 (by decide) ?_
      refine va_forget (fun q hq => hS.2.2 q hq) ?_
      refine W.widen (k := 600000) (n := 7302250) (by omega) (by omega) ?_
      exact lw_ret hx hb hr hlocks dL_law_635
    · have hi : 3 * k + 3 ≤ L := by
        rw [Int32.lt_iff_toInt_lt, hsub, nI_toInt (by omega)] at c1
        omega
      have hk : k ≤ 511 := by omega
      have nxt : ∀ (w : va_W) (H : Heap) (locs : List Loc) (ls : Array Slot), LI cI cZ cP (k + 1) aX aM w → va_P D vwCl w H → va_D (fun q : Nat => s.heap.size ≤ q) w → va_S (fun q : Nat => s.heap.size ≤ q) s.heap H locs → lv_has ls 4 [(0, .ref b), (1, .ref aX), (2, .ref aM), (3, .int (nI (3 * (k + 1))))] → W p l e room_1 s m #[Value.ref b] below meth c H locs (31 + 13 * (k + 1)) (873 + 144 * (k + 1)) (lw_Z below #[Value.ref b] s) (F0 m 18 ls []) := fun w H locs ls => ih (k + 1) (by omega) (by omega) w H locs ls
      refine lv_aload_n hx hb dL_law_26 rfl (lv_at hl 0 rfl) ?_
      refine lv_iload_n hx hb dL_law_27 rfl (lv_at hl 3 rfl) ?_
      refine va_sld hx hb hX hbl hbA hS (vp_in_nI (by omega) (by omega)) dL_law_28 ?_
      refine lv_bipush (v := (31 : Int32)) hx hb dL_law_29 (by decide) ?_
      refine lv_iand hx hb dL_law_31 ?_
      refine lv_topi (fun v ev => ?_)
      clear ev
      by_cases c_0 : v = (0 : Int32)
      · refine lv_tableIn (tgt := 128) hx hb dL_law_32 (by rw [c_0]; decide) (by rw [c_0]; decide) (off := 96) (by rw [c_0]; rfl) (by decide) ?_
        exact law_mode hL C0 hK hN hk hi nxt w H locs ls hLI hP hD hS hl
      by_cases c_1 : v = (1 : Int32)
      · refine lv_tableIn (tgt := 151) hx hb dL_law_32 (by rw [c_1]; decide) (by rw [c_1]; decide) (off := 119) (by rw [c_1]; rfl) (by decide) ?_
        exact law_shrink hL C0 hK hN hk hi nxt w H locs ls hLI hP hD hS hl
      by_cases c_2 : v = (2 : Int32)
      · refine lv_tableIn (tgt := 174) hx hb dL_law_32 (by rw [c_2]; decide) (by rw [c_2]; decide) (off := 142) (by rw [c_2]; rfl) (by decide) ?_
        exact law_stock hL C0 hK hN hk hi nxt w H locs ls hLI hP hD hS hl
      by_cases c_3 : v = (3 : Int32)
      · refine lv_tableIn (tgt := 207) hx hb dL_law_32 (by rw [c_3]; decide) (by rw [c_3]; decide) (off := 175) (by rw [c_3]; rfl) (by decide) ?_
        exact law_drop hL C0 hK hN hk hi nxt w H locs ls hLI hP hD hS hl
      by_cases c_4 : v = (4 : Int32)
      · refine lv_tableIn (tgt := 230) hx hb dL_law_32 (by rw [c_4]; decide) (by rw [c_4]; decide) (off := 198) (by rw [c_4]; rfl) (by decide) ?_
        exact law_kind hL C0 hK hN hk hi nxt w H locs ls hLI hP hD hS hl
      by_cases c_5 : v = (5 : Int32)
      · refine lv_tableIn (tgt := 263) hx hb dL_law_32 (by rw [c_5]; decide) (by rw [c_5]; decide) (off := 231) (by rw [c_5]; rfl) (by decide) ?_
        exact law_find hL C0 hK hN hk hi nxt w H locs ls hLI hP hD hS hl
      by_cases c_6 : v = (6 : Int32)
      · refine lv_tableIn (tgt := 286) hx hb dL_law_32 (by rw [c_6]; decide) (by rw [c_6]; decide) (off := 254) (by rw [c_6]; rfl) (by decide) ?_
        exact law_cell hL C0 hK hN hk hi nxt w H locs ls hLI hP hD hS hl
      by_cases c_7 : v = (7 : Int32)
      · refine lv_tableIn (tgt := 309) hx hb dL_law_32 (by rw [c_7]; decide) (by rw [c_7]; decide) (off := 277) (by rw [c_7]; rfl) (by decide) ?_
        exact law_change hL C0 hK hN hk hi nxt w H locs ls hLI hP hD hS hl
      by_cases c_8 : v = (8 : Int32)
      · refine lv_tableIn (tgt := 342) hx hb dL_law_32 (by rw [c_8]; decide) (by rw [c_8]; decide) (off := 310) (by rw [c_8]; rfl) (by decide) ?_
        exact law_remove hL C0 hK hN hk hi nxt w H locs ls hLI hP hD hS hl
      by_cases c_9 : v = (9 : Int32)
      · refine lv_tableIn (tgt := 365) hx hb dL_law_32 (by rw [c_9]; decide) (by rw [c_9]; decide) (off := 333) (by rw [c_9]; rfl) (by decide) ?_
        exact law_difference hL C0 hK hN hk hi nxt w H locs ls hLI hP hD hS hl
      by_cases c_10 : v = (10 : Int32)
      · refine lv_tableIn (tgt := 398) hx hb dL_law_32 (by rw [c_10]; decide) (by rw [c_10]; decide) (off := 366) (by rw [c_10]; rfl) (by decide) ?_
        exact law_auction hL C0 hK hN hk hi nxt w H locs ls hLI hP hD hS hl
      by_cases c_11 : v = (11 : Int32)
      · refine lv_tableIn (tgt := 411) hx hb dL_law_32 (by rw [c_11]; decide) (by rw [c_11]; decide) (off := 379) (by rw [c_11]; rfl) (by decide) ?_
        exact law_repair hL C0 hK hN hk hi nxt w H locs ls hLI hP hD hS hl
      by_cases c_12 : v = (12 : Int32)
      · refine lv_tableIn (tgt := 424) hx hb dL_law_32 (by rw [c_12]; decide) (by rw [c_12]; decide) (off := 392) (by rw [c_12]; rfl) (by decide) ?_
        exact law_phase hL C0 hK hN hk hi nxt w H locs ls hLI hP hD hS hl
      by_cases c_13 : v = (13 : Int32)
      · refine lv_tableIn (tgt := 457) hx hb dL_law_32 (by rw [c_13]; decide) (by rw [c_13]; decide) (off := 425) (by rw [c_13]; rfl) (by decide) ?_
        exact law_place hL C0 hK hN hk hi nxt w H locs ls hLI hP hD hS hl
      by_cases c_14 : v = (14 : Int32)
      · refine lv_tableIn (tgt := 480) hx hb dL_law_32 (by rw [c_14]; decide) (by rw [c_14]; decide) (off := 448) (by rw [c_14]; rfl) (by decide) ?_
        exact law_slot hL C0 hK hN hk hi nxt w H locs ls hLI hP hD hS hl
      by_cases c_15 : v = (15 : Int32)
      · refine lv_tableIn (tgt := 513) hx hb dL_law_32 (by rw [c_15]; decide) (by rw [c_15]; decide) (off := 481) (by rw [c_15]; rfl) (by decide) ?_
        exact law_gain hL C0 hK hN hk hi nxt w H locs ls hLI hP hD hS hl
      by_cases c_16 : v = (16 : Int32)
      · refine lv_tableIn (tgt := 546) hx hb dL_law_32 (by rw [c_16]; decide) (by rw [c_16]; decide) (off := 514) (by rw [c_16]; rfl) (by decide) ?_
        exact law_total hL C0 hK hN hk hi nxt w H locs ls hLI hP hD hS hl
      by_cases c_17 : v = (17 : Int32)
      · refine lv_tableIn (tgt := 559) hx hb dL_law_32 (by rw [c_17]; decide) (by rw [c_17]; decide) (off := 527) (by rw [c_17]; rfl) (by decide) ?_
        exact law_image hL C0 hK hN hk hi nxt w H locs ls hLI hP hD hS hl
      by_cases c_18 : v = (18 : Int32)
      · refine lv_tableIn (tgt := 582) hx hb dL_law_32 (by rw [c_18]; decide) (by rw [c_18]; decide) (off := 550) (by rw [c_18]; rfl) (by decide) ?_
        exact law_restore hL C0 hK hN hk hi nxt w H locs ls hLI hP hD hS hl
      by_cases c_19 : v = (19 : Int32)
      · refine lv_tableIn (tgt := 605) hx hb dL_law_32 (by rw [c_19]; decide) (by rw [c_19]; decide) (off := 573) (by rw [c_19]; rfl) (by decide) ?_
        exact law_told hL C0 hK hN hk hi nxt w H locs ls hLI hP hD hS hl
      have n_0 := lv_neT c_0 (show (0 : Int32).toInt = 0 from rfl)
      have n_1 := lv_neT c_1 (show (1 : Int32).toInt = 1 from rfl)
      have n_2 := lv_neT c_2 (show (2 : Int32).toInt = 2 from rfl)
      have n_3 := lv_neT c_3 (show (3 : Int32).toInt = 3 from rfl)
      have n_4 := lv_neT c_4 (show (4 : Int32).toInt = 4 from rfl)
      have n_5 := lv_neT c_5 (show (5 : Int32).toInt = 5 from rfl)
      have n_6 := lv_neT c_6 (show (6 : Int32).toInt = 6 from rfl)
      have n_7 := lv_neT c_7 (show (7 : Int32).toInt = 7 from rfl)
      have n_8 := lv_neT c_8 (show (8 : Int32).toInt = 8 from rfl)
      have n_9 := lv_neT c_9 (show (9 : Int32).toInt = 9 from rfl)
      have n_10 := lv_neT c_10 (show (10 : Int32).toInt = 10 from rfl)
      have n_11 := lv_neT c_11 (show (11 : Int32).toInt = 11 from rfl)
      have n_12 := lv_neT c_12 (show (12 : Int32).toInt = 12 from rfl)
      have n_13 := lv_neT c_13 (show (13 : Int32).toInt = 13 from rfl)
      have n_14 := lv_neT c_14 (show (14 : Int32).toInt = 14 from rfl)
      have n_15 := lv_neT c_15 (show (15 : Int32).toInt = 15 from rfl)
      have n_16 := lv_neT c_16 (show (16 : Int32).toInt = 16 from rfl)
      have n_17 := lv_neT c_17 (show (17 : Int32).toInt = 17 from rfl)
      have n_18 := lv_neT c_18 (show (18 : Int32).toInt = 18 from rfl)
      have n_19 := lv_neT c_19 (show (19 : Int32).toInt = 19 from rfl)
      refine lv_tableOut (tgt := 628) hx hb dL_law_32 (by omega) (by decide) ?_
      refine lv_iinc (v := nI (3 * (k + 1))) (lv' := [(3, .int (nI (3 * (k + 1)))), (0, .ref b), (1, .ref aX), (2, .ref aM)]) hx hb dL_law_628 hl (k := 3) rfl (nI_add (3 * k) 3) (by decide) rfl (fun ls hl => ?_)
      refine lv_goto (tgt := 18) hx hb dL_law_631 (by decide) ?_
      refine W.widen (k := 31 + 13 * (k + 1)) (n := 873 + 144 * (k + 1)) (by omega) (by omega) ?_
      exact nxt w H locs ls hLI.mono hP hD hS (lv_sub hl [1, 2, 3, 0] rfl)
