/-! Worlds in the making: contracts of constructors. -/
def y_pre (D : va_G) (K : Nat → ClassId) (ws : va_W) (sz : Nat) (U : State) : Prop := U.heap.size = sz ∧ va_P D vwCl ws U.heap ∧ va_K D vwCl (z_tys K) U ∧ va_D (fun _ => True) ws ∧ ∀ q ∈ z_nest, va_Nw (.methodLinkNest q.1 q.2.1 q.2.2.1 q.2.2.2) U
def y_Q (D : va_G) (A : Nat → Prop) (r : Option Int32) (W1 : (Nat → Nat) → va_W) : Array Value → State → Outcome → State → Prop := fun _ st oc t => (oc = .returned (r.map Value.int) ∧ ∃ u : Nat → Nat, va_P D vwCl (W1 u) t.heap ∧ va_D A (W1 u)) ∧ va_F A st t
/-- a contract: from the cells ws to the cells W1 u, at some addresses u; nothing else changes -/
def y_Met (l : Launch) (Y : z_I) (rm : Room) (D : va_G) (K : Nat → ClassId) (As : List Value) (ws : va_W) (r : Option Int32) (W1 : (Nat → Nat) → va_W) : Prop := ∀ sz, Met l Y.1 (Cond.code Y.1 Y.2.1 Y.2.2.1 Y.2.2.2 :: z_G) rm (va_Pc As (y_pre D K ws sz)) (y_Q D (va_A ws sz) r W1) rm.cells rm.slots (va_A ws sz)
def y_C (I : z_I) (p : Program) (s : State) (m : MethodId) (args : Array Value) (meth : Method) (c : Code) (D : va_G) (K : Nat → ClassId) : Prop := p.tables.exec = Jvm.exec ∧ c.code = I.2.1 ∧ meth.sig.returnType = I.2.2.2 ∧ c.maxLocals = I.2.2.1 ∧ s.vm.findClass I.1.cls = some m.cls ∧ (∀ w ∈ z_G, w.before args s = true) ∧ meth.locks = false ∧ va_K D vwCl (z_tys K) s ∧ (∀ q ∈ z_nest, va_Nw (.methodLinkNest q.1 q.2.1 q.2.2.1 q.2.2.2) s) ∧ meth.name = I.1.name
theorem y_enter {l : Launch} {I : z_I} {rm : Room} {D : va_G} {K : Nat → ClassId} {As : List Value} {ws : va_W} {r : Option Int32} {W1 : (Nat → Nat) → va_W} (hy : plainName I.1.cls = true) (hlen : (lg_sl As).length ≤ I.2.2.1)
    (k : ∀ (p : Program) (e : Env) (s : State) (m : MethodId) (args : Array Value) (below : List Frame) (meth : Method) (c : Code) (la : Array Slot) (A : Nat → Prop), y_C I p s m args meth c D K → lv_has la I.2.2.1 (lv_args 0 As) → va_P D vwCl ws s.heap → va_D A ws → va_S A s.heap s.heap [] → (∀ q : Nat, s.heap.size ≤ q → A q) → W p l e rm s m args below meth c s.heap [] 0 0 (MQ below (y_Q D A r W1) args s rm.cells rm.slots A) (F0 m 0 la [])) : y_Met l I rm D K As ws r W1 := by
  intro sz
  refine Met.ofW (cc := I.2.1) (maxL := I.2.2.1) (ret := I.2.2.2) hy rfl ?_
  intro p e s m args below meth c s₁ Bd hml hv
  obtain ⟨rfl, rfl, hP, hK, hD, hn⟩ := hv
  have hts := atoms_spec (ws := Cond.code I.1 I.2.1 I.2.2.1 I.2.2.2 :: z_G) Bd.pre
  rw [lg_entry_eq]
  have hl := lv_entry As (n := I.2.2.1) hlen
  exact k p e s m _ below meth c _ _ ⟨Bd.exec, Bd.bytes, Bd.returns, hml, findClass_of_methodNamed Bd.named, fun w hw => hts w (List.mem_cons_of_mem _ hw), Bd.notSynchronized, hK, hn, (name_of_methodNamed Bd.named Bd.method).1⟩ hl hP hD.self va_S.rf (fun q h => Or.inr h)
theorem y_blind {D : va_G} {K : Nat → ClassId} {ws : va_W} {sz : Nat} {av : List Value} : FrameBlind (va_Pc av (y_pre D K ws sz)) := by
  intro a U g mk h
  obtain ⟨h0, h1, h2, h3, h4, h5⟩ := h
  exact ⟨h0, h1, h2, va_K.moved (u := U) (U := U.calling g mk a) (Vm.Alike.refl U.vm) h3, h4, fun w hw => va_Nw.same rfl (u := U) (U := U.calling g mk a) rfl (h5 w hw)⟩
theorem y_sub {D : va_G} {ws wc : va_W} {H : Heap} (hP : va_P D vwCl ws H) (is : List Nat) (h : is.map (fun i => ws[i]?) = wc.map some) : va_P D vwCl wc H := by
  intro k q hq
  have h1 : (is.map (fun i => ws[i]?))[k]? = some (some q) := by rw [h, List.getElem?_map, hq]; rfl
  rw [List.getElem?_map] at h1
  cases hi : is[k]? with
  | none => rw [hi] at h1; cases h1
  | some i => rw [hi] at h1; exact hP i q (Option.some.inj h1)
theorem y_good {w : Cond} (h : w ∈ z_G) : GoodIn z_G (w :: z_G) := z_Ggood fun v hv => by
  rcases List.mem_cons.mp hv with rfl | hv
  · exact h
  · exact hv
/-- what is said of a constructor once -/
def y_okI (Y : z_I) (n : Nat) : Prop := (Cond.instanceMethod Y.1 ∈ z_G ∧ Cond.initialized Y.1.cls ∈ z_G ∧ Cond.code Y.1 Y.2.1 Y.2.2.1 none ∈ z_G) ∧ Y.1.name = "<init>" ∧ Y.2.2.2 = none ∧ Y.1.cls ≠ "java/lang/invoke/MethodHandle" ∧ Y.1.cls ≠ "java/lang/invoke/VarHandle" ∧ (parseMethodDescriptor Y.1.desc).map (fun d => d.parameters.length) = some n
section Y
variable {p : Program} {l : Launch} {e : Env} {R : Room} {s : State} {m : MethodId} {args : Array Value} {below : List Frame} {meth : Method} {c : Code} {H : Heap} {locs : List Loc} {cells slots : Nat} {Q : State → Prop}
variable {D : va_G} {K : Nat → ClassId} {A : Nat → Prop} {I : z_I} {ws wc wr : va_W} {pc : Nat} {la : Array Slot} {rest As : List Value} {rm : Room} {W1 : (Nat → Nat) → va_W} {r : Option Int32} {idx n b : Nat} {Y : z_I}
theorem y_topi {x v : Int32} (h : x = v) (k : W p l e R s m args below meth c H locs cells slots Q (F0 m pc la (.int v :: rest))) : W p l e R s m args below meth c H locs cells slots Q (F0 m pc la (.int x :: rest)) := by subst h; exact k
theorem y_in {i : Int32} {k N : Nat} (h0 : ¬ i < 0) (h1 : i.toNatClampNeg = k) (h2 : k < N) : vp_in i N := by
  show ¬ (i < 0 ∨ N ≤ i.toNatClampNeg)
  rw [h1]
  rintro (h | h)
  · exact h0 h
  · omega
theorem y_cont {A1 : Nat → Prop} {mc ms : Nat} {st0 : List Value} {a : Array Value} (hr : va_Run p l e R s m args below meth c H locs cells slots mc ms (F0 m pc la st0) rest (y_Q D A1 r W1 a) A1) (hS : va_S A s.heap H locs) (hF : ∀ q, A1 q → A q)
    (kk : ∀ (u : Nat → Nat) (H1 : Heap) (locs1 : List Loc), va_P D vwCl (W1 u) H1 → va_D A1 (W1 u) → (∀ q : Nat, q < H.size → ¬ A1 q → H1[q]? = H[q]?) → va_S A s.heap H1 locs1 → W p l e R s m args below meth c H1 locs1 (cells + mc) (slots + ms) Q (F0 m (pc + 3) la ((r.map Value.int).toList ++ rest))) : W p l e R s m args below meth c H locs cells slots Q (F0 m pc la st0) := by
  intro T hT X
  obtain ⟨v, st₀, t, T', L, h0, X', hL, e1, e2, ⟨⟨hv, u, hp1, hd1⟩, hz, hk⟩, st⟩ := hr T hT X
  cases hv
  rw [h0] at hz hk
  obtain ⟨t2, a1, b1⟩ := kk u T'.heap (locs ++ L) (by rw [e1]; exact hp1) hd1 (fun q h1 h2 => by rw [e1]; exact hk q h1 h2)
    ⟨Nat.le_trans hS.1 (by rw [e1]; exact hz), fun w h1 h2 => by rw [e1, hk w (Nat.lt_of_lt_of_le h1 hS.1) (fun z => h2 (hF w z))]; exact hS.2.1 w h1 h2, fun w hw => by
      rcases List.mem_append.mp hw with h | h
      · exact hS.2.2 w h
      · exact hF _ (hL w h)⟩ T' rfl X'
  exact ⟨t2, st t2 a1, b1⟩
theorem y_preU (C : y_C I p s m args meth c D K) (hP : va_P D vwCl wc H) (hD : va_D A wc) (U : State) (hU : U.heap = H) (hW : s.WarmedH U.vm) : y_pre D K wc H.size U :=
  ⟨by rw [hU], by rw [hU]; exact hP, va_K.moved hW.alike C.2.2.2.2.2.2.2.1, hD.weaken (fun _ _ _ _ => trivial), fun q hq => va_Nw.warmM hW (C.2.2.2.2.2.2.2.2.1 q hq)⟩
/-- the callee's cells and the rest -/
def y_cut (ws wc wr : va_W) (isC isR : List Nat) : Prop := isC.map (fun i => ws[i]?) = wc.map some ∧ isR.map (fun i => ws[i]?) = wr.map some ∧ va_nd isC = true ∧ va_nd isR = true ∧ ∀ i ∈ isR, i ∉ isC
theorem y_callI {isC isR : List Nat} (hM : y_Met l Y rm D K (.ref b :: As) wc none W1) (C : y_C I p s m args meth c D K) (hP : va_P D vwCl ws H) (hD : va_D A ws) (hS : va_S A s.heap H locs) (hA : ∀ q, s.heap.size ≤ q → A q) (hc : y_cut ws wc wr isC isR) (ok : y_okI Y n) (w1 : Cond.methodLink I.1.cls idx Y.1 ∈ z_G) (hlen : As.length = n) (hla : la.size = I.2.2.1) (hRm : rm.frames + 1 ≤ R.frames ∧ 8 + (Y.2.2.1 + 11) + rm.locals ≤ R.locals) (hst : (rest.map fun v => v.category).sum ≤ 8) (d : decode I.2.1 pc = .ok (.invokespecial idx, 3)) {mc ms : Nat} (hm : rm.cells = mc ∧ rm.slots = ms) (hcs : cells + mc ≤ R.cells ∧ slots + ms ≤ R.slots) {st0 : List Value} (he : st0 = As.reverse ++ .ref b :: rest)
    (kk : ∀ (u : Nat → Nat) (H1 : Heap) (locs1 : List Loc), va_P D vwCl (wr ++ W1 u) H1 → va_D A (wr ++ W1 u) → va_S A s.heap H1 locs1 → W p l e R s m args below meth c H1 locs1 (cells + mc) (slots + ms) Q (F0 m (pc + 3) la rest)) : W p l e R s m args below meth c H locs cells slots Q (F0 m pc la st0) := by
  subst he
  obtain ⟨rfl, rfl⟩ := hm
  obtain ⟨hC, hR, n1, n2, hd⟩ := hc
  have hFc := va_free (wc := wc) hD hS hA isC hC
  have hM' := hM H.size
  rw [ok.2.2.1] at hM'
  refine y_cont (va_runI (As := As) (rest := rest) ⟨C.1, C.2.1, C.2.2.2.1, C.2.2.2.2.1, C.2.2.2.2.2.1⟩ hM' (cwI n C.2.2.2.2.2.1 (y_good ok.1.2.2) rfl rfl rfl (C.2.2.2.2.2.1 _ ok.1.2.1) (C.2.2.2.2.2.1 _ w1) (C.2.2.2.2.2.1 _ ok.1.1) ok.2.1 ok.2.2.2 hRm) ⟨y_blind, fun U hU hW => ⟨rfl, y_preU C (y_sub hP isC hC) (hD.sub isC n1 hC) U hU hW⟩⟩ rfl hlen hla rfl (lv_room hst) d hcs) hS hFc (fun u H1 locs1 hP1 hD1 hk1 hS1 => ?_)
  obtain ⟨hP2, hD2⟩ := va_join (wr := wr) (w1 := W1 u) hP hD isC isR hC hR n2 hd hk1 hFc hP1 hD1
  exact kk u H1 locs1 hP2 hD2 hS1
/-- a nest mate's constructor -/
theorem y_callIN {isC isR : List Nat} {host : String} (hM : y_Met l Y rm D K (.ref b :: As) wc none W1) (C : y_C I p s m args meth c D K) (hP : va_P D vwCl ws H) (hD : va_D A ws) (hS : va_S A s.heap H locs) (hA : ∀ q, s.heap.size ≤ q → A q) (hc : y_cut ws wc wr isC isR) (ok : y_okI Y n) (w1 : (I.1.cls, idx, Y.1, host) ∈ z_nest) (hlen : As.length = n) (hla : la.size = I.2.2.1) (hRm : rm.frames + 1 ≤ R.frames ∧ 8 + (Y.2.2.1 + 11) + rm.locals ≤ R.locals) (hst : (rest.map fun v => v.category).sum ≤ 8) (d : decode I.2.1 pc = .ok (.invokespecial idx, 3)) {mc ms : Nat} (hm : rm.cells = mc ∧ rm.slots = ms) (hcs : cells + mc ≤ R.cells ∧ slots + ms ≤ R.slots) {st0 : List Value} (he : st0 = As.reverse ++ .ref b :: rest)
    (kk : ∀ (u : Nat → Nat) (H1 : Heap) (locs1 : List Loc), va_P D vwCl (wr ++ W1 u) H1 → va_D A (wr ++ W1 u) → va_S A s.heap H1 locs1 → W p l e R s m args below meth c H1 locs1 (cells + mc) (slots + ms) Q (F0 m (pc + 3) la rest)) : W p l e R s m args below meth c H locs cells slots Q (F0 m pc la st0) := by
  subst he
  obtain ⟨rfl, rfl⟩ := hm
  obtain ⟨hC, hR, n1, n2, hd⟩ := hc
  have hFc := va_free (wc := wc) hD hS hA isC hC
  have hM' := hM H.size
  rw [ok.2.2.1] at hM'
  refine y_cont (va_runIN (host := host) (As := As) (rest := rest) ⟨C.1, C.2.1, C.2.2.2.1, C.2.2.2.2.1, C.2.2.2.2.2.1⟩ hM' ⟨va_cnB n C.2.2.2.2.2.1 (y_good ok.1.2.2) rfl rfl rfl (C.2.2.2.2.2.2.2.2.1 _ w1) (C.2.2.2.2.2.1 _ ok.1.2.1) ok.2.2.2 hRm, ok.2.1, C.2.2.2.2.2.1 _ ok.1.1⟩ ⟨y_blind, fun U hU hW => ⟨rfl, y_preU C (y_sub hP isC hC) (hD.sub isC n1 hC) U hU hW⟩⟩ rfl hlen hla rfl (lv_room hst) d hcs) hS hFc (fun u H1 locs1 hP1 hD1 hk1 hS1 => ?_)
  obtain ⟨hP2, hD2⟩ := va_join (wr := wr) (w1 := W1 u) hP hD isC isR hC hR n2 hd hk1 hFc hP1 hD1
  exact kk u H1 locs1 hP2 hD2 hS1
theorem y_callS {isC isR : List Nat} (hM : y_Met l Y rm D K As wc r W1) (C : y_C I p s m args meth c D K) (hP : va_P D vwCl ws H) (hD : va_D A ws) (hS : va_S A s.heap H locs) (hA : ∀ q, s.heap.size ≤ q → A q) (hc : y_cut ws wc wr isC isR) (ok : z_okS Y n) (w1 : Cond.methodLink I.1.cls idx Y.1 ∈ z_G) (hlen : As.length = n) (hla : la.size = I.2.2.1) (hRm : rm.frames + 1 ≤ R.frames ∧ 8 + (Y.2.2.1 + 11) + rm.locals ≤ R.locals) (hst : (rest.map fun v => v.category).sum ≤ 8) (d : decode I.2.1 pc = .ok (.invokestatic idx, 3)) {mc ms : Nat} (hm : rm.cells = mc ∧ rm.slots = ms) (hcs : cells + mc ≤ R.cells ∧ slots + ms ≤ R.slots) {st0 : List Value} (he : st0 = As.reverse ++ rest)
    (kk : ∀ (u : Nat → Nat) (H1 : Heap) (locs1 : List Loc), va_P D vwCl (wr ++ W1 u) H1 → va_D A (wr ++ W1 u) → va_S A s.heap H1 locs1 → W p l e R s m args below meth c H1 locs1 (cells + mc) (slots + ms) Q (F0 m (pc + 3) la ((r.map Value.int).toList ++ rest))) : W p l e R s m args below meth c H locs cells slots Q (F0 m pc la st0) := by
  subst he
  obtain ⟨rfl, rfl⟩ := hm
  obtain ⟨hC, hR, n1, n2, hd⟩ := hc
  have hFc := va_free (wc := wc) hD hS hA isC hC
  refine y_cont (va_runS (As := As) (rest := rest) ⟨C.1, C.2.1, C.2.2.2.1, C.2.2.2.2.1, C.2.2.2.2.2.1⟩ (hM H.size) (va_cwS n C.2.2.2.2.2.1 (z_wsS ok w1) rfl rfl rfl ok.2 hRm) ⟨y_blind, fun U hU hW => ⟨rfl, y_preU C (y_sub hP isC hC) (hD.sub isC n1 hC) U hU hW⟩⟩ rfl hlen hla rfl (lv_room hst) d hcs) hS hFc (fun u H1 locs1 hP1 hD1 hk1 hS1 => ?_)
  obtain ⟨hP2, hD2⟩ := va_join (wr := wr) (w1 := W1 u) hP hD isC isR hC hR n2 hd hk1 hFc hP1 hD1
  exact kk u H1 locs1 hP2 hD2 hS1
theorem y_callSN {isC isR : List Nat} {host : String} (hM : y_Met l Y rm D K As wc r W1) (C : y_C I p s m args meth c D K) (hP : va_P D vwCl ws H) (hD : va_D A ws) (hS : va_S A s.heap H locs) (hA : ∀ q, s.heap.size ≤ q → A q) (hc : y_cut ws wc wr isC isR) (ok : z_okS Y n) (w1 : (I.1.cls, idx, Y.1, host) ∈ z_nest) (hlen : As.length = n) (hla : la.size = I.2.2.1) (hRm : rm.frames + 1 ≤ R.frames ∧ 8 + (Y.2.2.1 + 11) + rm.locals ≤ R.locals) (hst : (rest.map fun v => v.category).sum ≤ 8) (d : decode I.2.1 pc = .ok (.invokestatic idx, 3)) {mc ms : Nat} (hm : rm.cells = mc ∧ rm.slots = ms) (hcs : cells + mc ≤ R.cells ∧ slots + ms ≤ R.slots) {st0 : List Value} (he : st0 = As.reverse ++ rest)
    (kk : ∀ (u : Nat → Nat) (H1 : Heap) (locs1 : List Loc), va_P D vwCl (wr ++ W1 u) H1 → va_D A (wr ++ W1 u) → va_S A s.heap H1 locs1 → W p l e R s m args below meth c H1 locs1 (cells + mc) (slots + ms) Q (F0 m (pc + 3) la ((r.map Value.int).toList ++ rest))) : W p l e R s m args below meth c H locs cells slots Q (F0 m pc la st0) := by
  subst he
  obtain ⟨rfl, rfl⟩ := hm
  obtain ⟨hC, hR, n1, n2, hd⟩ := hc
  have hFc := va_free (wc := wc) hD hS hA isC hC
  refine y_cont (va_runSN (host := host) (As := As) (rest := rest) ⟨C.1, C.2.1, C.2.2.2.1, C.2.2.2.2.1, C.2.2.2.2.2.1⟩ (hM H.size) ⟨va_cnB n C.2.2.2.2.2.1 (y_good ok.1.2.2) rfl rfl rfl (C.2.2.2.2.2.2.2.2.1 _ w1) (C.2.2.2.2.2.1 _ ok.1.2.1) ok.2 hRm, C.2.2.2.2.2.1 _ ok.1.1, trivial⟩ ⟨y_blind, fun U hU hW => ⟨rfl, y_preU C (y_sub hP isC hC) (hD.sub isC n1 hC) U hU hW⟩⟩ rfl hlen hla rfl (lv_room hst) d hcs) hS hFc (fun u H1 locs1 hP1 hD1 hk1 hS1 => ?_)
  obtain ⟨hP2, hD2⟩ := va_join (wr := wr) (w1 := W1 u) hP hD isC isR hC hR n2 hd hk1 hFc hP1 hD1
  exact kk u H1 locs1 hP2 hD2 hS1
theorem y_callV {isC isR : List Nat} {ci q0 N : Nat} {T : u_T} {fs : List Value} (hM : y_Met l Y rm D K (.ref b :: As) wc r W1) (C : y_C I p s m args meth c D K) (hP : va_P D vwCl ws H) (hD : va_D A ws) (hS : va_S A s.heap H locs) (hA : ∀ q, s.heap.size ≤ q → A q) (hc : y_cut ws wc wr isC isR) (ok : z_okV Y n) (w1 : Cond.methodLink I.1.cls idx Y.1 ∈ z_G) (hcl : vwCl[ci]? = some (Y.1.cls, T, N)) (hq : ws[q0]? = some (b, .inr (ci, fs))) (hlen : As.length = n) (hla : la.size = I.2.2.1) (hRm : rm.frames + 1 ≤ R.frames ∧ 8 + (Y.2.2.1 + 11) + rm.locals ≤ R.locals) (hst : (rest.map fun v => v.category).sum ≤ 8) (d : decode I.2.1 pc = .ok (.invokevirtual idx, 3)) {mc ms : Nat} (hm : rm.cells = mc ∧ rm.slots = ms) (hcs : cells + mc ≤ R.cells ∧ slots + ms ≤ R.slots) {st0 : List Value} (he : st0 = As.reverse ++ .ref b :: rest)
    (kk : ∀ (u : Nat → Nat) (H1 : Heap) (locs1 : List Loc), va_P D vwCl (wr ++ W1 u) H1 → va_D A (wr ++ W1 u) → va_S A s.heap H1 locs1 → W p l e R s m args below meth c H1 locs1 (cells + mc) (slots + ms) Q (F0 m (pc + 3) la ((r.map Value.int).toList ++ rest))) : W p l e R s m args below meth c H locs cells slots Q (F0 m pc la st0) := by
  subst he
  obtain ⟨rfl, rfl⟩ := hm
  obtain ⟨hC, hR, n1, n2, hd⟩ := hc
  have hFc := va_free (wc := wc) hD hS hA isC hC
  refine y_cont (va_runV (C := Y.1.cls) (As := As) (rest := rest) ⟨C.1, C.2.1, C.2.2.2.1, C.2.2.2.2.1, C.2.2.2.2.2.1⟩ (hM H.size) (cwV n C.2.2.2.2.2.1 (z_wsV ok w1) rfl rfl rfl ⟨rfl, ok.2⟩ hRm) ⟨y_blind, va_recv C.2.2.2.2.2.2.2.1 hP (ci := ci) (q0 := q0) hcl hq, fun U hU hW => ⟨rfl, y_preU C (y_sub hP isC hC) (hD.sub isC n1 hC) U hU hW⟩⟩ rfl hlen hla rfl (lv_room hst) d hcs) hS hFc (fun u H1 locs1 hP1 hD1 hk1 hS1 => ?_)
  obtain ⟨hP2, hD2⟩ := va_join (wr := wr) (w1 := W1 u) hP hD isC isR hC hR n2 hd hk1 hFc hP1 hD1
  exact kk u H1 locs1 hP2 hD2 hS1
/-- a new array of ints, bytes or booleans: all 0 -/
theorem y_newi {t N : Nat} {v : Int32} {atype : ArrayType} {ty : FieldType} (C : y_C I p s m args meth c D K) (hty : newarray.typeOf atype = ty) (ht : (t = 0 ∧ ty = .int) ∨ (t = 1 ∧ ty = .byte) ∨ (t = 2 ∧ ty = .boolean)) (w : Cond.arrayClass ty ∈ z_G) (hP : va_P D vwCl ws H) (hD : va_D A ws) (hS : va_S A s.heap H locs) (hA : ∀ q, s.heap.size ≤ q → A q) (hn : ¬ v < 0) (hN : v.toNatClampNeg = N) (hN2 : N ≤ 30000) (hcells : cells + 1 ≤ R.cells) (hslots : slots + N ≤ R.slots) (d : decode I.2.1 pc = .ok (.newarray atype, 2))
    (kk : ∀ (q : Nat) (H1 : Heap), va_P D vwCl (ws ++ [(q, .inl (K t, N, .inl (fun _ => 0)))]) H1 → va_D A (ws ++ [(q, .inl (K t, N, .inl (fun _ => 0)))]) → va_S A s.heap H1 locs → W p l e R s m args below meth c H1 locs (cells + 1) (slots + N) Q (F0 m (pc + 2) la (.ref q :: rest))) : W p l e R s m args below meth c H locs cells slots Q (F0 m pc la (.int v :: rest)) := by
  have hK := C.2.2.2.2.2.2.2.1
  have hb : N * componentBytes ty ≤ 536870912 := by
    have h4 : componentBytes ty ≤ 8 := by rcases ht with ⟨-, rfl⟩ | ⟨-, rfl⟩ | ⟨-, rfl⟩ <;> decide
    have := Nat.mul_le_mul hN2 h4
    omega
  refine va_newa C.1 C.2.1 (by rw [hty]; exact C.2.2.2.2.2.1 _ w) hty hK hP hD hS hA (a0 := (N, .inl (fun _ => 0))) (fun cA => by rcases ht with ⟨-, rfl⟩ | ⟨-, rfl⟩ | ⟨-, rfl⟩ <;> rfl) hn hN hb hcells hslots d (fun q cA H1 hK1 hP1 hD1 hS1 => ?_)
  have e : cA = K t := by
    have h1 := (hK1.2 4 (cA, ty) rfl).2
    rcases ht with ⟨rfl, rfl⟩ | ⟨rfl, rfl⟩ | ⟨rfl, rfl⟩
    · exact Option.some.inj (h1.symm.trans (hK.2 0 _ rfl).2)
    · exact Option.some.inj (h1.symm.trans (hK.2 1 _ rfl).2)
    · exact Option.some.inj (h1.symm.trans (hK.2 2 _ rfl).2)
  subst e
  exact kk q H1 hP1 hD1 hS1
/-- a new array of longs -/
theorem y_newl {N : Nat} {v : Int32} {atype : ArrayType} (C : y_C I p s m args meth c D K) (hty : newarray.typeOf atype = .long) (w : Cond.arrayClass .long ∈ z_G) (hP : va_P D vwCl ws H) (hD : va_D A ws) (hS : va_S A s.heap H locs) (hA : ∀ q, s.heap.size ≤ q → A q) (hn : ¬ v < 0) (hN : v.toNatClampNeg = N) (hN2 : N ≤ 30000) (hcells : cells + 1 ≤ R.cells) (hslots : slots + N ≤ R.slots) (d : decode I.2.1 pc = .ok (.newarray atype, 2))
    (kk : ∀ (q : Nat) (H1 : Heap), va_P D vwCl (ws ++ [(q, .inl (K 3, N, .inr (.inl (fun _ => 0))))]) H1 → va_D A (ws ++ [(q, .inl (K 3, N, .inr (.inl (fun _ => 0))))]) → va_S A s.heap H1 locs → W p l e R s m args below meth c H1 locs (cells + 1) (slots + N) Q (F0 m (pc + 2) la (.ref q :: rest))) : W p l e R s m args below meth c H locs cells slots Q (F0 m pc la (.int v :: rest)) := by
  have hK := C.2.2.2.2.2.2.2.1
  have hb : N * componentBytes .long ≤ 536870912 := by
    have h4 : componentBytes .long ≤ 8 := by decide
    have := Nat.mul_le_mul hN2 h4
    omega
  refine va_newa C.1 C.2.1 (by rw [hty]; exact C.2.2.2.2.2.1 _ w) hty hK hP hD hS hA (a0 := (N, .inr (.inl (fun _ => 0)))) (fun cA => rfl) hn hN hb hcells hslots d (fun q cA H1 hK1 hP1 hD1 hS1 => ?_)
  have e : cA = K 3 := Option.some.inj ((hK1.2 4 (cA, .long) rfl).2.symm.trans (hK.2 3 _ rfl).2)
  subst e
  exact kk q H1 hP1 hD1 hS1
end Y
