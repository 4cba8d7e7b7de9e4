/-! The law's static methods: a call that may throw, and its catching. -/
def v_nc : List (String × String) := [(E_I, E_U), (E_A, E_U), (E_A, E_I), (E_S, E_U), (E_S, E_I), (E_S, E_A)]
def v_pre (B : Nat) (D : va_G) (K : Nat → ClassId) (ad : Nat → Nat) (sz : Nat) (S : z_S) (U : State) : Prop := z_pre B D K ad sz S U ∧ ∀ q ∈ v_nc, va_Nc q.1 q.2 U
def v_Q (B : Nat) (D : va_G) (K : Nat → ClassId) (ad : Nat → Nat) (sz : Nat) (code : Nat) (P : (Nat → Int64) → Prop) (S1 : z_S) : Array Value → State → Outcome → State → Prop := fun _ st oc t => (oc = .returned (some (.int (nI code))) ∧ ∃ lg : Nat → Int64, P lg ∧ va_P D vwCl (z_ws B K ad (q_ul S1 lg)) t.heap ∧ z_fit S1) ∧ va_F (z_A ad sz) st t
/-- a static method with a table: name, code, locals, table -/
abbrev v_I : Type := MethodName × ByteArray × Nat × List (Nat × Nat × Nat × Nat)
def v_Met (l : Launch) (Y : v_I) (fr lo B : Nat) (As : List Value) (S : z_S) (code : Nat) (P : (Nat → Int64) → Prop) (S1 : z_S) : Prop :=
  ∀ (D : va_G) (K : Nat → ClassId) (ad : Nat → Nat) (sz : Nat), z_ado ad sz → Met l Y.1 (Cond.codeWith Y.1 Y.2.1 Y.2.2.1 (some .int) Y.2.2.2 :: z_G) { frames := fr, locals := lo, cells := 1, slots := 6 } (va_Pc (As.map (z_v ad)) (v_pre B D K ad sz S)) (v_Q B D K ad sz code P S1) 1 6 (z_A ad sz)
def v_C (Y : v_I) (p : Program) (s : State) (m : MethodId) (args : Array Value) (meth : Method) (c : Code) (D : va_G) (K : Nat → ClassId) (ad : Nat → Nat) : Prop := p.tables.exec = Jvm.exec ∧ c.code = Y.2.1 ∧ meth.sig.returnType = some .int ∧ c.maxLocals = Y.2.2.1 ∧ s.vm.findClass Y.1.cls = some m.cls ∧ (∀ w ∈ z_G, w.before args s = true) ∧ meth.locks = false ∧ va_K D vwCl (z_tys K) s ∧ z_ado ad s.heap.size ∧ z_xs ad s.heap.size s ∧ c.exceptionTable.toList = tableOf Y.2.2.2 ∧ ∀ q ∈ v_nc, va_Nc q.1 q.2 s
theorem v_enter {l : Launch} {Y : v_I} {fr lo B : Nat} {As : List Value} {S S1 : z_S} {code : Nat} {P : (Nat → Int64) → Prop} (hy : plainName Y.1.cls = true) (hlen : (lg_sl As).length ≤ Y.2.2.1)
    (k : ∀ (p : Program) (e : Env) (s : State) (m : MethodId) (args : Array Value) (below : List Frame) (meth : Method) (c : Code) (D : va_G) (K : Nat → ClassId) (ad : Nat → Nat) (la : Array Slot), v_C Y p s m args meth c D K ad → lv_has la Y.2.2.1 (lv_args 0 (As.map (z_v ad))) → va_P D vwCl (z_ws B K ad S) s.heap → z_fit S → va_S (z_A ad s.heap.size) s.heap s.heap [] → W p l e { frames := fr, locals := lo, cells := 1, slots := 6 } s m args below meth c s.heap [] 0 0 (MQ below (v_Q B D K ad s.heap.size code P S1) args s 1 6 (z_A ad s.heap.size)) (F0 m 0 la [])) : v_Met l Y fr lo B As S code P S1 := by
  intro D K ad sz hado
  refine va_MetW (cc := Y.2.1) (maxL := Y.2.2.1) (ret := some .int) (hh := Y.2.2.2) hy rfl ?_
  intro p e s m args below meth c s₁ Bd hml hv
  obtain ⟨rfl, ⟨rfl, hP, hK, hf, hxs⟩, hnc⟩ := hv
  have hts := atoms_spec (ws := Cond.codeWith Y.1 Y.2.1 Y.2.2.1 (some .int) Y.2.2.2 :: z_G) Bd.pre
  have htab := vx_table (x := Y.1) Bd (hts _ List.mem_cons_self)
  rw [lg_entry_eq]
  have hle : (lg_sl (As.map (z_v ad))).length ≤ Y.2.2.1 := by rw [z_sl_len]; exact hlen
  have hl := lv_entry (As.map (z_v ad)) (n := Y.2.2.1) hle
  exact k p e s m _ below meth c D K ad _ ⟨Bd.exec, Bd.bytes, Bd.returns, hml, findClass_of_methodNamed Bd.named, fun w hw => hts w (List.mem_cons_of_mem _ hw), Bd.notSynchronized, hK, hado, hxs, htab, hnc⟩ hl hP hf va_S.rf
theorem v_blind {B : Nat} {S : z_S} {D : va_G} {K : Nat → ClassId} {ad : Nat → Nat} {sz : Nat} {av : List Value} : FrameBlind (va_Pc av (v_pre B D K ad sz S)) := by
  intro a U g mk h
  obtain ⟨h0, h1, h2⟩ := h
  have hz := z_blind (av := av) a U g mk ⟨h0, h1⟩
  exact ⟨hz.1, hz.2, fun q hq => va_Nc.moved (u := U) (U := U.calling g mk a) (Vm.Alike.refl U.vm) (h2 q hq)⟩
theorem v_l_at {B : Nat} {S : z_S} {K : Nat → ClassId} {ad : Nat → Nat} : (z_ws B K ad S)[66]? = some (ad 66, .inl (K 3, z_len B 66, .inr (.inl S.2.2))) := by
  rw [z_get (by decide)]; rfl
theorem v_ul_ws {B : Nat} {S : z_S} {K : Nat → ClassId} {ad : Nat → Nat} {f : Nat → Int64} : (z_ws B K ad S).set 66 (ad 66, .inl (K 3, z_len B 66, .inr (.inl f))) = z_ws B K ad (q_ul S f) := by
  refine z_set (k := 66) (e := .inl (3, z_len B 66, .inr (.inl f))) (by decide) rfl (fun j hj => ?_)
  have ht : j < 67 → z_tag j = 3 → j = 66 := (by decide +kernel : ∀ j, j < 67 → z_tag j = 3 → j = 66) j
  by_cases h3 : z_tag j = 3
  · by_cases h67 : j < 67
    · exact absurd (ht h67 h3) hj
    · exfalso
      have : z_tag j = 99 := by
        unfold z_tag
        rw [List.getD_eq_getElem?_getD, List.getElem?_eq_none (by simp; omega)]
        rfl
      omega
  · have e2 : z_fv (q_ul S f) j = z_fv S j := by funext q; cases q <;> rfl
    simp only [z_hp, h3, e2]
    rfl
section V
variable {p : Program} {l : Launch} {e : Env} {R : Room} {s : State} {m : MethodId} {args : Array Value} {below : List Frame} {meth : Method} {c : Code} {H : Heap} {locs : List Loc} {cells slots : Nat} {Q : State → Prop}
variable {B : Nat} {S S1 : z_S} {D : va_G} {K : Nat → ClassId} {ad : Nat → Nat} {A0 : Nat → Prop} {pc : Nat} {la : Array Slot} {rest As : List Value} {fr lo idx n a ci N : Nat} {T : u_T} {Y : z_I} {r : Option Int32} {own E : String} {cc : ByteArray} {nL : Nat}
theorem v_cont {st0 : List Value} {a : Array Value} (hr : va_Run p l e R s m args below meth c H locs cells slots 0 0 (F0 m pc la st0) rest (z_Qc B D K ad H.size (.inl r) S1 a) (z_A ad H.size)) (hS : va_S A0 s.heap H locs) (hF : ∀ q, z_A ad H.size q → A0 q)
    (kk : ∀ (H1 : Heap) (locs1 : List Loc), va_P D vwCl (z_ws B K ad S1) H1 → z_fit S1 → va_S A0 s.heap H1 locs1 → H.size ≤ H1.size → W p l e R s m args below meth c H1 locs1 cells slots Q (F0 m (pc + 3) la ((r.map Value.int).toList ++ rest))) : W p l e R s m args below meth c H locs cells slots Q (F0 m pc la st0) := by
  intro T hT X
  obtain ⟨v, st₀, t, T', L, h0, X', hL, e1, e2, ⟨⟨r', hr', hv⟩, hp1, hf1, hz, hk⟩, st⟩ := hr T hT X
  cases hr'
  cases hv
  rw [h0] at hz hk
  obtain ⟨t2, a1, b1⟩ := kk T'.heap (locs ++ L) (by rw [e1]; exact hp1) hf1
    ⟨Nat.le_trans hS.1 (by rw [e1]; exact hz), fun w h1 h2 => by rw [e1, hk w (Nat.lt_of_lt_of_le h1 hS.1) (fun z => h2 (hF w z))]; exact hS.2.1 w h1 h2, fun w hw => by
      rcases List.mem_append.mp hw with h | h
      · exact hS.2.2 w h
      · exact hF _ (hL w h)⟩ (by rw [e1]; exact hz) T' rfl X'
  exact ⟨t2, st t2 a1, b1⟩
/-- a call on an object of the layout: the callee returns -/
theorem v_callR (F : CallFix p m c cc nL s args z_G own) (hM : z_Met l Y fr lo B (.ref a :: As) S (.inl r) S1) (hado : z_ado ad H.size) (hK : va_K D vwCl (z_tys K) s) (hP : va_P D vwCl (z_ws B K ad S) H) (hU : ∀ U : State, U.heap = H → s.WarmedH U.vm → z_pre B D K ad H.size S U) (hS : va_S A0 s.heap H locs) (hF : ∀ q, z_A ad H.size q → A0 q) (ok : z_okV Y n) (w1 : Cond.methodLink own idx Y.1 ∈ z_G) (hc : vwCl[ci]? = some (Y.1.cls, T, N)) (ha : a < 67) (hci : z_tag a = ci + 10) (hn : As.length = n) (hla : la.size = nL) (hR : fr + 1 ≤ R.frames ∧ 8 + (Y.2.2.1 + 11) + lo ≤ R.locals) (hcs : cells ≤ R.cells ∧ slots ≤ R.slots) (hst : (rest.map fun v => v.category).sum ≤ 8) (d : decode cc pc = .ok (.invokevirtual idx, 3)) {st0 : List Value} (he : st0 = (As.map (z_v ad)).reverse ++ .ref (ad a) :: rest)
    (kk : ∀ (H1 : Heap) (locs1 : List Loc), va_P D vwCl (z_ws B K ad S1) H1 → z_fit S1 → va_S A0 s.heap H1 locs1 → H.size ≤ H1.size → W p l e R s m args below meth c H1 locs1 cells slots Q (F0 m (pc + 3) la ((r.map Value.int).toList ++ rest))) : W p l e R s m args below meth c H locs cells slots Q (F0 m pc la st0) := by
  subst he
  exact v_cont (va_runV (C := Y.1.cls) (As := As.map (z_v ad)) (rest := rest) F (z_ret_Met hM hado) (cwV n F.2.2.2.2 (z_wsV ok w1) rfl rfl rfl ⟨rfl, ok.2⟩ hR) ⟨z_blind, z_recv hK hP hc ha hci, fun U h1 h2 => ⟨rfl, hU U h1 h2⟩⟩ rfl (by rw [List.length_map]; exact hn) hla rfl (lv_room hst) d hcs) hS hF kk
/-- the callee throws, a row of this method's table takes it -/
theorem v_callX {X : v_I} {pre suf : List ExceptionTableEntry} {x : ExceptionTableEntry} (C : v_C X p s m args meth c D K ad) (hM : z_Met l Y fr lo B (.ref a :: As) S (.inr E) S1) (hP : va_P D vwCl (z_ws B K ad S) H) (hf : z_fit S) (hS : va_S (z_A ad s.heap.size) s.heap H locs) (ok : z_okV Y n) (w1 : Cond.methodLink X.1.cls idx Y.1 ∈ z_G) (hc : vwCl[ci]? = some (Y.1.cls, T, N)) (ha : a < 67) (hci : z_tag a = ci + 10) (hn : As.length = n) (hla : la.size = X.2.2.1) (hR : fr + 1 ≤ R.frames ∧ 8 + (Y.2.2.1 + 11) + lo ≤ R.locals) (hRc : R.cells = 1 ∧ R.slots = 6) (hst : (rest.map fun v => v.category).sum ≤ 8) (d : decode X.2.1 pc = .ok (.invokevirtual idx, 3)) {st0 : List Value} (he : st0 = (As.map (z_v ad)).reverse ++ .ref (ad a) :: rest)
    (hsplit : tableOf X.2.2.2 = pre ++ x :: suf) (hpass : ∀ z ∈ pre, z.catchType ≠ 0 ∧ ∃ nm : String, Cond.classLink X.1.cls z.catchType nm ∈ z_G ∧ (E, nm) ∈ v_nc) (hx : covers x pc = true) (h0 : x.catchType ≠ 0) (hlink : Cond.classLink X.1.cls x.catchType E ∈ z_G) (hcast : Cond.castable E E ∈ z_nw)
    (kk : ∀ (q : Nat) (H1 : Heap) (locs1 : List Loc), va_P D vwCl (z_ws B K ad S1) H1 → z_fit S1 → va_S (z_A ad s.heap.size) s.heap H1 locs1 → W p l e R s m args below meth c H1 locs1 1 6 Q (F0 m x.handlerPc la [.ref q])) : W p l e R s m args below meth c H locs 0 0 Q (F0 m pc la st0) := by
  subst he
  obtain ⟨hxx, hb, hr, hml, hown, hts, hlocks, hK, hado, hxs, htab, hnc⟩ := id C
  have hrun := vx_runV (C := Y.1.cls) (As := As.map (z_v ad)) (rest := rest) (locs := locs) (cells := 0) (slots := 0) (below := below) (e := e) (meth := meth) (g := F0 m pc la ((As.map (z_v ad)).reverse ++ Value.ref (ad a) :: rest)) (⟨hxx, hb, hml, hown, hts⟩ : CallFix p m c X.2.1 X.2.2.1 s args z_G X.1.cls) (hM D K ad H.size (z_ado_go hado hS.1)) (cwV n hts (z_wsV ok w1) rfl rfl rfl ⟨rfl, ok.2⟩ hR) ⟨z_blind, z_recv hK hP hc ha hci, fun U hU hW => ⟨rfl, z_preU hK hxs hP hf hS U hU hW⟩⟩ rfl (by rw [List.length_map]; exact hn) hla rfl (lv_room hst) d ⟨by rw [hRc.1]; exact Nat.le_refl _, by rw [hRc.2]; exact Nat.le_refl _⟩
  intro T' hT XX
  rcases hrun T' hT XX with ⟨v, st₀, t, T2, L, h9, X', hL, e1, e2, ⟨⟨r', hr', -⟩, -⟩, -⟩ | ⟨w, st₀, t, T2, L, E2, ce, h9, X', hL, e1, e2, ⟨hE, hp1, hf1, hz, hk⟩, hce, hcv, hcl, hst2⟩
  · cases hr'
  · cases hE
    rw [h9] at hz hk
    have hS1 : va_S (z_A ad s.heap.size) s.heap T2.heap (locs ++ L) := ⟨Nat.le_trans hS.1 (by rw [e1]; exact hz), fun w h1 h2 => by rw [e1, hk w (Nat.lt_of_lt_of_le h1 hS.1) (fun z => h2 (z_A_mono hS.1 z))]; exact hS.2.1 w h1 h2, fun w hw => by
      rcases List.mem_append.mp hw with h | h
      · exact hS.2.2 w h
      · exact z_A_mono hS.1 (hL w h)⟩
    obtain ⟨t2, a1, b1⟩ := zc_W (pc := pc) (ls := la) (st := rest) (H := T2.heap) (locs := locs ++ L) (cells := 1) (slots := 6) hown (htab.trans hsplit) (fun z hz => by
        obtain ⟨k1, nm, k2, k3⟩ := hpass z hz
        exact Or.inr ⟨k1, nm, hts _ k2, hnc _ k3⟩) hx h0 (hts _ hlink) (va_Nw.use (z_nw_ot _ hcast) (hxs.2.2.1 _ hcast)) (by rw [e1]; exact hce) hcv hcl (kk w T2.heap (locs ++ L) (by rw [e1]; exact hp1) hf1 hS1) T2 rfl X'
    exact ⟨t2, hst2.trans a1, b1⟩
/-- the law calls a static method of its own with a table -/
theorem v_callL {X : v_I} {code : Nat} {P : (Nat → Int64) → Prop} (F : CallFix p m c cc nL s args z_G own) (hM : v_Met l X fr lo B As S code P S1) (hado : z_ado ad H.size) (hU : ∀ U : State, U.heap = H → s.WarmedH U.vm → v_pre B D K ad H.size S U) (hS : va_S A0 s.heap H locs) (hF : ∀ q, z_A ad H.size q → A0 q) (wc : Cond.codeWith X.1 X.2.1 X.2.2.1 (some .int) X.2.2.2 ∈ z_G) (ws : Cond.static X.1 ∈ z_G) (wi : Cond.initialized X.1.cls ∈ z_G) (w1 : Cond.methodLink own idx X.1 ∈ z_G) (hd : X.1.cls ≠ "java/lang/invoke/MethodHandle" ∧ X.1.cls ≠ "java/lang/invoke/VarHandle" ∧ (parseMethodDescriptor X.1.desc).map (fun d => d.parameters.length) = some n) (hn : As.length = n) (hla : la.size = nL) (hR : fr + 1 ≤ R.frames ∧ 8 + (X.2.2.1 + 11) + lo ≤ R.locals) (hcs : cells + 1 ≤ R.cells ∧ slots + 6 ≤ R.slots) (hst : (rest.map fun v => v.category).sum ≤ 8) (d : decode cc pc = .ok (.invokestatic idx, 3)) {st0 : List Value} (he : st0 = (As.map (z_v ad)).reverse ++ rest)
    (kk : ∀ (lg : Nat → Int64) (H1 : Heap) (locs1 : List Loc), P lg → va_P D vwCl (z_ws B K ad (q_ul S1 lg)) H1 → z_fit S1 → va_S A0 s.heap H1 locs1 → H.size ≤ H1.size → W p l e R s m args below meth c H1 locs1 (cells + 1) (slots + 6) Q (F0 m (pc + 3) la (.int (nI code) :: rest))) : W p l e R s m args below meth c H locs cells slots Q (F0 m pc la st0) := by
  subst he
  have hG : GoodIn z_G (va_wsS own idx X.1 (Cond.codeWith X.1 X.2.1 X.2.2.1 (some .int) X.2.2.2 :: z_G)) := by
    refine z_Ggood fun w hw => ?_
    simp only [va_wsS, List.mem_append, List.mem_cons, List.not_mem_nil, or_false] at hw
    rcases hw with (rfl | rfl | rfl) | rfl | hw
    · exact w1
    · exact ws
    · exact wi
    · exact wc
    · exact hw
  have hrun := vx_runSW (hh := X.2.2.2) (As := As.map (z_v ad)) (rest := rest) (locs := locs) (cells := cells) (slots := slots) (below := below) (e := e) (meth := meth) (g := F0 m pc la ((As.map (z_v ad)).reverse ++ rest)) F (hM D K ad H.size hado) (vx_cwSW n F.2.2.2.2 hG rfl rfl rfl hd hR) ⟨v_blind, fun U h1 h2 => ⟨rfl, hU U h1 h2⟩⟩ rfl (by rw [List.length_map]; exact hn) hla rfl (lv_room hst) d hcs
  intro T hT XX
  obtain ⟨v, st₀, t, T', L, h0, X', hL, e1, e2, ⟨⟨hv, lg, hp, hp1, hf1⟩, hz, hk⟩, st⟩ := hrun T hT XX
  cases hv
  rw [h0] at hz hk
  obtain ⟨t2, a1, b1⟩ := kk lg T'.heap (locs ++ L) hp (by rw [e1]; exact hp1) hf1
    ⟨Nat.le_trans hS.1 (by rw [e1]; exact hz), fun w h1 h2 => by rw [e1, hk w (Nat.lt_of_lt_of_le h1 hS.1) (fun z => h2 (hF w z))]; exact hS.2.1 w h1 h2, fun w hw => by
      rcases List.mem_append.mp hw with h | h
      · exact hS.2.2 w h
      · exact hF _ (hL w h)⟩ (by rw [e1]; exact hz) T' rfl X'
  exact ⟨t2, st t2 a1, b1⟩
end V
