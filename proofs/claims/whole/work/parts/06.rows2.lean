/-! Rows of the packed machine: boolean arrays, returns, fields, calls, throws, a method's entry. -/
section Z2
variable {l : Launch} {I : z_I} {R : Room} {B : Nat} {q : z_O × z_S} {pc pc' : Nat} {ls : List (Option Value)} {st : List Value} {S : z_S}
theorem z_zaload {a n : Nat} {i : Int32} (ha : z_arr B a 2 n) (hi : vp_in i n) (d : decode I.2.1 pc = .ok (.baload, 1)) (hp : pc + 1 = pc') (k : z_W l I R B q pc' ls (.int (S.1 a i.toNatClampNeg) :: st) S) : z_W l I R B q pc ls (.int i :: .ref a :: st) S := by
  subst hp
  intro p e s m args below meth c D K ad H locs la C hl hP hf hS
  exact va_zald C.1 C.2.1 C.2.2.2.2.2.2.2.1 hP a 2 (z_arr_at ha (by decide)) z_tys_at.2.2.1 hi d (k p e s m args below meth c D K ad H locs la C hl hP hf hS)
theorem z_zastore {a n : Nat} {i x : Int32} (ha : z_arr B a 2 n) (hi : vp_in i n) (d : decode I.2.1 pc = .ok (.bastore, 1)) (hp : pc + 1 = pc') (k : ∀ S', S' = z_ua S a (upd (S.1 a) i.toNatClampNeg (vp_nar .boolean x)) → z_W l I R B q pc' ls st S') : z_W l I R B q pc ls (.int x :: .int i :: .ref a :: st) S := by
  subst hp
  intro p e s m args below meth c D K ad H locs la C hl hP hf hS
  refine va_zast C.1 C.2.1 C.2.2.2.2.2.2.2.1 hP (z_D C.2.2.2.2.2.2.2.2.1) hS a 2 (z_arr_at ha (by decide)) z_tys_at.2.2.1 hi d (fun H1 locs1 hP1 _ hS1 => ?_)
  rw [z_ua_ws ha (by decide)] at hP1
  exact k _ rfl p e s m args below meth c D K ad H1 locs1 la C hl hP1 (z_fit_ua hf (fun h => by rw [ha.2.1] at h; cases h)) hS1
theorem z_ireturn {v : Int32} (hr : I.2.2.2 = some .int) (d : decode I.2.1 pc = .ok (.ireturn, 1)) (hq : q = (.inl (some v), S)) : z_W l I R B q pc ls [.int v] S := by
  subst hq
  intro p e s m args below meth c D K ad H locs la C hl hP hf hS
  exact vx_ret (W.iret C.1 C.2.1 (C.2.2.1.trans hr) (fun t ht _ => ⟨⟨some v, rfl, rfl⟩, by rw [ht]; exact hP, hf, hS.F ht⟩) hS.2.2 d C.2.2.2.2.2.2.1)
theorem z_zreturn {v : Int32} (hr : I.2.2.2 = some .boolean) (hn : v = 0 ∨ v = 1) (d : decode I.2.1 pc = .ok (.ireturn, 1)) (hq : q = (.inl (some v), S)) : z_W l I R B q pc ls [.int v] S := by
  subst hq
  intro p e s m args below meth c D K ad H locs la C hl hP hf hS
  exact vx_ret (W.zret C.1 C.2.1 (C.2.2.1.trans hr) (by rcases hn with rfl | rfl <;> rfl) (fun t ht _ => ⟨⟨some v, rfl, rfl⟩, by rw [ht]; exact hP, hf, hS.F ht⟩) hS.2.2 d C.2.2.2.2.2.2.1)
theorem z_return (hr : I.2.2.2 = none) (d : decode I.2.1 pc = .ok (.return_, 1)) (hq : q = (.inl none, S)) : z_W l I R B q pc ls [] S := by
  subst hq
  intro p e s m args below meth c D K ad H locs la C hl hP hf hS
  exact vx_ret (W.vret C.1 C.2.1 (C.2.2.1.trans hr) (fun t ht _ => ⟨⟨none, rfl, rfl⟩, by rw [ht]; exact hP, hf, hS.F ht⟩) hS.2.2 d C.2.2.2.2.2.2.1)
theorem z_obj_at {a ci : Nat} {K : Nat → ClassId} {ad : Nat → Nat} (ha : a < 67) (hci : z_tag a = ci + 10) : (z_ws B K ad S)[a]? = some (ad a, .inr (ci, ((z_fs a).map (z_fv S a)).map (z_v ad))) := by
  rw [z_get ha, z_hp_obj (by omega), hci]; rfl
theorem z_getf {a ci idx k N : Nat} {Cn : String} {T : u_T} {f : Nat ⊕ Nat} (hc : vwCl[ci]? = some (Cn, T, N)) (hk : k < N) (hw : Cond.fieldLink I.1.cls idx Cn (T k).2.1 (T k).2.2.1 ∈ z_G) (hin : ∀ w ∈ u_ws Cn T N, w ∈ z_G) (hd : (T k).1 = Cn) (ha : a < 67) (hci : z_tag a = ci + 10) (hf : (z_fs a)[k]? = some f)
    (d : decode I.2.1 pc = .ok (.getfield idx, 3)) (hp : pc + 3 = pc') (kk : z_W l I R B q pc' ls (z_fv S a f :: st) S) : z_W l I R B q pc ls (.ref a :: st) S := by
  subst hp
  intro p e s m args below meth c D K ad H locs la C hl hP hft hS
  exact va_get C.1 C.2.1 C.2.2.2.2.2.1 hin C.2.2.2.2.1 C.2.2.2.2.2.2.2.1 hP a (z_obj_at ha hci) hc k hk (C.2.2.2.2.2.1 _ hw) (fun x h => by rw [hd] at h; exact h) (v := z_v ad (z_fv S a f)) (by rw [List.getElem?_map, List.getElem?_map, hf]; rfl) d (kk p e s m args below meth c D K ad H locs la C hl hP hft hS)
theorem z_fit_ui {a k : Nat} {v : Int32} (h : z_fit S) : z_fit (z_ui S a k v) := h
theorem z_putf {a ci idx k N : Nat} {Cn : String} {T : u_T} {ty0 : Nat → FieldType} {ty : FieldType} {v : Int32} (hc : vwCl[ci]? = some (Cn, T, N)) (hk : k < N) (hw : Cond.fieldLink I.1.cls idx Cn (T k).2.1 (T k).2.2.1 ∈ z_G) (hin : ∀ w ∈ u_ws Cn T N, w ∈ z_G) (hd : (T k).1 = Cn)
    (hty : ∀ k, k < N → parseFieldDescriptor (T k).2.2.1 = some (ty0 k)) (hnm : ∀ a, a < N → ∀ b, b < N → a ≠ b → (T a).2.1 ≠ (T b).2.1) (hfin : (T k).2.2.2 = false) (hpd : parseFieldDescriptor (T k).2.2.1 = some ty) (hn : narrow ty (.int v) = .int v) (hfi : fits ty (.int v) = true)
    (ha : a < 67) (hci : z_tag a = ci + 10) (hf : (z_fs a)[k]? = some (.inr k)) (d : decode I.2.1 pc = .ok (.putfield idx, 3)) (hp : pc + 3 = pc') (kk : ∀ S', S' = z_ui S a k v → z_W l I R B q pc' ls st S') : z_W l I R B q pc ls (.int v :: .ref a :: st) S := by
  subst hp
  intro p e s m args below meth c D K ad H locs la C hl hP hft hS
  have hkl : k < (z_fs a).length := (List.getElem?_eq_some_iff.mp hf).1
  refine va_put C.1 C.2.1 C.2.2.2.2.2.1 hin ty0 hty hnm C.2.2.2.2.1 C.2.2.2.2.2.2.2.1 hP (z_D C.2.2.2.2.2.2.2.2.1) hS a (z_obj_at ha hci) hc k hk (C.2.2.2.2.2.1 _ hw) (fun x h => by rw [hd] at h; exact h) hfin hpd hn hfi (by simpa using hkl) d (fun H1 locs1 hP1 _ hS1 => ?_)
  have e1 : (z_ws B K ad S).set a (ad a, .inr (ci, (((z_fs a).map (z_fv S a)).map (z_v ad)).set k (.int v))) = z_ws B K ad (z_ui S a k v) := by
    have := z_set (B := B) (K := K) (ad := ad) (S := S) (S' := z_ui S a k v) (k := a) ha (z_ui_self ha (by omega) hf) (fun j hj => z_ui_ne hj)
    rw [← this, hci]
    simp only [z_tr, List.map_set, z_v]
    rfl
  replace hP1 : va_P D vwCl (z_ws B K ad (z_ui S a k v)) H1 := by rw [← e1]; exact hP1
  exact kk _ rfl p e s m args below meth c D K ad H1 locs1 la C hl hP1 hft hS1
theorem z_xs_go {ad : Nat → Nat} {s U : State} {H : Heap} {locs : List Loc} (h : z_xs ad s.heap.size s) (hS : va_S (z_A ad s.heap.size) s.heap H locs) (hW : s.WarmedH U.vm) (hU : U.heap = H) : z_xs ad H.size U := by
  obtain ⟨h1, h2, h9, h3, h4⟩ := h
  refine ⟨fun w hw => ?_, fun w hw => va_Nw.warmM hW (h2 w hw), fun w hw => z_nw_warm hW hw (h9 w hw), ?_, ?_⟩
  · obtain ⟨sa, hsa⟩ := h1 w hw
    exact ⟨sa, vk_R.warm hW hsa⟩
  · rw [hU]
    exact vx_Zq.moved hW.alike ((h3.kept (fun a _ hA => hS.2.1 a (by assumption) hA)).narrow (fun x hx => z_A_mono hS.1 hx))
  · rw [hU]
    exact vx_Zq.moved hW.alike ((h4.kept (fun a _ hA => hS.2.1 a (by assumption) hA)).narrow (fun x hx => z_A_mono hS.1 hx))
theorem z_blind {D : va_G} {K : Nat → ClassId} {ad : Nat → Nat} {sz : Nat} {av : List Value} : FrameBlind (va_Pc av (z_pre B D K ad sz S)) := by
  intro a U g mk h
  obtain ⟨h0, h1, h2, h3, h4, h5, h6, h9, h7, h8⟩ := h
  refine ⟨h0, h1, h2, va_K.moved (u := U) (U := U.calling g mk a) (Vm.Alike.refl U.vm) h3, h4, fun w hw => ?_, fun w hw => ?_, fun w hw => va_Nw.same (z_nw_ot w hw) (u := U) (U := U.calling g mk a) rfl (h9 w hw), ?_, ?_⟩
  · obtain ⟨sa, hsa⟩ := h5 w hw
    exact ⟨sa, vk_R.warm (s := U) (U := U.calling g mk a) (State.WarmedH.refl U) hsa⟩
  · exact va_Nw.same rfl (u := U) (U := U.calling g mk a) rfl (h6 w hw)
  · exact vx_Zq.moved (u := U) (U := U.calling g mk a) (Vm.Alike.refl U.vm) h7
  · exact vx_Zq.moved (u := U) (U := U.calling g mk a) (Vm.Alike.refl U.vm) h8
theorem z_ado_go {ad : Nat → Nat} {a b : Nat} (h : z_ado ad a) (hab : a ≤ b) : z_ado ad b := ⟨h.1, fun i hi => Nat.lt_of_lt_of_le (h.2 i hi) hab⟩
theorem z_preU {D : va_G} {K : Nat → ClassId} {ad : Nat → Nat} {s : State} {H : Heap} {locs : List Loc} (hK : va_K D vwCl (z_tys K) s) (hxs : z_xs ad s.heap.size s) (hP : va_P D vwCl (z_ws B K ad S) H) (hf : z_fit S) (hS : va_S (z_A ad s.heap.size) s.heap H locs) (U : State) (hU : U.heap = H) (hW : s.WarmedH U.vm) : z_pre B D K ad H.size S U :=
  ⟨by rw [hU], by rw [hU]; exact hP, va_K.moved hW.alike hK, hf, z_xs_go hxs hS hW hU⟩
theorem z_ret_Met {Y : z_I} {fr lo sz : Nat} {As : List Value} {r : Option Int32} {S1 : z_S} {D : va_G} {K : Nat → ClassId} {ad : Nat → Nat} (hM : z_Met l Y fr lo B As S (.inl r) S1) (ha : z_ado ad sz) : Met l Y.1 (Cond.code Y.1 Y.2.1 Y.2.2.1 Y.2.2.2 :: z_G) { frames := fr, locals := lo, cells := 0, slots := 0 } (va_Pc (As.map (z_v ad)) (z_pre B D K ad sz S)) (z_Qc B D K ad sz (.inl r) S1) 0 0 (z_A ad sz) := by
  intro p e h1 h2 h3 s m args below h4 h5 h6 h7
  obtain ⟨t, o, a1, b1, b2, b3⟩ := hM D K ad sz ha p e h1 h2 h3 s m args below h4 h5 h6 h7
  refine ⟨t, o, a1, b1, b2, ?_⟩
  rcases b3 with h | ⟨w, -, E, ce, L, ⟨hx, -⟩, -⟩
  · exact h
  · cases hx
/-- behind a callee that returned -/
theorem z_cont {p : Program} {e : Env} {s : State} {m : MethodId} {args : Array Value} {below : List Frame} {meth : Method} {c : Code} {D : va_G} {K : Nat → ClassId} {ad : Nat → Nat} {H : Heap} {locs : List Loc} {Q : State → Prop} {la : Array Slot} {st0 rest : List Value} {a : Array Value} {r : Option Int32} {S1 : z_S}
    (hr : va_Run p l e R s m args below meth c H locs 0 0 0 0 (F0 m pc la st0) rest (z_Qc B D K ad H.size (.inl r) S1 a) (z_A ad H.size)) (hS : va_S (z_A ad s.heap.size) s.heap H locs)
    (kk : ∀ (H1 : Heap) (locs1 : List Loc), va_P D vwCl (z_ws B K ad S1) H1 → z_fit S1 → va_S (z_A ad s.heap.size) s.heap H1 locs1 → W p l e R s m args below meth c H1 locs1 0 0 Q (F0 m (pc + 3) la ((r.map Value.int).toList ++ rest))) : W p l e R s m args below meth c H locs 0 0 Q (F0 m pc la st0) := by
  intro T hT X
  obtain ⟨v, st₀, t, T', L, h0, X', hL, e1, e2, ⟨⟨r', hr', hv⟩, hp1, hf1, hz, hk⟩, st⟩ := hr T hT X
  cases hr'
  cases hv
  rw [h0] at hz hk
  obtain ⟨t2, a1, b1⟩ := kk T'.heap (locs ++ L) (by rw [e1]; exact hp1) hf1
    ⟨Nat.le_trans hS.1 (by rw [e1]; exact hz), fun w h1 h2 => by rw [e1, hk w (Nat.lt_of_lt_of_le h1 hS.1) (fun z => h2 (z_A_mono hS.1 z))]; exact hS.2.1 w h1 h2, fun w hw => by
      rcases List.mem_append.mp hw with h | h
      · exact hS.2.2 w h
      · exact z_A_mono hS.1 (hL w h)⟩ T' rfl X'
  exact ⟨t2, st t2 a1, b1⟩
/-- what is said of a method once: its words among z_G, its descriptor's parameters -/
def z_okV (Y : z_I) (n : Nat) : Prop := (Cond.instanceMethod Y.1 ∈ z_G ∧ Cond.selects Y.1.cls Y.1 Y.1 ∈ z_G ∧ Cond.initialized Y.1.cls ∈ z_G ∧ Cond.code Y.1 Y.2.1 Y.2.2.1 Y.2.2.2 ∈ z_G) ∧ Y.1.cls ≠ "java/lang/invoke/MethodHandle" ∧ Y.1.cls ≠ "java/lang/invoke/VarHandle" ∧ (parseMethodDescriptor Y.1.desc).map (fun d => d.parameters.length) = some n
def z_okS (Y : z_I) (n : Nat) : Prop := (Cond.static Y.1 ∈ z_G ∧ Cond.initialized Y.1.cls ∈ z_G ∧ Cond.code Y.1 Y.2.1 Y.2.2.1 Y.2.2.2 ∈ z_G) ∧ Y.1.cls ≠ "java/lang/invoke/MethodHandle" ∧ Y.1.cls ≠ "java/lang/invoke/VarHandle" ∧ (parseMethodDescriptor Y.1.desc).map (fun d => d.parameters.length) = some n
theorem z_map_rev (ad : Nat → Nat) (As : List Value) (a : Nat) : (As.reverse ++ Value.ref a :: st).map (z_v ad) = (As.map (z_v ad)).reverse ++ Value.ref (ad a) :: st.map (z_v ad) := by simp [z_v]
theorem z_map_rev0 (ad : Nat → Nat) (As : List Value) : (As.reverse ++ st).map (z_v ad) = (As.map (z_v ad)).reverse ++ st.map (z_v ad) := by simp
theorem z_cats (ad : Nat → Nat) (v : List Value) : ((v.map (z_v ad)).map fun w => w.category).sum = (v.map fun w => w.category).sum := by
  congr 1
  rw [List.map_map]
  exact List.map_congr_left fun x _ => z_cat ad x
theorem z_back_st (ad : Nat → Nat) (r : Option Int32) : (r.map Value.int).toList ++ st.map (z_v ad) = ((r.map Value.int).toList ++ st).map (z_v ad) := by cases r <;> simp [z_v]
theorem z_wsV {own : String} {idx n : Nat} {Y : z_I} (h : z_okV Y n) (w1 : Cond.methodLink own idx Y.1 ∈ z_G) : GoodIn z_G (wsV own idx Y.1.cls Y.1 (Cond.code Y.1 Y.2.1 Y.2.2.1 Y.2.2.2 :: z_G)) := by
  refine z_Ggood fun w hw => ?_
  simp only [wsV, List.mem_append, List.mem_cons, List.not_mem_nil, or_false] at hw
  rcases hw with (rfl | rfl | rfl | rfl) | rfl | hw
  · exact w1
  · exact h.1.1
  · exact h.1.2.1
  · exact h.1.2.2.1
  · exact h.1.2.2.2
  · exact hw
theorem z_wsS {own : String} {idx n : Nat} {Y : z_I} (h : z_okS Y n) (w1 : Cond.methodLink own idx Y.1 ∈ z_G) : GoodIn z_G (va_wsS own idx Y.1 (Cond.code Y.1 Y.2.1 Y.2.2.1 Y.2.2.2 :: z_G)) := by
  refine z_Ggood fun w hw => ?_
  simp only [va_wsS, List.mem_append, List.mem_cons, List.not_mem_nil, or_false] at hw
  rcases hw with (rfl | rfl | rfl) | rfl | hw
  · exact w1
  · exact h.1.1
  · exact h.1.2.1
  · exact h.1.2.2
  · exact hw
theorem z_fix {p : Program} {s : State} {m : MethodId} {args : Array Value} {meth : Method} {c : Code} {D : va_G} {K : Nat → ClassId} {ad : Nat → Nat} (C : z_C l I p s m args meth c D K ad) : CallFix p m c I.2.1 I.2.2.1 s args z_G I.1.cls := ⟨C.1, C.2.1, C.2.2.2.1, C.2.2.2.2.1, C.2.2.2.2.2.1⟩
theorem z_recv {a ci : Nat} {D : va_G} {K : Nat → ClassId} {ad : Nat → Nat} {s : State} {H : Heap} {v : vw_C} (hK : va_K D vwCl (z_tys K) s) (hP : va_P D vwCl (z_ws B K ad S) H) (hc : vwCl[ci]? = some v) (ha : a < 67) (hci : z_tag a = ci + 10) : ∃ cell : Cell, H[ad a]? = some cell ∧ cell.vm.isStatics = false ∧ s.vm.findClass v.1 = some cell.cls := va_recv hK hP (ci := ci) (q0 := a) hc (z_obj_at ha hci)
/-- a call on an object: the callee returns -/
theorem z_callV {Y : z_I} {fr lo idx n a ci N : Nat} {T : u_T} {As : List Value} {r : Option Int32} {S1 : z_S} (hM : z_Met l Y fr lo B (.ref a :: As) S (.inl r) S1) (ok : z_okV Y n) (w1 : Cond.methodLink I.1.cls idx Y.1 ∈ z_G) (hc : vwCl[ci]? = some (Y.1.cls, T, N)) (ha : a < 67) (hci : z_tag a = ci + 10) (hn : As.length = n) (hR : fr + 1 ≤ R.frames ∧ 8 + (Y.2.2.1 + 11) + lo ≤ R.locals) (hst : (st.map fun v => v.category).sum ≤ 8)
    (d : decode I.2.1 pc = .ok (.invokevirtual idx, 3)) (hp : pc + 3 = pc') {st0 : List Value} (he : st0 = As.reverse ++ .ref a :: st) (k : z_W l I R B q pc' ls ((r.map Value.int).toList ++ st) S1) : z_W l I R B q pc ls st0 S := by
  subst hp; subst he
  intro p e s m args below meth c D K ad H locs la C hl hP hf hS
  rw [z_map_rev]
  refine z_cont (va_runV (C := Y.1.cls) (As := As.map (z_v ad)) (rest := st.map (z_v ad)) (z_fix C) (z_ret_Met hM (z_ado_go C.2.2.2.2.2.2.2.2.1 hS.1)) (cwV n C.2.2.2.2.2.1 (z_wsV ok w1) rfl rfl rfl ⟨rfl, ok.2⟩ hR) ⟨z_blind, z_recv C.2.2.2.2.2.2.2.1 hP hc ha hci, fun U hU hW => ⟨rfl, z_preU C.2.2.2.2.2.2.2.1 C.2.2.2.2.2.2.2.2.2.1 hP hf hS U hU hW⟩⟩ rfl (by rw [List.length_map]; exact hn) (hl.1) rfl (lv_room (by rw [z_cats]; exact hst)) d ⟨Nat.zero_le _, Nat.zero_le _⟩) hS (fun H1 locs1 hP1 hf1 hS1 => ?_)
  rw [z_back_st]
  exact k p e s m args below meth c D K ad H1 locs1 la C hl hP1 hf1 hS1
/-- a static call: the callee returns -/
theorem z_callS {Y : z_I} {fr lo idx n : Nat} {As : List Value} {r : Option Int32} {S1 : z_S} (hM : z_Met l Y fr lo B As S (.inl r) S1) (ok : z_okS Y n) (w1 : Cond.methodLink I.1.cls idx Y.1 ∈ z_G) (hn : As.length = n) (hR : fr + 1 ≤ R.frames ∧ 8 + (Y.2.2.1 + 11) + lo ≤ R.locals) (hst : (st.map fun v => v.category).sum ≤ 8)
    (d : decode I.2.1 pc = .ok (.invokestatic idx, 3)) (hp : pc + 3 = pc') {st0 : List Value} (he : st0 = As.reverse ++ st) (k : z_W l I R B q pc' ls ((r.map Value.int).toList ++ st) S1) : z_W l I R B q pc ls st0 S := by
  subst hp; subst he
  intro p e s m args below meth c D K ad H locs la C hl hP hf hS
  rw [z_map_rev0]
  refine z_cont (va_runS (As := As.map (z_v ad)) (rest := st.map (z_v ad)) (z_fix C) (z_ret_Met hM (z_ado_go C.2.2.2.2.2.2.2.2.1 hS.1)) (va_cwS n C.2.2.2.2.2.1 (z_wsS ok w1) rfl rfl rfl ok.2 hR) ⟨z_blind, fun U hU hW => ⟨rfl, z_preU C.2.2.2.2.2.2.2.1 C.2.2.2.2.2.2.2.2.2.1 hP hf hS U hU hW⟩⟩ rfl (by rw [List.length_map]; exact hn) (hl.1) rfl (lv_room (by rw [z_cats]; exact hst)) d ⟨Nat.zero_le _, Nat.zero_le _⟩) hS (fun H1 locs1 hP1 hf1 hS1 => ?_)
  rw [z_back_st]
  exact k p e s m args below meth c D K ad H1 locs1 la C hl hP1 hf1 hS1
/-- a static call of a nest mate's private method: the callee returns -/
theorem z_callN {Y : z_I} {fr lo idx n : Nat} {host : String} {As : List Value} {r : Option Int32} {S1 : z_S} (hM : z_Met l Y fr lo B As S (.inl r) S1) (ok : z_okS Y n) (w1 : (I.1.cls, idx, Y.1, host) ∈ z_nest) (hn : As.length = n) (hR : fr + 1 ≤ R.frames ∧ 8 + (Y.2.2.1 + 11) + lo ≤ R.locals) (hst : (st.map fun v => v.category).sum ≤ 8)
    (d : decode I.2.1 pc = .ok (.invokestatic idx, 3)) (hp : pc + 3 = pc') {st0 : List Value} (he : st0 = As.reverse ++ st) (k : z_W l I R B q pc' ls ((r.map Value.int).toList ++ st) S1) : z_W l I R B q pc ls st0 S := by
  subst hp; subst he
  intro p e s m args below meth c D K ad H locs la C hl hP hf hS
  rw [z_map_rev0]
  have hts := C.2.2.2.2.2.1
  refine z_cont (va_runSN (host := host) (As := As.map (z_v ad)) (rest := st.map (z_v ad)) (z_fix C) (z_ret_Met hM (z_ado_go C.2.2.2.2.2.2.2.2.1 hS.1)) ⟨va_cnB n hts (z_Ggood (fun w hw => by
    rcases List.mem_cons.mp hw with rfl | hw
    · exact ok.1.2.2
    · exact hw)) rfl rfl rfl (C.2.2.2.2.2.2.2.2.2.1.2.1 _ w1) (hts _ ok.1.2.1) ok.2 hR, hts _ ok.1.1, trivial⟩ ⟨z_blind, fun U hU hW => ⟨rfl, z_preU C.2.2.2.2.2.2.2.1 C.2.2.2.2.2.2.2.2.2.1 hP hf hS U hU hW⟩⟩ rfl (by rw [List.length_map]; exact hn) (hl.1) rfl (lv_room (by rw [z_cats]; exact hst)) d ⟨Nat.zero_le _, Nat.zero_le _⟩) hS (fun H1 locs1 hP1 hf1 hS1 => ?_)
  rw [z_back_st]
  exact k p e s m args below meth c D K ad H1 locs1 la C hl hP1 hf1 hS1
/-- a call on an object: the callee throws, and this method with it -/
theorem z_callVX {Y : z_I} {fr lo idx n a ci N : Nat} {T : u_T} {As : List Value} {E : String} {S1 : z_S} (hM : z_Met l Y fr lo B (.ref a :: As) S (.inr E) S1) (hq : q = (.inr E, S1)) (ok : z_okV Y n) (w1 : Cond.methodLink I.1.cls idx Y.1 ∈ z_G) (hc : vwCl[ci]? = some (Y.1.cls, T, N)) (ha : a < 67) (hci : z_tag a = ci + 10) (hn : As.length = n) (hR : fr + 1 ≤ R.frames ∧ 8 + (Y.2.2.1 + 11) + lo ≤ R.locals) (hRc : R.cells = z_mc q.1 ∧ R.slots = 6 * z_mc q.1) (hst : (st.map fun v => v.category).sum ≤ 8)
    (d : decode I.2.1 pc = .ok (.invokevirtual idx, 3)) {st0 : List Value} (he : st0 = As.reverse ++ .ref a :: st) : z_W l I R B q pc ls st0 S := by
  subst he; subst hq
  intro p e s m args below meth c D K ad H locs la C hl hP hf hS
  rw [z_map_rev]
  have hrun := vx_runV (C := Y.1.cls) (As := As.map (z_v ad)) (rest := st.map (z_v ad)) (locs := locs) (cells := 0) (slots := 0) (below := below) (e := e) (meth := meth) (g := F0 m pc la ((As.map (z_v ad)).reverse ++ Value.ref (ad a) :: st.map (z_v ad))) (z_fix C) (hM D K ad H.size (z_ado_go C.2.2.2.2.2.2.2.2.1 hS.1)) (cwV n C.2.2.2.2.2.1 (z_wsV ok w1) rfl rfl rfl ⟨rfl, ok.2⟩ hR) ⟨z_blind, z_recv C.2.2.2.2.2.2.2.1 hP hc ha hci, fun U hU hW => ⟨rfl, z_preU C.2.2.2.2.2.2.2.1 C.2.2.2.2.2.2.2.2.2.1 hP hf hS U hU hW⟩⟩ rfl (by rw [List.length_map]; exact hn) (hl.1) rfl (lv_room (by rw [z_cats]; exact hst)) d ⟨by rw [hRc.1]; exact Nat.le_refl _, by rw [hRc.2]; exact Nat.le_refl _⟩
  intro T' hT X
  rcases hrun T' hT X with ⟨v, st₀, t, T2, L, h0, X', hL, e1, e2, ⟨⟨r', hr', -⟩, -⟩, -⟩ | ⟨w, st₀, t, T2, L, E2, ce, h0, X', hL, e1, e2, ⟨hE, hp1, hf1, hz, hk⟩, hce, hcv, hcl, hst2⟩
  · cases hr'
  · cases hE
    rw [h0] at hz hk
    have hS1 : va_S (z_A ad s.heap.size) s.heap T2.heap (locs ++ L) := ⟨Nat.le_trans hS.1 (by rw [e1]; exact hz), fun w h1 h2 => by rw [e1, hk w (Nat.lt_of_lt_of_le h1 hS.1) (fun z => h2 (z_A_mono hS.1 z))]; exact hS.2.1 w h1 h2, fun w hw => by
      rcases List.mem_append.mp hw with h | h
      · exact hS.2.2 w h
      · exact z_A_mono hS.1 (hL w h)⟩
    obtain ⟨t2, a1, b1⟩ := vx_out (pc := pc) (ls := la) (rest := st.map (z_v ad)) (Qc := z_Qc B D K ad s.heap.size (.inr E) S1) (XC := z_XC B D K ad s.heap.size (.inr E) S1) (mc := z_mc (.inr E)) (ms := 6 * z_mc (.inr E)) (free := z_A ad s.heap.size) (H := T2.heap) (locs := locs ++ L) (fun x hx => (C.2.2.2.2.2.2.2.2.2.2.1 x hx).elim) C.2.2.2.2.2.2.1 (by rw [e1]; exact hce) hcv hcl (fun t9 ht9 _ => ⟨rfl, by rw [ht9, e1]; exact hp1, hf1, hS1.F ht9⟩) hS1.2.2 (Nat.le_of_eq (Nat.zero_add _)) (Nat.le_of_eq (Nat.zero_add _)) T2 rfl X'
    exact ⟨t2, hst2.trans a1, b1⟩
/-- 'throw new E("text")' -/
theorem z_throwS {cls text : String} {names : List String} {ik is ic : Nat} (hown : I.1.cls = RX5) (hq : q = (.inr cls, S)) (hcls : Bundle.fit cls = true) (hnames : ∀ n ∈ names, Bundle.fit n = true) (hstr : (is, text) ∈ z_strs) (hk : Cond.classLink RX5 ik cls ∈ z_G) (hini : Cond.initialized cls ∈ z_G) (hat : ∀ w ∈ vx_atS RX5 ic cls names, w ∈ z_G ∨ w ∈ z_nw)
    (d0 : decode I.2.1 pc = .ok (.new ik, 3)) (d3 : decode I.2.1 (pc + 3) = .ok (.dup, 1)) (d4 : decode I.2.1 (pc + 4) = .ok (.ldc is, 2)) (d6 : decode I.2.1 (pc + 6) = .ok (.invokespecial ic, 3)) (d9 : decode I.2.1 (pc + 9) = .ok (.athrow, 1))
    (hR : names.length + 3 < R.frames ∧ (st.map fun v => v.category).sum + (13 * (names.length + 1) + 43) ≤ R.locals) (hRc : R.cells = z_mc q.1 ∧ R.slots = 6 * z_mc q.1) : z_W l I R B q pc ls st S := by
  subst hq
  intro p e s m args below meth c D K ad H locs la C hl hP hf hS
  obtain ⟨sa, hsa⟩ := C.2.2.2.2.2.2.2.2.2.1.1 _ hstr
  have hts := C.2.2.2.2.2.1
  have hgd : ∀ w ∈ z_G, vx_ot w = true := fun w hw => by
    have := (List.mem_filter.mp hw).2
    simp [vx_ot, this]
  exact vx_throwS (own := RX5) (text := text) (sa := sa) (A := z_A ad s.heap.size) (mc := z_mc (.inr cls)) (ms := 6 * z_mc (.inr cls)) C.1 C.2.1 C.2.2.2.2.2.2.2.2.2.2.2 (by rw [← hown]; exact C.2.2.2.2.1) hcls hnames (hts _ hk) (hts _ hini) hsa (fun w hw => (hat w hw).elim (fun h => hts _ h) (fun h => va_Nw.use (z_nw_ot w h) (C.2.2.2.2.2.2.2.2.2.1.2.2.1 w h))) (fun w hw => by
      rcases List.mem_cons.mp hw with rfl | hw
      · exact hgd _ hk
      · rcases List.mem_cons.mp hw with rfl | hw
        · exact hgd _ hini
        · exact (hat w hw).elim (fun h => hgd _ h) (fun h => by simp [vx_ot, z_nw_ot w h])) C.2.2.2.2.2.2.2.2.2.1.2.2.2.1 C.2.2.2.2.2.2.2.2.2.1.2.2.2.2 hS (by rw [hl.1]; exact C.2.2.2.1.symm) d0 d3 d4 d6 d9 (fun x hx => (C.2.2.2.2.2.2.2.2.2.2.1 x hx).elim) hR.1 (by rw [z_cats]; exact hR.2) (by rw [hRc.1]; exact Nat.le_refl _) (by rw [hRc.2]; exact Nat.le_refl _) C.2.2.2.2.2.2.1
    (fun t hal hz hkp => ⟨rfl, va_P.kept hP (fun k w hw => hkp _ (hP k w hw).lt), hf, Nat.le_trans hS.1 hz, fun w h1 h2 => by rw [hkp w (Nat.lt_of_lt_of_le h1 hS.1)]; exact hS.2.1 w h1 h2⟩) hS.2.2 (Nat.le_refl _) (Nat.le_refl _)
theorem z_throwSW {cls text : String} {names : List String} {ik is ic : Nat} (hown : I.1.cls = RX5) (hq : q = (.inr cls, S)) (hcls : Bundle.fit cls = true) (hnames : ∀ n ∈ names, Bundle.fit n = true) (hstr : (is, text) ∈ z_strs) (hk : Cond.classLink RX5 ik cls ∈ z_G) (hini : Cond.initialized cls ∈ z_G) (hat : ∀ w ∈ vx_atS RX5 ic cls names, w ∈ z_G ∨ w ∈ z_nw)
    (d0 : decode I.2.1 pc = .ok (.new ik, 3)) (d3 : decode I.2.1 (pc + 3) = .ok (.dup, 1)) (d4 : decode I.2.1 (pc + 4) = .ok (.ldc_w is, 3)) (d7 : decode I.2.1 (pc + 7) = .ok (.invokespecial ic, 3)) (d10 : decode I.2.1 (pc + 10) = .ok (.athrow, 1))
    (hR : names.length + 3 < R.frames ∧ (st.map fun v => v.category).sum + (13 * (names.length + 1) + 43) ≤ R.locals) (hRc : R.cells = z_mc q.1 ∧ R.slots = 6 * z_mc q.1) : z_W l I R B q pc ls st S := by
  subst hq
  intro p e s m args below meth c D K ad H locs la C hl hP hf hS
  obtain ⟨sa, hsa⟩ := C.2.2.2.2.2.2.2.2.2.1.1 _ hstr
  have hts := C.2.2.2.2.2.1
  have hgd : ∀ w ∈ z_G, vx_ot w = true := fun w hw => by
    have := (List.mem_filter.mp hw).2
    simp [vx_ot, this]
  exact vx_throwSW (own := RX5) (text := text) (sa := sa) (A := z_A ad s.heap.size) (mc := z_mc (.inr cls)) (ms := 6 * z_mc (.inr cls)) C.1 C.2.1 C.2.2.2.2.2.2.2.2.2.2.2 (by rw [← hown]; exact C.2.2.2.2.1) hcls hnames (hts _ hk) (hts _ hini) hsa (fun w hw => (hat w hw).elim (fun h => hts _ h) (fun h => va_Nw.use (z_nw_ot w h) (C.2.2.2.2.2.2.2.2.2.1.2.2.1 w h))) (fun w hw => by
      rcases List.mem_cons.mp hw with rfl | hw
      · exact hgd _ hk
      · rcases List.mem_cons.mp hw with rfl | hw
        · exact hgd _ hini
        · exact (hat w hw).elim (fun h => hgd _ h) (fun h => by simp [vx_ot, z_nw_ot w h])) C.2.2.2.2.2.2.2.2.2.1.2.2.2.1 C.2.2.2.2.2.2.2.2.2.1.2.2.2.2 hS (by rw [hl.1]; exact C.2.2.2.1.symm) d0 d3 d4 d7 d10 (fun x hx => (C.2.2.2.2.2.2.2.2.2.2.1 x hx).elim) hR.1 (by rw [z_cats]; exact hR.2) (by rw [hRc.1]; exact Nat.le_refl _) (by rw [hRc.2]; exact Nat.le_refl _) C.2.2.2.2.2.2.1
    (fun t hal hz hkp => ⟨rfl, va_P.kept hP (fun k w hw => hkp _ (hP k w hw).lt), hf, Nat.le_trans hS.1 hz, fun w h1 h2 => by rw [hkp w (Nat.lt_of_lt_of_le h1 hS.1)]; exact hS.2.1 w h1 h2⟩) hS.2.2 (Nat.le_refl _) (Nat.le_refl _)
theorem z_topi {x : Int32} (k : ∀ y : Int32, y = x → z_W l I R B q pc ls (.int y :: st) S) : z_W l I R B q pc ls (.int x :: st) S := k x rfl
def z_cok (sp dp n : Int32) (n0 n1 : Nat) : Bool := decide (¬ sp < 0 ∧ ¬ dp < 0 ∧ ¬ n < 0 ∧ sp.toNatClampNeg + n.toNatClampNeg ≤ n0 ∧ dp.toNatClampNeg + n.toNatClampNeg ≤ n1)
def z_inb (i : Int32) (n : Nat) : Bool := decide (¬ (i < 0 ∨ n ≤ i.toNatClampNeg))
theorem z_inbe {i : Int32} {n : Nat} (h : z_inb i n = true) : vp_in i n := (of_decide_eq_true h : ¬ (i < 0 ∨ n ≤ i.toNatClampNeg))
/-- System.arraycopy between two int arrays, or two byte arrays -/
theorem z_copy {a0 a1 t n0 n1 idx : Nat} {sp dp n : Int32} (ha0 : z_arr B a0 t n0) (ha1 : z_arr B a1 t n1) (ht : t = 0 ∨ t = 1) (hc : z_cok sp dp n n0 n1 = true) (w1 : Cond.methodLink I.1.cls idx arraycopyName ∈ z_G) (w2 : Cond.native arraycopyName ∈ z_G) (w3 : Cond.static arraycopyName ∈ z_G) (w4 : Cond.initialized "java/lang/System" ∈ z_G)
    (hR : 1 ≤ R.frames ∧ (st.map fun v => v.category).sum + (nativeFrameWords "java/lang/System" "arraycopy" 5 + 11) ≤ R.locals) (d : decode I.2.1 pc = .ok (.invokestatic idx, 3)) (hp : pc + 3 = pc') (k : ∀ S', S' = z_ua S a1 (va_cpy (S.1 a0) (S.1 a1) sp.toNatClampNeg dp.toNatClampNeg n.toNatClampNeg) → z_W l I R B q pc' ls st S') : z_W l I R B q pc ls (.int n :: .int dp :: .ref a1 :: .int sp :: .ref a0 :: st) S := by
  subst hp
  intro p e s m args below meth c D K ad H locs la C hl hP hf hS
  obtain ⟨h1, h2, h3, h4, h5⟩ := of_decide_eq_true hc
  have hts := C.2.2.2.2.2.1
  have fin : ∀ (H1 : Heap) (locs1 : List Loc), va_P D vwCl ((z_ws B K ad S).set a1 (ad a1, .inl (K t, n1, .inl (va_cpy (S.1 a0) (S.1 a1) sp.toNatClampNeg dp.toNatClampNeg n.toNatClampNeg)))) H1 → va_S (z_A ad s.heap.size) s.heap H1 locs1 → W p l e R s m args below meth c H1 locs1 0 0 (vx_MQ below (z_Qc B D K ad s.heap.size q.1 q.2) (z_XC B D K ad s.heap.size q.1 q.2) args s (z_mc q.1) (6 * z_mc q.1) (z_A ad s.heap.size)) (F0 m (pc + 3) la (st.map (z_v ad))) := by
    intro H1 locs1 hP1 hS1
    rw [z_ua_ws ha1 (by omega)] at hP1
    refine k _ rfl p e s m args below meth c D K ad H1 locs1 la C hl hP1 (z_fit_ua hf (fun h1 j => ?_)) hS1
    have e0 : z_tag a0 = 1 := by rw [ha0.2.1, ← ha1.2.1]; exact h1
    simp only [va_cpy]
    split
    · exact hf a0 ha0.1 e0 _
    · exact hf a1 ha1.1 h1 _
  rcases ht with rfl | rfl
  · exact va_copyi C.1 C.2.1 (by rw [hl.1]; exact C.2.2.2.1) C.2.2.2.2.1 (hts _ w1) (hts _ w2) (hts _ w3) (hts _ w4) C.2.2.2.2.2.2.2.1 hP (z_D C.2.2.2.2.2.2.2.2.1) hS a0 a1 0 0 (z_arr_at ha0 (by decide)) (z_arr_at ha1 (by decide)) z_tys_at.1 z_tys_at.1 rfl h1 h2 h3 h4 h5 (fun i _ => rfl) hR.1 (by rw [z_cats]; exact hR.2) d (fun H1 locs1 hP1 _ hS1 => fin H1 locs1 hP1 hS1)
  · exact va_copyi C.1 C.2.1 (by rw [hl.1]; exact C.2.2.2.1) C.2.2.2.2.1 (hts _ w1) (hts _ w2) (hts _ w3) (hts _ w4) C.2.2.2.2.2.2.2.1 hP (z_D C.2.2.2.2.2.2.2.2.1) hS a0 a1 1 1 (z_arr_at ha0 (by decide)) (z_arr_at ha1 (by decide)) z_tys_at.2.1 z_tys_at.2.1 rfl h1 h2 h3 h4 h5 (fun i _ => hf a0 ha0.1 ha0.2.1 _) hR.1 (by rw [z_cats]; exact hR.2) d (fun H1 locs1 hP1 _ hS1 => fin H1 locs1 hP1 hS1)
theorem z_max {x y : Int32} {idx : Nat} (w1 : Cond.methodLink I.1.cls idx Lib.Math.max.name ∈ z_G) (w2 : Cond.static Lib.Math.max.name ∈ z_G) (w3 : Cond.initialized "java/lang/Math" ∈ z_G) (w4 : Cond.code Lib.Math.max.name Lib.Math.max.code 2 (some .int) ∈ z_G) (hR : 1 ≤ R.frames ∧ (st.map fun v => v.category).sum + 13 ≤ R.locals) (d : decode I.2.1 pc = .ok (.invokestatic idx, 3)) (hp : pc + 3 = pc') (k : z_W l I R B q pc' ls (.int (if x < y then y else x) :: st) S) : z_W l I R B q pc ls (.int y :: .int x :: st) S := by
  subst hp
  intro p e s m args below meth c D K ad H locs la C hl hP hf hS
  have hts := C.2.2.2.2.2.1
  exact va_mmax C.1 C.2.1 (by rw [hl.1]; exact C.2.2.2.1) C.2.2.2.2.1 (hts _ w1) (hts _ w2) (hts _ w3) (hts _ w4) hR.1 (by rw [z_cats]; exact hR.2) (Nat.zero_le _) (Nat.zero_le _) d (k p e s m args below meth c D K ad H locs la C hl hP hf hS)
/-- pieces of the printed functions -/
def z_gd {α : Type} (c : Bool) (x : Option α) : Option α := if c = true then x else none
theorem z_gde {α : Type} {c : Bool} {x : Option α} {r : α} (h : z_gd c x = some r) : c = true ∧ x = some r := by
  unfold z_gd at h
  split at h
  · exact ⟨by assumption, h⟩
  · cases h
def z_lt {α β : Type} (x : α) (f : α → β) : β := f x
theorem z_lte {α β : Type} {x : α} {f : α → β} {r : β} (h : z_lt x f = r) (y : α) (e : y = x) : f y = r := by subst e; exact h
/-- a call whose callee only returns: an int, nothing -/
def z_bn (x : Option (z_O × z_S)) (f : Int32 → z_S → Option (z_O × z_S)) : Option (z_O × z_S) := match x with
  | some (.inl (some r), S) => f r S
  | _ => none
def z_bo (x : Option (z_O × z_S)) (f : z_S → Option (z_O × z_S)) : Option (z_O × z_S) := match x with
  | some (.inl none, S) => f S
  | _ => none
/-- a call whose callee may throw -/
def z_bi (x : Option (z_O × z_S)) (f : Int32 → z_S → Option (z_O × z_S)) : Option (z_O × z_S) := match x with
  | some (.inl (some r), S) => f r S
  | some (.inr E, S) => some (.inr E, S)
  | _ => none
def z_bv (x : Option (z_O × z_S)) (f : z_S → Option (z_O × z_S)) : Option (z_O × z_S) := match x with
  | some (.inl none, S) => f S
  | some (.inr E, S) => some (.inr E, S)
  | _ => none
theorem z_bne {x : Option (z_O × z_S)} {f : Int32 → z_S → Option (z_O × z_S)} {r : z_O × z_S} (h : z_bn x f = some r) : ∃ v S1, x = some (.inl (some v), S1) ∧ f v S1 = some r := by
  unfold z_bn at h
  split at h
  · exact ⟨_, _, rfl, h⟩
  · cases h
theorem z_boe {x : Option (z_O × z_S)} {f : z_S → Option (z_O × z_S)} {r : z_O × z_S} (h : z_bo x f = some r) : ∃ S1, x = some (.inl none, S1) ∧ f S1 = some r := by
  unfold z_bo at h
  split at h
  · exact ⟨_, rfl, h⟩
  · cases h
theorem z_bie {x : Option (z_O × z_S)} {f : Int32 → z_S → Option (z_O × z_S)} {r : z_O × z_S} (h : z_bi x f = some r) : (∃ v S1, x = some (.inl (some v), S1) ∧ f v S1 = some r) ∨ ∃ E S1, x = some (.inr E, S1) ∧ r = (.inr E, S1) := by
  unfold z_bi at h
  split at h
  · exact Or.inl ⟨_, _, rfl, h⟩
  · exact Or.inr ⟨_, _, rfl, (Option.some.inj h).symm⟩
  · cases h
theorem z_bve {x : Option (z_O × z_S)} {f : z_S → Option (z_O × z_S)} {r : z_O × z_S} (h : z_bv x f = some r) : (∃ S1, x = some (.inl none, S1) ∧ f S1 = some r) ∨ ∃ E S1, x = some (.inr E, S1) ∧ r = (.inr E, S1) := by
  unfold z_bv at h
  split at h
  · exact Or.inl ⟨_, rfl, h⟩
  · exact Or.inr ⟨_, _, rfl, (Option.some.inj h).symm⟩
  · cases h
def z_b01 (v : Int32) : Bool := decide (v = 0 ∨ v = 1)
theorem z_b01e {v : Int32} (h : z_b01 v = true) : v = 0 ∨ v = 1 := of_decide_eq_true h
/-- how often a loop may turn -/
def z_n : Nat := 100000
abbrev z_ix (i : Int32) : Nat := i.toNatClampNeg
def z_is (c a : Nat) : Prop := a < 67 ∧ z_tag a = c + 10
/-- the locals at a method's entry -/
def z_els (As : List Value) : List (Option Value) := As.flatMap fun v => if v.category = 2 then [some v, none] else [some v]
theorem z_els_args : ∀ (As : List Value) (k i : Nat) (v : Value), (z_els As)[i]? = some (some v) → (k + i, v) ∈ lv_args k As
  | [], k, i, v, h => by simp [z_els] at h
  | a :: As, k, i, v, h => by
    have e : z_els (a :: As) = (if a.category = 2 then [some a, none] else [some a]) ++ z_els As := by simp [z_els]
    rw [e] at h
    by_cases hc : a.category = 2
    · rw [if_pos hc] at h
      match i, h with
      | 0, h => simp at h; subst h; simp [lv_args]
      | 1, h => simp at h
      | i + 2, h =>
        have h2 : (z_els As)[i]? = some (some v) := by simpa using h
        have := z_els_args As (k + 2) i v h2
        simp only [lv_args, if_pos hc]
        rw [show k + (i + 2) = k + 2 + i by omega]
        exact List.mem_cons_of_mem _ this
    · rw [if_neg hc] at h
      match i, h with
      | 0, h => simp at h; subst h; simp [lv_args]
      | i + 1, h =>
        have h2 : (z_els As)[i]? = some (some v) := by simpa using h
        have := z_els_args As (k + 1) i v h2
        simp only [lv_args, if_neg hc]
        rw [show k + (i + 1) = k + 1 + i by omega]
        exact List.mem_cons_of_mem _ this
theorem z_args_map (ad : Nat → Nat) : ∀ (As : List Value) (k : Nat) (q : Nat × Value), q ∈ lv_args k As → (q.1, z_v ad q.2) ∈ lv_args k (As.map (z_v ad))
  | [], k, q, h => by simp [lv_args] at h
  | a :: As, k, q, h => by
    simp only [lv_args, List.map_cons, z_cat] at h ⊢
    rcases List.mem_cons.mp h with rfl | h
    · exact List.mem_cons_self
    · exact List.mem_cons_of_mem _ (z_args_map ad As _ q h)
theorem z_sl_len (ad : Nat → Nat) (As : List Value) : (lg_sl (As.map (z_v ad))).length = (lg_sl As).length := by
  induction As with
  | nil => rfl
  | cons a As ih =>
    simp only [lg_sl, List.map_cons, List.flatMap_cons, List.length_append, z_cat] at ih ⊢
    rw [ih]
    split <;> rfl
/-- a method from its entry -/
theorem z_enter {fr lo n : Nat} {As : List Value} (hy : plainName I.1.cls = true) (hls : ls = z_els As ++ List.replicate n none) (hlen : (lg_sl As).length ≤ I.2.2.1) (hst : l.stackTraces = false)
    (k : z_W l I { frames := fr, locals := lo, cells := z_mc q.1, slots := 6 * z_mc q.1 } B q 0 ls [] S) : z_Met l I fr lo B As S q.1 q.2 := by
  intro D K ad sz hado
  refine vx_ofW (cc := I.2.1) (maxL := I.2.2.1) (ret := I.2.2.2) hy rfl ?_
  intro p e s m args below meth c s₁ Bd hml htab hv
  obtain ⟨rfl, rfl, hP, hK, hf, hxs⟩ := hv
  have hts := atoms_spec (ws := Cond.code I.1 I.2.1 I.2.2.1 I.2.2.2 :: z_G) Bd.pre
  rw [lg_entry_eq]
  have hle : (lg_sl (As.map (z_v ad))).length ≤ I.2.2.1 := by rw [z_sl_len]; exact hlen
  have hl := lv_entry (As.map (z_v ad)) (n := I.2.2.1) hle
  refine k p e s m _ below meth c D K ad s.heap [] _ ⟨Bd.exec, Bd.bytes, Bd.returns, hml, findClass_of_methodNamed Bd.named, fun w hw => hts w (List.mem_cons_of_mem _ hw), Bd.notSynchronized, hK, hado, hxs, htab, hst⟩ ⟨hl.1, hl.2.1, fun w hw => ?_⟩ hP hf va_S.rf
  obtain ⟨i, x⟩ := w
  obtain ⟨v, hv, rfl⟩ := z_as_mem.mp hw
  refine hl.2.2 _ ?_
  have hv2 : (z_els As)[i]? = some (some v) := by
    rw [hls] at hv
    by_cases hi : i < (z_els As).length
    · rwa [List.getElem?_append_left hi] at hv
    · rw [List.getElem?_append_right (by omega)] at hv
      rw [List.getElem?_replicate] at hv
      split at hv <;> cases hv
  have := z_args_map ad As 0 (0 + i, v) (z_els_args As 0 i v hv2)
  rwa [Nat.zero_add] at this
theorem z_atS (ic : Nat) {cls : String} (h : (vx_atS RX5 ic cls ["java/lang/RuntimeException", "java/lang/Exception"]).all (fun w => decide (w ∈ lw_tbl) && goodWord w || decide (w ∈ z_nw)) = true) : ∀ w ∈ vx_atS RX5 ic cls ["java/lang/RuntimeException", "java/lang/Exception"], w ∈ z_G ∨ w ∈ z_nw := by
  intro w hw
  have h1 := List.all_eq_true.mp h w hw
  simp only [Bool.or_eq_true, Bool.and_eq_true, decide_eq_true_eq] at h1
  exact h1.elim (fun h => Or.inl (z_Gin h.1 h.2)) Or.inr
theorem z_at_86 : ∀ w ∈ vx_atS RX5 86 "java/lang/IllegalStateException" ["java/lang/RuntimeException", "java/lang/Exception"], w ∈ z_G ∨ w ∈ z_nw := z_atS 86 (by decide +kernel)
theorem z_at_310 : ∀ w ∈ vx_atS RX5 310 "java/lang/UnsupportedOperationException" ["java/lang/RuntimeException", "java/lang/Exception"], w ∈ z_G ∨ w ∈ z_nw := z_atS 310 (by decide +kernel)
theorem z_at_168 : ∀ w ∈ vx_atS RX5 168 "java/lang/IndexOutOfBoundsException" ["java/lang/RuntimeException", "java/lang/Exception"], w ∈ z_G ∨ w ∈ z_nw := z_atS 168 (by decide +kernel)
theorem z_at_159 : ∀ w ∈ vx_atS RX5 159 "java/lang/IllegalArgumentException" ["java/lang/RuntimeException", "java/lang/Exception"], w ∈ z_G ∨ w ∈ z_nw := z_atS 159 (by decide +kernel)
end Z2
