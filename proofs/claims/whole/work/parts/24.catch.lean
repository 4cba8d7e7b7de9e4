/-! A throw of a callee caught here: the rows of the table in order, their classes perhaps not looked up yet. -/
/-- one row that covers the place and names a class: it takes the thrown object, or the search goes on; the class is noted either way -/
theorem zc_row {Q : Handler → Pre} {E : CtlPost} {e : Env} {d : Bool} {acts : List Action} {S : State} {f : JFrame} {a : Addr} {y : ExceptionTableEntry} {t : List ExceptionTableEntry} {k : ClassId} {cell : Cell} (hy : covers y f.pc = true) (h0 : y.catchType ≠ 0) (hl : S.vm.ClassLinks e.platform f.method.cls y.catchType k)
    (hcell : S.heap[a]? = some cell) (hobj : ∀ z, cell.vm ≠ .statics z) (hc1 : ∃ z, S.vm.classes[cell.cls]? = some z) (hc2 : ∃ z, S.vm.classes[k]? = some z) :
    wp (findHandler.go f a (y :: t)) Q E e d acts S ↔ (if S.vm.assignable cell.cls k = true then Q (.found y.handlerPc) d acts (S.setVm (S.vm.noted f.method.cls y.catchType (.cls k))) else wp (findHandler.go f a t) Q E e d acts (S.setVm (S.vm.noted f.method.cls y.catchType (.cls k)))) := by
  have ho := (resolveClass_links e.toSetting hl).op (op := VmOp.resolveClass f.method.cls y.catchType) rfl
  have hal : S.vm.Alike (S.vm.noted f.method.cls y.catchType (.cls k)) := (Vm.Alike.refl S.vm).noted _ _ _
  obtain ⟨z1, hz1⟩ := hc1
  obtain ⟨z2, hz2⟩ := hc2
  obtain ⟨w1, hw1, -⟩ := hal.2.2 _ _ hz1
  obtain ⟨w2, hw2, -⟩ := hal.2.2 _ _ hz2
  have hv : (S.vm.noted f.method.cls y.catchType (.cls k)).assignable cell.cls k = S.vm.assignable cell.cls k := hal.assignable ..
  simp only [covers] at hy
  by_cases hf : S.vm.assignable cell.cls k = true
  · rw [if_pos hf]
    rw [hf] at hv
    simp [findHandler.go, hy, h0, ho.1, ho.2, hcell, hobj, hw1, hw2, hv, VmOp.dirties, VmOp.acts]
  · rw [if_neg hf]
    have hf' : S.vm.assignable cell.cls k = false := by simpa using hf
    rw [hf'] at hv
    simp [findHandler.go, hy, h0, ho.1, ho.2, hcell, hobj, hw1, hw2, hv, VmOp.dirties, VmOp.acts]
/-- a row that lets the object pass: it doesn't cover the place, or names a class that the object hasn't -/
def zc_No (pl : Platform) (s0 : State) (d : ClassId) (pc : Nat) (th : ClassId) (y : ExceptionTableEntry) : Prop := covers y pc = false ∨ (y.catchType ≠ 0 ∧ ∃ k, s0.vm.ClassLinks pl d y.catchType k ∧ s0.vm.assignable th k = false)
theorem zc_chain {e : Env} {s0 : State} {f : JFrame} {a : Addr} {cell : Cell} (hobj : ∀ z, cell.vm ≠ .statics z) (hk0 : ∃ z, s0.vm.classes[cell.cls]? = some z) {x : ExceptionTableEntry} {rest : List ExceptionTableEntry} (hx : covers x f.pc = true) (h0 : x.catchType ≠ 0) {k : ClassId} (hl : s0.vm.ClassLinks e.platform f.method.cls x.catchType k) (hfit : s0.vm.assignable cell.cls k = true) :
    ∀ (pre : List ExceptionTableEntry) (S : State), s0.WarmedH S.vm → S.heap[a]? = some cell → (∀ y ∈ pre, zc_No e.platform s0 f.method.cls f.pc cell.cls y) →
      ∃ vm', s0.WarmedH vm' ∧ ∀ (Q : Handler → Pre) (E : CtlPost) (d : Bool) (acts : List Action), wp (findHandler.go f a (pre ++ x :: rest)) Q E e d acts S ↔ Q (.found x.handlerPc) d acts (S.setVm vm') := by
  obtain ⟨z0, hz0⟩ := hk0
  intro pre
  induction pre with
  | nil =>
    intro S hW hcell _
    obtain ⟨z1, hz1, -⟩ := hW.alike.2.2 _ _ hz0
    obtain ⟨dk, _, _, kt, hd, _, _, _, _, hkt, _, hopen⟩ := hl.here
    obtain ⟨kt', hkt', -⟩ := hW.alike.2.2 _ _ hkt
    refine ⟨_, hW.noted hd hopen (State.rightAt_cls hl), fun Q E d acts => ?_⟩
    rw [List.nil_append, zc_row hx h0 (hW.classLinks hl) hcell hobj ⟨z1, hz1⟩ ⟨kt', hkt'⟩, if_pos (by rw [hW.alike.assignable]; exact hfit)]
  | cons y ys ih =>
    intro S hW hcell hpass
    have hys : ∀ z ∈ ys, zc_No e.platform s0 f.method.cls f.pc cell.cls z := fun z hz => hpass z (List.mem_cons_of_mem _ hz)
    rcases hpass y List.mem_cons_self with h | ⟨hy0, k2, hl2, hno⟩
    · obtain ⟨vm', hW', hq⟩ := ih S hW hcell hys
      exact ⟨vm', hW', fun Q E d acts => by rw [List.cons_append, W.findHandler_go_skip h]; exact hq Q E d acts⟩
    · by_cases hcov : covers y f.pc = true
      · obtain ⟨z1, hz1, -⟩ := hW.alike.2.2 _ _ hz0
        obtain ⟨dk, _, _, kt, hd, _, _, _, _, hkt, _, hopen⟩ := hl2.here
        obtain ⟨kt', hkt', -⟩ := hW.alike.2.2 _ _ hkt
        obtain ⟨vm', hW', hq⟩ := ih (S.setVm (S.vm.noted f.method.cls y.catchType (.cls k2))) (hW.noted hd hopen (State.rightAt_cls hl2)) hcell hys
        refine ⟨vm', hW', fun Q E d acts => ?_⟩
        rw [List.cons_append, zc_row hcov hy0 (hW.classLinks hl2) hcell hobj ⟨z1, hz1⟩ ⟨kt', hkt'⟩, if_neg (by rw [hW.alike.assignable, hno]; decide)]
        exact hq Q E d acts
      · obtain ⟨vm', hW', hq⟩ := ih S hW hcell hys
        exact ⟨vm', hW', fun Q E d acts => by rw [List.cons_append, W.findHandler_go_skip (by simpa using hcov)]; exact hq Q E d acts⟩
theorem zc_caught {p : Program} {l : Launch} {e : Env} {R : Room} {s : State} {m : MethodId} {args : Array Value} {below : List Frame} {meth : Method} {c : Code} {T : State} {locs : List Loc} {cells slots : Nat} (X : Stand p l e R s m args below meth c T locs cells slots) {q : Addr} {g : JFrame} (hg : g.method = m) {cell : Cell} (hcell : T.heap[q]? = some cell) (hobj : cell.vm.isStatics = false) (hk0 : ∃ z, s.vm.classes[cell.cls]? = some z)
    {pre : List ExceptionTableEntry} {x : ExceptionTableEntry} {rest : List ExceptionTableEntry} (hsplit : c.exceptionTable.toList = pre ++ x :: rest) (hpass : ∀ y ∈ pre, zc_No e.platform s m.cls g.pc cell.cls y) (hx : covers x g.pc = true) (h0 : x.catchType ≠ 0) {k : ClassId} (hl : s.vm.ClassLinks e.platform m.cls x.catchType k) (hfit : s.vm.assignable cell.cls k = true) :
    ∃ vm', Stand p l e R s m args below meth c (T.setVm vm') locs cells slots ∧ ∀ target, Steps p.tables e below ((T.setVm vm').setTop { g with pc := x.handlerPc, stack := [.ref q] }) target → Steps p.tables e below ((T.setTop g).pushFrame (.throwing q)) target := by
  subst hg
  obtain ⟨vm', hW', hq⟩ := zc_chain (e := e) (s0 := s) (f := g) (a := q) (VmData.ne_statics_of hobj) hk0 (rest := rest) hx h0 hl hfit pre ((T.setTop g).pushFrame (.throwing q)) X.warmed hcell hpass
  refine ⟨vm', X.noted hW', fun target hrest => ?_⟩
  have hm : ((T.setTop g).pushFrame (.throwing q)).vm.method? g.method = some meth := X.method'
  have hgo9 := X.here.throwing q
  refine Steps.head hgo9.1 hgo9.2 ?_
  have hst : (stepThrowing e ((T.setTop g).pushFrame (.throwing q)) q (.java g :: T.frames.tail)).Is ((((T.setTop g).pushFrame (.throwing q)).setVm vm').setFrames (.java { g with pc := x.handlerPc, stack := [.ref q] } :: T.frames.tail)) [] := by
    simp only [stepThrowing, searchFrame, vmDo]
    generalize hr : Sem.go _ e false [] ((T.setTop g).pushFrame (.throwing q)) = res
    obtain ⟨as, rfl, ha⟩ := Sem.eq_ok_of hr (a := Handler.found x.handlerPc) (s' := ((T.setTop g).pushFrame (.throwing q)).setVm vm') (acts' := []) (by
      have hfind := hq
      simp [W.findHandler_eq hm X.code, hsplit, hfind])
    exact ⟨rfl, ha⟩
  rw [stepThread_throwing (frames_entered X.here.top _), hst.1]
  obtain ⟨g₀, hg0⟩ := Option.isSome_iff_exists.mp X.here.top
  obtain ⟨r, hr⟩ := State.topJava?_eq_some.mp hg0
  have hr' : (T.setVm vm').frames = .java g₀ :: r := hr
  rw [State.setTop_of_frames _ hr'] at hrest
  have e1 : ((T.setTop g).pushFrame (.throwing q)).setVm vm' = (((T.setVm vm').setTop g).pushFrame (.throwing q)) := rfl
  rw [e1, State.pushFrame, State.setTop_of_frames _ hr', State.setFrames_setFrames, State.setFrames_setFrames, hr, List.tail_cons]
  exact hrest
/-- a callee's throw, caught by the row x of this method's table; the rows ahead let it pass -/
theorem zc_W {p : Program} {l : Launch} {e : Env} {R : Room} {s : State} {m : MethodId} {args : Array Value} {below : List Frame} {meth : Method} {c : Code} {H : Heap} {locs : List Loc} {cells slots pc : Nat} {Q : State → Prop} {ls : Array Slot} {st : List Value} {own name E : String} {ce : Cell} {q : Addr} (hown : s.vm.findClass own = some m.cls) {pre : List ExceptionTableEntry} {x : ExceptionTableEntry} {suf : List ExceptionTableEntry} (hsplit : c.exceptionTable.toList = pre ++ x :: suf)
    (hpass : ∀ z ∈ pre, covers z pc = false ∨ (z.catchType ≠ 0 ∧ ∃ nm : String, (Cond.classLink own z.catchType nm).before args s = true ∧ va_Nc E nm s)) (hx : covers x pc = true) (h0 : x.catchType ≠ 0) (hlink : (Cond.classLink own x.catchType name).before args s = true) (hcast : (Cond.castable E name).before args s = true) (hcell : H[q]? = some ce) (hv : ce.vm = .none) (hcl : s.vm.findClass E = some ce.cls)
    (k : W p l e R s m args below meth c H locs cells slots Q (F0 m x.handlerPc ls [.ref q])) : vx_W p l e R s m args below meth c H locs cells slots Q (F0 m pc ls st) q := by
  intro T hT X
  have hpl : e.platform.magicAccessors = ({} : Platform).magicAccessors := by rw [X.admits.platform]
  obtain ⟨a1, a2, ha1, ha2, hasg⟩ := Cond.castable_spec hcast
  have e1 : a1 = ce.cls := Option.some.inj (ha1.symm.trans hcl)
  subst e1
  obtain ⟨b1, hb1, hb2⟩ := Cond.classLink_spec hown hlink e.platform hpl
  have e2 : a2 = b1 := Option.some.inj (ha2.symm.trans hb1)
  subst e2
  obtain ⟨vm', X', st9⟩ := zc_caught X (q := q) (g := F0 m pc ls st) rfl (by rw [hT]; exact hcell) (by rw [hv]; rfl) (by obtain ⟨k9, h9, -⟩ := Vm.findClass_spec hcl; exact ⟨k9, h9⟩) hsplit (fun z hz => by
    rcases hpass z hz with h | ⟨hz0, nm, hl1, c1, c2, hc1, hc2, hno⟩
    · exact Or.inl h
    · obtain ⟨b3, hb3, hb4⟩ := Cond.classLink_spec hown hl1 e.platform hpl
      have e3 : c1 = ce.cls := Option.some.inj (hc1.symm.trans hcl)
      have e4 : c2 = b3 := Option.some.inj (hc2.symm.trans hb3)
      subst e3; subst e4
      exact Or.inr ⟨hz0, _, hb4, hno⟩) hx h0 hb2 hasg
  obtain ⟨t, r1, r2⟩ := k (T.setVm vm') hT X'
  exact ⟨t, st9 t r1, r2⟩
