/-! The packed machine: the law's 67 cells by their places, a state of arrays and fields, and a row an instruction over it. -/
/-- arrays by place, int fields by place and slot, the long array -/
abbrev z_S : Type := (Nat → Nat → Int32) × (Nat → Nat → Int32) × (Nat → Int64)
/-- returned, or threw a class -/
abbrev z_O : Type := Option Int32 ⊕ String
def z_v (ad : Nat → Nat) : Value → Value
  | .ref k => .ref (ad k)
  | v => v
def z_mc : z_O → Nat
  | .inl _ => 0
  | .inr _ => 1
/-- kinds of the cells: 0 int array, 1 byte array, 2 boolean array, 3 long array, 10 + c an object of class c -/
def z_tag (a : Nat) : Nat := [15,
  10, 14, 0, 0, 0, 0, 0, 0, 0, 0, 0, 0, 0, 12, 0, 0, 0, 0, 0, 1, 1,
  10, 14, 0, 0, 0, 0, 0, 0, 0, 0, 0, 0, 0, 12, 0, 0, 0, 0, 0, 1, 1,
  14, 0, 0, 0, 0, 0, 0, 0, 0, 0, 0, 0,
  11, 2, 13, 2, 1,
  16, 0, 0, 0, 0, 2, 3].getD a 99
def z_lc (a : Nat) : Nat := [0,
  0, 0, 1, 1, 1, 1, 1, 1, 1, 6, 14, 14, 14, 0, 0, 0, 0, 0, 0, 128, 0,
  0, 0, 1, 1, 1, 1, 1, 1, 1, 6, 14, 14, 14, 0, 0, 0, 0, 0, 0, 128, 0,
  0, 1, 1, 1, 1, 1, 1, 1, 6, 14, 14, 14,
  0, 1, 0, 1, 0,
  0, 0, 0, 0, 0, 0, 0].getD a 0
def z_l0 (a : Nat) : Nat := [0,
  0, 0, 0, 0, 0, 0, 0, 0, 0, 0, 0, 0, 0, 0, 61, 61, 61, 61, 976, 0, 2440,
  0, 0, 0, 0, 0, 0, 0, 0, 0, 0, 0, 0, 0, 0, 61, 61, 61, 61, 976, 0, 2440,
  0, 0, 0, 0, 0, 0, 0, 0, 0, 0, 0, 0,
  0, 0, 0, 0, 2048,
  0, 25366, 25366, 25366, 2560, 96, 1].getD a 0
def z_len (B a : Nat) : Nat := z_lc a * B + z_l0 a
/-- the fields of an object: .inl the place that it names, .inr its own slot -/
def z_fs (a : Nat) : List (Nat ⊕ Nat) :=
  if z_tag a = 10 then [.inl (a + 1), .inl (a + 13), .inl (a + 19), .inl (a + 20)]
  else if z_tag a = 11 then [.inr 0, .inl (a + 1), .inr 2, .inr 3]
  else if z_tag a = 12 then [.inl (a + 1), .inl (a + 2), .inl (a + 3), .inl (a + 4), .inl (a + 5)]
  else if z_tag a = 13 then [.inr 0, .inr 1, .inr 2]
  else if z_tag a = 14 then [.inr 0, .inl (a + 1), .inl (a + 2), .inl (a + 3), .inl (a + 4), .inl (a + 5), .inl (a + 6), .inl (a + 7), .inl (a + 8), .inl (a + 9), .inl (a + 10), .inl (a + 11), .inr 12]
  else if z_tag a = 15 then [.inr 0, .inl (a + 1), .inl (a + 22), .inl (a + 43), .inl (a + 55), .inl (a + 57), .inl (a + 58), .inl (a + 59)]
  else if z_tag a = 16 then [.inr 0, .inr 1, .inr 2, .inl (a + 1), .inl (a + 2), .inl (a + 3), .inl (a + 4), .inr 7, .inl (a + 5), .inr 9, .inr 10, .inr 11, .inr 12, .inr 13, .inr 14]
  else []
def z_fv (S : z_S) (a : Nat) : Nat ⊕ Nat → Value
  | .inl r => .ref r
  | .inr k => .int (S.2.1 a k)
def z_hp (B : Nat) (S : z_S) (a : Nat) : va_E :=
  if z_tag a < 3 then .inl (z_tag a, z_len B a, .inl (S.1 a))
  else if z_tag a = 3 then .inl (3, z_len B a, .inr (.inl S.2.2))
  else .inr (z_tag a - 10, (z_fs a).map (z_fv S a))
def z_tr (K : Nat → ClassId) (ad : Nat → Nat) : va_E → va_E
  | .inl (t, x) => .inl (K t, x)
  | .inr (c, fs) => .inr (c, fs.map (z_v ad))
def z_ws (B : Nat) (K : Nat → ClassId) (ad : Nat → Nat) (S : z_S) : va_W := (List.range 67).map (fun k => (ad k, z_tr K ad (z_hp B S k)))
def z_tys (K : Nat → ClassId) : List (ClassId × FieldType) := [(K 0, .int), (K 1, .byte), (K 2, .boolean), (K 3, .long)]
/-- an array's new contents; a field's new number; the long array's -/
def z_ua (S : z_S) (a : Nat) (f : Nat → Int32) : z_S := (va_up S.1 a f, S.2)
def z_ui (S : z_S) (a k : Nat) (v : Int32) : z_S := (S.1, va_up S.2.1 a (va_up (S.2.1 a) k v), S.2.2)
def z_ul (S : z_S) (f : Nat → Int64) : z_S := (S.1, S.2.1, f)
theorem z_get {B : Nat} {K : Nat → ClassId} {ad : Nat → Nat} {S : z_S} {k : Nat} (h : k < 67) : (z_ws B K ad S)[k]? = some (ad k, z_tr K ad (z_hp B S k)) := by
  simp [z_ws, List.getElem?_map, List.getElem?_range h]
theorem z_wlen {B : Nat} {K : Nat → ClassId} {ad : Nat → Nat} {S : z_S} : (z_ws B K ad S).length = 67 := by simp [z_ws]
theorem z_get' {B : Nat} {K : Nat → ClassId} {ad : Nat → Nat} {S : z_S} {k : Nat} {q : Nat × va_E} (h : (z_ws B K ad S)[k]? = some q) : k < 67 ∧ q = (ad k, z_tr K ad (z_hp B S k)) := by
  have hk : k < 67 := by
    have := (List.getElem?_eq_some_iff.mp h).1
    rwa [z_wlen] at this
  rw [z_get hk] at h
  exact ⟨hk, (Option.some.inj h).symm⟩
theorem z_set {B : Nat} {K : Nat → ClassId} {ad : Nat → Nat} {S S' : z_S} {k : Nat} {e : va_E} (hk : k < 67) (he : z_hp B S' k = e) (hj : ∀ j, j ≠ k → z_hp B S' j = z_hp B S j) : (z_ws B K ad S).set k (ad k, z_tr K ad e) = z_ws B K ad S' := by
  apply List.ext_getElem?
  intro i
  by_cases h : i = k
  · subst h
    rw [List.getElem?_set_self (by rw [z_wlen]; exact hk), z_get hk, he]
  · rw [List.getElem?_set_ne (Ne.symm h)]
    by_cases hi : i < 67
    · rw [z_get hi, z_get hi, hj i h]
    · rw [List.getElem?_eq_none (by rw [z_wlen]; omega), List.getElem?_eq_none (by rw [z_wlen]; omega)]
theorem z_hp_arr {B : Nat} {S : z_S} {a : Nat} (h : z_tag a < 3) : z_hp B S a = .inl (z_tag a, z_len B a, .inl (S.1 a)) := by simp [z_hp, h]
theorem z_hp_obj {B : Nat} {S : z_S} {a : Nat} (h : 10 ≤ z_tag a) : z_hp B S a = .inr (z_tag a - 10, (z_fs a).map (z_fv S a)) := by
  have h1 : ¬ z_tag a < 3 := by omega
  have h2 : ¬ z_tag a = 3 := by omega
  simp [z_hp, h1, h2]
theorem z_ua_self {B : Nat} {S : z_S} {a : Nat} {f : Nat → Int32} (h : z_tag a < 3) : z_hp B (z_ua S a f) a = .inl (z_tag a, z_len B a, .inl f) := by
  rw [z_hp_arr h]; simp [z_ua, va_up]
theorem z_ua_ne {B : Nat} {S : z_S} {a j : Nat} {f : Nat → Int32} (h : j ≠ a) : z_hp B (z_ua S a f) j = z_hp B S j := by
  have e : (z_ua S a f).1 j = S.1 j := by simp [z_ua, va_up, h]
  have e2 : z_fv (z_ua S a f) j = z_fv S j := by funext q; cases q <;> rfl
  simp only [z_hp, e, e2]; rfl
theorem z_ui_ne {B : Nat} {S : z_S} {a j k : Nat} {v : Int32} (h : j ≠ a) : z_hp B (z_ui S a k v) j = z_hp B S j := by
  have e2 : z_fv (z_ui S a k v) j = z_fv S j := by funext q; cases q <;> simp [z_fv, z_ui, va_up, h]
  simp only [z_hp, e2]; rfl
def z_fsb (x : Option (Nat ⊕ Nat)) (i : Nat) : Bool := match x with
  | some (Sum.inr j) => j == i
  | _ => true
theorem z_fs_ok : ∀ a, a < 67 → ∀ i, i < 15 → ∀ j, (z_fs a)[i]? = some (.inr j) → j = i := by
  intro a ha i hi j hj
  have key : ∀ a, a < 67 → ∀ i, i < 15 → z_fsb ((z_fs a)[i]?) i = true := by decide +kernel
  have h := key a ha i hi
  rw [hj] at h
  exact of_decide_eq_true h
theorem z_fs_len : ∀ a, a < 67 → (z_fs a).length ≤ 15 := by decide +kernel
theorem z_ui_self {B : Nat} {S : z_S} {a k : Nat} {v : Int32} (ha : a < 67) (h : 10 ≤ z_tag a) (hk : (z_fs a)[k]? = some (.inr k)) : z_hp B (z_ui S a k v) a = .inr (z_tag a - 10, ((z_fs a).map (z_fv S a)).set k (.int v)) := by
  rw [z_hp_obj h]
  refine congrArg (fun l => Sum.inr (z_tag a - 10, l)) ?_
  apply List.ext_getElem?
  intro i
  have hlen := z_fs_len a ha
  have hkl : k < (z_fs a).length := (List.getElem?_eq_some_iff.mp hk).1
  by_cases hi : i = k
  · subst hi
    rw [List.getElem?_set_self (by simpa using hkl), List.getElem?_map, hk]
    simp [z_fv, z_ui, va_up]
  · rw [List.getElem?_set_ne (Ne.symm hi), List.getElem?_map, List.getElem?_map]
    cases hq : (z_fs a)[i]? with
    | none => rfl
    | some q =>
      cases q with
      | inl r => rfl
      | inr j =>
        have hil : i < (z_fs a).length := (List.getElem?_eq_some_iff.mp hq).1
        have hj := z_fs_ok a ha i (by omega) j hq
        subst hj
        simp [z_fv, z_ui, va_up, hi]
/-- the words: those of the tables that stay -/
def z_G : List Cond := lw_tbl.filter goodWord
theorem z_Gin {w : Cond} (h : w ∈ lw_tbl) (hg : goodWord w = true) : w ∈ z_G := List.mem_filter.mpr ⟨h, hg⟩
theorem z_Ggood {ws : List Cond} (h : ∀ w ∈ ws, w ∈ z_G) : GoodIn z_G ws := fun w hw => ⟨h w hw, good_of_word (List.mem_filter.mp (h w hw)).2⟩
/-- which cells may change -/
def z_A (ad : Nat → Nat) (sz : Nat) : Nat → Prop := fun q => (∃ k, k < 67 ∧ ad k = q) ∨ sz ≤ q
theorem z_A_eq {B : Nat} {K : Nat → ClassId} {ad : Nat → Nat} {S : z_S} {sz : Nat} : va_A (z_ws B K ad S) sz = z_A ad sz := by
  funext q
  apply propext
  constructor
  · rintro (⟨k, e, h⟩ | h)
    · obtain ⟨hk, e1⟩ := z_get' h
      exact Or.inl ⟨k, hk, (congrArg Prod.fst e1).symm⟩
    · exact Or.inr h
  · rintro (⟨k, hk, rfl⟩ | h)
    · exact Or.inl ⟨k, _, z_get hk⟩
    · exact Or.inr h
def z_ado (ad : Nat → Nat) (sz : Nat) : Prop := (∀ i j, i < 67 → j < 67 → ad i = ad j → i = j) ∧ ∀ i, i < 67 → ad i < sz
theorem z_D {B : Nat} {K : Nat → ClassId} {ad : Nat → Nat} {S : z_S} {sz : Nat} (h : z_ado ad sz) : va_D (z_A ad sz) (z_ws B K ad S) := by
  refine ⟨fun i j p q hi hj hpq => ?_, fun k q hk => ?_⟩
  · obtain ⟨hi1, rfl⟩ := z_get' hi
    obtain ⟨hj1, rfl⟩ := z_get' hj
    exact h.1 i j hi1 hj1 hpq
  · obtain ⟨hk1, rfl⟩ := z_get' hk
    exact Or.inl ⟨k, hk1, rfl⟩
theorem z_A_mono {ad : Nat → Nat} {sz sz' : Nat} (h : sz ≤ sz') {q : Nat} (hq : z_A ad sz' q) : z_A ad sz q := hq.elim Or.inl (fun z => Or.inr (Nat.le_trans h z))
/-- bytes are bytes -/
def z_fit (S : z_S) : Prop := ∀ a, a < 67 → z_tag a = 1 → ∀ i, fits .byte (.int (S.1 a i)) = true
def z_strs : List (Nat × String) := [(127, "the directory has entries"), (139, "the directory would be in itself"), (157, "no size to cut to"), (166, "no such byte"), (178, "not so many names"), (190, "no such object"), (192, "nothing of that number is told about an object"), (200, "no such data block"), (208, "no such node"), (219, "nothing of that number is told of a node"), (227, "no such item"), (238, "nothing of that number is told of an item"), (246, "more is changed than the journal has room for"), (269, "the power can't fail before it is told to"), (278, "the power is on"), (304, "nothing of that number is counted"), (308, "the power is off"), (311, "no such directory"), (313, "no such file"), (315, "no name"), (317, "the directory has that name"), (319, "the directory has no such name"), (324, "no block is free"), (332, "not so many bytes"), (84, "all objects are there")]
def z_nest : List (String × Nat × MethodName × String) := [("PackedTree", 47, ⟨"PackedTree$Power", "<init>", "()V"⟩, "PackedTree"), ("PackedTree$Image", 95, ⟨"PackedTree", "objectOf", "(I)I"⟩, "PackedTree"), ("PackedTree$Image", 98, ⟨"PackedTree", "kindOf", "(I)I"⟩, "PackedTree"), ("PackedTree$Objects", 39, ⟨"PackedTree", "dataBlocks", "(I)I"⟩, "PackedTree"), ("PackedTree$Objects", 43, ⟨"PackedTree", "tailBytes", "(I)I"⟩, "PackedTree"), ("PackedTree$Tree", 56, ⟨"PackedTree", "keyOf", "(III)I"⟩, "PackedTree")]
def z_nw : List Cond := [.castable "java/lang/IllegalStateException" "java/lang/IllegalStateException", .castable "java/lang/UnsupportedOperationException" "java/lang/UnsupportedOperationException", .castable "java/lang/IndexOutOfBoundsException" "java/lang/IndexOutOfBoundsException", .castable "java/lang/IllegalArgumentException" "java/lang/IllegalArgumentException", .declares (Bundle.initS "java/lang/RuntimeException"), .declares (Bundle.initS "java/lang/Exception"), .declares (Bundle.initS "java/lang/Throwable")]
theorem z_nw_warm {s U : State} (hW : s.WarmedH U.vm) {w : Cond} (hw : w ∈ z_nw) (h : va_Nw w s) : va_Nw w U := by
  simp only [z_nw, List.mem_cons, List.not_mem_nil, or_false] at hw
  rcases hw with rfl | rfl | rfl | rfl | rfl | rfl | rfl
  · exact va_Nw.warmC hW h
  · exact va_Nw.warmC hW h
  · exact va_Nw.warmC hW h
  · exact va_Nw.warmC hW h
  · exact va_tabs rfl (rfl : (s.setVm U.vm).vm = U.vm) (by rw [Cond.declares_setVm hW.alike]; exact h)
  · exact va_tabs rfl (rfl : (s.setVm U.vm).vm = U.vm) (by rw [Cond.declares_setVm hW.alike]; exact h)
  · exact va_tabs rfl (rfl : (s.setVm U.vm).vm = U.vm) (by rw [Cond.declares_setVm hW.alike]; exact h)
theorem z_nw_ot : ∀ w ∈ z_nw, w.onTables = true := by
  intro w hw
  simp only [z_nw, List.mem_cons, List.not_mem_nil, or_false] at hw
  rcases hw with rfl | rfl | rfl | rfl | rfl | rfl | rfl <;> rfl
def z_xs (ad : Nat → Nat) (sz : Nat) (U : State) : Prop := (∀ q ∈ z_strs, ∃ sa, vk_R RX5 q.1 q.2 sa U) ∧ (∀ q ∈ z_nest, va_Nw (.methodLinkNest q.1 q.2.1 q.2.2.1 q.2.2.2) U) ∧ (∀ w ∈ z_nw, va_Nw w U) ∧ vx_Zq Bundle.tN "UNASSIGNED_STACK" Bundle.steD (z_A ad sz) U U.heap ∧ vx_Zq Bundle.tN "SUPPRESSED_SENTINEL" Bundle.listD (z_A ad sz) U U.heap
/-- a method's world at its start -/
def z_pre (B : Nat) (D : va_G) (K : Nat → ClassId) (ad : Nat → Nat) (sz : Nat) (S : z_S) (U : State) : Prop := U.heap.size = sz ∧ va_P D vwCl (z_ws B K ad S) U.heap ∧ va_K D vwCl (z_tys K) U ∧ z_fit S ∧ z_xs ad sz U
def z_Qc (B : Nat) (D : va_G) (K : Nat → ClassId) (ad : Nat → Nat) (sz : Nat) (o : z_O) (S' : z_S) : Array Value → State → Outcome → State → Prop := fun _ st oc t => (∃ r : Option Int32, o = .inl r ∧ oc = .returned (r.map Value.int)) ∧ va_P D vwCl (z_ws B K ad S') t.heap ∧ z_fit S' ∧ va_F (z_A ad sz) st t
def z_XC (B : Nat) (D : va_G) (K : Nat → ClassId) (ad : Nat → Nat) (sz : Nat) (o : z_O) (S' : z_S) : String → State → State → Prop := fun E st t => o = .inr E ∧ va_P D vwCl (z_ws B K ad S') t.heap ∧ z_fit S' ∧ va_F (z_A ad sz) st t
/-- a method: its name, code, locals, answer -/
abbrev z_I : Type := MethodName × ByteArray × Nat × Option FieldType
/-- A CONTRACT: at these arguments, in this state, the method ends so and leaves that state; fr frames and lo words of locals suffice below it -/
def z_Met (l : Launch) (I : z_I) (fr lo B : Nat) (As : List Value) (S : z_S) (o : z_O) (S' : z_S) : Prop :=
  ∀ (D : va_G) (K : Nat → ClassId) (ad : Nat → Nat) (sz : Nat), z_ado ad sz → vx_Met l I.1 (Cond.code I.1 I.2.1 I.2.2.1 I.2.2.2 :: z_G) { frames := fr, locals := lo, cells := z_mc o, slots := 6 * z_mc o } (va_Pc (As.map (z_v ad)) (z_pre B D K ad sz S)) (z_Qc B D K ad sz o S') (z_XC B D K ad sz o S') (z_mc o) (6 * z_mc o) (z_A ad sz)
def z_as (ad : Nat → Nat) (ls : List (Option Value)) : List (Nat × Value) := (List.range ls.length).filterMap (fun i => match ls[i]? with | some (some v) => some (i, z_v ad v) | _ => none)
theorem z_as_mem {ad : Nat → Nat} {ls : List (Option Value)} {i : Nat} {w : Value} : (i, w) ∈ z_as ad ls ↔ ∃ v, ls[i]? = some (some v) ∧ w = z_v ad v := by
  simp only [z_as, List.mem_filterMap, List.mem_range]
  constructor
  · rintro ⟨j, hj, h⟩
    cases hv : ls[j]? with
    | none => rw [hv] at h; cases h
    | some o =>
      cases o with
      | none => rw [hv] at h; cases h
      | some v =>
        rw [hv] at h
        cases h
        exact ⟨v, hv, rfl⟩
  · rintro ⟨v, hv, rfl⟩
    exact ⟨i, (List.getElem?_eq_some_iff.mp hv).1, by rw [hv]⟩
/-- what stands at every step of a method -/
def z_C (l : Launch) (I : z_I) (p : Program) (s : State) (m : MethodId) (args : Array Value) (meth : Method) (c : Code) (D : va_G) (K : Nat → ClassId) (ad : Nat → Nat) : Prop :=
  p.tables.exec = Jvm.exec ∧ c.code = I.2.1 ∧ meth.sig.returnType = I.2.2.2 ∧ c.maxLocals = I.2.2.1 ∧ s.vm.findClass I.1.cls = some m.cls ∧ (∀ w ∈ z_G, w.before args s = true) ∧ meth.locks = false ∧ va_K D vwCl (z_tys K) s ∧ z_ado ad s.heap.size ∧ z_xs ad s.heap.size s ∧ (∀ x ∈ c.exceptionTable.toList, False) ∧ l.stackTraces = false
/-- THE JUDGEMENT: from this pc, with these locals and this stack, in the state S, the method comes to the end q -/
def z_W (l : Launch) (I : z_I) (R : Room) (B : Nat) (q : z_O × z_S) (pc : Nat) (ls : List (Option Value)) (st : List Value) (S : z_S) : Prop :=
  ∀ (p : Program) (e : Env) (s : State) (m : MethodId) (args : Array Value) (below : List Frame) (meth : Method) (c : Code) (D : va_G) (K : Nat → ClassId) (ad : Nat → Nat) (H : Heap) (locs : List Loc) (la : Array Slot),
    z_C l I p s m args meth c D K ad → lv_has la I.2.2.1 (z_as ad ls) → va_P D vwCl (z_ws B K ad S) H → z_fit S → va_S (z_A ad s.heap.size) s.heap H locs →
    W p l e R s m args below meth c H locs 0 0 (vx_MQ below (z_Qc B D K ad s.heap.size q.1 q.2) (z_XC B D K ad s.heap.size q.1 q.2) args s (z_mc q.1) (6 * z_mc q.1) (z_A ad s.heap.size)) (F0 m pc la (st.map (z_v ad)))
