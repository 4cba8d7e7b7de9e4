/-! Rows of the packed machine: an instruction each. -/
theorem z_at {ad : Nat → Nat} {ls : List (Option Value)} {la : Array Slot} {n i : Nat} {v : Value} (h : lv_has la n (z_as ad ls)) (hv : ls[i]? = some (some v)) : la[i]? = some (.val (z_v ad v)) := h.2.2 (i, z_v ad v) (z_as_mem.mpr ⟨v, hv, rfl⟩)
/-- no long stands just before place i -/
def z_c1 (ls : List (Option Value)) (i : Nat) : Bool := match i with
  | 0 => true
  | j + 1 => match ls[j]? with
    | some (some (.long _)) => false
    | some (some (.double _)) => false
    | _ => true
theorem z_cat (ad : Nat → Nat) (v : Value) : (z_v ad v).category = v.category := by cases v <;> rfl
theorem z_stored {ad : Nat → Nat} {ls : List (Option Value)} {la : Array Slot} {n i : Nat} {v : Value} (hc : z_c1 ls i = true) (h : lv_has la n ((i, z_v ad v) :: (z_as ad ls).filter (fun q => !(q.1 == i) && !(q.1 + 1 == i && q.2.category == 2)))) : lv_has la n (z_as ad (ls.set i (some v))) := by
  refine ⟨h.1, h.2.1, fun q hq => ?_⟩
  obtain ⟨j, w⟩ := q
  obtain ⟨u, hu, rfl⟩ := z_as_mem.mp hq
  by_cases hj : j = i
  · subst hj
    have hlt : j < ls.length := by
      have := (List.getElem?_eq_some_iff.mp hu).1
      simpa using this
    rw [List.getElem?_set_self hlt] at hu
    cases hu
    exact h.2.2 _ List.mem_cons_self
  · rw [List.getElem?_set_ne (Ne.symm hj)] at hu
    refine h.2.2 _ (List.mem_cons_of_mem _ (List.mem_filter.mpr ⟨z_as_mem.mpr ⟨u, hu, rfl⟩, ?_⟩))
    simp only [Bool.and_eq_true, Bool.not_eq_true', beq_eq_false_iff_ne, ne_eq, Bool.and_eq_false_iff, z_cat]
    refine ⟨hj, ?_⟩
    by_cases hji : j + 1 = i
    · right
      subst hji
      simp only [z_c1, hu] at hc
      cases u <;> first | (simp [Value.category]; done) | cases hc
    · exact Or.inl hji
/-- fewer locals known -/
def z_le : List (Option Value) → List (Option Value) → Prop
  | [], _ => True
  | none :: a, _ :: b => z_le a b
  | none :: a, [] => z_le a []
  | some v :: a, some w :: b => v = w ∧ z_le a b
  | some _ :: _, _ => False
theorem z_le0 {b : List (Option Value)} : z_le [] b := by unfold z_le; trivial
theorem z_len1 {a b : List (Option Value)} {x : Option Value} (h : z_le a b) : z_le (none :: a) (x :: b) := by unfold z_le; exact h
theorem z_lec {a b : List (Option Value)} {v w : Value} (e : v = w) (h : z_le a b) : z_le (some v :: a) (some w :: b) := by unfold z_le; exact ⟨e, h⟩
theorem z_le_at : ∀ (a b : List (Option Value)), z_le a b → ∀ (i : Nat) (v : Value), a[i]? = some (some v) → b[i]? = some (some v)
  | [], _, _, i, v, h => by simp at h
  | none :: a, x :: b, hl, i, v, h => by
    cases i with
    | zero => simp at h
    | succ i =>
      rw [List.getElem?_cons_succ] at h ⊢
      unfold z_le at hl
      exact z_le_at a b hl i v h
  | none :: a, [], hl, i, v, h => by
    cases i with
    | zero => simp at h
    | succ i =>
      rw [List.getElem?_cons_succ] at h
      unfold z_le at hl
      have := z_le_at a [] hl i v h
      simp at this
  | some u :: a, some w :: b, hl, i, v, h => by
    unfold z_le at hl
    cases i with
    | zero => rw [List.getElem?_cons_zero] at h ⊢; rw [← hl.1]; exact h
    | succ i =>
      rw [List.getElem?_cons_succ] at h ⊢
      exact z_le_at a b hl.2 i v h
  | some _ :: _, none :: _, hl, _, _, _ => by unfold z_le at hl; exact hl.elim
  | some _ :: _, [], hl, _, _, _ => by unfold z_le at hl; exact hl.elim
section Z
variable {l : Launch} {I : z_I} {R : Room} {B : Nat} {q : z_O × z_S} {pc pc' : Nat} {ls : List (Option Value)} {st : List Value} {S : z_S}
theorem z_wk {ls' : List (Option Value)} (h : z_le ls' ls) (k : z_W l I R B q pc ls' st S) : z_W l I R B q pc ls st S := by
  intro p e s m args below meth c D K ad H locs la C hl hP hf hS
  refine k p e s m args below meth c D K ad H locs la C ⟨hl.1, hl.2.1, fun w hw => ?_⟩ hP hf hS
  obtain ⟨i, x⟩ := w
  obtain ⟨v, hv, rfl⟩ := z_as_mem.mp hw
  exact z_at hl (z_le_at _ _ h i v hv)
theorem z_iconst {n : Int} {v : Int32} (d : decode I.2.1 pc = .ok (.iconst n, 1)) (hv : Int32.ofInt n = v) (hp : pc + 1 = pc') (k : z_W l I R B q pc' ls (.int v :: st) S) : z_W l I R B q pc ls st S := by
  subst hp
  intro p e s m args below meth c D K ad H locs la C hl hP hf hS
  exact lv_iconst C.1 C.2.1 d hv (k p e s m args below meth c D K ad H locs la C hl hP hf hS)
theorem z_bipush {n : Int} {v : Int32} (d : decode I.2.1 pc = .ok (.bipush n, 2)) (hv : (Int8.ofInt n).toInt32 = v) (hp : pc + 2 = pc') (k : z_W l I R B q pc' ls (.int v :: st) S) : z_W l I R B q pc ls st S := by
  subst hp
  intro p e s m args below meth c D K ad H locs la C hl hP hf hS
  exact lv_bipush C.1 C.2.1 d hv (k p e s m args below meth c D K ad H locs la C hl hP hf hS)
theorem z_sipush {n : Int} {v : Int32} (d : decode I.2.1 pc = .ok (.sipush n, 3)) (hv : (Int16.ofInt n).toInt32 = v) (hp : pc + 3 = pc') (k : z_W l I R B q pc' ls (.int v :: st) S) : z_W l I R B q pc ls st S := by
  subst hp
  intro p e s m args below meth c D K ad H locs la C hl hP hf hS
  exact lv_sipush C.1 C.2.1 d hv (k p e s m args below meth c D K ad H locs la C hl hP hf hS)
theorem z_iload_n {k4 : Fin 4} {i : Nat} {x : Int32} (d : decode I.2.1 pc = .ok (.iload_n k4, 1)) (hi : (k4 : Nat) = i) (hx : ls[i]? = some (some (.int x))) (hp : pc + 1 = pc') (k : z_W l I R B q pc' ls (.int x :: st) S) : z_W l I R B q pc ls st S := by
  subst hp
  intro p e s m args below meth c D K ad H locs la C hl hP hf hS
  exact lv_iload_n C.1 C.2.1 d hi (z_at hl hx) (k p e s m args below meth c D K ad H locs la C hl hP hf hS)
theorem z_iload {i : Nat} {x : Int32} (d : decode I.2.1 pc = .ok (.iload i, 2)) (hx : ls[i]? = some (some (.int x))) (hp : pc + 2 = pc') (k : z_W l I R B q pc' ls (.int x :: st) S) : z_W l I R B q pc ls st S := by
  subst hp
  intro p e s m args below meth c D K ad H locs la C hl hP hf hS
  exact lv_iload C.1 C.2.1 d (z_at hl hx) (k p e s m args below meth c D K ad H locs la C hl hP hf hS)
theorem z_aload_n {k4 : Fin 4} {i : Nat} {x : Nat} (d : decode I.2.1 pc = .ok (.aload_n k4, 1)) (hi : (k4 : Nat) = i) (hx : ls[i]? = some (some (.ref x))) (hp : pc + 1 = pc') (k : z_W l I R B q pc' ls (.ref x :: st) S) : z_W l I R B q pc ls st S := by
  subst hp
  intro p e s m args below meth c D K ad H locs la C hl hP hf hS
  exact lv_aload_n C.1 C.2.1 d hi (z_at hl hx) (k p e s m args below meth c D K ad H locs la C hl hP hf hS)
theorem z_aload {i : Nat} {x : Nat} (d : decode I.2.1 pc = .ok (.aload i, 2)) (hx : ls[i]? = some (some (.ref x))) (hp : pc + 2 = pc') (k : z_W l I R B q pc' ls (.ref x :: st) S) : z_W l I R B q pc ls st S := by
  subst hp
  intro p e s m args below meth c D K ad H locs la C hl hP hf hS
  exact lv_aload C.1 C.2.1 d (z_at hl hx) (k p e s m args below meth c D K ad H locs la C hl hP hf hS)
theorem z_lload_n {k4 : Fin 4} {i : Nat} {x : Int64} (d : decode I.2.1 pc = .ok (.lload_n k4, 1)) (hi : (k4 : Nat) = i) (hx : ls[i]? = some (some (.long x))) (hp : pc + 1 = pc') (k : z_W l I R B q pc' ls (.long x :: st) S) : z_W l I R B q pc ls st S := by
  subst hp
  intro p e s m args below meth c D K ad H locs la C hl hP hf hS
  exact lv_lload_n C.1 C.2.1 d hi (z_at hl hx) (k p e s m args below meth c D K ad H locs la C hl hP hf hS)
theorem z_lload {i : Nat} {x : Int64} (d : decode I.2.1 pc = .ok (.lload i, 2)) (hx : ls[i]? = some (some (.long x))) (hp : pc + 2 = pc') (k : z_W l I R B q pc' ls (.long x :: st) S) : z_W l I R B q pc ls st S := by
  subst hp
  intro p e s m args below meth c D K ad H locs la C hl hP hf hS
  exact lv_lload C.1 C.2.1 d (z_at hl hx) (k p e s m args below meth c D K ad H locs la C hl hP hf hS)
theorem z_istore_n {k4 : Fin 4} {i : Nat} {x : Int32} (d : decode I.2.1 pc = .ok (.istore_n k4, 1)) (hi : (k4 : Nat) = i) (hn : i < I.2.2.1) (hc : z_c1 ls i = true) (hp : pc + 1 = pc') (k : z_W l I R B q pc' (ls.set i (some (.int x))) st S) : z_W l I R B q pc ls (.int x :: st) S := by
  subst hp
  intro p e s m args below meth c D K ad H locs la C hl hP hf hS
  exact lv_istore_n C.1 C.2.1 d hi hl hn rfl (fun la2 hl2 => k p e s m args below meth c D K ad H locs la2 C (z_stored hc hl2) hP hf hS)
theorem z_istore {i : Nat} {x : Int32} (d : decode I.2.1 pc = .ok (.istore i, 2)) (hn : i < I.2.2.1) (hc : z_c1 ls i = true) (hp : pc + 2 = pc') (k : z_W l I R B q pc' (ls.set i (some (.int x))) st S) : z_W l I R B q pc ls (.int x :: st) S := by
  subst hp
  intro p e s m args below meth c D K ad H locs la C hl hP hf hS
  exact lv_istore C.1 C.2.1 d hl hn rfl (fun la2 hl2 => k p e s m args below meth c D K ad H locs la2 C (z_stored hc hl2) hP hf hS)
theorem z_astore_n {k4 : Fin 4} {i : Nat} {x : Nat} (d : decode I.2.1 pc = .ok (.astore_n k4, 1)) (hi : (k4 : Nat) = i) (hn : i < I.2.2.1) (hc : z_c1 ls i = true) (hp : pc + 1 = pc') (k : z_W l I R B q pc' (ls.set i (some (.ref x))) st S) : z_W l I R B q pc ls (.ref x :: st) S := by
  subst hp
  intro p e s m args below meth c D K ad H locs la C hl hP hf hS
  exact lv_astore_n C.1 C.2.1 d hi hl hn rfl (fun la2 hl2 => k p e s m args below meth c D K ad H locs la2 C (z_stored hc hl2) hP hf hS)
theorem z_astore {i : Nat} {x : Nat} (d : decode I.2.1 pc = .ok (.astore i, 2)) (hn : i < I.2.2.1) (hc : z_c1 ls i = true) (hp : pc + 2 = pc') (k : z_W l I R B q pc' (ls.set i (some (.ref x))) st S) : z_W l I R B q pc ls (.ref x :: st) S := by
  subst hp
  intro p e s m args below meth c D K ad H locs la C hl hP hf hS
  exact lv_astore C.1 C.2.1 d hl hn rfl (fun la2 hl2 => k p e s m args below meth c D K ad H locs la2 C (z_stored hc hl2) hP hf hS)
theorem z_iinc {i : Nat} {n : Int} {x v : Int32} (d : decode I.2.1 pc = .ok (.iinc i n, 3)) (hx : ls[i]? = some (some (.int x))) (hv : x + Int32.ofInt n = v) (hn : i < I.2.2.1) (hc : z_c1 ls i = true) (hp : pc + 3 = pc') (k : z_W l I R B q pc' (ls.set i (some (.int v))) st S) : z_W l I R B q pc ls st S := by
  subst hp
  intro p e s m args below meth c D K ad H locs la C hl hP hf hS
  obtain ⟨j, hj⟩ := List.getElem?_of_mem (z_as_mem.mpr ⟨_, hx, rfl⟩ : (i, z_v ad (.int x)) ∈ z_as ad ls)
  exact lv_iinc C.1 C.2.1 d hl hj hv hn rfl (fun la2 hl2 => k p e s m args below meth c D K ad H locs la2 C (z_stored hc hl2) hP hf hS)
theorem z_iadd {x y : Int32} (d : decode I.2.1 pc = .ok (.iadd, 1)) (hp : pc + 1 = pc') (k : z_W l I R B q pc' ls (.int (x + y) :: st) S) : z_W l I R B q pc ls (.int y :: .int x :: st) S := by
  subst hp
  intro p e s m args below meth c D K ad H locs la C hl hP hf hS
  exact lv_iadd C.1 C.2.1 d (k p e s m args below meth c D K ad H locs la C hl hP hf hS)
theorem z_isub {x y : Int32} (d : decode I.2.1 pc = .ok (.isub, 1)) (hp : pc + 1 = pc') (k : z_W l I R B q pc' ls (.int (x - y) :: st) S) : z_W l I R B q pc ls (.int y :: .int x :: st) S := by
  subst hp
  intro p e s m args below meth c D K ad H locs la C hl hP hf hS
  exact lv_isub C.1 C.2.1 d (k p e s m args below meth c D K ad H locs la C hl hP hf hS)
theorem z_imul {x y : Int32} (d : decode I.2.1 pc = .ok (.imul, 1)) (hp : pc + 1 = pc') (k : z_W l I R B q pc' ls (.int (x * y) :: st) S) : z_W l I R B q pc ls (.int y :: .int x :: st) S := by
  subst hp
  intro p e s m args below meth c D K ad H locs la C hl hP hf hS
  exact lv_imul C.1 C.2.1 d (k p e s m args below meth c D K ad H locs la C hl hP hf hS)
theorem z_iand {x y : Int32} (d : decode I.2.1 pc = .ok (.iand, 1)) (hp : pc + 1 = pc') (k : z_W l I R B q pc' ls (.int (x &&& y) :: st) S) : z_W l I R B q pc ls (.int y :: .int x :: st) S := by
  subst hp
  intro p e s m args below meth c D K ad H locs la C hl hP hf hS
  exact lv_iand C.1 C.2.1 d (k p e s m args below meth c D K ad H locs la C hl hP hf hS)
theorem z_idiv {x y : Int32} (d : decode I.2.1 pc = .ok (.idiv, 1)) (hne : ¬ y = 0) (hp : pc + 1 = pc') (k : z_W l I R B q pc' ls (.int (x / y) :: st) S) : z_W l I R B q pc ls (.int y :: .int x :: st) S := by
  subst hp
  intro p e s m args below meth c D K ad H locs la C hl hP hf hS
  exact lv_idiv C.1 C.2.1 d hne (k p e s m args below meth c D K ad H locs la C hl hP hf hS)
theorem z_irem {x y : Int32} (d : decode I.2.1 pc = .ok (.irem, 1)) (hne : ¬ y = 0) (hp : pc + 1 = pc') (k : z_W l I R B q pc' ls (.int (x - x / y * y) :: st) S) : z_W l I R B q pc ls (.int y :: .int x :: st) S := by
  subst hp
  intro p e s m args below meth c D K ad H locs la C hl hP hf hS
  exact lv_irem C.1 C.2.1 d hne (k p e s m args below meth c D K ad H locs la C hl hP hf hS)
theorem z_land {x y : Int64} (d : decode I.2.1 pc = .ok (.land, 1)) (hp : pc + 1 = pc') (k : z_W l I R B q pc' ls (.long (x &&& y) :: st) S) : z_W l I R B q pc ls (.long y :: .long x :: st) S := by
  subst hp
  intro p e s m args below meth c D K ad H locs la C hl hP hf hS
  exact lv_land C.1 C.2.1 d (k p e s m args below meth c D K ad H locs la C hl hP hf hS)
theorem z_lshr {x : Int64} {y : Int32} (d : decode I.2.1 pc = .ok (.lshr, 1)) (hp : pc + 1 = pc') (k : z_W l I R B q pc' ls (.long (x >>> (y.toInt64 &&& 63)) :: st) S) : z_W l I R B q pc ls (.int y :: .long x :: st) S := by
  subst hp
  intro p e s m args below meth c D K ad H locs la C hl hP hf hS
  exact lv_lshr C.1 C.2.1 d rfl (k p e s m args below meth c D K ad H locs la C hl hP hf hS)
theorem z_i2l {x : Int32} (d : decode I.2.1 pc = .ok (.i2l, 1)) (hp : pc + 1 = pc') (k : z_W l I R B q pc' ls (.long x.toInt64 :: st) S) : z_W l I R B q pc ls (.int x :: st) S := by
  subst hp
  intro p e s m args below meth c D K ad H locs la C hl hP hf hS
  exact lv_i2l C.1 C.2.1 d rfl (k p e s m args below meth c D K ad H locs la C hl hP hf hS)
theorem z_l2i {x : Int64} (d : decode I.2.1 pc = .ok (.l2i, 1)) (hp : pc + 1 = pc') (k : z_W l I R B q pc' ls (.int x.toInt32 :: st) S) : z_W l I R B q pc ls (.long x :: st) S := by
  subst hp
  intro p e s m args below meth c D K ad H locs la C hl hP hf hS
  exact lv_l2i C.1 C.2.1 d rfl (k p e s m args below meth c D K ad H locs la C hl hP hf hS)
theorem z_i2b {x : Int32} (d : decode I.2.1 pc = .ok (.i2b, 1)) (hp : pc + 1 = pc') (k : z_W l I R B q pc' ls (.int x.toInt8.toInt32 :: st) S) : z_W l I R B q pc ls (.int x :: st) S := by
  subst hp
  intro p e s m args below meth c D K ad H locs la C hl hP hf hS
  exact lv_i2b C.1 C.2.1 d rfl (k p e s m args below meth c D K ad H locs la C hl hP hf hS)
theorem z_dupi {x : Int32} (d : decode I.2.1 pc = .ok (.dup, 1)) (hp : pc + 1 = pc') (k : z_W l I R B q pc' ls (.int x :: .int x :: st) S) : z_W l I R B q pc ls (.int x :: st) S := by
  subst hp
  intro p e s m args below meth c D K ad H locs la C hl hP hf hS
  exact lv_dup C.1 C.2.1 d rfl (k p e s m args below meth c D K ad H locs la C hl hP hf hS)
theorem z_dupr {x : Nat} (d : decode I.2.1 pc = .ok (.dup, 1)) (hp : pc + 1 = pc') (k : z_W l I R B q pc' ls (.ref x :: .ref x :: st) S) : z_W l I R B q pc ls (.ref x :: st) S := by
  subst hp
  intro p e s m args below meth c D K ad H locs la C hl hP hf hS
  exact lv_dup C.1 C.2.1 d rfl (k p e s m args below meth c D K ad H locs la C hl hP hf hS)
theorem z_dup2 {x : Nat} {y : Int32} (d : decode I.2.1 pc = .ok (.dup2, 1)) (hp : pc + 1 = pc') (k : z_W l I R B q pc' ls (.int y :: .ref x :: .int y :: .ref x :: st) S) : z_W l I R B q pc ls (.int y :: .ref x :: st) S := by
  subst hp
  intro p e s m args below meth c D K ad H locs la C hl hP hf hS
  exact lv_dup2_11 C.1 C.2.1 d rfl rfl (k p e s m args below meth c D K ad H locs la C hl hP hf hS)
theorem z_popi {x : Int32} (d : decode I.2.1 pc = .ok (.pop, 1)) (hp : pc + 1 = pc') (k : z_W l I R B q pc' ls st S) : z_W l I R B q pc ls (.int x :: st) S := by
  subst hp
  intro p e s m args below meth c D K ad H locs la C hl hP hf hS
  exact lv_pop C.1 C.2.1 d rfl (k p e s m args below meth c D K ad H locs la C hl hP hf hS)
theorem z_ldc2 {index : Nat} {v : Int64} (d : decode I.2.1 pc = .ok (.ldc2_w index, 3)) (hw : Cond.constantLong I.1.cls index v ∈ z_G) (hp : pc + 3 = pc') (k : z_W l I R B q pc' ls (.long v :: st) S) : z_W l I R B q pc ls st S := by
  subst hp
  intro p e s m args below meth c D K ad H locs la C hl hP hf hS
  exact lv_ldc2 C.1 C.2.1 C.2.2.2.2.1 (C.2.2.2.2.2.1 _ hw) d (k p e s m args below meth c D K ad H locs la C hl hP hf hS)
theorem z_goto {off : Int} (d : decode I.2.1 pc = .ok (.goto off, 3)) (ht : (pc : Int) + off = (pc' : Int)) (k : z_W l I R B q pc' ls st S) : z_W l I R B q pc ls st S := by
  intro p e s m args below meth c D K ad H locs la C hl hP hf hS
  exact lv_goto C.1 C.2.1 d ht (k p e s m args below meth c D K ad H locs la C hl hP hf hS)
theorem z_if_eq {x : Int32} {off : Int} {tgt : Nat} (d : decode I.2.1 pc = .ok (.ifCond .eq off, 3)) (ht : (pc : Int) + off = (tgt : Int)) (hp : pc + 3 = pc') (kt : x = 0 → z_W l I R B q tgt ls st S) (kf : ¬ x = 0 → z_W l I R B q pc' ls st S) : z_W l I R B q pc ls (.int x :: st) S := by
  subst hp
  intro p e s m args below meth c D K ad H locs la C hl hP hf hS
  exact lv_if_eq C.1 C.2.1 d ht (fun h => kt h p e s m args below meth c D K ad H locs la C hl hP hf hS) (fun h => kf h p e s m args below meth c D K ad H locs la C hl hP hf hS)
theorem z_if_ne {x : Int32} {off : Int} {tgt : Nat} (d : decode I.2.1 pc = .ok (.ifCond .ne off, 3)) (ht : (pc : Int) + off = (tgt : Int)) (hp : pc + 3 = pc') (kt : ¬ x = 0 → z_W l I R B q tgt ls st S) (kf : x = 0 → z_W l I R B q pc' ls st S) : z_W l I R B q pc ls (.int x :: st) S := by
  subst hp
  intro p e s m args below meth c D K ad H locs la C hl hP hf hS
  exact lv_if_ne C.1 C.2.1 d ht (fun h => kt h p e s m args below meth c D K ad H locs la C hl hP hf hS) (fun h => kf h p e s m args below meth c D K ad H locs la C hl hP hf hS)
theorem z_if_lt {x : Int32} {off : Int} {tgt : Nat} (d : decode I.2.1 pc = .ok (.ifCond .lt off, 3)) (ht : (pc : Int) + off = (tgt : Int)) (hp : pc + 3 = pc') (kt : x < 0 → z_W l I R B q tgt ls st S) (kf : ¬ x < 0 → z_W l I R B q pc' ls st S) : z_W l I R B q pc ls (.int x :: st) S := by
  subst hp
  intro p e s m args below meth c D K ad H locs la C hl hP hf hS
  exact lv_if_lt C.1 C.2.1 d ht (fun h => kt h p e s m args below meth c D K ad H locs la C hl hP hf hS) (fun h => kf h p e s m args below meth c D K ad H locs la C hl hP hf hS)
theorem z_if_ge {x : Int32} {off : Int} {tgt : Nat} (d : decode I.2.1 pc = .ok (.ifCond .ge off, 3)) (ht : (pc : Int) + off = (tgt : Int)) (hp : pc + 3 = pc') (kt : 0 ≤ x → z_W l I R B q tgt ls st S) (kf : ¬ 0 ≤ x → z_W l I R B q pc' ls st S) : z_W l I R B q pc ls (.int x :: st) S := by
  subst hp
  intro p e s m args below meth c D K ad H locs la C hl hP hf hS
  exact lv_if_ge C.1 C.2.1 d ht (fun h => kt h p e s m args below meth c D K ad H locs la C hl hP hf hS) (fun h => kf h p e s m args below meth c D K ad H locs la C hl hP hf hS)
theorem z_if_gt {x : Int32} {off : Int} {tgt : Nat} (d : decode I.2.1 pc = .ok (.ifCond .gt off, 3)) (ht : (pc : Int) + off = (tgt : Int)) (hp : pc + 3 = pc') (kt : 0 < x → z_W l I R B q tgt ls st S) (kf : ¬ 0 < x → z_W l I R B q pc' ls st S) : z_W l I R B q pc ls (.int x :: st) S := by
  subst hp
  intro p e s m args below meth c D K ad H locs la C hl hP hf hS
  exact lv_if_gt C.1 C.2.1 d ht (fun h => kt h p e s m args below meth c D K ad H locs la C hl hP hf hS) (fun h => kf h p e s m args below meth c D K ad H locs la C hl hP hf hS)
theorem z_if_le {x : Int32} {off : Int} {tgt : Nat} (d : decode I.2.1 pc = .ok (.ifCond .le off, 3)) (ht : (pc : Int) + off = (tgt : Int)) (hp : pc + 3 = pc') (kt : x ≤ 0 → z_W l I R B q tgt ls st S) (kf : ¬ x ≤ 0 → z_W l I R B q pc' ls st S) : z_W l I R B q pc ls (.int x :: st) S := by
  subst hp
  intro p e s m args below meth c D K ad H locs la C hl hP hf hS
  exact lv_if_le C.1 C.2.1 d ht (fun h => kt h p e s m args below meth c D K ad H locs la C hl hP hf hS) (fun h => kf h p e s m args below meth c D K ad H locs la C hl hP hf hS)
theorem z_icmp_eq {x y : Int32} {off : Int} {tgt : Nat} (d : decode I.2.1 pc = .ok (.if_icmp .eq off, 3)) (ht : (pc : Int) + off = (tgt : Int)) (hp : pc + 3 = pc') (kt : x = y → z_W l I R B q tgt ls st S) (kf : ¬ x = y → z_W l I R B q pc' ls st S) : z_W l I R B q pc ls (.int y :: .int x :: st) S := by
  subst hp
  intro p e s m args below meth c D K ad H locs la C hl hP hf hS
  exact lv_icmp_eq C.1 C.2.1 d ht (fun h => kt h p e s m args below meth c D K ad H locs la C hl hP hf hS) (fun h => kf h p e s m args below meth c D K ad H locs la C hl hP hf hS)
theorem z_icmp_ne {x y : Int32} {off : Int} {tgt : Nat} (d : decode I.2.1 pc = .ok (.if_icmp .ne off, 3)) (ht : (pc : Int) + off = (tgt : Int)) (hp : pc + 3 = pc') (kt : ¬ x = y → z_W l I R B q tgt ls st S) (kf : x = y → z_W l I R B q pc' ls st S) : z_W l I R B q pc ls (.int y :: .int x :: st) S := by
  subst hp
  intro p e s m args below meth c D K ad H locs la C hl hP hf hS
  exact lv_icmp_ne C.1 C.2.1 d ht (fun h => kt h p e s m args below meth c D K ad H locs la C hl hP hf hS) (fun h => kf h p e s m args below meth c D K ad H locs la C hl hP hf hS)
theorem z_icmp_lt {x y : Int32} {off : Int} {tgt : Nat} (d : decode I.2.1 pc = .ok (.if_icmp .lt off, 3)) (ht : (pc : Int) + off = (tgt : Int)) (hp : pc + 3 = pc') (kt : x < y → z_W l I R B q tgt ls st S) (kf : ¬ x < y → z_W l I R B q pc' ls st S) : z_W l I R B q pc ls (.int y :: .int x :: st) S := by
  subst hp
  intro p e s m args below meth c D K ad H locs la C hl hP hf hS
  exact lv_icmp_lt C.1 C.2.1 d ht (fun h => kt h p e s m args below meth c D K ad H locs la C hl hP hf hS) (fun h => kf h p e s m args below meth c D K ad H locs la C hl hP hf hS)
theorem z_icmp_ge {x y : Int32} {off : Int} {tgt : Nat} (d : decode I.2.1 pc = .ok (.if_icmp .ge off, 3)) (ht : (pc : Int) + off = (tgt : Int)) (hp : pc + 3 = pc') (kt : y ≤ x → z_W l I R B q tgt ls st S) (kf : ¬ y ≤ x → z_W l I R B q pc' ls st S) : z_W l I R B q pc ls (.int y :: .int x :: st) S := by
  subst hp
  intro p e s m args below meth c D K ad H locs la C hl hP hf hS
  exact lv_icmp_ge C.1 C.2.1 d ht (fun h => kt h p e s m args below meth c D K ad H locs la C hl hP hf hS) (fun h => kf h p e s m args below meth c D K ad H locs la C hl hP hf hS)
theorem z_icmp_gt {x y : Int32} {off : Int} {tgt : Nat} (d : decode I.2.1 pc = .ok (.if_icmp .gt off, 3)) (ht : (pc : Int) + off = (tgt : Int)) (hp : pc + 3 = pc') (kt : y < x → z_W l I R B q tgt ls st S) (kf : ¬ y < x → z_W l I R B q pc' ls st S) : z_W l I R B q pc ls (.int y :: .int x :: st) S := by
  subst hp
  intro p e s m args below meth c D K ad H locs la C hl hP hf hS
  exact lv_icmp_gt C.1 C.2.1 d ht (fun h => kt h p e s m args below meth c D K ad H locs la C hl hP hf hS) (fun h => kf h p e s m args below meth c D K ad H locs la C hl hP hf hS)
theorem z_icmp_le {x y : Int32} {off : Int} {tgt : Nat} (d : decode I.2.1 pc = .ok (.if_icmp .le off, 3)) (ht : (pc : Int) + off = (tgt : Int)) (hp : pc + 3 = pc') (kt : x ≤ y → z_W l I R B q tgt ls st S) (kf : ¬ x ≤ y → z_W l I R B q pc' ls st S) : z_W l I R B q pc ls (.int y :: .int x :: st) S := by
  subst hp
  intro p e s m args below meth c D K ad H locs la C hl hP hf hS
  exact lv_icmp_le C.1 C.2.1 d ht (fun h => kt h p e s m args below meth c D K ad H locs la C hl hP hf hS) (fun h => kf h p e s m args below meth c D K ad H locs la C hl hP hf hS)
theorem z_tswIn {dflt lo hi : Int} {offs : Array Int} {len : Nat} {x : Int32} {off : Int} {tgt : Nat} (d : decode I.2.1 pc = .ok (.tableswitch dflt lo hi offs, len)) (h1 : ¬ x.toInt < lo) (h2 : ¬ hi < x.toInt) (ho : offs[(x.toInt - lo).toNat]? = some off) (ht : (pc : Int) + off = (tgt : Int)) (k : z_W l I R B q tgt ls st S) : z_W l I R B q pc ls (.int x :: st) S := by
  intro p e s m args below meth c D K ad H locs la C hl hP hf hS
  exact lv_tableIn C.1 C.2.1 d h1 h2 ho ht (k p e s m args below meth c D K ad H locs la C hl hP hf hS)
theorem z_tswOut {dflt lo hi : Int} {offs : Array Int} {len : Nat} {x : Int32} {tgt : Nat} (d : decode I.2.1 pc = .ok (.tableswitch dflt lo hi offs, len)) (h : x.toInt < lo ∨ hi < x.toInt) (ht : (pc : Int) + dflt = (tgt : Int)) (k : z_W l I R B q tgt ls st S) : z_W l I R B q pc ls (.int x :: st) S := by
  intro p e s m args below meth c D K ad H locs la C hl hP hf hS
  exact lv_tableOut C.1 C.2.1 d h ht (k p e s m args below meth c D K ad H locs la C hl hP hf hS)
/-- an array of the layout -/
def z_arr (B a t n : Nat) : Prop := a < 67 ∧ z_tag a = t ∧ z_len B a = n
theorem z_arr_at {a t n : Nat} {K : Nat → ClassId} {ad : Nat → Nat} (h : z_arr B a t n) (ht : t < 3) : (z_ws B K ad S)[a]? = some (ad a, .inl (K t, n, .inl (S.1 a))) := by
  obtain ⟨h1, h2, h3⟩ := h
  rw [z_get h1, z_hp_arr (by omega), h2, h3]; rfl
theorem z_tys_at {K : Nat → ClassId} : (z_tys K)[0]? = some (K 0, .int) ∧ (z_tys K)[1]? = some (K 1, .byte) ∧ (z_tys K)[2]? = some (K 2, .boolean) ∧ (z_tys K)[3]? = some (K 3, .long) := ⟨rfl, rfl, rfl, rfl⟩
theorem z_alen {a t n : Nat} {v : Int32} (ha : z_arr B a t n) (ht : t < 3) (hv : Int32.ofNat n = v) (d : decode I.2.1 pc = .ok (.arraylength, 1)) (hp : pc + 1 = pc') (k : z_W l I R B q pc' ls (.int v :: st) S) : z_W l I R B q pc ls (.ref a :: st) S := by
  subst hp
  intro p e s m args below meth c D K ad H locs la C hl hP hf hS
  have kk := k p e s m args below meth c D K ad H locs la C hl hP hf hS
  have h9 := z_arr_at (S := S) (K := K) (ad := ad) ha ht
  rcases (show t = 0 ∨ t = 1 ∨ t = 2 by omega) with rfl | rfl | rfl
  · exact va_alen C.1 C.2.1 C.2.2.2.2.2.2.2.1 hP a 0 h9 z_tys_at.1 hv d kk
  · exact va_alen C.1 C.2.1 C.2.2.2.2.2.2.2.1 hP a 1 h9 z_tys_at.2.1 hv d kk
  · exact va_alen C.1 C.2.1 C.2.2.2.2.2.2.2.1 hP a 2 h9 z_tys_at.2.2.1 hv d kk
theorem z_iaload {a n : Nat} {i : Int32} (ha : z_arr B a 0 n) (hi : vp_in i n) (d : decode I.2.1 pc = .ok (.iaload, 1)) (hp : pc + 1 = pc') (k : z_W l I R B q pc' ls (.int (S.1 a i.toNatClampNeg) :: st) S) : z_W l I R B q pc ls (.int i :: .ref a :: st) S := by
  subst hp
  intro p e s m args below meth c D K ad H locs la C hl hP hf hS
  exact va_iald C.1 C.2.1 C.2.2.2.2.2.2.2.1 hP a 0 (z_arr_at ha (by decide)) z_tys_at.1 hi d (k p e s m args below meth c D K ad H locs la C hl hP hf hS)
theorem z_baload {a n : Nat} {i : Int32} (ha : z_arr B a 1 n) (hi : vp_in i n) (d : decode I.2.1 pc = .ok (.baload, 1)) (hp : pc + 1 = pc') (k : z_W l I R B q pc' ls (.int (S.1 a i.toNatClampNeg) :: st) S) : z_W l I R B q pc ls (.int i :: .ref a :: st) S := by
  subst hp
  intro p e s m args below meth c D K ad H locs la C hl hP hf hS
  exact va_bald C.1 C.2.1 C.2.2.2.2.2.2.2.1 hP a 1 (z_arr_at ha (by decide)) z_tys_at.2.1 hi d (k p e s m args below meth c D K ad H locs la C hl hP hf hS)
theorem z_ua_ws {a t n : Nat} {K : Nat → ClassId} {ad : Nat → Nat} {f : Nat → Int32} (ha : z_arr B a t n) (ht : t < 3) : (z_ws B K ad S).set a (ad a, .inl (K t, n, .inl f)) = z_ws B K ad (z_ua S a f) := by
  obtain ⟨h1, h2, h3⟩ := ha
  have := z_set (B := B) (K := K) (ad := ad) (S := S) (S' := z_ua S a f) (k := a) h1 (z_ua_self (by omega)) (fun j hj => z_ua_ne hj)
  rw [h2, h3] at this
  exact this
theorem z_fit_ua {a : Nat} {f : Nat → Int32} (h : z_fit S) (hf : z_tag a = 1 → ∀ i, fits .byte (.int (f i)) = true) : z_fit (z_ua S a f) := by
  intro b hb ht i
  by_cases e : b = a
  · subst e
    simp only [z_ua, va_up, if_true]
    exact hf ht i
  · simp only [z_ua, va_up, e, if_false]
    exact h b hb ht i
theorem z_iastore {a n : Nat} {i x : Int32} (ha : z_arr B a 0 n) (hi : vp_in i n) (d : decode I.2.1 pc = .ok (.iastore, 1)) (hp : pc + 1 = pc') (k : ∀ S', S' = z_ua S a (upd (S.1 a) i.toNatClampNeg x) → z_W l I R B q pc' ls st S') : z_W l I R B q pc ls (.int x :: .int i :: .ref a :: st) S := by
  subst hp
  intro p e s m args below meth c D K ad H locs la C hl hP hf hS
  refine va_iast C.1 C.2.1 C.2.2.2.2.2.2.2.1 hP (z_D C.2.2.2.2.2.2.2.2.1) hS a 0 (z_arr_at ha (by decide)) z_tys_at.1 hi d (fun H1 locs1 hP1 _ hS1 => ?_)
  rw [z_ua_ws ha (by decide)] at hP1
  exact k _ rfl p e s m args below meth c D K ad H1 locs1 la C hl hP1 (z_fit_ua hf (fun h => by rw [ha.2.1] at h; cases h)) hS1
theorem z_nar_fit (x : Int32) : fits .byte (.int (vp_nar .byte x)) = true := by rw [vp_nar_byte]; exact pk_fb x
theorem z_bastore {a n : Nat} {i x : Int32} (ha : z_arr B a 1 n) (hi : vp_in i n) (d : decode I.2.1 pc = .ok (.bastore, 1)) (hp : pc + 1 = pc') (k : ∀ S', S' = z_ua S a (upd (S.1 a) i.toNatClampNeg (vp_nar .byte x)) → z_W l I R B q pc' ls st S') : z_W l I R B q pc ls (.int x :: .int i :: .ref a :: st) S := by
  subst hp
  intro p e s m args below meth c D K ad H locs la C hl hP hf hS
  refine va_bast C.1 C.2.1 C.2.2.2.2.2.2.2.1 hP (z_D C.2.2.2.2.2.2.2.2.1) hS a 1 (z_arr_at ha (by decide)) z_tys_at.2.1 hi d (fun H1 locs1 hP1 _ hS1 => ?_)
  rw [z_ua_ws ha (by decide)] at hP1
  refine k _ rfl p e s m args below meth c D K ad H1 locs1 la C hl hP1 (z_fit_ua hf (fun _ j => ?_)) hS1
  show fits .byte (.int (if j = _ then _ else _)) = true
  split
  · exact z_nar_fit x
  · exact hf a ha.1 ha.2.1 j
end Z
