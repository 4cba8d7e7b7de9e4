/-! The law's loop: what stands at every step of it. -/
/-- what isn't the law's own -/
def g_A (s : State) : Nat → Prop := fun q => s.heap.size ≤ q
def g_C (l : Launch) (p : Program) (s : State) (m : MethodId) (c : Code) (b L : Nat) (xs : Nat → Int32) (D : va_G) (K : Nat → ClassId) (ad : Nat → Nat) : Prop := p.tables.exec = Jvm.exec ∧ c.code = cL_law ∧ c.maxLocals = 7 ∧ s.vm.findClass RL = some m.cls ∧ (∀ w ∈ z_G, w.before #[Value.ref b] s = true) ∧ va_K D vwCl (z_tys K) s ∧ va_X b L xs s s.heap ∧ b < s.heap.size ∧ (∀ k, k < 67 → s.heap.size ≤ ad k) ∧ l.stackTraces = false ∧ L ≤ 3074 ∧ ∀ (H : Heap) (locs : List Loc), va_S (g_A s) s.heap H locs → ∀ U : State, U.heap = H → s.WarmedH U.vm → z_xs ad H.size U ∧ ∀ q ∈ v_nc, va_Nc q.1 q.2 U
/-- the locals at the loop's head -/
def g_lv (b : Nat) (ad : Nat → Nat) (i : Nat) : List (Nat × Value) := [(4, .int (nI i)), (3, .ref (ad 66)), (2, .ref (ad 60)), (1, .ref (ad 0)), (0, .ref b)]
section G
variable {p : Program} {l : Launch} {e : Env} {R : Room} {s : State} {m : MethodId} {args : Array Value} {below : List Frame} {meth : Method} {c : Code} {H : Heap} {locs : List Loc} {cells slots : Nat} {Q : State → Prop} {b L B J i : Nat} {xs : Nat → Int32} {D : va_G} {K : Nat → ClassId} {ad : Nat → Nat} {S : z_S} {ls : Array Slot} {rest : List Value} {x : Int32} {y z : Int64} {pc : Nat}
theorem g_F (C : g_C l p s m c b L xs D K ad) : CallFix p m c cL_law 7 s #[Value.ref b] z_G RL := ⟨C.1, C.2.1, C.2.2.1, C.2.2.2.1, C.2.2.2.2.1⟩
theorem g_in (C : g_C l p s m c b L xs D K ad) (hS : va_S (g_A s) s.heap H locs) : ∀ q, z_A ad H.size q → g_A s q := by
  rintro q (⟨k, hk, rfl⟩ | h)
  · exact C.2.2.2.2.2.2.2.2.1 k hk
  · exact Nat.le_trans hS.1 h
theorem g_pre (C : g_C l p s m c b L xs D K ad) (hP : va_P D vwCl (z_ws B K ad S) H) (hf : z_fit S) (hS : va_S (g_A s) s.heap H locs) : ∀ U : State, U.heap = H → s.WarmedH U.vm → z_pre B D K ad H.size S U := fun U hU hW =>
  ⟨by rw [hU], by rw [hU]; exact hP, va_K.moved hW.alike C.2.2.2.2.2.1, hf, (C.2.2.2.2.2.2.2.2.2.2.2 H locs hS U hU hW).1⟩
theorem g_preV (C : g_C l p s m c b L xs D K ad) (hP : va_P D vwCl (z_ws B K ad S) H) (hf : z_fit S) (hS : va_S (g_A s) s.heap H locs) : ∀ U : State, U.heap = H → s.WarmedH U.vm → v_pre B D K ad H.size S U := fun U hU hW =>
  ⟨g_pre C hP hf hS U hU hW, (C.2.2.2.2.2.2.2.2.2.2.2 H locs hS U hU hW).2⟩
theorem g_bA (C : g_C l p s m c b L xs D K ad) : ¬ g_A s b := Nat.not_le.mpr C.2.2.2.2.2.2.2.1
/-- script[i + k] -/
theorem g_sc {k : Nat} (C : g_C l p s m c b L xs D K ad) (hS : va_S (g_A s) s.heap H locs) (hi : i + k < L) (d : decode cL_law pc = .ok (.iaload, 1)) (kk : W p l e R s m #[Value.ref b] below meth c H locs cells slots Q (F0 m (pc + 1) ls (.int (xs (i + k)) :: rest))) : W p l e R s m #[Value.ref b] below meth c H locs cells slots Q (F0 m pc ls (.int (nI (i + k)) :: .ref b :: rest)) := by
  have hL := C.2.2.2.2.2.2.2.2.2.2.1
  refine va_sld C.1 C.2.1 C.2.2.2.2.2.2.1 C.2.2.2.2.2.2.2.1 (g_bA C) hS (vp_in_nI hi (by omega)) d ?_
  rw [nI_clamp (by omega)]
  exact kk
theorem y_topl {v : Int64} (h : y = v) (k : W p l e R s m args below meth c H locs cells slots Q (F0 m pc ls (.long v :: rest))) : W p l e R s m args below meth c H locs cells slots Q (F0 m pc ls (.long y :: rest)) := by subst h; exact k
theorem g_bool1 (hx : p.tables.exec = Jvm.exec) (hb : c.code = cL_law) (k : W p l e R s m args below meth c H locs cells slots Q (F0 m 183 ls (.int (if x = 0 then 0 else 1) :: rest))) : W p l e R s m args below meth c H locs cells slots Q (F0 m 175 ls (.int x :: rest)) := by
  refine lv_if_eq (tgt := 182) hx hb dL_law_175 (by decide) (fun h => ?_) (fun h => ?_)
  · rw [if_pos h] at k
    exact lv_iconst (v := 0) hx hb dL_law_182 (by decide) k
  · rw [if_neg h] at k
    refine lv_iconst (v := 1) hx hb dL_law_178 (by decide) ?_
    exact lv_goto (tgt := 183) hx hb dL_law_179 (by decide) k
theorem g_bool2 (hx : p.tables.exec = Jvm.exec) (hb : c.code = cL_law) (k : W p l e R s m args below meth c H locs cells slots Q (F0 m 216 ls (.int (if x = 0 then 0 else 1) :: rest))) : W p l e R s m args below meth c H locs cells slots Q (F0 m 208 ls (.int x :: rest)) := by
  refine lv_if_eq (tgt := 215) hx hb dL_law_208 (by decide) (fun h => ?_) (fun h => ?_)
  · rw [if_pos h] at k
    exact lv_iconst (v := 0) hx hb dL_law_215 (by decide) k
  · rw [if_neg h] at k
    refine lv_iconst (v := 1) hx hb dL_law_211 (by decide) ?_
    exact lv_goto (tgt := 216) hx hb dL_law_212 (by decide) k
def g_lg (a b : Int32) : Int64 := (a.toInt64 <<< ((32 : Int32).toInt64 &&& 63)) ||| (b.toInt64 &&& 4294967295)
theorem g_cmp (x : Int64) : lg_cmp x x = 0 := by simp [lg_cmp]
theorem g_thr : F_X6_thrown B S = some (.inl (some (S.2.1 60 0)), S) := by unfold F_X6_thrown; rfl
theorem g_nz {k : Nat} (hk : k ≤ 4) (h : nI k = 0) : k = 0 := (nI_eq (by omega) (by omega)).mp (h.trans nI_0.symm)
/-- where a case ends: on to the next six ints -/
def g_nx (l : Launch) (p : Program) (e : Env) (s : State) (m : MethodId) (below : List Frame) (meth : Method) (c : Code) (b B J i : Nat) (D : va_G) (K : Nat → ClassId) (ad : Nat → Nat) (cells slots : Nat) (Q : State → Prop) : Prop := ∀ (S : z_S) (H : Heap) (locs : List Loc) (ls : Array Slot), q_I B J S → va_P D vwCl (z_ws B K ad S) H → z_fit S → va_S (g_A s) s.heap H locs → z_ado ad H.size → lv_has ls 7 (g_lv b ad i) → W p l e room_1 s m #[Value.ref b] below meth c H locs cells slots Q (F0 m 1477 ls [])
end G
