/-! THE CLAIM OUT OF ONE WALK OF THE LAW'S BODY. Your part is whole_start (and what it stands on); all else here is the same for every law, but numbers. -/
def R_law : String := "PackedTreeLaw"
def lw_P (b : Addr) (xs : List Int32) (args : Array Value) (s : State) : Prop := args = #[.ref b] ∧ s.IntsAt b xs ∧ xs.length ≤ 3074 ∧ (Jvm.Cond.and given_1 narrow_1).before args s = true
def lw_Q (_ : Array Value) (s : State) (o : Outcome) (t : State) : Prop := o = .returned (some (.int 1)) ∧ Framed s o t [] 601024 7293000
def lw_Z (below : List Frame) (a : Array Value) (s : State) : State → Prop := fun t => ∃ o, t.status = .running ∧ Ended t below o ∧ lw_Q a s o t
/-- the law's own end, with 1 on the stack, nothing written that was there before, its room as the claim has it -/
theorem lw_ret {p : Program} {l : Launch} {e : Env} {s : State} {m : MethodId} {below : List Frame} {meth : Method} {c : Code} {b : Nat} (hx : p.tables.exec = Jvm.exec) (hb : c.code = code) (hr : meth.sig.returnType = ret) (hlocks : meth.locks = false) {pc : Nat} {H : Heap} {ls : Array Slot} (hdg : decode code pc = .ok (.ireturn, 1)) : W p l e room_1 s m #[Value.ref b] below meth c H [] 601024 7293000 (lw_Z below #[Value.ref b] s) (F0 m pc ls [.int 1]) := by
  intro T hT X
  obtain ⟨fs, hret, hrun, hended, hW, hframe⟩ := X.leave (v := some (.int 1)) (hlocks := hlocks) (fun h => by rw [hr] at h; cases h)
  have hmeth' : T.vm.method? m = some meth := X.method'
  refine ⟨T.setFrames fs, ?_, .returned (some (.int 1)), hrun, hended, rfl, ⟨_, rfl⟩, hW, hframe⟩
  jvm_step X.here [X.here.top, hx, hb, hdg, hmeth', hr, ret, narrow_b1]
  (try refine ⟨rfl, ?_⟩); (try refine ⟨rfl, ?_⟩)
  first | (intro acts; rw [hret _ acts rfl rfl rfl]) | rw [hret _ _ rfl rfl rfl]
  exact Steps.refl _
/-- what holds at the law's entry: the machine, the code, the tables' words (any of lw_tbl by 'hts w (by decide +kernel)'), the script of L ints xs at the cell b, what the Statement gives of the start (any of its parts by flat_of_before) -/
def lw_At (p : Program) (s : State) (m : MethodId) (meth : Method) (c : Code) (b L : Nat) (xs : Nat → Int32) : Prop :=
  p.tables.exec = Jvm.exec ∧ c.code = code ∧ meth.sig.returnType = ret ∧ c.maxLocals = 7 ∧ s.vm.findClass R_law = some m.cls ∧ (∀ w ∈ lw_tbl, w.before #[Value.ref b] s = true) ∧ va_X b L xs s s.heap ∧ b < s.heap.size ∧ meth.locks = false ∧ (Jvm.Cond.and given_1 narrow_1).before #[Value.ref b] s = true
/-! The loop and the whole law. -/
theorem e_len {L i : Nat} (hL : L ≤ 3074) (hi : i ≤ 4000) : nI L - 6 < nI i ↔ L < i + 6 := by
  have h6 : (6 : Int32).toInt = 6 := by decide
  rw [Int32.lt_iff_toInt_lt, Int32.toInt_sub, nI_toInt (by omega), nI_toInt (by omega), h6]
  have e : ((L : Int) - 6).bmod (2 ^ 32) = (L : Int) - 6 := by
    rw [Int.bmod_def]
    split <;> omega
  rw [e]
  omega
section E
variable {p : Program} {l : Launch} {e : Env} {s : State} {m : MethodId} {below : List Frame} {meth : Method} {c : Code} {b L B J : Nat} {xs : Nat → Int32} {D : va_G} {K : Nat → ClassId} {ad : Nat → Nat}
set_option maxRecDepth 100000 in
set_option maxHeartbeats 4000000 in
theorem e_loop (C : g_C l p s m c b L xs D K ad) (hr : meth.sig.returnType = ret) (hlocks : meth.locks = false) : ∀ (k i : Nat) (S : z_S) (H : Heap) (locs : List Loc) (ls : Array Slot) (cells slots : Nat), L ≤ i + k → i ≤ 4000 → q_I B J S → va_P D vwCl (z_ws B K ad S) H → z_fit S → va_S (g_A s) s.heap H locs → z_ado ad H.size → lv_has ls 7 (g_lv b ad i) → cells + k ≤ 601024 → slots + 6 * k ≤ 7293000 → W p l e room_1 s m #[Value.ref b] below meth c H locs cells slots (lw_Z below #[Value.ref b] s) (F0 m 43 ls []) := by
  obtain ⟨hx, hb, hml, hown, hts, hK, hX, hbl, hge, hst, hL, hz⟩ := id C
  intro k
  induction k with
  | zero =>
    intro i S H locs ls cells slots hk hi hI hP hf hS ha hl hc1 hc2
    refine lv_iload hx hb dL_law_43 (lv_at hl 0 rfl) ?_
    refine lv_aload_n hx hb dL_law_45 rfl (lv_at hl 4 rfl) ?_
    refine va_slen hx hb hX hbl (g_bA C) hS dL_law_46 ?_
    refine lv_bipush (v := 6) hx hb dL_law_47 (by decide) ?_
    refine lv_isub hx hb dL_law_49 ?_
    refine lv_icmp_gt (tgt := 1483) hx hb dL_law_50 (by decide) (fun _ => ?_) (fun h9 => absurd ((e_len hL hi).mpr (by omega)) h9)
    refine lv_iconst (v := 1) hx hb dL_law_1483 (by decide) ?_
    refine va_forget (fun q hq => hS.2.2 q hq) ?_
    refine W.widen (k := 601024) (n := 7293000) (by omega) (by omega) ?_
    exact lw_ret hx hb hr hlocks dL_law_1484
  | succ k ih =>
    intro i S H locs ls cells slots hk hi hI hP hf hS ha hl hc1 hc2
    refine lv_iload hx hb dL_law_43 (lv_at hl 0 rfl) ?_
    refine lv_aload_n hx hb dL_law_45 rfl (lv_at hl 4 rfl) ?_
    refine va_slen hx hb hX hbl (g_bA C) hS dL_law_46 ?_
    refine lv_bipush (v := 6) hx hb dL_law_47 (by decide) ?_
    refine lv_isub hx hb dL_law_49 ?_
    refine lv_icmp_gt (tgt := 1483) hx hb dL_law_50 (by decide) (fun _ => ?_) (fun h9 => ?_)
    · refine lv_iconst (v := 1) hx hb dL_law_1483 (by decide) ?_
      refine va_forget (fun q hq => hS.2.2 q hq) ?_
      refine W.widen (k := 601024) (n := 7293000) (by omega) (by omega) ?_
      exact lw_ret hx hb hr hlocks dL_law_1484
    have hi6 : i + 6 ≤ L := by
      rcases Nat.lt_or_ge L (i + 6) with q | q
      · exact absurd ((e_len hL hi).mpr q) h9
      · exact q
    have next : g_nx l p e s m below meth c b B J i D K ad (cells + 1) (slots + 6) (lw_Z below #[Value.ref b] s) := by
      intro S2 H2 locs2 ls2 hI2 hP2 hf2 hS2 ha2 hl2
      refine lv_iinc (v := nI (i + 6)) (lv' := g_lv b ad (i + 6)) hx hb dL_law_1477 hl2 (k := 0) rfl (nI_add i 6) (by decide) rfl (fun ls3 hl3 => ?_)
      refine lv_goto (tgt := 43) hx hb dL_law_1480 (by decide) ?_
      exact ih (i + 6) S2 H2 locs2 ls3 (cells + 1) (slots + 6) (by omega) (by omega) hI2 hP2 hf2 hS2 ha2 hl3 (by omega) (by omega)
    refine lv_aload_n hx hb dL_law_53 rfl (lv_at hl 4 rfl) ?_
    refine lv_iload hx hb dL_law_54 (lv_at hl 0 rfl) ?_
    refine g_sc (i := i) (k := 0) C hS (by omega) dL_law_56 ?_
    refine lv_bipush (v := 31) hx hb dL_law_57 (by decide) ?_
    refine lv_iand hx hb dL_law_59 ?_
    rcases (show (xs (i + 0) &&& 31).toInt = 0 ∨ (xs (i + 0) &&& 31).toInt = 1 ∨ (xs (i + 0) &&& 31).toInt = 2 ∨ (xs (i + 0) &&& 31).toInt = 3 ∨ (xs (i + 0) &&& 31).toInt = 4 ∨ (xs (i + 0) &&& 31).toInt = 5 ∨ (xs (i + 0) &&& 31).toInt = 6 ∨ (xs (i + 0) &&& 31).toInt = 7 ∨ (xs (i + 0) &&& 31).toInt = 8 ∨ (xs (i + 0) &&& 31).toInt = 9 ∨ (xs (i + 0) &&& 31).toInt = 10 ∨ (xs (i + 0) &&& 31).toInt = 11 ∨ (xs (i + 0) &&& 31).toInt = 12 ∨ (xs (i + 0) &&& 31).toInt = 13 ∨ (xs (i + 0) &&& 31).toInt = 14 ∨ (xs (i + 0) &&& 31).toInt = 15 ∨ (xs (i + 0) &&& 31).toInt = 16 ∨ (xs (i + 0) &&& 31).toInt = 17 ∨ (xs (i + 0) &&& 31).toInt = 18 ∨ (xs (i + 0) &&& 31).toInt = 19 ∨ ((xs (i + 0) &&& 31).toInt < 0 ∨ 19 < (xs (i + 0) &&& 31).toInt) by omega) with h | h | h | h | h | h | h | h | h | h | h | h | h | h | h | h | h | h | h | h | h
    · refine lv_tableIn (tgt := 156) (off := 96) hx hb dL_law_60 (by omega) (by omega) (by rw [h]; rfl) (by decide) ?_
      exact g_make C hI (by omega) hP hf hS ha hl ⟨by omega, by omega⟩ next
    · refine lv_tableIn (tgt := 252) (off := 192) hx hb dL_law_60 (by omega) (by omega) (by rw [h]; rfl) (by decide) ?_
      exact g_link C hI (by omega) hP hf hS ha hl ⟨by omega, by omega⟩ next
    · refine lv_tableIn (tgt := 332) (off := 272) hx hb dL_law_60 (by omega) (by omega) (by rw [h]; rfl) (by decide) ?_
      exact g_unlink C hI (by omega) hP hf hS ha hl ⟨by omega, by omega⟩ next
    · refine lv_tableIn (tgt := 400) (off := 340) hx hb dL_law_60 (by omega) (by omega) (by rw [h]; rfl) (by decide) ?_
      exact g_move C hI (by omega) hP hf hS ha hl ⟨by omega, by omega⟩ next
    · refine lv_tableIn (tgt := 492) (off := 432) hx hb dL_law_60 (by omega) (by omega) (by rw [h]; rfl) (by decide) ?_
      exact g_write C hI (by omega) hP hf hS ha hl ⟨by omega, by omega⟩ next
    · refine lv_tableIn (tgt := 616) (off := 556) hx hb dL_law_60 (by omega) (by omega) (by rw [h]; rfl) (by decide) ?_
      exact g_fill C hI (by omega) hP hf hS ha hl ⟨by omega, by omega⟩ next
    · refine lv_tableIn (tgt := 708) (off := 648) hx hb dL_law_60 (by omega) (by omega) (by rw [h]; rfl) (by decide) ?_
      exact g_cut C hI (by omega) hP hf hS ha hl ⟨by omega, by omega⟩ next
    · refine lv_tableIn (tgt := 776) (off := 716) hx hb dL_law_60 (by omega) (by omega) (by rw [h]; rfl) (by decide) ?_
      exact g_read C hI (by omega) hP hf hS ha hl ⟨by omega, by omega⟩ next
    · refine lv_tableIn (tgt := 844) (off := 784) hx hb dL_law_60 (by omega) (by omega) (by rw [h]; rfl) (by decide) ?_
      exact g_look C hI (by omega) hP hf hS ha hl ⟨by omega, by omega⟩ next
    · refine lv_tableIn (tgt := 912) (off := 852) hx hb dL_law_60 (by omega) (by omega) (by rw [h]; rfl) (by decide) ?_
      exact g_name C hI (by omega) hP hf hS ha hl ⟨by omega, by omega⟩ next
    · refine lv_tableIn (tgt := 980) (off := 920) hx hb dL_law_60 (by omega) (by omega) (by rw [h]; rfl) (by decide) ?_
      exact g_about C hI (by omega) hP hf hS ha hl ⟨by omega, by omega⟩ next
    · refine lv_tableIn (tgt := 1048) (off := 988) hx hb dL_law_60 (by omega) (by omega) (by rw [h]; rfl) (by decide) ?_
      exact g_node C hI (by omega) hP hf hS ha hl ⟨by omega, by omega⟩ next
    · refine lv_tableIn (tgt := 1128) (off := 1068) hx hb dL_law_60 (by omega) (by omega) (by rw [h]; rfl) (by decide) ?_
      exact g_item C hI (by omega) hP hf hS ha hl ⟨by omega, by omega⟩ next
    · refine lv_tableIn (tgt := 1196) (off := 1136) hx hb dL_law_60 (by omega) (by omega) (by rw [h]; rfl) (by decide) ?_
      exact g_commit C hI (by omega) hP hf hS ha hl ⟨by omega, by omega⟩ next
    · refine lv_tableIn (tgt := 1240) (off := 1180) hx hb dL_law_60 (by omega) (by omega) (by rw [h]; rfl) (by decide) ?_
      exact g_checkpoint C hI (by omega) hP hf hS ha hl ⟨by omega, by omega⟩ next
    · refine lv_tableIn (tgt := 1284) (off := 1224) hx hb dL_law_60 (by omega) (by omega) (by rw [h]; rfl) (by decide) ?_
      exact g_back C hI (by omega) hP hf hS ha hl ⟨by omega, by omega⟩ next
    · refine lv_tableIn (tgt := 1328) (off := 1268) hx hb dL_law_60 (by omega) (by omega) (by rw [h]; rfl) (by decide) ?_
      exact g_fail C hI (by omega) hP hf hS ha hl ⟨by omega, by omega⟩ next
    · refine lv_tableIn (tgt := 1364) (off := 1304) hx hb dL_law_60 (by omega) (by omega) (by rw [h]; rfl) (by decide) ?_
      exact g_off C hI (by omega) hP hf hS ha hl ⟨by omega, by omega⟩ next
    · refine lv_tableIn (tgt := 1377) (off := 1317) hx hb dL_law_60 (by omega) (by omega) (by rw [h]; rfl) (by decide) ?_
      exact g_recover C hI (by omega) hP hf hS ha hl ⟨by omega, by omega⟩ next
    · refine lv_tableIn (tgt := 1421) (off := 1361) hx hb dL_law_60 (by omega) (by omega) (by rw [h]; rfl) (by decide) ?_
      exact g_count C hI (by omega) hP hf hS ha hl ⟨by omega, by omega⟩ next
    · refine lv_tableOut (tgt := 1477) hx hb dL_law_60 h (by decide) ?_
      refine W.widen (k := cells + 1) (n := slots + 6) (by omega) (by omega) ?_
      exact next S H locs ls hI hP hf hS ha hl
end E
set_option maxRecDepth 100000 in
set_option maxHeartbeats 8000000 in
/-- THE LAW, from its entry -/
theorem whole_start {p : Program} {e : Env} {s : State} {m : MethodId} {below : List Frame} {meth : Method} {c : Code} (l : Launch) (hst : l.stackTraces = false) {b L : Nat} {xs : Nat → Int32} (hL : L ≤ 3074) (C0 : lw_At p s m meth c b L xs) : W p l e room_1 s m #[Value.ref b] below meth c s.heap [] 0 0 (lw_Z below #[Value.ref b] s) (entryFrame m ([Value.ref b] : List Value).toArray 7) := by
  obtain ⟨hx, hb, hr, hml, hown, hts0, hX, hbl, hlocks, hgv⟩ := id C0
  have hb : c.code = cL_law := hb
  have hown : s.vm.findClass RL = some m.cls := hown
  have hts : ∀ w ∈ z_G, w.before #[Value.ref b] s = true := fun w hw => hts0 w (List.mem_filter.mp hw).1
  obtain ⟨D, K, hK⟩ := e_K hts
  have hnest : ∀ q ∈ z_nest, va_Nw (.methodLinkNest q.1 q.2.1 q.2.2.1 q.2.2.2) s := fun q hq => va_Nw.of rfl (hts0 _ (e_nest q hq))
  have C : y_C (⟨RL, meth.name, ""⟩, cL_law, 7, ret) p s m #[Value.ref b] meth c D K := ⟨hx, hb, hr, hml, hown, hts, hlocks, hK, hnest, rfl⟩
  have F : CallFix p m c cL_law 7 s #[Value.ref b] z_G RL := ⟨hx, hb, hml, hown, hts⟩
  have hA : ∀ q : Nat, s.heap.size ≤ q → g_A s q := fun _ h => h
  have hS : va_S (g_A s) s.heap s.heap [] := va_S.rf
  have hP : va_P D vwCl [] s.heap := fun k q h => by simp at h
  have hD : va_D (g_A s) [] := ⟨fun i j p q h => by simp at h, fun k q h => by simp at h⟩
  obtain ⟨B, hB1, hB2, hxB⟩ := y_near_ex (if 0 < L then xs 0 else 0) (lo := 16) (hi := 96) (by decide) (by decide)
  obtain ⟨J, hJ1, hJ2, hyJ⟩ := y_near_ex (if 1 < L then xs 1 else 0) (lo := 6) (hi := 64) (by decide) (by decide)
  have hl := lv_entry ([.ref b]) (n := 7) (Nat.le_of_ble_eq_true rfl)
  rw [lg_entry_eq]
  generalize (lg_sl ([.ref b]) ++ List.replicate (7 - (lg_sl ([.ref b])).length) Slot.unset).toArray = ls at hl ⊢
  have hl : lv_has ls 7 [(0, .ref b)] := hl
  refine va_new (ci := 5) (fs := [.int 0, .null, .null, .null, .null, .null, .null, .null]) (C := RX5) (T := TX5) (N := 8) hx hb hts in_5 tyX5 tyX5_ok hown (hts _ ew_15) (hts _ ew_5) (hts _ ew_17) hK hP hD hS hA rfl y_df5 (Nat.le_of_ble_eq_true rfl) (Nat.le_of_ble_eq_true rfl) dL_law_0 (fun q0 H hP hD hS => ?_)
  have hP : va_P D vwCl [(q0, .inr (5, [.int 0, .null, .null, .null, .null, .null, .null, .null]))] H := hP
  have hD : va_D (g_A s) [(q0, .inr (5, [.int 0, .null, .null, .null, .null, .null, .null, .null]))] := hD
  refine lv_dup hx hb dL_law_3 rfl ?_
  refine lv_aload_n hx hb dL_law_4 rfl (lv_at hl 0 rfl) ?_
  refine lv_iconst (v := nI 0) hx hb dL_law_5 (by decide) ?_
  refine e_cell F hX hbl (by omega) (by decide) hP hS hl.1 (Nat.le_of_ble_eq_true rfl) ⟨Nat.le_of_ble_eq_true rfl, Nat.le_of_ble_eq_true rfl⟩ dL_law_6 (fun H locs hP hS => ?_)
  refine lv_aload_n hx hb dL_law_9 rfl (lv_at hl 0 rfl) ?_
  refine lv_iconst (v := nI 1) hx hb dL_law_10 (by decide) ?_
  refine e_cell F hX hbl (by omega) (by decide) hP hS hl.1 (Nat.le_of_ble_eq_true rfl) ⟨Nat.le_of_ble_eq_true rfl, Nat.le_of_ble_eq_true rfl⟩ dL_law_11 (fun H locs hP hS => ?_)
  refine y_callI (isC := [0]) (isR := []) (wr := []) (rest := [.ref q0]) (n_X5_init (B := B) (J := J) ⟨hB1, hB2⟩ hxB hyJ) C hP hD hS hA ⟨rfl, rfl, by decide, by decide, by decide⟩ oi_X5_init ew_19 rfl hl.1 ⟨Nat.le_of_ble_eq_true rfl, Nat.le_of_ble_eq_true rfl⟩ (Nat.le_of_ble_eq_true rfl) dL_law_14 (mc := 59) (ms := 50040) ⟨rfl, rfl⟩ ⟨Nat.le_of_ble_eq_true rfl, Nat.le_of_ble_eq_true rfl⟩ rfl (fun u H locs hP hD hS => ?_)
  have hP : va_P D vwCl (y_pt K B J q0 u) H := hP
  have hD : va_D (g_A s) (y_pt K B J q0 u) := hD
  refine lv_astore_n (lv' := [(1, .ref q0), (0, .ref b)]) hx hb dL_law_17 rfl hl (by decide) rfl (fun ls hl => ?_)
  refine va_new (ci := 6) (fs := [.int 0, .int 0, .int 0, .null, .null, .null, .null, .int 0, .null, .int 0, .int 0, .int 0, .int 0, .int 0, .int 0]) (C := RX6) (T := TX6) (N := 15) hx hb hts in_6 tyX6 tyX6_ok hown (hts _ ew_16) (hts _ ew_6) (hts _ ew_18) hK hP hD hS hA rfl y_df6 (Nat.le_of_ble_eq_true rfl) (Nat.le_of_ble_eq_true rfl) dL_law_18 (fun q1 H hP hD hS => ?_)
  refine lv_dup hx hb dL_law_21 rfl ?_
  refine lv_aload_n hx hb dL_law_22 rfl (lv_at hl 1 rfl) ?_
  refine lv_iconst (v := nI 0) hx hb dL_law_23 (by decide) ?_
  refine e_cell F hX hbl (by omega) (by decide) hP hS hl.1 (Nat.le_of_ble_eq_true rfl) ⟨Nat.le_of_ble_eq_true rfl, Nat.le_of_ble_eq_true rfl⟩ dL_law_24 (fun H locs hP hS => ?_)
  refine lv_aload_n hx hb dL_law_27 rfl (lv_at hl 1 rfl) ?_
  refine lv_iconst (v := nI 1) hx hb dL_law_28 (by decide) ?_
  refine e_cell F hX hbl (by omega) (by decide) hP hS hl.1 (Nat.le_of_ble_eq_true rfl) ⟨Nat.le_of_ble_eq_true rfl, Nat.le_of_ble_eq_true rfl⟩ dL_law_29 (fun H locs hP hS => ?_)
  refine y_callI (isC := [60]) (isR := List.range 60) (wr := y_pt K B J q0 u) (rest := [.ref q1]) (n_X6_init (B := B) (J := J) ⟨hB1, hB2⟩ hxB hyJ) C hP hD hS hA ⟨rfl, rfl, by decide, by decide, by decide⟩ oi_X6_init ew_20 rfl hl.1 ⟨Nat.le_of_ble_eq_true rfl, Nat.le_of_ble_eq_true rfl⟩ (Nat.le_of_ble_eq_true rfl) dL_law_32 (mc := 5) (ms := 78754) ⟨rfl, rfl⟩ ⟨Nat.le_of_ble_eq_true rfl, Nat.le_of_ble_eq_true rfl⟩ rfl (fun v H locs hP hD hS => ?_)
  refine lv_astore_n (lv' := [(2, .ref q1), (1, .ref q0), (0, .ref b)]) hx hb dL_law_35 rfl hl (by decide) rfl (fun ls hl => ?_)
  refine lv_iconst (v := 1) hx hb dL_law_36 (by decide) ?_
  refine y_newl (N := 0 * B + 1) C rfl ew_10 hP hD hS hA (by decide) (y_l0 (by decide)) (by omega) (Nat.le_of_ble_eq_true rfl) (by show (_ : Nat) ≤ 7293000; omega) dL_law_37 (fun q2 H hP hD hS => ?_)
  refine lv_astore_n (lv' := [(3, .ref q2), (2, .ref q1), (1, .ref q0), (0, .ref b)]) hx hb dL_law_39 rfl hl (by decide) rfl (fun ls hl => ?_)
  refine lv_iconst (v := nI 2) hx hb dL_law_40 (by decide) ?_
  refine lv_istore (lv' := [(4, .int (nI 2)), (3, .ref q2), (2, .ref q1), (1, .ref q0), (0, .ref b)]) hx hb dL_law_41 hl (by decide) rfl (fun ls hl => ?_)
  have hP : va_P D vwCl (z_ws B K (e_ad q0 q1 q2 u v) (e_S B J)) H := by rw [e_ws]; exact hP
  have hD : va_D (g_A s) (z_ws B K (e_ad q0 q1 q2 u v) (e_S B J)) := by rw [e_ws]; exact hD
  have hge : ∀ k, k < 67 → s.heap.size ≤ e_ad q0 q1 q2 u v k := fun k hk => hD.2 k _ (z_get hk)
  have ha : z_ado (e_ad q0 q1 q2 u v) H.size := ⟨fun i j hi hj h => hD.1 i j _ _ (z_get hi) (z_get hj) h, fun i hi => (hP i _ (z_get hi)).lt⟩
  have G : g_C l p s m c b L xs D K (e_ad q0 q1 q2 u v) := ⟨hx, hb, hml, hown, hts, hK, hX, hbl, hge, hst, hL, e_xs hts0 hgv hge⟩
  refine W.widen (k := 67) (n := 200000) (Nat.le_of_ble_eq_true rfl) (by show (_ : Nat) ≤ 200000; omega) ?_
  exact e_loop G hr hlocks L 2 (e_S B J) H _ ls 67 200000 (by omega) (by omega) (e_I hB1 hB2 hJ1 hJ2) hP e_fit hS ha hl (by omega) (by omega)
