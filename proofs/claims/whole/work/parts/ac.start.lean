theorem ew_0 : Cond.instantiable "PackedTree$Image" 4 ∈ z_G := z_Gin (List.mem_of_getElem? (i := 124) (by decide +kernel)) rfl
theorem ew_1 : Cond.instantiable "PackedTree$Journal" 4 ∈ z_G := z_Gin (List.mem_of_getElem? (i := 253) (by decide +kernel)) rfl
theorem ew_2 : Cond.instantiable "PackedTree$Objects" 5 ∈ z_G := z_Gin (List.mem_of_getElem? (i := 204) (by decide +kernel)) rfl
theorem ew_3 : Cond.instantiable "PackedTree$Power" 3 ∈ z_G := z_Gin (List.mem_of_getElem? (i := 276) (by decide +kernel)) rfl
theorem ew_4 : Cond.instantiable "PackedTree$Tree" 13 ∈ z_G := z_Gin (List.mem_of_getElem? (i := 130) (by decide +kernel)) rfl
theorem ew_5 : Cond.instantiable "PackedTree" 8 ∈ z_G := z_Gin (List.mem_of_getElem? (i := 107) (by decide +kernel)) rfl
theorem ew_6 : Cond.instantiable "PackedTreeModel" 15 ∈ z_G := z_Gin (List.mem_of_getElem? (i := 912) (by decide +kernel)) rfl
theorem ew_7 : Cond.arrayClass .int ∈ z_G := z_Gin (List.mem_of_getElem? (i := 202) (by decide +kernel)) rfl
theorem ew_8 : Cond.arrayClass .byte ∈ z_G := z_Gin (List.mem_of_getElem? (i := 249) (by decide +kernel)) rfl
theorem ew_9 : Cond.arrayClass .boolean ∈ z_G := z_Gin (List.mem_of_getElem? (i := 274) (by decide +kernel)) rfl
theorem ew_10 : Cond.arrayClass .long ∈ z_G := z_Gin (List.mem_of_getElem? (i := 1268) (by decide +kernel)) rfl
theorem ew_11 : Cond.code yL_cell cL_cell 2 (some .int) ∈ z_G := z_Gin (List.mem_of_getElem? (i := 325) (by decide +kernel)) rfl
theorem ew_12 : Cond.static yL_cell ∈ z_G := z_Gin (List.mem_of_getElem? (i := 324) (by decide +kernel)) rfl
theorem ew_13 : Cond.initialized RL ∈ z_G := z_Gin (List.mem_of_getElem? (i := 88) (by decide +kernel)) rfl
theorem ew_14 : Cond.methodLink "PackedTreeLaw" 82 yL_cell ∈ z_G := z_Gin (List.mem_of_getElem? (i := 323) (by decide +kernel)) rfl
theorem ew_15 : Cond.classLink "PackedTreeLaw" 8 "PackedTree" ∈ z_G := z_Gin (List.mem_of_getElem? (i := 106) (by decide +kernel)) rfl
theorem ew_16 : Cond.classLink "PackedTreeLaw" 91 "PackedTreeModel" ∈ z_G := z_Gin (List.mem_of_getElem? (i := 911) (by decide +kernel)) rfl
theorem ew_17 : Cond.initialized "PackedTree" ∈ z_G := z_Gin (List.mem_of_getElem? (i := 89) (by decide +kernel)) rfl
theorem ew_18 : Cond.initialized "PackedTreeModel" ∈ z_G := z_Gin (List.mem_of_getElem? (i := 98) (by decide +kernel)) rfl
theorem ew_19 : Cond.methodLink "PackedTreeLaw" 88 yX5_init ∈ z_G := z_Gin (List.mem_of_getElem? (i := 108) (by decide +kernel)) rfl
theorem ew_20 : Cond.methodLink "PackedTreeLaw" 93 yX6_init ∈ z_G := z_Gin (List.mem_of_getElem? (i := 913) (by decide +kernel)) rfl
/-! The law from its entry. -/
theorem e_strs : ∀ q ∈ z_strs, Cond.exactly (.string RX5 q.1) "java/lang/String" ∈ flatC (Jvm.Cond.and given_1 narrow_1) := by decide +kernel
theorem e_strs2 : ∀ q ∈ z_strs, Cond.stringRef RX5 q.1 q.2 ∈ lw_tbl := by decide +kernel
theorem e_nest : ∀ q ∈ z_nest, Cond.methodLinkNest q.1 q.2.1 q.2.2.1 q.2.2.2 ∈ lw_tbl := by decide +kernel
theorem e_nw : ∀ w ∈ z_nw, w ∈ lw_tbl := by decide +kernel
theorem e_nc : ∀ q ∈ v_nc, Cond.not (.castable q.1 q.2) ∈ flatC (Jvm.Cond.and given_1 narrow_1) := by decide +kernel
theorem e_st1 : Cond.isRef (.static Bundle.tN "UNASSIGNED_STACK" Bundle.steD) ∈ flatC (Jvm.Cond.and given_1 narrow_1) ∧ Cond.isRef (.static Bundle.tN "SUPPRESSED_SENTINEL" Bundle.listD) ∈ flatC (Jvm.Cond.and given_1 narrow_1) := by decide +kernel
theorem e_st2 : Cond.laysStatic Bundle.tN "UNASSIGNED_STACK" Bundle.steD ∈ lw_tbl ∧ Cond.laysStatic Bundle.tN "SUPPRESSED_SENTINEL" Bundle.listD ∈ lw_tbl ∧ Cond.initialized Bundle.tN ∈ lw_tbl := by decide +kernel
theorem e_xs {s : State} {b : Nat} {ad : Nat → Nat} (hts : ∀ w ∈ lw_tbl, w.before #[Value.ref b] s = true) (hgv : (Jvm.Cond.and given_1 narrow_1).before #[Value.ref b] s = true) (hge : ∀ k, k < 67 → s.heap.size ≤ ad k) : ∀ (H : Heap) (locs : List Loc), va_S (g_A s) s.heap H locs → ∀ U : State, U.heap = H → s.WarmedH U.vm → z_xs ad H.size U ∧ ∀ q ∈ v_nc, va_Nc q.1 q.2 U := by
  have hs := flat_of_before _ hgv
  intro H locs hS U hU hW
  have hin : ∀ q, z_A ad H.size q → g_A s q := by
    rintro q (⟨k, hk, rfl⟩ | h)
    · exact hge k hk
    · exact Nat.le_trans hS.1 h
  have hA : ∀ a : Nat, a < s.heap.size → ¬ g_A s a := fun a h1 h2 => absurd h2 (Nat.not_le.mpr h1)
  refine ⟨⟨fun q hq => ?_, fun q hq => va_Nw.warmM hW (va_Nw.of rfl (hts _ (e_nest q hq))), fun w hw => z_nw_warm hW hw (va_Nw.of (z_nw_ot w hw) (hts _ (e_nw w hw))), ?_, ?_⟩, fun q hq => va_Nc.moved hW.alike (va_Nc.of (hs _ (e_nc q hq)))⟩
  · obtain ⟨a, c, cA, kA, q1, -⟩ := Cond.exactly_spec (args := #[Value.ref b]) (first := s) (o := none) (s := s) (idx := []) (hs _ (e_strs q hq))
    exact ⟨a, vk_R.warm hW (vk_R.of (hts _ (e_strs2 q hq)) q1)⟩
  · rw [hU]
    exact vx_Zq.moved hW.alike (((vx_Zqof (A := g_A s) (hts _ e_st2.1) (hts _ e_st2.2.2) (hs _ e_st1.1) hA).kept (fun a h1 h2 => hS.2.1 a h1 h2)).narrow hin)
  · rw [hU]
    exact vx_Zq.moved hW.alike (((vx_Zqof (A := g_A s) (hts _ e_st2.2.1) (hts _ e_st2.2.2) (hs _ e_st1.2) hA).kept (fun a h1 h2 => hS.2.1 a h1 h2)).narrow hin)
theorem e_K {s : State} {args : Array Value} (hts : ∀ w ∈ z_G, w.before args s = true) : ∃ (D : va_G) (K : Nat → ClassId), va_K D vwCl (z_tys K) s := by
  obtain ⟨c0, i0, k0⟩ := u_known (C := RX0) (T := TX0) (N := 4) (n := 4) hts in_0 (hts _ ew_0)
  obtain ⟨c1, i1, k1⟩ := u_known (C := RX1) (T := TX1) (N := 4) (n := 4) hts in_1 (hts _ ew_1)
  obtain ⟨c2, i2, k2⟩ := u_known (C := RX2) (T := TX2) (N := 5) (n := 5) hts in_2 (hts _ ew_2)
  obtain ⟨c3, i3, k3⟩ := u_known (C := RX3) (T := TX3) (N := 3) (n := 3) hts in_3 (hts _ ew_3)
  obtain ⟨c4, i4, k4⟩ := u_known (C := RX4) (T := TX4) (N := 13) (n := 13) hts in_4 (hts _ ew_4)
  obtain ⟨c5, i5, k5⟩ := u_known (C := RX5) (T := TX5) (N := 8) (n := 8) hts in_5 (hts _ ew_5)
  obtain ⟨c6, i6, k6⟩ := u_known (C := RX6) (T := TX6) (N := 15) (n := 15) hts in_6 (hts _ ew_6)
  have ar : ∀ ty, Cond.arrayClass ty ∈ z_G → ∃ cA, ArrOfT s cA ty ∧ s.vm.findClass ("[" ++ ty.toString) = some cA := fun ty h => by
    obtain ⟨c, k, comp, h1, h2, h3⟩ := Cond.arrayClass_spec (hts _ h)
    exact ⟨c, fun n z => ⟨fun k h => (by cases h), k, h2, comp, h3⟩, h1⟩
  obtain ⟨a0, g0, f0⟩ := ar _ ew_7
  obtain ⟨a1, g1, f1⟩ := ar _ ew_8
  obtain ⟨a2, g2, f2⟩ := ar _ ew_9
  obtain ⟨a3, g3, f3⟩ := ar _ ew_10
  refine ⟨(fun k => [c0, c1, c2, c3, c4, c5, c6].getD k c0, fun k => [i0, i1, i2, i3, i4, i5, i6].getD k i0), fun k => [a0, a1, a2, a3].getD k a0, ⟨fun k q hq => ?_, fun k q hq => ?_⟩⟩
  · match k, hq with
    | 0, hq => cases hq; exact k0
    | 1, hq => cases hq; exact k1
    | 2, hq => cases hq; exact k2
    | 3, hq => cases hq; exact k3
    | 4, hq => cases hq; exact k4
    | 5, hq => cases hq; exact k5
    | 6, hq => cases hq; exact k6
    | k + 7, hq => simp [vwCl] at hq
  · match k, hq with
    | 0, hq => cases hq; exact ⟨g0, f0⟩
    | 1, hq => cases hq; exact ⟨g1, f1⟩
    | 2, hq => cases hq; exact ⟨g2, f2⟩
    | 3, hq => cases hq; exact ⟨g3, f3⟩
    | k + 4, hq => simp [z_tys] at hq
set_option maxRecDepth 100000 in
theorem n_L_cell {l : Launch} {b L k : Nat} {xs : Nat → Int32} (hL : L < 2 ^ 31) (hk : k < 2 ^ 31) : Met l yL_cell (Cond.code yL_cell cL_cell 2 (some .int) :: z_G) { frames := 0, locals := 0, cells := 0, slots := 0 } (va_Pc [.ref b, .int (nI k)] (fun U => va_X b L xs U U.heap)) (va_Qi (fun r (_ : Unit) => r = if k < L then xs k else 0) (fun _ _ => True) (fun _ => False)) 0 0 (fun _ => False) := by
  refine Met.ofW (cc := cL_cell) (maxL := 2) (ret := some .int) (by decide) rfl ?_
  intro p e s m args below meth c s₁ Bd hml hv
  obtain ⟨rfl, hX⟩ := hv
  have hx := Bd.exec
  have hb := Bd.bytes
  have hr := Bd.returns
  have hlocks := Bd.notSynchronized
  have hbl : b < s.heap.size := by
    obtain ⟨scr, h1, -⟩ := hX
    exact (Array.getElem?_eq_some_iff.mp h1).1
  have hS : va_S (fun _ => False) s.heap s.heap [] := va_S.rf
  rw [lg_entry_eq]
  have hl := lv_entry ([.ref b, .int (nI k)]) (n := 2) (Nat.le_of_ble_eq_true rfl)
  generalize (lg_sl ([.ref b, .int (nI k)]) ++ List.replicate (2 - (lg_sl ([.ref b, .int (nI k)])).length) Slot.unset).toArray = ls at hl ⊢
  have hl : lv_has ls 2 [(0, .ref b), (1, .int (nI k))] := hl
  refine lv_iload_n hx hb dL_cell_0 rfl (lv_at hl 1 rfl) ?_
  refine lv_aload_n hx hb dL_cell_1 rfl (lv_at hl 0 rfl) ?_
  refine va_slen hx hb hX hbl (fun h => h) hS dL_cell_2 ?_
  refine lv_icmp_ge (tgt := 12) hx hb dL_cell_3 (by decide) (fun h => ?_) (fun h => ?_)
  · have hge : ¬ k < L := fun h2 => absurd h (nI_ge h2 hL)
    refine lv_iconst (v := 0) hx hb dL_cell_12 (by decide) ?_
    exact W.iret hx hb hr (fun t ht _ => ⟨⟨0, (), rfl, by rw [if_neg hge], trivial⟩, hS.F ht⟩) hS.2.2 dL_cell_13
  · have hlt : k < L := by
      rcases Nat.lt_or_ge k L with q | q
      · exact q
      · exact absurd (nI_le q hk) h
    refine lv_aload_n hx hb dL_cell_6 rfl (lv_at hl 0 rfl) ?_
    refine lv_iload_n hx hb dL_cell_7 rfl (lv_at hl 1 rfl) ?_
    refine va_sld hx hb hX hbl (fun h => h) hS (vp_in_nI hlt hL) dL_cell_8 ?_
    refine lv_goto (tgt := 13) hx hb dL_cell_9 (by decide) ?_
    exact W.iret hx hb hr (fun t ht _ => ⟨⟨_, (), rfl, by rw [if_pos hlt, nI_clamp hk], trivial⟩, hS.F ht⟩) hS.2.2 dL_cell_13
section E
variable {p : Program} {l : Launch} {e : Env} {s : State} {m : MethodId} {below : List Frame} {meth : Method} {c : Code} {H : Heap} {locs : List Loc} {cells slots : Nat} {Q : State → Prop} {b L k pc : Nat} {xs : Nat → Int32} {D : va_G} {ls : Array Slot} {rest : List Value} {ws : va_W}
theorem e_cell (F : CallFix p m c cL_law 7 s #[Value.ref b] z_G RL) (hX : va_X b L xs s s.heap) (hbl : b < s.heap.size) (hL : L < 2 ^ 31) (hk : k < 2 ^ 31) (hP : va_P D vwCl ws H) (hS : va_S (g_A s) s.heap H locs) (hla : ls.size = 7) (hst : (rest.map fun v => v.category).sum ≤ 8) (hcs : cells ≤ 601024 ∧ slots ≤ 7293000) (d : decode cL_law pc = .ok (.invokestatic 82, 3))
    (kk : ∀ (H1 : Heap) (locs1 : List Loc), va_P D vwCl ws H1 → va_S (g_A s) s.heap H1 locs1 → W p l e room_1 s m #[Value.ref b] below meth c H1 locs1 cells slots Q (F0 m (pc + 3) ls (.int (if k < L then xs k else 0) :: rest))) : W p l e room_1 s m #[Value.ref b] below meth c H locs cells slots Q (F0 m pc ls (.int (nI k) :: .ref b :: rest)) := by
  have hG : GoodIn z_G (va_wsS RL 82 yL_cell (Cond.code yL_cell cL_cell 2 (some .int) :: z_G)) := z_wsS (Y := (yL_cell, cL_cell, 2, some .int)) (n := 2) ⟨⟨ew_12, ew_13, ew_11⟩, by decide, by decide, by decide +kernel⟩ ew_14
  refine va_calli (va_runS (As := [.ref b, .int (nI k)]) (rest := rest) F (n_L_cell (b := b) (L := L) (xs := xs) hL hk) (va_cwS 2 F.2.2.2.2 hG rfl rfl rfl ⟨by decide, by decide, by decide +kernel⟩ ⟨Nat.le_of_ble_eq_true rfl, Nat.le_of_ble_eq_true rfl⟩) ⟨fun a U g mk q => ⟨q.1, va_X.moved (u := U) (U := U.calling g mk a) (Vm.Alike.refl U.vm) q.2⟩, fun U hU hW => ⟨rfl, by show va_X b L xs U U.heap; rw [hU]; exact va_X.moved hW.alike (hX.kept (hS.2.1 b hbl (Nat.not_le.mpr hbl)))⟩⟩ rfl rfl hla rfl (lv_room hst) d hcs) hS (fun q _ h => h.elim) (fun q h => h.elim) (fun r u t H1 locs1 ht hvm hw _ hz1 hk1 hS1 => ?_)
  rw [hw]
  exact kk H1 locs1 (va_P.kept hP (fun k w hw => hk1 _ (hP k w hw).lt (fun h => h))) hS1
end E
/-- the layout's addresses, and the state of the 67 cells when the loop begins -/
def e_ad (q0 q1 q2 : Nat) (u v : Nat → Nat) : Nat → Nat := fun k => if k = 0 then q0 else if k < 60 then u k else if k = 60 then q1 else if k < 66 then v (k - 60) else q2
def e_arr (B : Nat) : List (Nat → Int32) := [fun _ => 0, fun _ => 0, fun _ => 0, y_F2 1, y_F2 2, y_F2 3, y_F2 4, y_F2 5, y_F2 6, y_F2 7, y_F2 8, y_F2 9, y_F2 10, y_F2 11, fun _ => 0, y_G B 1, y_G B 2, y_G B 3, y_G B 4, y_G B 5, fun _ => 0, fun _ => 0, fun _ => 0, fun _ => 0, y_F2 1, y_F2 2, y_F2 3, y_F2 4, y_F2 5, y_F2 6, y_F2 7, y_F2 8, y_F2 9, y_F2 10, y_F2 11, fun _ => 0, y_G B 1, y_G B 2, y_G B 3, y_G B 4, y_G B 5, fun _ => 0, fun _ => 0, fun _ => 0, y_F2 1, y_F2 2, y_F2 3, y_F2 4, y_F2 5, y_F2 6, y_F2 7, y_F2 8, y_F2 9, y_F2 10, y_F2 11, fun _ => 0, fun _ => 0, fun _ => 0, fun _ => 0, fun _ => 0, fun _ => 0, f_1, fun _ => 0, fun j => if j < 25366 then f_1 j else 0, fun _ => 0, fun _ => 0, fun _ => 0]
def e_fld (B J : Nat) : Nat → Nat → Int32 := fun a k => if a = 60 then [0, nI B, nI J, 0, 0, 0, 0, 0, 0, 0, 0, -1, 0, 0, 0].getD k 0 else if a = 57 then [0, -1, 0].getD k 0 else if a = 55 then [nI J, 0, 0, 0].getD k 0 else if k = 0 then nI B else if k = 12 then 1 else 0
def e_S (B J : Nat) : z_S := (fun a => (e_arr B).getD a (fun _ => 0), e_fld B J, fun _ => 0)
set_option maxRecDepth 100000 in
set_option maxHeartbeats 4000000 in
theorem e_ws {B J q0 q1 q2 : Nat} {K : Nat → ClassId} {u v : Nat → Nat} : z_ws B K (e_ad q0 q1 q2 u v) (e_S B J) = y_pt K B J q0 u ++ y_mod K B J q1 v ++ [(q2, .inl (K 3, 0 * B + 1, .inr (.inl (fun _ => 0))))] := rfl
theorem e_fit {B J : Nat} : z_fit (e_S B J) := by
  intro a ha ht i
  have h : a = 20 ∨ a = 21 ∨ a = 41 ∨ a = 42 ∨ a = 59 := (by decide +kernel : ∀ a, a < 67 → z_tag a = 1 → a = 20 ∨ a = 21 ∨ a = 41 ∨ a = 42 ∨ a = 59) a ha ht
  rcases h with rfl | rfl | rfl | rfl | rfl <;> rfl
theorem e_f1 : f_1 = f_0 := by
  unfold f_1 f_0
  rw [(by decide : Int32.toNatClampNeg 0 = 0), (by decide : Int32.toNatClampNeg 1 = 1), (by decide : Int32.toNatClampNeg 97 = 97), (by decide : Int32.toNatClampNeg 158 = 158), (by decide : Int32.toNatClampNeg 3757 = 3757), (by decide : Int32.toNatClampNeg 3949 = 3949), (by decide : Int32.toNatClampNeg 3853 = 3853), (by decide : Int32.toNatClampNeg 4636 = 4636), (by decide : Int32.toNatClampNeg 9244 = 9244), (by decide : Int32.toNatClampNeg 12300 = 12300), (by decide : Int32.toNatClampNeg 13068 = 13068), (by decide : Int32.toNatClampNeg 13076 = 13076), (by decide : Int32.toNatClampNeg 13077 = 13077)]
theorem e_use (b : Nat) : y_F2 1 b = if b = 1 then 2 else if b = 0 then 1 else 0 := by
  show upd (upd (fun _ => 0) (Int32.toNatClampNeg 0) 1) (Int32.toNatClampNeg 1) 2 b = _
  rw [(by decide : Int32.toNatClampNeg 0 = 0), (by decide : Int32.toNatClampNeg 1 = 1)]
  rfl
theorem e_T {B J t : Nat} (h0 : e_fld B J t 0 = nI B) (h12 : e_fld B J t 12 = 1) (hF : ∀ k, 1 ≤ k → k ≤ 11 → (e_S B J).1 (t + k) = y_F2 k) : c_T B t (e_S B J) T_0 := by
  refine c_T_0 h0 h12 (fun b _ => ?_) ?_ ?_ ?_ ?_ ?_ ?_ ?_ ?_ ?_
  · rw [hF 1 (by decide) (by decide)]; exact e_use b
  · rw [hF 2 (by decide) (by decide)]; decide +kernel
  · rw [hF 3 (by decide) (by decide)]; decide +kernel
  · rw [hF 4 (by decide) (by decide)]; decide +kernel
  · rw [hF 5 (by decide) (by decide)]; decide +kernel
  · rw [hF 6 (by decide) (by decide)]; decide +kernel
  · rw [hF 7 (by decide) (by decide)]; decide +kernel
  · rw [hF 9 (by decide) (by decide)]; decide +kernel
  · rw [hF 10 (by decide) (by decide)]; decide +kernel
  · rw [hF 11 (by decide) (by decide)]; decide +kernel
theorem e_kind {B o : Nat} (h1 : 1 ≤ o) (h2 : o ≤ 60) : y_G B 1 o = if o = 1 then 0 else -1 := by
  show upd (fun j => if j < 0 * B + 61 then (-1) else 0) (Int32.toNatClampNeg 1) 0 o = _
  rw [(by decide : Int32.toNatClampNeg 1 = 1)]
  unfold upd
  by_cases h : o = 1
  · rw [if_pos h, if_pos h]
  · rw [if_neg h, if_neg h]
    exact if_pos (by omega)
theorem e_O {B J t : Nat} (hG : ∀ k, 1 ≤ k → k ≤ 5 → (e_S B J).1 (t + (k + 13)) = y_G B k) : c_O B t (e_S B J) T_0 O_0 := by
  refine c_O_0 (fun o a1 a2 => ?_) ?_ ?_ ?_
  · rw [hG 1 (by decide) (by decide)]; exact e_kind a1 a2
  · rw [hG 2 (by decide) (by decide)]; rfl
  · rw [hG 3 (by decide) (by decide)]; rfl
  · rw [hG 4 (by decide) (by decide)]; rfl
theorem e_k12 {P : Nat → Prop} {n : Nat} (h : ∀ k : Fin n, P (k.1 + 1)) : ∀ k, 1 ≤ k → k ≤ n → P k := fun k h1 h2 => by
  have := h ⟨k - 1, by omega⟩
  rwa [show k - 1 + 1 = k by omega] at this
theorem e_I {B J : Nat} (h1 : 16 ≤ B) (h2 : B ≤ 96) (h3 : 6 ≤ J) (h4 : J ≤ 64) : q_I B J (e_S B J) := by
  have kf := k_start (B := B) (f := f_1) h1 h2 (fun j _ => by rw [e_f1])
  have kg := k_start (B := B) (f := fun j => if j < 25366 then f_1 j else 0) h1 h2 (fun j hj => by rw [if_pos hj, e_f1])
  have hT : ∀ t, t = 2 ∨ t = 23 ∨ t = 43 → ∀ k, 1 ≤ k → k ≤ 11 → (e_S B J).1 (t + k) = y_F2 k := by
    intro t ht k a1 a2
    rcases (show k = 1 ∨ k = 2 ∨ k = 3 ∨ k = 4 ∨ k = 5 ∨ k = 6 ∨ k = 7 ∨ k = 8 ∨ k = 9 ∨ k = 10 ∨ k = 11 by omega) with rfl | rfl | rfl | rfl | rfl | rfl | rfl | rfl | rfl | rfl | rfl <;> rcases ht with rfl | rfl | rfl <;> rfl
  have hO : ∀ t, t = 1 ∨ t = 22 → ∀ k, 1 ≤ k → k ≤ 5 → (e_S B J).1 (t + (k + 13)) = y_G B k := by
    intro t ht k a1 a2
    rcases (show k = 1 ∨ k = 2 ∨ k = 3 ∨ k = 4 ∨ k = 5 by omega) with rfl | rfl | rfl | rfl | rfl <;> rcases ht with rfl | rfl <;> rfl
  exact q_start h1 h2 h3 h4 rfl rfl rfl (e_T rfl rfl (hT 2 (Or.inl rfl))) (e_O (hO 1 (Or.inl rfl))) (e_T rfl rfl (hT 23 (Or.inr (Or.inl rfl)))) (e_O (hO 22 (Or.inr rfl))) rfl rfl rfl rfl rfl (fun _ _ => rfl) rfl rfl kf.1 kf.2 kg.1 kg.2 rfl rfl rfl rfl rfl (fun _ _ => rfl)
