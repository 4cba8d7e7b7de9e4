/-! The tree's constructor: takeBlock and openSlot at the start, keyOf. -/
abbrev y_tree (K : Nat → ClassId) (B h : Nat) (u : Nat → Nat) (F : Nat → Nat → Int32) (root : Int32) : va_W := [(h, .inr (4, [.int (nI B), .ref (u 1), .ref (u 2), .ref (u 3), .ref (u 4), .ref (u 5), .ref (u 6), .ref (u 7), .ref (u 8), .ref (u 9), .ref (u 10), .ref (u 11), .int root])), (u 1, .inl (K 0, 1 * B + 0, .inl (F 1))), (u 2, .inl (K 0, 1 * B + 0, .inl (F 2))), (u 3, .inl (K 0, 1 * B + 0, .inl (F 3))), (u 4, .inl (K 0, 1 * B + 0, .inl (F 4))), (u 5, .inl (K 0, 1 * B + 0, .inl (F 5))), (u 6, .inl (K 0, 1 * B + 0, .inl (F 6))), (u 7, .inl (K 0, 1 * B + 0, .inl (F 7))), (u 8, .inl (K 0, 6 * B + 0, .inl (F 8))), (u 9, .inl (K 0, 14 * B + 0, .inl (F 9))), (u 10, .inl (K 0, 14 * B + 0, .inl (F 10))), (u 11, .inl (K 0, 14 * B + 0, .inl (F 11)))]
theorem y_l0 {n : Int32} {B k : Nat} (h : n.toNatClampNeg = k) : n.toNatClampNeg = 0 * B + k := by omega
theorem y_n1 {B : Nat} (h : B ≤ 96) : ¬ nI B < 0 := nI_pos (by omega)
theorem y_l1 {B : Nat} (h : B ≤ 96) : (nI B).toNatClampNeg = 1 * B + 0 := by rw [nI_clamp (by omega)]; omega
theorem y_mul {B k : Nat} {c : Int32} (hc : c = nI k) : nI B * c = nI (k * B) := by rw [hc, Nat.mul_comm]; exact (Int32.ofNat_mul B k).symm
theorem y_kB {B k : Nat} (h : B ≤ 96) (hk : k ≤ 128) : k * B ≤ 12288 := Nat.le_trans (Nat.mul_le_mul hk h) (by decide)
theorem y_nk {B k : Nat} {c : Int32} (h : B ≤ 96) (hc : c = nI k) (hk : k ≤ 128) : ¬ nI B * c < 0 := by
  have := y_kB h hk
  rw [y_mul hc]; exact nI_pos (by omega)
theorem y_lk {B k : Nat} {c : Int32} (h : B ≤ 96) (hc : c = nI k) (hk : k ≤ 128) : (nI B * c).toNatClampNeg = k * B + 0 := by
  have := y_kB h hk
  rw [y_mul hc, nI_clamp (by omega)]; omega
theorem y_B1 {B : Nat} (h : 16 ≤ B ∧ B ≤ 96) : ¬ nI B ≤ 1 := nI_ge (a := 1) (by omega) (by omega)
theorem y_df0 : ∀ j, j < 4 → defaultValue (tyX0 j) = vp_V [.null, .null, .null, .null] j := by decide +kernel
theorem y_df1 : ∀ j, j < 4 → defaultValue (tyX1 j) = vp_V [.int 0, .null, .int 0, .int 0] j := by decide +kernel
theorem y_df2 : ∀ j, j < 5 → defaultValue (tyX2 j) = vp_V [.null, .null, .null, .null, .null] j := by decide +kernel
theorem y_df3 : ∀ j, j < 3 → defaultValue (tyX3 j) = vp_V [.int 0, .int 0, .int 0] j := by decide +kernel
theorem y_df4 : ∀ j, j < 13 → defaultValue (tyX4 j) = vp_V [.int 0, .null, .null, .null, .null, .null, .null, .null, .null, .null, .null, .null, .int 0] j := by decide +kernel
theorem y_df5 : ∀ j, j < 8 → defaultValue (tyX5 j) = vp_V [.int 0, .null, .null, .null, .null, .null, .null, .null] j := by decide +kernel
theorem y_df6 : ∀ j, j < 15 → defaultValue (tyX6 j) = vp_V [.int 0, .int 0, .int 0, .null, .null, .null, .null, .int 0, .null, .int 0, .int 0, .int 0, .int 0, .int 0, .int 0] j := by decide +kernel
theorem yw_0 : Cond.fieldLink "PackedTree$Tree" 9 "PackedTree$Tree" "blocks" "I" ∈ z_G := z_Gin (List.mem_of_getElem? (i := 149) (by decide +kernel)) rfl
theorem yw_1 : Cond.fieldLink "PackedTree$Tree" 15 "PackedTree$Tree" "use" "[I" ∈ z_G := z_Gin (List.mem_of_getElem? (i := 150) (by decide +kernel)) rfl
theorem yw_2 : Cond.fieldLink "PackedTree$Tree" 19 "PackedTree$Tree" "height" "[I" ∈ z_G := z_Gin (List.mem_of_getElem? (i := 153) (by decide +kernel)) rfl
theorem yw_3 : Cond.fieldLink "PackedTree$Tree" 22 "PackedTree$Tree" "members" "[I" ∈ z_G := z_Gin (List.mem_of_getElem? (i := 155) (by decide +kernel)) rfl
theorem yw_4 : Cond.fieldLink "PackedTree$Tree" 25 "PackedTree$Tree" "used" "[I" ∈ z_G := z_Gin (List.mem_of_getElem? (i := 158) (by decide +kernel)) rfl
theorem yw_5 : Cond.fieldLink "PackedTree$Tree" 28 "PackedTree$Tree" "parent" "[I" ∈ z_G := z_Gin (List.mem_of_getElem? (i := 160) (by decide +kernel)) rfl
theorem yw_6 : Cond.fieldLink "PackedTree$Tree" 31 "PackedTree$Tree" "before" "[I" ∈ z_G := z_Gin (List.mem_of_getElem? (i := 162) (by decide +kernel)) rfl
theorem yw_7 : Cond.fieldLink "PackedTree$Tree" 34 "PackedTree$Tree" "behind" "[I" ∈ z_G := z_Gin (List.mem_of_getElem? (i := 163) (by decide +kernel)) rfl
theorem yw_8 : Cond.fieldLink "PackedTree$Tree" 40 "PackedTree$Tree" "key" "[I" ∈ z_G := z_Gin (List.mem_of_getElem? (i := 165) (by decide +kernel)) rfl
theorem yw_9 : Cond.methodLink "PackedTree$Tree" 64 arraycopyName ∈ z_G := z_Gin (List.mem_of_getElem? (i := 146) (by decide +kernel)) rfl
theorem yw_10 : Cond.native arraycopyName ∈ z_G := z_Gin (List.mem_of_getElem? (i := 148) (by decide +kernel)) rfl
theorem yw_11 : Cond.static arraycopyName ∈ z_G := z_Gin (List.mem_of_getElem? (i := 147) (by decide +kernel)) rfl
theorem yw_12 : Cond.initialized "java/lang/System" ∈ z_G := z_Gin (List.mem_of_getElem? (i := 93) (by decide +kernel)) rfl
theorem yw_13 : Cond.fieldLink "PackedTree$Tree" 43 "PackedTree$Tree" "body" "[I" ∈ z_G := z_Gin (List.mem_of_getElem? (i := 168) (by decide +kernel)) rfl
theorem yw_14 : Cond.fieldLink "PackedTree$Tree" 46 "PackedTree$Tree" "told" "[I" ∈ z_G := z_Gin (List.mem_of_getElem? (i := 171) (by decide +kernel)) rfl
theorem yw_15 : Cond.methodLink "PackedTree$Tree" 3 Lib.objectInit ∈ z_G := z_Gin (List.mem_of_getElem? (i := 134) (by decide +kernel)) rfl
theorem yw_16 : Cond.instanceMethod Lib.objectInit ∈ z_G := z_Gin (List.mem_of_getElem? (i := 112) (by decide +kernel)) rfl
theorem yw_17 : Cond.code Lib.objectInit ⟨#[0xb1]⟩ 1 none ∈ z_G := z_Gin (List.mem_of_getElem? (i := 113) (by decide +kernel)) rfl
theorem yw_18 : Cond.arrayClass .int ∈ z_G := z_Gin (List.mem_of_getElem? (i := 202) (by decide +kernel)) rfl
theorem yw_19 : Cond.fieldLink "PackedTree$Tree" 37 "PackedTree$Tree" "child" "[I" ∈ z_G := z_Gin (List.mem_of_getElem? (i := 164) (by decide +kernel)) rfl
theorem yw_20 : Cond.methodLink "PackedTree$Tree" 49 yX4_takeBlock ∈ z_G := z_Gin (List.mem_of_getElem? (i := 135) (by decide +kernel)) rfl
theorem yw_21 : Cond.fieldLink "PackedTree$Tree" 53 "PackedTree$Tree" "root" "I" ∈ z_G := z_Gin (List.mem_of_getElem? (i := 173) (by decide +kernel)) rfl
theorem yw_22 : Cond.methodLink "PackedTree$Tree" 60 yX4_openSlot ∈ z_G := z_Gin (List.mem_of_getElem? (i := 142) (by decide +kernel)) rfl
set_option maxRecDepth 100000 in
set_option maxHeartbeats 4000000 in
theorem n_X4_takeBlock {l : Launch} {D : va_G} {K : Nat → ClassId} {B h : Nat} {u : Nat → Nat} {F : Nat → Nat → Int32} {root : Int32} (hB : 16 ≤ B ∧ B ≤ 96) (hF : F 1 (Int32.toNatClampNeg 1) = 0) : y_Met l I_X4_takeBlock { frames := 0, locals := 0, cells := 0, slots := 0 } D K [.ref h, .int 2] (y_tree K B h u F root) (some 1) (fun _ => y_tree K B h u (va_up (va_up (va_up (va_up (va_up (va_up (va_up (F) 1 (upd (F 1) (Int32.toNatClampNeg 1) 2)) 2 (upd (F 2) (Int32.toNatClampNeg 1) 0)) 3 (upd (F 3) (Int32.toNatClampNeg 1) 0)) 4 (upd (F 4) (Int32.toNatClampNeg 1) 0)) 5 (upd (F 5) (Int32.toNatClampNeg 1) (-1))) 6 (upd (F 6) (Int32.toNatClampNeg 1) (-1))) 7 (upd (F 7) (Int32.toNatClampNeg 1) (-1))) root) := by
  refine y_enter (by decide) (Nat.le_of_ble_eq_true rfl) ?_
  intro p e s m args below meth c ls A C hl hP hD hS hA
  obtain ⟨hx, hb, hr, hml, hown, hts, hlocks, hK, hnest, hin⟩ := id C
  have hb : c.code = cX4_takeBlock := hb
  have hown : s.vm.findClass RX4 = some m.cls := hown
  have hl : lv_has ls 3 [(0, .ref h), (1, .int 2)] := hl
  refine lv_iconst (v := 1) hx hb dX4_takeBlock_0 (by decide) ?_
  refine lv_istore_n (lv' := [(2, .int 1), (0, .ref h), (1, .int 2)]) hx hb dX4_takeBlock_1 rfl hl (by decide) rfl (fun ls hl => ?_)
  refine lv_iload_n hx hb dX4_takeBlock_2 rfl (lv_at hl 0 rfl) ?_
  refine lv_aload_n hx hb dX4_takeBlock_3 rfl (lv_at hl 1 rfl) ?_
  refine va_get hx hb hts in_4 hown hK hP 0 rfl (ci := 4) rfl 0 (by decide) (hts _ yw_0) (fun _ h => h) rfl dX4_takeBlock_4 ?_
  refine lv_icmp_ge (tgt := 76) hx hb dX4_takeBlock_7 (by decide) (fun h9 => absurd h9 (y_B1 hB)) (fun _ => ?_)
  refine lv_aload_n hx hb dX4_takeBlock_10 rfl (lv_at hl 1 rfl) ?_
  refine va_get hx hb hts in_4 hown hK hP 0 rfl (ci := 4) rfl 1 (by decide) (hts _ yw_1) (fun _ h => h) rfl dX4_takeBlock_11 ?_
  refine lv_iload_n hx hb dX4_takeBlock_14 rfl (lv_at hl 0 rfl) ?_
  refine va_iald hx hb hK hP 1 0 rfl rfl (y_in (k := 1) (by decide) (by decide) (by omega)) dX4_takeBlock_15 ?_
  refine y_topi (v := 0) (hF) ?_
  refine lv_if_ne (tgt := 70) hx hb dX4_takeBlock_16 (by decide) (fun h9 => absurd h9 (by decide)) (fun _ => ?_)
  refine lv_aload_n hx hb dX4_takeBlock_19 rfl (lv_at hl 1 rfl) ?_
  refine va_get hx hb hts in_4 hown hK hP 0 rfl (ci := 4) rfl 1 (by decide) (hts _ yw_1) (fun _ h => h) rfl dX4_takeBlock_20 ?_
  refine lv_iload_n hx hb dX4_takeBlock_23 rfl (lv_at hl 0 rfl) ?_
  refine lv_iload_n hx hb dX4_takeBlock_24 rfl (lv_at hl 2 rfl) ?_
  refine va_iast hx hb hK hP hD hS 1 0 rfl rfl (y_in (k := 1) (by decide) (by decide) (by omega)) dX4_takeBlock_25 (fun H locs hP hD hS => ?_)
  have hP : va_P D vwCl (y_tree K B h u (va_up (F) 1 (upd (F 1) (Int32.toNatClampNeg 1) 2)) root) H := hP
  have hD : va_D A (y_tree K B h u (va_up (F) 1 (upd (F 1) (Int32.toNatClampNeg 1) 2)) root) := hD
  refine lv_aload_n hx hb dX4_takeBlock_26 rfl (lv_at hl 1 rfl) ?_
  refine va_get hx hb hts in_4 hown hK hP 0 rfl (ci := 4) rfl 2 (by decide) (hts _ yw_2) (fun _ h => h) rfl dX4_takeBlock_27 ?_
  refine lv_iload_n hx hb dX4_takeBlock_30 rfl (lv_at hl 0 rfl) ?_
  refine lv_iconst (v := 0) hx hb dX4_takeBlock_31 (by decide) ?_
  refine va_iast hx hb hK hP hD hS 2 0 rfl rfl (y_in (k := 1) (by decide) (by decide) (by omega)) dX4_takeBlock_32 (fun H locs hP hD hS => ?_)
  have hP : va_P D vwCl (y_tree K B h u (va_up (va_up (F) 1 (upd (F 1) (Int32.toNatClampNeg 1) 2)) 2 (upd (F 2) (Int32.toNatClampNeg 1) 0)) root) H := hP
  have hD : va_D A (y_tree K B h u (va_up (va_up (F) 1 (upd (F 1) (Int32.toNatClampNeg 1) 2)) 2 (upd (F 2) (Int32.toNatClampNeg 1) 0)) root) := hD
  refine lv_aload_n hx hb dX4_takeBlock_33 rfl (lv_at hl 1 rfl) ?_
  refine va_get hx hb hts in_4 hown hK hP 0 rfl (ci := 4) rfl 3 (by decide) (hts _ yw_3) (fun _ h => h) rfl dX4_takeBlock_34 ?_
  refine lv_iload_n hx hb dX4_takeBlock_37 rfl (lv_at hl 0 rfl) ?_
  refine lv_iconst (v := 0) hx hb dX4_takeBlock_38 (by decide) ?_
  refine va_iast hx hb hK hP hD hS 3 0 rfl rfl (y_in (k := 1) (by decide) (by decide) (by omega)) dX4_takeBlock_39 (fun H locs hP hD hS => ?_)
  have hP : va_P D vwCl (y_tree K B h u (va_up (va_up (va_up (F) 1 (upd (F 1) (Int32.toNatClampNeg 1) 2)) 2 (upd (F 2) (Int32.toNatClampNeg 1) 0)) 3 (upd (F 3) (Int32.toNatClampNeg 1) 0)) root) H := hP
  have hD : va_D A (y_tree K B h u (va_up (va_up (va_up (F) 1 (upd (F 1) (Int32.toNatClampNeg 1) 2)) 2 (upd (F 2) (Int32.toNatClampNeg 1) 0)) 3 (upd (F 3) (Int32.toNatClampNeg 1) 0)) root) := hD
  refine lv_aload_n hx hb dX4_takeBlock_40 rfl (lv_at hl 1 rfl) ?_
  refine va_get hx hb hts in_4 hown hK hP 0 rfl (ci := 4) rfl 4 (by decide) (hts _ yw_4) (fun _ h => h) rfl dX4_takeBlock_41 ?_
  refine lv_iload_n hx hb dX4_takeBlock_44 rfl (lv_at hl 0 rfl) ?_
  refine lv_iconst (v := 0) hx hb dX4_takeBlock_45 (by decide) ?_
  refine va_iast hx hb hK hP hD hS 4 0 rfl rfl (y_in (k := 1) (by decide) (by decide) (by omega)) dX4_takeBlock_46 (fun H locs hP hD hS => ?_)
  have hP : va_P D vwCl (y_tree K B h u (va_up (va_up (va_up (va_up (F) 1 (upd (F 1) (Int32.toNatClampNeg 1) 2)) 2 (upd (F 2) (Int32.toNatClampNeg 1) 0)) 3 (upd (F 3) (Int32.toNatClampNeg 1) 0)) 4 (upd (F 4) (Int32.toNatClampNeg 1) 0)) root) H := hP
  have hD : va_D A (y_tree K B h u (va_up (va_up (va_up (va_up (F) 1 (upd (F 1) (Int32.toNatClampNeg 1) 2)) 2 (upd (F 2) (Int32.toNatClampNeg 1) 0)) 3 (upd (F 3) (Int32.toNatClampNeg 1) 0)) 4 (upd (F 4) (Int32.toNatClampNeg 1) 0)) root) := hD
  refine lv_aload_n hx hb dX4_takeBlock_47 rfl (lv_at hl 1 rfl) ?_
  refine va_get hx hb hts in_4 hown hK hP 0 rfl (ci := 4) rfl 5 (by decide) (hts _ yw_5) (fun _ h => h) rfl dX4_takeBlock_48 ?_
  refine lv_iload_n hx hb dX4_takeBlock_51 rfl (lv_at hl 0 rfl) ?_
  refine lv_iconst (v := (-1)) hx hb dX4_takeBlock_52 (by decide) ?_
  refine va_iast hx hb hK hP hD hS 5 0 rfl rfl (y_in (k := 1) (by decide) (by decide) (by omega)) dX4_takeBlock_53 (fun H locs hP hD hS => ?_)
  have hP : va_P D vwCl (y_tree K B h u (va_up (va_up (va_up (va_up (va_up (F) 1 (upd (F 1) (Int32.toNatClampNeg 1) 2)) 2 (upd (F 2) (Int32.toNatClampNeg 1) 0)) 3 (upd (F 3) (Int32.toNatClampNeg 1) 0)) 4 (upd (F 4) (Int32.toNatClampNeg 1) 0)) 5 (upd (F 5) (Int32.toNatClampNeg 1) (-1))) root) H := hP
  have hD : va_D A (y_tree K B h u (va_up (va_up (va_up (va_up (va_up (F) 1 (upd (F 1) (Int32.toNatClampNeg 1) 2)) 2 (upd (F 2) (Int32.toNatClampNeg 1) 0)) 3 (upd (F 3) (Int32.toNatClampNeg 1) 0)) 4 (upd (F 4) (Int32.toNatClampNeg 1) 0)) 5 (upd (F 5) (Int32.toNatClampNeg 1) (-1))) root) := hD
  refine lv_aload_n hx hb dX4_takeBlock_54 rfl (lv_at hl 1 rfl) ?_
  refine va_get hx hb hts in_4 hown hK hP 0 rfl (ci := 4) rfl 6 (by decide) (hts _ yw_6) (fun _ h => h) rfl dX4_takeBlock_55 ?_
  refine lv_iload_n hx hb dX4_takeBlock_58 rfl (lv_at hl 0 rfl) ?_
  refine lv_iconst (v := (-1)) hx hb dX4_takeBlock_59 (by decide) ?_
  refine va_iast hx hb hK hP hD hS 6 0 rfl rfl (y_in (k := 1) (by decide) (by decide) (by omega)) dX4_takeBlock_60 (fun H locs hP hD hS => ?_)
  have hP : va_P D vwCl (y_tree K B h u (va_up (va_up (va_up (va_up (va_up (va_up (F) 1 (upd (F 1) (Int32.toNatClampNeg 1) 2)) 2 (upd (F 2) (Int32.toNatClampNeg 1) 0)) 3 (upd (F 3) (Int32.toNatClampNeg 1) 0)) 4 (upd (F 4) (Int32.toNatClampNeg 1) 0)) 5 (upd (F 5) (Int32.toNatClampNeg 1) (-1))) 6 (upd (F 6) (Int32.toNatClampNeg 1) (-1))) root) H := hP
  have hD : va_D A (y_tree K B h u (va_up (va_up (va_up (va_up (va_up (va_up (F) 1 (upd (F 1) (Int32.toNatClampNeg 1) 2)) 2 (upd (F 2) (Int32.toNatClampNeg 1) 0)) 3 (upd (F 3) (Int32.toNatClampNeg 1) 0)) 4 (upd (F 4) (Int32.toNatClampNeg 1) 0)) 5 (upd (F 5) (Int32.toNatClampNeg 1) (-1))) 6 (upd (F 6) (Int32.toNatClampNeg 1) (-1))) root) := hD
  refine lv_aload_n hx hb dX4_takeBlock_61 rfl (lv_at hl 1 rfl) ?_
  refine va_get hx hb hts in_4 hown hK hP 0 rfl (ci := 4) rfl 7 (by decide) (hts _ yw_7) (fun _ h => h) rfl dX4_takeBlock_62 ?_
  refine lv_iload_n hx hb dX4_takeBlock_65 rfl (lv_at hl 0 rfl) ?_
  refine lv_iconst (v := (-1)) hx hb dX4_takeBlock_66 (by decide) ?_
  refine va_iast hx hb hK hP hD hS 7 0 rfl rfl (y_in (k := 1) (by decide) (by decide) (by omega)) dX4_takeBlock_67 (fun H locs hP hD hS => ?_)
  have hP : va_P D vwCl (y_tree K B h u (va_up (va_up (va_up (va_up (va_up (va_up (va_up (F) 1 (upd (F 1) (Int32.toNatClampNeg 1) 2)) 2 (upd (F 2) (Int32.toNatClampNeg 1) 0)) 3 (upd (F 3) (Int32.toNatClampNeg 1) 0)) 4 (upd (F 4) (Int32.toNatClampNeg 1) 0)) 5 (upd (F 5) (Int32.toNatClampNeg 1) (-1))) 6 (upd (F 6) (Int32.toNatClampNeg 1) (-1))) 7 (upd (F 7) (Int32.toNatClampNeg 1) (-1))) root) H := hP
  have hD : va_D A (y_tree K B h u (va_up (va_up (va_up (va_up (va_up (va_up (va_up (F) 1 (upd (F 1) (Int32.toNatClampNeg 1) 2)) 2 (upd (F 2) (Int32.toNatClampNeg 1) 0)) 3 (upd (F 3) (Int32.toNatClampNeg 1) 0)) 4 (upd (F 4) (Int32.toNatClampNeg 1) 0)) 5 (upd (F 5) (Int32.toNatClampNeg 1) (-1))) 6 (upd (F 6) (Int32.toNatClampNeg 1) (-1))) 7 (upd (F 7) (Int32.toNatClampNeg 1) (-1))) root) := hD
  refine lv_iload_n hx hb dX4_takeBlock_68 rfl (lv_at hl 0 rfl) ?_
  exact W.iret hx hb hr (fun t ht _ => ⟨⟨rfl, u, by rw [ht]; exact hP, hD⟩, hS.F ht⟩) hS.2.2 dX4_takeBlock_69
set_option maxRecDepth 100000 in
set_option maxHeartbeats 4000000 in
theorem n_X4_openSlot {l : Launch} {D : va_G} {K : Nat → ClassId} {B h : Nat} {u : Nat → Nat} {F : Nat → Nat → Int32} (hB : 16 ≤ B ∧ B ≤ 96) (hF3 : F 3 (Int32.toNatClampNeg 1) = 0) (hF4 : F 4 (Int32.toNatClampNeg 1) = 0) : y_Met l I_X4_openSlot { frames := 1, locals := 100, cells := 0, slots := 0 } D K [.ref h, .int 1, .int 0, .int 4000, .int 6, .int (-1)] (y_tree K B h u F 1) none (fun _ => y_tree K B h u (va_up (va_up (va_up (va_up (va_up (F) 9 (upd (va_cpy (F 9) (F 9) (Int32.toNatClampNeg 14) (Int32.toNatClampNeg 15) (Int32.toNatClampNeg 0)) (Int32.toNatClampNeg 14) 4000)) 10 (upd (va_cpy (F 10) (F 10) (Int32.toNatClampNeg 14) (Int32.toNatClampNeg 15) (Int32.toNatClampNeg 0)) (Int32.toNatClampNeg 14) 6)) 11 (upd (va_cpy (F 11) (F 11) (Int32.toNatClampNeg 14) (Int32.toNatClampNeg 15) (Int32.toNatClampNeg 0)) (Int32.toNatClampNeg 14) (-1))) 3 (upd (F 3) (Int32.toNatClampNeg 1) 1)) 4 (upd (F 4) (Int32.toNatClampNeg 1) 14)) 1) := by
  refine y_enter (by decide) (Nat.le_of_ble_eq_true rfl) ?_
  intro p e s m args below meth c ls A C hl hP hD hS hA
  obtain ⟨hx, hb, hr, hml, hown, hts, hlocks, hK, hnest, hin⟩ := id C
  have hb : c.code = cX4_openSlot := hb
  have hown : s.vm.findClass RX4 = some m.cls := hown
  have hl : lv_has ls 8 [(0, .ref h), (1, .int 1), (2, .int 0), (3, .int 4000), (4, .int 6), (5, .int (-1))] := hl
  refine lv_aload_n hx hb dX4_openSlot_0 rfl (lv_at hl 0 rfl) ?_
  refine va_get hx hb hts in_4 hown hK hP 0 rfl (ci := 4) rfl 3 (by decide) (hts _ yw_3) (fun _ h => h) rfl dX4_openSlot_1 ?_
  refine lv_iload_n hx hb dX4_openSlot_4 rfl (lv_at hl 1 rfl) ?_
  refine va_iald hx hb hK hP 3 0 rfl rfl (y_in (k := 1) (by decide) (by decide) (by omega)) dX4_openSlot_5 ?_
  refine y_topi (v := 0) (hF3) ?_
  refine lv_iload_n hx hb dX4_openSlot_6 rfl (lv_at hl 2 rfl) ?_
  refine lv_isub hx hb dX4_openSlot_7 ?_
  refine y_topi (v := 0) (by decide) ?_
  refine lv_istore (lv' := [(6, .int 0), (0, .ref h), (1, .int 1), (2, .int 0), (3, .int 4000), (4, .int 6), (5, .int (-1))]) hx hb dX4_openSlot_8 hl (by decide) rfl (fun ls hl => ?_)
  refine lv_iload_n hx hb dX4_openSlot_10 rfl (lv_at hl 3 rfl) ?_
  refine lv_if_lt (tgt := 30) hx hb dX4_openSlot_11 (by decide) (fun h9 => absurd h9 (by decide)) (fun _ => ?_)
  refine lv_iload hx hb dX4_openSlot_14 (lv_at hl 0 rfl) ?_
  refine lv_if_lt (tgt := 30) hx hb dX4_openSlot_16 (by decide) (fun h9 => absurd h9 (by decide)) (fun _ => ?_)
  refine lv_aload_n hx hb dX4_openSlot_19 rfl (lv_at hl 1 rfl) ?_
  refine va_get hx hb hts in_4 hown hK hP 0 rfl (ci := 4) rfl 3 (by decide) (hts _ yw_3) (fun _ h => h) rfl dX4_openSlot_20 ?_
  refine lv_iload_n hx hb dX4_openSlot_23 rfl (lv_at hl 2 rfl) ?_
  refine va_iald hx hb hK hP 3 0 rfl rfl (y_in (k := 1) (by decide) (by decide) (by omega)) dX4_openSlot_24 ?_
  refine y_topi (v := 0) (hF3) ?_
  refine lv_bipush (v := 14) hx hb dX4_openSlot_25 (by decide) ?_
  refine lv_icmp_lt (tgt := 31) hx hb dX4_openSlot_27 (by decide) (fun _ => ?_) (fun h9 => absurd (by decide) h9)
  refine lv_iload_n hx hb dX4_openSlot_31 rfl (lv_at hl 2 rfl) ?_
  refine lv_bipush (v := 14) hx hb dX4_openSlot_32 (by decide) ?_
  refine lv_imul hx hb dX4_openSlot_34 ?_
  refine y_topi (v := 14) (by decide) ?_
  refine lv_iload_n hx hb dX4_openSlot_35 rfl (lv_at hl 3 rfl) ?_
  refine lv_iadd hx hb dX4_openSlot_36 ?_
  refine y_topi (v := 14) (by decide) ?_
  refine lv_istore (lv' := [(7, .int 14), (6, .int 0), (0, .ref h), (1, .int 1), (2, .int 0), (3, .int 4000), (4, .int 6), (5, .int (-1))]) hx hb dX4_openSlot_37 hl (by decide) rfl (fun ls hl => ?_)
  refine lv_aload_n hx hb dX4_openSlot_39 rfl (lv_at hl 2 rfl) ?_
  refine va_get hx hb hts in_4 hown hK hP 0 rfl (ci := 4) rfl 9 (by decide) (hts _ yw_8) (fun _ h => h) rfl dX4_openSlot_40 ?_
  refine lv_iload hx hb dX4_openSlot_43 (lv_at hl 0 rfl) ?_
  refine lv_aload_n hx hb dX4_openSlot_45 rfl (lv_at hl 2 rfl) ?_
  refine va_get hx hb hts in_4 hown hK hP 0 rfl (ci := 4) rfl 9 (by decide) (hts _ yw_8) (fun _ h => h) rfl dX4_openSlot_46 ?_
  refine lv_iload hx hb dX4_openSlot_49 (lv_at hl 0 rfl) ?_
  refine lv_iconst (v := 1) hx hb dX4_openSlot_51 (by decide) ?_
  refine lv_iadd hx hb dX4_openSlot_52 ?_
  refine y_topi (v := 15) (by decide) ?_
  refine lv_iload hx hb dX4_openSlot_53 (lv_at hl 1 rfl) ?_
  refine va_copyi hx hb (hml.trans hl.1.symm) hown (hts _ yw_9) (hts _ yw_10) (hts _ yw_11) (hts _ yw_12) hK hP hD hS 9 9 0 0 rfl rfl rfl rfl rfl (by decide) (by decide) (by decide) (by rw [(by decide : Int32.toNatClampNeg 14 = 14), (by decide : Int32.toNatClampNeg 0 = 0)]; omega) (by rw [(by decide : Int32.toNatClampNeg 15 = 15), (by decide : Int32.toNatClampNeg 0 = 0)]; omega) (fun _ _ => rfl) (Nat.le_of_ble_eq_true rfl) (Nat.le_of_ble_eq_true rfl) dX4_openSlot_55 (fun H locs hP hD hS => ?_)
  have hP : va_P D vwCl (y_tree K B h u (va_up (F) 9 (va_cpy (F 9) (F 9) (Int32.toNatClampNeg 14) (Int32.toNatClampNeg 15) (Int32.toNatClampNeg 0))) 1) H := hP
  have hD : va_D A (y_tree K B h u (va_up (F) 9 (va_cpy (F 9) (F 9) (Int32.toNatClampNeg 14) (Int32.toNatClampNeg 15) (Int32.toNatClampNeg 0))) 1) := hD
  refine lv_aload_n hx hb dX4_openSlot_58 rfl (lv_at hl 2 rfl) ?_
  refine va_get hx hb hts in_4 hown hK hP 0 rfl (ci := 4) rfl 10 (by decide) (hts _ yw_13) (fun _ h => h) rfl dX4_openSlot_59 ?_
  refine lv_iload hx hb dX4_openSlot_62 (lv_at hl 0 rfl) ?_
  refine lv_aload_n hx hb dX4_openSlot_64 rfl (lv_at hl 2 rfl) ?_
  refine va_get hx hb hts in_4 hown hK hP 0 rfl (ci := 4) rfl 10 (by decide) (hts _ yw_13) (fun _ h => h) rfl dX4_openSlot_65 ?_
  refine lv_iload hx hb dX4_openSlot_68 (lv_at hl 0 rfl) ?_
  refine lv_iconst (v := 1) hx hb dX4_openSlot_70 (by decide) ?_
  refine lv_iadd hx hb dX4_openSlot_71 ?_
  refine y_topi (v := 15) (by decide) ?_
  refine lv_iload hx hb dX4_openSlot_72 (lv_at hl 1 rfl) ?_
  refine va_copyi hx hb (hml.trans hl.1.symm) hown (hts _ yw_9) (hts _ yw_10) (hts _ yw_11) (hts _ yw_12) hK hP hD hS 10 10 0 0 rfl rfl rfl rfl rfl (by decide) (by decide) (by decide) (by rw [(by decide : Int32.toNatClampNeg 14 = 14), (by decide : Int32.toNatClampNeg 0 = 0)]; omega) (by rw [(by decide : Int32.toNatClampNeg 15 = 15), (by decide : Int32.toNatClampNeg 0 = 0)]; omega) (fun _ _ => rfl) (Nat.le_of_ble_eq_true rfl) (Nat.le_of_ble_eq_true rfl) dX4_openSlot_74 (fun H locs hP hD hS => ?_)
  have hP : va_P D vwCl (y_tree K B h u (va_up (va_up (F) 9 (va_cpy (F 9) (F 9) (Int32.toNatClampNeg 14) (Int32.toNatClampNeg 15) (Int32.toNatClampNeg 0))) 10 (va_cpy (F 10) (F 10) (Int32.toNatClampNeg 14) (Int32.toNatClampNeg 15) (Int32.toNatClampNeg 0))) 1) H := hP
  have hD : va_D A (y_tree K B h u (va_up (va_up (F) 9 (va_cpy (F 9) (F 9) (Int32.toNatClampNeg 14) (Int32.toNatClampNeg 15) (Int32.toNatClampNeg 0))) 10 (va_cpy (F 10) (F 10) (Int32.toNatClampNeg 14) (Int32.toNatClampNeg 15) (Int32.toNatClampNeg 0))) 1) := hD
  refine lv_aload_n hx hb dX4_openSlot_77 rfl (lv_at hl 2 rfl) ?_
  refine va_get hx hb hts in_4 hown hK hP 0 rfl (ci := 4) rfl 11 (by decide) (hts _ yw_14) (fun _ h => h) rfl dX4_openSlot_78 ?_
  refine lv_iload hx hb dX4_openSlot_81 (lv_at hl 0 rfl) ?_
  refine lv_aload_n hx hb dX4_openSlot_83 rfl (lv_at hl 2 rfl) ?_
  refine va_get hx hb hts in_4 hown hK hP 0 rfl (ci := 4) rfl 11 (by decide) (hts _ yw_14) (fun _ h => h) rfl dX4_openSlot_84 ?_
  refine lv_iload hx hb dX4_openSlot_87 (lv_at hl 0 rfl) ?_
  refine lv_iconst (v := 1) hx hb dX4_openSlot_89 (by decide) ?_
  refine lv_iadd hx hb dX4_openSlot_90 ?_
  refine y_topi (v := 15) (by decide) ?_
  refine lv_iload hx hb dX4_openSlot_91 (lv_at hl 1 rfl) ?_
  refine va_copyi hx hb (hml.trans hl.1.symm) hown (hts _ yw_9) (hts _ yw_10) (hts _ yw_11) (hts _ yw_12) hK hP hD hS 11 11 0 0 rfl rfl rfl rfl rfl (by decide) (by decide) (by decide) (by rw [(by decide : Int32.toNatClampNeg 14 = 14), (by decide : Int32.toNatClampNeg 0 = 0)]; omega) (by rw [(by decide : Int32.toNatClampNeg 15 = 15), (by decide : Int32.toNatClampNeg 0 = 0)]; omega) (fun _ _ => rfl) (Nat.le_of_ble_eq_true rfl) (Nat.le_of_ble_eq_true rfl) dX4_openSlot_93 (fun H locs hP hD hS => ?_)
  have hP : va_P D vwCl (y_tree K B h u (va_up (va_up (va_up (F) 9 (va_cpy (F 9) (F 9) (Int32.toNatClampNeg 14) (Int32.toNatClampNeg 15) (Int32.toNatClampNeg 0))) 10 (va_cpy (F 10) (F 10) (Int32.toNatClampNeg 14) (Int32.toNatClampNeg 15) (Int32.toNatClampNeg 0))) 11 (va_cpy (F 11) (F 11) (Int32.toNatClampNeg 14) (Int32.toNatClampNeg 15) (Int32.toNatClampNeg 0))) 1) H := hP
  have hD : va_D A (y_tree K B h u (va_up (va_up (va_up (F) 9 (va_cpy (F 9) (F 9) (Int32.toNatClampNeg 14) (Int32.toNatClampNeg 15) (Int32.toNatClampNeg 0))) 10 (va_cpy (F 10) (F 10) (Int32.toNatClampNeg 14) (Int32.toNatClampNeg 15) (Int32.toNatClampNeg 0))) 11 (va_cpy (F 11) (F 11) (Int32.toNatClampNeg 14) (Int32.toNatClampNeg 15) (Int32.toNatClampNeg 0))) 1) := hD
  refine lv_aload_n hx hb dX4_openSlot_96 rfl (lv_at hl 2 rfl) ?_
  refine va_get hx hb hts in_4 hown hK hP 0 rfl (ci := 4) rfl 9 (by decide) (hts _ yw_8) (fun _ h => h) rfl dX4_openSlot_97 ?_
  refine lv_iload hx hb dX4_openSlot_100 (lv_at hl 0 rfl) ?_
  refine lv_iload_n hx hb dX4_openSlot_102 rfl (lv_at hl 5 rfl) ?_
  refine va_iast hx hb hK hP hD hS 9 0 rfl rfl (y_in (k := 14) (by decide) (by decide) (by omega)) dX4_openSlot_103 (fun H locs hP hD hS => ?_)
  have hP : va_P D vwCl (y_tree K B h u (va_up (va_up (va_up (F) 9 (upd (va_cpy (F 9) (F 9) (Int32.toNatClampNeg 14) (Int32.toNatClampNeg 15) (Int32.toNatClampNeg 0)) (Int32.toNatClampNeg 14) 4000)) 10 (va_cpy (F 10) (F 10) (Int32.toNatClampNeg 14) (Int32.toNatClampNeg 15) (Int32.toNatClampNeg 0))) 11 (va_cpy (F 11) (F 11) (Int32.toNatClampNeg 14) (Int32.toNatClampNeg 15) (Int32.toNatClampNeg 0))) 1) H := hP
  have hD : va_D A (y_tree K B h u (va_up (va_up (va_up (F) 9 (upd (va_cpy (F 9) (F 9) (Int32.toNatClampNeg 14) (Int32.toNatClampNeg 15) (Int32.toNatClampNeg 0)) (Int32.toNatClampNeg 14) 4000)) 10 (va_cpy (F 10) (F 10) (Int32.toNatClampNeg 14) (Int32.toNatClampNeg 15) (Int32.toNatClampNeg 0))) 11 (va_cpy (F 11) (F 11) (Int32.toNatClampNeg 14) (Int32.toNatClampNeg 15) (Int32.toNatClampNeg 0))) 1) := hD
  refine lv_aload_n hx hb dX4_openSlot_104 rfl (lv_at hl 2 rfl) ?_
  refine va_get hx hb hts in_4 hown hK hP 0 rfl (ci := 4) rfl 10 (by decide) (hts _ yw_13) (fun _ h => h) rfl dX4_openSlot_105 ?_
  refine lv_iload hx hb dX4_openSlot_108 (lv_at hl 0 rfl) ?_
  refine lv_iload hx hb dX4_openSlot_110 (lv_at hl 6 rfl) ?_
  refine va_iast hx hb hK hP hD hS 10 0 rfl rfl (y_in (k := 14) (by decide) (by decide) (by omega)) dX4_openSlot_112 (fun H locs hP hD hS => ?_)
  have hP : va_P D vwCl (y_tree K B h u (va_up (va_up (va_up (F) 9 (upd (va_cpy (F 9) (F 9) (Int32.toNatClampNeg 14) (Int32.toNatClampNeg 15) (Int32.toNatClampNeg 0)) (Int32.toNatClampNeg 14) 4000)) 10 (upd (va_cpy (F 10) (F 10) (Int32.toNatClampNeg 14) (Int32.toNatClampNeg 15) (Int32.toNatClampNeg 0)) (Int32.toNatClampNeg 14) 6)) 11 (va_cpy (F 11) (F 11) (Int32.toNatClampNeg 14) (Int32.toNatClampNeg 15) (Int32.toNatClampNeg 0))) 1) H := hP
  have hD : va_D A (y_tree K B h u (va_up (va_up (va_up (F) 9 (upd (va_cpy (F 9) (F 9) (Int32.toNatClampNeg 14) (Int32.toNatClampNeg 15) (Int32.toNatClampNeg 0)) (Int32.toNatClampNeg 14) 4000)) 10 (upd (va_cpy (F 10) (F 10) (Int32.toNatClampNeg 14) (Int32.toNatClampNeg 15) (Int32.toNatClampNeg 0)) (Int32.toNatClampNeg 14) 6)) 11 (va_cpy (F 11) (F 11) (Int32.toNatClampNeg 14) (Int32.toNatClampNeg 15) (Int32.toNatClampNeg 0))) 1) := hD
  refine lv_aload_n hx hb dX4_openSlot_113 rfl (lv_at hl 2 rfl) ?_
  refine va_get hx hb hts in_4 hown hK hP 0 rfl (ci := 4) rfl 11 (by decide) (hts _ yw_14) (fun _ h => h) rfl dX4_openSlot_114 ?_
  refine lv_iload hx hb dX4_openSlot_117 (lv_at hl 0 rfl) ?_
  refine lv_iload hx hb dX4_openSlot_119 (lv_at hl 7 rfl) ?_
  refine va_iast hx hb hK hP hD hS 11 0 rfl rfl (y_in (k := 14) (by decide) (by decide) (by omega)) dX4_openSlot_121 (fun H locs hP hD hS => ?_)
  have hP : va_P D vwCl (y_tree K B h u (va_up (va_up (va_up (F) 9 (upd (va_cpy (F 9) (F 9) (Int32.toNatClampNeg 14) (Int32.toNatClampNeg 15) (Int32.toNatClampNeg 0)) (Int32.toNatClampNeg 14) 4000)) 10 (upd (va_cpy (F 10) (F 10) (Int32.toNatClampNeg 14) (Int32.toNatClampNeg 15) (Int32.toNatClampNeg 0)) (Int32.toNatClampNeg 14) 6)) 11 (upd (va_cpy (F 11) (F 11) (Int32.toNatClampNeg 14) (Int32.toNatClampNeg 15) (Int32.toNatClampNeg 0)) (Int32.toNatClampNeg 14) (-1))) 1) H := hP
  have hD : va_D A (y_tree K B h u (va_up (va_up (va_up (F) 9 (upd (va_cpy (F 9) (F 9) (Int32.toNatClampNeg 14) (Int32.toNatClampNeg 15) (Int32.toNatClampNeg 0)) (Int32.toNatClampNeg 14) 4000)) 10 (upd (va_cpy (F 10) (F 10) (Int32.toNatClampNeg 14) (Int32.toNatClampNeg 15) (Int32.toNatClampNeg 0)) (Int32.toNatClampNeg 14) 6)) 11 (upd (va_cpy (F 11) (F 11) (Int32.toNatClampNeg 14) (Int32.toNatClampNeg 15) (Int32.toNatClampNeg 0)) (Int32.toNatClampNeg 14) (-1))) 1) := hD
  refine lv_aload_n hx hb dX4_openSlot_122 rfl (lv_at hl 2 rfl) ?_
  refine va_get hx hb hts in_4 hown hK hP 0 rfl (ci := 4) rfl 3 (by decide) (hts _ yw_3) (fun _ h => h) rfl dX4_openSlot_123 ?_
  refine lv_iload_n hx hb dX4_openSlot_126 rfl (lv_at hl 3 rfl) ?_
  refine lv_dup2_11 hx hb dX4_openSlot_127 rfl rfl ?_
  refine va_iald hx hb hK hP 3 0 rfl rfl (y_in (k := 1) (by decide) (by decide) (by omega)) dX4_openSlot_128 ?_
  refine y_topi (v := 0) (hF3) ?_
  refine lv_iconst (v := 1) hx hb dX4_openSlot_129 (by decide) ?_
  refine lv_iadd hx hb dX4_openSlot_130 ?_
  refine y_topi (v := 1) (by decide) ?_
  refine va_iast hx hb hK hP hD hS 3 0 rfl rfl (y_in (k := 1) (by decide) (by decide) (by omega)) dX4_openSlot_131 (fun H locs hP hD hS => ?_)
  have hP : va_P D vwCl (y_tree K B h u (va_up (va_up (va_up (va_up (F) 9 (upd (va_cpy (F 9) (F 9) (Int32.toNatClampNeg 14) (Int32.toNatClampNeg 15) (Int32.toNatClampNeg 0)) (Int32.toNatClampNeg 14) 4000)) 10 (upd (va_cpy (F 10) (F 10) (Int32.toNatClampNeg 14) (Int32.toNatClampNeg 15) (Int32.toNatClampNeg 0)) (Int32.toNatClampNeg 14) 6)) 11 (upd (va_cpy (F 11) (F 11) (Int32.toNatClampNeg 14) (Int32.toNatClampNeg 15) (Int32.toNatClampNeg 0)) (Int32.toNatClampNeg 14) (-1))) 3 (upd (F 3) (Int32.toNatClampNeg 1) 1)) 1) H := hP
  have hD : va_D A (y_tree K B h u (va_up (va_up (va_up (va_up (F) 9 (upd (va_cpy (F 9) (F 9) (Int32.toNatClampNeg 14) (Int32.toNatClampNeg 15) (Int32.toNatClampNeg 0)) (Int32.toNatClampNeg 14) 4000)) 10 (upd (va_cpy (F 10) (F 10) (Int32.toNatClampNeg 14) (Int32.toNatClampNeg 15) (Int32.toNatClampNeg 0)) (Int32.toNatClampNeg 14) 6)) 11 (upd (va_cpy (F 11) (F 11) (Int32.toNatClampNeg 14) (Int32.toNatClampNeg 15) (Int32.toNatClampNeg 0)) (Int32.toNatClampNeg 14) (-1))) 3 (upd (F 3) (Int32.toNatClampNeg 1) 1)) 1) := hD
  refine lv_aload_n hx hb dX4_openSlot_132 rfl (lv_at hl 2 rfl) ?_
  refine va_get hx hb hts in_4 hown hK hP 0 rfl (ci := 4) rfl 4 (by decide) (hts _ yw_4) (fun _ h => h) rfl dX4_openSlot_133 ?_
  refine lv_iload_n hx hb dX4_openSlot_136 rfl (lv_at hl 3 rfl) ?_
  refine lv_dup2_11 hx hb dX4_openSlot_137 rfl rfl ?_
  refine va_iald hx hb hK hP 4 0 rfl rfl (y_in (k := 1) (by decide) (by decide) (by omega)) dX4_openSlot_138 ?_
  refine y_topi (v := 0) (hF4) ?_
  refine lv_bipush (v := 8) hx hb dX4_openSlot_139 (by decide) ?_
  refine lv_iload hx hb dX4_openSlot_141 (lv_at hl 6 rfl) ?_
  refine lv_iadd hx hb dX4_openSlot_143 ?_
  refine y_topi (v := 14) (by decide) ?_
  refine lv_iadd hx hb dX4_openSlot_144 ?_
  refine y_topi (v := 14) (by decide) ?_
  refine va_iast hx hb hK hP hD hS 4 0 rfl rfl (y_in (k := 1) (by decide) (by decide) (by omega)) dX4_openSlot_145 (fun H locs hP hD hS => ?_)
  have hP : va_P D vwCl (y_tree K B h u (va_up (va_up (va_up (va_up (va_up (F) 9 (upd (va_cpy (F 9) (F 9) (Int32.toNatClampNeg 14) (Int32.toNatClampNeg 15) (Int32.toNatClampNeg 0)) (Int32.toNatClampNeg 14) 4000)) 10 (upd (va_cpy (F 10) (F 10) (Int32.toNatClampNeg 14) (Int32.toNatClampNeg 15) (Int32.toNatClampNeg 0)) (Int32.toNatClampNeg 14) 6)) 11 (upd (va_cpy (F 11) (F 11) (Int32.toNatClampNeg 14) (Int32.toNatClampNeg 15) (Int32.toNatClampNeg 0)) (Int32.toNatClampNeg 14) (-1))) 3 (upd (F 3) (Int32.toNatClampNeg 1) 1)) 4 (upd (F 4) (Int32.toNatClampNeg 1) 14)) 1) H := hP
  have hD : va_D A (y_tree K B h u (va_up (va_up (va_up (va_up (va_up (F) 9 (upd (va_cpy (F 9) (F 9) (Int32.toNatClampNeg 14) (Int32.toNatClampNeg 15) (Int32.toNatClampNeg 0)) (Int32.toNatClampNeg 14) 4000)) 10 (upd (va_cpy (F 10) (F 10) (Int32.toNatClampNeg 14) (Int32.toNatClampNeg 15) (Int32.toNatClampNeg 0)) (Int32.toNatClampNeg 14) 6)) 11 (upd (va_cpy (F 11) (F 11) (Int32.toNatClampNeg 14) (Int32.toNatClampNeg 15) (Int32.toNatClampNeg 0)) (Int32.toNatClampNeg 14) (-1))) 3 (upd (F 3) (Int32.toNatClampNeg 1) 1)) 4 (upd (F 4) (Int32.toNatClampNeg 1) 14)) 1) := hD
  exact W.vret hx hb hr (fun t ht _ => ⟨⟨rfl, u, by rw [ht]; exact hP, hD⟩, hS.F ht⟩) hS.2.2 dX4_openSlot_146
set_option maxRecDepth 100000 in
set_option maxHeartbeats 4000000 in
theorem n_X5_keyOf {l : Launch} {D : va_G} {K : Nat → ClassId} : y_Met l I_X5_keyOf { frames := 0, locals := 0, cells := 0, slots := 0 } D K [.int 1, .int 0, .int 0] [] (some 4000) (fun _ => []) := by
  refine y_enter (by decide) (Nat.le_of_ble_eq_true rfl) ?_
  intro p e s m args below meth c ls A C hl hP hD hS hA
  obtain ⟨hx, hb, hr, hml, hown, hts, hlocks, hK, hnest, hin⟩ := id C
  have hb : c.code = cX5_keyOf := hb
  have hown : s.vm.findClass RX5 = some m.cls := hown
  have hl : lv_has ls 3 [(0, .int 1), (1, .int 0), (2, .int 0)] := hl
  refine lv_iload_n hx hb dX5_keyOf_0 rfl (lv_at hl 0 rfl) ?_
  refine lv_iconst (v := 4) hx hb dX5_keyOf_1 (by decide) ?_
  refine lv_imul hx hb dX5_keyOf_2 ?_
  refine y_topi (v := 4) (by decide) ?_
  refine lv_iload_n hx hb dX5_keyOf_3 rfl (lv_at hl 1 rfl) ?_
  refine lv_iadd hx hb dX5_keyOf_4 ?_
  refine y_topi (v := 4) (by decide) ?_
  refine lv_sipush (v := 1000) hx hb dX5_keyOf_5 (by decide) ?_
  refine lv_imul hx hb dX5_keyOf_8 ?_
  refine y_topi (v := 4000) (by decide) ?_
  refine lv_iload_n hx hb dX5_keyOf_9 rfl (lv_at hl 2 rfl) ?_
  refine lv_iadd hx hb dX5_keyOf_10 ?_
  refine y_topi (v := 4000) (by decide) ?_
  exact W.iret hx hb hr (fun t ht _ => ⟨⟨rfl, fun _ => 0, by rw [ht]; exact hP, hD⟩, hS.F ht⟩) hS.2.2 dX5_keyOf_11
def I_X4_init : z_I := (yX4_init, cX4_init, 2, none)
theorem oi_X4_init : y_okI I_X4_init 1 := ⟨⟨z_Gin (List.mem_of_getElem? (i := 132) (by decide +kernel)) rfl, z_Gin (List.mem_of_getElem? (i := 92) (by decide +kernel)) rfl, z_Gin (List.mem_of_getElem? (i := 133) (by decide +kernel)) rfl⟩, rfl, rfl, by decide, by decide, by decide +kernel⟩
def y_F1 : Nat → Nat → Int32 := va_up (va_up (va_up (va_up (va_up (va_up (va_up ((va_up (fun _ _ => 0) 1 (upd (fun _ => 0) (Int32.toNatClampNeg 0) 1))) 1 (upd ((va_up (fun _ _ => 0) 1 (upd (fun _ => 0) (Int32.toNatClampNeg 0) 1)) 1) (Int32.toNatClampNeg 1) 2)) 2 (upd ((va_up (fun _ _ => 0) 1 (upd (fun _ => 0) (Int32.toNatClampNeg 0) 1)) 2) (Int32.toNatClampNeg 1) 0)) 3 (upd ((va_up (fun _ _ => 0) 1 (upd (fun _ => 0) (Int32.toNatClampNeg 0) 1)) 3) (Int32.toNatClampNeg 1) 0)) 4 (upd ((va_up (fun _ _ => 0) 1 (upd (fun _ => 0) (Int32.toNatClampNeg 0) 1)) 4) (Int32.toNatClampNeg 1) 0)) 5 (upd ((va_up (fun _ _ => 0) 1 (upd (fun _ => 0) (Int32.toNatClampNeg 0) 1)) 5) (Int32.toNatClampNeg 1) (-1))) 6 (upd ((va_up (fun _ _ => 0) 1 (upd (fun _ => 0) (Int32.toNatClampNeg 0) 1)) 6) (Int32.toNatClampNeg 1) (-1))) 7 (upd ((va_up (fun _ _ => 0) 1 (upd (fun _ => 0) (Int32.toNatClampNeg 0) 1)) 7) (Int32.toNatClampNeg 1) (-1))
def y_F2 : Nat → Nat → Int32 := va_up (va_up (va_up (va_up (va_up (y_F1) 9 (upd (va_cpy (y_F1 9) (y_F1 9) (Int32.toNatClampNeg 14) (Int32.toNatClampNeg 15) (Int32.toNatClampNeg 0)) (Int32.toNatClampNeg 14) 4000)) 10 (upd (va_cpy (y_F1 10) (y_F1 10) (Int32.toNatClampNeg 14) (Int32.toNatClampNeg 15) (Int32.toNatClampNeg 0)) (Int32.toNatClampNeg 14) 6)) 11 (upd (va_cpy (y_F1 11) (y_F1 11) (Int32.toNatClampNeg 14) (Int32.toNatClampNeg 15) (Int32.toNatClampNeg 0)) (Int32.toNatClampNeg 14) (-1))) 3 (upd (y_F1 3) (Int32.toNatClampNeg 1) 1)) 4 (upd (y_F1 4) (Int32.toNatClampNeg 1) 14)
set_option maxRecDepth 100000 in
set_option maxHeartbeats 4000000 in
theorem n_X4_init {l : Launch} {D : va_G} {K : Nat → ClassId} {B h : Nat} (hB : 16 ≤ B ∧ B ≤ 96) : y_Met l I_X4_init { frames := 2, locals := 150, cells := 11, slots := 5280 } D K [.ref h, .int (nI B)] ([(h, .inr (4, [.int 0, .null, .null, .null, .null, .null, .null, .null, .null, .null, .null, .null, .int 0]))]) none (fun u => y_tree K B h u y_F2 1) := by
  refine y_enter (by decide) (Nat.le_of_ble_eq_true rfl) ?_
  intro p e s m args below meth c ls A C hl hP hD hS hA
  obtain ⟨hx, hb, hr, hml, hown, hts, hlocks, hK, hnest, hin⟩ := id C
  have hb : c.code = cX4_init := hb
  have hown : s.vm.findClass RX4 = some m.cls := hown
  have hl : lv_has ls 2 [(0, .ref h), (1, .int (nI B))] := hl
  refine lv_aload_n hx hb dX4_init_0 rfl (lv_at hl 0 rfl) ?_
  refine W.objInit hx hb hown (hts _ yw_15) (hts _ yw_16) (hts _ yw_17) rfl (hl.1.trans hml.symm) rfl dX4_init_1 (Nat.le_of_ble_eq_true rfl) (Nat.le_of_ble_eq_true rfl) ?_
  refine W.eq (g2 := F0 m 4 ls []) rfl ?_
  refine lv_aload_n hx hb dX4_init_4 rfl (lv_at hl 0 rfl) ?_
  refine lv_iload_n hx hb dX4_init_5 rfl (lv_at hl 1 rfl) ?_
  refine va_putF hx hb hts in_4 tyX4 tyX4_ok nmX4 hown hK hP hD hS 0 rfl (ci := 4) rfl 0 (by decide) (hts _ yw_0) (fun _ h => h) rfl hin rfl (ty := tyX4 0) (tyX4_ok 0 (by decide)) rfl rfl (Nat.le_of_ble_eq_true rfl) dX4_init_6 (fun H locs hP hD hS => ?_)
  have hP : va_P D vwCl ([(h, .inr (4, [.int (nI B), .null, .null, .null, .null, .null, .null, .null, .null, .null, .null, .null, .int 0]))]) H := hP
  have hD : va_D A ([(h, .inr (4, [.int (nI B), .null, .null, .null, .null, .null, .null, .null, .null, .null, .null, .null, .int 0]))]) := hD
  refine lv_aload_n hx hb dX4_init_9 rfl (lv_at hl 0 rfl) ?_
  refine lv_iload_n hx hb dX4_init_10 rfl (lv_at hl 1 rfl) ?_
  refine y_newi (t := 0) (N := 1 * B + 0) (ty := .int) C rfl (Or.inl ⟨rfl, rfl⟩) yw_18 hP hD hS hA (y_n1 hB.2) (y_l1 hB.2) (by omega) (Nat.le_of_ble_eq_true rfl) (by show (_ : Nat) ≤ 5280; omega) dX4_init_11 (fun q1 H hP hD hS => ?_)
  have hP : va_P D vwCl ([(h, .inr (4, [.int (nI B), .null, .null, .null, .null, .null, .null, .null, .null, .null, .null, .null, .int 0])), (q1, .inl (K 0, 1 * B + 0, .inl (fun _ => 0)))]) H := hP
  have hD : va_D A ([(h, .inr (4, [.int (nI B), .null, .null, .null, .null, .null, .null, .null, .null, .null, .null, .null, .int 0])), (q1, .inl (K 0, 1 * B + 0, .inl (fun _ => 0)))]) := hD
  refine va_putF hx hb hts in_4 tyX4 tyX4_ok nmX4 hown hK hP hD hS 0 rfl (ci := 4) rfl 1 (by decide) (hts _ yw_1) (fun _ h => h) rfl hin rfl (ty := tyX4 1) (tyX4_ok 1 (by decide)) rfl rfl (Nat.le_of_ble_eq_true rfl) dX4_init_13 (fun H locs hP hD hS => ?_)
  have hP : va_P D vwCl ([(h, .inr (4, [.int (nI B), .ref q1, .null, .null, .null, .null, .null, .null, .null, .null, .null, .null, .int 0])), (q1, .inl (K 0, 1 * B + 0, .inl (fun _ => 0)))]) H := hP
  have hD : va_D A ([(h, .inr (4, [.int (nI B), .ref q1, .null, .null, .null, .null, .null, .null, .null, .null, .null, .null, .int 0])), (q1, .inl (K 0, 1 * B + 0, .inl (fun _ => 0)))]) := hD
  refine lv_aload_n hx hb dX4_init_16 rfl (lv_at hl 0 rfl) ?_
  refine lv_iload_n hx hb dX4_init_17 rfl (lv_at hl 1 rfl) ?_
  refine y_newi (t := 0) (N := 1 * B + 0) (ty := .int) C rfl (Or.inl ⟨rfl, rfl⟩) yw_18 hP hD hS hA (y_n1 hB.2) (y_l1 hB.2) (by omega) (Nat.le_of_ble_eq_true rfl) (by show (_ : Nat) ≤ 5280; omega) dX4_init_18 (fun q2 H hP hD hS => ?_)
  have hP : va_P D vwCl ([(h, .inr (4, [.int (nI B), .ref q1, .null, .null, .null, .null, .null, .null, .null, .null, .null, .null, .int 0])), (q1, .inl (K 0, 1 * B + 0, .inl (fun _ => 0))), (q2, .inl (K 0, 1 * B + 0, .inl (fun _ => 0)))]) H := hP
  have hD : va_D A ([(h, .inr (4, [.int (nI B), .ref q1, .null, .null, .null, .null, .null, .null, .null, .null, .null, .null, .int 0])), (q1, .inl (K 0, 1 * B + 0, .inl (fun _ => 0))), (q2, .inl (K 0, 1 * B + 0, .inl (fun _ => 0)))]) := hD
  refine va_putF hx hb hts in_4 tyX4 tyX4_ok nmX4 hown hK hP hD hS 0 rfl (ci := 4) rfl 2 (by decide) (hts _ yw_2) (fun _ h => h) rfl hin rfl (ty := tyX4 2) (tyX4_ok 2 (by decide)) rfl rfl (Nat.le_of_ble_eq_true rfl) dX4_init_20 (fun H locs hP hD hS => ?_)
  have hP : va_P D vwCl ([(h, .inr (4, [.int (nI B), .ref q1, .ref q2, .null, .null, .null, .null, .null, .null, .null, .null, .null, .int 0])), (q1, .inl (K 0, 1 * B + 0, .inl (fun _ => 0))), (q2, .inl (K 0, 1 * B + 0, .inl (fun _ => 0)))]) H := hP
  have hD : va_D A ([(h, .inr (4, [.int (nI B), .ref q1, .ref q2, .null, .null, .null, .null, .null, .null, .null, .null, .null, .int 0])), (q1, .inl (K 0, 1 * B + 0, .inl (fun _ => 0))), (q2, .inl (K 0, 1 * B + 0, .inl (fun _ => 0)))]) := hD
  refine lv_aload_n hx hb dX4_init_23 rfl (lv_at hl 0 rfl) ?_
  refine lv_iload_n hx hb dX4_init_24 rfl (lv_at hl 1 rfl) ?_
  refine y_newi (t := 0) (N := 1 * B + 0) (ty := .int) C rfl (Or.inl ⟨rfl, rfl⟩) yw_18 hP hD hS hA (y_n1 hB.2) (y_l1 hB.2) (by omega) (Nat.le_of_ble_eq_true rfl) (by show (_ : Nat) ≤ 5280; omega) dX4_init_25 (fun q3 H hP hD hS => ?_)
  have hP : va_P D vwCl ([(h, .inr (4, [.int (nI B), .ref q1, .ref q2, .null, .null, .null, .null, .null, .null, .null, .null, .null, .int 0])), (q1, .inl (K 0, 1 * B + 0, .inl (fun _ => 0))), (q2, .inl (K 0, 1 * B + 0, .inl (fun _ => 0))), (q3, .inl (K 0, 1 * B + 0, .inl (fun _ => 0)))]) H := hP
  have hD : va_D A ([(h, .inr (4, [.int (nI B), .ref q1, .ref q2, .null, .null, .null, .null, .null, .null, .null, .null, .null, .int 0])), (q1, .inl (K 0, 1 * B + 0, .inl (fun _ => 0))), (q2, .inl (K 0, 1 * B + 0, .inl (fun _ => 0))), (q3, .inl (K 0, 1 * B + 0, .inl (fun _ => 0)))]) := hD
  refine va_putF hx hb hts in_4 tyX4 tyX4_ok nmX4 hown hK hP hD hS 0 rfl (ci := 4) rfl 3 (by decide) (hts _ yw_3) (fun _ h => h) rfl hin rfl (ty := tyX4 3) (tyX4_ok 3 (by decide)) rfl rfl (Nat.le_of_ble_eq_true rfl) dX4_init_27 (fun H locs hP hD hS => ?_)
  have hP : va_P D vwCl ([(h, .inr (4, [.int (nI B), .ref q1, .ref q2, .ref q3, .null, .null, .null, .null, .null, .null, .null, .null, .int 0])), (q1, .inl (K 0, 1 * B + 0, .inl (fun _ => 0))), (q2, .inl (K 0, 1 * B + 0, .inl (fun _ => 0))), (q3, .inl (K 0, 1 * B + 0, .inl (fun _ => 0)))]) H := hP
  have hD : va_D A ([(h, .inr (4, [.int (nI B), .ref q1, .ref q2, .ref q3, .null, .null, .null, .null, .null, .null, .null, .null, .int 0])), (q1, .inl (K 0, 1 * B + 0, .inl (fun _ => 0))), (q2, .inl (K 0, 1 * B + 0, .inl (fun _ => 0))), (q3, .inl (K 0, 1 * B + 0, .inl (fun _ => 0)))]) := hD
  refine lv_aload_n hx hb dX4_init_30 rfl (lv_at hl 0 rfl) ?_
  refine lv_iload_n hx hb dX4_init_31 rfl (lv_at hl 1 rfl) ?_
  refine y_newi (t := 0) (N := 1 * B + 0) (ty := .int) C rfl (Or.inl ⟨rfl, rfl⟩) yw_18 hP hD hS hA (y_n1 hB.2) (y_l1 hB.2) (by omega) (Nat.le_of_ble_eq_true rfl) (by show (_ : Nat) ≤ 5280; omega) dX4_init_32 (fun q4 H hP hD hS => ?_)
  have hP : va_P D vwCl ([(h, .inr (4, [.int (nI B), .ref q1, .ref q2, .ref q3, .null, .null, .null, .null, .null, .null, .null, .null, .int 0])), (q1, .inl (K 0, 1 * B + 0, .inl (fun _ => 0))), (q2, .inl (K 0, 1 * B + 0, .inl (fun _ => 0))), (q3, .inl (K 0, 1 * B + 0, .inl (fun _ => 0))), (q4, .inl (K 0, 1 * B + 0, .inl (fun _ => 0)))]) H := hP
  have hD : va_D A ([(h, .inr (4, [.int (nI B), .ref q1, .ref q2, .ref q3, .null, .null, .null, .null, .null, .null, .null, .null, .int 0])), (q1, .inl (K 0, 1 * B + 0, .inl (fun _ => 0))), (q2, .inl (K 0, 1 * B + 0, .inl (fun _ => 0))), (q3, .inl (K 0, 1 * B + 0, .inl (fun _ => 0))), (q4, .inl (K 0, 1 * B + 0, .inl (fun _ => 0)))]) := hD
  refine va_putF hx hb hts in_4 tyX4 tyX4_ok nmX4 hown hK hP hD hS 0 rfl (ci := 4) rfl 4 (by decide) (hts _ yw_4) (fun _ h => h) rfl hin rfl (ty := tyX4 4) (tyX4_ok 4 (by decide)) rfl rfl (Nat.le_of_ble_eq_true rfl) dX4_init_34 (fun H locs hP hD hS => ?_)
  have hP : va_P D vwCl ([(h, .inr (4, [.int (nI B), .ref q1, .ref q2, .ref q3, .ref q4, .null, .null, .null, .null, .null, .null, .null, .int 0])), (q1, .inl (K 0, 1 * B + 0, .inl (fun _ => 0))), (q2, .inl (K 0, 1 * B + 0, .inl (fun _ => 0))), (q3, .inl (K 0, 1 * B + 0, .inl (fun _ => 0))), (q4, .inl (K 0, 1 * B + 0, .inl (fun _ => 0)))]) H := hP
  have hD : va_D A ([(h, .inr (4, [.int (nI B), .ref q1, .ref q2, .ref q3, .ref q4, .null, .null, .null, .null, .null, .null, .null, .int 0])), (q1, .inl (K 0, 1 * B + 0, .inl (fun _ => 0))), (q2, .inl (K 0, 1 * B + 0, .inl (fun _ => 0))), (q3, .inl (K 0, 1 * B + 0, .inl (fun _ => 0))), (q4, .inl (K 0, 1 * B + 0, .inl (fun _ => 0)))]) := hD
  refine lv_aload_n hx hb dX4_init_37 rfl (lv_at hl 0 rfl) ?_
  refine lv_iload_n hx hb dX4_init_38 rfl (lv_at hl 1 rfl) ?_
  refine y_newi (t := 0) (N := 1 * B + 0) (ty := .int) C rfl (Or.inl ⟨rfl, rfl⟩) yw_18 hP hD hS hA (y_n1 hB.2) (y_l1 hB.2) (by omega) (Nat.le_of_ble_eq_true rfl) (by show (_ : Nat) ≤ 5280; omega) dX4_init_39 (fun q5 H hP hD hS => ?_)
  have hP : va_P D vwCl ([(h, .inr (4, [.int (nI B), .ref q1, .ref q2, .ref q3, .ref q4, .null, .null, .null, .null, .null, .null, .null, .int 0])), (q1, .inl (K 0, 1 * B + 0, .inl (fun _ => 0))), (q2, .inl (K 0, 1 * B + 0, .inl (fun _ => 0))), (q3, .inl (K 0, 1 * B + 0, .inl (fun _ => 0))), (q4, .inl (K 0, 1 * B + 0, .inl (fun _ => 0))), (q5, .inl (K 0, 1 * B + 0, .inl (fun _ => 0)))]) H := hP
  have hD : va_D A ([(h, .inr (4, [.int (nI B), .ref q1, .ref q2, .ref q3, .ref q4, .null, .null, .null, .null, .null, .null, .null, .int 0])), (q1, .inl (K 0, 1 * B + 0, .inl (fun _ => 0))), (q2, .inl (K 0, 1 * B + 0, .inl (fun _ => 0))), (q3, .inl (K 0, 1 * B + 0, .inl (fun _ => 0))), (q4, .inl (K 0, 1 * B + 0, .inl (fun _ => 0))), (q5, .inl (K 0, 1 * B + 0, .inl (fun _ => 0)))]) := hD
  refine va_putF hx hb hts in_4 tyX4 tyX4_ok nmX4 hown hK hP hD hS 0 rfl (ci := 4) rfl 5 (by decide) (hts _ yw_5) (fun _ h => h) rfl hin rfl (ty := tyX4 5) (tyX4_ok 5 (by decide)) rfl rfl (Nat.le_of_ble_eq_true rfl) dX4_init_41 (fun H locs hP hD hS => ?_)
  have hP : va_P D vwCl ([(h, .inr (4, [.int (nI B), .ref q1, .ref q2, .ref q3, .ref q4, .ref q5, .null, .null, .null, .null, .null, .null, .int 0])), (q1, .inl (K 0, 1 * B + 0, .inl (fun _ => 0))), (q2, .inl (K 0, 1 * B + 0, .inl (fun _ => 0))), (q3, .inl (K 0, 1 * B + 0, .inl (fun _ => 0))), (q4, .inl (K 0, 1 * B + 0, .inl (fun _ => 0))), (q5, .inl (K 0, 1 * B + 0, .inl (fun _ => 0)))]) H := hP
  have hD : va_D A ([(h, .inr (4, [.int (nI B), .ref q1, .ref q2, .ref q3, .ref q4, .ref q5, .null, .null, .null, .null, .null, .null, .int 0])), (q1, .inl (K 0, 1 * B + 0, .inl (fun _ => 0))), (q2, .inl (K 0, 1 * B + 0, .inl (fun _ => 0))), (q3, .inl (K 0, 1 * B + 0, .inl (fun _ => 0))), (q4, .inl (K 0, 1 * B + 0, .inl (fun _ => 0))), (q5, .inl (K 0, 1 * B + 0, .inl (fun _ => 0)))]) := hD
  refine lv_aload_n hx hb dX4_init_44 rfl (lv_at hl 0 rfl) ?_
  refine lv_iload_n hx hb dX4_init_45 rfl (lv_at hl 1 rfl) ?_
  refine y_newi (t := 0) (N := 1 * B + 0) (ty := .int) C rfl (Or.inl ⟨rfl, rfl⟩) yw_18 hP hD hS hA (y_n1 hB.2) (y_l1 hB.2) (by omega) (Nat.le_of_ble_eq_true rfl) (by show (_ : Nat) ≤ 5280; omega) dX4_init_46 (fun q6 H hP hD hS => ?_)
  have hP : va_P D vwCl ([(h, .inr (4, [.int (nI B), .ref q1, .ref q2, .ref q3, .ref q4, .ref q5, .null, .null, .null, .null, .null, .null, .int 0])), (q1, .inl (K 0, 1 * B + 0, .inl (fun _ => 0))), (q2, .inl (K 0, 1 * B + 0, .inl (fun _ => 0))), (q3, .inl (K 0, 1 * B + 0, .inl (fun _ => 0))), (q4, .inl (K 0, 1 * B + 0, .inl (fun _ => 0))), (q5, .inl (K 0, 1 * B + 0, .inl (fun _ => 0))), (q6, .inl (K 0, 1 * B + 0, .inl (fun _ => 0)))]) H := hP
  have hD : va_D A ([(h, .inr (4, [.int (nI B), .ref q1, .ref q2, .ref q3, .ref q4, .ref q5, .null, .null, .null, .null, .null, .null, .int 0])), (q1, .inl (K 0, 1 * B + 0, .inl (fun _ => 0))), (q2, .inl (K 0, 1 * B + 0, .inl (fun _ => 0))), (q3, .inl (K 0, 1 * B + 0, .inl (fun _ => 0))), (q4, .inl (K 0, 1 * B + 0, .inl (fun _ => 0))), (q5, .inl (K 0, 1 * B + 0, .inl (fun _ => 0))), (q6, .inl (K 0, 1 * B + 0, .inl (fun _ => 0)))]) := hD
  refine va_putF hx hb hts in_4 tyX4 tyX4_ok nmX4 hown hK hP hD hS 0 rfl (ci := 4) rfl 6 (by decide) (hts _ yw_6) (fun _ h => h) rfl hin rfl (ty := tyX4 6) (tyX4_ok 6 (by decide)) rfl rfl (Nat.le_of_ble_eq_true rfl) dX4_init_48 (fun H locs hP hD hS => ?_)
  have hP : va_P D vwCl ([(h, .inr (4, [.int (nI B), .ref q1, .ref q2, .ref q3, .ref q4, .ref q5, .ref q6, .null, .null, .null, .null, .null, .int 0])), (q1, .inl (K 0, 1 * B + 0, .inl (fun _ => 0))), (q2, .inl (K 0, 1 * B + 0, .inl (fun _ => 0))), (q3, .inl (K 0, 1 * B + 0, .inl (fun _ => 0))), (q4, .inl (K 0, 1 * B + 0, .inl (fun _ => 0))), (q5, .inl (K 0, 1 * B + 0, .inl (fun _ => 0))), (q6, .inl (K 0, 1 * B + 0, .inl (fun _ => 0)))]) H := hP
  have hD : va_D A ([(h, .inr (4, [.int (nI B), .ref q1, .ref q2, .ref q3, .ref q4, .ref q5, .ref q6, .null, .null, .null, .null, .null, .int 0])), (q1, .inl (K 0, 1 * B + 0, .inl (fun _ => 0))), (q2, .inl (K 0, 1 * B + 0, .inl (fun _ => 0))), (q3, .inl (K 0, 1 * B + 0, .inl (fun _ => 0))), (q4, .inl (K 0, 1 * B + 0, .inl (fun _ => 0))), (q5, .inl (K 0, 1 * B + 0, .inl (fun _ => 0))), (q6, .inl (K 0, 1 * B + 0, .inl (fun _ => 0)))]) := hD
  refine lv_aload_n hx hb dX4_init_51 rfl (lv_at hl 0 rfl) ?_
  refine lv_iload_n hx hb dX4_init_52 rfl (lv_at hl 1 rfl) ?_
  refine y_newi (t := 0) (N := 1 * B + 0) (ty := .int) C rfl (Or.inl ⟨rfl, rfl⟩) yw_18 hP hD hS hA (y_n1 hB.2) (y_l1 hB.2) (by omega) (Nat.le_of_ble_eq_true rfl) (by show (_ : Nat) ≤ 5280; omega) dX4_init_53 (fun q7 H hP hD hS => ?_)
  have hP : va_P D vwCl ([(h, .inr (4, [.int (nI B), .ref q1, .ref q2, .ref q3, .ref q4, .ref q5, .ref q6, .null, .null, .null, .null, .null, .int 0])), (q1, .inl (K 0, 1 * B + 0, .inl (fun _ => 0))), (q2, .inl (K 0, 1 * B + 0, .inl (fun _ => 0))), (q3, .inl (K 0, 1 * B + 0, .inl (fun _ => 0))), (q4, .inl (K 0, 1 * B + 0, .inl (fun _ => 0))), (q5, .inl (K 0, 1 * B + 0, .inl (fun _ => 0))), (q6, .inl (K 0, 1 * B + 0, .inl (fun _ => 0))), (q7, .inl (K 0, 1 * B + 0, .inl (fun _ => 0)))]) H := hP
  have hD : va_D A ([(h, .inr (4, [.int (nI B), .ref q1, .ref q2, .ref q3, .ref q4, .ref q5, .ref q6, .null, .null, .null, .null, .null, .int 0])), (q1, .inl (K 0, 1 * B + 0, .inl (fun _ => 0))), (q2, .inl (K 0, 1 * B + 0, .inl (fun _ => 0))), (q3, .inl (K 0, 1 * B + 0, .inl (fun _ => 0))), (q4, .inl (K 0, 1 * B + 0, .inl (fun _ => 0))), (q5, .inl (K 0, 1 * B + 0, .inl (fun _ => 0))), (q6, .inl (K 0, 1 * B + 0, .inl (fun _ => 0))), (q7, .inl (K 0, 1 * B + 0, .inl (fun _ => 0)))]) := hD
  refine va_putF hx hb hts in_4 tyX4 tyX4_ok nmX4 hown hK hP hD hS 0 rfl (ci := 4) rfl 7 (by decide) (hts _ yw_7) (fun _ h => h) rfl hin rfl (ty := tyX4 7) (tyX4_ok 7 (by decide)) rfl rfl (Nat.le_of_ble_eq_true rfl) dX4_init_55 (fun H locs hP hD hS => ?_)
  have hP : va_P D vwCl ([(h, .inr (4, [.int (nI B), .ref q1, .ref q2, .ref q3, .ref q4, .ref q5, .ref q6, .ref q7, .null, .null, .null, .null, .int 0])), (q1, .inl (K 0, 1 * B + 0, .inl (fun _ => 0))), (q2, .inl (K 0, 1 * B + 0, .inl (fun _ => 0))), (q3, .inl (K 0, 1 * B + 0, .inl (fun _ => 0))), (q4, .inl (K 0, 1 * B + 0, .inl (fun _ => 0))), (q5, .inl (K 0, 1 * B + 0, .inl (fun _ => 0))), (q6, .inl (K 0, 1 * B + 0, .inl (fun _ => 0))), (q7, .inl (K 0, 1 * B + 0, .inl (fun _ => 0)))]) H := hP
  have hD : va_D A ([(h, .inr (4, [.int (nI B), .ref q1, .ref q2, .ref q3, .ref q4, .ref q5, .ref q6, .ref q7, .null, .null, .null, .null, .int 0])), (q1, .inl (K 0, 1 * B + 0, .inl (fun _ => 0))), (q2, .inl (K 0, 1 * B + 0, .inl (fun _ => 0))), (q3, .inl (K 0, 1 * B + 0, .inl (fun _ => 0))), (q4, .inl (K 0, 1 * B + 0, .inl (fun _ => 0))), (q5, .inl (K 0, 1 * B + 0, .inl (fun _ => 0))), (q6, .inl (K 0, 1 * B + 0, .inl (fun _ => 0))), (q7, .inl (K 0, 1 * B + 0, .inl (fun _ => 0)))]) := hD
  refine lv_aload_n hx hb dX4_init_58 rfl (lv_at hl 0 rfl) ?_
  refine lv_iload_n hx hb dX4_init_59 rfl (lv_at hl 1 rfl) ?_
  refine lv_bipush (v := 6) hx hb dX4_init_60 (by decide) ?_
  refine lv_imul hx hb dX4_init_62 ?_
  refine y_newi (t := 0) (N := 6 * B + 0) (ty := .int) C rfl (Or.inl ⟨rfl, rfl⟩) yw_18 hP hD hS hA (y_nk (k := 6) hB.2 (by decide) (by decide)) (y_lk (k := 6) hB.2 (by decide) (by decide)) (by omega) (Nat.le_of_ble_eq_true rfl) (by show (_ : Nat) ≤ 5280; omega) dX4_init_63 (fun q8 H hP hD hS => ?_)
  have hP : va_P D vwCl ([(h, .inr (4, [.int (nI B), .ref q1, .ref q2, .ref q3, .ref q4, .ref q5, .ref q6, .ref q7, .null, .null, .null, .null, .int 0])), (q1, .inl (K 0, 1 * B + 0, .inl (fun _ => 0))), (q2, .inl (K 0, 1 * B + 0, .inl (fun _ => 0))), (q3, .inl (K 0, 1 * B + 0, .inl (fun _ => 0))), (q4, .inl (K 0, 1 * B + 0, .inl (fun _ => 0))), (q5, .inl (K 0, 1 * B + 0, .inl (fun _ => 0))), (q6, .inl (K 0, 1 * B + 0, .inl (fun _ => 0))), (q7, .inl (K 0, 1 * B + 0, .inl (fun _ => 0))), (q8, .inl (K 0, 6 * B + 0, .inl (fun _ => 0)))]) H := hP
  have hD : va_D A ([(h, .inr (4, [.int (nI B), .ref q1, .ref q2, .ref q3, .ref q4, .ref q5, .ref q6, .ref q7, .null, .null, .null, .null, .int 0])), (q1, .inl (K 0, 1 * B + 0, .inl (fun _ => 0))), (q2, .inl (K 0, 1 * B + 0, .inl (fun _ => 0))), (q3, .inl (K 0, 1 * B + 0, .inl (fun _ => 0))), (q4, .inl (K 0, 1 * B + 0, .inl (fun _ => 0))), (q5, .inl (K 0, 1 * B + 0, .inl (fun _ => 0))), (q6, .inl (K 0, 1 * B + 0, .inl (fun _ => 0))), (q7, .inl (K 0, 1 * B + 0, .inl (fun _ => 0))), (q8, .inl (K 0, 6 * B + 0, .inl (fun _ => 0)))]) := hD
  refine va_putF hx hb hts in_4 tyX4 tyX4_ok nmX4 hown hK hP hD hS 0 rfl (ci := 4) rfl 8 (by decide) (hts _ yw_19) (fun _ h => h) rfl hin rfl (ty := tyX4 8) (tyX4_ok 8 (by decide)) rfl rfl (Nat.le_of_ble_eq_true rfl) dX4_init_65 (fun H locs hP hD hS => ?_)
  have hP : va_P D vwCl ([(h, .inr (4, [.int (nI B), .ref q1, .ref q2, .ref q3, .ref q4, .ref q5, .ref q6, .ref q7, .ref q8, .null, .null, .null, .int 0])), (q1, .inl (K 0, 1 * B + 0, .inl (fun _ => 0))), (q2, .inl (K 0, 1 * B + 0, .inl (fun _ => 0))), (q3, .inl (K 0, 1 * B + 0, .inl (fun _ => 0))), (q4, .inl (K 0, 1 * B + 0, .inl (fun _ => 0))), (q5, .inl (K 0, 1 * B + 0, .inl (fun _ => 0))), (q6, .inl (K 0, 1 * B + 0, .inl (fun _ => 0))), (q7, .inl (K 0, 1 * B + 0, .inl (fun _ => 0))), (q8, .inl (K 0, 6 * B + 0, .inl (fun _ => 0)))]) H := hP
  have hD : va_D A ([(h, .inr (4, [.int (nI B), .ref q1, .ref q2, .ref q3, .ref q4, .ref q5, .ref q6, .ref q7, .ref q8, .null, .null, .null, .int 0])), (q1, .inl (K 0, 1 * B + 0, .inl (fun _ => 0))), (q2, .inl (K 0, 1 * B + 0, .inl (fun _ => 0))), (q3, .inl (K 0, 1 * B + 0, .inl (fun _ => 0))), (q4, .inl (K 0, 1 * B + 0, .inl (fun _ => 0))), (q5, .inl (K 0, 1 * B + 0, .inl (fun _ => 0))), (q6, .inl (K 0, 1 * B + 0, .inl (fun _ => 0))), (q7, .inl (K 0, 1 * B + 0, .inl (fun _ => 0))), (q8, .inl (K 0, 6 * B + 0, .inl (fun _ => 0)))]) := hD
  refine lv_aload_n hx hb dX4_init_68 rfl (lv_at hl 0 rfl) ?_
  refine lv_iload_n hx hb dX4_init_69 rfl (lv_at hl 1 rfl) ?_
  refine lv_bipush (v := 14) hx hb dX4_init_70 (by decide) ?_
  refine lv_imul hx hb dX4_init_72 ?_
  refine y_newi (t := 0) (N := 14 * B + 0) (ty := .int) C rfl (Or.inl ⟨rfl, rfl⟩) yw_18 hP hD hS hA (y_nk (k := 14) hB.2 (by decide) (by decide)) (y_lk (k := 14) hB.2 (by decide) (by decide)) (by omega) (Nat.le_of_ble_eq_true rfl) (by show (_ : Nat) ≤ 5280; omega) dX4_init_73 (fun q9 H hP hD hS => ?_)
  have hP : va_P D vwCl ([(h, .inr (4, [.int (nI B), .ref q1, .ref q2, .ref q3, .ref q4, .ref q5, .ref q6, .ref q7, .ref q8, .null, .null, .null, .int 0])), (q1, .inl (K 0, 1 * B + 0, .inl (fun _ => 0))), (q2, .inl (K 0, 1 * B + 0, .inl (fun _ => 0))), (q3, .inl (K 0, 1 * B + 0, .inl (fun _ => 0))), (q4, .inl (K 0, 1 * B + 0, .inl (fun _ => 0))), (q5, .inl (K 0, 1 * B + 0, .inl (fun _ => 0))), (q6, .inl (K 0, 1 * B + 0, .inl (fun _ => 0))), (q7, .inl (K 0, 1 * B + 0, .inl (fun _ => 0))), (q8, .inl (K 0, 6 * B + 0, .inl (fun _ => 0))), (q9, .inl (K 0, 14 * B + 0, .inl (fun _ => 0)))]) H := hP
  have hD : va_D A ([(h, .inr (4, [.int (nI B), .ref q1, .ref q2, .ref q3, .ref q4, .ref q5, .ref q6, .ref q7, .ref q8, .null, .null, .null, .int 0])), (q1, .inl (K 0, 1 * B + 0, .inl (fun _ => 0))), (q2, .inl (K 0, 1 * B + 0, .inl (fun _ => 0))), (q3, .inl (K 0, 1 * B + 0, .inl (fun _ => 0))), (q4, .inl (K 0, 1 * B + 0, .inl (fun _ => 0))), (q5, .inl (K 0, 1 * B + 0, .inl (fun _ => 0))), (q6, .inl (K 0, 1 * B + 0, .inl (fun _ => 0))), (q7, .inl (K 0, 1 * B + 0, .inl (fun _ => 0))), (q8, .inl (K 0, 6 * B + 0, .inl (fun _ => 0))), (q9, .inl (K 0, 14 * B + 0, .inl (fun _ => 0)))]) := hD
  refine va_putF hx hb hts in_4 tyX4 tyX4_ok nmX4 hown hK hP hD hS 0 rfl (ci := 4) rfl 9 (by decide) (hts _ yw_8) (fun _ h => h) rfl hin rfl (ty := tyX4 9) (tyX4_ok 9 (by decide)) rfl rfl (Nat.le_of_ble_eq_true rfl) dX4_init_75 (fun H locs hP hD hS => ?_)
  have hP : va_P D vwCl ([(h, .inr (4, [.int (nI B), .ref q1, .ref q2, .ref q3, .ref q4, .ref q5, .ref q6, .ref q7, .ref q8, .ref q9, .null, .null, .int 0])), (q1, .inl (K 0, 1 * B + 0, .inl (fun _ => 0))), (q2, .inl (K 0, 1 * B + 0, .inl (fun _ => 0))), (q3, .inl (K 0, 1 * B + 0, .inl (fun _ => 0))), (q4, .inl (K 0, 1 * B + 0, .inl (fun _ => 0))), (q5, .inl (K 0, 1 * B + 0, .inl (fun _ => 0))), (q6, .inl (K 0, 1 * B + 0, .inl (fun _ => 0))), (q7, .inl (K 0, 1 * B + 0, .inl (fun _ => 0))), (q8, .inl (K 0, 6 * B + 0, .inl (fun _ => 0))), (q9, .inl (K 0, 14 * B + 0, .inl (fun _ => 0)))]) H := hP
  have hD : va_D A ([(h, .inr (4, [.int (nI B), .ref q1, .ref q2, .ref q3, .ref q4, .ref q5, .ref q6, .ref q7, .ref q8, .ref q9, .null, .null, .int 0])), (q1, .inl (K 0, 1 * B + 0, .inl (fun _ => 0))), (q2, .inl (K 0, 1 * B + 0, .inl (fun _ => 0))), (q3, .inl (K 0, 1 * B + 0, .inl (fun _ => 0))), (q4, .inl (K 0, 1 * B + 0, .inl (fun _ => 0))), (q5, .inl (K 0, 1 * B + 0, .inl (fun _ => 0))), (q6, .inl (K 0, 1 * B + 0, .inl (fun _ => 0))), (q7, .inl (K 0, 1 * B + 0, .inl (fun _ => 0))), (q8, .inl (K 0, 6 * B + 0, .inl (fun _ => 0))), (q9, .inl (K 0, 14 * B + 0, .inl (fun _ => 0)))]) := hD
  refine lv_aload_n hx hb dX4_init_78 rfl (lv_at hl 0 rfl) ?_
  refine lv_iload_n hx hb dX4_init_79 rfl (lv_at hl 1 rfl) ?_
  refine lv_bipush (v := 14) hx hb dX4_init_80 (by decide) ?_
  refine lv_imul hx hb dX4_init_82 ?_
  refine y_newi (t := 0) (N := 14 * B + 0) (ty := .int) C rfl (Or.inl ⟨rfl, rfl⟩) yw_18 hP hD hS hA (y_nk (k := 14) hB.2 (by decide) (by decide)) (y_lk (k := 14) hB.2 (by decide) (by decide)) (by omega) (Nat.le_of_ble_eq_true rfl) (by show (_ : Nat) ≤ 5280; omega) dX4_init_83 (fun q10 H hP hD hS => ?_)
  have hP : va_P D vwCl ([(h, .inr (4, [.int (nI B), .ref q1, .ref q2, .ref q3, .ref q4, .ref q5, .ref q6, .ref q7, .ref q8, .ref q9, .null, .null, .int 0])), (q1, .inl (K 0, 1 * B + 0, .inl (fun _ => 0))), (q2, .inl (K 0, 1 * B + 0, .inl (fun _ => 0))), (q3, .inl (K 0, 1 * B + 0, .inl (fun _ => 0))), (q4, .inl (K 0, 1 * B + 0, .inl (fun _ => 0))), (q5, .inl (K 0, 1 * B + 0, .inl (fun _ => 0))), (q6, .inl (K 0, 1 * B + 0, .inl (fun _ => 0))), (q7, .inl (K 0, 1 * B + 0, .inl (fun _ => 0))), (q8, .inl (K 0, 6 * B + 0, .inl (fun _ => 0))), (q9, .inl (K 0, 14 * B + 0, .inl (fun _ => 0))), (q10, .inl (K 0, 14 * B + 0, .inl (fun _ => 0)))]) H := hP
  have hD : va_D A ([(h, .inr (4, [.int (nI B), .ref q1, .ref q2, .ref q3, .ref q4, .ref q5, .ref q6, .ref q7, .ref q8, .ref q9, .null, .null, .int 0])), (q1, .inl (K 0, 1 * B + 0, .inl (fun _ => 0))), (q2, .inl (K 0, 1 * B + 0, .inl (fun _ => 0))), (q3, .inl (K 0, 1 * B + 0, .inl (fun _ => 0))), (q4, .inl (K 0, 1 * B + 0, .inl (fun _ => 0))), (q5, .inl (K 0, 1 * B + 0, .inl (fun _ => 0))), (q6, .inl (K 0, 1 * B + 0, .inl (fun _ => 0))), (q7, .inl (K 0, 1 * B + 0, .inl (fun _ => 0))), (q8, .inl (K 0, 6 * B + 0, .inl (fun _ => 0))), (q9, .inl (K 0, 14 * B + 0, .inl (fun _ => 0))), (q10, .inl (K 0, 14 * B + 0, .inl (fun _ => 0)))]) := hD
  refine va_putF hx hb hts in_4 tyX4 tyX4_ok nmX4 hown hK hP hD hS 0 rfl (ci := 4) rfl 10 (by decide) (hts _ yw_13) (fun _ h => h) rfl hin rfl (ty := tyX4 10) (tyX4_ok 10 (by decide)) rfl rfl (Nat.le_of_ble_eq_true rfl) dX4_init_85 (fun H locs hP hD hS => ?_)
  have hP : va_P D vwCl ([(h, .inr (4, [.int (nI B), .ref q1, .ref q2, .ref q3, .ref q4, .ref q5, .ref q6, .ref q7, .ref q8, .ref q9, .ref q10, .null, .int 0])), (q1, .inl (K 0, 1 * B + 0, .inl (fun _ => 0))), (q2, .inl (K 0, 1 * B + 0, .inl (fun _ => 0))), (q3, .inl (K 0, 1 * B + 0, .inl (fun _ => 0))), (q4, .inl (K 0, 1 * B + 0, .inl (fun _ => 0))), (q5, .inl (K 0, 1 * B + 0, .inl (fun _ => 0))), (q6, .inl (K 0, 1 * B + 0, .inl (fun _ => 0))), (q7, .inl (K 0, 1 * B + 0, .inl (fun _ => 0))), (q8, .inl (K 0, 6 * B + 0, .inl (fun _ => 0))), (q9, .inl (K 0, 14 * B + 0, .inl (fun _ => 0))), (q10, .inl (K 0, 14 * B + 0, .inl (fun _ => 0)))]) H := hP
  have hD : va_D A ([(h, .inr (4, [.int (nI B), .ref q1, .ref q2, .ref q3, .ref q4, .ref q5, .ref q6, .ref q7, .ref q8, .ref q9, .ref q10, .null, .int 0])), (q1, .inl (K 0, 1 * B + 0, .inl (fun _ => 0))), (q2, .inl (K 0, 1 * B + 0, .inl (fun _ => 0))), (q3, .inl (K 0, 1 * B + 0, .inl (fun _ => 0))), (q4, .inl (K 0, 1 * B + 0, .inl (fun _ => 0))), (q5, .inl (K 0, 1 * B + 0, .inl (fun _ => 0))), (q6, .inl (K 0, 1 * B + 0, .inl (fun _ => 0))), (q7, .inl (K 0, 1 * B + 0, .inl (fun _ => 0))), (q8, .inl (K 0, 6 * B + 0, .inl (fun _ => 0))), (q9, .inl (K 0, 14 * B + 0, .inl (fun _ => 0))), (q10, .inl (K 0, 14 * B + 0, .inl (fun _ => 0)))]) := hD
  refine lv_aload_n hx hb dX4_init_88 rfl (lv_at hl 0 rfl) ?_
  refine lv_iload_n hx hb dX4_init_89 rfl (lv_at hl 1 rfl) ?_
  refine lv_bipush (v := 14) hx hb dX4_init_90 (by decide) ?_
  refine lv_imul hx hb dX4_init_92 ?_
  refine y_newi (t := 0) (N := 14 * B + 0) (ty := .int) C rfl (Or.inl ⟨rfl, rfl⟩) yw_18 hP hD hS hA (y_nk (k := 14) hB.2 (by decide) (by decide)) (y_lk (k := 14) hB.2 (by decide) (by decide)) (by omega) (Nat.le_of_ble_eq_true rfl) (by show (_ : Nat) ≤ 5280; omega) dX4_init_93 (fun q11 H hP hD hS => ?_)
  have hP : va_P D vwCl ([(h, .inr (4, [.int (nI B), .ref q1, .ref q2, .ref q3, .ref q4, .ref q5, .ref q6, .ref q7, .ref q8, .ref q9, .ref q10, .null, .int 0])), (q1, .inl (K 0, 1 * B + 0, .inl (fun _ => 0))), (q2, .inl (K 0, 1 * B + 0, .inl (fun _ => 0))), (q3, .inl (K 0, 1 * B + 0, .inl (fun _ => 0))), (q4, .inl (K 0, 1 * B + 0, .inl (fun _ => 0))), (q5, .inl (K 0, 1 * B + 0, .inl (fun _ => 0))), (q6, .inl (K 0, 1 * B + 0, .inl (fun _ => 0))), (q7, .inl (K 0, 1 * B + 0, .inl (fun _ => 0))), (q8, .inl (K 0, 6 * B + 0, .inl (fun _ => 0))), (q9, .inl (K 0, 14 * B + 0, .inl (fun _ => 0))), (q10, .inl (K 0, 14 * B + 0, .inl (fun _ => 0))), (q11, .inl (K 0, 14 * B + 0, .inl (fun _ => 0)))]) H := hP
  have hD : va_D A ([(h, .inr (4, [.int (nI B), .ref q1, .ref q2, .ref q3, .ref q4, .ref q5, .ref q6, .ref q7, .ref q8, .ref q9, .ref q10, .null, .int 0])), (q1, .inl (K 0, 1 * B + 0, .inl (fun _ => 0))), (q2, .inl (K 0, 1 * B + 0, .inl (fun _ => 0))), (q3, .inl (K 0, 1 * B + 0, .inl (fun _ => 0))), (q4, .inl (K 0, 1 * B + 0, .inl (fun _ => 0))), (q5, .inl (K 0, 1 * B + 0, .inl (fun _ => 0))), (q6, .inl (K 0, 1 * B + 0, .inl (fun _ => 0))), (q7, .inl (K 0, 1 * B + 0, .inl (fun _ => 0))), (q8, .inl (K 0, 6 * B + 0, .inl (fun _ => 0))), (q9, .inl (K 0, 14 * B + 0, .inl (fun _ => 0))), (q10, .inl (K 0, 14 * B + 0, .inl (fun _ => 0))), (q11, .inl (K 0, 14 * B + 0, .inl (fun _ => 0)))]) := hD
  refine va_putF hx hb hts in_4 tyX4 tyX4_ok nmX4 hown hK hP hD hS 0 rfl (ci := 4) rfl 11 (by decide) (hts _ yw_14) (fun _ h => h) rfl hin rfl (ty := tyX4 11) (tyX4_ok 11 (by decide)) rfl rfl (Nat.le_of_ble_eq_true rfl) dX4_init_95 (fun H locs hP hD hS => ?_)
  have hP : va_P D vwCl ([(h, .inr (4, [.int (nI B), .ref q1, .ref q2, .ref q3, .ref q4, .ref q5, .ref q6, .ref q7, .ref q8, .ref q9, .ref q10, .ref q11, .int 0])), (q1, .inl (K 0, 1 * B + 0, .inl (fun _ => 0))), (q2, .inl (K 0, 1 * B + 0, .inl (fun _ => 0))), (q3, .inl (K 0, 1 * B + 0, .inl (fun _ => 0))), (q4, .inl (K 0, 1 * B + 0, .inl (fun _ => 0))), (q5, .inl (K 0, 1 * B + 0, .inl (fun _ => 0))), (q6, .inl (K 0, 1 * B + 0, .inl (fun _ => 0))), (q7, .inl (K 0, 1 * B + 0, .inl (fun _ => 0))), (q8, .inl (K 0, 6 * B + 0, .inl (fun _ => 0))), (q9, .inl (K 0, 14 * B + 0, .inl (fun _ => 0))), (q10, .inl (K 0, 14 * B + 0, .inl (fun _ => 0))), (q11, .inl (K 0, 14 * B + 0, .inl (fun _ => 0)))]) H := hP
  have hD : va_D A ([(h, .inr (4, [.int (nI B), .ref q1, .ref q2, .ref q3, .ref q4, .ref q5, .ref q6, .ref q7, .ref q8, .ref q9, .ref q10, .ref q11, .int 0])), (q1, .inl (K 0, 1 * B + 0, .inl (fun _ => 0))), (q2, .inl (K 0, 1 * B + 0, .inl (fun _ => 0))), (q3, .inl (K 0, 1 * B + 0, .inl (fun _ => 0))), (q4, .inl (K 0, 1 * B + 0, .inl (fun _ => 0))), (q5, .inl (K 0, 1 * B + 0, .inl (fun _ => 0))), (q6, .inl (K 0, 1 * B + 0, .inl (fun _ => 0))), (q7, .inl (K 0, 1 * B + 0, .inl (fun _ => 0))), (q8, .inl (K 0, 6 * B + 0, .inl (fun _ => 0))), (q9, .inl (K 0, 14 * B + 0, .inl (fun _ => 0))), (q10, .inl (K 0, 14 * B + 0, .inl (fun _ => 0))), (q11, .inl (K 0, 14 * B + 0, .inl (fun _ => 0)))]) := hD
  refine lv_aload_n hx hb dX4_init_98 rfl (lv_at hl 0 rfl) ?_
  refine va_get hx hb hts in_4 hown hK hP 0 rfl (ci := 4) rfl 1 (by decide) (hts _ yw_1) (fun _ h => h) rfl dX4_init_99 ?_
  refine lv_iconst (v := 0) hx hb dX4_init_102 (by decide) ?_
  refine lv_iconst (v := 1) hx hb dX4_init_103 (by decide) ?_
  refine va_iast hx hb hK hP hD hS 1 0 rfl rfl (y_in (k := 0) (by decide) (by decide) (by omega)) dX4_init_104 (fun H locs hP hD hS => ?_)
  have hP : va_P D vwCl ([(h, .inr (4, [.int (nI B), .ref q1, .ref q2, .ref q3, .ref q4, .ref q5, .ref q6, .ref q7, .ref q8, .ref q9, .ref q10, .ref q11, .int 0])), (q1, .inl (K 0, 1 * B + 0, .inl (upd (fun _ => 0) (Int32.toNatClampNeg 0) 1))), (q2, .inl (K 0, 1 * B + 0, .inl (fun _ => 0))), (q3, .inl (K 0, 1 * B + 0, .inl (fun _ => 0))), (q4, .inl (K 0, 1 * B + 0, .inl (fun _ => 0))), (q5, .inl (K 0, 1 * B + 0, .inl (fun _ => 0))), (q6, .inl (K 0, 1 * B + 0, .inl (fun _ => 0))), (q7, .inl (K 0, 1 * B + 0, .inl (fun _ => 0))), (q8, .inl (K 0, 6 * B + 0, .inl (fun _ => 0))), (q9, .inl (K 0, 14 * B + 0, .inl (fun _ => 0))), (q10, .inl (K 0, 14 * B + 0, .inl (fun _ => 0))), (q11, .inl (K 0, 14 * B + 0, .inl (fun _ => 0)))]) H := hP
  have hD : va_D A ([(h, .inr (4, [.int (nI B), .ref q1, .ref q2, .ref q3, .ref q4, .ref q5, .ref q6, .ref q7, .ref q8, .ref q9, .ref q10, .ref q11, .int 0])), (q1, .inl (K 0, 1 * B + 0, .inl (upd (fun _ => 0) (Int32.toNatClampNeg 0) 1))), (q2, .inl (K 0, 1 * B + 0, .inl (fun _ => 0))), (q3, .inl (K 0, 1 * B + 0, .inl (fun _ => 0))), (q4, .inl (K 0, 1 * B + 0, .inl (fun _ => 0))), (q5, .inl (K 0, 1 * B + 0, .inl (fun _ => 0))), (q6, .inl (K 0, 1 * B + 0, .inl (fun _ => 0))), (q7, .inl (K 0, 1 * B + 0, .inl (fun _ => 0))), (q8, .inl (K 0, 6 * B + 0, .inl (fun _ => 0))), (q9, .inl (K 0, 14 * B + 0, .inl (fun _ => 0))), (q10, .inl (K 0, 14 * B + 0, .inl (fun _ => 0))), (q11, .inl (K 0, 14 * B + 0, .inl (fun _ => 0)))]) := hD
  refine lv_aload_n hx hb dX4_init_105 rfl (lv_at hl 0 rfl) ?_
  refine lv_aload_n hx hb dX4_init_106 rfl (lv_at hl 0 rfl) ?_
  refine lv_iconst (v := 2) hx hb dX4_init_107 (by decide) ?_
  have hP : va_P D vwCl (y_tree K B h (fun k => [h, q1, q2, q3, q4, q5, q6, q7, q8, q9, q10, q11].getD k 0) ((va_up (fun _ _ => 0) 1 (upd (fun _ => 0) (Int32.toNatClampNeg 0) 1))) 0) H := hP
  have hD : va_D A (y_tree K B h (fun k => [h, q1, q2, q3, q4, q5, q6, q7, q8, q9, q10, q11].getD k 0) ((va_up (fun _ _ => 0) 1 (upd (fun _ => 0) (Int32.toNatClampNeg 0) 1))) 0) := hD
  refine y_callV (q0 := 0) (ci := 4) (T := TX4) (N := 13) (isC := [0, 1, 2, 3, 4, 5, 6, 7, 8, 9, 10, 11]) (isR := []) (wr := []) (rest := [.ref h]) (n_X4_takeBlock (u := (fun k => [h, q1, q2, q3, q4, q5, q6, q7, q8, q9, q10, q11].getD k 0)) (F := (va_up (fun _ _ => 0) 1 (upd (fun _ => 0) (Int32.toNatClampNeg 0) 1))) (root := 0) hB (by decide)) C hP hD hS hA ⟨rfl, rfl, by decide, by decide, by decide⟩ ok_X4_takeBlock yw_20 rfl rfl rfl hl.1 ⟨Nat.le_of_ble_eq_true rfl, Nat.le_of_ble_eq_true rfl⟩ (Nat.le_of_ble_eq_true rfl) dX4_init_108 (mc := 0) (ms := 0) ⟨rfl, rfl⟩ ⟨Nat.le_of_ble_eq_true rfl, by show (_ : Nat) ≤ 5280; omega⟩ rfl (fun _ H locs hP hD hS => ?_)
  have hP : va_P D vwCl (y_tree K B h (fun k => [h, q1, q2, q3, q4, q5, q6, q7, q8, q9, q10, q11].getD k 0) (y_F1) 0) H := hP
  have hD : va_D A (y_tree K B h (fun k => [h, q1, q2, q3, q4, q5, q6, q7, q8, q9, q10, q11].getD k 0) (y_F1) 0) := hD
  refine va_put hx hb hts in_4 tyX4 tyX4_ok nmX4 hown hK hP hD hS 0 rfl (ci := 4) rfl 12 (by decide) (hts _ yw_21) (fun _ h => h) rfl (ty := tyX4 12) (tyX4_ok 12 (by decide)) rfl rfl (Nat.le_of_ble_eq_true rfl) dX4_init_111 (fun H locs hP hD hS => ?_)
  have hP : va_P D vwCl (y_tree K B h (fun k => [h, q1, q2, q3, q4, q5, q6, q7, q8, q9, q10, q11].getD k 0) (y_F1) 1) H := hP
  have hD : va_D A (y_tree K B h (fun k => [h, q1, q2, q3, q4, q5, q6, q7, q8, q9, q10, q11].getD k 0) (y_F1) 1) := hD
  refine lv_aload_n hx hb dX4_init_114 rfl (lv_at hl 0 rfl) ?_
  refine lv_aload_n hx hb dX4_init_115 rfl (lv_at hl 0 rfl) ?_
  refine va_get hx hb hts in_4 hown hK hP 0 rfl (ci := 4) rfl 12 (by decide) (hts _ yw_21) (fun _ h => h) rfl dX4_init_116 ?_
  refine lv_iconst (v := 0) hx hb dX4_init_119 (by decide) ?_
  refine lv_iconst (v := 1) hx hb dX4_init_120 (by decide) ?_
  refine lv_iconst (v := 0) hx hb dX4_init_121 (by decide) ?_
  refine lv_iconst (v := 0) hx hb dX4_init_122 (by decide) ?_
  refine y_callSN (host := "PackedTree") (isC := []) (isR := [0, 1, 2, 3, 4, 5, 6, 7, 8, 9, 10, 11]) (wr := y_tree K B h (fun k => [h, q1, q2, q3, q4, q5, q6, q7, q8, q9, q10, q11].getD k 0) (y_F1) 1) (rest := [.int 0, .int 1, .ref h]) n_X5_keyOf C hP hD hS hA ⟨rfl, rfl, by decide, by decide, by decide⟩ ok_X5_keyOf (by decide +kernel) rfl hl.1 ⟨Nat.le_of_ble_eq_true rfl, Nat.le_of_ble_eq_true rfl⟩ (Nat.le_of_ble_eq_true rfl) dX4_init_123 (mc := 0) (ms := 0) ⟨rfl, rfl⟩ ⟨Nat.le_of_ble_eq_true rfl, by show (_ : Nat) ≤ 5280; omega⟩ rfl (fun _ H locs hP hD hS => ?_)
  have hP : va_P D vwCl (y_tree K B h (fun k => [h, q1, q2, q3, q4, q5, q6, q7, q8, q9, q10, q11].getD k 0) (y_F1) 1) H := hP
  have hD : va_D A (y_tree K B h (fun k => [h, q1, q2, q3, q4, q5, q6, q7, q8, q9, q10, q11].getD k 0) (y_F1) 1) := hD
  refine lv_bipush (v := 6) hx hb dX4_init_126 (by decide) ?_
  refine lv_iconst (v := (-1)) hx hb dX4_init_128 (by decide) ?_
  refine y_callV (q0 := 0) (ci := 4) (T := TX4) (N := 13) (isC := [0, 1, 2, 3, 4, 5, 6, 7, 8, 9, 10, 11]) (isR := []) (wr := []) (rest := []) (n_X4_openSlot (u := (fun k => [h, q1, q2, q3, q4, q5, q6, q7, q8, q9, q10, q11].getD k 0)) (F := y_F1) hB (by decide) (by decide)) C hP hD hS hA ⟨rfl, rfl, by decide, by decide, by decide⟩ ok_X4_openSlot yw_22 rfl rfl rfl hl.1 ⟨Nat.le_of_ble_eq_true rfl, Nat.le_of_ble_eq_true rfl⟩ (Nat.le_of_ble_eq_true rfl) dX4_init_129 (mc := 0) (ms := 0) ⟨rfl, rfl⟩ ⟨Nat.le_of_ble_eq_true rfl, by show (_ : Nat) ≤ 5280; omega⟩ rfl (fun _ H locs hP hD hS => ?_)
  have hP : va_P D vwCl (y_tree K B h (fun k => [h, q1, q2, q3, q4, q5, q6, q7, q8, q9, q10, q11].getD k 0) (y_F2) 1) H := hP
  have hD : va_D A (y_tree K B h (fun k => [h, q1, q2, q3, q4, q5, q6, q7, q8, q9, q10, q11].getD k 0) (y_F2) 1) := hD
  refine W.widen (k := 11) (n := 5280) (Nat.le_of_ble_eq_true rfl) (by show (_ : Nat) ≤ 5280; omega) ?_
  exact W.vret hx hb hr (fun t ht _ => ⟨⟨rfl, (fun k => [h, q1, q2, q3, q4, q5, q6, q7, q8, q9, q10, q11].getD k 0), by rw [ht]; exact hP, hD⟩, hS.F ht⟩) hS.2.2 dX4_init_132
