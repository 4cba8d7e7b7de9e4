/-! The class's constructor, and the reference's. -/
theorem y_near_eq {x lo hi : Int32} (h : lo ≤ hi) : y_near x lo hi = if lo ≤ x then (if x ≤ hi then x else hi) else lo := by
  unfold y_near
  simp only [Int32.lt_iff_toInt_lt, Int32.le_iff_toInt_le] at *
  (repeat' split) <;> first | rfl | (exfalso; omega) | (apply Int32.toInt_inj.mp; omega)
theorem y_near_ex (x : Int32) {lo hi : Nat} (h : lo ≤ hi) (hh : hi < 2 ^ 31) : ∃ B : Nat, lo ≤ B ∧ B ≤ hi ∧ y_near x (nI lo) (nI hi) = nI B := by
  rw [y_near_eq (nI_le h hh)]
  by_cases h1 : nI lo ≤ x
  · rw [if_pos h1]
    by_cases h2 : x ≤ nI hi
    · rw [if_pos h2]
      rw [Int32.le_iff_toInt_le, nI_toInt (by omega)] at h1 h2
      refine ⟨x.toInt.toNat, by omega, by omega, Int32.toInt_inj.mp ?_⟩
      rw [nI_toInt (by omega)]
      omega
    · rw [if_neg h2]; exact ⟨hi, h, Nat.le_refl _, rfl⟩
  · rw [if_neg h1]; exact ⟨lo, Nat.le_refl _, h, rfl⟩
section Y
variable {p : Program} {l : Launch} {e : Env} {R : Room} {s : State} {m : MethodId} {args : Array Value} {below : List Frame} {meth : Method} {c : Code} {H : Heap} {locs : List Loc} {cells slots : Nat} {Q : State → Prop} {ls : Array Slot} {rest : List Value} {x : Int32}
theorem y_mB (hx : p.tables.exec = Jvm.exec) (hb : c.code = cX6_init) (hl : ls[1]? = some (.val (.int x))) (k : W p l e R s m args below meth c H locs cells slots Q (F0 m 77 ls (.int (if 16 ≤ x then (if x ≤ 96 then x else 96) else 16) :: rest))) : W p l e R s m args below meth c H locs cells slots Q (F0 m 54 ls rest) := by
  refine lv_iload_n hx hb dX6_init_54 rfl hl ?_
  refine lv_bipush (v := 16) hx hb dX6_init_55 (by decide) ?_
  refine lv_icmp_ge (tgt := 65) hx hb dX6_init_57 (by decide) (fun h1 => ?_) (fun h1 => ?_)
  · rw [if_pos h1] at k
    refine lv_iload_n hx hb dX6_init_65 rfl hl ?_
    refine lv_bipush (v := 96) hx hb dX6_init_66 (by decide) ?_
    refine lv_icmp_le (tgt := 76) hx hb dX6_init_68 (by decide) (fun h2 => ?_) (fun h2 => ?_)
    · rw [if_pos h2] at k
      exact lv_iload_n hx hb dX6_init_76 rfl hl k
    · rw [if_neg h2] at k
      refine lv_bipush (v := 96) hx hb dX6_init_71 (by decide) ?_
      exact lv_goto (tgt := 77) hx hb dX6_init_73 (by decide) k
  · rw [if_neg h1] at k
    refine lv_bipush (v := 16) hx hb dX6_init_60 (by decide) ?_
    exact lv_goto (tgt := 77) hx hb dX6_init_62 (by decide) k
theorem y_mJ (hx : p.tables.exec = Jvm.exec) (hb : c.code = cX6_init) (hl : ls[2]? = some (.val (.int x))) (k : W p l e R s m args below meth c H locs cells slots Q (F0 m 104 ls (.int (if 6 ≤ x then (if x ≤ 64 then x else 64) else 6) :: rest))) : W p l e R s m args below meth c H locs cells slots Q (F0 m 81 ls rest) := by
  refine lv_iload_n hx hb dX6_init_81 rfl hl ?_
  refine lv_bipush (v := 6) hx hb dX6_init_82 (by decide) ?_
  refine lv_icmp_ge (tgt := 92) hx hb dX6_init_84 (by decide) (fun h1 => ?_) (fun h1 => ?_)
  · rw [if_pos h1] at k
    refine lv_iload_n hx hb dX6_init_92 rfl hl ?_
    refine lv_bipush (v := 64) hx hb dX6_init_93 (by decide) ?_
    refine lv_icmp_le (tgt := 103) hx hb dX6_init_95 (by decide) (fun h2 => ?_) (fun h2 => ?_)
    · rw [if_pos h2] at k
      exact lv_iload_n hx hb dX6_init_103 rfl hl k
    · rw [if_neg h2] at k
      refine lv_bipush (v := 64) hx hb dX6_init_98 (by decide) ?_
      exact lv_goto (tgt := 104) hx hb dX6_init_100 (by decide) k
  · rw [if_neg h1] at k
    refine lv_bipush (v := 6) hx hb dX6_init_87 (by decide) ?_
    exact lv_goto (tgt := 104) hx hb dX6_init_89 (by decide) k
end Y
abbrev y_pt (K : Nat → ClassId) (B J h : Nat) (u : Nat → Nat) : va_W := (h, .inr (5, [.int (nI B), .ref (u 1), .ref (u 22), .ref (u 43), .ref (u 55), .ref (u 57), .ref (u 58), .ref (u 59)])) :: (y_img K B (u 1) (fun k => u (k + 1)) ++ (y_img K B (u 22) (fun k => u (k + 22)) ++ (y_tree K B (u 43) (fun k => u (k + 43)) y_F2 1 ++ [(u 55, .inr (1, [.int (nI J), .ref (u 56), .int 0, .int 0])), (u 56, .inl (K 2, 1 * B + 0, .inl (fun _ => 0))), (u 57, .inr (3, [.int 0, .int (-1), .int 0])), (u 58, .inl (K 2, 1 * B + 0, .inl (fun _ => 0))), (u 59, .inl (K 1, 0 * B + 2048, .inl (fun _ => 0)))])))
theorem yu_0 : Cond.methodLink "PackedTree" 3 Lib.objectInit ∈ z_G := z_Gin (List.mem_of_getElem? (i := 111) (by decide +kernel)) rfl
theorem yu_1 : Cond.instanceMethod Lib.objectInit ∈ z_G := z_Gin (List.mem_of_getElem? (i := 112) (by decide +kernel)) rfl
theorem yu_2 : Cond.code Lib.objectInit ⟨#[0xb1]⟩ 1 none ∈ z_G := z_Gin (List.mem_of_getElem? (i := 113) (by decide +kernel)) rfl
theorem yu_3 : Cond.methodLink "PackedTree" 9 yX5_nearest ∈ z_G := z_Gin (List.mem_of_getElem? (i := 114) (by decide +kernel)) rfl
theorem yu_4 : Cond.fieldLink "PackedTree" 13 "PackedTree" "blocks" "I" ∈ z_G := z_Gin (List.mem_of_getElem? (i := 294) (by decide +kernel)) rfl
theorem yu_5 : Cond.classLink "PackedTree" 17 "PackedTree$Image" ∈ z_G := z_Gin (List.mem_of_getElem? (i := 123) (by decide +kernel)) rfl
theorem yu_6 : Cond.instantiable "PackedTree$Image" 4 ∈ z_G := z_Gin (List.mem_of_getElem? (i := 124) (by decide +kernel)) rfl
theorem yu_7 : Cond.initialized "PackedTree$Image" ∈ z_G := z_Gin (List.mem_of_getElem? (i := 91) (by decide +kernel)) rfl
theorem yu_8 : Cond.methodLink "PackedTree" 19 yX0_init ∈ z_G := z_Gin (List.mem_of_getElem? (i := 125) (by decide +kernel)) rfl
theorem yu_9 : Cond.fieldLink "PackedTree" 22 "PackedTree" "now" "LPackedTree$Image;" ∈ z_G := z_Gin (List.mem_of_getElem? (i := 295) (by decide +kernel)) rfl
theorem yu_10 : Cond.fieldLink "PackedTree" 26 "PackedTree" "committed" "LPackedTree$Image;" ∈ z_G := z_Gin (List.mem_of_getElem? (i := 296) (by decide +kernel)) rfl
theorem yu_11 : Cond.classLink "PackedTree" 29 "PackedTree$Tree" ∈ z_G := z_Gin (List.mem_of_getElem? (i := 250) (by decide +kernel)) rfl
theorem yu_12 : Cond.instantiable "PackedTree$Tree" 13 ∈ z_G := z_Gin (List.mem_of_getElem? (i := 130) (by decide +kernel)) rfl
theorem yu_13 : Cond.initialized "PackedTree$Tree" ∈ z_G := z_Gin (List.mem_of_getElem? (i := 92) (by decide +kernel)) rfl
theorem yu_14 : Cond.methodLink "PackedTree" 31 yX4_init ∈ z_G := z_Gin (List.mem_of_getElem? (i := 251) (by decide +kernel)) rfl
theorem yu_15 : Cond.fieldLink "PackedTree" 32 "PackedTree" "keptTree" "LPackedTree$Tree;" ∈ z_G := z_Gin (List.mem_of_getElem? (i := 297) (by decide +kernel)) rfl
theorem yu_16 : Cond.classLink "PackedTree" 36 "PackedTree$Journal" ∈ z_G := z_Gin (List.mem_of_getElem? (i := 252) (by decide +kernel)) rfl
theorem yu_17 : Cond.instantiable "PackedTree$Journal" 4 ∈ z_G := z_Gin (List.mem_of_getElem? (i := 253) (by decide +kernel)) rfl
theorem yu_18 : Cond.initialized "PackedTree$Journal" ∈ z_G := z_Gin (List.mem_of_getElem? (i := 96) (by decide +kernel)) rfl
theorem yu_19 : Cond.methodLink "PackedTree" 38 yX1_init ∈ z_G := z_Gin (List.mem_of_getElem? (i := 254) (by decide +kernel)) rfl
theorem yu_20 : Cond.fieldLink "PackedTree" 41 "PackedTree" "journal" "LPackedTree$Journal;" ∈ z_G := z_Gin (List.mem_of_getElem? (i := 298) (by decide +kernel)) rfl
theorem yu_21 : Cond.classLink "PackedTree" 45 "PackedTree$Power" ∈ z_G := z_Gin (List.mem_of_getElem? (i := 275) (by decide +kernel)) rfl
theorem yu_22 : Cond.instantiable "PackedTree$Power" 3 ∈ z_G := z_Gin (List.mem_of_getElem? (i := 276) (by decide +kernel)) rfl
theorem yu_23 : Cond.initialized "PackedTree$Power" ∈ z_G := z_Gin (List.mem_of_getElem? (i := 97) (by decide +kernel)) rfl
theorem yu_24 : Cond.fieldLink "PackedTree" 48 "PackedTree" "power" "LPackedTree$Power;" ∈ z_G := z_Gin (List.mem_of_getElem? (i := 299) (by decide +kernel)) rfl
theorem yu_25 : Cond.arrayClass .boolean ∈ z_G := z_Gin (List.mem_of_getElem? (i := 274) (by decide +kernel)) rfl
theorem yu_26 : Cond.fieldLink "PackedTree" 52 "PackedTree" "changed" "[Z" ∈ z_G := z_Gin (List.mem_of_getElem? (i := 300) (by decide +kernel)) rfl
theorem yu_27 : Cond.arrayClass .byte ∈ z_G := z_Gin (List.mem_of_getElem? (i := 249) (by decide +kernel)) rfl
theorem yu_28 : Cond.fieldLink "PackedTree" 56 "PackedTree" "scratch" "[B" ∈ z_G := z_Gin (List.mem_of_getElem? (i := 301) (by decide +kernel)) rfl
theorem yu_29 : Cond.methodLink "PackedTreeModel" 1 Lib.objectInit ∈ z_G := z_Gin (List.mem_of_getElem? (i := 916) (by decide +kernel)) rfl
theorem yu_30 : Cond.arrayClass .int ∈ z_G := z_Gin (List.mem_of_getElem? (i := 202) (by decide +kernel)) rfl
theorem yu_31 : Cond.fieldLink "PackedTreeModel" 7 "PackedTreeModel" "s" "[I" ∈ z_G := z_Gin (List.mem_of_getElem? (i := 923) (by decide +kernel)) rfl
theorem yu_32 : Cond.fieldLink "PackedTreeModel" 13 "PackedTreeModel" "before" "[I" ∈ z_G := z_Gin (List.mem_of_getElem? (i := 924) (by decide +kernel)) rfl
theorem yu_33 : Cond.fieldLink "PackedTreeModel" 16 "PackedTreeModel" "committed" "[I" ∈ z_G := z_Gin (List.mem_of_getElem? (i := 925) (by decide +kernel)) rfl
theorem yu_34 : Cond.fieldLink "PackedTreeModel" 19 "PackedTreeModel" "now" "[I" ∈ z_G := z_Gin (List.mem_of_getElem? (i := 926) (by decide +kernel)) rfl
theorem yu_35 : Cond.fieldLink "PackedTreeModel" 22 "PackedTreeModel" "inJournal" "[Z" ∈ z_G := z_Gin (List.mem_of_getElem? (i := 928) (by decide +kernel)) rfl
theorem yu_36 : Cond.fieldLink "PackedTreeModel" 26 "PackedTreeModel" "failing" "I" ∈ z_G := z_Gin (List.mem_of_getElem? (i := 931) (by decide +kernel)) rfl
theorem yu_37 : Cond.fieldLink "PackedTreeModel" 30 "PackedTreeModel" "blocks" "I" ∈ z_G := z_Gin (List.mem_of_getElem? (i := 921) (by decide +kernel)) rfl
theorem yu_38 : Cond.fieldLink "PackedTreeModel" 33 "PackedTreeModel" "journal" "I" ∈ z_G := z_Gin (List.mem_of_getElem? (i := 922) (by decide +kernel)) rfl
theorem yu_39 : Cond.methodLink "PackedTreeModel" 36 yX6_keep ∈ z_G := z_Gin (List.mem_of_getElem? (i := 917) (by decide +kernel)) rfl
def I_X5_init : z_I := (yX5_init, cX5_init, 3, none)
theorem oi_X5_init : y_okI I_X5_init 2 := ⟨⟨z_Gin (List.mem_of_getElem? (i := 109) (by decide +kernel)) rfl, z_Gin (List.mem_of_getElem? (i := 89) (by decide +kernel)) rfl, z_Gin (List.mem_of_getElem? (i := 110) (by decide +kernel)) rfl⟩, rfl, rfl, by decide, by decide, by decide +kernel⟩
set_option maxRecDepth 100000 in
set_option maxHeartbeats 4000000 in
theorem n_X5_init {l : Launch} {D : va_G} {K : Nat → ClassId} {B h : Nat} {J : Nat} {x y : Int32} (hB : 16 ≤ B ∧ B ≤ 96) (hxB : y_near x 16 96 = nI B) (hyJ : y_near y 6 64 = nI J) : y_Met l I_X5_init { frames := 4, locals := 300, cells := 59, slots := 50040 } D K [.ref h, .int x, .int y] ([(h, .inr (5, [.int 0, .null, .null, .null, .null, .null, .null, .null]))]) none (fun u => y_pt K B J h u) := by
  refine y_enter (by decide) (Nat.le_of_ble_eq_true rfl) ?_
  intro p e s m args below meth c ls A C hl hP hD hS hA
  obtain ⟨hx, hb, hr, hml, hown, hts, hlocks, hK, hnest, hin⟩ := id C
  have hb : c.code = cX5_init := hb
  have hown : s.vm.findClass RX5 = some m.cls := hown
  have hl : lv_has ls 3 [(0, .ref h), (1, .int x), (2, .int y)] := hl
  refine lv_aload_n hx hb dX5_init_0 rfl (lv_at hl 0 rfl) ?_
  refine W.objInit hx hb hown (hts _ yu_0) (hts _ yu_1) (hts _ yu_2) rfl (hl.1.trans hml.symm) rfl dX5_init_1 (Nat.le_of_ble_eq_true rfl) (Nat.le_of_ble_eq_true rfl) ?_
  refine W.eq (g2 := F0 m 4 ls []) rfl ?_
  refine lv_aload_n hx hb dX5_init_4 rfl (lv_at hl 0 rfl) ?_
  refine lv_iload_n hx hb dX5_init_5 rfl (lv_at hl 1 rfl) ?_
  refine lv_bipush (v := 16) hx hb dX5_init_6 (by decide) ?_
  refine lv_bipush (v := 96) hx hb dX5_init_8 (by decide) ?_
  refine y_callS (isC := []) (isR := [0]) (wr := [(h, .inr (5, [.int 0, .null, .null, .null, .null, .null, .null, .null]))]) (rest := [.ref h]) n_X5_nearest C hP hD hS hA ⟨rfl, rfl, by decide, by decide, by decide⟩ os_X5_nearest yu_3 rfl hl.1 ⟨Nat.le_of_ble_eq_true rfl, Nat.le_of_ble_eq_true rfl⟩ (Nat.le_of_ble_eq_true rfl) dX5_init_10 (mc := 0) (ms := 0) ⟨rfl, rfl⟩ ⟨Nat.le_of_ble_eq_true rfl, by show (_ : Nat) ≤ 50040; omega⟩ rfl (fun _ H locs hP hD hS => ?_)
  have hP : va_P D vwCl ([(h, .inr (5, [.int 0, .null, .null, .null, .null, .null, .null, .null]))]) H := hP
  have hD : va_D A ([(h, .inr (5, [.int 0, .null, .null, .null, .null, .null, .null, .null]))]) := hD
  refine y_topi (v := nI B) (hxB) ?_
  refine va_putF hx hb hts in_5 tyX5 tyX5_ok nmX5 hown hK hP hD hS 0 rfl (ci := 5) rfl 0 (by decide) (hts _ yu_4) (fun _ h => h) rfl hin rfl (ty := tyX5 0) (tyX5_ok 0 (by decide)) rfl rfl (Nat.le_of_ble_eq_true rfl) dX5_init_13 (fun H locs hP hD hS => ?_)
  have hP : va_P D vwCl ([(h, .inr (5, [.int (nI B), .null, .null, .null, .null, .null, .null, .null]))]) H := hP
  have hD : va_D A ([(h, .inr (5, [.int (nI B), .null, .null, .null, .null, .null, .null, .null]))]) := hD
  refine lv_aload_n hx hb dX5_init_16 rfl (lv_at hl 0 rfl) ?_
  refine va_new (ci := 0) (fs := [.null, .null, .null, .null]) (C := RX0) (T := TX0) (N := 4) hx hb hts in_0 tyX0 tyX0_ok hown (hts _ yu_5) (hts _ yu_6) (hts _ yu_7) hK hP hD hS hA rfl y_df0 (Nat.le_of_ble_eq_true rfl) (by show (_ : Nat) ≤ 50040; omega) dX5_init_17 (fun q1 H hP hD hS => ?_)
  have hP : va_P D vwCl ([(h, .inr (5, [.int (nI B), .null, .null, .null, .null, .null, .null, .null])), (q1, .inr (0, [.null, .null, .null, .null]))]) H := hP
  have hD : va_D A ([(h, .inr (5, [.int (nI B), .null, .null, .null, .null, .null, .null, .null])), (q1, .inr (0, [.null, .null, .null, .null]))]) := hD
  refine lv_dup hx hb dX5_init_20 rfl ?_
  refine lv_aload_n hx hb dX5_init_21 rfl (lv_at hl 0 rfl) ?_
  refine va_get hx hb hts in_5 hown hK hP 0 rfl (ci := 5) rfl 0 (by decide) (hts _ yu_4) (fun _ h => h) rfl dX5_init_22 ?_
  refine y_callI (isC := [1]) (isR := [0]) (wr := [(h, .inr (5, [.int (nI B), .null, .null, .null, .null, .null, .null, .null]))]) (rest := [.ref q1, .ref h]) (n_X0_init hB) C hP hD hS hA ⟨rfl, rfl, by decide, by decide, by decide⟩ oi_X0_init yu_8 rfl hl.1 ⟨Nat.le_of_ble_eq_true rfl, Nat.le_of_ble_eq_true rfl⟩ (Nat.le_of_ble_eq_true rfl) dX5_init_25 (mc := 20) (ms := 21246) ⟨rfl, rfl⟩ ⟨Nat.le_of_ble_eq_true rfl, by show (_ : Nat) ≤ 50040; omega⟩ rfl (fun u2 H locs hP hD hS => ?_)
  have hP : va_P D vwCl ([(h, .inr (5, [.int (nI B), .null, .null, .null, .null, .null, .null, .null]))] ++ y_img K B q1 u2) H := hP
  have hD : va_D A ([(h, .inr (5, [.int (nI B), .null, .null, .null, .null, .null, .null, .null]))] ++ y_img K B q1 u2) := hD
  refine va_putF hx hb hts in_5 tyX5 tyX5_ok nmX5 hown hK hP hD hS 0 rfl (ci := 5) rfl 1 (by decide) (hts _ yu_9) (fun _ h => h) rfl hin rfl (ty := tyX5 1) (tyX5_ok 1 (by decide)) rfl rfl (Nat.le_of_ble_eq_true rfl) dX5_init_28 (fun H locs hP hD hS => ?_)
  have hP : va_P D vwCl ([(h, .inr (5, [.int (nI B), .ref q1, .null, .null, .null, .null, .null, .null]))] ++ y_img K B q1 u2) H := hP
  have hD : va_D A ([(h, .inr (5, [.int (nI B), .ref q1, .null, .null, .null, .null, .null, .null]))] ++ y_img K B q1 u2) := hD
  refine lv_aload_n hx hb dX5_init_31 rfl (lv_at hl 0 rfl) ?_
  refine va_new (ci := 0) (fs := [.null, .null, .null, .null]) (C := RX0) (T := TX0) (N := 4) hx hb hts in_0 tyX0 tyX0_ok hown (hts _ yu_5) (hts _ yu_6) (hts _ yu_7) hK hP hD hS hA rfl y_df0 (Nat.le_of_ble_eq_true rfl) (by show (_ : Nat) ≤ 50040; omega) dX5_init_32 (fun q3 H hP hD hS => ?_)
  have hP : va_P D vwCl ([(h, .inr (5, [.int (nI B), .ref q1, .null, .null, .null, .null, .null, .null]))] ++ y_img K B q1 u2 ++ [(q3, .inr (0, [.null, .null, .null, .null]))]) H := hP
  have hD : va_D A ([(h, .inr (5, [.int (nI B), .ref q1, .null, .null, .null, .null, .null, .null]))] ++ y_img K B q1 u2 ++ [(q3, .inr (0, [.null, .null, .null, .null]))]) := hD
  refine lv_dup hx hb dX5_init_35 rfl ?_
  refine lv_aload_n hx hb dX5_init_36 rfl (lv_at hl 0 rfl) ?_
  refine va_get hx hb hts in_5 hown hK hP 0 rfl (ci := 5) rfl 0 (by decide) (hts _ yu_4) (fun _ h => h) rfl dX5_init_37 ?_
  refine y_callI (isC := [22]) (isR := [0, 1, 2, 3, 4, 5, 6, 7, 8, 9, 10, 11, 12, 13, 14, 15, 16, 17, 18, 19, 20, 21]) (wr := [(h, .inr (5, [.int (nI B), .ref q1, .null, .null, .null, .null, .null, .null]))] ++ y_img K B q1 u2) (rest := [.ref q3, .ref h]) (n_X0_init hB) C hP hD hS hA ⟨rfl, rfl, by decide, by decide, by decide⟩ oi_X0_init yu_8 rfl hl.1 ⟨Nat.le_of_ble_eq_true rfl, Nat.le_of_ble_eq_true rfl⟩ (Nat.le_of_ble_eq_true rfl) dX5_init_40 (mc := 20) (ms := 21246) ⟨rfl, rfl⟩ ⟨Nat.le_of_ble_eq_true rfl, by show (_ : Nat) ≤ 50040; omega⟩ rfl (fun u4 H locs hP hD hS => ?_)
  have hP : va_P D vwCl ([(h, .inr (5, [.int (nI B), .ref q1, .null, .null, .null, .null, .null, .null]))] ++ y_img K B q1 u2 ++ y_img K B q3 u4) H := hP
  have hD : va_D A ([(h, .inr (5, [.int (nI B), .ref q1, .null, .null, .null, .null, .null, .null]))] ++ y_img K B q1 u2 ++ y_img K B q3 u4) := hD
  refine va_putF hx hb hts in_5 tyX5 tyX5_ok nmX5 hown hK hP hD hS 0 rfl (ci := 5) rfl 2 (by decide) (hts _ yu_10) (fun _ h => h) rfl hin rfl (ty := tyX5 2) (tyX5_ok 2 (by decide)) rfl rfl (Nat.le_of_ble_eq_true rfl) dX5_init_43 (fun H locs hP hD hS => ?_)
  have hP : va_P D vwCl ([(h, .inr (5, [.int (nI B), .ref q1, .ref q3, .null, .null, .null, .null, .null]))] ++ y_img K B q1 u2 ++ y_img K B q3 u4) H := hP
  have hD : va_D A ([(h, .inr (5, [.int (nI B), .ref q1, .ref q3, .null, .null, .null, .null, .null]))] ++ y_img K B q1 u2 ++ y_img K B q3 u4) := hD
  refine lv_aload_n hx hb dX5_init_46 rfl (lv_at hl 0 rfl) ?_
  refine va_new (ci := 4) (fs := [.int 0, .null, .null, .null, .null, .null, .null, .null, .null, .null, .null, .null, .int 0]) (C := RX4) (T := TX4) (N := 13) hx hb hts in_4 tyX4 tyX4_ok hown (hts _ yu_11) (hts _ yu_12) (hts _ yu_13) hK hP hD hS hA rfl y_df4 (Nat.le_of_ble_eq_true rfl) (by show (_ : Nat) ≤ 50040; omega) dX5_init_47 (fun q5 H hP hD hS => ?_)
  have hP : va_P D vwCl ([(h, .inr (5, [.int (nI B), .ref q1, .ref q3, .null, .null, .null, .null, .null]))] ++ y_img K B q1 u2 ++ y_img K B q3 u4 ++ [(q5, .inr (4, [.int 0, .null, .null, .null, .null, .null, .null, .null, .null, .null, .null, .null, .int 0]))]) H := hP
  have hD : va_D A ([(h, .inr (5, [.int (nI B), .ref q1, .ref q3, .null, .null, .null, .null, .null]))] ++ y_img K B q1 u2 ++ y_img K B q3 u4 ++ [(q5, .inr (4, [.int 0, .null, .null, .null, .null, .null, .null, .null, .null, .null, .null, .null, .int 0]))]) := hD
  refine lv_dup hx hb dX5_init_50 rfl ?_
  refine lv_aload_n hx hb dX5_init_51 rfl (lv_at hl 0 rfl) ?_
  refine va_get hx hb hts in_5 hown hK hP 0 rfl (ci := 5) rfl 0 (by decide) (hts _ yu_4) (fun _ h => h) rfl dX5_init_52 ?_
  refine y_callI (isC := [43]) (isR := [0, 1, 2, 3, 4, 5, 6, 7, 8, 9, 10, 11, 12, 13, 14, 15, 16, 17, 18, 19, 20, 21, 22, 23, 24, 25, 26, 27, 28, 29, 30, 31, 32, 33, 34, 35, 36, 37, 38, 39, 40, 41, 42]) (wr := [(h, .inr (5, [.int (nI B), .ref q1, .ref q3, .null, .null, .null, .null, .null]))] ++ y_img K B q1 u2 ++ y_img K B q3 u4) (rest := [.ref q5, .ref h]) (n_X4_init hB) C hP hD hS hA ⟨rfl, rfl, by decide, by decide, by decide⟩ oi_X4_init yu_14 rfl hl.1 ⟨Nat.le_of_ble_eq_true rfl, Nat.le_of_ble_eq_true rfl⟩ (Nat.le_of_ble_eq_true rfl) dX5_init_55 (mc := 11) (ms := 5280) ⟨rfl, rfl⟩ ⟨Nat.le_of_ble_eq_true rfl, by show (_ : Nat) ≤ 50040; omega⟩ rfl (fun u6 H locs hP hD hS => ?_)
  have hP : va_P D vwCl ([(h, .inr (5, [.int (nI B), .ref q1, .ref q3, .null, .null, .null, .null, .null]))] ++ y_img K B q1 u2 ++ y_img K B q3 u4 ++ y_tree K B q5 u6 y_F2 1) H := hP
  have hD : va_D A ([(h, .inr (5, [.int (nI B), .ref q1, .ref q3, .null, .null, .null, .null, .null]))] ++ y_img K B q1 u2 ++ y_img K B q3 u4 ++ y_tree K B q5 u6 y_F2 1) := hD
  refine va_putF hx hb hts in_5 tyX5 tyX5_ok nmX5 hown hK hP hD hS 0 rfl (ci := 5) rfl 3 (by decide) (hts _ yu_15) (fun _ h => h) rfl hin rfl (ty := tyX5 3) (tyX5_ok 3 (by decide)) rfl rfl (Nat.le_of_ble_eq_true rfl) dX5_init_58 (fun H locs hP hD hS => ?_)
  have hP : va_P D vwCl ([(h, .inr (5, [.int (nI B), .ref q1, .ref q3, .ref q5, .null, .null, .null, .null]))] ++ y_img K B q1 u2 ++ y_img K B q3 u4 ++ y_tree K B q5 u6 y_F2 1) H := hP
  have hD : va_D A ([(h, .inr (5, [.int (nI B), .ref q1, .ref q3, .ref q5, .null, .null, .null, .null]))] ++ y_img K B q1 u2 ++ y_img K B q3 u4 ++ y_tree K B q5 u6 y_F2 1) := hD
  refine lv_aload_n hx hb dX5_init_61 rfl (lv_at hl 0 rfl) ?_
  refine va_new (ci := 1) (fs := [.int 0, .null, .int 0, .int 0]) (C := RX1) (T := TX1) (N := 4) hx hb hts in_1 tyX1 tyX1_ok hown (hts _ yu_16) (hts _ yu_17) (hts _ yu_18) hK hP hD hS hA rfl y_df1 (Nat.le_of_ble_eq_true rfl) (by show (_ : Nat) ≤ 50040; omega) dX5_init_62 (fun q7 H hP hD hS => ?_)
  have hP : va_P D vwCl ([(h, .inr (5, [.int (nI B), .ref q1, .ref q3, .ref q5, .null, .null, .null, .null]))] ++ y_img K B q1 u2 ++ y_img K B q3 u4 ++ y_tree K B q5 u6 y_F2 1 ++ [(q7, .inr (1, [.int 0, .null, .int 0, .int 0]))]) H := hP
  have hD : va_D A ([(h, .inr (5, [.int (nI B), .ref q1, .ref q3, .ref q5, .null, .null, .null, .null]))] ++ y_img K B q1 u2 ++ y_img K B q3 u4 ++ y_tree K B q5 u6 y_F2 1 ++ [(q7, .inr (1, [.int 0, .null, .int 0, .int 0]))]) := hD
  refine lv_dup hx hb dX5_init_65 rfl ?_
  refine lv_iload_n hx hb dX5_init_66 rfl (lv_at hl 2 rfl) ?_
  refine lv_bipush (v := 6) hx hb dX5_init_67 (by decide) ?_
  refine lv_bipush (v := 64) hx hb dX5_init_69 (by decide) ?_
  refine y_callS (isC := []) (isR := [0, 1, 2, 3, 4, 5, 6, 7, 8, 9, 10, 11, 12, 13, 14, 15, 16, 17, 18, 19, 20, 21, 22, 23, 24, 25, 26, 27, 28, 29, 30, 31, 32, 33, 34, 35, 36, 37, 38, 39, 40, 41, 42, 43, 44, 45, 46, 47, 48, 49, 50, 51, 52, 53, 54, 55]) (wr := [(h, .inr (5, [.int (nI B), .ref q1, .ref q3, .ref q5, .null, .null, .null, .null]))] ++ y_img K B q1 u2 ++ y_img K B q3 u4 ++ y_tree K B q5 u6 y_F2 1 ++ [(q7, .inr (1, [.int 0, .null, .int 0, .int 0]))]) (rest := [.ref q7, .ref q7, .ref h]) n_X5_nearest C hP hD hS hA ⟨rfl, rfl, by decide, by decide, by decide⟩ os_X5_nearest yu_3 rfl hl.1 ⟨Nat.le_of_ble_eq_true rfl, Nat.le_of_ble_eq_true rfl⟩ (Nat.le_of_ble_eq_true rfl) dX5_init_71 (mc := 0) (ms := 0) ⟨rfl, rfl⟩ ⟨Nat.le_of_ble_eq_true rfl, by show (_ : Nat) ≤ 50040; omega⟩ rfl (fun _ H locs hP hD hS => ?_)
  have hP : va_P D vwCl ([(h, .inr (5, [.int (nI B), .ref q1, .ref q3, .ref q5, .null, .null, .null, .null]))] ++ y_img K B q1 u2 ++ y_img K B q3 u4 ++ y_tree K B q5 u6 y_F2 1 ++ [(q7, .inr (1, [.int 0, .null, .int 0, .int 0]))]) H := hP
  have hD : va_D A ([(h, .inr (5, [.int (nI B), .ref q1, .ref q3, .ref q5, .null, .null, .null, .null]))] ++ y_img K B q1 u2 ++ y_img K B q3 u4 ++ y_tree K B q5 u6 y_F2 1 ++ [(q7, .inr (1, [.int 0, .null, .int 0, .int 0]))]) := hD
  refine y_topi (v := nI J) (hyJ) ?_
  refine lv_aload_n hx hb dX5_init_74 rfl (lv_at hl 0 rfl) ?_
  refine va_get hx hb hts in_5 hown hK hP 0 rfl (ci := 5) rfl 0 (by decide) (hts _ yu_4) (fun _ h => h) rfl dX5_init_75 ?_
  refine y_callI (isC := [55]) (isR := [0, 1, 2, 3, 4, 5, 6, 7, 8, 9, 10, 11, 12, 13, 14, 15, 16, 17, 18, 19, 20, 21, 22, 23, 24, 25, 26, 27, 28, 29, 30, 31, 32, 33, 34, 35, 36, 37, 38, 39, 40, 41, 42, 43, 44, 45, 46, 47, 48, 49, 50, 51, 52, 53, 54]) (wr := [(h, .inr (5, [.int (nI B), .ref q1, .ref q3, .ref q5, .null, .null, .null, .null]))] ++ y_img K B q1 u2 ++ y_img K B q3 u4 ++ y_tree K B q5 u6 y_F2 1) (rest := [.ref q7, .ref h]) (n_X1_init hB) C hP hD hS hA ⟨rfl, rfl, by decide, by decide, by decide⟩ oi_X1_init yu_19 rfl hl.1 ⟨Nat.le_of_ble_eq_true rfl, Nat.le_of_ble_eq_true rfl⟩ (Nat.le_of_ble_eq_true rfl) dX5_init_78 (mc := 1) (ms := 96) ⟨rfl, rfl⟩ ⟨Nat.le_of_ble_eq_true rfl, by show (_ : Nat) ≤ 50040; omega⟩ rfl (fun u8 H locs hP hD hS => ?_)
  have hP : va_P D vwCl ([(h, .inr (5, [.int (nI B), .ref q1, .ref q3, .ref q5, .null, .null, .null, .null]))] ++ y_img K B q1 u2 ++ y_img K B q3 u4 ++ y_tree K B q5 u6 y_F2 1 ++ [(q7, .inr (1, [.int (nI J), .ref (u8 1), .int 0, .int 0])), (u8 1, .inl (K 2, 1 * B + 0, .inl (fun _ => 0)))]) H := hP
  have hD : va_D A ([(h, .inr (5, [.int (nI B), .ref q1, .ref q3, .ref q5, .null, .null, .null, .null]))] ++ y_img K B q1 u2 ++ y_img K B q3 u4 ++ y_tree K B q5 u6 y_F2 1 ++ [(q7, .inr (1, [.int (nI J), .ref (u8 1), .int 0, .int 0])), (u8 1, .inl (K 2, 1 * B + 0, .inl (fun _ => 0)))]) := hD
  refine va_putF hx hb hts in_5 tyX5 tyX5_ok nmX5 hown hK hP hD hS 0 rfl (ci := 5) rfl 4 (by decide) (hts _ yu_20) (fun _ h => h) rfl hin rfl (ty := tyX5 4) (tyX5_ok 4 (by decide)) rfl rfl (Nat.le_of_ble_eq_true rfl) dX5_init_81 (fun H locs hP hD hS => ?_)
  have hP : va_P D vwCl ([(h, .inr (5, [.int (nI B), .ref q1, .ref q3, .ref q5, .ref q7, .null, .null, .null]))] ++ y_img K B q1 u2 ++ y_img K B q3 u4 ++ y_tree K B q5 u6 y_F2 1 ++ [(q7, .inr (1, [.int (nI J), .ref (u8 1), .int 0, .int 0])), (u8 1, .inl (K 2, 1 * B + 0, .inl (fun _ => 0)))]) H := hP
  have hD : va_D A ([(h, .inr (5, [.int (nI B), .ref q1, .ref q3, .ref q5, .ref q7, .null, .null, .null]))] ++ y_img K B q1 u2 ++ y_img K B q3 u4 ++ y_tree K B q5 u6 y_F2 1 ++ [(q7, .inr (1, [.int (nI J), .ref (u8 1), .int 0, .int 0])), (u8 1, .inl (K 2, 1 * B + 0, .inl (fun _ => 0)))]) := hD
  refine lv_aload_n hx hb dX5_init_84 rfl (lv_at hl 0 rfl) ?_
  refine va_new (ci := 3) (fs := [.int 0, .int 0, .int 0]) (C := RX3) (T := TX3) (N := 3) hx hb hts in_3 tyX3 tyX3_ok hown (hts _ yu_21) (hts _ yu_22) (hts _ yu_23) hK hP hD hS hA rfl y_df3 (Nat.le_of_ble_eq_true rfl) (by show (_ : Nat) ≤ 50040; omega) dX5_init_85 (fun q9 H hP hD hS => ?_)
  have hP : va_P D vwCl ([(h, .inr (5, [.int (nI B), .ref q1, .ref q3, .ref q5, .ref q7, .null, .null, .null]))] ++ y_img K B q1 u2 ++ y_img K B q3 u4 ++ y_tree K B q5 u6 y_F2 1 ++ [(q7, .inr (1, [.int (nI J), .ref (u8 1), .int 0, .int 0])), (u8 1, .inl (K 2, 1 * B + 0, .inl (fun _ => 0))), (q9, .inr (3, [.int 0, .int 0, .int 0]))]) H := hP
  have hD : va_D A ([(h, .inr (5, [.int (nI B), .ref q1, .ref q3, .ref q5, .ref q7, .null, .null, .null]))] ++ y_img K B q1 u2 ++ y_img K B q3 u4 ++ y_tree K B q5 u6 y_F2 1 ++ [(q7, .inr (1, [.int (nI J), .ref (u8 1), .int 0, .int 0])), (u8 1, .inl (K 2, 1 * B + 0, .inl (fun _ => 0))), (q9, .inr (3, [.int 0, .int 0, .int 0]))]) := hD
  refine lv_dup hx hb dX5_init_88 rfl ?_
  refine y_callIN (host := "PackedTree") (isC := [57]) (isR := [0, 1, 2, 3, 4, 5, 6, 7, 8, 9, 10, 11, 12, 13, 14, 15, 16, 17, 18, 19, 20, 21, 22, 23, 24, 25, 26, 27, 28, 29, 30, 31, 32, 33, 34, 35, 36, 37, 38, 39, 40, 41, 42, 43, 44, 45, 46, 47, 48, 49, 50, 51, 52, 53, 54, 55, 56]) (wr := [(h, .inr (5, [.int (nI B), .ref q1, .ref q3, .ref q5, .ref q7, .null, .null, .null]))] ++ y_img K B q1 u2 ++ y_img K B q3 u4 ++ y_tree K B q5 u6 y_F2 1 ++ [(q7, .inr (1, [.int (nI J), .ref (u8 1), .int 0, .int 0])), (u8 1, .inl (K 2, 1 * B + 0, .inl (fun _ => 0)))]) (rest := [.ref q9, .ref h]) (n_X3_init hB) C hP hD hS hA ⟨rfl, rfl, by decide, by decide, by decide⟩ oi_X3_init (by decide +kernel) rfl hl.1 ⟨Nat.le_of_ble_eq_true rfl, Nat.le_of_ble_eq_true rfl⟩ (Nat.le_of_ble_eq_true rfl) dX5_init_89 (mc := 0) (ms := 0) ⟨rfl, rfl⟩ ⟨Nat.le_of_ble_eq_true rfl, by show (_ : Nat) ≤ 50040; omega⟩ rfl (fun u10 H locs hP hD hS => ?_)
  have hP : va_P D vwCl ([(h, .inr (5, [.int (nI B), .ref q1, .ref q3, .ref q5, .ref q7, .null, .null, .null]))] ++ y_img K B q1 u2 ++ y_img K B q3 u4 ++ y_tree K B q5 u6 y_F2 1 ++ [(q7, .inr (1, [.int (nI J), .ref (u8 1), .int 0, .int 0])), (u8 1, .inl (K 2, 1 * B + 0, .inl (fun _ => 0))), (q9, .inr (3, [.int 0, .int (-1), .int 0]))]) H := hP
  have hD : va_D A ([(h, .inr (5, [.int (nI B), .ref q1, .ref q3, .ref q5, .ref q7, .null, .null, .null]))] ++ y_img K B q1 u2 ++ y_img K B q3 u4 ++ y_tree K B q5 u6 y_F2 1 ++ [(q7, .inr (1, [.int (nI J), .ref (u8 1), .int 0, .int 0])), (u8 1, .inl (K 2, 1 * B + 0, .inl (fun _ => 0))), (q9, .inr (3, [.int 0, .int (-1), .int 0]))]) := hD
  refine va_putF hx hb hts in_5 tyX5 tyX5_ok nmX5 hown hK hP hD hS 0 rfl (ci := 5) rfl 5 (by decide) (hts _ yu_24) (fun _ h => h) rfl hin rfl (ty := tyX5 5) (tyX5_ok 5 (by decide)) rfl rfl (Nat.le_of_ble_eq_true rfl) dX5_init_92 (fun H locs hP hD hS => ?_)
  have hP : va_P D vwCl ([(h, .inr (5, [.int (nI B), .ref q1, .ref q3, .ref q5, .ref q7, .ref q9, .null, .null]))] ++ y_img K B q1 u2 ++ y_img K B q3 u4 ++ y_tree K B q5 u6 y_F2 1 ++ [(q7, .inr (1, [.int (nI J), .ref (u8 1), .int 0, .int 0])), (u8 1, .inl (K 2, 1 * B + 0, .inl (fun _ => 0))), (q9, .inr (3, [.int 0, .int (-1), .int 0]))]) H := hP
  have hD : va_D A ([(h, .inr (5, [.int (nI B), .ref q1, .ref q3, .ref q5, .ref q7, .ref q9, .null, .null]))] ++ y_img K B q1 u2 ++ y_img K B q3 u4 ++ y_tree K B q5 u6 y_F2 1 ++ [(q7, .inr (1, [.int (nI J), .ref (u8 1), .int 0, .int 0])), (u8 1, .inl (K 2, 1 * B + 0, .inl (fun _ => 0))), (q9, .inr (3, [.int 0, .int (-1), .int 0]))]) := hD
  refine lv_aload_n hx hb dX5_init_95 rfl (lv_at hl 0 rfl) ?_
  refine lv_aload_n hx hb dX5_init_96 rfl (lv_at hl 0 rfl) ?_
  refine va_get hx hb hts in_5 hown hK hP 0 rfl (ci := 5) rfl 0 (by decide) (hts _ yu_4) (fun _ h => h) rfl dX5_init_97 ?_
  refine y_newi (t := 2) (N := 1 * B + 0) (ty := .boolean) C rfl (Or.inr (Or.inr ⟨rfl, rfl⟩)) yu_25 hP hD hS hA (y_n1 hB.2) (y_l1 hB.2) (by omega) (Nat.le_of_ble_eq_true rfl) (by show (_ : Nat) ≤ 50040; omega) dX5_init_100 (fun q11 H hP hD hS => ?_)
  have hP : va_P D vwCl ([(h, .inr (5, [.int (nI B), .ref q1, .ref q3, .ref q5, .ref q7, .ref q9, .null, .null]))] ++ y_img K B q1 u2 ++ y_img K B q3 u4 ++ y_tree K B q5 u6 y_F2 1 ++ [(q7, .inr (1, [.int (nI J), .ref (u8 1), .int 0, .int 0])), (u8 1, .inl (K 2, 1 * B + 0, .inl (fun _ => 0))), (q9, .inr (3, [.int 0, .int (-1), .int 0])), (q11, .inl (K 2, 1 * B + 0, .inl (fun _ => 0)))]) H := hP
  have hD : va_D A ([(h, .inr (5, [.int (nI B), .ref q1, .ref q3, .ref q5, .ref q7, .ref q9, .null, .null]))] ++ y_img K B q1 u2 ++ y_img K B q3 u4 ++ y_tree K B q5 u6 y_F2 1 ++ [(q7, .inr (1, [.int (nI J), .ref (u8 1), .int 0, .int 0])), (u8 1, .inl (K 2, 1 * B + 0, .inl (fun _ => 0))), (q9, .inr (3, [.int 0, .int (-1), .int 0])), (q11, .inl (K 2, 1 * B + 0, .inl (fun _ => 0)))]) := hD
  refine va_putF hx hb hts in_5 tyX5 tyX5_ok nmX5 hown hK hP hD hS 0 rfl (ci := 5) rfl 6 (by decide) (hts _ yu_26) (fun _ h => h) rfl hin rfl (ty := tyX5 6) (tyX5_ok 6 (by decide)) rfl rfl (Nat.le_of_ble_eq_true rfl) dX5_init_102 (fun H locs hP hD hS => ?_)
  have hP : va_P D vwCl ([(h, .inr (5, [.int (nI B), .ref q1, .ref q3, .ref q5, .ref q7, .ref q9, .ref q11, .null]))] ++ y_img K B q1 u2 ++ y_img K B q3 u4 ++ y_tree K B q5 u6 y_F2 1 ++ [(q7, .inr (1, [.int (nI J), .ref (u8 1), .int 0, .int 0])), (u8 1, .inl (K 2, 1 * B + 0, .inl (fun _ => 0))), (q9, .inr (3, [.int 0, .int (-1), .int 0])), (q11, .inl (K 2, 1 * B + 0, .inl (fun _ => 0)))]) H := hP
  have hD : va_D A ([(h, .inr (5, [.int (nI B), .ref q1, .ref q3, .ref q5, .ref q7, .ref q9, .ref q11, .null]))] ++ y_img K B q1 u2 ++ y_img K B q3 u4 ++ y_tree K B q5 u6 y_F2 1 ++ [(q7, .inr (1, [.int (nI J), .ref (u8 1), .int 0, .int 0])), (u8 1, .inl (K 2, 1 * B + 0, .inl (fun _ => 0))), (q9, .inr (3, [.int 0, .int (-1), .int 0])), (q11, .inl (K 2, 1 * B + 0, .inl (fun _ => 0)))]) := hD
  refine lv_aload_n hx hb dX5_init_105 rfl (lv_at hl 0 rfl) ?_
  refine lv_sipush (v := 2048) hx hb dX5_init_106 (by decide) ?_
  refine y_newi (t := 1) (N := 0 * B + 2048) (ty := .byte) C rfl (Or.inr (Or.inl ⟨rfl, rfl⟩)) yu_27 hP hD hS hA (by decide) (y_l0 (by decide)) (by omega) (Nat.le_of_ble_eq_true rfl) (by show (_ : Nat) ≤ 50040; omega) dX5_init_109 (fun q12 H hP hD hS => ?_)
  have hP : va_P D vwCl ([(h, .inr (5, [.int (nI B), .ref q1, .ref q3, .ref q5, .ref q7, .ref q9, .ref q11, .null]))] ++ y_img K B q1 u2 ++ y_img K B q3 u4 ++ y_tree K B q5 u6 y_F2 1 ++ [(q7, .inr (1, [.int (nI J), .ref (u8 1), .int 0, .int 0])), (u8 1, .inl (K 2, 1 * B + 0, .inl (fun _ => 0))), (q9, .inr (3, [.int 0, .int (-1), .int 0])), (q11, .inl (K 2, 1 * B + 0, .inl (fun _ => 0))), (q12, .inl (K 1, 0 * B + 2048, .inl (fun _ => 0)))]) H := hP
  have hD : va_D A ([(h, .inr (5, [.int (nI B), .ref q1, .ref q3, .ref q5, .ref q7, .ref q9, .ref q11, .null]))] ++ y_img K B q1 u2 ++ y_img K B q3 u4 ++ y_tree K B q5 u6 y_F2 1 ++ [(q7, .inr (1, [.int (nI J), .ref (u8 1), .int 0, .int 0])), (u8 1, .inl (K 2, 1 * B + 0, .inl (fun _ => 0))), (q9, .inr (3, [.int 0, .int (-1), .int 0])), (q11, .inl (K 2, 1 * B + 0, .inl (fun _ => 0))), (q12, .inl (K 1, 0 * B + 2048, .inl (fun _ => 0)))]) := hD
  refine va_putF hx hb hts in_5 tyX5 tyX5_ok nmX5 hown hK hP hD hS 0 rfl (ci := 5) rfl 7 (by decide) (hts _ yu_28) (fun _ h => h) rfl hin rfl (ty := tyX5 7) (tyX5_ok 7 (by decide)) rfl rfl (Nat.le_of_ble_eq_true rfl) dX5_init_111 (fun H locs hP hD hS => ?_)
  have hP : va_P D vwCl ([(h, .inr (5, [.int (nI B), .ref q1, .ref q3, .ref q5, .ref q7, .ref q9, .ref q11, .ref q12]))] ++ y_img K B q1 u2 ++ y_img K B q3 u4 ++ y_tree K B q5 u6 y_F2 1 ++ [(q7, .inr (1, [.int (nI J), .ref (u8 1), .int 0, .int 0])), (u8 1, .inl (K 2, 1 * B + 0, .inl (fun _ => 0))), (q9, .inr (3, [.int 0, .int (-1), .int 0])), (q11, .inl (K 2, 1 * B + 0, .inl (fun _ => 0))), (q12, .inl (K 1, 0 * B + 2048, .inl (fun _ => 0)))]) H := hP
  have hD : va_D A ([(h, .inr (5, [.int (nI B), .ref q1, .ref q3, .ref q5, .ref q7, .ref q9, .ref q11, .ref q12]))] ++ y_img K B q1 u2 ++ y_img K B q3 u4 ++ y_tree K B q5 u6 y_F2 1 ++ [(q7, .inr (1, [.int (nI J), .ref (u8 1), .int 0, .int 0])), (u8 1, .inl (K 2, 1 * B + 0, .inl (fun _ => 0))), (q9, .inr (3, [.int 0, .int (-1), .int 0])), (q11, .inl (K 2, 1 * B + 0, .inl (fun _ => 0))), (q12, .inl (K 1, 0 * B + 2048, .inl (fun _ => 0)))]) := hD
  refine W.widen (k := 59) (n := 50040) (Nat.le_of_ble_eq_true rfl) (by show (_ : Nat) ≤ 50040; omega) ?_
  exact W.vret hx hb hr (fun t ht _ => ⟨⟨rfl, fun k => [h, q1, u2 1, u2 2, u2 3, u2 4, u2 5, u2 6, u2 7, u2 8, u2 9, u2 10, u2 11, u2 12, u2 13, u2 14, u2 15, u2 16, u2 17, u2 18, u2 19, u2 20, q3, u4 1, u4 2, u4 3, u4 4, u4 5, u4 6, u4 7, u4 8, u4 9, u4 10, u4 11, u4 12, u4 13, u4 14, u4 15, u4 16, u4 17, u4 18, u4 19, u4 20, q5, u6 1, u6 2, u6 3, u6 4, u6 5, u6 6, u6 7, u6 8, u6 9, u6 10, u6 11, q7, u8 1, q9, q11, q12].getD k 0, by rw [ht]; exact hP, hD⟩, hS.F ht⟩) hS.2.2 dX5_init_114
def f_1 : Nat → Int32 := upd (upd (upd (upd (upd (upd (upd (upd (upd (upd (upd (upd (upd (fun _ => 0) (Int32.toNatClampNeg 0) 1) (Int32.toNatClampNeg 1) 1) (Int32.toNatClampNeg 97) 1) (Int32.toNatClampNeg 158) 1) (Int32.toNatClampNeg 3757) 1) (Int32.toNatClampNeg 3949) (-1)) (Int32.toNatClampNeg 3853) 1) (Int32.toNatClampNeg 4636) 1) (Int32.toNatClampNeg 9244) 6) (Int32.toNatClampNeg 12300) 1) (Int32.toNatClampNeg 13068) 1) (Int32.toNatClampNeg 13076) 1) (Int32.toNatClampNeg 13077) 1
abbrev y_mod (K : Nat → ClassId) (B J h : Nat) (u : Nat → Nat) : va_W := [(h, .inr (6, [.int 0, .int (nI B), .int (nI J), .ref (u 1), .ref (u 2), .ref (u 3), .ref (u 4), .int 0, .ref (u 5), .int 0, .int 0, .int (-1), .int 0, .int 0, .int 0])), (u 1, .inl (K 0, 0 * B + 25366, .inl (f_1))), (u 2, .inl (K 0, 0 * B + 25366, .inl (fun _ => 0))), (u 3, .inl (K 0, 0 * B + 25366, .inl (fun j => if j < 25366 then f_1 j else 0))), (u 4, .inl (K 0, 0 * B + 2560, .inl (fun _ => 0))), (u 5, .inl (K 2, 0 * B + 96, .inl (fun _ => 0)))]
def I_X6_init : z_I := (yX6_init, cX6_init, 3, none)
theorem oi_X6_init : y_okI I_X6_init 2 := ⟨⟨z_Gin (List.mem_of_getElem? (i := 914) (by decide +kernel)) rfl, z_Gin (List.mem_of_getElem? (i := 98) (by decide +kernel)) rfl, z_Gin (List.mem_of_getElem? (i := 915) (by decide +kernel)) rfl⟩, rfl, rfl, by decide, by decide, by decide +kernel⟩
set_option maxRecDepth 100000 in
set_option maxHeartbeats 4000000 in
theorem n_X6_init {l : Launch} {D : va_G} {K : Nat → ClassId} {B J h : Nat} {x y : Int32} (hB : 16 ≤ B ∧ B ≤ 96) (hxB : y_near x 16 96 = nI B) (hyJ : y_near y 6 64 = nI J) : y_Met l I_X6_init { frames := 1, locals := 60, cells := 5, slots := 78754 } D K [.ref h, .int x, .int y] ([(h, .inr (6, [.int 0, .int 0, .int 0, .null, .null, .null, .null, .int 0, .null, .int 0, .int 0, .int 0, .int 0, .int 0, .int 0]))]) none (fun u => y_mod K B J h u) := by
  refine y_enter (by decide) (Nat.le_of_ble_eq_true rfl) ?_
  intro p e s m args below meth c ls A C hl hP hD hS hA
  obtain ⟨hx, hb, hr, hml, hown, hts, hlocks, hK, hnest, hin⟩ := id C
  have hb : c.code = cX6_init := hb
  have hown : s.vm.findClass RX6 = some m.cls := hown
  have hl : lv_has ls 3 [(0, .ref h), (1, .int x), (2, .int y)] := hl
  refine lv_aload_n hx hb dX6_init_0 rfl (lv_at hl 0 rfl) ?_
  refine W.objInit hx hb hown (hts _ yu_29) (hts _ yu_1) (hts _ yu_2) rfl (hl.1.trans hml.symm) rfl dX6_init_1 (Nat.le_of_ble_eq_true rfl) (Nat.le_of_ble_eq_true rfl) ?_
  refine W.eq (g2 := F0 m 4 ls []) rfl ?_
  refine lv_aload_n hx hb dX6_init_4 rfl (lv_at hl 0 rfl) ?_
  refine lv_sipush (v := 25366) hx hb dX6_init_5 (by decide) ?_
  refine y_newi (t := 0) (N := 0 * B + 25366) (ty := .int) C rfl (Or.inl ⟨rfl, rfl⟩) yu_30 hP hD hS hA (by decide) (y_l0 (by decide)) (by omega) (Nat.le_of_ble_eq_true rfl) (by show (_ : Nat) ≤ 78754; omega) dX6_init_8 (fun q1 H hP hD hS => ?_)
  have hP : va_P D vwCl ([(h, .inr (6, [.int 0, .int 0, .int 0, .null, .null, .null, .null, .int 0, .null, .int 0, .int 0, .int 0, .int 0, .int 0, .int 0])), (q1, .inl (K 0, 0 * B + 25366, .inl (fun _ => 0)))]) H := hP
  have hD : va_D A ([(h, .inr (6, [.int 0, .int 0, .int 0, .null, .null, .null, .null, .int 0, .null, .int 0, .int 0, .int 0, .int 0, .int 0, .int 0])), (q1, .inl (K 0, 0 * B + 25366, .inl (fun _ => 0)))]) := hD
  refine va_putF hx hb hts in_6 tyX6 tyX6_ok nmX6 hown hK hP hD hS 0 rfl (ci := 6) rfl 3 (by decide) (hts _ yu_31) (fun _ h => h) rfl hin rfl (ty := tyX6 3) (tyX6_ok 3 (by decide)) rfl rfl (Nat.le_of_ble_eq_true rfl) dX6_init_10 (fun H locs hP hD hS => ?_)
  have hP : va_P D vwCl ([(h, .inr (6, [.int 0, .int 0, .int 0, .ref q1, .null, .null, .null, .int 0, .null, .int 0, .int 0, .int 0, .int 0, .int 0, .int 0])), (q1, .inl (K 0, 0 * B + 25366, .inl (fun _ => 0)))]) H := hP
  have hD : va_D A ([(h, .inr (6, [.int 0, .int 0, .int 0, .ref q1, .null, .null, .null, .int 0, .null, .int 0, .int 0, .int 0, .int 0, .int 0, .int 0])), (q1, .inl (K 0, 0 * B + 25366, .inl (fun _ => 0)))]) := hD
  refine lv_aload_n hx hb dX6_init_13 rfl (lv_at hl 0 rfl) ?_
  refine lv_sipush (v := 25366) hx hb dX6_init_14 (by decide) ?_
  refine y_newi (t := 0) (N := 0 * B + 25366) (ty := .int) C rfl (Or.inl ⟨rfl, rfl⟩) yu_30 hP hD hS hA (by decide) (y_l0 (by decide)) (by omega) (Nat.le_of_ble_eq_true rfl) (by show (_ : Nat) ≤ 78754; omega) dX6_init_17 (fun q2 H hP hD hS => ?_)
  have hP : va_P D vwCl ([(h, .inr (6, [.int 0, .int 0, .int 0, .ref q1, .null, .null, .null, .int 0, .null, .int 0, .int 0, .int 0, .int 0, .int 0, .int 0])), (q1, .inl (K 0, 0 * B + 25366, .inl (fun _ => 0))), (q2, .inl (K 0, 0 * B + 25366, .inl (fun _ => 0)))]) H := hP
  have hD : va_D A ([(h, .inr (6, [.int 0, .int 0, .int 0, .ref q1, .null, .null, .null, .int 0, .null, .int 0, .int 0, .int 0, .int 0, .int 0, .int 0])), (q1, .inl (K 0, 0 * B + 25366, .inl (fun _ => 0))), (q2, .inl (K 0, 0 * B + 25366, .inl (fun _ => 0)))]) := hD
  refine va_putF hx hb hts in_6 tyX6 tyX6_ok nmX6 hown hK hP hD hS 0 rfl (ci := 6) rfl 4 (by decide) (hts _ yu_32) (fun _ h => h) rfl hin rfl (ty := tyX6 4) (tyX6_ok 4 (by decide)) rfl rfl (Nat.le_of_ble_eq_true rfl) dX6_init_19 (fun H locs hP hD hS => ?_)
  have hP : va_P D vwCl ([(h, .inr (6, [.int 0, .int 0, .int 0, .ref q1, .ref q2, .null, .null, .int 0, .null, .int 0, .int 0, .int 0, .int 0, .int 0, .int 0])), (q1, .inl (K 0, 0 * B + 25366, .inl (fun _ => 0))), (q2, .inl (K 0, 0 * B + 25366, .inl (fun _ => 0)))]) H := hP
  have hD : va_D A ([(h, .inr (6, [.int 0, .int 0, .int 0, .ref q1, .ref q2, .null, .null, .int 0, .null, .int 0, .int 0, .int 0, .int 0, .int 0, .int 0])), (q1, .inl (K 0, 0 * B + 25366, .inl (fun _ => 0))), (q2, .inl (K 0, 0 * B + 25366, .inl (fun _ => 0)))]) := hD
  refine lv_aload_n hx hb dX6_init_22 rfl (lv_at hl 0 rfl) ?_
  refine lv_sipush (v := 25366) hx hb dX6_init_23 (by decide) ?_
  refine y_newi (t := 0) (N := 0 * B + 25366) (ty := .int) C rfl (Or.inl ⟨rfl, rfl⟩) yu_30 hP hD hS hA (by decide) (y_l0 (by decide)) (by omega) (Nat.le_of_ble_eq_true rfl) (by show (_ : Nat) ≤ 78754; omega) dX6_init_26 (fun q3 H hP hD hS => ?_)
  have hP : va_P D vwCl ([(h, .inr (6, [.int 0, .int 0, .int 0, .ref q1, .ref q2, .null, .null, .int 0, .null, .int 0, .int 0, .int 0, .int 0, .int 0, .int 0])), (q1, .inl (K 0, 0 * B + 25366, .inl (fun _ => 0))), (q2, .inl (K 0, 0 * B + 25366, .inl (fun _ => 0))), (q3, .inl (K 0, 0 * B + 25366, .inl (fun _ => 0)))]) H := hP
  have hD : va_D A ([(h, .inr (6, [.int 0, .int 0, .int 0, .ref q1, .ref q2, .null, .null, .int 0, .null, .int 0, .int 0, .int 0, .int 0, .int 0, .int 0])), (q1, .inl (K 0, 0 * B + 25366, .inl (fun _ => 0))), (q2, .inl (K 0, 0 * B + 25366, .inl (fun _ => 0))), (q3, .inl (K 0, 0 * B + 25366, .inl (fun _ => 0)))]) := hD
  refine va_putF hx hb hts in_6 tyX6 tyX6_ok nmX6 hown hK hP hD hS 0 rfl (ci := 6) rfl 5 (by decide) (hts _ yu_33) (fun _ h => h) rfl hin rfl (ty := tyX6 5) (tyX6_ok 5 (by decide)) rfl rfl (Nat.le_of_ble_eq_true rfl) dX6_init_28 (fun H locs hP hD hS => ?_)
  have hP : va_P D vwCl ([(h, .inr (6, [.int 0, .int 0, .int 0, .ref q1, .ref q2, .ref q3, .null, .int 0, .null, .int 0, .int 0, .int 0, .int 0, .int 0, .int 0])), (q1, .inl (K 0, 0 * B + 25366, .inl (fun _ => 0))), (q2, .inl (K 0, 0 * B + 25366, .inl (fun _ => 0))), (q3, .inl (K 0, 0 * B + 25366, .inl (fun _ => 0)))]) H := hP
  have hD : va_D A ([(h, .inr (6, [.int 0, .int 0, .int 0, .ref q1, .ref q2, .ref q3, .null, .int 0, .null, .int 0, .int 0, .int 0, .int 0, .int 0, .int 0])), (q1, .inl (K 0, 0 * B + 25366, .inl (fun _ => 0))), (q2, .inl (K 0, 0 * B + 25366, .inl (fun _ => 0))), (q3, .inl (K 0, 0 * B + 25366, .inl (fun _ => 0)))]) := hD
  refine lv_aload_n hx hb dX6_init_31 rfl (lv_at hl 0 rfl) ?_
  refine lv_sipush (v := 2560) hx hb dX6_init_32 (by decide) ?_
  refine y_newi (t := 0) (N := 0 * B + 2560) (ty := .int) C rfl (Or.inl ⟨rfl, rfl⟩) yu_30 hP hD hS hA (by decide) (y_l0 (by decide)) (by omega) (Nat.le_of_ble_eq_true rfl) (by show (_ : Nat) ≤ 78754; omega) dX6_init_35 (fun q4 H hP hD hS => ?_)
  have hP : va_P D vwCl ([(h, .inr (6, [.int 0, .int 0, .int 0, .ref q1, .ref q2, .ref q3, .null, .int 0, .null, .int 0, .int 0, .int 0, .int 0, .int 0, .int 0])), (q1, .inl (K 0, 0 * B + 25366, .inl (fun _ => 0))), (q2, .inl (K 0, 0 * B + 25366, .inl (fun _ => 0))), (q3, .inl (K 0, 0 * B + 25366, .inl (fun _ => 0))), (q4, .inl (K 0, 0 * B + 2560, .inl (fun _ => 0)))]) H := hP
  have hD : va_D A ([(h, .inr (6, [.int 0, .int 0, .int 0, .ref q1, .ref q2, .ref q3, .null, .int 0, .null, .int 0, .int 0, .int 0, .int 0, .int 0, .int 0])), (q1, .inl (K 0, 0 * B + 25366, .inl (fun _ => 0))), (q2, .inl (K 0, 0 * B + 25366, .inl (fun _ => 0))), (q3, .inl (K 0, 0 * B + 25366, .inl (fun _ => 0))), (q4, .inl (K 0, 0 * B + 2560, .inl (fun _ => 0)))]) := hD
  refine va_putF hx hb hts in_6 tyX6 tyX6_ok nmX6 hown hK hP hD hS 0 rfl (ci := 6) rfl 6 (by decide) (hts _ yu_34) (fun _ h => h) rfl hin rfl (ty := tyX6 6) (tyX6_ok 6 (by decide)) rfl rfl (Nat.le_of_ble_eq_true rfl) dX6_init_37 (fun H locs hP hD hS => ?_)
  have hP : va_P D vwCl ([(h, .inr (6, [.int 0, .int 0, .int 0, .ref q1, .ref q2, .ref q3, .ref q4, .int 0, .null, .int 0, .int 0, .int 0, .int 0, .int 0, .int 0])), (q1, .inl (K 0, 0 * B + 25366, .inl (fun _ => 0))), (q2, .inl (K 0, 0 * B + 25366, .inl (fun _ => 0))), (q3, .inl (K 0, 0 * B + 25366, .inl (fun _ => 0))), (q4, .inl (K 0, 0 * B + 2560, .inl (fun _ => 0)))]) H := hP
  have hD : va_D A ([(h, .inr (6, [.int 0, .int 0, .int 0, .ref q1, .ref q2, .ref q3, .ref q4, .int 0, .null, .int 0, .int 0, .int 0, .int 0, .int 0, .int 0])), (q1, .inl (K 0, 0 * B + 25366, .inl (fun _ => 0))), (q2, .inl (K 0, 0 * B + 25366, .inl (fun _ => 0))), (q3, .inl (K 0, 0 * B + 25366, .inl (fun _ => 0))), (q4, .inl (K 0, 0 * B + 2560, .inl (fun _ => 0)))]) := hD
  refine lv_aload_n hx hb dX6_init_40 rfl (lv_at hl 0 rfl) ?_
  refine lv_bipush (v := 96) hx hb dX6_init_41 (by decide) ?_
  refine y_newi (t := 2) (N := 0 * B + 96) (ty := .boolean) C rfl (Or.inr (Or.inr ⟨rfl, rfl⟩)) yu_25 hP hD hS hA (by decide) (y_l0 (by decide)) (by omega) (Nat.le_of_ble_eq_true rfl) (by show (_ : Nat) ≤ 78754; omega) dX6_init_43 (fun q5 H hP hD hS => ?_)
  have hP : va_P D vwCl ([(h, .inr (6, [.int 0, .int 0, .int 0, .ref q1, .ref q2, .ref q3, .ref q4, .int 0, .null, .int 0, .int 0, .int 0, .int 0, .int 0, .int 0])), (q1, .inl (K 0, 0 * B + 25366, .inl (fun _ => 0))), (q2, .inl (K 0, 0 * B + 25366, .inl (fun _ => 0))), (q3, .inl (K 0, 0 * B + 25366, .inl (fun _ => 0))), (q4, .inl (K 0, 0 * B + 2560, .inl (fun _ => 0))), (q5, .inl (K 2, 0 * B + 96, .inl (fun _ => 0)))]) H := hP
  have hD : va_D A ([(h, .inr (6, [.int 0, .int 0, .int 0, .ref q1, .ref q2, .ref q3, .ref q4, .int 0, .null, .int 0, .int 0, .int 0, .int 0, .int 0, .int 0])), (q1, .inl (K 0, 0 * B + 25366, .inl (fun _ => 0))), (q2, .inl (K 0, 0 * B + 25366, .inl (fun _ => 0))), (q3, .inl (K 0, 0 * B + 25366, .inl (fun _ => 0))), (q4, .inl (K 0, 0 * B + 2560, .inl (fun _ => 0))), (q5, .inl (K 2, 0 * B + 96, .inl (fun _ => 0)))]) := hD
  refine va_putF hx hb hts in_6 tyX6 tyX6_ok nmX6 hown hK hP hD hS 0 rfl (ci := 6) rfl 8 (by decide) (hts _ yu_35) (fun _ h => h) rfl hin rfl (ty := tyX6 8) (tyX6_ok 8 (by decide)) rfl rfl (Nat.le_of_ble_eq_true rfl) dX6_init_45 (fun H locs hP hD hS => ?_)
  have hP : va_P D vwCl ([(h, .inr (6, [.int 0, .int 0, .int 0, .ref q1, .ref q2, .ref q3, .ref q4, .int 0, .ref q5, .int 0, .int 0, .int 0, .int 0, .int 0, .int 0])), (q1, .inl (K 0, 0 * B + 25366, .inl (fun _ => 0))), (q2, .inl (K 0, 0 * B + 25366, .inl (fun _ => 0))), (q3, .inl (K 0, 0 * B + 25366, .inl (fun _ => 0))), (q4, .inl (K 0, 0 * B + 2560, .inl (fun _ => 0))), (q5, .inl (K 2, 0 * B + 96, .inl (fun _ => 0)))]) H := hP
  have hD : va_D A ([(h, .inr (6, [.int 0, .int 0, .int 0, .ref q1, .ref q2, .ref q3, .ref q4, .int 0, .ref q5, .int 0, .int 0, .int 0, .int 0, .int 0, .int 0])), (q1, .inl (K 0, 0 * B + 25366, .inl (fun _ => 0))), (q2, .inl (K 0, 0 * B + 25366, .inl (fun _ => 0))), (q3, .inl (K 0, 0 * B + 25366, .inl (fun _ => 0))), (q4, .inl (K 0, 0 * B + 2560, .inl (fun _ => 0))), (q5, .inl (K 2, 0 * B + 96, .inl (fun _ => 0)))]) := hD
  refine lv_aload_n hx hb dX6_init_48 rfl (lv_at hl 0 rfl) ?_
  refine lv_iconst (v := (-1)) hx hb dX6_init_49 (by decide) ?_
  refine va_put hx hb hts in_6 tyX6 tyX6_ok nmX6 hown hK hP hD hS 0 rfl (ci := 6) rfl 11 (by decide) (hts _ yu_36) (fun _ h => h) rfl (ty := tyX6 11) (tyX6_ok 11 (by decide)) rfl rfl (Nat.le_of_ble_eq_true rfl) dX6_init_50 (fun H locs hP hD hS => ?_)
  have hP : va_P D vwCl ([(h, .inr (6, [.int 0, .int 0, .int 0, .ref q1, .ref q2, .ref q3, .ref q4, .int 0, .ref q5, .int 0, .int 0, .int (-1), .int 0, .int 0, .int 0])), (q1, .inl (K 0, 0 * B + 25366, .inl (fun _ => 0))), (q2, .inl (K 0, 0 * B + 25366, .inl (fun _ => 0))), (q3, .inl (K 0, 0 * B + 25366, .inl (fun _ => 0))), (q4, .inl (K 0, 0 * B + 2560, .inl (fun _ => 0))), (q5, .inl (K 2, 0 * B + 96, .inl (fun _ => 0)))]) H := hP
  have hD : va_D A ([(h, .inr (6, [.int 0, .int 0, .int 0, .ref q1, .ref q2, .ref q3, .ref q4, .int 0, .ref q5, .int 0, .int 0, .int (-1), .int 0, .int 0, .int 0])), (q1, .inl (K 0, 0 * B + 25366, .inl (fun _ => 0))), (q2, .inl (K 0, 0 * B + 25366, .inl (fun _ => 0))), (q3, .inl (K 0, 0 * B + 25366, .inl (fun _ => 0))), (q4, .inl (K 0, 0 * B + 2560, .inl (fun _ => 0))), (q5, .inl (K 2, 0 * B + 96, .inl (fun _ => 0)))]) := hD
  refine lv_aload_n hx hb dX6_init_53 rfl (lv_at hl 0 rfl) ?_
  refine y_mB hx hb (lv_at hl 1 rfl) ?_
  rw [← y_near_eq (by decide), hxB]
  refine va_putF hx hb hts in_6 tyX6 tyX6_ok nmX6 hown hK hP hD hS 0 rfl (ci := 6) rfl 1 (by decide) (hts _ yu_37) (fun _ h => h) rfl hin rfl (ty := tyX6 1) (tyX6_ok 1 (by decide)) rfl rfl (Nat.le_of_ble_eq_true rfl) dX6_init_77 (fun H locs hP hD hS => ?_)
  have hP : va_P D vwCl ([(h, .inr (6, [.int 0, .int (nI B), .int 0, .ref q1, .ref q2, .ref q3, .ref q4, .int 0, .ref q5, .int 0, .int 0, .int (-1), .int 0, .int 0, .int 0])), (q1, .inl (K 0, 0 * B + 25366, .inl (fun _ => 0))), (q2, .inl (K 0, 0 * B + 25366, .inl (fun _ => 0))), (q3, .inl (K 0, 0 * B + 25366, .inl (fun _ => 0))), (q4, .inl (K 0, 0 * B + 2560, .inl (fun _ => 0))), (q5, .inl (K 2, 0 * B + 96, .inl (fun _ => 0)))]) H := hP
  have hD : va_D A ([(h, .inr (6, [.int 0, .int (nI B), .int 0, .ref q1, .ref q2, .ref q3, .ref q4, .int 0, .ref q5, .int 0, .int 0, .int (-1), .int 0, .int 0, .int 0])), (q1, .inl (K 0, 0 * B + 25366, .inl (fun _ => 0))), (q2, .inl (K 0, 0 * B + 25366, .inl (fun _ => 0))), (q3, .inl (K 0, 0 * B + 25366, .inl (fun _ => 0))), (q4, .inl (K 0, 0 * B + 2560, .inl (fun _ => 0))), (q5, .inl (K 2, 0 * B + 96, .inl (fun _ => 0)))]) := hD
  refine lv_aload_n hx hb dX6_init_80 rfl (lv_at hl 0 rfl) ?_
  refine y_mJ hx hb (lv_at hl 2 rfl) ?_
  rw [← y_near_eq (by decide), hyJ]
  refine va_putF hx hb hts in_6 tyX6 tyX6_ok nmX6 hown hK hP hD hS 0 rfl (ci := 6) rfl 2 (by decide) (hts _ yu_38) (fun _ h => h) rfl hin rfl (ty := tyX6 2) (tyX6_ok 2 (by decide)) rfl rfl (Nat.le_of_ble_eq_true rfl) dX6_init_104 (fun H locs hP hD hS => ?_)
  have hP : va_P D vwCl ([(h, .inr (6, [.int 0, .int (nI B), .int (nI J), .ref q1, .ref q2, .ref q3, .ref q4, .int 0, .ref q5, .int 0, .int 0, .int (-1), .int 0, .int 0, .int 0])), (q1, .inl (K 0, 0 * B + 25366, .inl (fun _ => 0))), (q2, .inl (K 0, 0 * B + 25366, .inl (fun _ => 0))), (q3, .inl (K 0, 0 * B + 25366, .inl (fun _ => 0))), (q4, .inl (K 0, 0 * B + 2560, .inl (fun _ => 0))), (q5, .inl (K 2, 0 * B + 96, .inl (fun _ => 0)))]) H := hP
  have hD : va_D A ([(h, .inr (6, [.int 0, .int (nI B), .int (nI J), .ref q1, .ref q2, .ref q3, .ref q4, .int 0, .ref q5, .int 0, .int 0, .int (-1), .int 0, .int 0, .int 0])), (q1, .inl (K 0, 0 * B + 25366, .inl (fun _ => 0))), (q2, .inl (K 0, 0 * B + 25366, .inl (fun _ => 0))), (q3, .inl (K 0, 0 * B + 25366, .inl (fun _ => 0))), (q4, .inl (K 0, 0 * B + 2560, .inl (fun _ => 0))), (q5, .inl (K 2, 0 * B + 96, .inl (fun _ => 0)))]) := hD
  refine lv_aload_n hx hb dX6_init_107 rfl (lv_at hl 0 rfl) ?_
  refine va_get hx hb hts in_6 hown hK hP 0 rfl (ci := 6) rfl 3 (by decide) (hts _ yu_31) (fun _ h => h) rfl dX6_init_108 ?_
  refine lv_iconst (v := 0) hx hb dX6_init_111 (by decide) ?_
  refine lv_iconst (v := 1) hx hb dX6_init_112 (by decide) ?_
  refine va_iast hx hb hK hP hD hS 1 0 rfl rfl (y_in (k := 0) (by decide) (by decide) (by omega)) dX6_init_113 (fun H locs hP hD hS => ?_)
  have hP : va_P D vwCl ([(h, .inr (6, [.int 0, .int (nI B), .int (nI J), .ref q1, .ref q2, .ref q3, .ref q4, .int 0, .ref q5, .int 0, .int 0, .int (-1), .int 0, .int 0, .int 0])), (q1, .inl (K 0, 0 * B + 25366, .inl (upd (fun _ => 0) (Int32.toNatClampNeg 0) 1))), (q2, .inl (K 0, 0 * B + 25366, .inl (fun _ => 0))), (q3, .inl (K 0, 0 * B + 25366, .inl (fun _ => 0))), (q4, .inl (K 0, 0 * B + 2560, .inl (fun _ => 0))), (q5, .inl (K 2, 0 * B + 96, .inl (fun _ => 0)))]) H := hP
  have hD : va_D A ([(h, .inr (6, [.int 0, .int (nI B), .int (nI J), .ref q1, .ref q2, .ref q3, .ref q4, .int 0, .ref q5, .int 0, .int 0, .int (-1), .int 0, .int 0, .int 0])), (q1, .inl (K 0, 0 * B + 25366, .inl (upd (fun _ => 0) (Int32.toNatClampNeg 0) 1))), (q2, .inl (K 0, 0 * B + 25366, .inl (fun _ => 0))), (q3, .inl (K 0, 0 * B + 25366, .inl (fun _ => 0))), (q4, .inl (K 0, 0 * B + 2560, .inl (fun _ => 0))), (q5, .inl (K 2, 0 * B + 96, .inl (fun _ => 0)))]) := hD
  refine lv_aload_n hx hb dX6_init_114 rfl (lv_at hl 0 rfl) ?_
  refine va_get hx hb hts in_6 hown hK hP 0 rfl (ci := 6) rfl 3 (by decide) (hts _ yu_31) (fun _ h => h) rfl dX6_init_115 ?_
  refine lv_iconst (v := 1) hx hb dX6_init_118 (by decide) ?_
  refine lv_iconst (v := 1) hx hb dX6_init_119 (by decide) ?_
  refine va_iast hx hb hK hP hD hS 1 0 rfl rfl (y_in (k := 1) (by decide) (by decide) (by omega)) dX6_init_120 (fun H locs hP hD hS => ?_)
  have hP : va_P D vwCl ([(h, .inr (6, [.int 0, .int (nI B), .int (nI J), .ref q1, .ref q2, .ref q3, .ref q4, .int 0, .ref q5, .int 0, .int 0, .int (-1), .int 0, .int 0, .int 0])), (q1, .inl (K 0, 0 * B + 25366, .inl (upd (upd (fun _ => 0) (Int32.toNatClampNeg 0) 1) (Int32.toNatClampNeg 1) 1))), (q2, .inl (K 0, 0 * B + 25366, .inl (fun _ => 0))), (q3, .inl (K 0, 0 * B + 25366, .inl (fun _ => 0))), (q4, .inl (K 0, 0 * B + 2560, .inl (fun _ => 0))), (q5, .inl (K 2, 0 * B + 96, .inl (fun _ => 0)))]) H := hP
  have hD : va_D A ([(h, .inr (6, [.int 0, .int (nI B), .int (nI J), .ref q1, .ref q2, .ref q3, .ref q4, .int 0, .ref q5, .int 0, .int 0, .int (-1), .int 0, .int 0, .int 0])), (q1, .inl (K 0, 0 * B + 25366, .inl (upd (upd (fun _ => 0) (Int32.toNatClampNeg 0) 1) (Int32.toNatClampNeg 1) 1))), (q2, .inl (K 0, 0 * B + 25366, .inl (fun _ => 0))), (q3, .inl (K 0, 0 * B + 25366, .inl (fun _ => 0))), (q4, .inl (K 0, 0 * B + 2560, .inl (fun _ => 0))), (q5, .inl (K 2, 0 * B + 96, .inl (fun _ => 0)))]) := hD
  refine lv_aload_n hx hb dX6_init_121 rfl (lv_at hl 0 rfl) ?_
  refine va_get hx hb hts in_6 hown hK hP 0 rfl (ci := 6) rfl 3 (by decide) (hts _ yu_31) (fun _ h => h) rfl dX6_init_122 ?_
  refine lv_bipush (v := 97) hx hb dX6_init_125 (by decide) ?_
  refine lv_iconst (v := 1) hx hb dX6_init_127 (by decide) ?_
  refine va_iast hx hb hK hP hD hS 1 0 rfl rfl (y_in (k := 97) (by decide) (by decide) (by omega)) dX6_init_128 (fun H locs hP hD hS => ?_)
  have hP : va_P D vwCl ([(h, .inr (6, [.int 0, .int (nI B), .int (nI J), .ref q1, .ref q2, .ref q3, .ref q4, .int 0, .ref q5, .int 0, .int 0, .int (-1), .int 0, .int 0, .int 0])), (q1, .inl (K 0, 0 * B + 25366, .inl (upd (upd (upd (fun _ => 0) (Int32.toNatClampNeg 0) 1) (Int32.toNatClampNeg 1) 1) (Int32.toNatClampNeg 97) 1))), (q2, .inl (K 0, 0 * B + 25366, .inl (fun _ => 0))), (q3, .inl (K 0, 0 * B + 25366, .inl (fun _ => 0))), (q4, .inl (K 0, 0 * B + 2560, .inl (fun _ => 0))), (q5, .inl (K 2, 0 * B + 96, .inl (fun _ => 0)))]) H := hP
  have hD : va_D A ([(h, .inr (6, [.int 0, .int (nI B), .int (nI J), .ref q1, .ref q2, .ref q3, .ref q4, .int 0, .ref q5, .int 0, .int 0, .int (-1), .int 0, .int 0, .int 0])), (q1, .inl (K 0, 0 * B + 25366, .inl (upd (upd (upd (fun _ => 0) (Int32.toNatClampNeg 0) 1) (Int32.toNatClampNeg 1) 1) (Int32.toNatClampNeg 97) 1))), (q2, .inl (K 0, 0 * B + 25366, .inl (fun _ => 0))), (q3, .inl (K 0, 0 * B + 25366, .inl (fun _ => 0))), (q4, .inl (K 0, 0 * B + 2560, .inl (fun _ => 0))), (q5, .inl (K 2, 0 * B + 96, .inl (fun _ => 0)))]) := hD
  refine lv_aload_n hx hb dX6_init_129 rfl (lv_at hl 0 rfl) ?_
  refine va_get hx hb hts in_6 hown hK hP 0 rfl (ci := 6) rfl 3 (by decide) (hts _ yu_31) (fun _ h => h) rfl dX6_init_130 ?_
  refine lv_sipush (v := 158) hx hb dX6_init_133 (by decide) ?_
  refine lv_iconst (v := 1) hx hb dX6_init_136 (by decide) ?_
  refine va_iast hx hb hK hP hD hS 1 0 rfl rfl (y_in (k := 158) (by decide) (by decide) (by omega)) dX6_init_137 (fun H locs hP hD hS => ?_)
  have hP : va_P D vwCl ([(h, .inr (6, [.int 0, .int (nI B), .int (nI J), .ref q1, .ref q2, .ref q3, .ref q4, .int 0, .ref q5, .int 0, .int 0, .int (-1), .int 0, .int 0, .int 0])), (q1, .inl (K 0, 0 * B + 25366, .inl (upd (upd (upd (upd (fun _ => 0) (Int32.toNatClampNeg 0) 1) (Int32.toNatClampNeg 1) 1) (Int32.toNatClampNeg 97) 1) (Int32.toNatClampNeg 158) 1))), (q2, .inl (K 0, 0 * B + 25366, .inl (fun _ => 0))), (q3, .inl (K 0, 0 * B + 25366, .inl (fun _ => 0))), (q4, .inl (K 0, 0 * B + 2560, .inl (fun _ => 0))), (q5, .inl (K 2, 0 * B + 96, .inl (fun _ => 0)))]) H := hP
  have hD : va_D A ([(h, .inr (6, [.int 0, .int (nI B), .int (nI J), .ref q1, .ref q2, .ref q3, .ref q4, .int 0, .ref q5, .int 0, .int 0, .int (-1), .int 0, .int 0, .int 0])), (q1, .inl (K 0, 0 * B + 25366, .inl (upd (upd (upd (upd (fun _ => 0) (Int32.toNatClampNeg 0) 1) (Int32.toNatClampNeg 1) 1) (Int32.toNatClampNeg 97) 1) (Int32.toNatClampNeg 158) 1))), (q2, .inl (K 0, 0 * B + 25366, .inl (fun _ => 0))), (q3, .inl (K 0, 0 * B + 25366, .inl (fun _ => 0))), (q4, .inl (K 0, 0 * B + 2560, .inl (fun _ => 0))), (q5, .inl (K 2, 0 * B + 96, .inl (fun _ => 0)))]) := hD
  refine lv_aload_n hx hb dX6_init_138 rfl (lv_at hl 0 rfl) ?_
  refine va_get hx hb hts in_6 hown hK hP 0 rfl (ci := 6) rfl 3 (by decide) (hts _ yu_31) (fun _ h => h) rfl dX6_init_139 ?_
  refine lv_sipush (v := 3757) hx hb dX6_init_142 (by decide) ?_
  refine lv_iconst (v := 1) hx hb dX6_init_145 (by decide) ?_
  refine va_iast hx hb hK hP hD hS 1 0 rfl rfl (y_in (k := 3757) (by decide) (by decide) (by omega)) dX6_init_146 (fun H locs hP hD hS => ?_)
  have hP : va_P D vwCl ([(h, .inr (6, [.int 0, .int (nI B), .int (nI J), .ref q1, .ref q2, .ref q3, .ref q4, .int 0, .ref q5, .int 0, .int 0, .int (-1), .int 0, .int 0, .int 0])), (q1, .inl (K 0, 0 * B + 25366, .inl (upd (upd (upd (upd (upd (fun _ => 0) (Int32.toNatClampNeg 0) 1) (Int32.toNatClampNeg 1) 1) (Int32.toNatClampNeg 97) 1) (Int32.toNatClampNeg 158) 1) (Int32.toNatClampNeg 3757) 1))), (q2, .inl (K 0, 0 * B + 25366, .inl (fun _ => 0))), (q3, .inl (K 0, 0 * B + 25366, .inl (fun _ => 0))), (q4, .inl (K 0, 0 * B + 2560, .inl (fun _ => 0))), (q5, .inl (K 2, 0 * B + 96, .inl (fun _ => 0)))]) H := hP
  have hD : va_D A ([(h, .inr (6, [.int 0, .int (nI B), .int (nI J), .ref q1, .ref q2, .ref q3, .ref q4, .int 0, .ref q5, .int 0, .int 0, .int (-1), .int 0, .int 0, .int 0])), (q1, .inl (K 0, 0 * B + 25366, .inl (upd (upd (upd (upd (upd (fun _ => 0) (Int32.toNatClampNeg 0) 1) (Int32.toNatClampNeg 1) 1) (Int32.toNatClampNeg 97) 1) (Int32.toNatClampNeg 158) 1) (Int32.toNatClampNeg 3757) 1))), (q2, .inl (K 0, 0 * B + 25366, .inl (fun _ => 0))), (q3, .inl (K 0, 0 * B + 25366, .inl (fun _ => 0))), (q4, .inl (K 0, 0 * B + 2560, .inl (fun _ => 0))), (q5, .inl (K 2, 0 * B + 96, .inl (fun _ => 0)))]) := hD
  refine lv_aload_n hx hb dX6_init_147 rfl (lv_at hl 0 rfl) ?_
  refine va_get hx hb hts in_6 hown hK hP 0 rfl (ci := 6) rfl 3 (by decide) (hts _ yu_31) (fun _ h => h) rfl dX6_init_148 ?_
  refine lv_sipush (v := 3949) hx hb dX6_init_151 (by decide) ?_
  refine lv_iconst (v := (-1)) hx hb dX6_init_154 (by decide) ?_
  refine va_iast hx hb hK hP hD hS 1 0 rfl rfl (y_in (k := 3949) (by decide) (by decide) (by omega)) dX6_init_155 (fun H locs hP hD hS => ?_)
  have hP : va_P D vwCl ([(h, .inr (6, [.int 0, .int (nI B), .int (nI J), .ref q1, .ref q2, .ref q3, .ref q4, .int 0, .ref q5, .int 0, .int 0, .int (-1), .int 0, .int 0, .int 0])), (q1, .inl (K 0, 0 * B + 25366, .inl (upd (upd (upd (upd (upd (upd (fun _ => 0) (Int32.toNatClampNeg 0) 1) (Int32.toNatClampNeg 1) 1) (Int32.toNatClampNeg 97) 1) (Int32.toNatClampNeg 158) 1) (Int32.toNatClampNeg 3757) 1) (Int32.toNatClampNeg 3949) (-1)))), (q2, .inl (K 0, 0 * B + 25366, .inl (fun _ => 0))), (q3, .inl (K 0, 0 * B + 25366, .inl (fun _ => 0))), (q4, .inl (K 0, 0 * B + 2560, .inl (fun _ => 0))), (q5, .inl (K 2, 0 * B + 96, .inl (fun _ => 0)))]) H := hP
  have hD : va_D A ([(h, .inr (6, [.int 0, .int (nI B), .int (nI J), .ref q1, .ref q2, .ref q3, .ref q4, .int 0, .ref q5, .int 0, .int 0, .int (-1), .int 0, .int 0, .int 0])), (q1, .inl (K 0, 0 * B + 25366, .inl (upd (upd (upd (upd (upd (upd (fun _ => 0) (Int32.toNatClampNeg 0) 1) (Int32.toNatClampNeg 1) 1) (Int32.toNatClampNeg 97) 1) (Int32.toNatClampNeg 158) 1) (Int32.toNatClampNeg 3757) 1) (Int32.toNatClampNeg 3949) (-1)))), (q2, .inl (K 0, 0 * B + 25366, .inl (fun _ => 0))), (q3, .inl (K 0, 0 * B + 25366, .inl (fun _ => 0))), (q4, .inl (K 0, 0 * B + 2560, .inl (fun _ => 0))), (q5, .inl (K 2, 0 * B + 96, .inl (fun _ => 0)))]) := hD
  refine lv_aload_n hx hb dX6_init_156 rfl (lv_at hl 0 rfl) ?_
  refine va_get hx hb hts in_6 hown hK hP 0 rfl (ci := 6) rfl 3 (by decide) (hts _ yu_31) (fun _ h => h) rfl dX6_init_157 ?_
  refine lv_sipush (v := 3853) hx hb dX6_init_160 (by decide) ?_
  refine lv_iconst (v := 1) hx hb dX6_init_163 (by decide) ?_
  refine va_iast hx hb hK hP hD hS 1 0 rfl rfl (y_in (k := 3853) (by decide) (by decide) (by omega)) dX6_init_164 (fun H locs hP hD hS => ?_)
  have hP : va_P D vwCl ([(h, .inr (6, [.int 0, .int (nI B), .int (nI J), .ref q1, .ref q2, .ref q3, .ref q4, .int 0, .ref q5, .int 0, .int 0, .int (-1), .int 0, .int 0, .int 0])), (q1, .inl (K 0, 0 * B + 25366, .inl (upd (upd (upd (upd (upd (upd (upd (fun _ => 0) (Int32.toNatClampNeg 0) 1) (Int32.toNatClampNeg 1) 1) (Int32.toNatClampNeg 97) 1) (Int32.toNatClampNeg 158) 1) (Int32.toNatClampNeg 3757) 1) (Int32.toNatClampNeg 3949) (-1)) (Int32.toNatClampNeg 3853) 1))), (q2, .inl (K 0, 0 * B + 25366, .inl (fun _ => 0))), (q3, .inl (K 0, 0 * B + 25366, .inl (fun _ => 0))), (q4, .inl (K 0, 0 * B + 2560, .inl (fun _ => 0))), (q5, .inl (K 2, 0 * B + 96, .inl (fun _ => 0)))]) H := hP
  have hD : va_D A ([(h, .inr (6, [.int 0, .int (nI B), .int (nI J), .ref q1, .ref q2, .ref q3, .ref q4, .int 0, .ref q5, .int 0, .int 0, .int (-1), .int 0, .int 0, .int 0])), (q1, .inl (K 0, 0 * B + 25366, .inl (upd (upd (upd (upd (upd (upd (upd (fun _ => 0) (Int32.toNatClampNeg 0) 1) (Int32.toNatClampNeg 1) 1) (Int32.toNatClampNeg 97) 1) (Int32.toNatClampNeg 158) 1) (Int32.toNatClampNeg 3757) 1) (Int32.toNatClampNeg 3949) (-1)) (Int32.toNatClampNeg 3853) 1))), (q2, .inl (K 0, 0 * B + 25366, .inl (fun _ => 0))), (q3, .inl (K 0, 0 * B + 25366, .inl (fun _ => 0))), (q4, .inl (K 0, 0 * B + 2560, .inl (fun _ => 0))), (q5, .inl (K 2, 0 * B + 96, .inl (fun _ => 0)))]) := hD
  refine lv_aload_n hx hb dX6_init_165 rfl (lv_at hl 0 rfl) ?_
  refine va_get hx hb hts in_6 hown hK hP 0 rfl (ci := 6) rfl 3 (by decide) (hts _ yu_31) (fun _ h => h) rfl dX6_init_166 ?_
  refine lv_sipush (v := 4636) hx hb dX6_init_169 (by decide) ?_
  refine lv_iconst (v := 1) hx hb dX6_init_172 (by decide) ?_
  refine va_iast hx hb hK hP hD hS 1 0 rfl rfl (y_in (k := 4636) (by decide) (by decide) (by omega)) dX6_init_173 (fun H locs hP hD hS => ?_)
  have hP : va_P D vwCl ([(h, .inr (6, [.int 0, .int (nI B), .int (nI J), .ref q1, .ref q2, .ref q3, .ref q4, .int 0, .ref q5, .int 0, .int 0, .int (-1), .int 0, .int 0, .int 0])), (q1, .inl (K 0, 0 * B + 25366, .inl (upd (upd (upd (upd (upd (upd (upd (upd (fun _ => 0) (Int32.toNatClampNeg 0) 1) (Int32.toNatClampNeg 1) 1) (Int32.toNatClampNeg 97) 1) (Int32.toNatClampNeg 158) 1) (Int32.toNatClampNeg 3757) 1) (Int32.toNatClampNeg 3949) (-1)) (Int32.toNatClampNeg 3853) 1) (Int32.toNatClampNeg 4636) 1))), (q2, .inl (K 0, 0 * B + 25366, .inl (fun _ => 0))), (q3, .inl (K 0, 0 * B + 25366, .inl (fun _ => 0))), (q4, .inl (K 0, 0 * B + 2560, .inl (fun _ => 0))), (q5, .inl (K 2, 0 * B + 96, .inl (fun _ => 0)))]) H := hP
  have hD : va_D A ([(h, .inr (6, [.int 0, .int (nI B), .int (nI J), .ref q1, .ref q2, .ref q3, .ref q4, .int 0, .ref q5, .int 0, .int 0, .int (-1), .int 0, .int 0, .int 0])), (q1, .inl (K 0, 0 * B + 25366, .inl (upd (upd (upd (upd (upd (upd (upd (upd (fun _ => 0) (Int32.toNatClampNeg 0) 1) (Int32.toNatClampNeg 1) 1) (Int32.toNatClampNeg 97) 1) (Int32.toNatClampNeg 158) 1) (Int32.toNatClampNeg 3757) 1) (Int32.toNatClampNeg 3949) (-1)) (Int32.toNatClampNeg 3853) 1) (Int32.toNatClampNeg 4636) 1))), (q2, .inl (K 0, 0 * B + 25366, .inl (fun _ => 0))), (q3, .inl (K 0, 0 * B + 25366, .inl (fun _ => 0))), (q4, .inl (K 0, 0 * B + 2560, .inl (fun _ => 0))), (q5, .inl (K 2, 0 * B + 96, .inl (fun _ => 0)))]) := hD
  refine lv_aload_n hx hb dX6_init_174 rfl (lv_at hl 0 rfl) ?_
  refine va_get hx hb hts in_6 hown hK hP 0 rfl (ci := 6) rfl 3 (by decide) (hts _ yu_31) (fun _ h => h) rfl dX6_init_175 ?_
  refine lv_sipush (v := 9244) hx hb dX6_init_178 (by decide) ?_
  refine lv_bipush (v := 6) hx hb dX6_init_181 (by decide) ?_
  refine va_iast hx hb hK hP hD hS 1 0 rfl rfl (y_in (k := 9244) (by decide) (by decide) (by omega)) dX6_init_183 (fun H locs hP hD hS => ?_)
  have hP : va_P D vwCl ([(h, .inr (6, [.int 0, .int (nI B), .int (nI J), .ref q1, .ref q2, .ref q3, .ref q4, .int 0, .ref q5, .int 0, .int 0, .int (-1), .int 0, .int 0, .int 0])), (q1, .inl (K 0, 0 * B + 25366, .inl (upd (upd (upd (upd (upd (upd (upd (upd (upd (fun _ => 0) (Int32.toNatClampNeg 0) 1) (Int32.toNatClampNeg 1) 1) (Int32.toNatClampNeg 97) 1) (Int32.toNatClampNeg 158) 1) (Int32.toNatClampNeg 3757) 1) (Int32.toNatClampNeg 3949) (-1)) (Int32.toNatClampNeg 3853) 1) (Int32.toNatClampNeg 4636) 1) (Int32.toNatClampNeg 9244) 6))), (q2, .inl (K 0, 0 * B + 25366, .inl (fun _ => 0))), (q3, .inl (K 0, 0 * B + 25366, .inl (fun _ => 0))), (q4, .inl (K 0, 0 * B + 2560, .inl (fun _ => 0))), (q5, .inl (K 2, 0 * B + 96, .inl (fun _ => 0)))]) H := hP
  have hD : va_D A ([(h, .inr (6, [.int 0, .int (nI B), .int (nI J), .ref q1, .ref q2, .ref q3, .ref q4, .int 0, .ref q5, .int 0, .int 0, .int (-1), .int 0, .int 0, .int 0])), (q1, .inl (K 0, 0 * B + 25366, .inl (upd (upd (upd (upd (upd (upd (upd (upd (upd (fun _ => 0) (Int32.toNatClampNeg 0) 1) (Int32.toNatClampNeg 1) 1) (Int32.toNatClampNeg 97) 1) (Int32.toNatClampNeg 158) 1) (Int32.toNatClampNeg 3757) 1) (Int32.toNatClampNeg 3949) (-1)) (Int32.toNatClampNeg 3853) 1) (Int32.toNatClampNeg 4636) 1) (Int32.toNatClampNeg 9244) 6))), (q2, .inl (K 0, 0 * B + 25366, .inl (fun _ => 0))), (q3, .inl (K 0, 0 * B + 25366, .inl (fun _ => 0))), (q4, .inl (K 0, 0 * B + 2560, .inl (fun _ => 0))), (q5, .inl (K 2, 0 * B + 96, .inl (fun _ => 0)))]) := hD
  refine lv_aload_n hx hb dX6_init_184 rfl (lv_at hl 0 rfl) ?_
  refine va_get hx hb hts in_6 hown hK hP 0 rfl (ci := 6) rfl 3 (by decide) (hts _ yu_31) (fun _ h => h) rfl dX6_init_185 ?_
  refine lv_sipush (v := 12300) hx hb dX6_init_188 (by decide) ?_
  refine lv_iconst (v := 1) hx hb dX6_init_191 (by decide) ?_
  refine va_iast hx hb hK hP hD hS 1 0 rfl rfl (y_in (k := 12300) (by decide) (by decide) (by omega)) dX6_init_192 (fun H locs hP hD hS => ?_)
  have hP : va_P D vwCl ([(h, .inr (6, [.int 0, .int (nI B), .int (nI J), .ref q1, .ref q2, .ref q3, .ref q4, .int 0, .ref q5, .int 0, .int 0, .int (-1), .int 0, .int 0, .int 0])), (q1, .inl (K 0, 0 * B + 25366, .inl (upd (upd (upd (upd (upd (upd (upd (upd (upd (upd (fun _ => 0) (Int32.toNatClampNeg 0) 1) (Int32.toNatClampNeg 1) 1) (Int32.toNatClampNeg 97) 1) (Int32.toNatClampNeg 158) 1) (Int32.toNatClampNeg 3757) 1) (Int32.toNatClampNeg 3949) (-1)) (Int32.toNatClampNeg 3853) 1) (Int32.toNatClampNeg 4636) 1) (Int32.toNatClampNeg 9244) 6) (Int32.toNatClampNeg 12300) 1))), (q2, .inl (K 0, 0 * B + 25366, .inl (fun _ => 0))), (q3, .inl (K 0, 0 * B + 25366, .inl (fun _ => 0))), (q4, .inl (K 0, 0 * B + 2560, .inl (fun _ => 0))), (q5, .inl (K 2, 0 * B + 96, .inl (fun _ => 0)))]) H := hP
  have hD : va_D A ([(h, .inr (6, [.int 0, .int (nI B), .int (nI J), .ref q1, .ref q2, .ref q3, .ref q4, .int 0, .ref q5, .int 0, .int 0, .int (-1), .int 0, .int 0, .int 0])), (q1, .inl (K 0, 0 * B + 25366, .inl (upd (upd (upd (upd (upd (upd (upd (upd (upd (upd (fun _ => 0) (Int32.toNatClampNeg 0) 1) (Int32.toNatClampNeg 1) 1) (Int32.toNatClampNeg 97) 1) (Int32.toNatClampNeg 158) 1) (Int32.toNatClampNeg 3757) 1) (Int32.toNatClampNeg 3949) (-1)) (Int32.toNatClampNeg 3853) 1) (Int32.toNatClampNeg 4636) 1) (Int32.toNatClampNeg 9244) 6) (Int32.toNatClampNeg 12300) 1))), (q2, .inl (K 0, 0 * B + 25366, .inl (fun _ => 0))), (q3, .inl (K 0, 0 * B + 25366, .inl (fun _ => 0))), (q4, .inl (K 0, 0 * B + 2560, .inl (fun _ => 0))), (q5, .inl (K 2, 0 * B + 96, .inl (fun _ => 0)))]) := hD
  refine lv_aload_n hx hb dX6_init_193 rfl (lv_at hl 0 rfl) ?_
  refine va_get hx hb hts in_6 hown hK hP 0 rfl (ci := 6) rfl 3 (by decide) (hts _ yu_31) (fun _ h => h) rfl dX6_init_194 ?_
  refine lv_sipush (v := 13068) hx hb dX6_init_197 (by decide) ?_
  refine lv_iconst (v := 1) hx hb dX6_init_200 (by decide) ?_
  refine va_iast hx hb hK hP hD hS 1 0 rfl rfl (y_in (k := 13068) (by decide) (by decide) (by omega)) dX6_init_201 (fun H locs hP hD hS => ?_)
  have hP : va_P D vwCl ([(h, .inr (6, [.int 0, .int (nI B), .int (nI J), .ref q1, .ref q2, .ref q3, .ref q4, .int 0, .ref q5, .int 0, .int 0, .int (-1), .int 0, .int 0, .int 0])), (q1, .inl (K 0, 0 * B + 25366, .inl (upd (upd (upd (upd (upd (upd (upd (upd (upd (upd (upd (fun _ => 0) (Int32.toNatClampNeg 0) 1) (Int32.toNatClampNeg 1) 1) (Int32.toNatClampNeg 97) 1) (Int32.toNatClampNeg 158) 1) (Int32.toNatClampNeg 3757) 1) (Int32.toNatClampNeg 3949) (-1)) (Int32.toNatClampNeg 3853) 1) (Int32.toNatClampNeg 4636) 1) (Int32.toNatClampNeg 9244) 6) (Int32.toNatClampNeg 12300) 1) (Int32.toNatClampNeg 13068) 1))), (q2, .inl (K 0, 0 * B + 25366, .inl (fun _ => 0))), (q3, .inl (K 0, 0 * B + 25366, .inl (fun _ => 0))), (q4, .inl (K 0, 0 * B + 2560, .inl (fun _ => 0))), (q5, .inl (K 2, 0 * B + 96, .inl (fun _ => 0)))]) H := hP
  have hD : va_D A ([(h, .inr (6, [.int 0, .int (nI B), .int (nI J), .ref q1, .ref q2, .ref q3, .ref q4, .int 0, .ref q5, .int 0, .int 0, .int (-1), .int 0, .int 0, .int 0])), (q1, .inl (K 0, 0 * B + 25366, .inl (upd (upd (upd (upd (upd (upd (upd (upd (upd (upd (upd (fun _ => 0) (Int32.toNatClampNeg 0) 1) (Int32.toNatClampNeg 1) 1) (Int32.toNatClampNeg 97) 1) (Int32.toNatClampNeg 158) 1) (Int32.toNatClampNeg 3757) 1) (Int32.toNatClampNeg 3949) (-1)) (Int32.toNatClampNeg 3853) 1) (Int32.toNatClampNeg 4636) 1) (Int32.toNatClampNeg 9244) 6) (Int32.toNatClampNeg 12300) 1) (Int32.toNatClampNeg 13068) 1))), (q2, .inl (K 0, 0 * B + 25366, .inl (fun _ => 0))), (q3, .inl (K 0, 0 * B + 25366, .inl (fun _ => 0))), (q4, .inl (K 0, 0 * B + 2560, .inl (fun _ => 0))), (q5, .inl (K 2, 0 * B + 96, .inl (fun _ => 0)))]) := hD
  refine lv_aload_n hx hb dX6_init_202 rfl (lv_at hl 0 rfl) ?_
  refine va_get hx hb hts in_6 hown hK hP 0 rfl (ci := 6) rfl 3 (by decide) (hts _ yu_31) (fun _ h => h) rfl dX6_init_203 ?_
  refine lv_sipush (v := 13076) hx hb dX6_init_206 (by decide) ?_
  refine lv_iconst (v := 1) hx hb dX6_init_209 (by decide) ?_
  refine va_iast hx hb hK hP hD hS 1 0 rfl rfl (y_in (k := 13076) (by decide) (by decide) (by omega)) dX6_init_210 (fun H locs hP hD hS => ?_)
  have hP : va_P D vwCl ([(h, .inr (6, [.int 0, .int (nI B), .int (nI J), .ref q1, .ref q2, .ref q3, .ref q4, .int 0, .ref q5, .int 0, .int 0, .int (-1), .int 0, .int 0, .int 0])), (q1, .inl (K 0, 0 * B + 25366, .inl (upd (upd (upd (upd (upd (upd (upd (upd (upd (upd (upd (upd (fun _ => 0) (Int32.toNatClampNeg 0) 1) (Int32.toNatClampNeg 1) 1) (Int32.toNatClampNeg 97) 1) (Int32.toNatClampNeg 158) 1) (Int32.toNatClampNeg 3757) 1) (Int32.toNatClampNeg 3949) (-1)) (Int32.toNatClampNeg 3853) 1) (Int32.toNatClampNeg 4636) 1) (Int32.toNatClampNeg 9244) 6) (Int32.toNatClampNeg 12300) 1) (Int32.toNatClampNeg 13068) 1) (Int32.toNatClampNeg 13076) 1))), (q2, .inl (K 0, 0 * B + 25366, .inl (fun _ => 0))), (q3, .inl (K 0, 0 * B + 25366, .inl (fun _ => 0))), (q4, .inl (K 0, 0 * B + 2560, .inl (fun _ => 0))), (q5, .inl (K 2, 0 * B + 96, .inl (fun _ => 0)))]) H := hP
  have hD : va_D A ([(h, .inr (6, [.int 0, .int (nI B), .int (nI J), .ref q1, .ref q2, .ref q3, .ref q4, .int 0, .ref q5, .int 0, .int 0, .int (-1), .int 0, .int 0, .int 0])), (q1, .inl (K 0, 0 * B + 25366, .inl (upd (upd (upd (upd (upd (upd (upd (upd (upd (upd (upd (upd (fun _ => 0) (Int32.toNatClampNeg 0) 1) (Int32.toNatClampNeg 1) 1) (Int32.toNatClampNeg 97) 1) (Int32.toNatClampNeg 158) 1) (Int32.toNatClampNeg 3757) 1) (Int32.toNatClampNeg 3949) (-1)) (Int32.toNatClampNeg 3853) 1) (Int32.toNatClampNeg 4636) 1) (Int32.toNatClampNeg 9244) 6) (Int32.toNatClampNeg 12300) 1) (Int32.toNatClampNeg 13068) 1) (Int32.toNatClampNeg 13076) 1))), (q2, .inl (K 0, 0 * B + 25366, .inl (fun _ => 0))), (q3, .inl (K 0, 0 * B + 25366, .inl (fun _ => 0))), (q4, .inl (K 0, 0 * B + 2560, .inl (fun _ => 0))), (q5, .inl (K 2, 0 * B + 96, .inl (fun _ => 0)))]) := hD
  refine lv_aload_n hx hb dX6_init_211 rfl (lv_at hl 0 rfl) ?_
  refine va_get hx hb hts in_6 hown hK hP 0 rfl (ci := 6) rfl 3 (by decide) (hts _ yu_31) (fun _ h => h) rfl dX6_init_212 ?_
  refine lv_sipush (v := 13077) hx hb dX6_init_215 (by decide) ?_
  refine lv_iconst (v := 1) hx hb dX6_init_218 (by decide) ?_
  refine va_iast hx hb hK hP hD hS 1 0 rfl rfl (y_in (k := 13077) (by decide) (by decide) (by omega)) dX6_init_219 (fun H locs hP hD hS => ?_)
  have hP : va_P D vwCl ([(h, .inr (6, [.int 0, .int (nI B), .int (nI J), .ref q1, .ref q2, .ref q3, .ref q4, .int 0, .ref q5, .int 0, .int 0, .int (-1), .int 0, .int 0, .int 0])), (q1, .inl (K 0, 0 * B + 25366, .inl (upd (upd (upd (upd (upd (upd (upd (upd (upd (upd (upd (upd (upd (fun _ => 0) (Int32.toNatClampNeg 0) 1) (Int32.toNatClampNeg 1) 1) (Int32.toNatClampNeg 97) 1) (Int32.toNatClampNeg 158) 1) (Int32.toNatClampNeg 3757) 1) (Int32.toNatClampNeg 3949) (-1)) (Int32.toNatClampNeg 3853) 1) (Int32.toNatClampNeg 4636) 1) (Int32.toNatClampNeg 9244) 6) (Int32.toNatClampNeg 12300) 1) (Int32.toNatClampNeg 13068) 1) (Int32.toNatClampNeg 13076) 1) (Int32.toNatClampNeg 13077) 1))), (q2, .inl (K 0, 0 * B + 25366, .inl (fun _ => 0))), (q3, .inl (K 0, 0 * B + 25366, .inl (fun _ => 0))), (q4, .inl (K 0, 0 * B + 2560, .inl (fun _ => 0))), (q5, .inl (K 2, 0 * B + 96, .inl (fun _ => 0)))]) H := hP
  have hD : va_D A ([(h, .inr (6, [.int 0, .int (nI B), .int (nI J), .ref q1, .ref q2, .ref q3, .ref q4, .int 0, .ref q5, .int 0, .int 0, .int (-1), .int 0, .int 0, .int 0])), (q1, .inl (K 0, 0 * B + 25366, .inl (upd (upd (upd (upd (upd (upd (upd (upd (upd (upd (upd (upd (upd (fun _ => 0) (Int32.toNatClampNeg 0) 1) (Int32.toNatClampNeg 1) 1) (Int32.toNatClampNeg 97) 1) (Int32.toNatClampNeg 158) 1) (Int32.toNatClampNeg 3757) 1) (Int32.toNatClampNeg 3949) (-1)) (Int32.toNatClampNeg 3853) 1) (Int32.toNatClampNeg 4636) 1) (Int32.toNatClampNeg 9244) 6) (Int32.toNatClampNeg 12300) 1) (Int32.toNatClampNeg 13068) 1) (Int32.toNatClampNeg 13076) 1) (Int32.toNatClampNeg 13077) 1))), (q2, .inl (K 0, 0 * B + 25366, .inl (fun _ => 0))), (q3, .inl (K 0, 0 * B + 25366, .inl (fun _ => 0))), (q4, .inl (K 0, 0 * B + 2560, .inl (fun _ => 0))), (q5, .inl (K 2, 0 * B + 96, .inl (fun _ => 0)))]) := hD
  have hP : va_P D vwCl ([(h, .inr (6, [.int 0, .int (nI B), .int (nI J), .ref q1, .ref q2, .ref q3, .ref q4, .int 0, .ref q5, .int 0, .int 0, .int (-1), .int 0, .int 0, .int 0])), (q1, .inl (K 0, 0 * B + 25366, .inl (f_1))), (q2, .inl (K 0, 0 * B + 25366, .inl (fun _ => 0))), (q3, .inl (K 0, 0 * B + 25366, .inl (fun _ => 0))), (q4, .inl (K 0, 0 * B + 2560, .inl (fun _ => 0))), (q5, .inl (K 2, 0 * B + 96, .inl (fun _ => 0)))]) H := hP
  have hD : va_D A ([(h, .inr (6, [.int 0, .int (nI B), .int (nI J), .ref q1, .ref q2, .ref q3, .ref q4, .int 0, .ref q5, .int 0, .int 0, .int (-1), .int 0, .int 0, .int 0])), (q1, .inl (K 0, 0 * B + 25366, .inl (f_1))), (q2, .inl (K 0, 0 * B + 25366, .inl (fun _ => 0))), (q3, .inl (K 0, 0 * B + 25366, .inl (fun _ => 0))), (q4, .inl (K 0, 0 * B + 2560, .inl (fun _ => 0))), (q5, .inl (K 2, 0 * B + 96, .inl (fun _ => 0)))]) := hD
  refine lv_aload_n hx hb dX6_init_220 rfl (lv_at hl 0 rfl) ?_
  refine va_get hx hb hts in_6 hown hK hP 0 rfl (ci := 6) rfl 3 (by decide) (hts _ yu_31) (fun _ h => h) rfl dX6_init_221 ?_
  refine lv_aload_n hx hb dX6_init_224 rfl (lv_at hl 0 rfl) ?_
  refine va_get hx hb hts in_6 hown hK hP 0 rfl (ci := 6) rfl 5 (by decide) (hts _ yu_33) (fun _ h => h) rfl dX6_init_225 ?_
  refine y_callS (isC := [1, 3]) (isR := [0, 2, 4, 5]) (wr := [(h, .inr (6, [.int 0, .int (nI B), .int (nI J), .ref q1, .ref q2, .ref q3, .ref q4, .int 0, .ref q5, .int 0, .int 0, .int (-1), .int 0, .int 0, .int 0])), (q2, .inl (K 0, 0 * B + 25366, .inl (fun _ => 0))), (q4, .inl (K 0, 0 * B + 2560, .inl (fun _ => 0))), (q5, .inl (K 2, 0 * B + 96, .inl (fun _ => 0)))]) (rest := []) (n_X6_keep (B := B)) C hP hD hS hA ⟨rfl, rfl, by decide, by decide, by decide⟩ ok_X6_keep yu_39 rfl hl.1 ⟨Nat.le_of_ble_eq_true rfl, Nat.le_of_ble_eq_true rfl⟩ (Nat.le_of_ble_eq_true rfl) dX6_init_228 (mc := 0) (ms := 0) ⟨rfl, rfl⟩ ⟨Nat.le_of_ble_eq_true rfl, by show (_ : Nat) ≤ 78754; omega⟩ rfl (fun _ H locs hP hD hS => ?_)
  have hP : va_P D vwCl ([(h, .inr (6, [.int 0, .int (nI B), .int (nI J), .ref q1, .ref q2, .ref q3, .ref q4, .int 0, .ref q5, .int 0, .int 0, .int (-1), .int 0, .int 0, .int 0])), (q2, .inl (K 0, 0 * B + 25366, .inl (fun _ => 0))), (q4, .inl (K 0, 0 * B + 2560, .inl (fun _ => 0))), (q5, .inl (K 2, 0 * B + 96, .inl (fun _ => 0))), (q1, .inl (K 0, 0 * B + 25366, .inl (f_1))), (q3, .inl (K 0, 0 * B + 25366, .inl (fun j => if j < 25366 then f_1 j else 0)))]) H := hP
  have hD : va_D A ([(h, .inr (6, [.int 0, .int (nI B), .int (nI J), .ref q1, .ref q2, .ref q3, .ref q4, .int 0, .ref q5, .int 0, .int 0, .int (-1), .int 0, .int 0, .int 0])), (q2, .inl (K 0, 0 * B + 25366, .inl (fun _ => 0))), (q4, .inl (K 0, 0 * B + 2560, .inl (fun _ => 0))), (q5, .inl (K 2, 0 * B + 96, .inl (fun _ => 0))), (q1, .inl (K 0, 0 * B + 25366, .inl (f_1))), (q3, .inl (K 0, 0 * B + 25366, .inl (fun j => if j < 25366 then f_1 j else 0)))]) := hD
  have hP : va_P D vwCl (y_mod K B J h (fun k => [h, q1, q2, q3, q4, q5].getD k 0)) H := y_sub hP [0, 4, 1, 5, 2, 3] rfl
  have hD : va_D A (y_mod K B J h (fun k => [h, q1, q2, q3, q4, q5].getD k 0)) := hD.sub [0, 4, 1, 5, 2, 3] (by decide) rfl
  refine W.widen (k := 5) (n := 78754) (Nat.le_of_ble_eq_true rfl) (by show (_ : Nat) ≤ 78754; omega) ?_
  exact W.vret hx hb hr (fun t ht _ => ⟨⟨rfl, fun k => [h, q1, q2, q3, q4, q5].getD k 0, by rw [ht]; exact hP, hD⟩, hS.F ht⟩) hS.2.2 dX6_init_231
