/-! The law's static methods, one by one. -/
theorem vw_0 : Cond.methodLink "PackedTreeLaw" 7 yX5_make ∈ z_G := z_Gin (List.mem_of_getElem? (i := 333) (by decide +kernel)) rfl
theorem vw_1 : Cond.classLink "PackedTreeLaw" 13 "java/lang/UnsupportedOperationException" ∈ z_G := z_Gin (List.mem_of_getElem? (i := 329) (by decide +kernel)) rfl
theorem vw_2 : Cond.classLink "PackedTreeLaw" 15 "java/lang/IndexOutOfBoundsException" ∈ z_G := z_Gin (List.mem_of_getElem? (i := 330) (by decide +kernel)) rfl
theorem vw_3 : Cond.classLink "PackedTreeLaw" 17 "java/lang/IllegalArgumentException" ∈ z_G := z_Gin (List.mem_of_getElem? (i := 331) (by decide +kernel)) rfl
theorem vw_4 : Cond.classLink "PackedTreeLaw" 19 "java/lang/IllegalStateException" ∈ z_G := z_Gin (List.mem_of_getElem? (i := 332) (by decide +kernel)) rfl
theorem vw_5 : Cond.methodLink "PackedTreeLaw" 21 yX5_link ∈ z_G := z_Gin (List.mem_of_getElem? (i := 567) (by decide +kernel)) rfl
theorem vw_6 : Cond.methodLink "PackedTreeLaw" 25 yX5_unlink ∈ z_G := z_Gin (List.mem_of_getElem? (i := 579) (by decide +kernel)) rfl
theorem vw_7 : Cond.methodLink "PackedTreeLaw" 29 yX5_move ∈ z_G := z_Gin (List.mem_of_getElem? (i := 641) (by decide +kernel)) rfl
theorem vw_8 : Cond.methodLink "PackedTreeLaw" 33 yX5_write ∈ z_G := z_Gin (List.mem_of_getElem? (i := 653) (by decide +kernel)) rfl
theorem vw_9 : Cond.methodLink "PackedTreeLaw" 37 yX5_fill ∈ z_G := z_Gin (List.mem_of_getElem? (i := 685) (by decide +kernel)) rfl
theorem vw_10 : Cond.methodLink "PackedTreeLaw" 40 yX5_cut ∈ z_G := z_Gin (List.mem_of_getElem? (i := 692) (by decide +kernel)) rfl
theorem vw_11 : Cond.methodLink "PackedTreeLaw" 43 yX5_read ∈ z_G := z_Gin (List.mem_of_getElem? (i := 700) (by decide +kernel)) rfl
theorem vw_12 : Cond.methodLink "PackedTreeLaw" 46 yX5_look ∈ z_G := z_Gin (List.mem_of_getElem? (i := 711) (by decide +kernel)) rfl
theorem vw_13 : Cond.methodLink "PackedTreeLaw" 49 yX5_name ∈ z_G := z_Gin (List.mem_of_getElem? (i := 718) (by decide +kernel)) rfl
theorem vw_14 : Cond.methodLink "PackedTreeLaw" 52 yX5_about ∈ z_G := z_Gin (List.mem_of_getElem? (i := 737) (by decide +kernel)) rfl
theorem vw_15 : Cond.methodLink "PackedTreeLaw" 55 yX5_node ∈ z_G := z_Gin (List.mem_of_getElem? (i := 747) (by decide +kernel)) rfl
theorem vw_16 : Cond.methodLink "PackedTreeLaw" 58 yX5_item ∈ z_G := z_Gin (List.mem_of_getElem? (i := 760) (by decide +kernel)) rfl
theorem vw_17 : Cond.methodLink "PackedTreeLaw" 61 yX5_commit ∈ z_G := z_Gin (List.mem_of_getElem? (i := 777) (by decide +kernel)) rfl
theorem vw_18 : Cond.methodLink "PackedTreeLaw" 65 yX5_checkpoint ∈ z_G := z_Gin (List.mem_of_getElem? (i := 852) (by decide +kernel)) rfl
theorem vw_19 : Cond.methodLink "PackedTreeLaw" 68 yX5_back ∈ z_G := z_Gin (List.mem_of_getElem? (i := 863) (by decide +kernel)) rfl
theorem vw_20 : Cond.methodLink "PackedTreeLaw" 71 yX5_fail ∈ z_G := z_Gin (List.mem_of_getElem? (i := 870) (by decide +kernel)) rfl
theorem vw_21 : Cond.methodLink "PackedTreeLaw" 75 yX5_recover ∈ z_G := z_Gin (List.mem_of_getElem? (i := 878) (by decide +kernel)) rfl
theorem vw_22 : Cond.methodLink "PackedTreeLaw" 78 yX5_count ∈ z_G := z_Gin (List.mem_of_getElem? (i := 886) (by decide +kernel)) rfl
def J_make : v_I := (yL_make, cL_make, 6, [(0, 12, 15, 13), (0, 12, 19, 15), (0, 12, 23, 17), (0, 12, 27, 19)])
set_option maxRecDepth 100000 in
set_option maxHeartbeats 4000000 in
theorem v_make {l : Launch} {B : Nat} {p1 : Int32} {p2 : Int32} {p3 : Int32} {S S1 : z_S} {code : Nat} {w : Int32} (hst : l.stackTraces = false) (hF : F_X5_make B p1 p2 p3 S = some (r_o [E_U, E_I, E_A, E_S] code w, S1)) (hc : code ≤ 4) : v_Met l J_make 8 220 B [.ref 0, .int p1, .int p2, .int p3, .ref 66] S code (fun lg => code = 0 → lg 0 = w.toInt64) S1 := by
  refine v_enter (by decide) (Nat.le_of_ble_eq_true rfl) ?_
  intro p e s m args below meth c D K ad ls C hl hP hf hS
  obtain ⟨hx, hb, hr, hml, hown, hts, hlocks, hK, hado, hxs, htab, hnc⟩ := id C
  have hb : c.code = cL_make := hb
  have hl : lv_has ls 6 [(0, .ref (ad 0)), (1, .int p1), (2, .int p2), (3, .int p3), (4, .ref (ad 66))] := hl
  refine lv_aload hx hb dL_make_0 (lv_at hl 4 rfl) ?_
  refine lv_iconst (v := 0) hx hb dL_make_2 (by decide) ?_
  refine lv_aload_n hx hb dL_make_3 rfl (lv_at hl 0 rfl) ?_
  refine lv_iload_n hx hb dL_make_4 rfl (lv_at hl 1 rfl) ?_
  refine lv_iload_n hx hb dL_make_5 rfl (lv_at hl 2 rfl) ?_
  refine lv_iload_n hx hb dL_make_6 rfl (lv_at hl 3 rfl) ?_
  have hM := c_X5_make hst hF
  rcases (show code = 0 ∨ code = 1 ∨ code = 2 ∨ code = 3 ∨ code = 4 by omega) with rfl | rfl | rfl | rfl | rfl
  · refine v_callR (Y := I_X5_make) (As := [.int p1, .int p2, .int p3]) (rest := [.int 0, .ref (ad 66)]) (ci := 5) (T := TX5) (N := 8) (S1 := S1) (r := some w) ⟨hx, hb, hml, hown, hts⟩ hM hado hK hP (fun U h1 h2 => z_preU hK hxs hP hf hS U h1 h2) hS (fun q h => h) ok_X5_make vw_0 rfl (by decide) (by decide) rfl hl.1 ⟨Nat.le_of_ble_eq_true rfl, Nat.le_of_ble_eq_true rfl⟩ ⟨Nat.zero_le _, Nat.zero_le _⟩ (Nat.le_of_ble_eq_true rfl) dL_make_7 rfl (fun H locs hP hf hS _ => ?_)
    refine lv_i2l hx hb dL_make_10 rfl ?_
    refine va_last hx hb hK hP (z_D hado) hS 66 3 v_l_at rfl (y_in (k := 0) (by decide) (by decide) (by show 0 < 0 * B + 1; omega)) dL_make_11 (fun H locs hP hD hS => ?_)
    rw [v_ul_ws] at hP
    refine lv_goto (tgt := 31) hx hb dL_make_12 (by decide) ?_
    refine lv_iconst (v := 0) hx hb dL_make_31 (by decide) ?_
    refine W.widen (k := 1) (n := 6) (by omega) (by omega) ?_
    exact W.iret hx hb hr (fun t ht _ => ⟨⟨rfl, _, fun _ => rfl, by rw [ht]; exact hP, hf⟩, hS.F ht⟩) hS.2.2 dL_make_32
  · refine v_callX (Y := I_X5_make) (As := [.int p1, .int p2, .int p3]) (rest := [.int 0, .ref (ad 66)]) (ci := 5) (T := TX5) (N := 8) (S1 := S1) (E := E_U) (pre := []) (x := ⟨0, 12, 15, 13⟩) (suf := [⟨0, 12, 19, 15⟩, ⟨0, 12, 23, 17⟩, ⟨0, 12, 27, 19⟩]) C hM hP hf hS ok_X5_make vw_0 rfl (by decide) (by decide) rfl hl.1 ⟨Nat.le_of_ble_eq_true rfl, Nat.le_of_ble_eq_true rfl⟩ ⟨rfl, rfl⟩ (Nat.le_of_ble_eq_true rfl) dL_make_7 rfl rfl (fun z hz => absurd hz List.not_mem_nil) (by decide) (by decide) vw_1 (List.mem_of_getElem? (i := 1) rfl) (fun q H locs hP hf hS => ?_)
    refine lv_astore (lv' := [(5, .ref q), (0, .ref (ad 0)), (1, .int p1), (2, .int p2), (3, .int p3), (4, .ref (ad 66))]) hx hb dL_make_15 hl (by decide) rfl (fun ls hl => ?_)
    refine lv_iconst (v := 1) hx hb dL_make_17 (by decide) ?_
    exact W.iret hx hb hr (fun t ht _ => ⟨⟨rfl, S1.2.2, fun h => absurd h (by decide), by rw [ht]; exact hP, hf⟩, hS.F ht⟩) hS.2.2 dL_make_18
  · refine v_callX (Y := I_X5_make) (As := [.int p1, .int p2, .int p3]) (rest := [.int 0, .ref (ad 66)]) (ci := 5) (T := TX5) (N := 8) (S1 := S1) (E := E_I) (pre := [⟨0, 12, 15, 13⟩]) (x := ⟨0, 12, 19, 15⟩) (suf := [⟨0, 12, 23, 17⟩, ⟨0, 12, 27, 19⟩]) C hM hP hf hS ok_X5_make vw_0 rfl (by decide) (by decide) rfl hl.1 ⟨Nat.le_of_ble_eq_true rfl, Nat.le_of_ble_eq_true rfl⟩ ⟨rfl, rfl⟩ (Nat.le_of_ble_eq_true rfl) dL_make_7 rfl rfl (fun z hz => by
      simp only [List.mem_cons, List.not_mem_nil, or_false] at hz
      rcases hz with rfl
      · exact ⟨by decide, E_U, vw_1, List.mem_of_getElem? (i := 0) rfl⟩) (by decide) (by decide) vw_2 (List.mem_of_getElem? (i := 2) rfl) (fun q H locs hP hf hS => ?_)
    refine lv_astore (lv' := [(5, .ref q), (0, .ref (ad 0)), (1, .int p1), (2, .int p2), (3, .int p3), (4, .ref (ad 66))]) hx hb dL_make_19 hl (by decide) rfl (fun ls hl => ?_)
    refine lv_iconst (v := 2) hx hb dL_make_21 (by decide) ?_
    exact W.iret hx hb hr (fun t ht _ => ⟨⟨rfl, S1.2.2, fun h => absurd h (by decide), by rw [ht]; exact hP, hf⟩, hS.F ht⟩) hS.2.2 dL_make_22
  · refine v_callX (Y := I_X5_make) (As := [.int p1, .int p2, .int p3]) (rest := [.int 0, .ref (ad 66)]) (ci := 5) (T := TX5) (N := 8) (S1 := S1) (E := E_A) (pre := [⟨0, 12, 15, 13⟩, ⟨0, 12, 19, 15⟩]) (x := ⟨0, 12, 23, 17⟩) (suf := [⟨0, 12, 27, 19⟩]) C hM hP hf hS ok_X5_make vw_0 rfl (by decide) (by decide) rfl hl.1 ⟨Nat.le_of_ble_eq_true rfl, Nat.le_of_ble_eq_true rfl⟩ ⟨rfl, rfl⟩ (Nat.le_of_ble_eq_true rfl) dL_make_7 rfl rfl (fun z hz => by
      simp only [List.mem_cons, List.not_mem_nil, or_false] at hz
      rcases hz with rfl | rfl
      · exact ⟨by decide, E_U, vw_1, List.mem_of_getElem? (i := 1) rfl⟩
      · exact ⟨by decide, E_I, vw_2, List.mem_of_getElem? (i := 2) rfl⟩) (by decide) (by decide) vw_3 (List.mem_of_getElem? (i := 3) rfl) (fun q H locs hP hf hS => ?_)
    refine lv_astore (lv' := [(5, .ref q), (0, .ref (ad 0)), (1, .int p1), (2, .int p2), (3, .int p3), (4, .ref (ad 66))]) hx hb dL_make_23 hl (by decide) rfl (fun ls hl => ?_)
    refine lv_iconst (v := 3) hx hb dL_make_25 (by decide) ?_
    exact W.iret hx hb hr (fun t ht _ => ⟨⟨rfl, S1.2.2, fun h => absurd h (by decide), by rw [ht]; exact hP, hf⟩, hS.F ht⟩) hS.2.2 dL_make_26
  · refine v_callX (Y := I_X5_make) (As := [.int p1, .int p2, .int p3]) (rest := [.int 0, .ref (ad 66)]) (ci := 5) (T := TX5) (N := 8) (S1 := S1) (E := E_S) (pre := [⟨0, 12, 15, 13⟩, ⟨0, 12, 19, 15⟩, ⟨0, 12, 23, 17⟩]) (x := ⟨0, 12, 27, 19⟩) (suf := []) C hM hP hf hS ok_X5_make vw_0 rfl (by decide) (by decide) rfl hl.1 ⟨Nat.le_of_ble_eq_true rfl, Nat.le_of_ble_eq_true rfl⟩ ⟨rfl, rfl⟩ (Nat.le_of_ble_eq_true rfl) dL_make_7 rfl rfl (fun z hz => by
      simp only [List.mem_cons, List.not_mem_nil, or_false] at hz
      rcases hz with rfl | rfl | rfl
      · exact ⟨by decide, E_U, vw_1, List.mem_of_getElem? (i := 3) rfl⟩
      · exact ⟨by decide, E_I, vw_2, List.mem_of_getElem? (i := 4) rfl⟩
      · exact ⟨by decide, E_A, vw_3, List.mem_of_getElem? (i := 5) rfl⟩) (by decide) (by decide) vw_4 (List.mem_of_getElem? (i := 0) rfl) (fun q H locs hP hf hS => ?_)
    refine lv_astore (lv' := [(5, .ref q), (0, .ref (ad 0)), (1, .int p1), (2, .int p2), (3, .int p3), (4, .ref (ad 66))]) hx hb dL_make_27 hl (by decide) rfl (fun ls hl => ?_)
    refine lv_iconst (v := 4) hx hb dL_make_29 (by decide) ?_
    exact W.iret hx hb hr (fun t ht _ => ⟨⟨rfl, S1.2.2, fun h => absurd h (by decide), by rw [ht]; exact hP, hf⟩, hS.F ht⟩) hS.2.2 dL_make_30
theorem vc_make : Cond.codeWith J_make.1 J_make.2.1 J_make.2.2.1 (some .int) J_make.2.2.2 ∈ z_G ∧ Cond.static J_make.1 ∈ z_G ∧ Cond.initialized J_make.1.cls ∈ z_G := ⟨z_Gin (List.mem_of_getElem? (i := 328) (by decide +kernel)) rfl, z_Gin (List.mem_of_getElem? (i := 327) (by decide +kernel)) rfl, z_Gin (List.mem_of_getElem? (i := 88) (by decide +kernel)) rfl⟩
def J_link : v_I := (yL_link, cL_link, 6, [(0, 12, 15, 13), (0, 12, 19, 15), (0, 12, 23, 17), (0, 12, 27, 19)])
set_option maxRecDepth 100000 in
set_option maxHeartbeats 4000000 in
theorem v_link {l : Launch} {B : Nat} {p1 : Int32} {p2 : Int32} {p3 : Int32} {S S1 : z_S} {code : Nat} {w : Int32} (hst : l.stackTraces = false) (hF : F_X5_link B p1 p2 p3 S = some (r_o [E_U, E_I, E_A, E_S] code w, S1)) (hc : code ≤ 4) : v_Met l J_link 8 219 B [.ref 0, .int p1, .int p2, .int p3, .ref 66] S code (fun lg => code = 0 → lg 0 = w.toInt64) S1 := by
  refine v_enter (by decide) (Nat.le_of_ble_eq_true rfl) ?_
  intro p e s m args below meth c D K ad ls C hl hP hf hS
  obtain ⟨hx, hb, hr, hml, hown, hts, hlocks, hK, hado, hxs, htab, hnc⟩ := id C
  have hb : c.code = cL_link := hb
  have hl : lv_has ls 6 [(0, .ref (ad 0)), (1, .int p1), (2, .int p2), (3, .int p3), (4, .ref (ad 66))] := hl
  refine lv_aload hx hb dL_link_0 (lv_at hl 4 rfl) ?_
  refine lv_iconst (v := 0) hx hb dL_link_2 (by decide) ?_
  refine lv_aload_n hx hb dL_link_3 rfl (lv_at hl 0 rfl) ?_
  refine lv_iload_n hx hb dL_link_4 rfl (lv_at hl 1 rfl) ?_
  refine lv_iload_n hx hb dL_link_5 rfl (lv_at hl 2 rfl) ?_
  refine lv_iload_n hx hb dL_link_6 rfl (lv_at hl 3 rfl) ?_
  have hM := c_X5_link hst hF
  rcases (show code = 0 ∨ code = 1 ∨ code = 2 ∨ code = 3 ∨ code = 4 by omega) with rfl | rfl | rfl | rfl | rfl
  · refine v_callR (Y := I_X5_link) (As := [.int p1, .int p2, .int p3]) (rest := [.int 0, .ref (ad 66)]) (ci := 5) (T := TX5) (N := 8) (S1 := S1) (r := some w) ⟨hx, hb, hml, hown, hts⟩ hM hado hK hP (fun U h1 h2 => z_preU hK hxs hP hf hS U h1 h2) hS (fun q h => h) ok_X5_link vw_5 rfl (by decide) (by decide) rfl hl.1 ⟨Nat.le_of_ble_eq_true rfl, Nat.le_of_ble_eq_true rfl⟩ ⟨Nat.zero_le _, Nat.zero_le _⟩ (Nat.le_of_ble_eq_true rfl) dL_link_7 rfl (fun H locs hP hf hS _ => ?_)
    refine lv_i2l hx hb dL_link_10 rfl ?_
    refine va_last hx hb hK hP (z_D hado) hS 66 3 v_l_at rfl (y_in (k := 0) (by decide) (by decide) (by show 0 < 0 * B + 1; omega)) dL_link_11 (fun H locs hP hD hS => ?_)
    rw [v_ul_ws] at hP
    refine lv_goto (tgt := 31) hx hb dL_link_12 (by decide) ?_
    refine lv_iconst (v := 0) hx hb dL_link_31 (by decide) ?_
    refine W.widen (k := 1) (n := 6) (by omega) (by omega) ?_
    exact W.iret hx hb hr (fun t ht _ => ⟨⟨rfl, _, fun _ => rfl, by rw [ht]; exact hP, hf⟩, hS.F ht⟩) hS.2.2 dL_link_32
  · refine v_callX (Y := I_X5_link) (As := [.int p1, .int p2, .int p3]) (rest := [.int 0, .ref (ad 66)]) (ci := 5) (T := TX5) (N := 8) (S1 := S1) (E := E_U) (pre := []) (x := ⟨0, 12, 15, 13⟩) (suf := [⟨0, 12, 19, 15⟩, ⟨0, 12, 23, 17⟩, ⟨0, 12, 27, 19⟩]) C hM hP hf hS ok_X5_link vw_5 rfl (by decide) (by decide) rfl hl.1 ⟨Nat.le_of_ble_eq_true rfl, Nat.le_of_ble_eq_true rfl⟩ ⟨rfl, rfl⟩ (Nat.le_of_ble_eq_true rfl) dL_link_7 rfl rfl (fun z hz => absurd hz List.not_mem_nil) (by decide) (by decide) vw_1 (List.mem_of_getElem? (i := 1) rfl) (fun q H locs hP hf hS => ?_)
    refine lv_astore (lv' := [(5, .ref q), (0, .ref (ad 0)), (1, .int p1), (2, .int p2), (3, .int p3), (4, .ref (ad 66))]) hx hb dL_link_15 hl (by decide) rfl (fun ls hl => ?_)
    refine lv_iconst (v := 1) hx hb dL_link_17 (by decide) ?_
    exact W.iret hx hb hr (fun t ht _ => ⟨⟨rfl, S1.2.2, fun h => absurd h (by decide), by rw [ht]; exact hP, hf⟩, hS.F ht⟩) hS.2.2 dL_link_18
  · refine v_callX (Y := I_X5_link) (As := [.int p1, .int p2, .int p3]) (rest := [.int 0, .ref (ad 66)]) (ci := 5) (T := TX5) (N := 8) (S1 := S1) (E := E_I) (pre := [⟨0, 12, 15, 13⟩]) (x := ⟨0, 12, 19, 15⟩) (suf := [⟨0, 12, 23, 17⟩, ⟨0, 12, 27, 19⟩]) C hM hP hf hS ok_X5_link vw_5 rfl (by decide) (by decide) rfl hl.1 ⟨Nat.le_of_ble_eq_true rfl, Nat.le_of_ble_eq_true rfl⟩ ⟨rfl, rfl⟩ (Nat.le_of_ble_eq_true rfl) dL_link_7 rfl rfl (fun z hz => by
      simp only [List.mem_cons, List.not_mem_nil, or_false] at hz
      rcases hz with rfl
      · exact ⟨by decide, E_U, vw_1, List.mem_of_getElem? (i := 0) rfl⟩) (by decide) (by decide) vw_2 (List.mem_of_getElem? (i := 2) rfl) (fun q H locs hP hf hS => ?_)
    refine lv_astore (lv' := [(5, .ref q), (0, .ref (ad 0)), (1, .int p1), (2, .int p2), (3, .int p3), (4, .ref (ad 66))]) hx hb dL_link_19 hl (by decide) rfl (fun ls hl => ?_)
    refine lv_iconst (v := 2) hx hb dL_link_21 (by decide) ?_
    exact W.iret hx hb hr (fun t ht _ => ⟨⟨rfl, S1.2.2, fun h => absurd h (by decide), by rw [ht]; exact hP, hf⟩, hS.F ht⟩) hS.2.2 dL_link_22
  · refine v_callX (Y := I_X5_link) (As := [.int p1, .int p2, .int p3]) (rest := [.int 0, .ref (ad 66)]) (ci := 5) (T := TX5) (N := 8) (S1 := S1) (E := E_A) (pre := [⟨0, 12, 15, 13⟩, ⟨0, 12, 19, 15⟩]) (x := ⟨0, 12, 23, 17⟩) (suf := [⟨0, 12, 27, 19⟩]) C hM hP hf hS ok_X5_link vw_5 rfl (by decide) (by decide) rfl hl.1 ⟨Nat.le_of_ble_eq_true rfl, Nat.le_of_ble_eq_true rfl⟩ ⟨rfl, rfl⟩ (Nat.le_of_ble_eq_true rfl) dL_link_7 rfl rfl (fun z hz => by
      simp only [List.mem_cons, List.not_mem_nil, or_false] at hz
      rcases hz with rfl | rfl
      · exact ⟨by decide, E_U, vw_1, List.mem_of_getElem? (i := 1) rfl⟩
      · exact ⟨by decide, E_I, vw_2, List.mem_of_getElem? (i := 2) rfl⟩) (by decide) (by decide) vw_3 (List.mem_of_getElem? (i := 3) rfl) (fun q H locs hP hf hS => ?_)
    refine lv_astore (lv' := [(5, .ref q), (0, .ref (ad 0)), (1, .int p1), (2, .int p2), (3, .int p3), (4, .ref (ad 66))]) hx hb dL_link_23 hl (by decide) rfl (fun ls hl => ?_)
    refine lv_iconst (v := 3) hx hb dL_link_25 (by decide) ?_
    exact W.iret hx hb hr (fun t ht _ => ⟨⟨rfl, S1.2.2, fun h => absurd h (by decide), by rw [ht]; exact hP, hf⟩, hS.F ht⟩) hS.2.2 dL_link_26
  · refine v_callX (Y := I_X5_link) (As := [.int p1, .int p2, .int p3]) (rest := [.int 0, .ref (ad 66)]) (ci := 5) (T := TX5) (N := 8) (S1 := S1) (E := E_S) (pre := [⟨0, 12, 15, 13⟩, ⟨0, 12, 19, 15⟩, ⟨0, 12, 23, 17⟩]) (x := ⟨0, 12, 27, 19⟩) (suf := []) C hM hP hf hS ok_X5_link vw_5 rfl (by decide) (by decide) rfl hl.1 ⟨Nat.le_of_ble_eq_true rfl, Nat.le_of_ble_eq_true rfl⟩ ⟨rfl, rfl⟩ (Nat.le_of_ble_eq_true rfl) dL_link_7 rfl rfl (fun z hz => by
      simp only [List.mem_cons, List.not_mem_nil, or_false] at hz
      rcases hz with rfl | rfl | rfl
      · exact ⟨by decide, E_U, vw_1, List.mem_of_getElem? (i := 3) rfl⟩
      · exact ⟨by decide, E_I, vw_2, List.mem_of_getElem? (i := 4) rfl⟩
      · exact ⟨by decide, E_A, vw_3, List.mem_of_getElem? (i := 5) rfl⟩) (by decide) (by decide) vw_4 (List.mem_of_getElem? (i := 0) rfl) (fun q H locs hP hf hS => ?_)
    refine lv_astore (lv' := [(5, .ref q), (0, .ref (ad 0)), (1, .int p1), (2, .int p2), (3, .int p3), (4, .ref (ad 66))]) hx hb dL_link_27 hl (by decide) rfl (fun ls hl => ?_)
    refine lv_iconst (v := 4) hx hb dL_link_29 (by decide) ?_
    exact W.iret hx hb hr (fun t ht _ => ⟨⟨rfl, S1.2.2, fun h => absurd h (by decide), by rw [ht]; exact hP, hf⟩, hS.F ht⟩) hS.2.2 dL_link_30
theorem vc_link : Cond.codeWith J_link.1 J_link.2.1 J_link.2.2.1 (some .int) J_link.2.2.2 ∈ z_G ∧ Cond.static J_link.1 ∈ z_G ∧ Cond.initialized J_link.1.cls ∈ z_G := ⟨z_Gin (List.mem_of_getElem? (i := 566) (by decide +kernel)) rfl, z_Gin (List.mem_of_getElem? (i := 565) (by decide +kernel)) rfl, z_Gin (List.mem_of_getElem? (i := 88) (by decide +kernel)) rfl⟩
def J_unlink : v_I := (yL_unlink, cL_unlink, 5, [(0, 10, 13, 13), (0, 10, 17, 15), (0, 10, 21, 19)])
set_option maxRecDepth 100000 in
set_option maxHeartbeats 4000000 in
theorem v_unlink {l : Launch} {B : Nat} {p1 : Int32} {p2 : Int32} {S S1 : z_S} {code : Nat} {w : Int32} (hst : l.stackTraces = false) (hF : F_X5_unlink B p1 p2 S = some (r_o [E_U, E_I, E_S] code w, S1)) (hc : code ≤ 3) : v_Met l J_unlink 8 244 B [.ref 0, .int p1, .int p2, .ref 66] S code (fun lg => code = 0 → lg 0 = w.toInt64) S1 := by
  refine v_enter (by decide) (Nat.le_of_ble_eq_true rfl) ?_
  intro p e s m args below meth c D K ad ls C hl hP hf hS
  obtain ⟨hx, hb, hr, hml, hown, hts, hlocks, hK, hado, hxs, htab, hnc⟩ := id C
  have hb : c.code = cL_unlink := hb
  have hl : lv_has ls 5 [(0, .ref (ad 0)), (1, .int p1), (2, .int p2), (3, .ref (ad 66))] := hl
  refine lv_aload_n hx hb dL_unlink_0 rfl (lv_at hl 3 rfl) ?_
  refine lv_iconst (v := 0) hx hb dL_unlink_1 (by decide) ?_
  refine lv_aload_n hx hb dL_unlink_2 rfl (lv_at hl 0 rfl) ?_
  refine lv_iload_n hx hb dL_unlink_3 rfl (lv_at hl 1 rfl) ?_
  refine lv_iload_n hx hb dL_unlink_4 rfl (lv_at hl 2 rfl) ?_
  have hM := c_X5_unlink hst hF
  rcases (show code = 0 ∨ code = 1 ∨ code = 2 ∨ code = 3 by omega) with rfl | rfl | rfl | rfl
  · refine v_callR (Y := I_X5_unlink) (As := [.int p1, .int p2]) (rest := [.int 0, .ref (ad 66)]) (ci := 5) (T := TX5) (N := 8) (S1 := S1) (r := some w) ⟨hx, hb, hml, hown, hts⟩ hM hado hK hP (fun U h1 h2 => z_preU hK hxs hP hf hS U h1 h2) hS (fun q h => h) ok_X5_unlink vw_6 rfl (by decide) (by decide) rfl hl.1 ⟨Nat.le_of_ble_eq_true rfl, Nat.le_of_ble_eq_true rfl⟩ ⟨Nat.zero_le _, Nat.zero_le _⟩ (Nat.le_of_ble_eq_true rfl) dL_unlink_5 rfl (fun H locs hP hf hS _ => ?_)
    refine lv_i2l hx hb dL_unlink_8 rfl ?_
    refine va_last hx hb hK hP (z_D hado) hS 66 3 v_l_at rfl (y_in (k := 0) (by decide) (by decide) (by show 0 < 0 * B + 1; omega)) dL_unlink_9 (fun H locs hP hD hS => ?_)
    rw [v_ul_ws] at hP
    refine lv_goto (tgt := 25) hx hb dL_unlink_10 (by decide) ?_
    refine lv_iconst (v := 0) hx hb dL_unlink_25 (by decide) ?_
    refine W.widen (k := 1) (n := 6) (by omega) (by omega) ?_
    exact W.iret hx hb hr (fun t ht _ => ⟨⟨rfl, _, fun _ => rfl, by rw [ht]; exact hP, hf⟩, hS.F ht⟩) hS.2.2 dL_unlink_26
  · refine v_callX (Y := I_X5_unlink) (As := [.int p1, .int p2]) (rest := [.int 0, .ref (ad 66)]) (ci := 5) (T := TX5) (N := 8) (S1 := S1) (E := E_U) (pre := []) (x := ⟨0, 10, 13, 13⟩) (suf := [⟨0, 10, 17, 15⟩, ⟨0, 10, 21, 19⟩]) C hM hP hf hS ok_X5_unlink vw_6 rfl (by decide) (by decide) rfl hl.1 ⟨Nat.le_of_ble_eq_true rfl, Nat.le_of_ble_eq_true rfl⟩ ⟨rfl, rfl⟩ (Nat.le_of_ble_eq_true rfl) dL_unlink_5 rfl rfl (fun z hz => absurd hz List.not_mem_nil) (by decide) (by decide) vw_1 (List.mem_of_getElem? (i := 1) rfl) (fun q H locs hP hf hS => ?_)
    refine lv_astore (lv' := [(4, .ref q), (0, .ref (ad 0)), (1, .int p1), (2, .int p2), (3, .ref (ad 66))]) hx hb dL_unlink_13 hl (by decide) rfl (fun ls hl => ?_)
    refine lv_iconst (v := 1) hx hb dL_unlink_15 (by decide) ?_
    exact W.iret hx hb hr (fun t ht _ => ⟨⟨rfl, S1.2.2, fun h => absurd h (by decide), by rw [ht]; exact hP, hf⟩, hS.F ht⟩) hS.2.2 dL_unlink_16
  · refine v_callX (Y := I_X5_unlink) (As := [.int p1, .int p2]) (rest := [.int 0, .ref (ad 66)]) (ci := 5) (T := TX5) (N := 8) (S1 := S1) (E := E_I) (pre := [⟨0, 10, 13, 13⟩]) (x := ⟨0, 10, 17, 15⟩) (suf := [⟨0, 10, 21, 19⟩]) C hM hP hf hS ok_X5_unlink vw_6 rfl (by decide) (by decide) rfl hl.1 ⟨Nat.le_of_ble_eq_true rfl, Nat.le_of_ble_eq_true rfl⟩ ⟨rfl, rfl⟩ (Nat.le_of_ble_eq_true rfl) dL_unlink_5 rfl rfl (fun z hz => by
      simp only [List.mem_cons, List.not_mem_nil, or_false] at hz
      rcases hz with rfl
      · exact ⟨by decide, E_U, vw_1, List.mem_of_getElem? (i := 0) rfl⟩) (by decide) (by decide) vw_2 (List.mem_of_getElem? (i := 2) rfl) (fun q H locs hP hf hS => ?_)
    refine lv_astore (lv' := [(4, .ref q), (0, .ref (ad 0)), (1, .int p1), (2, .int p2), (3, .ref (ad 66))]) hx hb dL_unlink_17 hl (by decide) rfl (fun ls hl => ?_)
    refine lv_iconst (v := 2) hx hb dL_unlink_19 (by decide) ?_
    exact W.iret hx hb hr (fun t ht _ => ⟨⟨rfl, S1.2.2, fun h => absurd h (by decide), by rw [ht]; exact hP, hf⟩, hS.F ht⟩) hS.2.2 dL_unlink_20
  · refine v_callX (Y := I_X5_unlink) (As := [.int p1, .int p2]) (rest := [.int 0, .ref (ad 66)]) (ci := 5) (T := TX5) (N := 8) (S1 := S1) (E := E_S) (pre := [⟨0, 10, 13, 13⟩, ⟨0, 10, 17, 15⟩]) (x := ⟨0, 10, 21, 19⟩) (suf := []) C hM hP hf hS ok_X5_unlink vw_6 rfl (by decide) (by decide) rfl hl.1 ⟨Nat.le_of_ble_eq_true rfl, Nat.le_of_ble_eq_true rfl⟩ ⟨rfl, rfl⟩ (Nat.le_of_ble_eq_true rfl) dL_unlink_5 rfl rfl (fun z hz => by
      simp only [List.mem_cons, List.not_mem_nil, or_false] at hz
      rcases hz with rfl | rfl
      · exact ⟨by decide, E_U, vw_1, List.mem_of_getElem? (i := 3) rfl⟩
      · exact ⟨by decide, E_I, vw_2, List.mem_of_getElem? (i := 4) rfl⟩) (by decide) (by decide) vw_4 (List.mem_of_getElem? (i := 0) rfl) (fun q H locs hP hf hS => ?_)
    refine lv_astore (lv' := [(4, .ref q), (0, .ref (ad 0)), (1, .int p1), (2, .int p2), (3, .ref (ad 66))]) hx hb dL_unlink_21 hl (by decide) rfl (fun ls hl => ?_)
    refine lv_iconst (v := 3) hx hb dL_unlink_23 (by decide) ?_
    exact W.iret hx hb hr (fun t ht _ => ⟨⟨rfl, S1.2.2, fun h => absurd h (by decide), by rw [ht]; exact hP, hf⟩, hS.F ht⟩) hS.2.2 dL_unlink_24
theorem vc_unlink : Cond.codeWith J_unlink.1 J_unlink.2.1 J_unlink.2.2.1 (some .int) J_unlink.2.2.2 ∈ z_G ∧ Cond.static J_unlink.1 ∈ z_G ∧ Cond.initialized J_unlink.1.cls ∈ z_G := ⟨z_Gin (List.mem_of_getElem? (i := 578) (by decide +kernel)) rfl, z_Gin (List.mem_of_getElem? (i := 577) (by decide +kernel)) rfl, z_Gin (List.mem_of_getElem? (i := 88) (by decide +kernel)) rfl⟩
def J_move : v_I := (yL_move, cL_move, 7, [(0, 14, 17, 13), (0, 14, 21, 15), (0, 14, 25, 17), (0, 14, 29, 19)])
set_option maxRecDepth 100000 in
set_option maxHeartbeats 4000000 in
theorem v_move {l : Launch} {B : Nat} {p1 : Int32} {p2 : Int32} {p3 : Int32} {p4 : Int32} {S S1 : z_S} {code : Nat} {w : Int32} (hst : l.stackTraces = false) (hF : F_X5_move B p1 p2 p3 p4 S = some (r_o [E_U, E_I, E_A, E_S] code w, S1)) (hc : code ≤ 4) : v_Met l J_move 8 222 B [.ref 0, .int p1, .int p2, .int p3, .int p4, .ref 66] S code (fun lg => code = 0 → lg 0 = w.toInt64) S1 := by
  refine v_enter (by decide) (Nat.le_of_ble_eq_true rfl) ?_
  intro p e s m args below meth c D K ad ls C hl hP hf hS
  obtain ⟨hx, hb, hr, hml, hown, hts, hlocks, hK, hado, hxs, htab, hnc⟩ := id C
  have hb : c.code = cL_move := hb
  have hl : lv_has ls 7 [(0, .ref (ad 0)), (1, .int p1), (2, .int p2), (3, .int p3), (4, .int p4), (5, .ref (ad 66))] := hl
  refine lv_aload hx hb dL_move_0 (lv_at hl 5 rfl) ?_
  refine lv_iconst (v := 0) hx hb dL_move_2 (by decide) ?_
  refine lv_aload_n hx hb dL_move_3 rfl (lv_at hl 0 rfl) ?_
  refine lv_iload_n hx hb dL_move_4 rfl (lv_at hl 1 rfl) ?_
  refine lv_iload_n hx hb dL_move_5 rfl (lv_at hl 2 rfl) ?_
  refine lv_iload_n hx hb dL_move_6 rfl (lv_at hl 3 rfl) ?_
  refine lv_iload hx hb dL_move_7 (lv_at hl 4 rfl) ?_
  have hM := c_X5_move hst hF
  rcases (show code = 0 ∨ code = 1 ∨ code = 2 ∨ code = 3 ∨ code = 4 by omega) with rfl | rfl | rfl | rfl | rfl
  · refine v_callR (Y := I_X5_move) (As := [.int p1, .int p2, .int p3, .int p4]) (rest := [.int 0, .ref (ad 66)]) (ci := 5) (T := TX5) (N := 8) (S1 := S1) (r := some w) ⟨hx, hb, hml, hown, hts⟩ hM hado hK hP (fun U h1 h2 => z_preU hK hxs hP hf hS U h1 h2) hS (fun q h => h) ok_X5_move vw_7 rfl (by decide) (by decide) rfl hl.1 ⟨Nat.le_of_ble_eq_true rfl, Nat.le_of_ble_eq_true rfl⟩ ⟨Nat.zero_le _, Nat.zero_le _⟩ (Nat.le_of_ble_eq_true rfl) dL_move_9 rfl (fun H locs hP hf hS _ => ?_)
    refine lv_i2l hx hb dL_move_12 rfl ?_
    refine va_last hx hb hK hP (z_D hado) hS 66 3 v_l_at rfl (y_in (k := 0) (by decide) (by decide) (by show 0 < 0 * B + 1; omega)) dL_move_13 (fun H locs hP hD hS => ?_)
    rw [v_ul_ws] at hP
    refine lv_goto (tgt := 33) hx hb dL_move_14 (by decide) ?_
    refine lv_iconst (v := 0) hx hb dL_move_33 (by decide) ?_
    refine W.widen (k := 1) (n := 6) (by omega) (by omega) ?_
    exact W.iret hx hb hr (fun t ht _ => ⟨⟨rfl, _, fun _ => rfl, by rw [ht]; exact hP, hf⟩, hS.F ht⟩) hS.2.2 dL_move_34
  · refine v_callX (Y := I_X5_move) (As := [.int p1, .int p2, .int p3, .int p4]) (rest := [.int 0, .ref (ad 66)]) (ci := 5) (T := TX5) (N := 8) (S1 := S1) (E := E_U) (pre := []) (x := ⟨0, 14, 17, 13⟩) (suf := [⟨0, 14, 21, 15⟩, ⟨0, 14, 25, 17⟩, ⟨0, 14, 29, 19⟩]) C hM hP hf hS ok_X5_move vw_7 rfl (by decide) (by decide) rfl hl.1 ⟨Nat.le_of_ble_eq_true rfl, Nat.le_of_ble_eq_true rfl⟩ ⟨rfl, rfl⟩ (Nat.le_of_ble_eq_true rfl) dL_move_9 rfl rfl (fun z hz => absurd hz List.not_mem_nil) (by decide) (by decide) vw_1 (List.mem_of_getElem? (i := 1) rfl) (fun q H locs hP hf hS => ?_)
    refine lv_astore (lv' := [(6, .ref q), (0, .ref (ad 0)), (1, .int p1), (2, .int p2), (3, .int p3), (4, .int p4), (5, .ref (ad 66))]) hx hb dL_move_17 hl (by decide) rfl (fun ls hl => ?_)
    refine lv_iconst (v := 1) hx hb dL_move_19 (by decide) ?_
    exact W.iret hx hb hr (fun t ht _ => ⟨⟨rfl, S1.2.2, fun h => absurd h (by decide), by rw [ht]; exact hP, hf⟩, hS.F ht⟩) hS.2.2 dL_move_20
  · refine v_callX (Y := I_X5_move) (As := [.int p1, .int p2, .int p3, .int p4]) (rest := [.int 0, .ref (ad 66)]) (ci := 5) (T := TX5) (N := 8) (S1 := S1) (E := E_I) (pre := [⟨0, 14, 17, 13⟩]) (x := ⟨0, 14, 21, 15⟩) (suf := [⟨0, 14, 25, 17⟩, ⟨0, 14, 29, 19⟩]) C hM hP hf hS ok_X5_move vw_7 rfl (by decide) (by decide) rfl hl.1 ⟨Nat.le_of_ble_eq_true rfl, Nat.le_of_ble_eq_true rfl⟩ ⟨rfl, rfl⟩ (Nat.le_of_ble_eq_true rfl) dL_move_9 rfl rfl (fun z hz => by
      simp only [List.mem_cons, List.not_mem_nil, or_false] at hz
      rcases hz with rfl
      · exact ⟨by decide, E_U, vw_1, List.mem_of_getElem? (i := 0) rfl⟩) (by decide) (by decide) vw_2 (List.mem_of_getElem? (i := 2) rfl) (fun q H locs hP hf hS => ?_)
    refine lv_astore (lv' := [(6, .ref q), (0, .ref (ad 0)), (1, .int p1), (2, .int p2), (3, .int p3), (4, .int p4), (5, .ref (ad 66))]) hx hb dL_move_21 hl (by decide) rfl (fun ls hl => ?_)
    refine lv_iconst (v := 2) hx hb dL_move_23 (by decide) ?_
    exact W.iret hx hb hr (fun t ht _ => ⟨⟨rfl, S1.2.2, fun h => absurd h (by decide), by rw [ht]; exact hP, hf⟩, hS.F ht⟩) hS.2.2 dL_move_24
  · refine v_callX (Y := I_X5_move) (As := [.int p1, .int p2, .int p3, .int p4]) (rest := [.int 0, .ref (ad 66)]) (ci := 5) (T := TX5) (N := 8) (S1 := S1) (E := E_A) (pre := [⟨0, 14, 17, 13⟩, ⟨0, 14, 21, 15⟩]) (x := ⟨0, 14, 25, 17⟩) (suf := [⟨0, 14, 29, 19⟩]) C hM hP hf hS ok_X5_move vw_7 rfl (by decide) (by decide) rfl hl.1 ⟨Nat.le_of_ble_eq_true rfl, Nat.le_of_ble_eq_true rfl⟩ ⟨rfl, rfl⟩ (Nat.le_of_ble_eq_true rfl) dL_move_9 rfl rfl (fun z hz => by
      simp only [List.mem_cons, List.not_mem_nil, or_false] at hz
      rcases hz with rfl | rfl
      · exact ⟨by decide, E_U, vw_1, List.mem_of_getElem? (i := 1) rfl⟩
      · exact ⟨by decide, E_I, vw_2, List.mem_of_getElem? (i := 2) rfl⟩) (by decide) (by decide) vw_3 (List.mem_of_getElem? (i := 3) rfl) (fun q H locs hP hf hS => ?_)
    refine lv_astore (lv' := [(6, .ref q), (0, .ref (ad 0)), (1, .int p1), (2, .int p2), (3, .int p3), (4, .int p4), (5, .ref (ad 66))]) hx hb dL_move_25 hl (by decide) rfl (fun ls hl => ?_)
    refine lv_iconst (v := 3) hx hb dL_move_27 (by decide) ?_
    exact W.iret hx hb hr (fun t ht _ => ⟨⟨rfl, S1.2.2, fun h => absurd h (by decide), by rw [ht]; exact hP, hf⟩, hS.F ht⟩) hS.2.2 dL_move_28
  · refine v_callX (Y := I_X5_move) (As := [.int p1, .int p2, .int p3, .int p4]) (rest := [.int 0, .ref (ad 66)]) (ci := 5) (T := TX5) (N := 8) (S1 := S1) (E := E_S) (pre := [⟨0, 14, 17, 13⟩, ⟨0, 14, 21, 15⟩, ⟨0, 14, 25, 17⟩]) (x := ⟨0, 14, 29, 19⟩) (suf := []) C hM hP hf hS ok_X5_move vw_7 rfl (by decide) (by decide) rfl hl.1 ⟨Nat.le_of_ble_eq_true rfl, Nat.le_of_ble_eq_true rfl⟩ ⟨rfl, rfl⟩ (Nat.le_of_ble_eq_true rfl) dL_move_9 rfl rfl (fun z hz => by
      simp only [List.mem_cons, List.not_mem_nil, or_false] at hz
      rcases hz with rfl | rfl | rfl
      · exact ⟨by decide, E_U, vw_1, List.mem_of_getElem? (i := 3) rfl⟩
      · exact ⟨by decide, E_I, vw_2, List.mem_of_getElem? (i := 4) rfl⟩
      · exact ⟨by decide, E_A, vw_3, List.mem_of_getElem? (i := 5) rfl⟩) (by decide) (by decide) vw_4 (List.mem_of_getElem? (i := 0) rfl) (fun q H locs hP hf hS => ?_)
    refine lv_astore (lv' := [(6, .ref q), (0, .ref (ad 0)), (1, .int p1), (2, .int p2), (3, .int p3), (4, .int p4), (5, .ref (ad 66))]) hx hb dL_move_29 hl (by decide) rfl (fun ls hl => ?_)
    refine lv_iconst (v := 4) hx hb dL_move_31 (by decide) ?_
    exact W.iret hx hb hr (fun t ht _ => ⟨⟨rfl, S1.2.2, fun h => absurd h (by decide), by rw [ht]; exact hP, hf⟩, hS.F ht⟩) hS.2.2 dL_move_32
theorem vc_move : Cond.codeWith J_move.1 J_move.2.1 J_move.2.2.1 (some .int) J_move.2.2.2 ∈ z_G ∧ Cond.static J_move.1 ∈ z_G ∧ Cond.initialized J_move.1.cls ∈ z_G := ⟨z_Gin (List.mem_of_getElem? (i := 640) (by decide +kernel)) rfl, z_Gin (List.mem_of_getElem? (i := 639) (by decide +kernel)) rfl, z_Gin (List.mem_of_getElem? (i := 88) (by decide +kernel)) rfl⟩
def J_write : v_I := (yL_write, cL_write, 8, [(0, 14, 17, 13), (0, 14, 21, 15), (0, 14, 25, 17), (0, 14, 29, 19)])
set_option maxRecDepth 100000 in
set_option maxHeartbeats 4000000 in
theorem v_write {l : Launch} {B : Nat} {p1 : Int32} {p2 : Int32} {p3 : Int64} {p5 : Int32} {S S1 : z_S} {code : Nat} {w : Int32} (hst : l.stackTraces = false) (hF : F_X5_write B p1 p2 p3 p5 S = some (r_o [E_U, E_I, E_A, E_S] code w, S1)) (hc : code ≤ 4) : v_Met l J_write 9 249 B [.ref 0, .int p1, .int p2, .long p3, .int p5, .ref 66] S code (fun lg => code = 0 → lg 0 = w.toInt64) S1 := by
  refine v_enter (by decide) (Nat.le_of_ble_eq_true rfl) ?_
  intro p e s m args below meth c D K ad ls C hl hP hf hS
  obtain ⟨hx, hb, hr, hml, hown, hts, hlocks, hK, hado, hxs, htab, hnc⟩ := id C
  have hb : c.code = cL_write := hb
  have hl : lv_has ls 8 [(0, .ref (ad 0)), (1, .int p1), (2, .int p2), (3, .long p3), (5, .int p5), (6, .ref (ad 66))] := hl
  refine lv_aload hx hb dL_write_0 (lv_at hl 5 rfl) ?_
  refine lv_iconst (v := 0) hx hb dL_write_2 (by decide) ?_
  refine lv_aload_n hx hb dL_write_3 rfl (lv_at hl 0 rfl) ?_
  refine lv_iload_n hx hb dL_write_4 rfl (lv_at hl 1 rfl) ?_
  refine lv_iload_n hx hb dL_write_5 rfl (lv_at hl 2 rfl) ?_
  refine lv_lload_n hx hb dL_write_6 rfl (lv_at hl 3 rfl) ?_
  refine lv_iload hx hb dL_write_7 (lv_at hl 4 rfl) ?_
  have hM := c_X5_write hst hF
  rcases (show code = 0 ∨ code = 1 ∨ code = 2 ∨ code = 3 ∨ code = 4 by omega) with rfl | rfl | rfl | rfl | rfl
  · refine v_callR (Y := I_X5_write) (As := [.int p1, .int p2, .long p3, .int p5]) (rest := [.int 0, .ref (ad 66)]) (ci := 5) (T := TX5) (N := 8) (S1 := S1) (r := some w) ⟨hx, hb, hml, hown, hts⟩ hM hado hK hP (fun U h1 h2 => z_preU hK hxs hP hf hS U h1 h2) hS (fun q h => h) ok_X5_write vw_8 rfl (by decide) (by decide) rfl hl.1 ⟨Nat.le_of_ble_eq_true rfl, Nat.le_of_ble_eq_true rfl⟩ ⟨Nat.zero_le _, Nat.zero_le _⟩ (Nat.le_of_ble_eq_true rfl) dL_write_9 rfl (fun H locs hP hf hS _ => ?_)
    refine lv_i2l hx hb dL_write_12 rfl ?_
    refine va_last hx hb hK hP (z_D hado) hS 66 3 v_l_at rfl (y_in (k := 0) (by decide) (by decide) (by show 0 < 0 * B + 1; omega)) dL_write_13 (fun H locs hP hD hS => ?_)
    rw [v_ul_ws] at hP
    refine lv_goto (tgt := 33) hx hb dL_write_14 (by decide) ?_
    refine lv_iconst (v := 0) hx hb dL_write_33 (by decide) ?_
    refine W.widen (k := 1) (n := 6) (by omega) (by omega) ?_
    exact W.iret hx hb hr (fun t ht _ => ⟨⟨rfl, _, fun _ => rfl, by rw [ht]; exact hP, hf⟩, hS.F ht⟩) hS.2.2 dL_write_34
  · refine v_callX (Y := I_X5_write) (As := [.int p1, .int p2, .long p3, .int p5]) (rest := [.int 0, .ref (ad 66)]) (ci := 5) (T := TX5) (N := 8) (S1 := S1) (E := E_U) (pre := []) (x := ⟨0, 14, 17, 13⟩) (suf := [⟨0, 14, 21, 15⟩, ⟨0, 14, 25, 17⟩, ⟨0, 14, 29, 19⟩]) C hM hP hf hS ok_X5_write vw_8 rfl (by decide) (by decide) rfl hl.1 ⟨Nat.le_of_ble_eq_true rfl, Nat.le_of_ble_eq_true rfl⟩ ⟨rfl, rfl⟩ (Nat.le_of_ble_eq_true rfl) dL_write_9 rfl rfl (fun z hz => absurd hz List.not_mem_nil) (by decide) (by decide) vw_1 (List.mem_of_getElem? (i := 1) rfl) (fun q H locs hP hf hS => ?_)
    refine lv_astore (lv' := [(7, .ref q), (0, .ref (ad 0)), (1, .int p1), (2, .int p2), (3, .long p3), (5, .int p5), (6, .ref (ad 66))]) hx hb dL_write_17 hl (by decide) rfl (fun ls hl => ?_)
    refine lv_iconst (v := 1) hx hb dL_write_19 (by decide) ?_
    exact W.iret hx hb hr (fun t ht _ => ⟨⟨rfl, S1.2.2, fun h => absurd h (by decide), by rw [ht]; exact hP, hf⟩, hS.F ht⟩) hS.2.2 dL_write_20
  · refine v_callX (Y := I_X5_write) (As := [.int p1, .int p2, .long p3, .int p5]) (rest := [.int 0, .ref (ad 66)]) (ci := 5) (T := TX5) (N := 8) (S1 := S1) (E := E_I) (pre := [⟨0, 14, 17, 13⟩]) (x := ⟨0, 14, 21, 15⟩) (suf := [⟨0, 14, 25, 17⟩, ⟨0, 14, 29, 19⟩]) C hM hP hf hS ok_X5_write vw_8 rfl (by decide) (by decide) rfl hl.1 ⟨Nat.le_of_ble_eq_true rfl, Nat.le_of_ble_eq_true rfl⟩ ⟨rfl, rfl⟩ (Nat.le_of_ble_eq_true rfl) dL_write_9 rfl rfl (fun z hz => by
      simp only [List.mem_cons, List.not_mem_nil, or_false] at hz
      rcases hz with rfl
      · exact ⟨by decide, E_U, vw_1, List.mem_of_getElem? (i := 0) rfl⟩) (by decide) (by decide) vw_2 (List.mem_of_getElem? (i := 2) rfl) (fun q H locs hP hf hS => ?_)
    refine lv_astore (lv' := [(7, .ref q), (0, .ref (ad 0)), (1, .int p1), (2, .int p2), (3, .long p3), (5, .int p5), (6, .ref (ad 66))]) hx hb dL_write_21 hl (by decide) rfl (fun ls hl => ?_)
    refine lv_iconst (v := 2) hx hb dL_write_23 (by decide) ?_
    exact W.iret hx hb hr (fun t ht _ => ⟨⟨rfl, S1.2.2, fun h => absurd h (by decide), by rw [ht]; exact hP, hf⟩, hS.F ht⟩) hS.2.2 dL_write_24
  · refine v_callX (Y := I_X5_write) (As := [.int p1, .int p2, .long p3, .int p5]) (rest := [.int 0, .ref (ad 66)]) (ci := 5) (T := TX5) (N := 8) (S1 := S1) (E := E_A) (pre := [⟨0, 14, 17, 13⟩, ⟨0, 14, 21, 15⟩]) (x := ⟨0, 14, 25, 17⟩) (suf := [⟨0, 14, 29, 19⟩]) C hM hP hf hS ok_X5_write vw_8 rfl (by decide) (by decide) rfl hl.1 ⟨Nat.le_of_ble_eq_true rfl, Nat.le_of_ble_eq_true rfl⟩ ⟨rfl, rfl⟩ (Nat.le_of_ble_eq_true rfl) dL_write_9 rfl rfl (fun z hz => by
      simp only [List.mem_cons, List.not_mem_nil, or_false] at hz
      rcases hz with rfl | rfl
      · exact ⟨by decide, E_U, vw_1, List.mem_of_getElem? (i := 1) rfl⟩
      · exact ⟨by decide, E_I, vw_2, List.mem_of_getElem? (i := 2) rfl⟩) (by decide) (by decide) vw_3 (List.mem_of_getElem? (i := 3) rfl) (fun q H locs hP hf hS => ?_)
    refine lv_astore (lv' := [(7, .ref q), (0, .ref (ad 0)), (1, .int p1), (2, .int p2), (3, .long p3), (5, .int p5), (6, .ref (ad 66))]) hx hb dL_write_25 hl (by decide) rfl (fun ls hl => ?_)
    refine lv_iconst (v := 3) hx hb dL_write_27 (by decide) ?_
    exact W.iret hx hb hr (fun t ht _ => ⟨⟨rfl, S1.2.2, fun h => absurd h (by decide), by rw [ht]; exact hP, hf⟩, hS.F ht⟩) hS.2.2 dL_write_28
  · refine v_callX (Y := I_X5_write) (As := [.int p1, .int p2, .long p3, .int p5]) (rest := [.int 0, .ref (ad 66)]) (ci := 5) (T := TX5) (N := 8) (S1 := S1) (E := E_S) (pre := [⟨0, 14, 17, 13⟩, ⟨0, 14, 21, 15⟩, ⟨0, 14, 25, 17⟩]) (x := ⟨0, 14, 29, 19⟩) (suf := []) C hM hP hf hS ok_X5_write vw_8 rfl (by decide) (by decide) rfl hl.1 ⟨Nat.le_of_ble_eq_true rfl, Nat.le_of_ble_eq_true rfl⟩ ⟨rfl, rfl⟩ (Nat.le_of_ble_eq_true rfl) dL_write_9 rfl rfl (fun z hz => by
      simp only [List.mem_cons, List.not_mem_nil, or_false] at hz
      rcases hz with rfl | rfl | rfl
      · exact ⟨by decide, E_U, vw_1, List.mem_of_getElem? (i := 3) rfl⟩
      · exact ⟨by decide, E_I, vw_2, List.mem_of_getElem? (i := 4) rfl⟩
      · exact ⟨by decide, E_A, vw_3, List.mem_of_getElem? (i := 5) rfl⟩) (by decide) (by decide) vw_4 (List.mem_of_getElem? (i := 0) rfl) (fun q H locs hP hf hS => ?_)
    refine lv_astore (lv' := [(7, .ref q), (0, .ref (ad 0)), (1, .int p1), (2, .int p2), (3, .long p3), (5, .int p5), (6, .ref (ad 66))]) hx hb dL_write_29 hl (by decide) rfl (fun ls hl => ?_)
    refine lv_iconst (v := 4) hx hb dL_write_31 (by decide) ?_
    exact W.iret hx hb hr (fun t ht _ => ⟨⟨rfl, S1.2.2, fun h => absurd h (by decide), by rw [ht]; exact hP, hf⟩, hS.F ht⟩) hS.2.2 dL_write_32
theorem vc_write : Cond.codeWith J_write.1 J_write.2.1 J_write.2.2.1 (some .int) J_write.2.2.2 ∈ z_G ∧ Cond.static J_write.1 ∈ z_G ∧ Cond.initialized J_write.1.cls ∈ z_G := ⟨z_Gin (List.mem_of_getElem? (i := 652) (by decide +kernel)) rfl, z_Gin (List.mem_of_getElem? (i := 651) (by decide +kernel)) rfl, z_Gin (List.mem_of_getElem? (i := 88) (by decide +kernel)) rfl⟩
def J_fill : v_I := (yL_fill, cL_fill, 7, [(0, 14, 17, 13), (0, 14, 21, 15), (0, 14, 25, 17), (0, 14, 29, 19)])
set_option maxRecDepth 100000 in
set_option maxHeartbeats 4000000 in
theorem v_fill {l : Launch} {B : Nat} {p1 : Int32} {p2 : Int32} {p3 : Int32} {p4 : Int32} {S S1 : z_S} {code : Nat} {w : Int32} (hst : l.stackTraces = false) (hF : F_X5_fill B p1 p2 p3 p4 S = some (r_o [E_U, E_I, E_A, E_S] code w, S1)) (hc : code ≤ 4) : v_Met l J_fill 9 248 B [.ref 0, .int p1, .int p2, .int p3, .int p4, .ref 66] S code (fun lg => code = 0 → lg 0 = w.toInt64) S1 := by
  refine v_enter (by decide) (Nat.le_of_ble_eq_true rfl) ?_
  intro p e s m args below meth c D K ad ls C hl hP hf hS
  obtain ⟨hx, hb, hr, hml, hown, hts, hlocks, hK, hado, hxs, htab, hnc⟩ := id C
  have hb : c.code = cL_fill := hb
  have hl : lv_has ls 7 [(0, .ref (ad 0)), (1, .int p1), (2, .int p2), (3, .int p3), (4, .int p4), (5, .ref (ad 66))] := hl
  refine lv_aload hx hb dL_fill_0 (lv_at hl 5 rfl) ?_
  refine lv_iconst (v := 0) hx hb dL_fill_2 (by decide) ?_
  refine lv_aload_n hx hb dL_fill_3 rfl (lv_at hl 0 rfl) ?_
  refine lv_iload_n hx hb dL_fill_4 rfl (lv_at hl 1 rfl) ?_
  refine lv_iload_n hx hb dL_fill_5 rfl (lv_at hl 2 rfl) ?_
  refine lv_iload_n hx hb dL_fill_6 rfl (lv_at hl 3 rfl) ?_
  refine lv_iload hx hb dL_fill_7 (lv_at hl 4 rfl) ?_
  have hM := c_X5_fill hst hF
  rcases (show code = 0 ∨ code = 1 ∨ code = 2 ∨ code = 3 ∨ code = 4 by omega) with rfl | rfl | rfl | rfl | rfl
  · refine v_callR (Y := I_X5_fill) (As := [.int p1, .int p2, .int p3, .int p4]) (rest := [.int 0, .ref (ad 66)]) (ci := 5) (T := TX5) (N := 8) (S1 := S1) (r := some w) ⟨hx, hb, hml, hown, hts⟩ hM hado hK hP (fun U h1 h2 => z_preU hK hxs hP hf hS U h1 h2) hS (fun q h => h) ok_X5_fill vw_9 rfl (by decide) (by decide) rfl hl.1 ⟨Nat.le_of_ble_eq_true rfl, Nat.le_of_ble_eq_true rfl⟩ ⟨Nat.zero_le _, Nat.zero_le _⟩ (Nat.le_of_ble_eq_true rfl) dL_fill_9 rfl (fun H locs hP hf hS _ => ?_)
    refine lv_i2l hx hb dL_fill_12 rfl ?_
    refine va_last hx hb hK hP (z_D hado) hS 66 3 v_l_at rfl (y_in (k := 0) (by decide) (by decide) (by show 0 < 0 * B + 1; omega)) dL_fill_13 (fun H locs hP hD hS => ?_)
    rw [v_ul_ws] at hP
    refine lv_goto (tgt := 33) hx hb dL_fill_14 (by decide) ?_
    refine lv_iconst (v := 0) hx hb dL_fill_33 (by decide) ?_
    refine W.widen (k := 1) (n := 6) (by omega) (by omega) ?_
    exact W.iret hx hb hr (fun t ht _ => ⟨⟨rfl, _, fun _ => rfl, by rw [ht]; exact hP, hf⟩, hS.F ht⟩) hS.2.2 dL_fill_34
  · refine v_callX (Y := I_X5_fill) (As := [.int p1, .int p2, .int p3, .int p4]) (rest := [.int 0, .ref (ad 66)]) (ci := 5) (T := TX5) (N := 8) (S1 := S1) (E := E_U) (pre := []) (x := ⟨0, 14, 17, 13⟩) (suf := [⟨0, 14, 21, 15⟩, ⟨0, 14, 25, 17⟩, ⟨0, 14, 29, 19⟩]) C hM hP hf hS ok_X5_fill vw_9 rfl (by decide) (by decide) rfl hl.1 ⟨Nat.le_of_ble_eq_true rfl, Nat.le_of_ble_eq_true rfl⟩ ⟨rfl, rfl⟩ (Nat.le_of_ble_eq_true rfl) dL_fill_9 rfl rfl (fun z hz => absurd hz List.not_mem_nil) (by decide) (by decide) vw_1 (List.mem_of_getElem? (i := 1) rfl) (fun q H locs hP hf hS => ?_)
    refine lv_astore (lv' := [(6, .ref q), (0, .ref (ad 0)), (1, .int p1), (2, .int p2), (3, .int p3), (4, .int p4), (5, .ref (ad 66))]) hx hb dL_fill_17 hl (by decide) rfl (fun ls hl => ?_)
    refine lv_iconst (v := 1) hx hb dL_fill_19 (by decide) ?_
    exact W.iret hx hb hr (fun t ht _ => ⟨⟨rfl, S1.2.2, fun h => absurd h (by decide), by rw [ht]; exact hP, hf⟩, hS.F ht⟩) hS.2.2 dL_fill_20
  · refine v_callX (Y := I_X5_fill) (As := [.int p1, .int p2, .int p3, .int p4]) (rest := [.int 0, .ref (ad 66)]) (ci := 5) (T := TX5) (N := 8) (S1 := S1) (E := E_I) (pre := [⟨0, 14, 17, 13⟩]) (x := ⟨0, 14, 21, 15⟩) (suf := [⟨0, 14, 25, 17⟩, ⟨0, 14, 29, 19⟩]) C hM hP hf hS ok_X5_fill vw_9 rfl (by decide) (by decide) rfl hl.1 ⟨Nat.le_of_ble_eq_true rfl, Nat.le_of_ble_eq_true rfl⟩ ⟨rfl, rfl⟩ (Nat.le_of_ble_eq_true rfl) dL_fill_9 rfl rfl (fun z hz => by
      simp only [List.mem_cons, List.not_mem_nil, or_false] at hz
      rcases hz with rfl
      · exact ⟨by decide, E_U, vw_1, List.mem_of_getElem? (i := 0) rfl⟩) (by decide) (by decide) vw_2 (List.mem_of_getElem? (i := 2) rfl) (fun q H locs hP hf hS => ?_)
    refine lv_astore (lv' := [(6, .ref q), (0, .ref (ad 0)), (1, .int p1), (2, .int p2), (3, .int p3), (4, .int p4), (5, .ref (ad 66))]) hx hb dL_fill_21 hl (by decide) rfl (fun ls hl => ?_)
    refine lv_iconst (v := 2) hx hb dL_fill_23 (by decide) ?_
    exact W.iret hx hb hr (fun t ht _ => ⟨⟨rfl, S1.2.2, fun h => absurd h (by decide), by rw [ht]; exact hP, hf⟩, hS.F ht⟩) hS.2.2 dL_fill_24
  · refine v_callX (Y := I_X5_fill) (As := [.int p1, .int p2, .int p3, .int p4]) (rest := [.int 0, .ref (ad 66)]) (ci := 5) (T := TX5) (N := 8) (S1 := S1) (E := E_A) (pre := [⟨0, 14, 17, 13⟩, ⟨0, 14, 21, 15⟩]) (x := ⟨0, 14, 25, 17⟩) (suf := [⟨0, 14, 29, 19⟩]) C hM hP hf hS ok_X5_fill vw_9 rfl (by decide) (by decide) rfl hl.1 ⟨Nat.le_of_ble_eq_true rfl, Nat.le_of_ble_eq_true rfl⟩ ⟨rfl, rfl⟩ (Nat.le_of_ble_eq_true rfl) dL_fill_9 rfl rfl (fun z hz => by
      simp only [List.mem_cons, List.not_mem_nil, or_false] at hz
      rcases hz with rfl | rfl
      · exact ⟨by decide, E_U, vw_1, List.mem_of_getElem? (i := 1) rfl⟩
      · exact ⟨by decide, E_I, vw_2, List.mem_of_getElem? (i := 2) rfl⟩) (by decide) (by decide) vw_3 (List.mem_of_getElem? (i := 3) rfl) (fun q H locs hP hf hS => ?_)
    refine lv_astore (lv' := [(6, .ref q), (0, .ref (ad 0)), (1, .int p1), (2, .int p2), (3, .int p3), (4, .int p4), (5, .ref (ad 66))]) hx hb dL_fill_25 hl (by decide) rfl (fun ls hl => ?_)
    refine lv_iconst (v := 3) hx hb dL_fill_27 (by decide) ?_
    exact W.iret hx hb hr (fun t ht _ => ⟨⟨rfl, S1.2.2, fun h => absurd h (by decide), by rw [ht]; exact hP, hf⟩, hS.F ht⟩) hS.2.2 dL_fill_28
  · refine v_callX (Y := I_X5_fill) (As := [.int p1, .int p2, .int p3, .int p4]) (rest := [.int 0, .ref (ad 66)]) (ci := 5) (T := TX5) (N := 8) (S1 := S1) (E := E_S) (pre := [⟨0, 14, 17, 13⟩, ⟨0, 14, 21, 15⟩, ⟨0, 14, 25, 17⟩]) (x := ⟨0, 14, 29, 19⟩) (suf := []) C hM hP hf hS ok_X5_fill vw_9 rfl (by decide) (by decide) rfl hl.1 ⟨Nat.le_of_ble_eq_true rfl, Nat.le_of_ble_eq_true rfl⟩ ⟨rfl, rfl⟩ (Nat.le_of_ble_eq_true rfl) dL_fill_9 rfl rfl (fun z hz => by
      simp only [List.mem_cons, List.not_mem_nil, or_false] at hz
      rcases hz with rfl | rfl | rfl
      · exact ⟨by decide, E_U, vw_1, List.mem_of_getElem? (i := 3) rfl⟩
      · exact ⟨by decide, E_I, vw_2, List.mem_of_getElem? (i := 4) rfl⟩
      · exact ⟨by decide, E_A, vw_3, List.mem_of_getElem? (i := 5) rfl⟩) (by decide) (by decide) vw_4 (List.mem_of_getElem? (i := 0) rfl) (fun q H locs hP hf hS => ?_)
    refine lv_astore (lv' := [(6, .ref q), (0, .ref (ad 0)), (1, .int p1), (2, .int p2), (3, .int p3), (4, .int p4), (5, .ref (ad 66))]) hx hb dL_fill_29 hl (by decide) rfl (fun ls hl => ?_)
    refine lv_iconst (v := 4) hx hb dL_fill_31 (by decide) ?_
    exact W.iret hx hb hr (fun t ht _ => ⟨⟨rfl, S1.2.2, fun h => absurd h (by decide), by rw [ht]; exact hP, hf⟩, hS.F ht⟩) hS.2.2 dL_fill_32
theorem vc_fill : Cond.codeWith J_fill.1 J_fill.2.1 J_fill.2.2.1 (some .int) J_fill.2.2.2 ∈ z_G ∧ Cond.static J_fill.1 ∈ z_G ∧ Cond.initialized J_fill.1.cls ∈ z_G := ⟨z_Gin (List.mem_of_getElem? (i := 684) (by decide +kernel)) rfl, z_Gin (List.mem_of_getElem? (i := 683) (by decide +kernel)) rfl, z_Gin (List.mem_of_getElem? (i := 88) (by decide +kernel)) rfl⟩
def J_cut : v_I := (yL_cut, cL_cut, 5, [(0, 10, 13, 13), (0, 10, 17, 15), (0, 10, 21, 17), (0, 10, 25, 19)])
set_option maxRecDepth 100000 in
set_option maxHeartbeats 4000000 in
theorem v_cut {l : Launch} {B : Nat} {p1 : Int32} {p2 : Int32} {S S1 : z_S} {code : Nat} {w : Int32} (hst : l.stackTraces = false) (hF : F_X5_cut B p1 p2 S = some (r_o [E_U, E_I, E_A, E_S] code w, S1)) (hc : code ≤ 4) : v_Met l J_cut 9 246 B [.ref 0, .int p1, .int p2, .ref 66] S code (fun lg => code = 0 → lg 0 = w.toInt64) S1 := by
  refine v_enter (by decide) (Nat.le_of_ble_eq_true rfl) ?_
  intro p e s m args below meth c D K ad ls C hl hP hf hS
  obtain ⟨hx, hb, hr, hml, hown, hts, hlocks, hK, hado, hxs, htab, hnc⟩ := id C
  have hb : c.code = cL_cut := hb
  have hl : lv_has ls 5 [(0, .ref (ad 0)), (1, .int p1), (2, .int p2), (3, .ref (ad 66))] := hl
  refine lv_aload_n hx hb dL_cut_0 rfl (lv_at hl 3 rfl) ?_
  refine lv_iconst (v := 0) hx hb dL_cut_1 (by decide) ?_
  refine lv_aload_n hx hb dL_cut_2 rfl (lv_at hl 0 rfl) ?_
  refine lv_iload_n hx hb dL_cut_3 rfl (lv_at hl 1 rfl) ?_
  refine lv_iload_n hx hb dL_cut_4 rfl (lv_at hl 2 rfl) ?_
  have hM := c_X5_cut hst hF
  rcases (show code = 0 ∨ code = 1 ∨ code = 2 ∨ code = 3 ∨ code = 4 by omega) with rfl | rfl | rfl | rfl | rfl
  · refine v_callR (Y := I_X5_cut) (As := [.int p1, .int p2]) (rest := [.int 0, .ref (ad 66)]) (ci := 5) (T := TX5) (N := 8) (S1 := S1) (r := some w) ⟨hx, hb, hml, hown, hts⟩ hM hado hK hP (fun U h1 h2 => z_preU hK hxs hP hf hS U h1 h2) hS (fun q h => h) ok_X5_cut vw_10 rfl (by decide) (by decide) rfl hl.1 ⟨Nat.le_of_ble_eq_true rfl, Nat.le_of_ble_eq_true rfl⟩ ⟨Nat.zero_le _, Nat.zero_le _⟩ (Nat.le_of_ble_eq_true rfl) dL_cut_5 rfl (fun H locs hP hf hS _ => ?_)
    refine lv_i2l hx hb dL_cut_8 rfl ?_
    refine va_last hx hb hK hP (z_D hado) hS 66 3 v_l_at rfl (y_in (k := 0) (by decide) (by decide) (by show 0 < 0 * B + 1; omega)) dL_cut_9 (fun H locs hP hD hS => ?_)
    rw [v_ul_ws] at hP
    refine lv_goto (tgt := 29) hx hb dL_cut_10 (by decide) ?_
    refine lv_iconst (v := 0) hx hb dL_cut_29 (by decide) ?_
    refine W.widen (k := 1) (n := 6) (by omega) (by omega) ?_
    exact W.iret hx hb hr (fun t ht _ => ⟨⟨rfl, _, fun _ => rfl, by rw [ht]; exact hP, hf⟩, hS.F ht⟩) hS.2.2 dL_cut_30
  · refine v_callX (Y := I_X5_cut) (As := [.int p1, .int p2]) (rest := [.int 0, .ref (ad 66)]) (ci := 5) (T := TX5) (N := 8) (S1 := S1) (E := E_U) (pre := []) (x := ⟨0, 10, 13, 13⟩) (suf := [⟨0, 10, 17, 15⟩, ⟨0, 10, 21, 17⟩, ⟨0, 10, 25, 19⟩]) C hM hP hf hS ok_X5_cut vw_10 rfl (by decide) (by decide) rfl hl.1 ⟨Nat.le_of_ble_eq_true rfl, Nat.le_of_ble_eq_true rfl⟩ ⟨rfl, rfl⟩ (Nat.le_of_ble_eq_true rfl) dL_cut_5 rfl rfl (fun z hz => absurd hz List.not_mem_nil) (by decide) (by decide) vw_1 (List.mem_of_getElem? (i := 1) rfl) (fun q H locs hP hf hS => ?_)
    refine lv_astore (lv' := [(4, .ref q), (0, .ref (ad 0)), (1, .int p1), (2, .int p2), (3, .ref (ad 66))]) hx hb dL_cut_13 hl (by decide) rfl (fun ls hl => ?_)
    refine lv_iconst (v := 1) hx hb dL_cut_15 (by decide) ?_
    exact W.iret hx hb hr (fun t ht _ => ⟨⟨rfl, S1.2.2, fun h => absurd h (by decide), by rw [ht]; exact hP, hf⟩, hS.F ht⟩) hS.2.2 dL_cut_16
  · refine v_callX (Y := I_X5_cut) (As := [.int p1, .int p2]) (rest := [.int 0, .ref (ad 66)]) (ci := 5) (T := TX5) (N := 8) (S1 := S1) (E := E_I) (pre := [⟨0, 10, 13, 13⟩]) (x := ⟨0, 10, 17, 15⟩) (suf := [⟨0, 10, 21, 17⟩, ⟨0, 10, 25, 19⟩]) C hM hP hf hS ok_X5_cut vw_10 rfl (by decide) (by decide) rfl hl.1 ⟨Nat.le_of_ble_eq_true rfl, Nat.le_of_ble_eq_true rfl⟩ ⟨rfl, rfl⟩ (Nat.le_of_ble_eq_true rfl) dL_cut_5 rfl rfl (fun z hz => by
      simp only [List.mem_cons, List.not_mem_nil, or_false] at hz
      rcases hz with rfl
      · exact ⟨by decide, E_U, vw_1, List.mem_of_getElem? (i := 0) rfl⟩) (by decide) (by decide) vw_2 (List.mem_of_getElem? (i := 2) rfl) (fun q H locs hP hf hS => ?_)
    refine lv_astore (lv' := [(4, .ref q), (0, .ref (ad 0)), (1, .int p1), (2, .int p2), (3, .ref (ad 66))]) hx hb dL_cut_17 hl (by decide) rfl (fun ls hl => ?_)
    refine lv_iconst (v := 2) hx hb dL_cut_19 (by decide) ?_
    exact W.iret hx hb hr (fun t ht _ => ⟨⟨rfl, S1.2.2, fun h => absurd h (by decide), by rw [ht]; exact hP, hf⟩, hS.F ht⟩) hS.2.2 dL_cut_20
  · refine v_callX (Y := I_X5_cut) (As := [.int p1, .int p2]) (rest := [.int 0, .ref (ad 66)]) (ci := 5) (T := TX5) (N := 8) (S1 := S1) (E := E_A) (pre := [⟨0, 10, 13, 13⟩, ⟨0, 10, 17, 15⟩]) (x := ⟨0, 10, 21, 17⟩) (suf := [⟨0, 10, 25, 19⟩]) C hM hP hf hS ok_X5_cut vw_10 rfl (by decide) (by decide) rfl hl.1 ⟨Nat.le_of_ble_eq_true rfl, Nat.le_of_ble_eq_true rfl⟩ ⟨rfl, rfl⟩ (Nat.le_of_ble_eq_true rfl) dL_cut_5 rfl rfl (fun z hz => by
      simp only [List.mem_cons, List.not_mem_nil, or_false] at hz
      rcases hz with rfl | rfl
      · exact ⟨by decide, E_U, vw_1, List.mem_of_getElem? (i := 1) rfl⟩
      · exact ⟨by decide, E_I, vw_2, List.mem_of_getElem? (i := 2) rfl⟩) (by decide) (by decide) vw_3 (List.mem_of_getElem? (i := 3) rfl) (fun q H locs hP hf hS => ?_)
    refine lv_astore (lv' := [(4, .ref q), (0, .ref (ad 0)), (1, .int p1), (2, .int p2), (3, .ref (ad 66))]) hx hb dL_cut_21 hl (by decide) rfl (fun ls hl => ?_)
    refine lv_iconst (v := 3) hx hb dL_cut_23 (by decide) ?_
    exact W.iret hx hb hr (fun t ht _ => ⟨⟨rfl, S1.2.2, fun h => absurd h (by decide), by rw [ht]; exact hP, hf⟩, hS.F ht⟩) hS.2.2 dL_cut_24
  · refine v_callX (Y := I_X5_cut) (As := [.int p1, .int p2]) (rest := [.int 0, .ref (ad 66)]) (ci := 5) (T := TX5) (N := 8) (S1 := S1) (E := E_S) (pre := [⟨0, 10, 13, 13⟩, ⟨0, 10, 17, 15⟩, ⟨0, 10, 21, 17⟩]) (x := ⟨0, 10, 25, 19⟩) (suf := []) C hM hP hf hS ok_X5_cut vw_10 rfl (by decide) (by decide) rfl hl.1 ⟨Nat.le_of_ble_eq_true rfl, Nat.le_of_ble_eq_true rfl⟩ ⟨rfl, rfl⟩ (Nat.le_of_ble_eq_true rfl) dL_cut_5 rfl rfl (fun z hz => by
      simp only [List.mem_cons, List.not_mem_nil, or_false] at hz
      rcases hz with rfl | rfl | rfl
      · exact ⟨by decide, E_U, vw_1, List.mem_of_getElem? (i := 3) rfl⟩
      · exact ⟨by decide, E_I, vw_2, List.mem_of_getElem? (i := 4) rfl⟩
      · exact ⟨by decide, E_A, vw_3, List.mem_of_getElem? (i := 5) rfl⟩) (by decide) (by decide) vw_4 (List.mem_of_getElem? (i := 0) rfl) (fun q H locs hP hf hS => ?_)
    refine lv_astore (lv' := [(4, .ref q), (0, .ref (ad 0)), (1, .int p1), (2, .int p2), (3, .ref (ad 66))]) hx hb dL_cut_25 hl (by decide) rfl (fun ls hl => ?_)
    refine lv_iconst (v := 4) hx hb dL_cut_27 (by decide) ?_
    exact W.iret hx hb hr (fun t ht _ => ⟨⟨rfl, S1.2.2, fun h => absurd h (by decide), by rw [ht]; exact hP, hf⟩, hS.F ht⟩) hS.2.2 dL_cut_28
theorem vc_cut : Cond.codeWith J_cut.1 J_cut.2.1 J_cut.2.2.1 (some .int) J_cut.2.2.2 ∈ z_G ∧ Cond.static J_cut.1 ∈ z_G ∧ Cond.initialized J_cut.1.cls ∈ z_G := ⟨z_Gin (List.mem_of_getElem? (i := 691) (by decide +kernel)) rfl, z_Gin (List.mem_of_getElem? (i := 690) (by decide +kernel)) rfl, z_Gin (List.mem_of_getElem? (i := 88) (by decide +kernel)) rfl⟩
def J_read : v_I := (yL_read, cL_read, 5, [(0, 10, 13, 13), (0, 10, 17, 15)])
set_option maxRecDepth 100000 in
set_option maxHeartbeats 4000000 in
theorem v_read {l : Launch} {B : Nat} {p1 : Int32} {p2 : Int32} {S S1 : z_S} {code : Nat} {w : Int32} (hst : l.stackTraces = false) (hF : F_X5_read B p1 p2 S = some (r_o [E_U, E_I] code w, S1)) (hc : code ≤ 2) : v_Met l J_read 8 133 B [.ref 0, .int p1, .int p2, .ref 66] S code (fun lg => code = 0 → lg 0 = w.toInt64) S1 := by
  refine v_enter (by decide) (Nat.le_of_ble_eq_true rfl) ?_
  intro p e s m args below meth c D K ad ls C hl hP hf hS
  obtain ⟨hx, hb, hr, hml, hown, hts, hlocks, hK, hado, hxs, htab, hnc⟩ := id C
  have hb : c.code = cL_read := hb
  have hl : lv_has ls 5 [(0, .ref (ad 0)), (1, .int p1), (2, .int p2), (3, .ref (ad 66))] := hl
  refine lv_aload_n hx hb dL_read_0 rfl (lv_at hl 3 rfl) ?_
  refine lv_iconst (v := 0) hx hb dL_read_1 (by decide) ?_
  refine lv_aload_n hx hb dL_read_2 rfl (lv_at hl 0 rfl) ?_
  refine lv_iload_n hx hb dL_read_3 rfl (lv_at hl 1 rfl) ?_
  refine lv_iload_n hx hb dL_read_4 rfl (lv_at hl 2 rfl) ?_
  have hM := c_X5_read hst hF
  rcases (show code = 0 ∨ code = 1 ∨ code = 2 by omega) with rfl | rfl | rfl
  · refine v_callR (Y := I_X5_read) (As := [.int p1, .int p2]) (rest := [.int 0, .ref (ad 66)]) (ci := 5) (T := TX5) (N := 8) (S1 := S1) (r := some w) ⟨hx, hb, hml, hown, hts⟩ hM hado hK hP (fun U h1 h2 => z_preU hK hxs hP hf hS U h1 h2) hS (fun q h => h) ok_X5_read vw_11 rfl (by decide) (by decide) rfl hl.1 ⟨Nat.le_of_ble_eq_true rfl, Nat.le_of_ble_eq_true rfl⟩ ⟨Nat.zero_le _, Nat.zero_le _⟩ (Nat.le_of_ble_eq_true rfl) dL_read_5 rfl (fun H locs hP hf hS _ => ?_)
    refine lv_i2l hx hb dL_read_8 rfl ?_
    refine va_last hx hb hK hP (z_D hado) hS 66 3 v_l_at rfl (y_in (k := 0) (by decide) (by decide) (by show 0 < 0 * B + 1; omega)) dL_read_9 (fun H locs hP hD hS => ?_)
    rw [v_ul_ws] at hP
    refine lv_goto (tgt := 21) hx hb dL_read_10 (by decide) ?_
    refine lv_iconst (v := 0) hx hb dL_read_21 (by decide) ?_
    refine W.widen (k := 1) (n := 6) (by omega) (by omega) ?_
    exact W.iret hx hb hr (fun t ht _ => ⟨⟨rfl, _, fun _ => rfl, by rw [ht]; exact hP, hf⟩, hS.F ht⟩) hS.2.2 dL_read_22
  · refine v_callX (Y := I_X5_read) (As := [.int p1, .int p2]) (rest := [.int 0, .ref (ad 66)]) (ci := 5) (T := TX5) (N := 8) (S1 := S1) (E := E_U) (pre := []) (x := ⟨0, 10, 13, 13⟩) (suf := [⟨0, 10, 17, 15⟩]) C hM hP hf hS ok_X5_read vw_11 rfl (by decide) (by decide) rfl hl.1 ⟨Nat.le_of_ble_eq_true rfl, Nat.le_of_ble_eq_true rfl⟩ ⟨rfl, rfl⟩ (Nat.le_of_ble_eq_true rfl) dL_read_5 rfl rfl (fun z hz => absurd hz List.not_mem_nil) (by decide) (by decide) vw_1 (List.mem_of_getElem? (i := 1) rfl) (fun q H locs hP hf hS => ?_)
    refine lv_astore (lv' := [(4, .ref q), (0, .ref (ad 0)), (1, .int p1), (2, .int p2), (3, .ref (ad 66))]) hx hb dL_read_13 hl (by decide) rfl (fun ls hl => ?_)
    refine lv_iconst (v := 1) hx hb dL_read_15 (by decide) ?_
    exact W.iret hx hb hr (fun t ht _ => ⟨⟨rfl, S1.2.2, fun h => absurd h (by decide), by rw [ht]; exact hP, hf⟩, hS.F ht⟩) hS.2.2 dL_read_16
  · refine v_callX (Y := I_X5_read) (As := [.int p1, .int p2]) (rest := [.int 0, .ref (ad 66)]) (ci := 5) (T := TX5) (N := 8) (S1 := S1) (E := E_I) (pre := [⟨0, 10, 13, 13⟩]) (x := ⟨0, 10, 17, 15⟩) (suf := []) C hM hP hf hS ok_X5_read vw_11 rfl (by decide) (by decide) rfl hl.1 ⟨Nat.le_of_ble_eq_true rfl, Nat.le_of_ble_eq_true rfl⟩ ⟨rfl, rfl⟩ (Nat.le_of_ble_eq_true rfl) dL_read_5 rfl rfl (fun z hz => by
      simp only [List.mem_cons, List.not_mem_nil, or_false] at hz
      rcases hz with rfl
      · exact ⟨by decide, E_U, vw_1, List.mem_of_getElem? (i := 0) rfl⟩) (by decide) (by decide) vw_2 (List.mem_of_getElem? (i := 2) rfl) (fun q H locs hP hf hS => ?_)
    refine lv_astore (lv' := [(4, .ref q), (0, .ref (ad 0)), (1, .int p1), (2, .int p2), (3, .ref (ad 66))]) hx hb dL_read_17 hl (by decide) rfl (fun ls hl => ?_)
    refine lv_iconst (v := 2) hx hb dL_read_19 (by decide) ?_
    exact W.iret hx hb hr (fun t ht _ => ⟨⟨rfl, S1.2.2, fun h => absurd h (by decide), by rw [ht]; exact hP, hf⟩, hS.F ht⟩) hS.2.2 dL_read_20
theorem vc_read : Cond.codeWith J_read.1 J_read.2.1 J_read.2.2.1 (some .int) J_read.2.2.2 ∈ z_G ∧ Cond.static J_read.1 ∈ z_G ∧ Cond.initialized J_read.1.cls ∈ z_G := ⟨z_Gin (List.mem_of_getElem? (i := 699) (by decide +kernel)) rfl, z_Gin (List.mem_of_getElem? (i := 698) (by decide +kernel)) rfl, z_Gin (List.mem_of_getElem? (i := 88) (by decide +kernel)) rfl⟩
def J_look : v_I := (yL_look, cL_look, 5, [(0, 10, 13, 13), (0, 10, 17, 15)])
set_option maxRecDepth 100000 in
set_option maxHeartbeats 4000000 in
theorem v_look {l : Launch} {B : Nat} {p1 : Int32} {p2 : Int32} {S S1 : z_S} {code : Nat} {w : Int32} (hst : l.stackTraces = false) (hF : F_X5_look B p1 p2 S = some (r_o [E_U, E_I] code w, S1)) (hc : code ≤ 2) : v_Met l J_look 8 133 B [.ref 0, .int p1, .int p2, .ref 66] S code (fun lg => code = 0 → lg 0 = w.toInt64) S1 := by
  refine v_enter (by decide) (Nat.le_of_ble_eq_true rfl) ?_
  intro p e s m args below meth c D K ad ls C hl hP hf hS
  obtain ⟨hx, hb, hr, hml, hown, hts, hlocks, hK, hado, hxs, htab, hnc⟩ := id C
  have hb : c.code = cL_look := hb
  have hl : lv_has ls 5 [(0, .ref (ad 0)), (1, .int p1), (2, .int p2), (3, .ref (ad 66))] := hl
  refine lv_aload_n hx hb dL_look_0 rfl (lv_at hl 3 rfl) ?_
  refine lv_iconst (v := 0) hx hb dL_look_1 (by decide) ?_
  refine lv_aload_n hx hb dL_look_2 rfl (lv_at hl 0 rfl) ?_
  refine lv_iload_n hx hb dL_look_3 rfl (lv_at hl 1 rfl) ?_
  refine lv_iload_n hx hb dL_look_4 rfl (lv_at hl 2 rfl) ?_
  have hM := c_X5_look hst hF
  rcases (show code = 0 ∨ code = 1 ∨ code = 2 by omega) with rfl | rfl | rfl
  · refine v_callR (Y := I_X5_look) (As := [.int p1, .int p2]) (rest := [.int 0, .ref (ad 66)]) (ci := 5) (T := TX5) (N := 8) (S1 := S1) (r := some w) ⟨hx, hb, hml, hown, hts⟩ hM hado hK hP (fun U h1 h2 => z_preU hK hxs hP hf hS U h1 h2) hS (fun q h => h) ok_X5_look vw_12 rfl (by decide) (by decide) rfl hl.1 ⟨Nat.le_of_ble_eq_true rfl, Nat.le_of_ble_eq_true rfl⟩ ⟨Nat.zero_le _, Nat.zero_le _⟩ (Nat.le_of_ble_eq_true rfl) dL_look_5 rfl (fun H locs hP hf hS _ => ?_)
    refine lv_i2l hx hb dL_look_8 rfl ?_
    refine va_last hx hb hK hP (z_D hado) hS 66 3 v_l_at rfl (y_in (k := 0) (by decide) (by decide) (by show 0 < 0 * B + 1; omega)) dL_look_9 (fun H locs hP hD hS => ?_)
    rw [v_ul_ws] at hP
    refine lv_goto (tgt := 21) hx hb dL_look_10 (by decide) ?_
    refine lv_iconst (v := 0) hx hb dL_look_21 (by decide) ?_
    refine W.widen (k := 1) (n := 6) (by omega) (by omega) ?_
    exact W.iret hx hb hr (fun t ht _ => ⟨⟨rfl, _, fun _ => rfl, by rw [ht]; exact hP, hf⟩, hS.F ht⟩) hS.2.2 dL_look_22
  · refine v_callX (Y := I_X5_look) (As := [.int p1, .int p2]) (rest := [.int 0, .ref (ad 66)]) (ci := 5) (T := TX5) (N := 8) (S1 := S1) (E := E_U) (pre := []) (x := ⟨0, 10, 13, 13⟩) (suf := [⟨0, 10, 17, 15⟩]) C hM hP hf hS ok_X5_look vw_12 rfl (by decide) (by decide) rfl hl.1 ⟨Nat.le_of_ble_eq_true rfl, Nat.le_of_ble_eq_true rfl⟩ ⟨rfl, rfl⟩ (Nat.le_of_ble_eq_true rfl) dL_look_5 rfl rfl (fun z hz => absurd hz List.not_mem_nil) (by decide) (by decide) vw_1 (List.mem_of_getElem? (i := 1) rfl) (fun q H locs hP hf hS => ?_)
    refine lv_astore (lv' := [(4, .ref q), (0, .ref (ad 0)), (1, .int p1), (2, .int p2), (3, .ref (ad 66))]) hx hb dL_look_13 hl (by decide) rfl (fun ls hl => ?_)
    refine lv_iconst (v := 1) hx hb dL_look_15 (by decide) ?_
    exact W.iret hx hb hr (fun t ht _ => ⟨⟨rfl, S1.2.2, fun h => absurd h (by decide), by rw [ht]; exact hP, hf⟩, hS.F ht⟩) hS.2.2 dL_look_16
  · refine v_callX (Y := I_X5_look) (As := [.int p1, .int p2]) (rest := [.int 0, .ref (ad 66)]) (ci := 5) (T := TX5) (N := 8) (S1 := S1) (E := E_I) (pre := [⟨0, 10, 13, 13⟩]) (x := ⟨0, 10, 17, 15⟩) (suf := []) C hM hP hf hS ok_X5_look vw_12 rfl (by decide) (by decide) rfl hl.1 ⟨Nat.le_of_ble_eq_true rfl, Nat.le_of_ble_eq_true rfl⟩ ⟨rfl, rfl⟩ (Nat.le_of_ble_eq_true rfl) dL_look_5 rfl rfl (fun z hz => by
      simp only [List.mem_cons, List.not_mem_nil, or_false] at hz
      rcases hz with rfl
      · exact ⟨by decide, E_U, vw_1, List.mem_of_getElem? (i := 0) rfl⟩) (by decide) (by decide) vw_2 (List.mem_of_getElem? (i := 2) rfl) (fun q H locs hP hf hS => ?_)
    refine lv_astore (lv' := [(4, .ref q), (0, .ref (ad 0)), (1, .int p1), (2, .int p2), (3, .ref (ad 66))]) hx hb dL_look_17 hl (by decide) rfl (fun ls hl => ?_)
    refine lv_iconst (v := 2) hx hb dL_look_19 (by decide) ?_
    exact W.iret hx hb hr (fun t ht _ => ⟨⟨rfl, S1.2.2, fun h => absurd h (by decide), by rw [ht]; exact hP, hf⟩, hS.F ht⟩) hS.2.2 dL_look_20
theorem vc_look : Cond.codeWith J_look.1 J_look.2.1 J_look.2.2.1 (some .int) J_look.2.2.2 ∈ z_G ∧ Cond.static J_look.1 ∈ z_G ∧ Cond.initialized J_look.1.cls ∈ z_G := ⟨z_Gin (List.mem_of_getElem? (i := 710) (by decide +kernel)) rfl, z_Gin (List.mem_of_getElem? (i := 709) (by decide +kernel)) rfl, z_Gin (List.mem_of_getElem? (i := 88) (by decide +kernel)) rfl⟩
def J_name : v_I := (yL_name, cL_name, 5, [(0, 10, 13, 13), (0, 10, 17, 15)])
set_option maxRecDepth 100000 in
set_option maxHeartbeats 4000000 in
theorem v_name {l : Launch} {B : Nat} {p1 : Int32} {p2 : Int32} {S S1 : z_S} {code : Nat} {w : Int32} (hst : l.stackTraces = false) (hF : F_X5_name B p1 p2 S = some (r_o [E_U, E_I] code w, S1)) (hc : code ≤ 2) : v_Met l J_name 8 135 B [.ref 0, .int p1, .int p2, .ref 66] S code (fun lg => code = 0 → lg 0 = w.toInt64) S1 := by
  refine v_enter (by decide) (Nat.le_of_ble_eq_true rfl) ?_
  intro p e s m args below meth c D K ad ls C hl hP hf hS
  obtain ⟨hx, hb, hr, hml, hown, hts, hlocks, hK, hado, hxs, htab, hnc⟩ := id C
  have hb : c.code = cL_name := hb
  have hl : lv_has ls 5 [(0, .ref (ad 0)), (1, .int p1), (2, .int p2), (3, .ref (ad 66))] := hl
  refine lv_aload_n hx hb dL_name_0 rfl (lv_at hl 3 rfl) ?_
  refine lv_iconst (v := 0) hx hb dL_name_1 (by decide) ?_
  refine lv_aload_n hx hb dL_name_2 rfl (lv_at hl 0 rfl) ?_
  refine lv_iload_n hx hb dL_name_3 rfl (lv_at hl 1 rfl) ?_
  refine lv_iload_n hx hb dL_name_4 rfl (lv_at hl 2 rfl) ?_
  have hM := c_X5_name hst hF
  rcases (show code = 0 ∨ code = 1 ∨ code = 2 by omega) with rfl | rfl | rfl
  · refine v_callR (Y := I_X5_name) (As := [.int p1, .int p2]) (rest := [.int 0, .ref (ad 66)]) (ci := 5) (T := TX5) (N := 8) (S1 := S1) (r := some w) ⟨hx, hb, hml, hown, hts⟩ hM hado hK hP (fun U h1 h2 => z_preU hK hxs hP hf hS U h1 h2) hS (fun q h => h) ok_X5_name vw_13 rfl (by decide) (by decide) rfl hl.1 ⟨Nat.le_of_ble_eq_true rfl, Nat.le_of_ble_eq_true rfl⟩ ⟨Nat.zero_le _, Nat.zero_le _⟩ (Nat.le_of_ble_eq_true rfl) dL_name_5 rfl (fun H locs hP hf hS _ => ?_)
    refine lv_i2l hx hb dL_name_8 rfl ?_
    refine va_last hx hb hK hP (z_D hado) hS 66 3 v_l_at rfl (y_in (k := 0) (by decide) (by decide) (by show 0 < 0 * B + 1; omega)) dL_name_9 (fun H locs hP hD hS => ?_)
    rw [v_ul_ws] at hP
    refine lv_goto (tgt := 21) hx hb dL_name_10 (by decide) ?_
    refine lv_iconst (v := 0) hx hb dL_name_21 (by decide) ?_
    refine W.widen (k := 1) (n := 6) (by omega) (by omega) ?_
    exact W.iret hx hb hr (fun t ht _ => ⟨⟨rfl, _, fun _ => rfl, by rw [ht]; exact hP, hf⟩, hS.F ht⟩) hS.2.2 dL_name_22
  · refine v_callX (Y := I_X5_name) (As := [.int p1, .int p2]) (rest := [.int 0, .ref (ad 66)]) (ci := 5) (T := TX5) (N := 8) (S1 := S1) (E := E_U) (pre := []) (x := ⟨0, 10, 13, 13⟩) (suf := [⟨0, 10, 17, 15⟩]) C hM hP hf hS ok_X5_name vw_13 rfl (by decide) (by decide) rfl hl.1 ⟨Nat.le_of_ble_eq_true rfl, Nat.le_of_ble_eq_true rfl⟩ ⟨rfl, rfl⟩ (Nat.le_of_ble_eq_true rfl) dL_name_5 rfl rfl (fun z hz => absurd hz List.not_mem_nil) (by decide) (by decide) vw_1 (List.mem_of_getElem? (i := 1) rfl) (fun q H locs hP hf hS => ?_)
    refine lv_astore (lv' := [(4, .ref q), (0, .ref (ad 0)), (1, .int p1), (2, .int p2), (3, .ref (ad 66))]) hx hb dL_name_13 hl (by decide) rfl (fun ls hl => ?_)
    refine lv_iconst (v := 1) hx hb dL_name_15 (by decide) ?_
    exact W.iret hx hb hr (fun t ht _ => ⟨⟨rfl, S1.2.2, fun h => absurd h (by decide), by rw [ht]; exact hP, hf⟩, hS.F ht⟩) hS.2.2 dL_name_16
  · refine v_callX (Y := I_X5_name) (As := [.int p1, .int p2]) (rest := [.int 0, .ref (ad 66)]) (ci := 5) (T := TX5) (N := 8) (S1 := S1) (E := E_I) (pre := [⟨0, 10, 13, 13⟩]) (x := ⟨0, 10, 17, 15⟩) (suf := []) C hM hP hf hS ok_X5_name vw_13 rfl (by decide) (by decide) rfl hl.1 ⟨Nat.le_of_ble_eq_true rfl, Nat.le_of_ble_eq_true rfl⟩ ⟨rfl, rfl⟩ (Nat.le_of_ble_eq_true rfl) dL_name_5 rfl rfl (fun z hz => by
      simp only [List.mem_cons, List.not_mem_nil, or_false] at hz
      rcases hz with rfl
      · exact ⟨by decide, E_U, vw_1, List.mem_of_getElem? (i := 0) rfl⟩) (by decide) (by decide) vw_2 (List.mem_of_getElem? (i := 2) rfl) (fun q H locs hP hf hS => ?_)
    refine lv_astore (lv' := [(4, .ref q), (0, .ref (ad 0)), (1, .int p1), (2, .int p2), (3, .ref (ad 66))]) hx hb dL_name_17 hl (by decide) rfl (fun ls hl => ?_)
    refine lv_iconst (v := 2) hx hb dL_name_19 (by decide) ?_
    exact W.iret hx hb hr (fun t ht _ => ⟨⟨rfl, S1.2.2, fun h => absurd h (by decide), by rw [ht]; exact hP, hf⟩, hS.F ht⟩) hS.2.2 dL_name_20
theorem vc_name : Cond.codeWith J_name.1 J_name.2.1 J_name.2.2.1 (some .int) J_name.2.2.2 ∈ z_G ∧ Cond.static J_name.1 ∈ z_G ∧ Cond.initialized J_name.1.cls ∈ z_G := ⟨z_Gin (List.mem_of_getElem? (i := 717) (by decide +kernel)) rfl, z_Gin (List.mem_of_getElem? (i := 716) (by decide +kernel)) rfl, z_Gin (List.mem_of_getElem? (i := 88) (by decide +kernel)) rfl⟩
def J_about : v_I := (yL_about, cL_about, 5, [(0, 10, 13, 13), (0, 10, 17, 15), (0, 10, 21, 17)])
set_option maxRecDepth 100000 in
set_option maxHeartbeats 4000000 in
theorem v_about {l : Launch} {B : Nat} {p1 : Int32} {p2 : Int32} {S S1 : z_S} {code : Nat} {w : Int32} (hst : l.stackTraces = false) (hF : F_X5_about B p1 p2 S = some (r_o [E_U, E_I, E_A] code w, S1)) (hc : code ≤ 3) : v_Met l J_about 8 133 B [.ref 0, .int p1, .int p2, .ref 66] S code (fun lg => code = 0 → lg 0 = w.toInt64) S1 := by
  refine v_enter (by decide) (Nat.le_of_ble_eq_true rfl) ?_
  intro p e s m args below meth c D K ad ls C hl hP hf hS
  obtain ⟨hx, hb, hr, hml, hown, hts, hlocks, hK, hado, hxs, htab, hnc⟩ := id C
  have hb : c.code = cL_about := hb
  have hl : lv_has ls 5 [(0, .ref (ad 0)), (1, .int p1), (2, .int p2), (3, .ref (ad 66))] := hl
  refine lv_aload_n hx hb dL_about_0 rfl (lv_at hl 3 rfl) ?_
  refine lv_iconst (v := 0) hx hb dL_about_1 (by decide) ?_
  refine lv_aload_n hx hb dL_about_2 rfl (lv_at hl 0 rfl) ?_
  refine lv_iload_n hx hb dL_about_3 rfl (lv_at hl 1 rfl) ?_
  refine lv_iload_n hx hb dL_about_4 rfl (lv_at hl 2 rfl) ?_
  have hM := c_X5_about hst hF
  rcases (show code = 0 ∨ code = 1 ∨ code = 2 ∨ code = 3 by omega) with rfl | rfl | rfl | rfl
  · refine v_callR (Y := I_X5_about) (As := [.int p1, .int p2]) (rest := [.int 0, .ref (ad 66)]) (ci := 5) (T := TX5) (N := 8) (S1 := S1) (r := some w) ⟨hx, hb, hml, hown, hts⟩ hM hado hK hP (fun U h1 h2 => z_preU hK hxs hP hf hS U h1 h2) hS (fun q h => h) ok_X5_about vw_14 rfl (by decide) (by decide) rfl hl.1 ⟨Nat.le_of_ble_eq_true rfl, Nat.le_of_ble_eq_true rfl⟩ ⟨Nat.zero_le _, Nat.zero_le _⟩ (Nat.le_of_ble_eq_true rfl) dL_about_5 rfl (fun H locs hP hf hS _ => ?_)
    refine lv_i2l hx hb dL_about_8 rfl ?_
    refine va_last hx hb hK hP (z_D hado) hS 66 3 v_l_at rfl (y_in (k := 0) (by decide) (by decide) (by show 0 < 0 * B + 1; omega)) dL_about_9 (fun H locs hP hD hS => ?_)
    rw [v_ul_ws] at hP
    refine lv_goto (tgt := 25) hx hb dL_about_10 (by decide) ?_
    refine lv_iconst (v := 0) hx hb dL_about_25 (by decide) ?_
    refine W.widen (k := 1) (n := 6) (by omega) (by omega) ?_
    exact W.iret hx hb hr (fun t ht _ => ⟨⟨rfl, _, fun _ => rfl, by rw [ht]; exact hP, hf⟩, hS.F ht⟩) hS.2.2 dL_about_26
  · refine v_callX (Y := I_X5_about) (As := [.int p1, .int p2]) (rest := [.int 0, .ref (ad 66)]) (ci := 5) (T := TX5) (N := 8) (S1 := S1) (E := E_U) (pre := []) (x := ⟨0, 10, 13, 13⟩) (suf := [⟨0, 10, 17, 15⟩, ⟨0, 10, 21, 17⟩]) C hM hP hf hS ok_X5_about vw_14 rfl (by decide) (by decide) rfl hl.1 ⟨Nat.le_of_ble_eq_true rfl, Nat.le_of_ble_eq_true rfl⟩ ⟨rfl, rfl⟩ (Nat.le_of_ble_eq_true rfl) dL_about_5 rfl rfl (fun z hz => absurd hz List.not_mem_nil) (by decide) (by decide) vw_1 (List.mem_of_getElem? (i := 1) rfl) (fun q H locs hP hf hS => ?_)
    refine lv_astore (lv' := [(4, .ref q), (0, .ref (ad 0)), (1, .int p1), (2, .int p2), (3, .ref (ad 66))]) hx hb dL_about_13 hl (by decide) rfl (fun ls hl => ?_)
    refine lv_iconst (v := 1) hx hb dL_about_15 (by decide) ?_
    exact W.iret hx hb hr (fun t ht _ => ⟨⟨rfl, S1.2.2, fun h => absurd h (by decide), by rw [ht]; exact hP, hf⟩, hS.F ht⟩) hS.2.2 dL_about_16
  · refine v_callX (Y := I_X5_about) (As := [.int p1, .int p2]) (rest := [.int 0, .ref (ad 66)]) (ci := 5) (T := TX5) (N := 8) (S1 := S1) (E := E_I) (pre := [⟨0, 10, 13, 13⟩]) (x := ⟨0, 10, 17, 15⟩) (suf := [⟨0, 10, 21, 17⟩]) C hM hP hf hS ok_X5_about vw_14 rfl (by decide) (by decide) rfl hl.1 ⟨Nat.le_of_ble_eq_true rfl, Nat.le_of_ble_eq_true rfl⟩ ⟨rfl, rfl⟩ (Nat.le_of_ble_eq_true rfl) dL_about_5 rfl rfl (fun z hz => by
      simp only [List.mem_cons, List.not_mem_nil, or_false] at hz
      rcases hz with rfl
      · exact ⟨by decide, E_U, vw_1, List.mem_of_getElem? (i := 0) rfl⟩) (by decide) (by decide) vw_2 (List.mem_of_getElem? (i := 2) rfl) (fun q H locs hP hf hS => ?_)
    refine lv_astore (lv' := [(4, .ref q), (0, .ref (ad 0)), (1, .int p1), (2, .int p2), (3, .ref (ad 66))]) hx hb dL_about_17 hl (by decide) rfl (fun ls hl => ?_)
    refine lv_iconst (v := 2) hx hb dL_about_19 (by decide) ?_
    exact W.iret hx hb hr (fun t ht _ => ⟨⟨rfl, S1.2.2, fun h => absurd h (by decide), by rw [ht]; exact hP, hf⟩, hS.F ht⟩) hS.2.2 dL_about_20
  · refine v_callX (Y := I_X5_about) (As := [.int p1, .int p2]) (rest := [.int 0, .ref (ad 66)]) (ci := 5) (T := TX5) (N := 8) (S1 := S1) (E := E_A) (pre := [⟨0, 10, 13, 13⟩, ⟨0, 10, 17, 15⟩]) (x := ⟨0, 10, 21, 17⟩) (suf := []) C hM hP hf hS ok_X5_about vw_14 rfl (by decide) (by decide) rfl hl.1 ⟨Nat.le_of_ble_eq_true rfl, Nat.le_of_ble_eq_true rfl⟩ ⟨rfl, rfl⟩ (Nat.le_of_ble_eq_true rfl) dL_about_5 rfl rfl (fun z hz => by
      simp only [List.mem_cons, List.not_mem_nil, or_false] at hz
      rcases hz with rfl | rfl
      · exact ⟨by decide, E_U, vw_1, List.mem_of_getElem? (i := 1) rfl⟩
      · exact ⟨by decide, E_I, vw_2, List.mem_of_getElem? (i := 2) rfl⟩) (by decide) (by decide) vw_3 (List.mem_of_getElem? (i := 3) rfl) (fun q H locs hP hf hS => ?_)
    refine lv_astore (lv' := [(4, .ref q), (0, .ref (ad 0)), (1, .int p1), (2, .int p2), (3, .ref (ad 66))]) hx hb dL_about_21 hl (by decide) rfl (fun ls hl => ?_)
    refine lv_iconst (v := 3) hx hb dL_about_23 (by decide) ?_
    exact W.iret hx hb hr (fun t ht _ => ⟨⟨rfl, S1.2.2, fun h => absurd h (by decide), by rw [ht]; exact hP, hf⟩, hS.F ht⟩) hS.2.2 dL_about_24
theorem vc_about : Cond.codeWith J_about.1 J_about.2.1 J_about.2.2.1 (some .int) J_about.2.2.2 ∈ z_G ∧ Cond.static J_about.1 ∈ z_G ∧ Cond.initialized J_about.1.cls ∈ z_G := ⟨z_Gin (List.mem_of_getElem? (i := 736) (by decide +kernel)) rfl, z_Gin (List.mem_of_getElem? (i := 735) (by decide +kernel)) rfl, z_Gin (List.mem_of_getElem? (i := 88) (by decide +kernel)) rfl⟩
def J_node : v_I := (yL_node, cL_node, 6, [(0, 12, 15, 13), (0, 12, 19, 15), (0, 12, 23, 17)])
set_option maxRecDepth 100000 in
set_option maxHeartbeats 4000000 in
theorem v_node {l : Launch} {B : Nat} {p1 : Int32} {p2 : Int32} {p3 : Int32} {S S1 : z_S} {code : Nat} {w : Int32} (hst : l.stackTraces = false) (hF : F_X5_node B p1 p2 p3 S = some (r_o [E_U, E_I, E_A] code w, S1)) (hc : code ≤ 3) : v_Met l J_node 8 135 B [.ref 0, .int p1, .int p2, .int p3, .ref 66] S code (fun lg => code = 0 → lg 0 = w.toInt64) S1 := by
  refine v_enter (by decide) (Nat.le_of_ble_eq_true rfl) ?_
  intro p e s m args below meth c D K ad ls C hl hP hf hS
  obtain ⟨hx, hb, hr, hml, hown, hts, hlocks, hK, hado, hxs, htab, hnc⟩ := id C
  have hb : c.code = cL_node := hb
  have hl : lv_has ls 6 [(0, .ref (ad 0)), (1, .int p1), (2, .int p2), (3, .int p3), (4, .ref (ad 66))] := hl
  refine lv_aload hx hb dL_node_0 (lv_at hl 4 rfl) ?_
  refine lv_iconst (v := 0) hx hb dL_node_2 (by decide) ?_
  refine lv_aload_n hx hb dL_node_3 rfl (lv_at hl 0 rfl) ?_
  refine lv_iload_n hx hb dL_node_4 rfl (lv_at hl 1 rfl) ?_
  refine lv_iload_n hx hb dL_node_5 rfl (lv_at hl 2 rfl) ?_
  refine lv_iload_n hx hb dL_node_6 rfl (lv_at hl 3 rfl) ?_
  have hM := c_X5_node hst hF
  rcases (show code = 0 ∨ code = 1 ∨ code = 2 ∨ code = 3 by omega) with rfl | rfl | rfl | rfl
  · refine v_callR (Y := I_X5_node) (As := [.int p1, .int p2, .int p3]) (rest := [.int 0, .ref (ad 66)]) (ci := 5) (T := TX5) (N := 8) (S1 := S1) (r := some w) ⟨hx, hb, hml, hown, hts⟩ hM hado hK hP (fun U h1 h2 => z_preU hK hxs hP hf hS U h1 h2) hS (fun q h => h) ok_X5_node vw_15 rfl (by decide) (by decide) rfl hl.1 ⟨Nat.le_of_ble_eq_true rfl, Nat.le_of_ble_eq_true rfl⟩ ⟨Nat.zero_le _, Nat.zero_le _⟩ (Nat.le_of_ble_eq_true rfl) dL_node_7 rfl (fun H locs hP hf hS _ => ?_)
    refine lv_i2l hx hb dL_node_10 rfl ?_
    refine va_last hx hb hK hP (z_D hado) hS 66 3 v_l_at rfl (y_in (k := 0) (by decide) (by decide) (by show 0 < 0 * B + 1; omega)) dL_node_11 (fun H locs hP hD hS => ?_)
    rw [v_ul_ws] at hP
    refine lv_goto (tgt := 27) hx hb dL_node_12 (by decide) ?_
    refine lv_iconst (v := 0) hx hb dL_node_27 (by decide) ?_
    refine W.widen (k := 1) (n := 6) (by omega) (by omega) ?_
    exact W.iret hx hb hr (fun t ht _ => ⟨⟨rfl, _, fun _ => rfl, by rw [ht]; exact hP, hf⟩, hS.F ht⟩) hS.2.2 dL_node_28
  · refine v_callX (Y := I_X5_node) (As := [.int p1, .int p2, .int p3]) (rest := [.int 0, .ref (ad 66)]) (ci := 5) (T := TX5) (N := 8) (S1 := S1) (E := E_U) (pre := []) (x := ⟨0, 12, 15, 13⟩) (suf := [⟨0, 12, 19, 15⟩, ⟨0, 12, 23, 17⟩]) C hM hP hf hS ok_X5_node vw_15 rfl (by decide) (by decide) rfl hl.1 ⟨Nat.le_of_ble_eq_true rfl, Nat.le_of_ble_eq_true rfl⟩ ⟨rfl, rfl⟩ (Nat.le_of_ble_eq_true rfl) dL_node_7 rfl rfl (fun z hz => absurd hz List.not_mem_nil) (by decide) (by decide) vw_1 (List.mem_of_getElem? (i := 1) rfl) (fun q H locs hP hf hS => ?_)
    refine lv_astore (lv' := [(5, .ref q), (0, .ref (ad 0)), (1, .int p1), (2, .int p2), (3, .int p3), (4, .ref (ad 66))]) hx hb dL_node_15 hl (by decide) rfl (fun ls hl => ?_)
    refine lv_iconst (v := 1) hx hb dL_node_17 (by decide) ?_
    exact W.iret hx hb hr (fun t ht _ => ⟨⟨rfl, S1.2.2, fun h => absurd h (by decide), by rw [ht]; exact hP, hf⟩, hS.F ht⟩) hS.2.2 dL_node_18
  · refine v_callX (Y := I_X5_node) (As := [.int p1, .int p2, .int p3]) (rest := [.int 0, .ref (ad 66)]) (ci := 5) (T := TX5) (N := 8) (S1 := S1) (E := E_I) (pre := [⟨0, 12, 15, 13⟩]) (x := ⟨0, 12, 19, 15⟩) (suf := [⟨0, 12, 23, 17⟩]) C hM hP hf hS ok_X5_node vw_15 rfl (by decide) (by decide) rfl hl.1 ⟨Nat.le_of_ble_eq_true rfl, Nat.le_of_ble_eq_true rfl⟩ ⟨rfl, rfl⟩ (Nat.le_of_ble_eq_true rfl) dL_node_7 rfl rfl (fun z hz => by
      simp only [List.mem_cons, List.not_mem_nil, or_false] at hz
      rcases hz with rfl
      · exact ⟨by decide, E_U, vw_1, List.mem_of_getElem? (i := 0) rfl⟩) (by decide) (by decide) vw_2 (List.mem_of_getElem? (i := 2) rfl) (fun q H locs hP hf hS => ?_)
    refine lv_astore (lv' := [(5, .ref q), (0, .ref (ad 0)), (1, .int p1), (2, .int p2), (3, .int p3), (4, .ref (ad 66))]) hx hb dL_node_19 hl (by decide) rfl (fun ls hl => ?_)
    refine lv_iconst (v := 2) hx hb dL_node_21 (by decide) ?_
    exact W.iret hx hb hr (fun t ht _ => ⟨⟨rfl, S1.2.2, fun h => absurd h (by decide), by rw [ht]; exact hP, hf⟩, hS.F ht⟩) hS.2.2 dL_node_22
  · refine v_callX (Y := I_X5_node) (As := [.int p1, .int p2, .int p3]) (rest := [.int 0, .ref (ad 66)]) (ci := 5) (T := TX5) (N := 8) (S1 := S1) (E := E_A) (pre := [⟨0, 12, 15, 13⟩, ⟨0, 12, 19, 15⟩]) (x := ⟨0, 12, 23, 17⟩) (suf := []) C hM hP hf hS ok_X5_node vw_15 rfl (by decide) (by decide) rfl hl.1 ⟨Nat.le_of_ble_eq_true rfl, Nat.le_of_ble_eq_true rfl⟩ ⟨rfl, rfl⟩ (Nat.le_of_ble_eq_true rfl) dL_node_7 rfl rfl (fun z hz => by
      simp only [List.mem_cons, List.not_mem_nil, or_false] at hz
      rcases hz with rfl | rfl
      · exact ⟨by decide, E_U, vw_1, List.mem_of_getElem? (i := 1) rfl⟩
      · exact ⟨by decide, E_I, vw_2, List.mem_of_getElem? (i := 2) rfl⟩) (by decide) (by decide) vw_3 (List.mem_of_getElem? (i := 3) rfl) (fun q H locs hP hf hS => ?_)
    refine lv_astore (lv' := [(5, .ref q), (0, .ref (ad 0)), (1, .int p1), (2, .int p2), (3, .int p3), (4, .ref (ad 66))]) hx hb dL_node_23 hl (by decide) rfl (fun ls hl => ?_)
    refine lv_iconst (v := 3) hx hb dL_node_25 (by decide) ?_
    exact W.iret hx hb hr (fun t ht _ => ⟨⟨rfl, S1.2.2, fun h => absurd h (by decide), by rw [ht]; exact hP, hf⟩, hS.F ht⟩) hS.2.2 dL_node_26
theorem vc_node : Cond.codeWith J_node.1 J_node.2.1 J_node.2.2.1 (some .int) J_node.2.2.2 ∈ z_G ∧ Cond.static J_node.1 ∈ z_G ∧ Cond.initialized J_node.1.cls ∈ z_G := ⟨z_Gin (List.mem_of_getElem? (i := 746) (by decide +kernel)) rfl, z_Gin (List.mem_of_getElem? (i := 745) (by decide +kernel)) rfl, z_Gin (List.mem_of_getElem? (i := 88) (by decide +kernel)) rfl⟩
def J_item : v_I := (yL_item, cL_item, 5, [(0, 10, 13, 13), (0, 10, 17, 15), (0, 10, 21, 17)])
set_option maxRecDepth 100000 in
set_option maxHeartbeats 4000000 in
theorem v_item {l : Launch} {B : Nat} {p1 : Int32} {p2 : Int32} {S S1 : z_S} {code : Nat} {w : Int32} (hst : l.stackTraces = false) (hF : F_X5_item B p1 p2 S = some (r_o [E_U, E_I, E_A] code w, S1)) (hc : code ≤ 3) : v_Met l J_item 8 134 B [.ref 0, .int p1, .int p2, .ref 66] S code (fun lg => code = 0 → lg 0 = w.toInt64) S1 := by
  refine v_enter (by decide) (Nat.le_of_ble_eq_true rfl) ?_
  intro p e s m args below meth c D K ad ls C hl hP hf hS
  obtain ⟨hx, hb, hr, hml, hown, hts, hlocks, hK, hado, hxs, htab, hnc⟩ := id C
  have hb : c.code = cL_item := hb
  have hl : lv_has ls 5 [(0, .ref (ad 0)), (1, .int p1), (2, .int p2), (3, .ref (ad 66))] := hl
  refine lv_aload_n hx hb dL_item_0 rfl (lv_at hl 3 rfl) ?_
  refine lv_iconst (v := 0) hx hb dL_item_1 (by decide) ?_
  refine lv_aload_n hx hb dL_item_2 rfl (lv_at hl 0 rfl) ?_
  refine lv_iload_n hx hb dL_item_3 rfl (lv_at hl 1 rfl) ?_
  refine lv_iload_n hx hb dL_item_4 rfl (lv_at hl 2 rfl) ?_
  have hM := c_X5_item hst hF
  rcases (show code = 0 ∨ code = 1 ∨ code = 2 ∨ code = 3 by omega) with rfl | rfl | rfl | rfl
  · refine v_callR (Y := I_X5_item) (As := [.int p1, .int p2]) (rest := [.int 0, .ref (ad 66)]) (ci := 5) (T := TX5) (N := 8) (S1 := S1) (r := some w) ⟨hx, hb, hml, hown, hts⟩ hM hado hK hP (fun U h1 h2 => z_preU hK hxs hP hf hS U h1 h2) hS (fun q h => h) ok_X5_item vw_16 rfl (by decide) (by decide) rfl hl.1 ⟨Nat.le_of_ble_eq_true rfl, Nat.le_of_ble_eq_true rfl⟩ ⟨Nat.zero_le _, Nat.zero_le _⟩ (Nat.le_of_ble_eq_true rfl) dL_item_5 rfl (fun H locs hP hf hS _ => ?_)
    refine lv_i2l hx hb dL_item_8 rfl ?_
    refine va_last hx hb hK hP (z_D hado) hS 66 3 v_l_at rfl (y_in (k := 0) (by decide) (by decide) (by show 0 < 0 * B + 1; omega)) dL_item_9 (fun H locs hP hD hS => ?_)
    rw [v_ul_ws] at hP
    refine lv_goto (tgt := 25) hx hb dL_item_10 (by decide) ?_
    refine lv_iconst (v := 0) hx hb dL_item_25 (by decide) ?_
    refine W.widen (k := 1) (n := 6) (by omega) (by omega) ?_
    exact W.iret hx hb hr (fun t ht _ => ⟨⟨rfl, _, fun _ => rfl, by rw [ht]; exact hP, hf⟩, hS.F ht⟩) hS.2.2 dL_item_26
  · refine v_callX (Y := I_X5_item) (As := [.int p1, .int p2]) (rest := [.int 0, .ref (ad 66)]) (ci := 5) (T := TX5) (N := 8) (S1 := S1) (E := E_U) (pre := []) (x := ⟨0, 10, 13, 13⟩) (suf := [⟨0, 10, 17, 15⟩, ⟨0, 10, 21, 17⟩]) C hM hP hf hS ok_X5_item vw_16 rfl (by decide) (by decide) rfl hl.1 ⟨Nat.le_of_ble_eq_true rfl, Nat.le_of_ble_eq_true rfl⟩ ⟨rfl, rfl⟩ (Nat.le_of_ble_eq_true rfl) dL_item_5 rfl rfl (fun z hz => absurd hz List.not_mem_nil) (by decide) (by decide) vw_1 (List.mem_of_getElem? (i := 1) rfl) (fun q H locs hP hf hS => ?_)
    refine lv_astore (lv' := [(4, .ref q), (0, .ref (ad 0)), (1, .int p1), (2, .int p2), (3, .ref (ad 66))]) hx hb dL_item_13 hl (by decide) rfl (fun ls hl => ?_)
    refine lv_iconst (v := 1) hx hb dL_item_15 (by decide) ?_
    exact W.iret hx hb hr (fun t ht _ => ⟨⟨rfl, S1.2.2, fun h => absurd h (by decide), by rw [ht]; exact hP, hf⟩, hS.F ht⟩) hS.2.2 dL_item_16
  · refine v_callX (Y := I_X5_item) (As := [.int p1, .int p2]) (rest := [.int 0, .ref (ad 66)]) (ci := 5) (T := TX5) (N := 8) (S1 := S1) (E := E_I) (pre := [⟨0, 10, 13, 13⟩]) (x := ⟨0, 10, 17, 15⟩) (suf := [⟨0, 10, 21, 17⟩]) C hM hP hf hS ok_X5_item vw_16 rfl (by decide) (by decide) rfl hl.1 ⟨Nat.le_of_ble_eq_true rfl, Nat.le_of_ble_eq_true rfl⟩ ⟨rfl, rfl⟩ (Nat.le_of_ble_eq_true rfl) dL_item_5 rfl rfl (fun z hz => by
      simp only [List.mem_cons, List.not_mem_nil, or_false] at hz
      rcases hz with rfl
      · exact ⟨by decide, E_U, vw_1, List.mem_of_getElem? (i := 0) rfl⟩) (by decide) (by decide) vw_2 (List.mem_of_getElem? (i := 2) rfl) (fun q H locs hP hf hS => ?_)
    refine lv_astore (lv' := [(4, .ref q), (0, .ref (ad 0)), (1, .int p1), (2, .int p2), (3, .ref (ad 66))]) hx hb dL_item_17 hl (by decide) rfl (fun ls hl => ?_)
    refine lv_iconst (v := 2) hx hb dL_item_19 (by decide) ?_
    exact W.iret hx hb hr (fun t ht _ => ⟨⟨rfl, S1.2.2, fun h => absurd h (by decide), by rw [ht]; exact hP, hf⟩, hS.F ht⟩) hS.2.2 dL_item_20
  · refine v_callX (Y := I_X5_item) (As := [.int p1, .int p2]) (rest := [.int 0, .ref (ad 66)]) (ci := 5) (T := TX5) (N := 8) (S1 := S1) (E := E_A) (pre := [⟨0, 10, 13, 13⟩, ⟨0, 10, 17, 15⟩]) (x := ⟨0, 10, 21, 17⟩) (suf := []) C hM hP hf hS ok_X5_item vw_16 rfl (by decide) (by decide) rfl hl.1 ⟨Nat.le_of_ble_eq_true rfl, Nat.le_of_ble_eq_true rfl⟩ ⟨rfl, rfl⟩ (Nat.le_of_ble_eq_true rfl) dL_item_5 rfl rfl (fun z hz => by
      simp only [List.mem_cons, List.not_mem_nil, or_false] at hz
      rcases hz with rfl | rfl
      · exact ⟨by decide, E_U, vw_1, List.mem_of_getElem? (i := 1) rfl⟩
      · exact ⟨by decide, E_I, vw_2, List.mem_of_getElem? (i := 2) rfl⟩) (by decide) (by decide) vw_3 (List.mem_of_getElem? (i := 3) rfl) (fun q H locs hP hf hS => ?_)
    refine lv_astore (lv' := [(4, .ref q), (0, .ref (ad 0)), (1, .int p1), (2, .int p2), (3, .ref (ad 66))]) hx hb dL_item_21 hl (by decide) rfl (fun ls hl => ?_)
    refine lv_iconst (v := 3) hx hb dL_item_23 (by decide) ?_
    exact W.iret hx hb hr (fun t ht _ => ⟨⟨rfl, S1.2.2, fun h => absurd h (by decide), by rw [ht]; exact hP, hf⟩, hS.F ht⟩) hS.2.2 dL_item_24
theorem vc_item : Cond.codeWith J_item.1 J_item.2.1 J_item.2.2.1 (some .int) J_item.2.2.2 ∈ z_G ∧ Cond.static J_item.1 ∈ z_G ∧ Cond.initialized J_item.1.cls ∈ z_G := ⟨z_Gin (List.mem_of_getElem? (i := 759) (by decide +kernel)) rfl, z_Gin (List.mem_of_getElem? (i := 758) (by decide +kernel)) rfl, z_Gin (List.mem_of_getElem? (i := 88) (by decide +kernel)) rfl⟩
def J_commit : v_I := (yL_commit, cL_commit, 3, [(0, 8, 11, 13), (0, 8, 14, 19)])
set_option maxRecDepth 100000 in
set_option maxHeartbeats 4000000 in
theorem v_commit {l : Launch} {B : Nat}  {S S1 : z_S} {code : Nat} {w : Int32} (hst : l.stackTraces = false) (hF : F_X5_commit B  S = some (r_o [E_U, E_S] code w, S1)) (hc : code ≤ 2) : v_Met l J_commit 8 138 B [.ref 0, .ref 66] S code (fun lg => code = 0 → lg 0 = w.toInt64) S1 := by
  refine v_enter (by decide) (Nat.le_of_ble_eq_true rfl) ?_
  intro p e s m args below meth c D K ad ls C hl hP hf hS
  obtain ⟨hx, hb, hr, hml, hown, hts, hlocks, hK, hado, hxs, htab, hnc⟩ := id C
  have hb : c.code = cL_commit := hb
  have hl : lv_has ls 3 [(0, .ref (ad 0)), (1, .ref (ad 66))] := hl
  refine lv_aload_n hx hb dL_commit_0 rfl (lv_at hl 1 rfl) ?_
  refine lv_iconst (v := 0) hx hb dL_commit_1 (by decide) ?_
  refine lv_aload_n hx hb dL_commit_2 rfl (lv_at hl 0 rfl) ?_
  have hM := c_X5_commit hst hF
  rcases (show code = 0 ∨ code = 1 ∨ code = 2 by omega) with rfl | rfl | rfl
  · refine v_callR (Y := I_X5_commit) (As := []) (rest := [.int 0, .ref (ad 66)]) (ci := 5) (T := TX5) (N := 8) (S1 := S1) (r := some w) ⟨hx, hb, hml, hown, hts⟩ hM hado hK hP (fun U h1 h2 => z_preU hK hxs hP hf hS U h1 h2) hS (fun q h => h) ok_X5_commit vw_17 rfl (by decide) (by decide) rfl hl.1 ⟨Nat.le_of_ble_eq_true rfl, Nat.le_of_ble_eq_true rfl⟩ ⟨Nat.zero_le _, Nat.zero_le _⟩ (Nat.le_of_ble_eq_true rfl) dL_commit_3 rfl (fun H locs hP hf hS _ => ?_)
    refine lv_i2l hx hb dL_commit_6 rfl ?_
    refine va_last hx hb hK hP (z_D hado) hS 66 3 v_l_at rfl (y_in (k := 0) (by decide) (by decide) (by show 0 < 0 * B + 1; omega)) dL_commit_7 (fun H locs hP hD hS => ?_)
    rw [v_ul_ws] at hP
    refine lv_goto (tgt := 17) hx hb dL_commit_8 (by decide) ?_
    refine lv_iconst (v := 0) hx hb dL_commit_17 (by decide) ?_
    refine W.widen (k := 1) (n := 6) (by omega) (by omega) ?_
    exact W.iret hx hb hr (fun t ht _ => ⟨⟨rfl, _, fun _ => rfl, by rw [ht]; exact hP, hf⟩, hS.F ht⟩) hS.2.2 dL_commit_18
  · refine v_callX (Y := I_X5_commit) (As := []) (rest := [.int 0, .ref (ad 66)]) (ci := 5) (T := TX5) (N := 8) (S1 := S1) (E := E_U) (pre := []) (x := ⟨0, 8, 11, 13⟩) (suf := [⟨0, 8, 14, 19⟩]) C hM hP hf hS ok_X5_commit vw_17 rfl (by decide) (by decide) rfl hl.1 ⟨Nat.le_of_ble_eq_true rfl, Nat.le_of_ble_eq_true rfl⟩ ⟨rfl, rfl⟩ (Nat.le_of_ble_eq_true rfl) dL_commit_3 rfl rfl (fun z hz => absurd hz List.not_mem_nil) (by decide) (by decide) vw_1 (List.mem_of_getElem? (i := 1) rfl) (fun q H locs hP hf hS => ?_)
    refine lv_astore_n (lv' := [(2, .ref q), (0, .ref (ad 0)), (1, .ref (ad 66))]) hx hb dL_commit_11 rfl hl (by decide) rfl (fun ls hl => ?_)
    refine lv_iconst (v := 1) hx hb dL_commit_12 (by decide) ?_
    exact W.iret hx hb hr (fun t ht _ => ⟨⟨rfl, S1.2.2, fun h => absurd h (by decide), by rw [ht]; exact hP, hf⟩, hS.F ht⟩) hS.2.2 dL_commit_13
  · refine v_callX (Y := I_X5_commit) (As := []) (rest := [.int 0, .ref (ad 66)]) (ci := 5) (T := TX5) (N := 8) (S1 := S1) (E := E_S) (pre := [⟨0, 8, 11, 13⟩]) (x := ⟨0, 8, 14, 19⟩) (suf := []) C hM hP hf hS ok_X5_commit vw_17 rfl (by decide) (by decide) rfl hl.1 ⟨Nat.le_of_ble_eq_true rfl, Nat.le_of_ble_eq_true rfl⟩ ⟨rfl, rfl⟩ (Nat.le_of_ble_eq_true rfl) dL_commit_3 rfl rfl (fun z hz => by
      simp only [List.mem_cons, List.not_mem_nil, or_false] at hz
      rcases hz with rfl
      · exact ⟨by decide, E_U, vw_1, List.mem_of_getElem? (i := 3) rfl⟩) (by decide) (by decide) vw_4 (List.mem_of_getElem? (i := 0) rfl) (fun q H locs hP hf hS => ?_)
    refine lv_astore_n (lv' := [(2, .ref q), (0, .ref (ad 0)), (1, .ref (ad 66))]) hx hb dL_commit_14 rfl hl (by decide) rfl (fun ls hl => ?_)
    refine lv_iconst (v := 2) hx hb dL_commit_15 (by decide) ?_
    exact W.iret hx hb hr (fun t ht _ => ⟨⟨rfl, S1.2.2, fun h => absurd h (by decide), by rw [ht]; exact hP, hf⟩, hS.F ht⟩) hS.2.2 dL_commit_16
theorem vc_commit : Cond.codeWith J_commit.1 J_commit.2.1 J_commit.2.2.1 (some .int) J_commit.2.2.2 ∈ z_G ∧ Cond.static J_commit.1 ∈ z_G ∧ Cond.initialized J_commit.1.cls ∈ z_G := ⟨z_Gin (List.mem_of_getElem? (i := 776) (by decide +kernel)) rfl, z_Gin (List.mem_of_getElem? (i := 775) (by decide +kernel)) rfl, z_Gin (List.mem_of_getElem? (i := 88) (by decide +kernel)) rfl⟩
def J_checkpoint : v_I := (yL_checkpoint, cL_checkpoint, 3, [(0, 8, 11, 13)])
set_option maxRecDepth 100000 in
set_option maxHeartbeats 4000000 in
theorem v_checkpoint {l : Launch} {B : Nat}  {S S1 : z_S} {code : Nat} {w : Int32} (hst : l.stackTraces = false) (hF : F_X5_checkpoint B  S = some (r_o [E_U] code w, S1)) (hc : code ≤ 1) : v_Met l J_checkpoint 8 130 B [.ref 0, .ref 66] S code (fun lg => code = 0 → lg 0 = w.toInt64) S1 := by
  refine v_enter (by decide) (Nat.le_of_ble_eq_true rfl) ?_
  intro p e s m args below meth c D K ad ls C hl hP hf hS
  obtain ⟨hx, hb, hr, hml, hown, hts, hlocks, hK, hado, hxs, htab, hnc⟩ := id C
  have hb : c.code = cL_checkpoint := hb
  have hl : lv_has ls 3 [(0, .ref (ad 0)), (1, .ref (ad 66))] := hl
  refine lv_aload_n hx hb dL_checkpoint_0 rfl (lv_at hl 1 rfl) ?_
  refine lv_iconst (v := 0) hx hb dL_checkpoint_1 (by decide) ?_
  refine lv_aload_n hx hb dL_checkpoint_2 rfl (lv_at hl 0 rfl) ?_
  have hM := c_X5_checkpoint hst hF
  rcases (show code = 0 ∨ code = 1 by omega) with rfl | rfl
  · refine v_callR (Y := I_X5_checkpoint) (As := []) (rest := [.int 0, .ref (ad 66)]) (ci := 5) (T := TX5) (N := 8) (S1 := S1) (r := some w) ⟨hx, hb, hml, hown, hts⟩ hM hado hK hP (fun U h1 h2 => z_preU hK hxs hP hf hS U h1 h2) hS (fun q h => h) ok_X5_checkpoint vw_18 rfl (by decide) (by decide) rfl hl.1 ⟨Nat.le_of_ble_eq_true rfl, Nat.le_of_ble_eq_true rfl⟩ ⟨Nat.zero_le _, Nat.zero_le _⟩ (Nat.le_of_ble_eq_true rfl) dL_checkpoint_3 rfl (fun H locs hP hf hS _ => ?_)
    refine lv_i2l hx hb dL_checkpoint_6 rfl ?_
    refine va_last hx hb hK hP (z_D hado) hS 66 3 v_l_at rfl (y_in (k := 0) (by decide) (by decide) (by show 0 < 0 * B + 1; omega)) dL_checkpoint_7 (fun H locs hP hD hS => ?_)
    rw [v_ul_ws] at hP
    refine lv_goto (tgt := 14) hx hb dL_checkpoint_8 (by decide) ?_
    refine lv_iconst (v := 0) hx hb dL_checkpoint_14 (by decide) ?_
    refine W.widen (k := 1) (n := 6) (by omega) (by omega) ?_
    exact W.iret hx hb hr (fun t ht _ => ⟨⟨rfl, _, fun _ => rfl, by rw [ht]; exact hP, hf⟩, hS.F ht⟩) hS.2.2 dL_checkpoint_15
  · refine v_callX (Y := I_X5_checkpoint) (As := []) (rest := [.int 0, .ref (ad 66)]) (ci := 5) (T := TX5) (N := 8) (S1 := S1) (E := E_U) (pre := []) (x := ⟨0, 8, 11, 13⟩) (suf := []) C hM hP hf hS ok_X5_checkpoint vw_18 rfl (by decide) (by decide) rfl hl.1 ⟨Nat.le_of_ble_eq_true rfl, Nat.le_of_ble_eq_true rfl⟩ ⟨rfl, rfl⟩ (Nat.le_of_ble_eq_true rfl) dL_checkpoint_3 rfl rfl (fun z hz => absurd hz List.not_mem_nil) (by decide) (by decide) vw_1 (List.mem_of_getElem? (i := 1) rfl) (fun q H locs hP hf hS => ?_)
    refine lv_astore_n (lv' := [(2, .ref q), (0, .ref (ad 0)), (1, .ref (ad 66))]) hx hb dL_checkpoint_11 rfl hl (by decide) rfl (fun ls hl => ?_)
    refine lv_iconst (v := 1) hx hb dL_checkpoint_12 (by decide) ?_
    exact W.iret hx hb hr (fun t ht _ => ⟨⟨rfl, S1.2.2, fun h => absurd h (by decide), by rw [ht]; exact hP, hf⟩, hS.F ht⟩) hS.2.2 dL_checkpoint_13
theorem vc_checkpoint : Cond.codeWith J_checkpoint.1 J_checkpoint.2.1 J_checkpoint.2.2.1 (some .int) J_checkpoint.2.2.2 ∈ z_G ∧ Cond.static J_checkpoint.1 ∈ z_G ∧ Cond.initialized J_checkpoint.1.cls ∈ z_G := ⟨z_Gin (List.mem_of_getElem? (i := 851) (by decide +kernel)) rfl, z_Gin (List.mem_of_getElem? (i := 850) (by decide +kernel)) rfl, z_Gin (List.mem_of_getElem? (i := 88) (by decide +kernel)) rfl⟩
def J_back : v_I := (yL_back, cL_back, 3, [(0, 8, 11, 13)])
set_option maxRecDepth 100000 in
set_option maxHeartbeats 4000000 in
theorem v_back {l : Launch} {B : Nat}  {S S1 : z_S} {code : Nat} {w : Int32} (hst : l.stackTraces = false) (hF : F_X5_back B  S = some (r_o [E_U] code w, S1)) (hc : code ≤ 1) : v_Met l J_back 8 135 B [.ref 0, .ref 66] S code (fun lg => code = 0 → lg 0 = w.toInt64) S1 := by
  refine v_enter (by decide) (Nat.le_of_ble_eq_true rfl) ?_
  intro p e s m args below meth c D K ad ls C hl hP hf hS
  obtain ⟨hx, hb, hr, hml, hown, hts, hlocks, hK, hado, hxs, htab, hnc⟩ := id C
  have hb : c.code = cL_back := hb
  have hl : lv_has ls 3 [(0, .ref (ad 0)), (1, .ref (ad 66))] := hl
  refine lv_aload_n hx hb dL_back_0 rfl (lv_at hl 1 rfl) ?_
  refine lv_iconst (v := 0) hx hb dL_back_1 (by decide) ?_
  refine lv_aload_n hx hb dL_back_2 rfl (lv_at hl 0 rfl) ?_
  have hM := c_X5_back hst hF
  rcases (show code = 0 ∨ code = 1 by omega) with rfl | rfl
  · refine v_callR (Y := I_X5_back) (As := []) (rest := [.int 0, .ref (ad 66)]) (ci := 5) (T := TX5) (N := 8) (S1 := S1) (r := some w) ⟨hx, hb, hml, hown, hts⟩ hM hado hK hP (fun U h1 h2 => z_preU hK hxs hP hf hS U h1 h2) hS (fun q h => h) ok_X5_back vw_19 rfl (by decide) (by decide) rfl hl.1 ⟨Nat.le_of_ble_eq_true rfl, Nat.le_of_ble_eq_true rfl⟩ ⟨Nat.zero_le _, Nat.zero_le _⟩ (Nat.le_of_ble_eq_true rfl) dL_back_3 rfl (fun H locs hP hf hS _ => ?_)
    refine lv_i2l hx hb dL_back_6 rfl ?_
    refine va_last hx hb hK hP (z_D hado) hS 66 3 v_l_at rfl (y_in (k := 0) (by decide) (by decide) (by show 0 < 0 * B + 1; omega)) dL_back_7 (fun H locs hP hD hS => ?_)
    rw [v_ul_ws] at hP
    refine lv_goto (tgt := 14) hx hb dL_back_8 (by decide) ?_
    refine lv_iconst (v := 0) hx hb dL_back_14 (by decide) ?_
    refine W.widen (k := 1) (n := 6) (by omega) (by omega) ?_
    exact W.iret hx hb hr (fun t ht _ => ⟨⟨rfl, _, fun _ => rfl, by rw [ht]; exact hP, hf⟩, hS.F ht⟩) hS.2.2 dL_back_15
  · refine v_callX (Y := I_X5_back) (As := []) (rest := [.int 0, .ref (ad 66)]) (ci := 5) (T := TX5) (N := 8) (S1 := S1) (E := E_U) (pre := []) (x := ⟨0, 8, 11, 13⟩) (suf := []) C hM hP hf hS ok_X5_back vw_19 rfl (by decide) (by decide) rfl hl.1 ⟨Nat.le_of_ble_eq_true rfl, Nat.le_of_ble_eq_true rfl⟩ ⟨rfl, rfl⟩ (Nat.le_of_ble_eq_true rfl) dL_back_3 rfl rfl (fun z hz => absurd hz List.not_mem_nil) (by decide) (by decide) vw_1 (List.mem_of_getElem? (i := 1) rfl) (fun q H locs hP hf hS => ?_)
    refine lv_astore_n (lv' := [(2, .ref q), (0, .ref (ad 0)), (1, .ref (ad 66))]) hx hb dL_back_11 rfl hl (by decide) rfl (fun ls hl => ?_)
    refine lv_iconst (v := 1) hx hb dL_back_12 (by decide) ?_
    exact W.iret hx hb hr (fun t ht _ => ⟨⟨rfl, S1.2.2, fun h => absurd h (by decide), by rw [ht]; exact hP, hf⟩, hS.F ht⟩) hS.2.2 dL_back_13
theorem vc_back : Cond.codeWith J_back.1 J_back.2.1 J_back.2.2.1 (some .int) J_back.2.2.2 ∈ z_G ∧ Cond.static J_back.1 ∈ z_G ∧ Cond.initialized J_back.1.cls ∈ z_G := ⟨z_Gin (List.mem_of_getElem? (i := 862) (by decide +kernel)) rfl, z_Gin (List.mem_of_getElem? (i := 861) (by decide +kernel)) rfl, z_Gin (List.mem_of_getElem? (i := 88) (by decide +kernel)) rfl⟩
def J_fail : v_I := (yL_fail, cL_fail, 3, [(0, 5, 8, 17)])
set_option maxRecDepth 100000 in
set_option maxHeartbeats 4000000 in
theorem v_fail {l : Launch} {B : Nat} {p1 : Int32} {S S1 : z_S} {code : Nat} (hst : l.stackTraces = false) (hF : F_X5_fail B p1 S = some ((if code = 0 then .inl none else .inr E_A), S1)) (hc : code ≤ 1) : v_Met l J_fail 7 111 B [.ref 0, .int p1] S code (fun lg => lg = S1.2.2) S1 := by
  refine v_enter (by decide) (Nat.le_of_ble_eq_true rfl) ?_
  intro p e s m args below meth c D K ad ls C hl hP hf hS
  obtain ⟨hx, hb, hr, hml, hown, hts, hlocks, hK, hado, hxs, htab, hnc⟩ := id C
  have hb : c.code = cL_fail := hb
  have hl : lv_has ls 3 [(0, .ref (ad 0)), (1, .int p1)] := hl
  refine lv_aload_n hx hb dL_fail_0 rfl (lv_at hl 0 rfl) ?_
  refine lv_iload_n hx hb dL_fail_1 rfl (lv_at hl 1 rfl) ?_
  have hM := c_X5_fail hst hF
  rcases (show code = 0 ∨ code = 1 by omega) with rfl | rfl
  · refine v_callR (Y := I_X5_fail) (As := [.int p1]) (rest := []) (ci := 5) (T := TX5) (N := 8) (S1 := S1) (r := none) ⟨hx, hb, hml, hown, hts⟩ hM hado hK hP (fun U h1 h2 => z_preU hK hxs hP hf hS U h1 h2) hS (fun q h => h) ok_X5_fail vw_20 rfl (by decide) (by decide) rfl hl.1 ⟨Nat.le_of_ble_eq_true rfl, Nat.le_of_ble_eq_true rfl⟩ ⟨Nat.zero_le _, Nat.zero_le _⟩ (Nat.le_of_ble_eq_true rfl) dL_fail_2 rfl (fun H locs hP hf hS _ => ?_)
    refine lv_goto (tgt := 11) hx hb dL_fail_5 (by decide) ?_
    refine lv_iconst (v := 0) hx hb dL_fail_11 (by decide) ?_
    refine W.widen (k := 1) (n := 6) (by omega) (by omega) ?_
    exact W.iret hx hb hr (fun t ht _ => ⟨⟨rfl, _, rfl, by rw [ht]; exact hP, hf⟩, hS.F ht⟩) hS.2.2 dL_fail_12
  · refine v_callX (Y := I_X5_fail) (As := [.int p1]) (rest := []) (ci := 5) (T := TX5) (N := 8) (S1 := S1) (E := E_A) (pre := []) (x := ⟨0, 5, 8, 17⟩) (suf := []) C hM hP hf hS ok_X5_fail vw_20 rfl (by decide) (by decide) rfl hl.1 ⟨Nat.le_of_ble_eq_true rfl, Nat.le_of_ble_eq_true rfl⟩ ⟨rfl, rfl⟩ (Nat.le_of_ble_eq_true rfl) dL_fail_2 rfl rfl (fun z hz => absurd hz List.not_mem_nil) (by decide) (by decide) vw_3 (List.mem_of_getElem? (i := 3) rfl) (fun q H locs hP hf hS => ?_)
    refine lv_astore_n (lv' := [(2, .ref q), (0, .ref (ad 0)), (1, .int p1)]) hx hb dL_fail_8 rfl hl (by decide) rfl (fun ls hl => ?_)
    refine lv_iconst (v := 1) hx hb dL_fail_9 (by decide) ?_
    exact W.iret hx hb hr (fun t ht _ => ⟨⟨rfl, S1.2.2, rfl, by rw [ht]; exact hP, hf⟩, hS.F ht⟩) hS.2.2 dL_fail_10
theorem vc_fail : Cond.codeWith J_fail.1 J_fail.2.1 J_fail.2.2.1 (some .int) J_fail.2.2.2 ∈ z_G ∧ Cond.static J_fail.1 ∈ z_G ∧ Cond.initialized J_fail.1.cls ∈ z_G := ⟨z_Gin (List.mem_of_getElem? (i := 869) (by decide +kernel)) rfl, z_Gin (List.mem_of_getElem? (i := 868) (by decide +kernel)) rfl, z_Gin (List.mem_of_getElem? (i := 88) (by decide +kernel)) rfl⟩
def J_recover : v_I := (yL_recover, cL_recover, 3, [(0, 8, 11, 19)])
set_option maxRecDepth 100000 in
set_option maxHeartbeats 4000000 in
theorem v_recover {l : Launch} {B : Nat}  {S S1 : z_S} {code : Nat} {w : Int32} (hst : l.stackTraces = false) (hF : F_X5_recover B  S = some (r_o [E_S] code w, S1)) (hc : code ≤ 1) : v_Met l J_recover 7 130 B [.ref 0, .ref 66] S code (fun lg => code = 0 → lg 0 = w.toInt64) S1 := by
  refine v_enter (by decide) (Nat.le_of_ble_eq_true rfl) ?_
  intro p e s m args below meth c D K ad ls C hl hP hf hS
  obtain ⟨hx, hb, hr, hml, hown, hts, hlocks, hK, hado, hxs, htab, hnc⟩ := id C
  have hb : c.code = cL_recover := hb
  have hl : lv_has ls 3 [(0, .ref (ad 0)), (1, .ref (ad 66))] := hl
  refine lv_aload_n hx hb dL_recover_0 rfl (lv_at hl 1 rfl) ?_
  refine lv_iconst (v := 0) hx hb dL_recover_1 (by decide) ?_
  refine lv_aload_n hx hb dL_recover_2 rfl (lv_at hl 0 rfl) ?_
  have hM := c_X5_recover hst hF
  rcases (show code = 0 ∨ code = 1 by omega) with rfl | rfl
  · refine v_callR (Y := I_X5_recover) (As := []) (rest := [.int 0, .ref (ad 66)]) (ci := 5) (T := TX5) (N := 8) (S1 := S1) (r := some w) ⟨hx, hb, hml, hown, hts⟩ hM hado hK hP (fun U h1 h2 => z_preU hK hxs hP hf hS U h1 h2) hS (fun q h => h) ok_X5_recover vw_21 rfl (by decide) (by decide) rfl hl.1 ⟨Nat.le_of_ble_eq_true rfl, Nat.le_of_ble_eq_true rfl⟩ ⟨Nat.zero_le _, Nat.zero_le _⟩ (Nat.le_of_ble_eq_true rfl) dL_recover_3 rfl (fun H locs hP hf hS _ => ?_)
    refine lv_i2l hx hb dL_recover_6 rfl ?_
    refine va_last hx hb hK hP (z_D hado) hS 66 3 v_l_at rfl (y_in (k := 0) (by decide) (by decide) (by show 0 < 0 * B + 1; omega)) dL_recover_7 (fun H locs hP hD hS => ?_)
    rw [v_ul_ws] at hP
    refine lv_goto (tgt := 14) hx hb dL_recover_8 (by decide) ?_
    refine lv_iconst (v := 0) hx hb dL_recover_14 (by decide) ?_
    refine W.widen (k := 1) (n := 6) (by omega) (by omega) ?_
    exact W.iret hx hb hr (fun t ht _ => ⟨⟨rfl, _, fun _ => rfl, by rw [ht]; exact hP, hf⟩, hS.F ht⟩) hS.2.2 dL_recover_15
  · refine v_callX (Y := I_X5_recover) (As := []) (rest := [.int 0, .ref (ad 66)]) (ci := 5) (T := TX5) (N := 8) (S1 := S1) (E := E_S) (pre := []) (x := ⟨0, 8, 11, 19⟩) (suf := []) C hM hP hf hS ok_X5_recover vw_21 rfl (by decide) (by decide) rfl hl.1 ⟨Nat.le_of_ble_eq_true rfl, Nat.le_of_ble_eq_true rfl⟩ ⟨rfl, rfl⟩ (Nat.le_of_ble_eq_true rfl) dL_recover_3 rfl rfl (fun z hz => absurd hz List.not_mem_nil) (by decide) (by decide) vw_4 (List.mem_of_getElem? (i := 0) rfl) (fun q H locs hP hf hS => ?_)
    refine lv_astore_n (lv' := [(2, .ref q), (0, .ref (ad 0)), (1, .ref (ad 66))]) hx hb dL_recover_11 rfl hl (by decide) rfl (fun ls hl => ?_)
    refine lv_iconst (v := 1) hx hb dL_recover_12 (by decide) ?_
    exact W.iret hx hb hr (fun t ht _ => ⟨⟨rfl, S1.2.2, fun h => absurd h (by decide), by rw [ht]; exact hP, hf⟩, hS.F ht⟩) hS.2.2 dL_recover_13
theorem vc_recover : Cond.codeWith J_recover.1 J_recover.2.1 J_recover.2.2.1 (some .int) J_recover.2.2.2 ∈ z_G ∧ Cond.static J_recover.1 ∈ z_G ∧ Cond.initialized J_recover.1.cls ∈ z_G := ⟨z_Gin (List.mem_of_getElem? (i := 877) (by decide +kernel)) rfl, z_Gin (List.mem_of_getElem? (i := 876) (by decide +kernel)) rfl, z_Gin (List.mem_of_getElem? (i := 88) (by decide +kernel)) rfl⟩
def J_count : v_I := (yL_count, cL_count, 4, [(0, 9, 12, 13), (0, 9, 15, 17)])
set_option maxRecDepth 100000 in
set_option maxHeartbeats 4000000 in
theorem v_count {l : Launch} {B : Nat} {p1 : Int32} {S S1 : z_S} {code : Nat} {w : Int32} (hst : l.stackTraces = false) (hF : F_X5_count B p1 S = some (r_o [E_U, E_A] code w, S1)) (hc : code ≤ 2) : v_Met l J_count 8 136 B [.ref 0, .int p1, .ref 66] S code (fun lg => code = 0 → lg 0 = w.toInt64) S1 := by
  refine v_enter (by decide) (Nat.le_of_ble_eq_true rfl) ?_
  intro p e s m args below meth c D K ad ls C hl hP hf hS
  obtain ⟨hx, hb, hr, hml, hown, hts, hlocks, hK, hado, hxs, htab, hnc⟩ := id C
  have hb : c.code = cL_count := hb
  have hl : lv_has ls 4 [(0, .ref (ad 0)), (1, .int p1), (2, .ref (ad 66))] := hl
  refine lv_aload_n hx hb dL_count_0 rfl (lv_at hl 2 rfl) ?_
  refine lv_iconst (v := 0) hx hb dL_count_1 (by decide) ?_
  refine lv_aload_n hx hb dL_count_2 rfl (lv_at hl 0 rfl) ?_
  refine lv_iload_n hx hb dL_count_3 rfl (lv_at hl 1 rfl) ?_
  have hM := c_X5_count hst hF
  rcases (show code = 0 ∨ code = 1 ∨ code = 2 by omega) with rfl | rfl | rfl
  · refine v_callR (Y := I_X5_count) (As := [.int p1]) (rest := [.int 0, .ref (ad 66)]) (ci := 5) (T := TX5) (N := 8) (S1 := S1) (r := some w) ⟨hx, hb, hml, hown, hts⟩ hM hado hK hP (fun U h1 h2 => z_preU hK hxs hP hf hS U h1 h2) hS (fun q h => h) ok_X5_count vw_22 rfl (by decide) (by decide) rfl hl.1 ⟨Nat.le_of_ble_eq_true rfl, Nat.le_of_ble_eq_true rfl⟩ ⟨Nat.zero_le _, Nat.zero_le _⟩ (Nat.le_of_ble_eq_true rfl) dL_count_4 rfl (fun H locs hP hf hS _ => ?_)
    refine lv_i2l hx hb dL_count_7 rfl ?_
    refine va_last hx hb hK hP (z_D hado) hS 66 3 v_l_at rfl (y_in (k := 0) (by decide) (by decide) (by show 0 < 0 * B + 1; omega)) dL_count_8 (fun H locs hP hD hS => ?_)
    rw [v_ul_ws] at hP
    refine lv_goto (tgt := 18) hx hb dL_count_9 (by decide) ?_
    refine lv_iconst (v := 0) hx hb dL_count_18 (by decide) ?_
    refine W.widen (k := 1) (n := 6) (by omega) (by omega) ?_
    exact W.iret hx hb hr (fun t ht _ => ⟨⟨rfl, _, fun _ => rfl, by rw [ht]; exact hP, hf⟩, hS.F ht⟩) hS.2.2 dL_count_19
  · refine v_callX (Y := I_X5_count) (As := [.int p1]) (rest := [.int 0, .ref (ad 66)]) (ci := 5) (T := TX5) (N := 8) (S1 := S1) (E := E_U) (pre := []) (x := ⟨0, 9, 12, 13⟩) (suf := [⟨0, 9, 15, 17⟩]) C hM hP hf hS ok_X5_count vw_22 rfl (by decide) (by decide) rfl hl.1 ⟨Nat.le_of_ble_eq_true rfl, Nat.le_of_ble_eq_true rfl⟩ ⟨rfl, rfl⟩ (Nat.le_of_ble_eq_true rfl) dL_count_4 rfl rfl (fun z hz => absurd hz List.not_mem_nil) (by decide) (by decide) vw_1 (List.mem_of_getElem? (i := 1) rfl) (fun q H locs hP hf hS => ?_)
    refine lv_astore_n (lv' := [(3, .ref q), (0, .ref (ad 0)), (1, .int p1), (2, .ref (ad 66))]) hx hb dL_count_12 rfl hl (by decide) rfl (fun ls hl => ?_)
    refine lv_iconst (v := 1) hx hb dL_count_13 (by decide) ?_
    exact W.iret hx hb hr (fun t ht _ => ⟨⟨rfl, S1.2.2, fun h => absurd h (by decide), by rw [ht]; exact hP, hf⟩, hS.F ht⟩) hS.2.2 dL_count_14
  · refine v_callX (Y := I_X5_count) (As := [.int p1]) (rest := [.int 0, .ref (ad 66)]) (ci := 5) (T := TX5) (N := 8) (S1 := S1) (E := E_A) (pre := [⟨0, 9, 12, 13⟩]) (x := ⟨0, 9, 15, 17⟩) (suf := []) C hM hP hf hS ok_X5_count vw_22 rfl (by decide) (by decide) rfl hl.1 ⟨Nat.le_of_ble_eq_true rfl, Nat.le_of_ble_eq_true rfl⟩ ⟨rfl, rfl⟩ (Nat.le_of_ble_eq_true rfl) dL_count_4 rfl rfl (fun z hz => by
      simp only [List.mem_cons, List.not_mem_nil, or_false] at hz
      rcases hz with rfl
      · exact ⟨by decide, E_U, vw_1, List.mem_of_getElem? (i := 1) rfl⟩) (by decide) (by decide) vw_3 (List.mem_of_getElem? (i := 3) rfl) (fun q H locs hP hf hS => ?_)
    refine lv_astore_n (lv' := [(3, .ref q), (0, .ref (ad 0)), (1, .int p1), (2, .ref (ad 66))]) hx hb dL_count_15 rfl hl (by decide) rfl (fun ls hl => ?_)
    refine lv_iconst (v := 2) hx hb dL_count_16 (by decide) ?_
    exact W.iret hx hb hr (fun t ht _ => ⟨⟨rfl, S1.2.2, fun h => absurd h (by decide), by rw [ht]; exact hP, hf⟩, hS.F ht⟩) hS.2.2 dL_count_17
theorem vc_count : Cond.codeWith J_count.1 J_count.2.1 J_count.2.2.1 (some .int) J_count.2.2.2 ∈ z_G ∧ Cond.static J_count.1 ∈ z_G ∧ Cond.initialized J_count.1.cls ∈ z_G := ⟨z_Gin (List.mem_of_getElem? (i := 885) (by decide +kernel)) rfl, z_Gin (List.mem_of_getElem? (i := 884) (by decide +kernel)) rfl, z_Gin (List.mem_of_getElem? (i := 88) (by decide +kernel)) rfl⟩
