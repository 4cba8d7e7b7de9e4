/-! The cases of the law's loop. -/
theorem gw_0 : Cond.methodLink "PackedTreeLaw" 94 yL_make ∈ z_G := z_Gin (List.mem_of_getElem? (i := 326) (by decide +kernel)) rfl
theorem gw_1 : Cond.methodLink "PackedTreeLaw" 97 yX6_make ∈ z_G := z_Gin (List.mem_of_getElem? (i := 970) (by decide +kernel)) rfl
theorem gw_2 : Cond.methodLink "PackedTreeLaw" 98 yX6_thrown ∈ z_G := z_Gin (List.mem_of_getElem? (i := 966) (by decide +kernel)) rfl
theorem gw_3 : Cond.methodLink "PackedTreeLaw" 101 yL_link ∈ z_G := z_Gin (List.mem_of_getElem? (i := 564) (by decide +kernel)) rfl
theorem gw_4 : Cond.methodLink "PackedTreeLaw" 104 yX6_link ∈ z_G := z_Gin (List.mem_of_getElem? (i := 1081) (by decide +kernel)) rfl
theorem gw_5 : Cond.methodLink "PackedTreeLaw" 105 yL_unlink ∈ z_G := z_Gin (List.mem_of_getElem? (i := 576) (by decide +kernel)) rfl
theorem gw_6 : Cond.methodLink "PackedTreeLaw" 108 yX6_unlink ∈ z_G := z_Gin (List.mem_of_getElem? (i := 1089) (by decide +kernel)) rfl
theorem gw_7 : Cond.methodLink "PackedTreeLaw" 109 yL_move ∈ z_G := z_Gin (List.mem_of_getElem? (i := 638) (by decide +kernel)) rfl
theorem gw_8 : Cond.methodLink "PackedTreeLaw" 112 yX6_move ∈ z_G := z_Gin (List.mem_of_getElem? (i := 1120) (by decide +kernel)) rfl
theorem gw_9 : Cond.constantLong "PackedTreeLaw" 113 4294967295 ∈ z_G := z_Gin (List.mem_of_getElem? (i := 1267) (by decide +kernel)) rfl
theorem gw_10 : Cond.methodLink "PackedTreeLaw" 115 yL_write ∈ z_G := z_Gin (List.mem_of_getElem? (i := 650) (by decide +kernel)) rfl
theorem gw_11 : Cond.methodLink "PackedTreeLaw" 118 yX6_write ∈ z_G := z_Gin (List.mem_of_getElem? (i := 1132) (by decide +kernel)) rfl
theorem gw_12 : Cond.methodLink "PackedTreeLaw" 119 yL_fill ∈ z_G := z_Gin (List.mem_of_getElem? (i := 682) (by decide +kernel)) rfl
theorem gw_13 : Cond.methodLink "PackedTreeLaw" 121 yX6_fill ∈ z_G := z_Gin (List.mem_of_getElem? (i := 1160) (by decide +kernel)) rfl
theorem gw_14 : Cond.methodLink "PackedTreeLaw" 122 yL_cut ∈ z_G := z_Gin (List.mem_of_getElem? (i := 689) (by decide +kernel)) rfl
theorem gw_15 : Cond.methodLink "PackedTreeLaw" 124 yX6_cut ∈ z_G := z_Gin (List.mem_of_getElem? (i := 1164) (by decide +kernel)) rfl
theorem gw_16 : Cond.methodLink "PackedTreeLaw" 125 yL_read ∈ z_G := z_Gin (List.mem_of_getElem? (i := 697) (by decide +kernel)) rfl
theorem gw_17 : Cond.methodLink "PackedTreeLaw" 127 yX6_read ∈ z_G := z_Gin (List.mem_of_getElem? (i := 1168) (by decide +kernel)) rfl
theorem gw_18 : Cond.methodLink "PackedTreeLaw" 128 yL_look ∈ z_G := z_Gin (List.mem_of_getElem? (i := 708) (by decide +kernel)) rfl
theorem gw_19 : Cond.methodLink "PackedTreeLaw" 130 yX6_look ∈ z_G := z_Gin (List.mem_of_getElem? (i := 1172) (by decide +kernel)) rfl
theorem gw_20 : Cond.methodLink "PackedTreeLaw" 131 yL_name ∈ z_G := z_Gin (List.mem_of_getElem? (i := 715) (by decide +kernel)) rfl
theorem gw_21 : Cond.methodLink "PackedTreeLaw" 133 yX6_name ∈ z_G := z_Gin (List.mem_of_getElem? (i := 1176) (by decide +kernel)) rfl
theorem gw_22 : Cond.methodLink "PackedTreeLaw" 134 yL_about ∈ z_G := z_Gin (List.mem_of_getElem? (i := 734) (by decide +kernel)) rfl
theorem gw_23 : Cond.methodLink "PackedTreeLaw" 136 yX6_about ∈ z_G := z_Gin (List.mem_of_getElem? (i := 1180) (by decide +kernel)) rfl
theorem gw_24 : Cond.methodLink "PackedTreeLaw" 137 yL_node ∈ z_G := z_Gin (List.mem_of_getElem? (i := 744) (by decide +kernel)) rfl
theorem gw_25 : Cond.methodLink "PackedTreeLaw" 139 yX6_node ∈ z_G := z_Gin (List.mem_of_getElem? (i := 1184) (by decide +kernel)) rfl
theorem gw_26 : Cond.methodLink "PackedTreeLaw" 140 yL_item ∈ z_G := z_Gin (List.mem_of_getElem? (i := 757) (by decide +kernel)) rfl
theorem gw_27 : Cond.methodLink "PackedTreeLaw" 142 yX6_item ∈ z_G := z_Gin (List.mem_of_getElem? (i := 1188) (by decide +kernel)) rfl
theorem gw_28 : Cond.methodLink "PackedTreeLaw" 143 yL_commit ∈ z_G := z_Gin (List.mem_of_getElem? (i := 774) (by decide +kernel)) rfl
theorem gw_29 : Cond.methodLink "PackedTreeLaw" 146 yX6_commit ∈ z_G := z_Gin (List.mem_of_getElem? (i := 1196) (by decide +kernel)) rfl
theorem gw_30 : Cond.methodLink "PackedTreeLaw" 147 yL_checkpoint ∈ z_G := z_Gin (List.mem_of_getElem? (i := 849) (by decide +kernel)) rfl
theorem gw_31 : Cond.methodLink "PackedTreeLaw" 149 yX6_checkpoint ∈ z_G := z_Gin (List.mem_of_getElem? (i := 1235) (by decide +kernel)) rfl
theorem gw_32 : Cond.methodLink "PackedTreeLaw" 150 yL_back ∈ z_G := z_Gin (List.mem_of_getElem? (i := 860) (by decide +kernel)) rfl
theorem gw_33 : Cond.methodLink "PackedTreeLaw" 152 yX6_back ∈ z_G := z_Gin (List.mem_of_getElem? (i := 1239) (by decide +kernel)) rfl
theorem gw_34 : Cond.methodLink "PackedTreeLaw" 153 yL_fail ∈ z_G := z_Gin (List.mem_of_getElem? (i := 867) (by decide +kernel)) rfl
theorem gw_35 : Cond.methodLink "PackedTreeLaw" 156 yX6_fail ∈ z_G := z_Gin (List.mem_of_getElem? (i := 1243) (by decide +kernel)) rfl
theorem gw_36 : Cond.methodLink "PackedTreeLaw" 157 yX5_off ∈ z_G := z_Gin (List.mem_of_getElem? (i := 319) (by decide +kernel)) rfl
theorem gw_37 : Cond.methodLink "PackedTreeLaw" 161 yX6_off ∈ z_G := z_Gin (List.mem_of_getElem? (i := 1247) (by decide +kernel)) rfl
theorem gw_38 : Cond.methodLink "PackedTreeLaw" 162 yL_recover ∈ z_G := z_Gin (List.mem_of_getElem? (i := 875) (by decide +kernel)) rfl
theorem gw_39 : Cond.methodLink "PackedTreeLaw" 164 yX6_recover ∈ z_G := z_Gin (List.mem_of_getElem? (i := 1251) (by decide +kernel)) rfl
theorem gw_40 : Cond.methodLink "PackedTreeLaw" 165 yL_count ∈ z_G := z_Gin (List.mem_of_getElem? (i := 883) (by decide +kernel)) rfl
theorem gw_41 : Cond.methodLink "PackedTreeLaw" 168 yX6_count ∈ z_G := z_Gin (List.mem_of_getElem? (i := 1255) (by decide +kernel)) rfl
set_option maxRecDepth 100000 in
set_option maxHeartbeats 4000000 in
theorem g_make {p : Program} {l : Launch} {e : Env} {s : State} {m : MethodId} {below : List Frame} {meth : Method} {c : Code} {H : Heap} {locs : List Loc} {cells slots : Nat} {Q : State → Prop} {b L B J i : Nat} {xs : Nat → Int32} {D : va_G} {K : Nat → ClassId} {ad : Nat → Nat} {S : z_S} {ls : Array Slot} (C : g_C l p s m c b L xs D K ad) (hI : q_I B J S) (hi : i + 6 ≤ L) (hP : va_P D vwCl (z_ws B K ad S) H) (hf : z_fit S) (hS : va_S (g_A s) s.heap H locs) (ha : z_ado ad H.size) (hl : lv_has ls 7 (g_lv b ad i)) (hcs : cells + 1 ≤ 601024 ∧ slots + 6 ≤ 7293000) (next : g_nx l p e s m below meth c b B J i D K ad (cells + 1) (slots + 6) Q) : W p l e room_1 s m #[Value.ref b] below meth c H locs cells slots Q (F0 m 156 ls []) := by
  obtain ⟨hx, hb, hml, hown, hts, hK, hX, hbl, hge, hst, hL, hz⟩ := id C
  have hl : lv_has ls 7 [(4, .int (nI i)), (3, .ref (ad 66)), (2, .ref (ad 60)), (1, .ref (ad 0)), (0, .ref b)] := hl
  refine lv_aload_n hx hb dL_law_156 rfl (lv_at hl 3 rfl) ?_
  refine lv_aload_n hx hb dL_law_157 rfl (lv_at hl 4 rfl) ?_
  refine lv_iload hx hb dL_law_158 (lv_at hl 0 rfl) ?_
  refine lv_iconst (v := 1) hx hb dL_law_160 (by decide) ?_
  refine lv_iadd hx hb dL_law_161 ?_
  refine y_topi (v := nI (i + 1)) (nI_add i 1) ?_
  refine g_sc (k := 1) C hS (by omega) dL_law_162 ?_
  refine lv_aload_n hx hb dL_law_163 rfl (lv_at hl 4 rfl) ?_
  refine lv_iload hx hb dL_law_164 (lv_at hl 0 rfl) ?_
  refine lv_iconst (v := 2) hx hb dL_law_166 (by decide) ?_
  refine lv_iadd hx hb dL_law_167 ?_
  refine y_topi (v := nI (i + 2)) (nI_add i 2) ?_
  refine g_sc (k := 2) C hS (by omega) dL_law_168 ?_
  refine lv_aload_n hx hb dL_law_169 rfl (lv_at hl 4 rfl) ?_
  refine lv_iload hx hb dL_law_170 (lv_at hl 0 rfl) ?_
  refine lv_iconst (v := 3) hx hb dL_law_172 (by decide) ?_
  refine lv_iadd hx hb dL_law_173 ?_
  refine y_topi (v := nI (i + 3)) (nI_add i 3) ?_
  refine g_sc (k := 3) C hS (by omega) dL_law_174 ?_
  refine g_bool1 hx hb ?_
  refine lv_aload_n hx hb dL_law_183 rfl (lv_at hl 1 rfl) ?_
  obtain ⟨code, w, S1, hF, hc, hk⟩ := Z_make (p1 := xs (i + 1)) (p2 := xs (i + 2)) (p3 := if xs (i + 3) = 0 then 0 else 1) S hI
  refine v_callL (n := 5) (X := J_make) (As := [.ref 0, .int (xs (i + 1)), .int (xs (i + 2)), .int (if xs (i + 3) = 0 then 0 else 1), .ref 66]) (rest := []) (S := S) (S1 := S1) (code := code) (P := fun lg => code = 0 → lg 0 = w.toInt64) (g_F C) (v_make hst hF (by exact hc)) ha (g_preV C hP hf hS) hS (g_in C hS) vc_make.1 vc_make.2.1 vc_make.2.2 gw_0 ⟨by decide, by decide, by decide +kernel⟩ rfl hl.1 ⟨Nat.le_of_ble_eq_true rfl, Nat.le_of_ble_eq_true rfl⟩ hcs (Nat.le_of_ble_eq_true rfl) dL_law_184 rfl (fun lg H1 locs1 hlg hP1 hf1 hS1 hz1 => ?_)
  have ha := z_ado_go ha hz1
  clear hP hf hS
  have hP := hP1; have hf := hf1; have hS := hS1; clear hP1 hf1 hS1 hz1
  obtain ⟨v, S2, k1, k2, k3, k4, k5⟩ := hk lg
  refine lv_istore (lv' := [(5, .int (nI code)), (4, .int (nI i)), (3, .ref (ad 66)), (2, .ref (ad 60)), (1, .ref (ad 0)), (0, .ref b)]) hx hb dL_law_187 hl (by decide) rfl (fun ls hl => ?_)
  refine lv_aload_n hx hb dL_law_189 rfl (lv_at hl 3 rfl) ?_
  refine lv_aload_n hx hb dL_law_190 rfl (lv_at hl 5 rfl) ?_
  refine lv_iload hx hb dL_law_191 (lv_at hl 1 rfl) ?_
  refine lv_iconst (v := 1) hx hb dL_law_193 (by decide) ?_
  refine lv_iadd hx hb dL_law_194 ?_
  refine y_topi (v := nI (i + 1)) (nI_add i 1) ?_
  refine g_sc (k := 1) C hS (by omega) dL_law_195 ?_
  refine lv_aload_n hx hb dL_law_196 rfl (lv_at hl 5 rfl) ?_
  refine lv_iload hx hb dL_law_197 (lv_at hl 1 rfl) ?_
  refine lv_iconst (v := 2) hx hb dL_law_199 (by decide) ?_
  refine lv_iadd hx hb dL_law_200 ?_
  refine y_topi (v := nI (i + 2)) (nI_add i 2) ?_
  refine g_sc (k := 2) C hS (by omega) dL_law_201 ?_
  refine lv_aload_n hx hb dL_law_202 rfl (lv_at hl 5 rfl) ?_
  refine lv_iload hx hb dL_law_203 (lv_at hl 1 rfl) ?_
  refine lv_iconst (v := 3) hx hb dL_law_205 (by decide) ?_
  refine lv_iadd hx hb dL_law_206 ?_
  refine y_topi (v := nI (i + 3)) (nI_add i 3) ?_
  refine g_sc (k := 3) C hS (by omega) dL_law_207 ?_
  refine g_bool2 hx hb ?_
  have hM9 := c_X6_make hst k1
  refine v_callR (Y := I_X6_make) (As := [.int (xs (i + 1)), .int (xs (i + 2)), .int (if xs (i + 3) = 0 then 0 else 1)]) (rest := []) (ci := 6) (T := TX6) (N := 15) (S := q_ul S1 lg) (S1 := S2) (a := 60) (r := some v) (g_F C) (hM9) ha hK hP (g_pre C hP hf hS) hS (g_in C hS) ok_X6_make gw_1 rfl (by decide) (by decide) rfl hl.1 ⟨Nat.le_of_ble_eq_true rfl, Nat.le_of_ble_eq_true rfl⟩ ⟨hcs.1, hcs.2⟩ (Nat.le_of_ble_eq_true rfl) dL_law_216 rfl (fun H1 locs1 hP1 hf1 hS1 hz1 => ?_)
  have ha := z_ado_go ha hz1
  clear hP hf hS hM9
  have hP := hP1; have hf := hf1; have hS := hS1; clear hP1 hf1 hS1 hz1
  refine lv_istore (lv' := [(6, .int v), (5, .int (nI code)), (4, .int (nI i)), (3, .ref (ad 66)), (2, .ref (ad 60)), (1, .ref (ad 0)), (0, .ref b)]) hx hb dL_law_219 hl (by decide) rfl (fun ls hl => ?_)
  refine lv_aload_n hx hb dL_law_221 rfl (lv_at hl 4 rfl) ?_
  have hM9 := c_X6_thrown hst (g_thr (B := B) (S := S2))
  refine v_callR (Y := I_X6_thrown) (As := []) (rest := []) (ci := 6) (T := TX6) (N := 15) (S := S2) (S1 := S2) (a := 60) (r := some (S2.2.1 60 0)) (g_F C) (hM9) ha hK hP (g_pre C hP hf hS) hS (g_in C hS) ok_X6_thrown gw_2 rfl (by decide) (by decide) rfl hl.1 ⟨Nat.le_of_ble_eq_true rfl, Nat.le_of_ble_eq_true rfl⟩ ⟨hcs.1, hcs.2⟩ (Nat.le_of_ble_eq_true rfl) dL_law_222 rfl (fun H1 locs1 hP1 hf1 hS1 hz1 => ?_)
  have ha := z_ado_go ha hz1
  clear hP hf hS hM9
  have hP := hP1; have hf := hf1; have hS := hS1; clear hP1 hf1 hS1 hz1
  refine y_topi (v := nI code) k2 ?_
  refine lv_iload hx hb dL_law_225 (lv_at hl 1 rfl) ?_
  refine lv_icmp_eq (tgt := 232) hx hb dL_law_227 (by decide) (fun _ => ?_) (fun h9 => absurd rfl h9)
  refine lv_iload hx hb dL_law_232 (lv_at hl 1 rfl) ?_
  refine lv_if_ne (tgt := 249) hx hb dL_law_234 (by decide) (fun _ => ?_) (fun h0 => ?_)
  · refine lv_goto (tgt := 1477) hx hb dL_law_249 (by decide) ?_
    exact next S2 _ _ _ k4 hP hf hS ha (lv_sub hl [2, 3, 4, 5, 6] rfl)
  · have hc0 := g_nz (Nat.le_trans hc (by decide)) h0
    refine lv_aload_n hx hb dL_law_237 rfl (lv_at hl 3 rfl) ?_
    refine lv_iconst (v := 0) hx hb dL_law_238 (by decide) ?_
    refine va_lald hx hb hK hP 66 3 v_l_at rfl (y_in (k := 0) (by decide) (by decide) (by show 0 < 0 * B + 1; omega)) dL_law_239 ?_
    refine lv_iload hx hb dL_law_240 (lv_at hl 0 rfl) ?_
    refine lv_i2l hx hb dL_law_242 rfl ?_
    refine W.lcmp hx hb dL_law_243 ?_
    refine y_topi (v := 0) (by rw [k5, show lg (Int32.toNatClampNeg 0) = w.toInt64 from hlg hc0, k3 hc0]; exact g_cmp _) ?_
    refine lv_if_eq (tgt := 249) hx hb dL_law_244 (by decide) (fun _ => ?_) (fun h9 => absurd rfl h9)
    refine lv_goto (tgt := 1477) hx hb dL_law_249 (by decide) ?_
    exact next S2 _ _ _ k4 hP hf hS ha (lv_sub hl [2, 3, 4, 5, 6] rfl)
set_option maxRecDepth 100000 in
set_option maxHeartbeats 4000000 in
theorem g_link {p : Program} {l : Launch} {e : Env} {s : State} {m : MethodId} {below : List Frame} {meth : Method} {c : Code} {H : Heap} {locs : List Loc} {cells slots : Nat} {Q : State → Prop} {b L B J i : Nat} {xs : Nat → Int32} {D : va_G} {K : Nat → ClassId} {ad : Nat → Nat} {S : z_S} {ls : Array Slot} (C : g_C l p s m c b L xs D K ad) (hI : q_I B J S) (hi : i + 6 ≤ L) (hP : va_P D vwCl (z_ws B K ad S) H) (hf : z_fit S) (hS : va_S (g_A s) s.heap H locs) (ha : z_ado ad H.size) (hl : lv_has ls 7 (g_lv b ad i)) (hcs : cells + 1 ≤ 601024 ∧ slots + 6 ≤ 7293000) (next : g_nx l p e s m below meth c b B J i D K ad (cells + 1) (slots + 6) Q) : W p l e room_1 s m #[Value.ref b] below meth c H locs cells slots Q (F0 m 252 ls []) := by
  obtain ⟨hx, hb, hml, hown, hts, hK, hX, hbl, hge, hst, hL, hz⟩ := id C
  have hl : lv_has ls 7 [(4, .int (nI i)), (3, .ref (ad 66)), (2, .ref (ad 60)), (1, .ref (ad 0)), (0, .ref b)] := hl
  refine lv_aload_n hx hb dL_law_252 rfl (lv_at hl 3 rfl) ?_
  refine lv_aload_n hx hb dL_law_253 rfl (lv_at hl 4 rfl) ?_
  refine lv_iload hx hb dL_law_254 (lv_at hl 0 rfl) ?_
  refine lv_iconst (v := 1) hx hb dL_law_256 (by decide) ?_
  refine lv_iadd hx hb dL_law_257 ?_
  refine y_topi (v := nI (i + 1)) (nI_add i 1) ?_
  refine g_sc (k := 1) C hS (by omega) dL_law_258 ?_
  refine lv_aload_n hx hb dL_law_259 rfl (lv_at hl 4 rfl) ?_
  refine lv_iload hx hb dL_law_260 (lv_at hl 0 rfl) ?_
  refine lv_iconst (v := 2) hx hb dL_law_262 (by decide) ?_
  refine lv_iadd hx hb dL_law_263 ?_
  refine y_topi (v := nI (i + 2)) (nI_add i 2) ?_
  refine g_sc (k := 2) C hS (by omega) dL_law_264 ?_
  refine lv_aload_n hx hb dL_law_265 rfl (lv_at hl 4 rfl) ?_
  refine lv_iload hx hb dL_law_266 (lv_at hl 0 rfl) ?_
  refine lv_iconst (v := 3) hx hb dL_law_268 (by decide) ?_
  refine lv_iadd hx hb dL_law_269 ?_
  refine y_topi (v := nI (i + 3)) (nI_add i 3) ?_
  refine g_sc (k := 3) C hS (by omega) dL_law_270 ?_
  refine lv_aload_n hx hb dL_law_271 rfl (lv_at hl 1 rfl) ?_
  obtain ⟨code, w, S1, hF, hc, hk⟩ := Z_link (p1 := xs (i + 1)) (p2 := xs (i + 2)) (p3 := xs (i + 3)) S hI
  refine v_callL (n := 5) (X := J_link) (As := [.ref 0, .int (xs (i + 1)), .int (xs (i + 2)), .int (xs (i + 3)), .ref 66]) (rest := []) (S := S) (S1 := S1) (code := code) (P := fun lg => code = 0 → lg 0 = w.toInt64) (g_F C) (v_link hst hF (by exact hc)) ha (g_preV C hP hf hS) hS (g_in C hS) vc_link.1 vc_link.2.1 vc_link.2.2 gw_3 ⟨by decide, by decide, by decide +kernel⟩ rfl hl.1 ⟨Nat.le_of_ble_eq_true rfl, Nat.le_of_ble_eq_true rfl⟩ hcs (Nat.le_of_ble_eq_true rfl) dL_law_272 rfl (fun lg H1 locs1 hlg hP1 hf1 hS1 hz1 => ?_)
  have ha := z_ado_go ha hz1
  clear hP hf hS
  have hP := hP1; have hf := hf1; have hS := hS1; clear hP1 hf1 hS1 hz1
  obtain ⟨v, S2, k1, k2, k3, k4, k5⟩ := hk lg
  refine lv_istore (lv' := [(5, .int (nI code)), (4, .int (nI i)), (3, .ref (ad 66)), (2, .ref (ad 60)), (1, .ref (ad 0)), (0, .ref b)]) hx hb dL_law_275 hl (by decide) rfl (fun ls hl => ?_)
  refine lv_aload_n hx hb dL_law_277 rfl (lv_at hl 3 rfl) ?_
  refine lv_aload_n hx hb dL_law_278 rfl (lv_at hl 5 rfl) ?_
  refine lv_iload hx hb dL_law_279 (lv_at hl 1 rfl) ?_
  refine lv_iconst (v := 1) hx hb dL_law_281 (by decide) ?_
  refine lv_iadd hx hb dL_law_282 ?_
  refine y_topi (v := nI (i + 1)) (nI_add i 1) ?_
  refine g_sc (k := 1) C hS (by omega) dL_law_283 ?_
  refine lv_aload_n hx hb dL_law_284 rfl (lv_at hl 5 rfl) ?_
  refine lv_iload hx hb dL_law_285 (lv_at hl 1 rfl) ?_
  refine lv_iconst (v := 2) hx hb dL_law_287 (by decide) ?_
  refine lv_iadd hx hb dL_law_288 ?_
  refine y_topi (v := nI (i + 2)) (nI_add i 2) ?_
  refine g_sc (k := 2) C hS (by omega) dL_law_289 ?_
  refine lv_aload_n hx hb dL_law_290 rfl (lv_at hl 5 rfl) ?_
  refine lv_iload hx hb dL_law_291 (lv_at hl 1 rfl) ?_
  refine lv_iconst (v := 3) hx hb dL_law_293 (by decide) ?_
  refine lv_iadd hx hb dL_law_294 ?_
  refine y_topi (v := nI (i + 3)) (nI_add i 3) ?_
  refine g_sc (k := 3) C hS (by omega) dL_law_295 ?_
  have hM9 := c_X6_link hst k1
  refine v_callR (Y := I_X6_link) (As := [.int (xs (i + 1)), .int (xs (i + 2)), .int (xs (i + 3))]) (rest := []) (ci := 6) (T := TX6) (N := 15) (S := q_ul S1 lg) (S1 := S2) (a := 60) (r := some v) (g_F C) (hM9) ha hK hP (g_pre C hP hf hS) hS (g_in C hS) ok_X6_link gw_4 rfl (by decide) (by decide) rfl hl.1 ⟨Nat.le_of_ble_eq_true rfl, Nat.le_of_ble_eq_true rfl⟩ ⟨hcs.1, hcs.2⟩ (Nat.le_of_ble_eq_true rfl) dL_law_296 rfl (fun H1 locs1 hP1 hf1 hS1 hz1 => ?_)
  have ha := z_ado_go ha hz1
  clear hP hf hS hM9
  have hP := hP1; have hf := hf1; have hS := hS1; clear hP1 hf1 hS1 hz1
  refine lv_istore (lv' := [(6, .int v), (5, .int (nI code)), (4, .int (nI i)), (3, .ref (ad 66)), (2, .ref (ad 60)), (1, .ref (ad 0)), (0, .ref b)]) hx hb dL_law_299 hl (by decide) rfl (fun ls hl => ?_)
  refine lv_aload_n hx hb dL_law_301 rfl (lv_at hl 4 rfl) ?_
  have hM9 := c_X6_thrown hst (g_thr (B := B) (S := S2))
  refine v_callR (Y := I_X6_thrown) (As := []) (rest := []) (ci := 6) (T := TX6) (N := 15) (S := S2) (S1 := S2) (a := 60) (r := some (S2.2.1 60 0)) (g_F C) (hM9) ha hK hP (g_pre C hP hf hS) hS (g_in C hS) ok_X6_thrown gw_2 rfl (by decide) (by decide) rfl hl.1 ⟨Nat.le_of_ble_eq_true rfl, Nat.le_of_ble_eq_true rfl⟩ ⟨hcs.1, hcs.2⟩ (Nat.le_of_ble_eq_true rfl) dL_law_302 rfl (fun H1 locs1 hP1 hf1 hS1 hz1 => ?_)
  have ha := z_ado_go ha hz1
  clear hP hf hS hM9
  have hP := hP1; have hf := hf1; have hS := hS1; clear hP1 hf1 hS1 hz1
  refine y_topi (v := nI code) k2 ?_
  refine lv_iload hx hb dL_law_305 (lv_at hl 1 rfl) ?_
  refine lv_icmp_eq (tgt := 312) hx hb dL_law_307 (by decide) (fun _ => ?_) (fun h9 => absurd rfl h9)
  refine lv_iload hx hb dL_law_312 (lv_at hl 1 rfl) ?_
  refine lv_if_ne (tgt := 329) hx hb dL_law_314 (by decide) (fun _ => ?_) (fun h0 => ?_)
  · refine lv_goto (tgt := 1477) hx hb dL_law_329 (by decide) ?_
    exact next S2 _ _ _ k4 hP hf hS ha (lv_sub hl [2, 3, 4, 5, 6] rfl)
  · have hc0 := g_nz (Nat.le_trans hc (by decide)) h0
    refine lv_aload_n hx hb dL_law_317 rfl (lv_at hl 3 rfl) ?_
    refine lv_iconst (v := 0) hx hb dL_law_318 (by decide) ?_
    refine va_lald hx hb hK hP 66 3 v_l_at rfl (y_in (k := 0) (by decide) (by decide) (by show 0 < 0 * B + 1; omega)) dL_law_319 ?_
    refine lv_iload hx hb dL_law_320 (lv_at hl 0 rfl) ?_
    refine lv_i2l hx hb dL_law_322 rfl ?_
    refine W.lcmp hx hb dL_law_323 ?_
    refine y_topi (v := 0) (by rw [k5, show lg (Int32.toNatClampNeg 0) = w.toInt64 from hlg hc0, k3 hc0]; exact g_cmp _) ?_
    refine lv_if_eq (tgt := 329) hx hb dL_law_324 (by decide) (fun _ => ?_) (fun h9 => absurd rfl h9)
    refine lv_goto (tgt := 1477) hx hb dL_law_329 (by decide) ?_
    exact next S2 _ _ _ k4 hP hf hS ha (lv_sub hl [2, 3, 4, 5, 6] rfl)
set_option maxRecDepth 100000 in
set_option maxHeartbeats 4000000 in
theorem g_unlink {p : Program} {l : Launch} {e : Env} {s : State} {m : MethodId} {below : List Frame} {meth : Method} {c : Code} {H : Heap} {locs : List Loc} {cells slots : Nat} {Q : State → Prop} {b L B J i : Nat} {xs : Nat → Int32} {D : va_G} {K : Nat → ClassId} {ad : Nat → Nat} {S : z_S} {ls : Array Slot} (C : g_C l p s m c b L xs D K ad) (hI : q_I B J S) (hi : i + 6 ≤ L) (hP : va_P D vwCl (z_ws B K ad S) H) (hf : z_fit S) (hS : va_S (g_A s) s.heap H locs) (ha : z_ado ad H.size) (hl : lv_has ls 7 (g_lv b ad i)) (hcs : cells + 1 ≤ 601024 ∧ slots + 6 ≤ 7293000) (next : g_nx l p e s m below meth c b B J i D K ad (cells + 1) (slots + 6) Q) : W p l e room_1 s m #[Value.ref b] below meth c H locs cells slots Q (F0 m 332 ls []) := by
  obtain ⟨hx, hb, hml, hown, hts, hK, hX, hbl, hge, hst, hL, hz⟩ := id C
  have hl : lv_has ls 7 [(4, .int (nI i)), (3, .ref (ad 66)), (2, .ref (ad 60)), (1, .ref (ad 0)), (0, .ref b)] := hl
  refine lv_aload_n hx hb dL_law_332 rfl (lv_at hl 3 rfl) ?_
  refine lv_aload_n hx hb dL_law_333 rfl (lv_at hl 4 rfl) ?_
  refine lv_iload hx hb dL_law_334 (lv_at hl 0 rfl) ?_
  refine lv_iconst (v := 1) hx hb dL_law_336 (by decide) ?_
  refine lv_iadd hx hb dL_law_337 ?_
  refine y_topi (v := nI (i + 1)) (nI_add i 1) ?_
  refine g_sc (k := 1) C hS (by omega) dL_law_338 ?_
  refine lv_aload_n hx hb dL_law_339 rfl (lv_at hl 4 rfl) ?_
  refine lv_iload hx hb dL_law_340 (lv_at hl 0 rfl) ?_
  refine lv_iconst (v := 2) hx hb dL_law_342 (by decide) ?_
  refine lv_iadd hx hb dL_law_343 ?_
  refine y_topi (v := nI (i + 2)) (nI_add i 2) ?_
  refine g_sc (k := 2) C hS (by omega) dL_law_344 ?_
  refine lv_aload_n hx hb dL_law_345 rfl (lv_at hl 1 rfl) ?_
  obtain ⟨code, w, S1, hF, hc, hk⟩ := Z_unlink (p1 := xs (i + 1)) (p2 := xs (i + 2)) S hI
  refine v_callL (n := 4) (X := J_unlink) (As := [.ref 0, .int (xs (i + 1)), .int (xs (i + 2)), .ref 66]) (rest := []) (S := S) (S1 := S1) (code := code) (P := fun lg => code = 0 → lg 0 = w.toInt64) (g_F C) (v_unlink hst hF (by exact hc)) ha (g_preV C hP hf hS) hS (g_in C hS) vc_unlink.1 vc_unlink.2.1 vc_unlink.2.2 gw_5 ⟨by decide, by decide, by decide +kernel⟩ rfl hl.1 ⟨Nat.le_of_ble_eq_true rfl, Nat.le_of_ble_eq_true rfl⟩ hcs (Nat.le_of_ble_eq_true rfl) dL_law_346 rfl (fun lg H1 locs1 hlg hP1 hf1 hS1 hz1 => ?_)
  have ha := z_ado_go ha hz1
  clear hP hf hS
  have hP := hP1; have hf := hf1; have hS := hS1; clear hP1 hf1 hS1 hz1
  obtain ⟨v, S2, k1, k2, k3, k4, k5⟩ := hk lg
  refine lv_istore (lv' := [(5, .int (nI code)), (4, .int (nI i)), (3, .ref (ad 66)), (2, .ref (ad 60)), (1, .ref (ad 0)), (0, .ref b)]) hx hb dL_law_349 hl (by decide) rfl (fun ls hl => ?_)
  refine lv_aload_n hx hb dL_law_351 rfl (lv_at hl 3 rfl) ?_
  refine lv_aload_n hx hb dL_law_352 rfl (lv_at hl 5 rfl) ?_
  refine lv_iload hx hb dL_law_353 (lv_at hl 1 rfl) ?_
  refine lv_iconst (v := 1) hx hb dL_law_355 (by decide) ?_
  refine lv_iadd hx hb dL_law_356 ?_
  refine y_topi (v := nI (i + 1)) (nI_add i 1) ?_
  refine g_sc (k := 1) C hS (by omega) dL_law_357 ?_
  refine lv_aload_n hx hb dL_law_358 rfl (lv_at hl 5 rfl) ?_
  refine lv_iload hx hb dL_law_359 (lv_at hl 1 rfl) ?_
  refine lv_iconst (v := 2) hx hb dL_law_361 (by decide) ?_
  refine lv_iadd hx hb dL_law_362 ?_
  refine y_topi (v := nI (i + 2)) (nI_add i 2) ?_
  refine g_sc (k := 2) C hS (by omega) dL_law_363 ?_
  have hM9 := c_X6_unlink hst k1
  refine v_callR (Y := I_X6_unlink) (As := [.int (xs (i + 1)), .int (xs (i + 2))]) (rest := []) (ci := 6) (T := TX6) (N := 15) (S := q_ul S1 lg) (S1 := S2) (a := 60) (r := some v) (g_F C) (hM9) ha hK hP (g_pre C hP hf hS) hS (g_in C hS) ok_X6_unlink gw_6 rfl (by decide) (by decide) rfl hl.1 ⟨Nat.le_of_ble_eq_true rfl, Nat.le_of_ble_eq_true rfl⟩ ⟨hcs.1, hcs.2⟩ (Nat.le_of_ble_eq_true rfl) dL_law_364 rfl (fun H1 locs1 hP1 hf1 hS1 hz1 => ?_)
  have ha := z_ado_go ha hz1
  clear hP hf hS hM9
  have hP := hP1; have hf := hf1; have hS := hS1; clear hP1 hf1 hS1 hz1
  refine lv_istore (lv' := [(6, .int v), (5, .int (nI code)), (4, .int (nI i)), (3, .ref (ad 66)), (2, .ref (ad 60)), (1, .ref (ad 0)), (0, .ref b)]) hx hb dL_law_367 hl (by decide) rfl (fun ls hl => ?_)
  refine lv_aload_n hx hb dL_law_369 rfl (lv_at hl 4 rfl) ?_
  have hM9 := c_X6_thrown hst (g_thr (B := B) (S := S2))
  refine v_callR (Y := I_X6_thrown) (As := []) (rest := []) (ci := 6) (T := TX6) (N := 15) (S := S2) (S1 := S2) (a := 60) (r := some (S2.2.1 60 0)) (g_F C) (hM9) ha hK hP (g_pre C hP hf hS) hS (g_in C hS) ok_X6_thrown gw_2 rfl (by decide) (by decide) rfl hl.1 ⟨Nat.le_of_ble_eq_true rfl, Nat.le_of_ble_eq_true rfl⟩ ⟨hcs.1, hcs.2⟩ (Nat.le_of_ble_eq_true rfl) dL_law_370 rfl (fun H1 locs1 hP1 hf1 hS1 hz1 => ?_)
  have ha := z_ado_go ha hz1
  clear hP hf hS hM9
  have hP := hP1; have hf := hf1; have hS := hS1; clear hP1 hf1 hS1 hz1
  refine y_topi (v := nI code) k2 ?_
  refine lv_iload hx hb dL_law_373 (lv_at hl 1 rfl) ?_
  refine lv_icmp_eq (tgt := 380) hx hb dL_law_375 (by decide) (fun _ => ?_) (fun h9 => absurd rfl h9)
  refine lv_iload hx hb dL_law_380 (lv_at hl 1 rfl) ?_
  refine lv_if_ne (tgt := 397) hx hb dL_law_382 (by decide) (fun _ => ?_) (fun h0 => ?_)
  · refine lv_goto (tgt := 1477) hx hb dL_law_397 (by decide) ?_
    exact next S2 _ _ _ k4 hP hf hS ha (lv_sub hl [2, 3, 4, 5, 6] rfl)
  · have hc0 := g_nz (Nat.le_trans hc (by decide)) h0
    refine lv_aload_n hx hb dL_law_385 rfl (lv_at hl 3 rfl) ?_
    refine lv_iconst (v := 0) hx hb dL_law_386 (by decide) ?_
    refine va_lald hx hb hK hP 66 3 v_l_at rfl (y_in (k := 0) (by decide) (by decide) (by show 0 < 0 * B + 1; omega)) dL_law_387 ?_
    refine lv_iload hx hb dL_law_388 (lv_at hl 0 rfl) ?_
    refine lv_i2l hx hb dL_law_390 rfl ?_
    refine W.lcmp hx hb dL_law_391 ?_
    refine y_topi (v := 0) (by rw [k5, show lg (Int32.toNatClampNeg 0) = w.toInt64 from hlg hc0, k3 hc0]; exact g_cmp _) ?_
    refine lv_if_eq (tgt := 397) hx hb dL_law_392 (by decide) (fun _ => ?_) (fun h9 => absurd rfl h9)
    refine lv_goto (tgt := 1477) hx hb dL_law_397 (by decide) ?_
    exact next S2 _ _ _ k4 hP hf hS ha (lv_sub hl [2, 3, 4, 5, 6] rfl)
set_option maxRecDepth 100000 in
set_option maxHeartbeats 4000000 in
theorem g_move {p : Program} {l : Launch} {e : Env} {s : State} {m : MethodId} {below : List Frame} {meth : Method} {c : Code} {H : Heap} {locs : List Loc} {cells slots : Nat} {Q : State → Prop} {b L B J i : Nat} {xs : Nat → Int32} {D : va_G} {K : Nat → ClassId} {ad : Nat → Nat} {S : z_S} {ls : Array Slot} (C : g_C l p s m c b L xs D K ad) (hI : q_I B J S) (hi : i + 6 ≤ L) (hP : va_P D vwCl (z_ws B K ad S) H) (hf : z_fit S) (hS : va_S (g_A s) s.heap H locs) (ha : z_ado ad H.size) (hl : lv_has ls 7 (g_lv b ad i)) (hcs : cells + 1 ≤ 601024 ∧ slots + 6 ≤ 7293000) (next : g_nx l p e s m below meth c b B J i D K ad (cells + 1) (slots + 6) Q) : W p l e room_1 s m #[Value.ref b] below meth c H locs cells slots Q (F0 m 400 ls []) := by
  obtain ⟨hx, hb, hml, hown, hts, hK, hX, hbl, hge, hst, hL, hz⟩ := id C
  have hl : lv_has ls 7 [(4, .int (nI i)), (3, .ref (ad 66)), (2, .ref (ad 60)), (1, .ref (ad 0)), (0, .ref b)] := hl
  refine lv_aload_n hx hb dL_law_400 rfl (lv_at hl 3 rfl) ?_
  refine lv_aload_n hx hb dL_law_401 rfl (lv_at hl 4 rfl) ?_
  refine lv_iload hx hb dL_law_402 (lv_at hl 0 rfl) ?_
  refine lv_iconst (v := 1) hx hb dL_law_404 (by decide) ?_
  refine lv_iadd hx hb dL_law_405 ?_
  refine y_topi (v := nI (i + 1)) (nI_add i 1) ?_
  refine g_sc (k := 1) C hS (by omega) dL_law_406 ?_
  refine lv_aload_n hx hb dL_law_407 rfl (lv_at hl 4 rfl) ?_
  refine lv_iload hx hb dL_law_408 (lv_at hl 0 rfl) ?_
  refine lv_iconst (v := 2) hx hb dL_law_410 (by decide) ?_
  refine lv_iadd hx hb dL_law_411 ?_
  refine y_topi (v := nI (i + 2)) (nI_add i 2) ?_
  refine g_sc (k := 2) C hS (by omega) dL_law_412 ?_
  refine lv_aload_n hx hb dL_law_413 rfl (lv_at hl 4 rfl) ?_
  refine lv_iload hx hb dL_law_414 (lv_at hl 0 rfl) ?_
  refine lv_iconst (v := 3) hx hb dL_law_416 (by decide) ?_
  refine lv_iadd hx hb dL_law_417 ?_
  refine y_topi (v := nI (i + 3)) (nI_add i 3) ?_
  refine g_sc (k := 3) C hS (by omega) dL_law_418 ?_
  refine lv_aload_n hx hb dL_law_419 rfl (lv_at hl 4 rfl) ?_
  refine lv_iload hx hb dL_law_420 (lv_at hl 0 rfl) ?_
  refine lv_iconst (v := 4) hx hb dL_law_422 (by decide) ?_
  refine lv_iadd hx hb dL_law_423 ?_
  refine y_topi (v := nI (i + 4)) (nI_add i 4) ?_
  refine g_sc (k := 4) C hS (by omega) dL_law_424 ?_
  refine lv_aload_n hx hb dL_law_425 rfl (lv_at hl 1 rfl) ?_
  obtain ⟨code, w, S1, hF, hc, hk⟩ := Z_move (p1 := xs (i + 1)) (p2 := xs (i + 2)) (p3 := xs (i + 3)) (p4 := xs (i + 4)) S hI
  refine v_callL (n := 6) (X := J_move) (As := [.ref 0, .int (xs (i + 1)), .int (xs (i + 2)), .int (xs (i + 3)), .int (xs (i + 4)), .ref 66]) (rest := []) (S := S) (S1 := S1) (code := code) (P := fun lg => code = 0 → lg 0 = w.toInt64) (g_F C) (v_move hst hF (by exact hc)) ha (g_preV C hP hf hS) hS (g_in C hS) vc_move.1 vc_move.2.1 vc_move.2.2 gw_7 ⟨by decide, by decide, by decide +kernel⟩ rfl hl.1 ⟨Nat.le_of_ble_eq_true rfl, Nat.le_of_ble_eq_true rfl⟩ hcs (Nat.le_of_ble_eq_true rfl) dL_law_426 rfl (fun lg H1 locs1 hlg hP1 hf1 hS1 hz1 => ?_)
  have ha := z_ado_go ha hz1
  clear hP hf hS
  have hP := hP1; have hf := hf1; have hS := hS1; clear hP1 hf1 hS1 hz1
  obtain ⟨v, S2, k1, k2, k3, k4, k5⟩ := hk lg
  refine lv_istore (lv' := [(5, .int (nI code)), (4, .int (nI i)), (3, .ref (ad 66)), (2, .ref (ad 60)), (1, .ref (ad 0)), (0, .ref b)]) hx hb dL_law_429 hl (by decide) rfl (fun ls hl => ?_)
  refine lv_aload_n hx hb dL_law_431 rfl (lv_at hl 3 rfl) ?_
  refine lv_aload_n hx hb dL_law_432 rfl (lv_at hl 5 rfl) ?_
  refine lv_iload hx hb dL_law_433 (lv_at hl 1 rfl) ?_
  refine lv_iconst (v := 1) hx hb dL_law_435 (by decide) ?_
  refine lv_iadd hx hb dL_law_436 ?_
  refine y_topi (v := nI (i + 1)) (nI_add i 1) ?_
  refine g_sc (k := 1) C hS (by omega) dL_law_437 ?_
  refine lv_aload_n hx hb dL_law_438 rfl (lv_at hl 5 rfl) ?_
  refine lv_iload hx hb dL_law_439 (lv_at hl 1 rfl) ?_
  refine lv_iconst (v := 2) hx hb dL_law_441 (by decide) ?_
  refine lv_iadd hx hb dL_law_442 ?_
  refine y_topi (v := nI (i + 2)) (nI_add i 2) ?_
  refine g_sc (k := 2) C hS (by omega) dL_law_443 ?_
  refine lv_aload_n hx hb dL_law_444 rfl (lv_at hl 5 rfl) ?_
  refine lv_iload hx hb dL_law_445 (lv_at hl 1 rfl) ?_
  refine lv_iconst (v := 3) hx hb dL_law_447 (by decide) ?_
  refine lv_iadd hx hb dL_law_448 ?_
  refine y_topi (v := nI (i + 3)) (nI_add i 3) ?_
  refine g_sc (k := 3) C hS (by omega) dL_law_449 ?_
  refine lv_aload_n hx hb dL_law_450 rfl (lv_at hl 5 rfl) ?_
  refine lv_iload hx hb dL_law_451 (lv_at hl 1 rfl) ?_
  refine lv_iconst (v := 4) hx hb dL_law_453 (by decide) ?_
  refine lv_iadd hx hb dL_law_454 ?_
  refine y_topi (v := nI (i + 4)) (nI_add i 4) ?_
  refine g_sc (k := 4) C hS (by omega) dL_law_455 ?_
  have hM9 := c_X6_move hst k1
  refine v_callR (Y := I_X6_move) (As := [.int (xs (i + 1)), .int (xs (i + 2)), .int (xs (i + 3)), .int (xs (i + 4))]) (rest := []) (ci := 6) (T := TX6) (N := 15) (S := q_ul S1 lg) (S1 := S2) (a := 60) (r := some v) (g_F C) (hM9) ha hK hP (g_pre C hP hf hS) hS (g_in C hS) ok_X6_move gw_8 rfl (by decide) (by decide) rfl hl.1 ⟨Nat.le_of_ble_eq_true rfl, Nat.le_of_ble_eq_true rfl⟩ ⟨hcs.1, hcs.2⟩ (Nat.le_of_ble_eq_true rfl) dL_law_456 rfl (fun H1 locs1 hP1 hf1 hS1 hz1 => ?_)
  have ha := z_ado_go ha hz1
  clear hP hf hS hM9
  have hP := hP1; have hf := hf1; have hS := hS1; clear hP1 hf1 hS1 hz1
  refine lv_istore (lv' := [(6, .int v), (5, .int (nI code)), (4, .int (nI i)), (3, .ref (ad 66)), (2, .ref (ad 60)), (1, .ref (ad 0)), (0, .ref b)]) hx hb dL_law_459 hl (by decide) rfl (fun ls hl => ?_)
  refine lv_aload_n hx hb dL_law_461 rfl (lv_at hl 4 rfl) ?_
  have hM9 := c_X6_thrown hst (g_thr (B := B) (S := S2))
  refine v_callR (Y := I_X6_thrown) (As := []) (rest := []) (ci := 6) (T := TX6) (N := 15) (S := S2) (S1 := S2) (a := 60) (r := some (S2.2.1 60 0)) (g_F C) (hM9) ha hK hP (g_pre C hP hf hS) hS (g_in C hS) ok_X6_thrown gw_2 rfl (by decide) (by decide) rfl hl.1 ⟨Nat.le_of_ble_eq_true rfl, Nat.le_of_ble_eq_true rfl⟩ ⟨hcs.1, hcs.2⟩ (Nat.le_of_ble_eq_true rfl) dL_law_462 rfl (fun H1 locs1 hP1 hf1 hS1 hz1 => ?_)
  have ha := z_ado_go ha hz1
  clear hP hf hS hM9
  have hP := hP1; have hf := hf1; have hS := hS1; clear hP1 hf1 hS1 hz1
  refine y_topi (v := nI code) k2 ?_
  refine lv_iload hx hb dL_law_465 (lv_at hl 1 rfl) ?_
  refine lv_icmp_eq (tgt := 472) hx hb dL_law_467 (by decide) (fun _ => ?_) (fun h9 => absurd rfl h9)
  refine lv_iload hx hb dL_law_472 (lv_at hl 1 rfl) ?_
  refine lv_if_ne (tgt := 489) hx hb dL_law_474 (by decide) (fun _ => ?_) (fun h0 => ?_)
  · refine lv_goto (tgt := 1477) hx hb dL_law_489 (by decide) ?_
    exact next S2 _ _ _ k4 hP hf hS ha (lv_sub hl [2, 3, 4, 5, 6] rfl)
  · have hc0 := g_nz (Nat.le_trans hc (by decide)) h0
    refine lv_aload_n hx hb dL_law_477 rfl (lv_at hl 3 rfl) ?_
    refine lv_iconst (v := 0) hx hb dL_law_478 (by decide) ?_
    refine va_lald hx hb hK hP 66 3 v_l_at rfl (y_in (k := 0) (by decide) (by decide) (by show 0 < 0 * B + 1; omega)) dL_law_479 ?_
    refine lv_iload hx hb dL_law_480 (lv_at hl 0 rfl) ?_
    refine lv_i2l hx hb dL_law_482 rfl ?_
    refine W.lcmp hx hb dL_law_483 ?_
    refine y_topi (v := 0) (by rw [k5, show lg (Int32.toNatClampNeg 0) = w.toInt64 from hlg hc0, k3 hc0]; exact g_cmp _) ?_
    refine lv_if_eq (tgt := 489) hx hb dL_law_484 (by decide) (fun _ => ?_) (fun h9 => absurd rfl h9)
    refine lv_goto (tgt := 1477) hx hb dL_law_489 (by decide) ?_
    exact next S2 _ _ _ k4 hP hf hS ha (lv_sub hl [2, 3, 4, 5, 6] rfl)
set_option maxRecDepth 100000 in
set_option maxHeartbeats 4000000 in
theorem g_write {p : Program} {l : Launch} {e : Env} {s : State} {m : MethodId} {below : List Frame} {meth : Method} {c : Code} {H : Heap} {locs : List Loc} {cells slots : Nat} {Q : State → Prop} {b L B J i : Nat} {xs : Nat → Int32} {D : va_G} {K : Nat → ClassId} {ad : Nat → Nat} {S : z_S} {ls : Array Slot} (C : g_C l p s m c b L xs D K ad) (hI : q_I B J S) (hi : i + 6 ≤ L) (hP : va_P D vwCl (z_ws B K ad S) H) (hf : z_fit S) (hS : va_S (g_A s) s.heap H locs) (ha : z_ado ad H.size) (hl : lv_has ls 7 (g_lv b ad i)) (hcs : cells + 1 ≤ 601024 ∧ slots + 6 ≤ 7293000) (next : g_nx l p e s m below meth c b B J i D K ad (cells + 1) (slots + 6) Q) : W p l e room_1 s m #[Value.ref b] below meth c H locs cells slots Q (F0 m 492 ls []) := by
  obtain ⟨hx, hb, hml, hown, hts, hK, hX, hbl, hge, hst, hL, hz⟩ := id C
  have hl : lv_has ls 7 [(4, .int (nI i)), (3, .ref (ad 66)), (2, .ref (ad 60)), (1, .ref (ad 0)), (0, .ref b)] := hl
  refine lv_aload_n hx hb dL_law_492 rfl (lv_at hl 3 rfl) ?_
  refine lv_aload_n hx hb dL_law_493 rfl (lv_at hl 4 rfl) ?_
  refine lv_iload hx hb dL_law_494 (lv_at hl 0 rfl) ?_
  refine lv_iconst (v := 1) hx hb dL_law_496 (by decide) ?_
  refine lv_iadd hx hb dL_law_497 ?_
  refine y_topi (v := nI (i + 1)) (nI_add i 1) ?_
  refine g_sc (k := 1) C hS (by omega) dL_law_498 ?_
  refine lv_aload_n hx hb dL_law_499 rfl (lv_at hl 4 rfl) ?_
  refine lv_iload hx hb dL_law_500 (lv_at hl 0 rfl) ?_
  refine lv_iconst (v := 2) hx hb dL_law_502 (by decide) ?_
  refine lv_iadd hx hb dL_law_503 ?_
  refine y_topi (v := nI (i + 2)) (nI_add i 2) ?_
  refine g_sc (k := 2) C hS (by omega) dL_law_504 ?_
  refine lv_aload_n hx hb dL_law_505 rfl (lv_at hl 4 rfl) ?_
  refine lv_iload hx hb dL_law_506 (lv_at hl 0 rfl) ?_
  refine lv_iconst (v := 3) hx hb dL_law_508 (by decide) ?_
  refine lv_iadd hx hb dL_law_509 ?_
  refine y_topi (v := nI (i + 3)) (nI_add i 3) ?_
  refine g_sc (k := 3) C hS (by omega) dL_law_510 ?_
  refine lv_i2l hx hb dL_law_511 rfl ?_
  refine lv_bipush (v := 32) hx hb dL_law_512 (by decide) ?_
  refine lv_lshl hx hb dL_law_514 rfl ?_
  refine lv_aload_n hx hb dL_law_515 rfl (lv_at hl 4 rfl) ?_
  refine lv_iload hx hb dL_law_516 (lv_at hl 0 rfl) ?_
  refine lv_iconst (v := 4) hx hb dL_law_518 (by decide) ?_
  refine lv_iadd hx hb dL_law_519 ?_
  refine y_topi (v := nI (i + 4)) (nI_add i 4) ?_
  refine g_sc (k := 4) C hS (by omega) dL_law_520 ?_
  refine lv_i2l hx hb dL_law_521 rfl ?_
  refine lv_ldc2 hx hb hown (hts _ gw_9) dL_law_522 ?_
  refine lv_land hx hb dL_law_525 ?_
  refine lv_lor hx hb dL_law_526 ?_
  refine y_topl (v := g_lg (xs (i + 3)) (xs (i + 4))) rfl ?_
  refine lv_aload_n hx hb dL_law_527 rfl (lv_at hl 4 rfl) ?_
  refine lv_iload hx hb dL_law_528 (lv_at hl 0 rfl) ?_
  refine lv_iconst (v := 5) hx hb dL_law_530 (by decide) ?_
  refine lv_iadd hx hb dL_law_531 ?_
  refine y_topi (v := nI (i + 5)) (nI_add i 5) ?_
  refine g_sc (k := 5) C hS (by omega) dL_law_532 ?_
  refine lv_aload_n hx hb dL_law_533 rfl (lv_at hl 1 rfl) ?_
  obtain ⟨code, w, S1, hF, hc, hk⟩ := Z_write (p1 := xs (i + 1)) (p2 := xs (i + 2)) (p3 := g_lg (xs (i + 3)) (xs (i + 4))) (p5 := xs (i + 5)) S hI
  refine v_callL (n := 6) (X := J_write) (As := [.ref 0, .int (xs (i + 1)), .int (xs (i + 2)), .long (g_lg (xs (i + 3)) (xs (i + 4))), .int (xs (i + 5)), .ref 66]) (rest := []) (S := S) (S1 := S1) (code := code) (P := fun lg => code = 0 → lg 0 = w.toInt64) (g_F C) (v_write hst hF (by exact hc)) ha (g_preV C hP hf hS) hS (g_in C hS) vc_write.1 vc_write.2.1 vc_write.2.2 gw_10 ⟨by decide, by decide, by decide +kernel⟩ rfl hl.1 ⟨Nat.le_of_ble_eq_true rfl, Nat.le_of_ble_eq_true rfl⟩ hcs (Nat.le_of_ble_eq_true rfl) dL_law_534 rfl (fun lg H1 locs1 hlg hP1 hf1 hS1 hz1 => ?_)
  have ha := z_ado_go ha hz1
  clear hP hf hS
  have hP := hP1; have hf := hf1; have hS := hS1; clear hP1 hf1 hS1 hz1
  obtain ⟨v, S2, k1, k2, k3, k4, k5⟩ := hk lg
  refine lv_istore (lv' := [(5, .int (nI code)), (4, .int (nI i)), (3, .ref (ad 66)), (2, .ref (ad 60)), (1, .ref (ad 0)), (0, .ref b)]) hx hb dL_law_537 hl (by decide) rfl (fun ls hl => ?_)
  refine lv_aload_n hx hb dL_law_539 rfl (lv_at hl 3 rfl) ?_
  refine lv_aload_n hx hb dL_law_540 rfl (lv_at hl 5 rfl) ?_
  refine lv_iload hx hb dL_law_541 (lv_at hl 1 rfl) ?_
  refine lv_iconst (v := 1) hx hb dL_law_543 (by decide) ?_
  refine lv_iadd hx hb dL_law_544 ?_
  refine y_topi (v := nI (i + 1)) (nI_add i 1) ?_
  refine g_sc (k := 1) C hS (by omega) dL_law_545 ?_
  refine lv_aload_n hx hb dL_law_546 rfl (lv_at hl 5 rfl) ?_
  refine lv_iload hx hb dL_law_547 (lv_at hl 1 rfl) ?_
  refine lv_iconst (v := 2) hx hb dL_law_549 (by decide) ?_
  refine lv_iadd hx hb dL_law_550 ?_
  refine y_topi (v := nI (i + 2)) (nI_add i 2) ?_
  refine g_sc (k := 2) C hS (by omega) dL_law_551 ?_
  refine lv_aload_n hx hb dL_law_552 rfl (lv_at hl 5 rfl) ?_
  refine lv_iload hx hb dL_law_553 (lv_at hl 1 rfl) ?_
  refine lv_iconst (v := 3) hx hb dL_law_555 (by decide) ?_
  refine lv_iadd hx hb dL_law_556 ?_
  refine y_topi (v := nI (i + 3)) (nI_add i 3) ?_
  refine g_sc (k := 3) C hS (by omega) dL_law_557 ?_
  refine lv_i2l hx hb dL_law_558 rfl ?_
  refine lv_bipush (v := 32) hx hb dL_law_559 (by decide) ?_
  refine lv_lshl hx hb dL_law_561 rfl ?_
  refine lv_aload_n hx hb dL_law_562 rfl (lv_at hl 5 rfl) ?_
  refine lv_iload hx hb dL_law_563 (lv_at hl 1 rfl) ?_
  refine lv_iconst (v := 4) hx hb dL_law_565 (by decide) ?_
  refine lv_iadd hx hb dL_law_566 ?_
  refine y_topi (v := nI (i + 4)) (nI_add i 4) ?_
  refine g_sc (k := 4) C hS (by omega) dL_law_567 ?_
  refine lv_i2l hx hb dL_law_568 rfl ?_
  refine lv_ldc2 hx hb hown (hts _ gw_9) dL_law_569 ?_
  refine lv_land hx hb dL_law_572 ?_
  refine lv_lor hx hb dL_law_573 ?_
  refine y_topl (v := g_lg (xs (i + 3)) (xs (i + 4))) rfl ?_
  refine lv_aload_n hx hb dL_law_574 rfl (lv_at hl 5 rfl) ?_
  refine lv_iload hx hb dL_law_575 (lv_at hl 1 rfl) ?_
  refine lv_iconst (v := 5) hx hb dL_law_577 (by decide) ?_
  refine lv_iadd hx hb dL_law_578 ?_
  refine y_topi (v := nI (i + 5)) (nI_add i 5) ?_
  refine g_sc (k := 5) C hS (by omega) dL_law_579 ?_
  have hM9 := c_X6_write hst k1
  refine v_callR (Y := I_X6_write) (As := [.int (xs (i + 1)), .int (xs (i + 2)), .long (g_lg (xs (i + 3)) (xs (i + 4))), .int (xs (i + 5))]) (rest := []) (ci := 6) (T := TX6) (N := 15) (S := q_ul S1 lg) (S1 := S2) (a := 60) (r := some v) (g_F C) (hM9) ha hK hP (g_pre C hP hf hS) hS (g_in C hS) ok_X6_write gw_11 rfl (by decide) (by decide) rfl hl.1 ⟨Nat.le_of_ble_eq_true rfl, Nat.le_of_ble_eq_true rfl⟩ ⟨hcs.1, hcs.2⟩ (Nat.le_of_ble_eq_true rfl) dL_law_580 rfl (fun H1 locs1 hP1 hf1 hS1 hz1 => ?_)
  have ha := z_ado_go ha hz1
  clear hP hf hS hM9
  have hP := hP1; have hf := hf1; have hS := hS1; clear hP1 hf1 hS1 hz1
  refine lv_istore (lv' := [(6, .int v), (5, .int (nI code)), (4, .int (nI i)), (3, .ref (ad 66)), (2, .ref (ad 60)), (1, .ref (ad 0)), (0, .ref b)]) hx hb dL_law_583 hl (by decide) rfl (fun ls hl => ?_)
  refine lv_aload_n hx hb dL_law_585 rfl (lv_at hl 4 rfl) ?_
  have hM9 := c_X6_thrown hst (g_thr (B := B) (S := S2))
  refine v_callR (Y := I_X6_thrown) (As := []) (rest := []) (ci := 6) (T := TX6) (N := 15) (S := S2) (S1 := S2) (a := 60) (r := some (S2.2.1 60 0)) (g_F C) (hM9) ha hK hP (g_pre C hP hf hS) hS (g_in C hS) ok_X6_thrown gw_2 rfl (by decide) (by decide) rfl hl.1 ⟨Nat.le_of_ble_eq_true rfl, Nat.le_of_ble_eq_true rfl⟩ ⟨hcs.1, hcs.2⟩ (Nat.le_of_ble_eq_true rfl) dL_law_586 rfl (fun H1 locs1 hP1 hf1 hS1 hz1 => ?_)
  have ha := z_ado_go ha hz1
  clear hP hf hS hM9
  have hP := hP1; have hf := hf1; have hS := hS1; clear hP1 hf1 hS1 hz1
  refine y_topi (v := nI code) k2 ?_
  refine lv_iload hx hb dL_law_589 (lv_at hl 1 rfl) ?_
  refine lv_icmp_eq (tgt := 596) hx hb dL_law_591 (by decide) (fun _ => ?_) (fun h9 => absurd rfl h9)
  refine lv_iload hx hb dL_law_596 (lv_at hl 1 rfl) ?_
  refine lv_if_ne (tgt := 613) hx hb dL_law_598 (by decide) (fun _ => ?_) (fun h0 => ?_)
  · refine lv_goto (tgt := 1477) hx hb dL_law_613 (by decide) ?_
    exact next S2 _ _ _ k4 hP hf hS ha (lv_sub hl [2, 3, 4, 5, 6] rfl)
  · have hc0 := g_nz (Nat.le_trans hc (by decide)) h0
    refine lv_aload_n hx hb dL_law_601 rfl (lv_at hl 3 rfl) ?_
    refine lv_iconst (v := 0) hx hb dL_law_602 (by decide) ?_
    refine va_lald hx hb hK hP 66 3 v_l_at rfl (y_in (k := 0) (by decide) (by decide) (by show 0 < 0 * B + 1; omega)) dL_law_603 ?_
    refine lv_iload hx hb dL_law_604 (lv_at hl 0 rfl) ?_
    refine lv_i2l hx hb dL_law_606 rfl ?_
    refine W.lcmp hx hb dL_law_607 ?_
    refine y_topi (v := 0) (by rw [k5, show lg (Int32.toNatClampNeg 0) = w.toInt64 from hlg hc0, k3 hc0]; exact g_cmp _) ?_
    refine lv_if_eq (tgt := 613) hx hb dL_law_608 (by decide) (fun _ => ?_) (fun h9 => absurd rfl h9)
    refine lv_goto (tgt := 1477) hx hb dL_law_613 (by decide) ?_
    exact next S2 _ _ _ k4 hP hf hS ha (lv_sub hl [2, 3, 4, 5, 6] rfl)
set_option maxRecDepth 100000 in
set_option maxHeartbeats 4000000 in
theorem g_fill {p : Program} {l : Launch} {e : Env} {s : State} {m : MethodId} {below : List Frame} {meth : Method} {c : Code} {H : Heap} {locs : List Loc} {cells slots : Nat} {Q : State → Prop} {b L B J i : Nat} {xs : Nat → Int32} {D : va_G} {K : Nat → ClassId} {ad : Nat → Nat} {S : z_S} {ls : Array Slot} (C : g_C l p s m c b L xs D K ad) (hI : q_I B J S) (hi : i + 6 ≤ L) (hP : va_P D vwCl (z_ws B K ad S) H) (hf : z_fit S) (hS : va_S (g_A s) s.heap H locs) (ha : z_ado ad H.size) (hl : lv_has ls 7 (g_lv b ad i)) (hcs : cells + 1 ≤ 601024 ∧ slots + 6 ≤ 7293000) (next : g_nx l p e s m below meth c b B J i D K ad (cells + 1) (slots + 6) Q) : W p l e room_1 s m #[Value.ref b] below meth c H locs cells slots Q (F0 m 616 ls []) := by
  obtain ⟨hx, hb, hml, hown, hts, hK, hX, hbl, hge, hst, hL, hz⟩ := id C
  have hl : lv_has ls 7 [(4, .int (nI i)), (3, .ref (ad 66)), (2, .ref (ad 60)), (1, .ref (ad 0)), (0, .ref b)] := hl
  refine lv_aload_n hx hb dL_law_616 rfl (lv_at hl 3 rfl) ?_
  refine lv_aload_n hx hb dL_law_617 rfl (lv_at hl 4 rfl) ?_
  refine lv_iload hx hb dL_law_618 (lv_at hl 0 rfl) ?_
  refine lv_iconst (v := 1) hx hb dL_law_620 (by decide) ?_
  refine lv_iadd hx hb dL_law_621 ?_
  refine y_topi (v := nI (i + 1)) (nI_add i 1) ?_
  refine g_sc (k := 1) C hS (by omega) dL_law_622 ?_
  refine lv_aload_n hx hb dL_law_623 rfl (lv_at hl 4 rfl) ?_
  refine lv_iload hx hb dL_law_624 (lv_at hl 0 rfl) ?_
  refine lv_iconst (v := 2) hx hb dL_law_626 (by decide) ?_
  refine lv_iadd hx hb dL_law_627 ?_
  refine y_topi (v := nI (i + 2)) (nI_add i 2) ?_
  refine g_sc (k := 2) C hS (by omega) dL_law_628 ?_
  refine lv_aload_n hx hb dL_law_629 rfl (lv_at hl 4 rfl) ?_
  refine lv_iload hx hb dL_law_630 (lv_at hl 0 rfl) ?_
  refine lv_iconst (v := 3) hx hb dL_law_632 (by decide) ?_
  refine lv_iadd hx hb dL_law_633 ?_
  refine y_topi (v := nI (i + 3)) (nI_add i 3) ?_
  refine g_sc (k := 3) C hS (by omega) dL_law_634 ?_
  refine lv_aload_n hx hb dL_law_635 rfl (lv_at hl 4 rfl) ?_
  refine lv_iload hx hb dL_law_636 (lv_at hl 0 rfl) ?_
  refine lv_iconst (v := 4) hx hb dL_law_638 (by decide) ?_
  refine lv_iadd hx hb dL_law_639 ?_
  refine y_topi (v := nI (i + 4)) (nI_add i 4) ?_
  refine g_sc (k := 4) C hS (by omega) dL_law_640 ?_
  refine lv_aload_n hx hb dL_law_641 rfl (lv_at hl 1 rfl) ?_
  obtain ⟨code, w, S1, hF, hc, hk⟩ := Z_fill (p1 := xs (i + 1)) (p2 := xs (i + 2)) (p3 := xs (i + 3)) (p4 := xs (i + 4)) S hI
  refine v_callL (n := 6) (X := J_fill) (As := [.ref 0, .int (xs (i + 1)), .int (xs (i + 2)), .int (xs (i + 3)), .int (xs (i + 4)), .ref 66]) (rest := []) (S := S) (S1 := S1) (code := code) (P := fun lg => code = 0 → lg 0 = w.toInt64) (g_F C) (v_fill hst hF (by exact hc)) ha (g_preV C hP hf hS) hS (g_in C hS) vc_fill.1 vc_fill.2.1 vc_fill.2.2 gw_12 ⟨by decide, by decide, by decide +kernel⟩ rfl hl.1 ⟨Nat.le_of_ble_eq_true rfl, Nat.le_of_ble_eq_true rfl⟩ hcs (Nat.le_of_ble_eq_true rfl) dL_law_642 rfl (fun lg H1 locs1 hlg hP1 hf1 hS1 hz1 => ?_)
  have ha := z_ado_go ha hz1
  clear hP hf hS
  have hP := hP1; have hf := hf1; have hS := hS1; clear hP1 hf1 hS1 hz1
  obtain ⟨v, S2, k1, k2, k3, k4, k5⟩ := hk lg
  refine lv_istore (lv' := [(5, .int (nI code)), (4, .int (nI i)), (3, .ref (ad 66)), (2, .ref (ad 60)), (1, .ref (ad 0)), (0, .ref b)]) hx hb dL_law_645 hl (by decide) rfl (fun ls hl => ?_)
  refine lv_aload_n hx hb dL_law_647 rfl (lv_at hl 3 rfl) ?_
  refine lv_aload_n hx hb dL_law_648 rfl (lv_at hl 5 rfl) ?_
  refine lv_iload hx hb dL_law_649 (lv_at hl 1 rfl) ?_
  refine lv_iconst (v := 1) hx hb dL_law_651 (by decide) ?_
  refine lv_iadd hx hb dL_law_652 ?_
  refine y_topi (v := nI (i + 1)) (nI_add i 1) ?_
  refine g_sc (k := 1) C hS (by omega) dL_law_653 ?_
  refine lv_aload_n hx hb dL_law_654 rfl (lv_at hl 5 rfl) ?_
  refine lv_iload hx hb dL_law_655 (lv_at hl 1 rfl) ?_
  refine lv_iconst (v := 2) hx hb dL_law_657 (by decide) ?_
  refine lv_iadd hx hb dL_law_658 ?_
  refine y_topi (v := nI (i + 2)) (nI_add i 2) ?_
  refine g_sc (k := 2) C hS (by omega) dL_law_659 ?_
  refine lv_aload_n hx hb dL_law_660 rfl (lv_at hl 5 rfl) ?_
  refine lv_iload hx hb dL_law_661 (lv_at hl 1 rfl) ?_
  refine lv_iconst (v := 3) hx hb dL_law_663 (by decide) ?_
  refine lv_iadd hx hb dL_law_664 ?_
  refine y_topi (v := nI (i + 3)) (nI_add i 3) ?_
  refine g_sc (k := 3) C hS (by omega) dL_law_665 ?_
  refine lv_aload_n hx hb dL_law_666 rfl (lv_at hl 5 rfl) ?_
  refine lv_iload hx hb dL_law_667 (lv_at hl 1 rfl) ?_
  refine lv_iconst (v := 4) hx hb dL_law_669 (by decide) ?_
  refine lv_iadd hx hb dL_law_670 ?_
  refine y_topi (v := nI (i + 4)) (nI_add i 4) ?_
  refine g_sc (k := 4) C hS (by omega) dL_law_671 ?_
  have hM9 := c_X6_fill hst k1
  refine v_callR (Y := I_X6_fill) (As := [.int (xs (i + 1)), .int (xs (i + 2)), .int (xs (i + 3)), .int (xs (i + 4))]) (rest := []) (ci := 6) (T := TX6) (N := 15) (S := q_ul S1 lg) (S1 := S2) (a := 60) (r := some v) (g_F C) (hM9) ha hK hP (g_pre C hP hf hS) hS (g_in C hS) ok_X6_fill gw_13 rfl (by decide) (by decide) rfl hl.1 ⟨Nat.le_of_ble_eq_true rfl, Nat.le_of_ble_eq_true rfl⟩ ⟨hcs.1, hcs.2⟩ (Nat.le_of_ble_eq_true rfl) dL_law_672 rfl (fun H1 locs1 hP1 hf1 hS1 hz1 => ?_)
  have ha := z_ado_go ha hz1
  clear hP hf hS hM9
  have hP := hP1; have hf := hf1; have hS := hS1; clear hP1 hf1 hS1 hz1
  refine lv_istore (lv' := [(6, .int v), (5, .int (nI code)), (4, .int (nI i)), (3, .ref (ad 66)), (2, .ref (ad 60)), (1, .ref (ad 0)), (0, .ref b)]) hx hb dL_law_675 hl (by decide) rfl (fun ls hl => ?_)
  refine lv_aload_n hx hb dL_law_677 rfl (lv_at hl 4 rfl) ?_
  have hM9 := c_X6_thrown hst (g_thr (B := B) (S := S2))
  refine v_callR (Y := I_X6_thrown) (As := []) (rest := []) (ci := 6) (T := TX6) (N := 15) (S := S2) (S1 := S2) (a := 60) (r := some (S2.2.1 60 0)) (g_F C) (hM9) ha hK hP (g_pre C hP hf hS) hS (g_in C hS) ok_X6_thrown gw_2 rfl (by decide) (by decide) rfl hl.1 ⟨Nat.le_of_ble_eq_true rfl, Nat.le_of_ble_eq_true rfl⟩ ⟨hcs.1, hcs.2⟩ (Nat.le_of_ble_eq_true rfl) dL_law_678 rfl (fun H1 locs1 hP1 hf1 hS1 hz1 => ?_)
  have ha := z_ado_go ha hz1
  clear hP hf hS hM9
  have hP := hP1; have hf := hf1; have hS := hS1; clear hP1 hf1 hS1 hz1
  refine y_topi (v := nI code) k2 ?_
  refine lv_iload hx hb dL_law_681 (lv_at hl 1 rfl) ?_
  refine lv_icmp_eq (tgt := 688) hx hb dL_law_683 (by decide) (fun _ => ?_) (fun h9 => absurd rfl h9)
  refine lv_iload hx hb dL_law_688 (lv_at hl 1 rfl) ?_
  refine lv_if_ne (tgt := 705) hx hb dL_law_690 (by decide) (fun _ => ?_) (fun h0 => ?_)
  · refine lv_goto (tgt := 1477) hx hb dL_law_705 (by decide) ?_
    exact next S2 _ _ _ k4 hP hf hS ha (lv_sub hl [2, 3, 4, 5, 6] rfl)
  · have hc0 := g_nz (Nat.le_trans hc (by decide)) h0
    refine lv_aload_n hx hb dL_law_693 rfl (lv_at hl 3 rfl) ?_
    refine lv_iconst (v := 0) hx hb dL_law_694 (by decide) ?_
    refine va_lald hx hb hK hP 66 3 v_l_at rfl (y_in (k := 0) (by decide) (by decide) (by show 0 < 0 * B + 1; omega)) dL_law_695 ?_
    refine lv_iload hx hb dL_law_696 (lv_at hl 0 rfl) ?_
    refine lv_i2l hx hb dL_law_698 rfl ?_
    refine W.lcmp hx hb dL_law_699 ?_
    refine y_topi (v := 0) (by rw [k5, show lg (Int32.toNatClampNeg 0) = w.toInt64 from hlg hc0, k3 hc0]; exact g_cmp _) ?_
    refine lv_if_eq (tgt := 705) hx hb dL_law_700 (by decide) (fun _ => ?_) (fun h9 => absurd rfl h9)
    refine lv_goto (tgt := 1477) hx hb dL_law_705 (by decide) ?_
    exact next S2 _ _ _ k4 hP hf hS ha (lv_sub hl [2, 3, 4, 5, 6] rfl)
set_option maxRecDepth 100000 in
set_option maxHeartbeats 4000000 in
theorem g_cut {p : Program} {l : Launch} {e : Env} {s : State} {m : MethodId} {below : List Frame} {meth : Method} {c : Code} {H : Heap} {locs : List Loc} {cells slots : Nat} {Q : State → Prop} {b L B J i : Nat} {xs : Nat → Int32} {D : va_G} {K : Nat → ClassId} {ad : Nat → Nat} {S : z_S} {ls : Array Slot} (C : g_C l p s m c b L xs D K ad) (hI : q_I B J S) (hi : i + 6 ≤ L) (hP : va_P D vwCl (z_ws B K ad S) H) (hf : z_fit S) (hS : va_S (g_A s) s.heap H locs) (ha : z_ado ad H.size) (hl : lv_has ls 7 (g_lv b ad i)) (hcs : cells + 1 ≤ 601024 ∧ slots + 6 ≤ 7293000) (next : g_nx l p e s m below meth c b B J i D K ad (cells + 1) (slots + 6) Q) : W p l e room_1 s m #[Value.ref b] below meth c H locs cells slots Q (F0 m 708 ls []) := by
  obtain ⟨hx, hb, hml, hown, hts, hK, hX, hbl, hge, hst, hL, hz⟩ := id C
  have hl : lv_has ls 7 [(4, .int (nI i)), (3, .ref (ad 66)), (2, .ref (ad 60)), (1, .ref (ad 0)), (0, .ref b)] := hl
  refine lv_aload_n hx hb dL_law_708 rfl (lv_at hl 3 rfl) ?_
  refine lv_aload_n hx hb dL_law_709 rfl (lv_at hl 4 rfl) ?_
  refine lv_iload hx hb dL_law_710 (lv_at hl 0 rfl) ?_
  refine lv_iconst (v := 1) hx hb dL_law_712 (by decide) ?_
  refine lv_iadd hx hb dL_law_713 ?_
  refine y_topi (v := nI (i + 1)) (nI_add i 1) ?_
  refine g_sc (k := 1) C hS (by omega) dL_law_714 ?_
  refine lv_aload_n hx hb dL_law_715 rfl (lv_at hl 4 rfl) ?_
  refine lv_iload hx hb dL_law_716 (lv_at hl 0 rfl) ?_
  refine lv_iconst (v := 2) hx hb dL_law_718 (by decide) ?_
  refine lv_iadd hx hb dL_law_719 ?_
  refine y_topi (v := nI (i + 2)) (nI_add i 2) ?_
  refine g_sc (k := 2) C hS (by omega) dL_law_720 ?_
  refine lv_aload_n hx hb dL_law_721 rfl (lv_at hl 1 rfl) ?_
  obtain ⟨code, w, S1, hF, hc, hk⟩ := Z_cut (p1 := xs (i + 1)) (p2 := xs (i + 2)) S hI
  refine v_callL (n := 4) (X := J_cut) (As := [.ref 0, .int (xs (i + 1)), .int (xs (i + 2)), .ref 66]) (rest := []) (S := S) (S1 := S1) (code := code) (P := fun lg => code = 0 → lg 0 = w.toInt64) (g_F C) (v_cut hst hF (by exact hc)) ha (g_preV C hP hf hS) hS (g_in C hS) vc_cut.1 vc_cut.2.1 vc_cut.2.2 gw_14 ⟨by decide, by decide, by decide +kernel⟩ rfl hl.1 ⟨Nat.le_of_ble_eq_true rfl, Nat.le_of_ble_eq_true rfl⟩ hcs (Nat.le_of_ble_eq_true rfl) dL_law_722 rfl (fun lg H1 locs1 hlg hP1 hf1 hS1 hz1 => ?_)
  have ha := z_ado_go ha hz1
  clear hP hf hS
  have hP := hP1; have hf := hf1; have hS := hS1; clear hP1 hf1 hS1 hz1
  obtain ⟨v, S2, k1, k2, k3, k4, k5⟩ := hk lg
  refine lv_istore (lv' := [(5, .int (nI code)), (4, .int (nI i)), (3, .ref (ad 66)), (2, .ref (ad 60)), (1, .ref (ad 0)), (0, .ref b)]) hx hb dL_law_725 hl (by decide) rfl (fun ls hl => ?_)
  refine lv_aload_n hx hb dL_law_727 rfl (lv_at hl 3 rfl) ?_
  refine lv_aload_n hx hb dL_law_728 rfl (lv_at hl 5 rfl) ?_
  refine lv_iload hx hb dL_law_729 (lv_at hl 1 rfl) ?_
  refine lv_iconst (v := 1) hx hb dL_law_731 (by decide) ?_
  refine lv_iadd hx hb dL_law_732 ?_
  refine y_topi (v := nI (i + 1)) (nI_add i 1) ?_
  refine g_sc (k := 1) C hS (by omega) dL_law_733 ?_
  refine lv_aload_n hx hb dL_law_734 rfl (lv_at hl 5 rfl) ?_
  refine lv_iload hx hb dL_law_735 (lv_at hl 1 rfl) ?_
  refine lv_iconst (v := 2) hx hb dL_law_737 (by decide) ?_
  refine lv_iadd hx hb dL_law_738 ?_
  refine y_topi (v := nI (i + 2)) (nI_add i 2) ?_
  refine g_sc (k := 2) C hS (by omega) dL_law_739 ?_
  have hM9 := c_X6_cut hst k1
  refine v_callR (Y := I_X6_cut) (As := [.int (xs (i + 1)), .int (xs (i + 2))]) (rest := []) (ci := 6) (T := TX6) (N := 15) (S := q_ul S1 lg) (S1 := S2) (a := 60) (r := some v) (g_F C) (hM9) ha hK hP (g_pre C hP hf hS) hS (g_in C hS) ok_X6_cut gw_15 rfl (by decide) (by decide) rfl hl.1 ⟨Nat.le_of_ble_eq_true rfl, Nat.le_of_ble_eq_true rfl⟩ ⟨hcs.1, hcs.2⟩ (Nat.le_of_ble_eq_true rfl) dL_law_740 rfl (fun H1 locs1 hP1 hf1 hS1 hz1 => ?_)
  have ha := z_ado_go ha hz1
  clear hP hf hS hM9
  have hP := hP1; have hf := hf1; have hS := hS1; clear hP1 hf1 hS1 hz1
  refine lv_istore (lv' := [(6, .int v), (5, .int (nI code)), (4, .int (nI i)), (3, .ref (ad 66)), (2, .ref (ad 60)), (1, .ref (ad 0)), (0, .ref b)]) hx hb dL_law_743 hl (by decide) rfl (fun ls hl => ?_)
  refine lv_aload_n hx hb dL_law_745 rfl (lv_at hl 4 rfl) ?_
  have hM9 := c_X6_thrown hst (g_thr (B := B) (S := S2))
  refine v_callR (Y := I_X6_thrown) (As := []) (rest := []) (ci := 6) (T := TX6) (N := 15) (S := S2) (S1 := S2) (a := 60) (r := some (S2.2.1 60 0)) (g_F C) (hM9) ha hK hP (g_pre C hP hf hS) hS (g_in C hS) ok_X6_thrown gw_2 rfl (by decide) (by decide) rfl hl.1 ⟨Nat.le_of_ble_eq_true rfl, Nat.le_of_ble_eq_true rfl⟩ ⟨hcs.1, hcs.2⟩ (Nat.le_of_ble_eq_true rfl) dL_law_746 rfl (fun H1 locs1 hP1 hf1 hS1 hz1 => ?_)
  have ha := z_ado_go ha hz1
  clear hP hf hS hM9
  have hP := hP1; have hf := hf1; have hS := hS1; clear hP1 hf1 hS1 hz1
  refine y_topi (v := nI code) k2 ?_
  refine lv_iload hx hb dL_law_749 (lv_at hl 1 rfl) ?_
  refine lv_icmp_eq (tgt := 756) hx hb dL_law_751 (by decide) (fun _ => ?_) (fun h9 => absurd rfl h9)
  refine lv_iload hx hb dL_law_756 (lv_at hl 1 rfl) ?_
  refine lv_if_ne (tgt := 773) hx hb dL_law_758 (by decide) (fun _ => ?_) (fun h0 => ?_)
  · refine lv_goto (tgt := 1477) hx hb dL_law_773 (by decide) ?_
    exact next S2 _ _ _ k4 hP hf hS ha (lv_sub hl [2, 3, 4, 5, 6] rfl)
  · have hc0 := g_nz (Nat.le_trans hc (by decide)) h0
    refine lv_aload_n hx hb dL_law_761 rfl (lv_at hl 3 rfl) ?_
    refine lv_iconst (v := 0) hx hb dL_law_762 (by decide) ?_
    refine va_lald hx hb hK hP 66 3 v_l_at rfl (y_in (k := 0) (by decide) (by decide) (by show 0 < 0 * B + 1; omega)) dL_law_763 ?_
    refine lv_iload hx hb dL_law_764 (lv_at hl 0 rfl) ?_
    refine lv_i2l hx hb dL_law_766 rfl ?_
    refine W.lcmp hx hb dL_law_767 ?_
    refine y_topi (v := 0) (by rw [k5, show lg (Int32.toNatClampNeg 0) = w.toInt64 from hlg hc0, k3 hc0]; exact g_cmp _) ?_
    refine lv_if_eq (tgt := 773) hx hb dL_law_768 (by decide) (fun _ => ?_) (fun h9 => absurd rfl h9)
    refine lv_goto (tgt := 1477) hx hb dL_law_773 (by decide) ?_
    exact next S2 _ _ _ k4 hP hf hS ha (lv_sub hl [2, 3, 4, 5, 6] rfl)
set_option maxRecDepth 100000 in
set_option maxHeartbeats 4000000 in
theorem g_read {p : Program} {l : Launch} {e : Env} {s : State} {m : MethodId} {below : List Frame} {meth : Method} {c : Code} {H : Heap} {locs : List Loc} {cells slots : Nat} {Q : State → Prop} {b L B J i : Nat} {xs : Nat → Int32} {D : va_G} {K : Nat → ClassId} {ad : Nat → Nat} {S : z_S} {ls : Array Slot} (C : g_C l p s m c b L xs D K ad) (hI : q_I B J S) (hi : i + 6 ≤ L) (hP : va_P D vwCl (z_ws B K ad S) H) (hf : z_fit S) (hS : va_S (g_A s) s.heap H locs) (ha : z_ado ad H.size) (hl : lv_has ls 7 (g_lv b ad i)) (hcs : cells + 1 ≤ 601024 ∧ slots + 6 ≤ 7293000) (next : g_nx l p e s m below meth c b B J i D K ad (cells + 1) (slots + 6) Q) : W p l e room_1 s m #[Value.ref b] below meth c H locs cells slots Q (F0 m 776 ls []) := by
  obtain ⟨hx, hb, hml, hown, hts, hK, hX, hbl, hge, hst, hL, hz⟩ := id C
  have hl : lv_has ls 7 [(4, .int (nI i)), (3, .ref (ad 66)), (2, .ref (ad 60)), (1, .ref (ad 0)), (0, .ref b)] := hl
  refine lv_aload_n hx hb dL_law_776 rfl (lv_at hl 3 rfl) ?_
  refine lv_aload_n hx hb dL_law_777 rfl (lv_at hl 4 rfl) ?_
  refine lv_iload hx hb dL_law_778 (lv_at hl 0 rfl) ?_
  refine lv_iconst (v := 1) hx hb dL_law_780 (by decide) ?_
  refine lv_iadd hx hb dL_law_781 ?_
  refine y_topi (v := nI (i + 1)) (nI_add i 1) ?_
  refine g_sc (k := 1) C hS (by omega) dL_law_782 ?_
  refine lv_aload_n hx hb dL_law_783 rfl (lv_at hl 4 rfl) ?_
  refine lv_iload hx hb dL_law_784 (lv_at hl 0 rfl) ?_
  refine lv_iconst (v := 2) hx hb dL_law_786 (by decide) ?_
  refine lv_iadd hx hb dL_law_787 ?_
  refine y_topi (v := nI (i + 2)) (nI_add i 2) ?_
  refine g_sc (k := 2) C hS (by omega) dL_law_788 ?_
  refine lv_aload_n hx hb dL_law_789 rfl (lv_at hl 1 rfl) ?_
  obtain ⟨code, w, S1, hF, hc, hk⟩ := Z_read (p1 := xs (i + 1)) (p2 := xs (i + 2)) S hI
  refine v_callL (n := 4) (X := J_read) (As := [.ref 0, .int (xs (i + 1)), .int (xs (i + 2)), .ref 66]) (rest := []) (S := S) (S1 := S1) (code := code) (P := fun lg => code = 0 → lg 0 = w.toInt64) (g_F C) (v_read hst hF (by exact hc)) ha (g_preV C hP hf hS) hS (g_in C hS) vc_read.1 vc_read.2.1 vc_read.2.2 gw_16 ⟨by decide, by decide, by decide +kernel⟩ rfl hl.1 ⟨Nat.le_of_ble_eq_true rfl, Nat.le_of_ble_eq_true rfl⟩ hcs (Nat.le_of_ble_eq_true rfl) dL_law_790 rfl (fun lg H1 locs1 hlg hP1 hf1 hS1 hz1 => ?_)
  have ha := z_ado_go ha hz1
  clear hP hf hS
  have hP := hP1; have hf := hf1; have hS := hS1; clear hP1 hf1 hS1 hz1
  obtain ⟨v, S2, k1, k2, k3, k4, k5⟩ := hk lg
  refine lv_istore (lv' := [(5, .int (nI code)), (4, .int (nI i)), (3, .ref (ad 66)), (2, .ref (ad 60)), (1, .ref (ad 0)), (0, .ref b)]) hx hb dL_law_793 hl (by decide) rfl (fun ls hl => ?_)
  refine lv_aload_n hx hb dL_law_795 rfl (lv_at hl 3 rfl) ?_
  refine lv_aload_n hx hb dL_law_796 rfl (lv_at hl 5 rfl) ?_
  refine lv_iload hx hb dL_law_797 (lv_at hl 1 rfl) ?_
  refine lv_iconst (v := 1) hx hb dL_law_799 (by decide) ?_
  refine lv_iadd hx hb dL_law_800 ?_
  refine y_topi (v := nI (i + 1)) (nI_add i 1) ?_
  refine g_sc (k := 1) C hS (by omega) dL_law_801 ?_
  refine lv_aload_n hx hb dL_law_802 rfl (lv_at hl 5 rfl) ?_
  refine lv_iload hx hb dL_law_803 (lv_at hl 1 rfl) ?_
  refine lv_iconst (v := 2) hx hb dL_law_805 (by decide) ?_
  refine lv_iadd hx hb dL_law_806 ?_
  refine y_topi (v := nI (i + 2)) (nI_add i 2) ?_
  refine g_sc (k := 2) C hS (by omega) dL_law_807 ?_
  have hM9 := c_X6_read hst k1
  refine v_callR (Y := I_X6_read) (As := [.int (xs (i + 1)), .int (xs (i + 2))]) (rest := []) (ci := 6) (T := TX6) (N := 15) (S := q_ul S1 lg) (S1 := S2) (a := 60) (r := some v) (g_F C) (hM9) ha hK hP (g_pre C hP hf hS) hS (g_in C hS) ok_X6_read gw_17 rfl (by decide) (by decide) rfl hl.1 ⟨Nat.le_of_ble_eq_true rfl, Nat.le_of_ble_eq_true rfl⟩ ⟨hcs.1, hcs.2⟩ (Nat.le_of_ble_eq_true rfl) dL_law_808 rfl (fun H1 locs1 hP1 hf1 hS1 hz1 => ?_)
  have ha := z_ado_go ha hz1
  clear hP hf hS hM9
  have hP := hP1; have hf := hf1; have hS := hS1; clear hP1 hf1 hS1 hz1
  refine lv_istore (lv' := [(6, .int v), (5, .int (nI code)), (4, .int (nI i)), (3, .ref (ad 66)), (2, .ref (ad 60)), (1, .ref (ad 0)), (0, .ref b)]) hx hb dL_law_811 hl (by decide) rfl (fun ls hl => ?_)
  refine lv_aload_n hx hb dL_law_813 rfl (lv_at hl 4 rfl) ?_
  have hM9 := c_X6_thrown hst (g_thr (B := B) (S := S2))
  refine v_callR (Y := I_X6_thrown) (As := []) (rest := []) (ci := 6) (T := TX6) (N := 15) (S := S2) (S1 := S2) (a := 60) (r := some (S2.2.1 60 0)) (g_F C) (hM9) ha hK hP (g_pre C hP hf hS) hS (g_in C hS) ok_X6_thrown gw_2 rfl (by decide) (by decide) rfl hl.1 ⟨Nat.le_of_ble_eq_true rfl, Nat.le_of_ble_eq_true rfl⟩ ⟨hcs.1, hcs.2⟩ (Nat.le_of_ble_eq_true rfl) dL_law_814 rfl (fun H1 locs1 hP1 hf1 hS1 hz1 => ?_)
  have ha := z_ado_go ha hz1
  clear hP hf hS hM9
  have hP := hP1; have hf := hf1; have hS := hS1; clear hP1 hf1 hS1 hz1
  refine y_topi (v := nI code) k2 ?_
  refine lv_iload hx hb dL_law_817 (lv_at hl 1 rfl) ?_
  refine lv_icmp_eq (tgt := 824) hx hb dL_law_819 (by decide) (fun _ => ?_) (fun h9 => absurd rfl h9)
  refine lv_iload hx hb dL_law_824 (lv_at hl 1 rfl) ?_
  refine lv_if_ne (tgt := 841) hx hb dL_law_826 (by decide) (fun _ => ?_) (fun h0 => ?_)
  · refine lv_goto (tgt := 1477) hx hb dL_law_841 (by decide) ?_
    exact next S2 _ _ _ k4 hP hf hS ha (lv_sub hl [2, 3, 4, 5, 6] rfl)
  · have hc0 := g_nz (Nat.le_trans hc (by decide)) h0
    refine lv_aload_n hx hb dL_law_829 rfl (lv_at hl 3 rfl) ?_
    refine lv_iconst (v := 0) hx hb dL_law_830 (by decide) ?_
    refine va_lald hx hb hK hP 66 3 v_l_at rfl (y_in (k := 0) (by decide) (by decide) (by show 0 < 0 * B + 1; omega)) dL_law_831 ?_
    refine lv_iload hx hb dL_law_832 (lv_at hl 0 rfl) ?_
    refine lv_i2l hx hb dL_law_834 rfl ?_
    refine W.lcmp hx hb dL_law_835 ?_
    refine y_topi (v := 0) (by rw [k5, show lg (Int32.toNatClampNeg 0) = w.toInt64 from hlg hc0, k3 hc0]; exact g_cmp _) ?_
    refine lv_if_eq (tgt := 841) hx hb dL_law_836 (by decide) (fun _ => ?_) (fun h9 => absurd rfl h9)
    refine lv_goto (tgt := 1477) hx hb dL_law_841 (by decide) ?_
    exact next S2 _ _ _ k4 hP hf hS ha (lv_sub hl [2, 3, 4, 5, 6] rfl)
set_option maxRecDepth 100000 in
set_option maxHeartbeats 4000000 in
theorem g_look {p : Program} {l : Launch} {e : Env} {s : State} {m : MethodId} {below : List Frame} {meth : Method} {c : Code} {H : Heap} {locs : List Loc} {cells slots : Nat} {Q : State → Prop} {b L B J i : Nat} {xs : Nat → Int32} {D : va_G} {K : Nat → ClassId} {ad : Nat → Nat} {S : z_S} {ls : Array Slot} (C : g_C l p s m c b L xs D K ad) (hI : q_I B J S) (hi : i + 6 ≤ L) (hP : va_P D vwCl (z_ws B K ad S) H) (hf : z_fit S) (hS : va_S (g_A s) s.heap H locs) (ha : z_ado ad H.size) (hl : lv_has ls 7 (g_lv b ad i)) (hcs : cells + 1 ≤ 601024 ∧ slots + 6 ≤ 7293000) (next : g_nx l p e s m below meth c b B J i D K ad (cells + 1) (slots + 6) Q) : W p l e room_1 s m #[Value.ref b] below meth c H locs cells slots Q (F0 m 844 ls []) := by
  obtain ⟨hx, hb, hml, hown, hts, hK, hX, hbl, hge, hst, hL, hz⟩ := id C
  have hl : lv_has ls 7 [(4, .int (nI i)), (3, .ref (ad 66)), (2, .ref (ad 60)), (1, .ref (ad 0)), (0, .ref b)] := hl
  refine lv_aload_n hx hb dL_law_844 rfl (lv_at hl 3 rfl) ?_
  refine lv_aload_n hx hb dL_law_845 rfl (lv_at hl 4 rfl) ?_
  refine lv_iload hx hb dL_law_846 (lv_at hl 0 rfl) ?_
  refine lv_iconst (v := 1) hx hb dL_law_848 (by decide) ?_
  refine lv_iadd hx hb dL_law_849 ?_
  refine y_topi (v := nI (i + 1)) (nI_add i 1) ?_
  refine g_sc (k := 1) C hS (by omega) dL_law_850 ?_
  refine lv_aload_n hx hb dL_law_851 rfl (lv_at hl 4 rfl) ?_
  refine lv_iload hx hb dL_law_852 (lv_at hl 0 rfl) ?_
  refine lv_iconst (v := 2) hx hb dL_law_854 (by decide) ?_
  refine lv_iadd hx hb dL_law_855 ?_
  refine y_topi (v := nI (i + 2)) (nI_add i 2) ?_
  refine g_sc (k := 2) C hS (by omega) dL_law_856 ?_
  refine lv_aload_n hx hb dL_law_857 rfl (lv_at hl 1 rfl) ?_
  obtain ⟨code, w, S1, hF, hc, hk⟩ := Z_look (p1 := xs (i + 1)) (p2 := xs (i + 2)) S hI
  refine v_callL (n := 4) (X := J_look) (As := [.ref 0, .int (xs (i + 1)), .int (xs (i + 2)), .ref 66]) (rest := []) (S := S) (S1 := S1) (code := code) (P := fun lg => code = 0 → lg 0 = w.toInt64) (g_F C) (v_look hst hF (by exact hc)) ha (g_preV C hP hf hS) hS (g_in C hS) vc_look.1 vc_look.2.1 vc_look.2.2 gw_18 ⟨by decide, by decide, by decide +kernel⟩ rfl hl.1 ⟨Nat.le_of_ble_eq_true rfl, Nat.le_of_ble_eq_true rfl⟩ hcs (Nat.le_of_ble_eq_true rfl) dL_law_858 rfl (fun lg H1 locs1 hlg hP1 hf1 hS1 hz1 => ?_)
  have ha := z_ado_go ha hz1
  clear hP hf hS
  have hP := hP1; have hf := hf1; have hS := hS1; clear hP1 hf1 hS1 hz1
  obtain ⟨v, S2, k1, k2, k3, k4, k5⟩ := hk lg
  refine lv_istore (lv' := [(5, .int (nI code)), (4, .int (nI i)), (3, .ref (ad 66)), (2, .ref (ad 60)), (1, .ref (ad 0)), (0, .ref b)]) hx hb dL_law_861 hl (by decide) rfl (fun ls hl => ?_)
  refine lv_aload_n hx hb dL_law_863 rfl (lv_at hl 3 rfl) ?_
  refine lv_aload_n hx hb dL_law_864 rfl (lv_at hl 5 rfl) ?_
  refine lv_iload hx hb dL_law_865 (lv_at hl 1 rfl) ?_
  refine lv_iconst (v := 1) hx hb dL_law_867 (by decide) ?_
  refine lv_iadd hx hb dL_law_868 ?_
  refine y_topi (v := nI (i + 1)) (nI_add i 1) ?_
  refine g_sc (k := 1) C hS (by omega) dL_law_869 ?_
  refine lv_aload_n hx hb dL_law_870 rfl (lv_at hl 5 rfl) ?_
  refine lv_iload hx hb dL_law_871 (lv_at hl 1 rfl) ?_
  refine lv_iconst (v := 2) hx hb dL_law_873 (by decide) ?_
  refine lv_iadd hx hb dL_law_874 ?_
  refine y_topi (v := nI (i + 2)) (nI_add i 2) ?_
  refine g_sc (k := 2) C hS (by omega) dL_law_875 ?_
  have hM9 := c_X6_look hst k1
  refine v_callR (Y := I_X6_look) (As := [.int (xs (i + 1)), .int (xs (i + 2))]) (rest := []) (ci := 6) (T := TX6) (N := 15) (S := q_ul S1 lg) (S1 := S2) (a := 60) (r := some v) (g_F C) (hM9) ha hK hP (g_pre C hP hf hS) hS (g_in C hS) ok_X6_look gw_19 rfl (by decide) (by decide) rfl hl.1 ⟨Nat.le_of_ble_eq_true rfl, Nat.le_of_ble_eq_true rfl⟩ ⟨hcs.1, hcs.2⟩ (Nat.le_of_ble_eq_true rfl) dL_law_876 rfl (fun H1 locs1 hP1 hf1 hS1 hz1 => ?_)
  have ha := z_ado_go ha hz1
  clear hP hf hS hM9
  have hP := hP1; have hf := hf1; have hS := hS1; clear hP1 hf1 hS1 hz1
  refine lv_istore (lv' := [(6, .int v), (5, .int (nI code)), (4, .int (nI i)), (3, .ref (ad 66)), (2, .ref (ad 60)), (1, .ref (ad 0)), (0, .ref b)]) hx hb dL_law_879 hl (by decide) rfl (fun ls hl => ?_)
  refine lv_aload_n hx hb dL_law_881 rfl (lv_at hl 4 rfl) ?_
  have hM9 := c_X6_thrown hst (g_thr (B := B) (S := S2))
  refine v_callR (Y := I_X6_thrown) (As := []) (rest := []) (ci := 6) (T := TX6) (N := 15) (S := S2) (S1 := S2) (a := 60) (r := some (S2.2.1 60 0)) (g_F C) (hM9) ha hK hP (g_pre C hP hf hS) hS (g_in C hS) ok_X6_thrown gw_2 rfl (by decide) (by decide) rfl hl.1 ⟨Nat.le_of_ble_eq_true rfl, Nat.le_of_ble_eq_true rfl⟩ ⟨hcs.1, hcs.2⟩ (Nat.le_of_ble_eq_true rfl) dL_law_882 rfl (fun H1 locs1 hP1 hf1 hS1 hz1 => ?_)
  have ha := z_ado_go ha hz1
  clear hP hf hS hM9
  have hP := hP1; have hf := hf1; have hS := hS1; clear hP1 hf1 hS1 hz1
  refine y_topi (v := nI code) k2 ?_
  refine lv_iload hx hb dL_law_885 (lv_at hl 1 rfl) ?_
  refine lv_icmp_eq (tgt := 892) hx hb dL_law_887 (by decide) (fun _ => ?_) (fun h9 => absurd rfl h9)
  refine lv_iload hx hb dL_law_892 (lv_at hl 1 rfl) ?_
  refine lv_if_ne (tgt := 909) hx hb dL_law_894 (by decide) (fun _ => ?_) (fun h0 => ?_)
  · refine lv_goto (tgt := 1477) hx hb dL_law_909 (by decide) ?_
    exact next S2 _ _ _ k4 hP hf hS ha (lv_sub hl [2, 3, 4, 5, 6] rfl)
  · have hc0 := g_nz (Nat.le_trans hc (by decide)) h0
    refine lv_aload_n hx hb dL_law_897 rfl (lv_at hl 3 rfl) ?_
    refine lv_iconst (v := 0) hx hb dL_law_898 (by decide) ?_
    refine va_lald hx hb hK hP 66 3 v_l_at rfl (y_in (k := 0) (by decide) (by decide) (by show 0 < 0 * B + 1; omega)) dL_law_899 ?_
    refine lv_iload hx hb dL_law_900 (lv_at hl 0 rfl) ?_
    refine lv_i2l hx hb dL_law_902 rfl ?_
    refine W.lcmp hx hb dL_law_903 ?_
    refine y_topi (v := 0) (by rw [k5, show lg (Int32.toNatClampNeg 0) = w.toInt64 from hlg hc0, k3 hc0]; exact g_cmp _) ?_
    refine lv_if_eq (tgt := 909) hx hb dL_law_904 (by decide) (fun _ => ?_) (fun h9 => absurd rfl h9)
    refine lv_goto (tgt := 1477) hx hb dL_law_909 (by decide) ?_
    exact next S2 _ _ _ k4 hP hf hS ha (lv_sub hl [2, 3, 4, 5, 6] rfl)
set_option maxRecDepth 100000 in
set_option maxHeartbeats 4000000 in
theorem g_name {p : Program} {l : Launch} {e : Env} {s : State} {m : MethodId} {below : List Frame} {meth : Method} {c : Code} {H : Heap} {locs : List Loc} {cells slots : Nat} {Q : State → Prop} {b L B J i : Nat} {xs : Nat → Int32} {D : va_G} {K : Nat → ClassId} {ad : Nat → Nat} {S : z_S} {ls : Array Slot} (C : g_C l p s m c b L xs D K ad) (hI : q_I B J S) (hi : i + 6 ≤ L) (hP : va_P D vwCl (z_ws B K ad S) H) (hf : z_fit S) (hS : va_S (g_A s) s.heap H locs) (ha : z_ado ad H.size) (hl : lv_has ls 7 (g_lv b ad i)) (hcs : cells + 1 ≤ 601024 ∧ slots + 6 ≤ 7293000) (next : g_nx l p e s m below meth c b B J i D K ad (cells + 1) (slots + 6) Q) : W p l e room_1 s m #[Value.ref b] below meth c H locs cells slots Q (F0 m 912 ls []) := by
  obtain ⟨hx, hb, hml, hown, hts, hK, hX, hbl, hge, hst, hL, hz⟩ := id C
  have hl : lv_has ls 7 [(4, .int (nI i)), (3, .ref (ad 66)), (2, .ref (ad 60)), (1, .ref (ad 0)), (0, .ref b)] := hl
  refine lv_aload_n hx hb dL_law_912 rfl (lv_at hl 3 rfl) ?_
  refine lv_aload_n hx hb dL_law_913 rfl (lv_at hl 4 rfl) ?_
  refine lv_iload hx hb dL_law_914 (lv_at hl 0 rfl) ?_
  refine lv_iconst (v := 1) hx hb dL_law_916 (by decide) ?_
  refine lv_iadd hx hb dL_law_917 ?_
  refine y_topi (v := nI (i + 1)) (nI_add i 1) ?_
  refine g_sc (k := 1) C hS (by omega) dL_law_918 ?_
  refine lv_aload_n hx hb dL_law_919 rfl (lv_at hl 4 rfl) ?_
  refine lv_iload hx hb dL_law_920 (lv_at hl 0 rfl) ?_
  refine lv_iconst (v := 2) hx hb dL_law_922 (by decide) ?_
  refine lv_iadd hx hb dL_law_923 ?_
  refine y_topi (v := nI (i + 2)) (nI_add i 2) ?_
  refine g_sc (k := 2) C hS (by omega) dL_law_924 ?_
  refine lv_aload_n hx hb dL_law_925 rfl (lv_at hl 1 rfl) ?_
  obtain ⟨code, w, S1, hF, hc, hk⟩ := Z_name (p1 := xs (i + 1)) (p2 := xs (i + 2)) S hI
  refine v_callL (n := 4) (X := J_name) (As := [.ref 0, .int (xs (i + 1)), .int (xs (i + 2)), .ref 66]) (rest := []) (S := S) (S1 := S1) (code := code) (P := fun lg => code = 0 → lg 0 = w.toInt64) (g_F C) (v_name hst hF (by exact hc)) ha (g_preV C hP hf hS) hS (g_in C hS) vc_name.1 vc_name.2.1 vc_name.2.2 gw_20 ⟨by decide, by decide, by decide +kernel⟩ rfl hl.1 ⟨Nat.le_of_ble_eq_true rfl, Nat.le_of_ble_eq_true rfl⟩ hcs (Nat.le_of_ble_eq_true rfl) dL_law_926 rfl (fun lg H1 locs1 hlg hP1 hf1 hS1 hz1 => ?_)
  have ha := z_ado_go ha hz1
  clear hP hf hS
  have hP := hP1; have hf := hf1; have hS := hS1; clear hP1 hf1 hS1 hz1
  obtain ⟨v, S2, k1, k2, k3, k4, k5⟩ := hk lg
  refine lv_istore (lv' := [(5, .int (nI code)), (4, .int (nI i)), (3, .ref (ad 66)), (2, .ref (ad 60)), (1, .ref (ad 0)), (0, .ref b)]) hx hb dL_law_929 hl (by decide) rfl (fun ls hl => ?_)
  refine lv_aload_n hx hb dL_law_931 rfl (lv_at hl 3 rfl) ?_
  refine lv_aload_n hx hb dL_law_932 rfl (lv_at hl 5 rfl) ?_
  refine lv_iload hx hb dL_law_933 (lv_at hl 1 rfl) ?_
  refine lv_iconst (v := 1) hx hb dL_law_935 (by decide) ?_
  refine lv_iadd hx hb dL_law_936 ?_
  refine y_topi (v := nI (i + 1)) (nI_add i 1) ?_
  refine g_sc (k := 1) C hS (by omega) dL_law_937 ?_
  refine lv_aload_n hx hb dL_law_938 rfl (lv_at hl 5 rfl) ?_
  refine lv_iload hx hb dL_law_939 (lv_at hl 1 rfl) ?_
  refine lv_iconst (v := 2) hx hb dL_law_941 (by decide) ?_
  refine lv_iadd hx hb dL_law_942 ?_
  refine y_topi (v := nI (i + 2)) (nI_add i 2) ?_
  refine g_sc (k := 2) C hS (by omega) dL_law_943 ?_
  have hM9 := c_X6_name hst k1
  refine v_callR (Y := I_X6_name) (As := [.int (xs (i + 1)), .int (xs (i + 2))]) (rest := []) (ci := 6) (T := TX6) (N := 15) (S := q_ul S1 lg) (S1 := S2) (a := 60) (r := some v) (g_F C) (hM9) ha hK hP (g_pre C hP hf hS) hS (g_in C hS) ok_X6_name gw_21 rfl (by decide) (by decide) rfl hl.1 ⟨Nat.le_of_ble_eq_true rfl, Nat.le_of_ble_eq_true rfl⟩ ⟨hcs.1, hcs.2⟩ (Nat.le_of_ble_eq_true rfl) dL_law_944 rfl (fun H1 locs1 hP1 hf1 hS1 hz1 => ?_)
  have ha := z_ado_go ha hz1
  clear hP hf hS hM9
  have hP := hP1; have hf := hf1; have hS := hS1; clear hP1 hf1 hS1 hz1
  refine lv_istore (lv' := [(6, .int v), (5, .int (nI code)), (4, .int (nI i)), (3, .ref (ad 66)), (2, .ref (ad 60)), (1, .ref (ad 0)), (0, .ref b)]) hx hb dL_law_947 hl (by decide) rfl (fun ls hl => ?_)
  refine lv_aload_n hx hb dL_law_949 rfl (lv_at hl 4 rfl) ?_
  have hM9 := c_X6_thrown hst (g_thr (B := B) (S := S2))
  refine v_callR (Y := I_X6_thrown) (As := []) (rest := []) (ci := 6) (T := TX6) (N := 15) (S := S2) (S1 := S2) (a := 60) (r := some (S2.2.1 60 0)) (g_F C) (hM9) ha hK hP (g_pre C hP hf hS) hS (g_in C hS) ok_X6_thrown gw_2 rfl (by decide) (by decide) rfl hl.1 ⟨Nat.le_of_ble_eq_true rfl, Nat.le_of_ble_eq_true rfl⟩ ⟨hcs.1, hcs.2⟩ (Nat.le_of_ble_eq_true rfl) dL_law_950 rfl (fun H1 locs1 hP1 hf1 hS1 hz1 => ?_)
  have ha := z_ado_go ha hz1
  clear hP hf hS hM9
  have hP := hP1; have hf := hf1; have hS := hS1; clear hP1 hf1 hS1 hz1
  refine y_topi (v := nI code) k2 ?_
  refine lv_iload hx hb dL_law_953 (lv_at hl 1 rfl) ?_
  refine lv_icmp_eq (tgt := 960) hx hb dL_law_955 (by decide) (fun _ => ?_) (fun h9 => absurd rfl h9)
  refine lv_iload hx hb dL_law_960 (lv_at hl 1 rfl) ?_
  refine lv_if_ne (tgt := 977) hx hb dL_law_962 (by decide) (fun _ => ?_) (fun h0 => ?_)
  · refine lv_goto (tgt := 1477) hx hb dL_law_977 (by decide) ?_
    exact next S2 _ _ _ k4 hP hf hS ha (lv_sub hl [2, 3, 4, 5, 6] rfl)
  · have hc0 := g_nz (Nat.le_trans hc (by decide)) h0
    refine lv_aload_n hx hb dL_law_965 rfl (lv_at hl 3 rfl) ?_
    refine lv_iconst (v := 0) hx hb dL_law_966 (by decide) ?_
    refine va_lald hx hb hK hP 66 3 v_l_at rfl (y_in (k := 0) (by decide) (by decide) (by show 0 < 0 * B + 1; omega)) dL_law_967 ?_
    refine lv_iload hx hb dL_law_968 (lv_at hl 0 rfl) ?_
    refine lv_i2l hx hb dL_law_970 rfl ?_
    refine W.lcmp hx hb dL_law_971 ?_
    refine y_topi (v := 0) (by rw [k5, show lg (Int32.toNatClampNeg 0) = w.toInt64 from hlg hc0, k3 hc0]; exact g_cmp _) ?_
    refine lv_if_eq (tgt := 977) hx hb dL_law_972 (by decide) (fun _ => ?_) (fun h9 => absurd rfl h9)
    refine lv_goto (tgt := 1477) hx hb dL_law_977 (by decide) ?_
    exact next S2 _ _ _ k4 hP hf hS ha (lv_sub hl [2, 3, 4, 5, 6] rfl)
set_option maxRecDepth 100000 in
set_option maxHeartbeats 4000000 in
theorem g_about {p : Program} {l : Launch} {e : Env} {s : State} {m : MethodId} {below : List Frame} {meth : Method} {c : Code} {H : Heap} {locs : List Loc} {cells slots : Nat} {Q : State → Prop} {b L B J i : Nat} {xs : Nat → Int32} {D : va_G} {K : Nat → ClassId} {ad : Nat → Nat} {S : z_S} {ls : Array Slot} (C : g_C l p s m c b L xs D K ad) (hI : q_I B J S) (hi : i + 6 ≤ L) (hP : va_P D vwCl (z_ws B K ad S) H) (hf : z_fit S) (hS : va_S (g_A s) s.heap H locs) (ha : z_ado ad H.size) (hl : lv_has ls 7 (g_lv b ad i)) (hcs : cells + 1 ≤ 601024 ∧ slots + 6 ≤ 7293000) (next : g_nx l p e s m below meth c b B J i D K ad (cells + 1) (slots + 6) Q) : W p l e room_1 s m #[Value.ref b] below meth c H locs cells slots Q (F0 m 980 ls []) := by
  obtain ⟨hx, hb, hml, hown, hts, hK, hX, hbl, hge, hst, hL, hz⟩ := id C
  have hl : lv_has ls 7 [(4, .int (nI i)), (3, .ref (ad 66)), (2, .ref (ad 60)), (1, .ref (ad 0)), (0, .ref b)] := hl
  refine lv_aload_n hx hb dL_law_980 rfl (lv_at hl 3 rfl) ?_
  refine lv_aload_n hx hb dL_law_981 rfl (lv_at hl 4 rfl) ?_
  refine lv_iload hx hb dL_law_982 (lv_at hl 0 rfl) ?_
  refine lv_iconst (v := 1) hx hb dL_law_984 (by decide) ?_
  refine lv_iadd hx hb dL_law_985 ?_
  refine y_topi (v := nI (i + 1)) (nI_add i 1) ?_
  refine g_sc (k := 1) C hS (by omega) dL_law_986 ?_
  refine lv_aload_n hx hb dL_law_987 rfl (lv_at hl 4 rfl) ?_
  refine lv_iload hx hb dL_law_988 (lv_at hl 0 rfl) ?_
  refine lv_iconst (v := 2) hx hb dL_law_990 (by decide) ?_
  refine lv_iadd hx hb dL_law_991 ?_
  refine y_topi (v := nI (i + 2)) (nI_add i 2) ?_
  refine g_sc (k := 2) C hS (by omega) dL_law_992 ?_
  refine lv_aload_n hx hb dL_law_993 rfl (lv_at hl 1 rfl) ?_
  obtain ⟨code, w, S1, hF, hc, hk⟩ := Z_about (p1 := xs (i + 1)) (p2 := xs (i + 2)) S hI
  refine v_callL (n := 4) (X := J_about) (As := [.ref 0, .int (xs (i + 1)), .int (xs (i + 2)), .ref 66]) (rest := []) (S := S) (S1 := S1) (code := code) (P := fun lg => code = 0 → lg 0 = w.toInt64) (g_F C) (v_about hst hF (by exact hc)) ha (g_preV C hP hf hS) hS (g_in C hS) vc_about.1 vc_about.2.1 vc_about.2.2 gw_22 ⟨by decide, by decide, by decide +kernel⟩ rfl hl.1 ⟨Nat.le_of_ble_eq_true rfl, Nat.le_of_ble_eq_true rfl⟩ hcs (Nat.le_of_ble_eq_true rfl) dL_law_994 rfl (fun lg H1 locs1 hlg hP1 hf1 hS1 hz1 => ?_)
  have ha := z_ado_go ha hz1
  clear hP hf hS
  have hP := hP1; have hf := hf1; have hS := hS1; clear hP1 hf1 hS1 hz1
  obtain ⟨v, S2, k1, k2, k3, k4, k5⟩ := hk lg
  refine lv_istore (lv' := [(5, .int (nI code)), (4, .int (nI i)), (3, .ref (ad 66)), (2, .ref (ad 60)), (1, .ref (ad 0)), (0, .ref b)]) hx hb dL_law_997 hl (by decide) rfl (fun ls hl => ?_)
  refine lv_aload_n hx hb dL_law_999 rfl (lv_at hl 3 rfl) ?_
  refine lv_aload_n hx hb dL_law_1000 rfl (lv_at hl 5 rfl) ?_
  refine lv_iload hx hb dL_law_1001 (lv_at hl 1 rfl) ?_
  refine lv_iconst (v := 1) hx hb dL_law_1003 (by decide) ?_
  refine lv_iadd hx hb dL_law_1004 ?_
  refine y_topi (v := nI (i + 1)) (nI_add i 1) ?_
  refine g_sc (k := 1) C hS (by omega) dL_law_1005 ?_
  refine lv_aload_n hx hb dL_law_1006 rfl (lv_at hl 5 rfl) ?_
  refine lv_iload hx hb dL_law_1007 (lv_at hl 1 rfl) ?_
  refine lv_iconst (v := 2) hx hb dL_law_1009 (by decide) ?_
  refine lv_iadd hx hb dL_law_1010 ?_
  refine y_topi (v := nI (i + 2)) (nI_add i 2) ?_
  refine g_sc (k := 2) C hS (by omega) dL_law_1011 ?_
  have hM9 := c_X6_about hst k1
  refine v_callR (Y := I_X6_about) (As := [.int (xs (i + 1)), .int (xs (i + 2))]) (rest := []) (ci := 6) (T := TX6) (N := 15) (S := q_ul S1 lg) (S1 := S2) (a := 60) (r := some v) (g_F C) (hM9) ha hK hP (g_pre C hP hf hS) hS (g_in C hS) ok_X6_about gw_23 rfl (by decide) (by decide) rfl hl.1 ⟨Nat.le_of_ble_eq_true rfl, Nat.le_of_ble_eq_true rfl⟩ ⟨hcs.1, hcs.2⟩ (Nat.le_of_ble_eq_true rfl) dL_law_1012 rfl (fun H1 locs1 hP1 hf1 hS1 hz1 => ?_)
  have ha := z_ado_go ha hz1
  clear hP hf hS hM9
  have hP := hP1; have hf := hf1; have hS := hS1; clear hP1 hf1 hS1 hz1
  refine lv_istore (lv' := [(6, .int v), (5, .int (nI code)), (4, .int (nI i)), (3, .ref (ad 66)), (2, .ref (ad 60)), (1, .ref (ad 0)), (0, .ref b)]) hx hb dL_law_1015 hl (by decide) rfl (fun ls hl => ?_)
  refine lv_aload_n hx hb dL_law_1017 rfl (lv_at hl 4 rfl) ?_
  have hM9 := c_X6_thrown hst (g_thr (B := B) (S := S2))
  refine v_callR (Y := I_X6_thrown) (As := []) (rest := []) (ci := 6) (T := TX6) (N := 15) (S := S2) (S1 := S2) (a := 60) (r := some (S2.2.1 60 0)) (g_F C) (hM9) ha hK hP (g_pre C hP hf hS) hS (g_in C hS) ok_X6_thrown gw_2 rfl (by decide) (by decide) rfl hl.1 ⟨Nat.le_of_ble_eq_true rfl, Nat.le_of_ble_eq_true rfl⟩ ⟨hcs.1, hcs.2⟩ (Nat.le_of_ble_eq_true rfl) dL_law_1018 rfl (fun H1 locs1 hP1 hf1 hS1 hz1 => ?_)
  have ha := z_ado_go ha hz1
  clear hP hf hS hM9
  have hP := hP1; have hf := hf1; have hS := hS1; clear hP1 hf1 hS1 hz1
  refine y_topi (v := nI code) k2 ?_
  refine lv_iload hx hb dL_law_1021 (lv_at hl 1 rfl) ?_
  refine lv_icmp_eq (tgt := 1028) hx hb dL_law_1023 (by decide) (fun _ => ?_) (fun h9 => absurd rfl h9)
  refine lv_iload hx hb dL_law_1028 (lv_at hl 1 rfl) ?_
  refine lv_if_ne (tgt := 1045) hx hb dL_law_1030 (by decide) (fun _ => ?_) (fun h0 => ?_)
  · refine lv_goto (tgt := 1477) hx hb dL_law_1045 (by decide) ?_
    exact next S2 _ _ _ k4 hP hf hS ha (lv_sub hl [2, 3, 4, 5, 6] rfl)
  · have hc0 := g_nz (Nat.le_trans hc (by decide)) h0
    refine lv_aload_n hx hb dL_law_1033 rfl (lv_at hl 3 rfl) ?_
    refine lv_iconst (v := 0) hx hb dL_law_1034 (by decide) ?_
    refine va_lald hx hb hK hP 66 3 v_l_at rfl (y_in (k := 0) (by decide) (by decide) (by show 0 < 0 * B + 1; omega)) dL_law_1035 ?_
    refine lv_iload hx hb dL_law_1036 (lv_at hl 0 rfl) ?_
    refine lv_i2l hx hb dL_law_1038 rfl ?_
    refine W.lcmp hx hb dL_law_1039 ?_
    refine y_topi (v := 0) (by rw [k5, show lg (Int32.toNatClampNeg 0) = w.toInt64 from hlg hc0, k3 hc0]; exact g_cmp _) ?_
    refine lv_if_eq (tgt := 1045) hx hb dL_law_1040 (by decide) (fun _ => ?_) (fun h9 => absurd rfl h9)
    refine lv_goto (tgt := 1477) hx hb dL_law_1045 (by decide) ?_
    exact next S2 _ _ _ k4 hP hf hS ha (lv_sub hl [2, 3, 4, 5, 6] rfl)
set_option maxRecDepth 100000 in
set_option maxHeartbeats 4000000 in
theorem g_node {p : Program} {l : Launch} {e : Env} {s : State} {m : MethodId} {below : List Frame} {meth : Method} {c : Code} {H : Heap} {locs : List Loc} {cells slots : Nat} {Q : State → Prop} {b L B J i : Nat} {xs : Nat → Int32} {D : va_G} {K : Nat → ClassId} {ad : Nat → Nat} {S : z_S} {ls : Array Slot} (C : g_C l p s m c b L xs D K ad) (hI : q_I B J S) (hi : i + 6 ≤ L) (hP : va_P D vwCl (z_ws B K ad S) H) (hf : z_fit S) (hS : va_S (g_A s) s.heap H locs) (ha : z_ado ad H.size) (hl : lv_has ls 7 (g_lv b ad i)) (hcs : cells + 1 ≤ 601024 ∧ slots + 6 ≤ 7293000) (next : g_nx l p e s m below meth c b B J i D K ad (cells + 1) (slots + 6) Q) : W p l e room_1 s m #[Value.ref b] below meth c H locs cells slots Q (F0 m 1048 ls []) := by
  obtain ⟨hx, hb, hml, hown, hts, hK, hX, hbl, hge, hst, hL, hz⟩ := id C
  have hl : lv_has ls 7 [(4, .int (nI i)), (3, .ref (ad 66)), (2, .ref (ad 60)), (1, .ref (ad 0)), (0, .ref b)] := hl
  refine lv_aload_n hx hb dL_law_1048 rfl (lv_at hl 3 rfl) ?_
  refine lv_aload_n hx hb dL_law_1049 rfl (lv_at hl 4 rfl) ?_
  refine lv_iload hx hb dL_law_1050 (lv_at hl 0 rfl) ?_
  refine lv_iconst (v := 1) hx hb dL_law_1052 (by decide) ?_
  refine lv_iadd hx hb dL_law_1053 ?_
  refine y_topi (v := nI (i + 1)) (nI_add i 1) ?_
  refine g_sc (k := 1) C hS (by omega) dL_law_1054 ?_
  refine lv_aload_n hx hb dL_law_1055 rfl (lv_at hl 4 rfl) ?_
  refine lv_iload hx hb dL_law_1056 (lv_at hl 0 rfl) ?_
  refine lv_iconst (v := 2) hx hb dL_law_1058 (by decide) ?_
  refine lv_iadd hx hb dL_law_1059 ?_
  refine y_topi (v := nI (i + 2)) (nI_add i 2) ?_
  refine g_sc (k := 2) C hS (by omega) dL_law_1060 ?_
  refine lv_aload_n hx hb dL_law_1061 rfl (lv_at hl 4 rfl) ?_
  refine lv_iload hx hb dL_law_1062 (lv_at hl 0 rfl) ?_
  refine lv_iconst (v := 3) hx hb dL_law_1064 (by decide) ?_
  refine lv_iadd hx hb dL_law_1065 ?_
  refine y_topi (v := nI (i + 3)) (nI_add i 3) ?_
  refine g_sc (k := 3) C hS (by omega) dL_law_1066 ?_
  refine lv_aload_n hx hb dL_law_1067 rfl (lv_at hl 1 rfl) ?_
  obtain ⟨code, w, S1, hF, hc, hk⟩ := Z_node (p1 := xs (i + 1)) (p2 := xs (i + 2)) (p3 := xs (i + 3)) S hI
  refine v_callL (n := 5) (X := J_node) (As := [.ref 0, .int (xs (i + 1)), .int (xs (i + 2)), .int (xs (i + 3)), .ref 66]) (rest := []) (S := S) (S1 := S1) (code := code) (P := fun lg => code = 0 → lg 0 = w.toInt64) (g_F C) (v_node hst hF (by exact hc)) ha (g_preV C hP hf hS) hS (g_in C hS) vc_node.1 vc_node.2.1 vc_node.2.2 gw_24 ⟨by decide, by decide, by decide +kernel⟩ rfl hl.1 ⟨Nat.le_of_ble_eq_true rfl, Nat.le_of_ble_eq_true rfl⟩ hcs (Nat.le_of_ble_eq_true rfl) dL_law_1068 rfl (fun lg H1 locs1 hlg hP1 hf1 hS1 hz1 => ?_)
  have ha := z_ado_go ha hz1
  clear hP hf hS
  have hP := hP1; have hf := hf1; have hS := hS1; clear hP1 hf1 hS1 hz1
  obtain ⟨v, S2, k1, k2, k3, k4, k5⟩ := hk lg
  refine lv_istore (lv' := [(5, .int (nI code)), (4, .int (nI i)), (3, .ref (ad 66)), (2, .ref (ad 60)), (1, .ref (ad 0)), (0, .ref b)]) hx hb dL_law_1071 hl (by decide) rfl (fun ls hl => ?_)
  refine lv_aload_n hx hb dL_law_1073 rfl (lv_at hl 3 rfl) ?_
  refine lv_aload_n hx hb dL_law_1074 rfl (lv_at hl 5 rfl) ?_
  refine lv_iload hx hb dL_law_1075 (lv_at hl 1 rfl) ?_
  refine lv_iconst (v := 1) hx hb dL_law_1077 (by decide) ?_
  refine lv_iadd hx hb dL_law_1078 ?_
  refine y_topi (v := nI (i + 1)) (nI_add i 1) ?_
  refine g_sc (k := 1) C hS (by omega) dL_law_1079 ?_
  refine lv_aload_n hx hb dL_law_1080 rfl (lv_at hl 5 rfl) ?_
  refine lv_iload hx hb dL_law_1081 (lv_at hl 1 rfl) ?_
  refine lv_iconst (v := 2) hx hb dL_law_1083 (by decide) ?_
  refine lv_iadd hx hb dL_law_1084 ?_
  refine y_topi (v := nI (i + 2)) (nI_add i 2) ?_
  refine g_sc (k := 2) C hS (by omega) dL_law_1085 ?_
  refine lv_aload_n hx hb dL_law_1086 rfl (lv_at hl 5 rfl) ?_
  refine lv_iload hx hb dL_law_1087 (lv_at hl 1 rfl) ?_
  refine lv_iconst (v := 3) hx hb dL_law_1089 (by decide) ?_
  refine lv_iadd hx hb dL_law_1090 ?_
  refine y_topi (v := nI (i + 3)) (nI_add i 3) ?_
  refine g_sc (k := 3) C hS (by omega) dL_law_1091 ?_
  have hM9 := c_X6_node hst k1
  refine v_callR (Y := I_X6_node) (As := [.int (xs (i + 1)), .int (xs (i + 2)), .int (xs (i + 3))]) (rest := []) (ci := 6) (T := TX6) (N := 15) (S := q_ul S1 lg) (S1 := S2) (a := 60) (r := some v) (g_F C) (hM9) ha hK hP (g_pre C hP hf hS) hS (g_in C hS) ok_X6_node gw_25 rfl (by decide) (by decide) rfl hl.1 ⟨Nat.le_of_ble_eq_true rfl, Nat.le_of_ble_eq_true rfl⟩ ⟨hcs.1, hcs.2⟩ (Nat.le_of_ble_eq_true rfl) dL_law_1092 rfl (fun H1 locs1 hP1 hf1 hS1 hz1 => ?_)
  have ha := z_ado_go ha hz1
  clear hP hf hS hM9
  have hP := hP1; have hf := hf1; have hS := hS1; clear hP1 hf1 hS1 hz1
  refine lv_istore (lv' := [(6, .int v), (5, .int (nI code)), (4, .int (nI i)), (3, .ref (ad 66)), (2, .ref (ad 60)), (1, .ref (ad 0)), (0, .ref b)]) hx hb dL_law_1095 hl (by decide) rfl (fun ls hl => ?_)
  refine lv_aload_n hx hb dL_law_1097 rfl (lv_at hl 4 rfl) ?_
  have hM9 := c_X6_thrown hst (g_thr (B := B) (S := S2))
  refine v_callR (Y := I_X6_thrown) (As := []) (rest := []) (ci := 6) (T := TX6) (N := 15) (S := S2) (S1 := S2) (a := 60) (r := some (S2.2.1 60 0)) (g_F C) (hM9) ha hK hP (g_pre C hP hf hS) hS (g_in C hS) ok_X6_thrown gw_2 rfl (by decide) (by decide) rfl hl.1 ⟨Nat.le_of_ble_eq_true rfl, Nat.le_of_ble_eq_true rfl⟩ ⟨hcs.1, hcs.2⟩ (Nat.le_of_ble_eq_true rfl) dL_law_1098 rfl (fun H1 locs1 hP1 hf1 hS1 hz1 => ?_)
  have ha := z_ado_go ha hz1
  clear hP hf hS hM9
  have hP := hP1; have hf := hf1; have hS := hS1; clear hP1 hf1 hS1 hz1
  refine y_topi (v := nI code) k2 ?_
  refine lv_iload hx hb dL_law_1101 (lv_at hl 1 rfl) ?_
  refine lv_icmp_eq (tgt := 1108) hx hb dL_law_1103 (by decide) (fun _ => ?_) (fun h9 => absurd rfl h9)
  refine lv_iload hx hb dL_law_1108 (lv_at hl 1 rfl) ?_
  refine lv_if_ne (tgt := 1125) hx hb dL_law_1110 (by decide) (fun _ => ?_) (fun h0 => ?_)
  · refine lv_goto (tgt := 1477) hx hb dL_law_1125 (by decide) ?_
    exact next S2 _ _ _ k4 hP hf hS ha (lv_sub hl [2, 3, 4, 5, 6] rfl)
  · have hc0 := g_nz (Nat.le_trans hc (by decide)) h0
    refine lv_aload_n hx hb dL_law_1113 rfl (lv_at hl 3 rfl) ?_
    refine lv_iconst (v := 0) hx hb dL_law_1114 (by decide) ?_
    refine va_lald hx hb hK hP 66 3 v_l_at rfl (y_in (k := 0) (by decide) (by decide) (by show 0 < 0 * B + 1; omega)) dL_law_1115 ?_
    refine lv_iload hx hb dL_law_1116 (lv_at hl 0 rfl) ?_
    refine lv_i2l hx hb dL_law_1118 rfl ?_
    refine W.lcmp hx hb dL_law_1119 ?_
    refine y_topi (v := 0) (by rw [k5, show lg (Int32.toNatClampNeg 0) = w.toInt64 from hlg hc0, k3 hc0]; exact g_cmp _) ?_
    refine lv_if_eq (tgt := 1125) hx hb dL_law_1120 (by decide) (fun _ => ?_) (fun h9 => absurd rfl h9)
    refine lv_goto (tgt := 1477) hx hb dL_law_1125 (by decide) ?_
    exact next S2 _ _ _ k4 hP hf hS ha (lv_sub hl [2, 3, 4, 5, 6] rfl)
set_option maxRecDepth 100000 in
set_option maxHeartbeats 4000000 in
theorem g_item {p : Program} {l : Launch} {e : Env} {s : State} {m : MethodId} {below : List Frame} {meth : Method} {c : Code} {H : Heap} {locs : List Loc} {cells slots : Nat} {Q : State → Prop} {b L B J i : Nat} {xs : Nat → Int32} {D : va_G} {K : Nat → ClassId} {ad : Nat → Nat} {S : z_S} {ls : Array Slot} (C : g_C l p s m c b L xs D K ad) (hI : q_I B J S) (hi : i + 6 ≤ L) (hP : va_P D vwCl (z_ws B K ad S) H) (hf : z_fit S) (hS : va_S (g_A s) s.heap H locs) (ha : z_ado ad H.size) (hl : lv_has ls 7 (g_lv b ad i)) (hcs : cells + 1 ≤ 601024 ∧ slots + 6 ≤ 7293000) (next : g_nx l p e s m below meth c b B J i D K ad (cells + 1) (slots + 6) Q) : W p l e room_1 s m #[Value.ref b] below meth c H locs cells slots Q (F0 m 1128 ls []) := by
  obtain ⟨hx, hb, hml, hown, hts, hK, hX, hbl, hge, hst, hL, hz⟩ := id C
  have hl : lv_has ls 7 [(4, .int (nI i)), (3, .ref (ad 66)), (2, .ref (ad 60)), (1, .ref (ad 0)), (0, .ref b)] := hl
  refine lv_aload_n hx hb dL_law_1128 rfl (lv_at hl 3 rfl) ?_
  refine lv_aload_n hx hb dL_law_1129 rfl (lv_at hl 4 rfl) ?_
  refine lv_iload hx hb dL_law_1130 (lv_at hl 0 rfl) ?_
  refine lv_iconst (v := 1) hx hb dL_law_1132 (by decide) ?_
  refine lv_iadd hx hb dL_law_1133 ?_
  refine y_topi (v := nI (i + 1)) (nI_add i 1) ?_
  refine g_sc (k := 1) C hS (by omega) dL_law_1134 ?_
  refine lv_aload_n hx hb dL_law_1135 rfl (lv_at hl 4 rfl) ?_
  refine lv_iload hx hb dL_law_1136 (lv_at hl 0 rfl) ?_
  refine lv_iconst (v := 2) hx hb dL_law_1138 (by decide) ?_
  refine lv_iadd hx hb dL_law_1139 ?_
  refine y_topi (v := nI (i + 2)) (nI_add i 2) ?_
  refine g_sc (k := 2) C hS (by omega) dL_law_1140 ?_
  refine lv_aload_n hx hb dL_law_1141 rfl (lv_at hl 1 rfl) ?_
  obtain ⟨code, w, S1, hF, hc, hk⟩ := Z_item (p1 := xs (i + 1)) (p2 := xs (i + 2)) S hI
  refine v_callL (n := 4) (X := J_item) (As := [.ref 0, .int (xs (i + 1)), .int (xs (i + 2)), .ref 66]) (rest := []) (S := S) (S1 := S1) (code := code) (P := fun lg => code = 0 → lg 0 = w.toInt64) (g_F C) (v_item hst hF (by exact hc)) ha (g_preV C hP hf hS) hS (g_in C hS) vc_item.1 vc_item.2.1 vc_item.2.2 gw_26 ⟨by decide, by decide, by decide +kernel⟩ rfl hl.1 ⟨Nat.le_of_ble_eq_true rfl, Nat.le_of_ble_eq_true rfl⟩ hcs (Nat.le_of_ble_eq_true rfl) dL_law_1142 rfl (fun lg H1 locs1 hlg hP1 hf1 hS1 hz1 => ?_)
  have ha := z_ado_go ha hz1
  clear hP hf hS
  have hP := hP1; have hf := hf1; have hS := hS1; clear hP1 hf1 hS1 hz1
  obtain ⟨v, S2, k1, k2, k3, k4, k5⟩ := hk lg
  refine lv_istore (lv' := [(5, .int (nI code)), (4, .int (nI i)), (3, .ref (ad 66)), (2, .ref (ad 60)), (1, .ref (ad 0)), (0, .ref b)]) hx hb dL_law_1145 hl (by decide) rfl (fun ls hl => ?_)
  refine lv_aload_n hx hb dL_law_1147 rfl (lv_at hl 3 rfl) ?_
  refine lv_aload_n hx hb dL_law_1148 rfl (lv_at hl 5 rfl) ?_
  refine lv_iload hx hb dL_law_1149 (lv_at hl 1 rfl) ?_
  refine lv_iconst (v := 1) hx hb dL_law_1151 (by decide) ?_
  refine lv_iadd hx hb dL_law_1152 ?_
  refine y_topi (v := nI (i + 1)) (nI_add i 1) ?_
  refine g_sc (k := 1) C hS (by omega) dL_law_1153 ?_
  refine lv_aload_n hx hb dL_law_1154 rfl (lv_at hl 5 rfl) ?_
  refine lv_iload hx hb dL_law_1155 (lv_at hl 1 rfl) ?_
  refine lv_iconst (v := 2) hx hb dL_law_1157 (by decide) ?_
  refine lv_iadd hx hb dL_law_1158 ?_
  refine y_topi (v := nI (i + 2)) (nI_add i 2) ?_
  refine g_sc (k := 2) C hS (by omega) dL_law_1159 ?_
  have hM9 := c_X6_item hst k1
  refine v_callR (Y := I_X6_item) (As := [.int (xs (i + 1)), .int (xs (i + 2))]) (rest := []) (ci := 6) (T := TX6) (N := 15) (S := q_ul S1 lg) (S1 := S2) (a := 60) (r := some v) (g_F C) (hM9) ha hK hP (g_pre C hP hf hS) hS (g_in C hS) ok_X6_item gw_27 rfl (by decide) (by decide) rfl hl.1 ⟨Nat.le_of_ble_eq_true rfl, Nat.le_of_ble_eq_true rfl⟩ ⟨hcs.1, hcs.2⟩ (Nat.le_of_ble_eq_true rfl) dL_law_1160 rfl (fun H1 locs1 hP1 hf1 hS1 hz1 => ?_)
  have ha := z_ado_go ha hz1
  clear hP hf hS hM9
  have hP := hP1; have hf := hf1; have hS := hS1; clear hP1 hf1 hS1 hz1
  refine lv_istore (lv' := [(6, .int v), (5, .int (nI code)), (4, .int (nI i)), (3, .ref (ad 66)), (2, .ref (ad 60)), (1, .ref (ad 0)), (0, .ref b)]) hx hb dL_law_1163 hl (by decide) rfl (fun ls hl => ?_)
  refine lv_aload_n hx hb dL_law_1165 rfl (lv_at hl 4 rfl) ?_
  have hM9 := c_X6_thrown hst (g_thr (B := B) (S := S2))
  refine v_callR (Y := I_X6_thrown) (As := []) (rest := []) (ci := 6) (T := TX6) (N := 15) (S := S2) (S1 := S2) (a := 60) (r := some (S2.2.1 60 0)) (g_F C) (hM9) ha hK hP (g_pre C hP hf hS) hS (g_in C hS) ok_X6_thrown gw_2 rfl (by decide) (by decide) rfl hl.1 ⟨Nat.le_of_ble_eq_true rfl, Nat.le_of_ble_eq_true rfl⟩ ⟨hcs.1, hcs.2⟩ (Nat.le_of_ble_eq_true rfl) dL_law_1166 rfl (fun H1 locs1 hP1 hf1 hS1 hz1 => ?_)
  have ha := z_ado_go ha hz1
  clear hP hf hS hM9
  have hP := hP1; have hf := hf1; have hS := hS1; clear hP1 hf1 hS1 hz1
  refine y_topi (v := nI code) k2 ?_
  refine lv_iload hx hb dL_law_1169 (lv_at hl 1 rfl) ?_
  refine lv_icmp_eq (tgt := 1176) hx hb dL_law_1171 (by decide) (fun _ => ?_) (fun h9 => absurd rfl h9)
  refine lv_iload hx hb dL_law_1176 (lv_at hl 1 rfl) ?_
  refine lv_if_ne (tgt := 1193) hx hb dL_law_1178 (by decide) (fun _ => ?_) (fun h0 => ?_)
  · refine lv_goto (tgt := 1477) hx hb dL_law_1193 (by decide) ?_
    exact next S2 _ _ _ k4 hP hf hS ha (lv_sub hl [2, 3, 4, 5, 6] rfl)
  · have hc0 := g_nz (Nat.le_trans hc (by decide)) h0
    refine lv_aload_n hx hb dL_law_1181 rfl (lv_at hl 3 rfl) ?_
    refine lv_iconst (v := 0) hx hb dL_law_1182 (by decide) ?_
    refine va_lald hx hb hK hP 66 3 v_l_at rfl (y_in (k := 0) (by decide) (by decide) (by show 0 < 0 * B + 1; omega)) dL_law_1183 ?_
    refine lv_iload hx hb dL_law_1184 (lv_at hl 0 rfl) ?_
    refine lv_i2l hx hb dL_law_1186 rfl ?_
    refine W.lcmp hx hb dL_law_1187 ?_
    refine y_topi (v := 0) (by rw [k5, show lg (Int32.toNatClampNeg 0) = w.toInt64 from hlg hc0, k3 hc0]; exact g_cmp _) ?_
    refine lv_if_eq (tgt := 1193) hx hb dL_law_1188 (by decide) (fun _ => ?_) (fun h9 => absurd rfl h9)
    refine lv_goto (tgt := 1477) hx hb dL_law_1193 (by decide) ?_
    exact next S2 _ _ _ k4 hP hf hS ha (lv_sub hl [2, 3, 4, 5, 6] rfl)
set_option maxRecDepth 100000 in
set_option maxHeartbeats 4000000 in
theorem g_commit {p : Program} {l : Launch} {e : Env} {s : State} {m : MethodId} {below : List Frame} {meth : Method} {c : Code} {H : Heap} {locs : List Loc} {cells slots : Nat} {Q : State → Prop} {b L B J i : Nat} {xs : Nat → Int32} {D : va_G} {K : Nat → ClassId} {ad : Nat → Nat} {S : z_S} {ls : Array Slot} (C : g_C l p s m c b L xs D K ad) (hI : q_I B J S) (hi : i + 6 ≤ L) (hP : va_P D vwCl (z_ws B K ad S) H) (hf : z_fit S) (hS : va_S (g_A s) s.heap H locs) (ha : z_ado ad H.size) (hl : lv_has ls 7 (g_lv b ad i)) (hcs : cells + 1 ≤ 601024 ∧ slots + 6 ≤ 7293000) (next : g_nx l p e s m below meth c b B J i D K ad (cells + 1) (slots + 6) Q) : W p l e room_1 s m #[Value.ref b] below meth c H locs cells slots Q (F0 m 1196 ls []) := by
  obtain ⟨hx, hb, hml, hown, hts, hK, hX, hbl, hge, hst, hL, hz⟩ := id C
  have hl : lv_has ls 7 [(4, .int (nI i)), (3, .ref (ad 66)), (2, .ref (ad 60)), (1, .ref (ad 0)), (0, .ref b)] := hl
  refine lv_aload_n hx hb dL_law_1196 rfl (lv_at hl 3 rfl) ?_
  refine lv_aload_n hx hb dL_law_1197 rfl (lv_at hl 1 rfl) ?_
  obtain ⟨code, w, S1, hF, hc, hk⟩ := Z_commit  S hI
  refine v_callL (n := 2) (X := J_commit) (As := [.ref 0, .ref 66]) (rest := []) (S := S) (S1 := S1) (code := code) (P := fun lg => code = 0 → lg 0 = w.toInt64) (g_F C) (v_commit hst hF (by exact hc)) ha (g_preV C hP hf hS) hS (g_in C hS) vc_commit.1 vc_commit.2.1 vc_commit.2.2 gw_28 ⟨by decide, by decide, by decide +kernel⟩ rfl hl.1 ⟨Nat.le_of_ble_eq_true rfl, Nat.le_of_ble_eq_true rfl⟩ hcs (Nat.le_of_ble_eq_true rfl) dL_law_1198 rfl (fun lg H1 locs1 hlg hP1 hf1 hS1 hz1 => ?_)
  have ha := z_ado_go ha hz1
  clear hP hf hS
  have hP := hP1; have hf := hf1; have hS := hS1; clear hP1 hf1 hS1 hz1
  obtain ⟨v, S2, k1, k2, k3, k4, k5⟩ := hk lg
  refine lv_istore (lv' := [(5, .int (nI code)), (4, .int (nI i)), (3, .ref (ad 66)), (2, .ref (ad 60)), (1, .ref (ad 0)), (0, .ref b)]) hx hb dL_law_1201 hl (by decide) rfl (fun ls hl => ?_)
  refine lv_aload_n hx hb dL_law_1203 rfl (lv_at hl 3 rfl) ?_
  have hM9 := c_X6_commit hst k1
  refine v_callR (Y := I_X6_commit) (As := []) (rest := []) (ci := 6) (T := TX6) (N := 15) (S := q_ul S1 lg) (S1 := S2) (a := 60) (r := some v) (g_F C) (hM9) ha hK hP (g_pre C hP hf hS) hS (g_in C hS) ok_X6_commit gw_29 rfl (by decide) (by decide) rfl hl.1 ⟨Nat.le_of_ble_eq_true rfl, Nat.le_of_ble_eq_true rfl⟩ ⟨hcs.1, hcs.2⟩ (Nat.le_of_ble_eq_true rfl) dL_law_1204 rfl (fun H1 locs1 hP1 hf1 hS1 hz1 => ?_)
  have ha := z_ado_go ha hz1
  clear hP hf hS hM9
  have hP := hP1; have hf := hf1; have hS := hS1; clear hP1 hf1 hS1 hz1
  refine lv_istore (lv' := [(6, .int v), (5, .int (nI code)), (4, .int (nI i)), (3, .ref (ad 66)), (2, .ref (ad 60)), (1, .ref (ad 0)), (0, .ref b)]) hx hb dL_law_1207 hl (by decide) rfl (fun ls hl => ?_)
  refine lv_aload_n hx hb dL_law_1209 rfl (lv_at hl 4 rfl) ?_
  have hM9 := c_X6_thrown hst (g_thr (B := B) (S := S2))
  refine v_callR (Y := I_X6_thrown) (As := []) (rest := []) (ci := 6) (T := TX6) (N := 15) (S := S2) (S1 := S2) (a := 60) (r := some (S2.2.1 60 0)) (g_F C) (hM9) ha hK hP (g_pre C hP hf hS) hS (g_in C hS) ok_X6_thrown gw_2 rfl (by decide) (by decide) rfl hl.1 ⟨Nat.le_of_ble_eq_true rfl, Nat.le_of_ble_eq_true rfl⟩ ⟨hcs.1, hcs.2⟩ (Nat.le_of_ble_eq_true rfl) dL_law_1210 rfl (fun H1 locs1 hP1 hf1 hS1 hz1 => ?_)
  have ha := z_ado_go ha hz1
  clear hP hf hS hM9
  have hP := hP1; have hf := hf1; have hS := hS1; clear hP1 hf1 hS1 hz1
  refine y_topi (v := nI code) k2 ?_
  refine lv_iload hx hb dL_law_1213 (lv_at hl 1 rfl) ?_
  refine lv_icmp_eq (tgt := 1220) hx hb dL_law_1215 (by decide) (fun _ => ?_) (fun h9 => absurd rfl h9)
  refine lv_iload hx hb dL_law_1220 (lv_at hl 1 rfl) ?_
  refine lv_if_ne (tgt := 1237) hx hb dL_law_1222 (by decide) (fun _ => ?_) (fun h0 => ?_)
  · refine lv_goto (tgt := 1477) hx hb dL_law_1237 (by decide) ?_
    exact next S2 _ _ _ k4 hP hf hS ha (lv_sub hl [2, 3, 4, 5, 6] rfl)
  · have hc0 := g_nz (Nat.le_trans hc (by decide)) h0
    refine lv_aload_n hx hb dL_law_1225 rfl (lv_at hl 3 rfl) ?_
    refine lv_iconst (v := 0) hx hb dL_law_1226 (by decide) ?_
    refine va_lald hx hb hK hP 66 3 v_l_at rfl (y_in (k := 0) (by decide) (by decide) (by show 0 < 0 * B + 1; omega)) dL_law_1227 ?_
    refine lv_iload hx hb dL_law_1228 (lv_at hl 0 rfl) ?_
    refine lv_i2l hx hb dL_law_1230 rfl ?_
    refine W.lcmp hx hb dL_law_1231 ?_
    refine y_topi (v := 0) (by rw [k5, show lg (Int32.toNatClampNeg 0) = w.toInt64 from hlg hc0, k3 hc0]; exact g_cmp _) ?_
    refine lv_if_eq (tgt := 1237) hx hb dL_law_1232 (by decide) (fun _ => ?_) (fun h9 => absurd rfl h9)
    refine lv_goto (tgt := 1477) hx hb dL_law_1237 (by decide) ?_
    exact next S2 _ _ _ k4 hP hf hS ha (lv_sub hl [2, 3, 4, 5, 6] rfl)
set_option maxRecDepth 100000 in
set_option maxHeartbeats 4000000 in
theorem g_checkpoint {p : Program} {l : Launch} {e : Env} {s : State} {m : MethodId} {below : List Frame} {meth : Method} {c : Code} {H : Heap} {locs : List Loc} {cells slots : Nat} {Q : State → Prop} {b L B J i : Nat} {xs : Nat → Int32} {D : va_G} {K : Nat → ClassId} {ad : Nat → Nat} {S : z_S} {ls : Array Slot} (C : g_C l p s m c b L xs D K ad) (hI : q_I B J S) (hi : i + 6 ≤ L) (hP : va_P D vwCl (z_ws B K ad S) H) (hf : z_fit S) (hS : va_S (g_A s) s.heap H locs) (ha : z_ado ad H.size) (hl : lv_has ls 7 (g_lv b ad i)) (hcs : cells + 1 ≤ 601024 ∧ slots + 6 ≤ 7293000) (next : g_nx l p e s m below meth c b B J i D K ad (cells + 1) (slots + 6) Q) : W p l e room_1 s m #[Value.ref b] below meth c H locs cells slots Q (F0 m 1240 ls []) := by
  obtain ⟨hx, hb, hml, hown, hts, hK, hX, hbl, hge, hst, hL, hz⟩ := id C
  have hl : lv_has ls 7 [(4, .int (nI i)), (3, .ref (ad 66)), (2, .ref (ad 60)), (1, .ref (ad 0)), (0, .ref b)] := hl
  refine lv_aload_n hx hb dL_law_1240 rfl (lv_at hl 3 rfl) ?_
  refine lv_aload_n hx hb dL_law_1241 rfl (lv_at hl 1 rfl) ?_
  obtain ⟨code, w, S1, hF, hc, hk⟩ := Z_checkpoint  S hI
  refine v_callL (n := 2) (X := J_checkpoint) (As := [.ref 0, .ref 66]) (rest := []) (S := S) (S1 := S1) (code := code) (P := fun lg => code = 0 → lg 0 = w.toInt64) (g_F C) (v_checkpoint hst hF (by exact hc)) ha (g_preV C hP hf hS) hS (g_in C hS) vc_checkpoint.1 vc_checkpoint.2.1 vc_checkpoint.2.2 gw_30 ⟨by decide, by decide, by decide +kernel⟩ rfl hl.1 ⟨Nat.le_of_ble_eq_true rfl, Nat.le_of_ble_eq_true rfl⟩ hcs (Nat.le_of_ble_eq_true rfl) dL_law_1242 rfl (fun lg H1 locs1 hlg hP1 hf1 hS1 hz1 => ?_)
  have ha := z_ado_go ha hz1
  clear hP hf hS
  have hP := hP1; have hf := hf1; have hS := hS1; clear hP1 hf1 hS1 hz1
  obtain ⟨v, S2, k1, k2, k3, k4, k5⟩ := hk lg
  refine lv_istore (lv' := [(5, .int (nI code)), (4, .int (nI i)), (3, .ref (ad 66)), (2, .ref (ad 60)), (1, .ref (ad 0)), (0, .ref b)]) hx hb dL_law_1245 hl (by decide) rfl (fun ls hl => ?_)
  refine lv_aload_n hx hb dL_law_1247 rfl (lv_at hl 3 rfl) ?_
  have hM9 := c_X6_checkpoint hst k1
  refine v_callR (Y := I_X6_checkpoint) (As := []) (rest := []) (ci := 6) (T := TX6) (N := 15) (S := q_ul S1 lg) (S1 := S2) (a := 60) (r := some v) (g_F C) (hM9) ha hK hP (g_pre C hP hf hS) hS (g_in C hS) ok_X6_checkpoint gw_31 rfl (by decide) (by decide) rfl hl.1 ⟨Nat.le_of_ble_eq_true rfl, Nat.le_of_ble_eq_true rfl⟩ ⟨hcs.1, hcs.2⟩ (Nat.le_of_ble_eq_true rfl) dL_law_1248 rfl (fun H1 locs1 hP1 hf1 hS1 hz1 => ?_)
  have ha := z_ado_go ha hz1
  clear hP hf hS hM9
  have hP := hP1; have hf := hf1; have hS := hS1; clear hP1 hf1 hS1 hz1
  refine lv_istore (lv' := [(6, .int v), (5, .int (nI code)), (4, .int (nI i)), (3, .ref (ad 66)), (2, .ref (ad 60)), (1, .ref (ad 0)), (0, .ref b)]) hx hb dL_law_1251 hl (by decide) rfl (fun ls hl => ?_)
  refine lv_aload_n hx hb dL_law_1253 rfl (lv_at hl 4 rfl) ?_
  have hM9 := c_X6_thrown hst (g_thr (B := B) (S := S2))
  refine v_callR (Y := I_X6_thrown) (As := []) (rest := []) (ci := 6) (T := TX6) (N := 15) (S := S2) (S1 := S2) (a := 60) (r := some (S2.2.1 60 0)) (g_F C) (hM9) ha hK hP (g_pre C hP hf hS) hS (g_in C hS) ok_X6_thrown gw_2 rfl (by decide) (by decide) rfl hl.1 ⟨Nat.le_of_ble_eq_true rfl, Nat.le_of_ble_eq_true rfl⟩ ⟨hcs.1, hcs.2⟩ (Nat.le_of_ble_eq_true rfl) dL_law_1254 rfl (fun H1 locs1 hP1 hf1 hS1 hz1 => ?_)
  have ha := z_ado_go ha hz1
  clear hP hf hS hM9
  have hP := hP1; have hf := hf1; have hS := hS1; clear hP1 hf1 hS1 hz1
  refine y_topi (v := nI code) k2 ?_
  refine lv_iload hx hb dL_law_1257 (lv_at hl 1 rfl) ?_
  refine lv_icmp_eq (tgt := 1264) hx hb dL_law_1259 (by decide) (fun _ => ?_) (fun h9 => absurd rfl h9)
  refine lv_iload hx hb dL_law_1264 (lv_at hl 1 rfl) ?_
  refine lv_if_ne (tgt := 1281) hx hb dL_law_1266 (by decide) (fun _ => ?_) (fun h0 => ?_)
  · refine lv_goto (tgt := 1477) hx hb dL_law_1281 (by decide) ?_
    exact next S2 _ _ _ k4 hP hf hS ha (lv_sub hl [2, 3, 4, 5, 6] rfl)
  · have hc0 := g_nz (Nat.le_trans hc (by decide)) h0
    refine lv_aload_n hx hb dL_law_1269 rfl (lv_at hl 3 rfl) ?_
    refine lv_iconst (v := 0) hx hb dL_law_1270 (by decide) ?_
    refine va_lald hx hb hK hP 66 3 v_l_at rfl (y_in (k := 0) (by decide) (by decide) (by show 0 < 0 * B + 1; omega)) dL_law_1271 ?_
    refine lv_iload hx hb dL_law_1272 (lv_at hl 0 rfl) ?_
    refine lv_i2l hx hb dL_law_1274 rfl ?_
    refine W.lcmp hx hb dL_law_1275 ?_
    refine y_topi (v := 0) (by rw [k5, show lg (Int32.toNatClampNeg 0) = w.toInt64 from hlg hc0, k3 hc0]; exact g_cmp _) ?_
    refine lv_if_eq (tgt := 1281) hx hb dL_law_1276 (by decide) (fun _ => ?_) (fun h9 => absurd rfl h9)
    refine lv_goto (tgt := 1477) hx hb dL_law_1281 (by decide) ?_
    exact next S2 _ _ _ k4 hP hf hS ha (lv_sub hl [2, 3, 4, 5, 6] rfl)
set_option maxRecDepth 100000 in
set_option maxHeartbeats 4000000 in
theorem g_back {p : Program} {l : Launch} {e : Env} {s : State} {m : MethodId} {below : List Frame} {meth : Method} {c : Code} {H : Heap} {locs : List Loc} {cells slots : Nat} {Q : State → Prop} {b L B J i : Nat} {xs : Nat → Int32} {D : va_G} {K : Nat → ClassId} {ad : Nat → Nat} {S : z_S} {ls : Array Slot} (C : g_C l p s m c b L xs D K ad) (hI : q_I B J S) (hi : i + 6 ≤ L) (hP : va_P D vwCl (z_ws B K ad S) H) (hf : z_fit S) (hS : va_S (g_A s) s.heap H locs) (ha : z_ado ad H.size) (hl : lv_has ls 7 (g_lv b ad i)) (hcs : cells + 1 ≤ 601024 ∧ slots + 6 ≤ 7293000) (next : g_nx l p e s m below meth c b B J i D K ad (cells + 1) (slots + 6) Q) : W p l e room_1 s m #[Value.ref b] below meth c H locs cells slots Q (F0 m 1284 ls []) := by
  obtain ⟨hx, hb, hml, hown, hts, hK, hX, hbl, hge, hst, hL, hz⟩ := id C
  have hl : lv_has ls 7 [(4, .int (nI i)), (3, .ref (ad 66)), (2, .ref (ad 60)), (1, .ref (ad 0)), (0, .ref b)] := hl
  refine lv_aload_n hx hb dL_law_1284 rfl (lv_at hl 3 rfl) ?_
  refine lv_aload_n hx hb dL_law_1285 rfl (lv_at hl 1 rfl) ?_
  obtain ⟨code, w, S1, hF, hc, hk⟩ := Z_back  S hI
  refine v_callL (n := 2) (X := J_back) (As := [.ref 0, .ref 66]) (rest := []) (S := S) (S1 := S1) (code := code) (P := fun lg => code = 0 → lg 0 = w.toInt64) (g_F C) (v_back hst hF (by exact hc)) ha (g_preV C hP hf hS) hS (g_in C hS) vc_back.1 vc_back.2.1 vc_back.2.2 gw_32 ⟨by decide, by decide, by decide +kernel⟩ rfl hl.1 ⟨Nat.le_of_ble_eq_true rfl, Nat.le_of_ble_eq_true rfl⟩ hcs (Nat.le_of_ble_eq_true rfl) dL_law_1286 rfl (fun lg H1 locs1 hlg hP1 hf1 hS1 hz1 => ?_)
  have ha := z_ado_go ha hz1
  clear hP hf hS
  have hP := hP1; have hf := hf1; have hS := hS1; clear hP1 hf1 hS1 hz1
  obtain ⟨v, S2, k1, k2, k3, k4, k5⟩ := hk lg
  refine lv_istore (lv' := [(5, .int (nI code)), (4, .int (nI i)), (3, .ref (ad 66)), (2, .ref (ad 60)), (1, .ref (ad 0)), (0, .ref b)]) hx hb dL_law_1289 hl (by decide) rfl (fun ls hl => ?_)
  refine lv_aload_n hx hb dL_law_1291 rfl (lv_at hl 3 rfl) ?_
  have hM9 := c_X6_back hst k1
  refine v_callR (Y := I_X6_back) (As := []) (rest := []) (ci := 6) (T := TX6) (N := 15) (S := q_ul S1 lg) (S1 := S2) (a := 60) (r := some v) (g_F C) (hM9) ha hK hP (g_pre C hP hf hS) hS (g_in C hS) ok_X6_back gw_33 rfl (by decide) (by decide) rfl hl.1 ⟨Nat.le_of_ble_eq_true rfl, Nat.le_of_ble_eq_true rfl⟩ ⟨hcs.1, hcs.2⟩ (Nat.le_of_ble_eq_true rfl) dL_law_1292 rfl (fun H1 locs1 hP1 hf1 hS1 hz1 => ?_)
  have ha := z_ado_go ha hz1
  clear hP hf hS hM9
  have hP := hP1; have hf := hf1; have hS := hS1; clear hP1 hf1 hS1 hz1
  refine lv_istore (lv' := [(6, .int v), (5, .int (nI code)), (4, .int (nI i)), (3, .ref (ad 66)), (2, .ref (ad 60)), (1, .ref (ad 0)), (0, .ref b)]) hx hb dL_law_1295 hl (by decide) rfl (fun ls hl => ?_)
  refine lv_aload_n hx hb dL_law_1297 rfl (lv_at hl 4 rfl) ?_
  have hM9 := c_X6_thrown hst (g_thr (B := B) (S := S2))
  refine v_callR (Y := I_X6_thrown) (As := []) (rest := []) (ci := 6) (T := TX6) (N := 15) (S := S2) (S1 := S2) (a := 60) (r := some (S2.2.1 60 0)) (g_F C) (hM9) ha hK hP (g_pre C hP hf hS) hS (g_in C hS) ok_X6_thrown gw_2 rfl (by decide) (by decide) rfl hl.1 ⟨Nat.le_of_ble_eq_true rfl, Nat.le_of_ble_eq_true rfl⟩ ⟨hcs.1, hcs.2⟩ (Nat.le_of_ble_eq_true rfl) dL_law_1298 rfl (fun H1 locs1 hP1 hf1 hS1 hz1 => ?_)
  have ha := z_ado_go ha hz1
  clear hP hf hS hM9
  have hP := hP1; have hf := hf1; have hS := hS1; clear hP1 hf1 hS1 hz1
  refine y_topi (v := nI code) k2 ?_
  refine lv_iload hx hb dL_law_1301 (lv_at hl 1 rfl) ?_
  refine lv_icmp_eq (tgt := 1308) hx hb dL_law_1303 (by decide) (fun _ => ?_) (fun h9 => absurd rfl h9)
  refine lv_iload hx hb dL_law_1308 (lv_at hl 1 rfl) ?_
  refine lv_if_ne (tgt := 1325) hx hb dL_law_1310 (by decide) (fun _ => ?_) (fun h0 => ?_)
  · refine lv_goto (tgt := 1477) hx hb dL_law_1325 (by decide) ?_
    exact next S2 _ _ _ k4 hP hf hS ha (lv_sub hl [2, 3, 4, 5, 6] rfl)
  · have hc0 := g_nz (Nat.le_trans hc (by decide)) h0
    refine lv_aload_n hx hb dL_law_1313 rfl (lv_at hl 3 rfl) ?_
    refine lv_iconst (v := 0) hx hb dL_law_1314 (by decide) ?_
    refine va_lald hx hb hK hP 66 3 v_l_at rfl (y_in (k := 0) (by decide) (by decide) (by show 0 < 0 * B + 1; omega)) dL_law_1315 ?_
    refine lv_iload hx hb dL_law_1316 (lv_at hl 0 rfl) ?_
    refine lv_i2l hx hb dL_law_1318 rfl ?_
    refine W.lcmp hx hb dL_law_1319 ?_
    refine y_topi (v := 0) (by rw [k5, show lg (Int32.toNatClampNeg 0) = w.toInt64 from hlg hc0, k3 hc0]; exact g_cmp _) ?_
    refine lv_if_eq (tgt := 1325) hx hb dL_law_1320 (by decide) (fun _ => ?_) (fun h9 => absurd rfl h9)
    refine lv_goto (tgt := 1477) hx hb dL_law_1325 (by decide) ?_
    exact next S2 _ _ _ k4 hP hf hS ha (lv_sub hl [2, 3, 4, 5, 6] rfl)
set_option maxRecDepth 100000 in
set_option maxHeartbeats 4000000 in
theorem g_fail {p : Program} {l : Launch} {e : Env} {s : State} {m : MethodId} {below : List Frame} {meth : Method} {c : Code} {H : Heap} {locs : List Loc} {cells slots : Nat} {Q : State → Prop} {b L B J i : Nat} {xs : Nat → Int32} {D : va_G} {K : Nat → ClassId} {ad : Nat → Nat} {S : z_S} {ls : Array Slot} (C : g_C l p s m c b L xs D K ad) (hI : q_I B J S) (hi : i + 6 ≤ L) (hP : va_P D vwCl (z_ws B K ad S) H) (hf : z_fit S) (hS : va_S (g_A s) s.heap H locs) (ha : z_ado ad H.size) (hl : lv_has ls 7 (g_lv b ad i)) (hcs : cells + 1 ≤ 601024 ∧ slots + 6 ≤ 7293000) (next : g_nx l p e s m below meth c b B J i D K ad (cells + 1) (slots + 6) Q) : W p l e room_1 s m #[Value.ref b] below meth c H locs cells slots Q (F0 m 1328 ls []) := by
  obtain ⟨hx, hb, hml, hown, hts, hK, hX, hbl, hge, hst, hL, hz⟩ := id C
  have hl : lv_has ls 7 [(4, .int (nI i)), (3, .ref (ad 66)), (2, .ref (ad 60)), (1, .ref (ad 0)), (0, .ref b)] := hl
  refine lv_aload_n hx hb dL_law_1328 rfl (lv_at hl 3 rfl) ?_
  refine lv_aload_n hx hb dL_law_1329 rfl (lv_at hl 4 rfl) ?_
  refine lv_iload hx hb dL_law_1330 (lv_at hl 0 rfl) ?_
  refine lv_iconst (v := 1) hx hb dL_law_1332 (by decide) ?_
  refine lv_iadd hx hb dL_law_1333 ?_
  refine y_topi (v := nI (i + 1)) (nI_add i 1) ?_
  refine g_sc (k := 1) C hS (by omega) dL_law_1334 ?_
  obtain ⟨code, S1, hF, hc, S2, k1, k2, k3, k4⟩ := Z_fail (p := xs (i + 1)) S hI
  refine v_callL (n := 2) (X := J_fail) (As := [.ref 0, .int (xs (i + 1))]) (rest := []) (S := S) (S1 := S1) (code := code) (P := fun lg => lg = S1.2.2) (g_F C) (v_fail hst hF (by exact hc)) ha (g_preV C hP hf hS) hS (g_in C hS) vc_fail.1 vc_fail.2.1 vc_fail.2.2 gw_34 ⟨by decide, by decide, by decide +kernel⟩ rfl hl.1 ⟨Nat.le_of_ble_eq_true rfl, Nat.le_of_ble_eq_true rfl⟩ hcs (Nat.le_of_ble_eq_true rfl) dL_law_1335 rfl (fun lg H1 locs1 hlg hP1 hf1 hS1 hz1 => ?_)
  have ha := z_ado_go ha hz1
  clear hP hf hS
  have hP := hP1; have hf := hf1; have hS := hS1; clear hP1 hf1 hS1 hz1
  subst hlg
  refine lv_istore (lv' := [(5, .int (nI code)), (4, .int (nI i)), (3, .ref (ad 66)), (2, .ref (ad 60)), (1, .ref (ad 0)), (0, .ref b)]) hx hb dL_law_1338 hl (by decide) rfl (fun ls hl => ?_)
  refine lv_aload_n hx hb dL_law_1340 rfl (lv_at hl 3 rfl) ?_
  refine lv_aload_n hx hb dL_law_1341 rfl (lv_at hl 5 rfl) ?_
  refine lv_iload hx hb dL_law_1342 (lv_at hl 1 rfl) ?_
  refine lv_iconst (v := 1) hx hb dL_law_1344 (by decide) ?_
  refine lv_iadd hx hb dL_law_1345 ?_
  refine y_topi (v := nI (i + 1)) (nI_add i 1) ?_
  refine g_sc (k := 1) C hS (by omega) dL_law_1346 ?_
  have hM9 := c_X6_fail hst k1
  refine v_callR (Y := I_X6_fail) (As := [.int (xs (i + 1))]) (rest := []) (ci := 6) (T := TX6) (N := 15) (S := S1) (S1 := S2) (a := 60) (r := none) (g_F C) (hM9) ha hK hP (g_pre C hP hf hS) hS (g_in C hS) ok_X6_fail gw_35 rfl (by decide) (by decide) rfl hl.1 ⟨Nat.le_of_ble_eq_true rfl, Nat.le_of_ble_eq_true rfl⟩ ⟨hcs.1, hcs.2⟩ (Nat.le_of_ble_eq_true rfl) dL_law_1347 rfl (fun H1 locs1 hP1 hf1 hS1 hz1 => ?_)
  have ha := z_ado_go ha hz1
  clear hP hf hS hM9
  have hP := hP1; have hf := hf1; have hS := hS1; clear hP1 hf1 hS1 hz1
  refine lv_aload_n hx hb dL_law_1350 rfl (lv_at hl 3 rfl) ?_
  have hM9 := c_X6_thrown hst (g_thr (B := B) (S := S2))
  refine v_callR (Y := I_X6_thrown) (As := []) (rest := []) (ci := 6) (T := TX6) (N := 15) (S := S2) (S1 := S2) (a := 60) (r := some (S2.2.1 60 0)) (g_F C) (hM9) ha hK hP (g_pre C hP hf hS) hS (g_in C hS) ok_X6_thrown gw_2 rfl (by decide) (by decide) rfl hl.1 ⟨Nat.le_of_ble_eq_true rfl, Nat.le_of_ble_eq_true rfl⟩ ⟨hcs.1, hcs.2⟩ (Nat.le_of_ble_eq_true rfl) dL_law_1351 rfl (fun H1 locs1 hP1 hf1 hS1 hz1 => ?_)
  have ha := z_ado_go ha hz1
  clear hP hf hS hM9
  have hP := hP1; have hf := hf1; have hS := hS1; clear hP1 hf1 hS1 hz1
  refine y_topi (v := nI code) k2 ?_
  refine lv_iload hx hb dL_law_1354 (lv_at hl 0 rfl) ?_
  refine lv_icmp_eq (tgt := 1361) hx hb dL_law_1356 (by decide) (fun _ => ?_) (fun h9 => absurd rfl h9)
  refine lv_goto (tgt := 1477) hx hb dL_law_1361 (by decide) ?_
  exact next S2 _ _ _ k3 hP hf hS ha (lv_sub hl [1, 2, 3, 4, 5] rfl)
set_option maxRecDepth 100000 in
set_option maxHeartbeats 4000000 in
theorem g_off {p : Program} {l : Launch} {e : Env} {s : State} {m : MethodId} {below : List Frame} {meth : Method} {c : Code} {H : Heap} {locs : List Loc} {cells slots : Nat} {Q : State → Prop} {b L B J i : Nat} {xs : Nat → Int32} {D : va_G} {K : Nat → ClassId} {ad : Nat → Nat} {S : z_S} {ls : Array Slot} (C : g_C l p s m c b L xs D K ad) (hI : q_I B J S) (hi : i + 6 ≤ L) (hP : va_P D vwCl (z_ws B K ad S) H) (hf : z_fit S) (hS : va_S (g_A s) s.heap H locs) (ha : z_ado ad H.size) (hl : lv_has ls 7 (g_lv b ad i)) (hcs : cells + 1 ≤ 601024 ∧ slots + 6 ≤ 7293000) (next : g_nx l p e s m below meth c b B J i D K ad (cells + 1) (slots + 6) Q) : W p l e room_1 s m #[Value.ref b] below meth c H locs cells slots Q (F0 m 1364 ls []) := by
  obtain ⟨hx, hb, hml, hown, hts, hK, hX, hbl, hge, hst, hL, hz⟩ := id C
  have hl : lv_has ls 7 [(4, .int (nI i)), (3, .ref (ad 66)), (2, .ref (ad 60)), (1, .ref (ad 0)), (0, .ref b)] := hl
  obtain ⟨v, S2, h1, h2, h3, h4⟩ := Z_off S hI
  refine lv_aload_n hx hb dL_law_1364 rfl (lv_at hl 3 rfl) ?_
  have hM9 := c_X5_off hst h1
  refine v_callR (Y := I_X5_off) (As := []) (rest := []) (ci := 5) (T := TX5) (N := 8) (S := S) (S1 := S) (a := 0) (r := some v) (g_F C) (hM9) ha hK hP (g_pre C hP hf hS) hS (g_in C hS) ok_X5_off gw_36 rfl (by decide) (by decide) rfl hl.1 ⟨Nat.le_of_ble_eq_true rfl, Nat.le_of_ble_eq_true rfl⟩ ⟨Nat.le_trans (Nat.le_add_right _ _) hcs.1, Nat.le_trans (Nat.le_add_right _ _) hcs.2⟩ (Nat.le_of_ble_eq_true rfl) dL_law_1365 rfl (fun H1 locs1 hP1 hf1 hS1 hz1 => ?_)
  have ha := z_ado_go ha hz1
  clear hP hf hS hM9
  have hP := hP1; have hf := hf1; have hS := hS1; clear hP1 hf1 hS1 hz1
  refine lv_aload_n hx hb dL_law_1368 rfl (lv_at hl 2 rfl) ?_
  have hM9 := c_X6_off hst h2
  refine v_callR (Y := I_X6_off) (As := []) (rest := [.int v]) (ci := 6) (T := TX6) (N := 15) (S := S) (S1 := S2) (a := 60) (r := some v) (g_F C) (hM9) ha hK hP (g_pre C hP hf hS) hS (g_in C hS) ok_X6_off gw_37 rfl (by decide) (by decide) rfl hl.1 ⟨Nat.le_of_ble_eq_true rfl, Nat.le_of_ble_eq_true rfl⟩ ⟨Nat.le_trans (Nat.le_add_right _ _) hcs.1, Nat.le_trans (Nat.le_add_right _ _) hcs.2⟩ (Nat.le_of_ble_eq_true rfl) dL_law_1369 rfl (fun H1 locs1 hP1 hf1 hS1 hz1 => ?_)
  have ha := z_ado_go ha hz1
  clear hP hf hS hM9
  have hP := hP1; have hf := hf1; have hS := hS1; clear hP1 hf1 hS1 hz1
  refine lv_icmp_eq (tgt := 1477) hx hb dL_law_1372 (by decide) (fun _ => ?_) (fun h9 => absurd rfl h9)
  refine W.widen (k := cells + 1) (n := slots + 6) (by omega) (by omega) ?_
  exact next S2 _ _ ls h3 hP hf hS ha hl
set_option maxRecDepth 100000 in
set_option maxHeartbeats 4000000 in
theorem g_recover {p : Program} {l : Launch} {e : Env} {s : State} {m : MethodId} {below : List Frame} {meth : Method} {c : Code} {H : Heap} {locs : List Loc} {cells slots : Nat} {Q : State → Prop} {b L B J i : Nat} {xs : Nat → Int32} {D : va_G} {K : Nat → ClassId} {ad : Nat → Nat} {S : z_S} {ls : Array Slot} (C : g_C l p s m c b L xs D K ad) (hI : q_I B J S) (hi : i + 6 ≤ L) (hP : va_P D vwCl (z_ws B K ad S) H) (hf : z_fit S) (hS : va_S (g_A s) s.heap H locs) (ha : z_ado ad H.size) (hl : lv_has ls 7 (g_lv b ad i)) (hcs : cells + 1 ≤ 601024 ∧ slots + 6 ≤ 7293000) (next : g_nx l p e s m below meth c b B J i D K ad (cells + 1) (slots + 6) Q) : W p l e room_1 s m #[Value.ref b] below meth c H locs cells slots Q (F0 m 1377 ls []) := by
  obtain ⟨hx, hb, hml, hown, hts, hK, hX, hbl, hge, hst, hL, hz⟩ := id C
  have hl : lv_has ls 7 [(4, .int (nI i)), (3, .ref (ad 66)), (2, .ref (ad 60)), (1, .ref (ad 0)), (0, .ref b)] := hl
  refine lv_aload_n hx hb dL_law_1377 rfl (lv_at hl 3 rfl) ?_
  refine lv_aload_n hx hb dL_law_1378 rfl (lv_at hl 1 rfl) ?_
  obtain ⟨code, w, S1, hF, hc, hk⟩ := Z_recover  S hI
  refine v_callL (n := 2) (X := J_recover) (As := [.ref 0, .ref 66]) (rest := []) (S := S) (S1 := S1) (code := code) (P := fun lg => code = 0 → lg 0 = w.toInt64) (g_F C) (v_recover hst hF (by exact hc)) ha (g_preV C hP hf hS) hS (g_in C hS) vc_recover.1 vc_recover.2.1 vc_recover.2.2 gw_38 ⟨by decide, by decide, by decide +kernel⟩ rfl hl.1 ⟨Nat.le_of_ble_eq_true rfl, Nat.le_of_ble_eq_true rfl⟩ hcs (Nat.le_of_ble_eq_true rfl) dL_law_1379 rfl (fun lg H1 locs1 hlg hP1 hf1 hS1 hz1 => ?_)
  have ha := z_ado_go ha hz1
  clear hP hf hS
  have hP := hP1; have hf := hf1; have hS := hS1; clear hP1 hf1 hS1 hz1
  obtain ⟨v, S2, k1, k2, k3, k4, k5⟩ := hk lg
  refine lv_istore (lv' := [(5, .int (nI code)), (4, .int (nI i)), (3, .ref (ad 66)), (2, .ref (ad 60)), (1, .ref (ad 0)), (0, .ref b)]) hx hb dL_law_1382 hl (by decide) rfl (fun ls hl => ?_)
  refine lv_aload_n hx hb dL_law_1384 rfl (lv_at hl 3 rfl) ?_
  have hM9 := c_X6_recover hst k1
  refine v_callR (Y := I_X6_recover) (As := []) (rest := []) (ci := 6) (T := TX6) (N := 15) (S := q_ul S1 lg) (S1 := S2) (a := 60) (r := some v) (g_F C) (hM9) ha hK hP (g_pre C hP hf hS) hS (g_in C hS) ok_X6_recover gw_39 rfl (by decide) (by decide) rfl hl.1 ⟨Nat.le_of_ble_eq_true rfl, Nat.le_of_ble_eq_true rfl⟩ ⟨hcs.1, hcs.2⟩ (Nat.le_of_ble_eq_true rfl) dL_law_1385 rfl (fun H1 locs1 hP1 hf1 hS1 hz1 => ?_)
  have ha := z_ado_go ha hz1
  clear hP hf hS hM9
  have hP := hP1; have hf := hf1; have hS := hS1; clear hP1 hf1 hS1 hz1
  refine lv_istore (lv' := [(6, .int v), (5, .int (nI code)), (4, .int (nI i)), (3, .ref (ad 66)), (2, .ref (ad 60)), (1, .ref (ad 0)), (0, .ref b)]) hx hb dL_law_1388 hl (by decide) rfl (fun ls hl => ?_)
  refine lv_aload_n hx hb dL_law_1390 rfl (lv_at hl 4 rfl) ?_
  have hM9 := c_X6_thrown hst (g_thr (B := B) (S := S2))
  refine v_callR (Y := I_X6_thrown) (As := []) (rest := []) (ci := 6) (T := TX6) (N := 15) (S := S2) (S1 := S2) (a := 60) (r := some (S2.2.1 60 0)) (g_F C) (hM9) ha hK hP (g_pre C hP hf hS) hS (g_in C hS) ok_X6_thrown gw_2 rfl (by decide) (by decide) rfl hl.1 ⟨Nat.le_of_ble_eq_true rfl, Nat.le_of_ble_eq_true rfl⟩ ⟨hcs.1, hcs.2⟩ (Nat.le_of_ble_eq_true rfl) dL_law_1391 rfl (fun H1 locs1 hP1 hf1 hS1 hz1 => ?_)
  have ha := z_ado_go ha hz1
  clear hP hf hS hM9
  have hP := hP1; have hf := hf1; have hS := hS1; clear hP1 hf1 hS1 hz1
  refine y_topi (v := nI code) k2 ?_
  refine lv_iload hx hb dL_law_1394 (lv_at hl 1 rfl) ?_
  refine lv_icmp_eq (tgt := 1401) hx hb dL_law_1396 (by decide) (fun _ => ?_) (fun h9 => absurd rfl h9)
  refine lv_iload hx hb dL_law_1401 (lv_at hl 1 rfl) ?_
  refine lv_if_ne (tgt := 1418) hx hb dL_law_1403 (by decide) (fun _ => ?_) (fun h0 => ?_)
  · refine lv_goto (tgt := 1477) hx hb dL_law_1418 (by decide) ?_
    exact next S2 _ _ _ k4 hP hf hS ha (lv_sub hl [2, 3, 4, 5, 6] rfl)
  · have hc0 := g_nz (Nat.le_trans hc (by decide)) h0
    refine lv_aload_n hx hb dL_law_1406 rfl (lv_at hl 3 rfl) ?_
    refine lv_iconst (v := 0) hx hb dL_law_1407 (by decide) ?_
    refine va_lald hx hb hK hP 66 3 v_l_at rfl (y_in (k := 0) (by decide) (by decide) (by show 0 < 0 * B + 1; omega)) dL_law_1408 ?_
    refine lv_iload hx hb dL_law_1409 (lv_at hl 0 rfl) ?_
    refine lv_i2l hx hb dL_law_1411 rfl ?_
    refine W.lcmp hx hb dL_law_1412 ?_
    refine y_topi (v := 0) (by rw [k5, show lg (Int32.toNatClampNeg 0) = w.toInt64 from hlg hc0, k3 hc0]; exact g_cmp _) ?_
    refine lv_if_eq (tgt := 1418) hx hb dL_law_1413 (by decide) (fun _ => ?_) (fun h9 => absurd rfl h9)
    refine lv_goto (tgt := 1477) hx hb dL_law_1418 (by decide) ?_
    exact next S2 _ _ _ k4 hP hf hS ha (lv_sub hl [2, 3, 4, 5, 6] rfl)
set_option maxRecDepth 100000 in
set_option maxHeartbeats 4000000 in
theorem g_count {p : Program} {l : Launch} {e : Env} {s : State} {m : MethodId} {below : List Frame} {meth : Method} {c : Code} {H : Heap} {locs : List Loc} {cells slots : Nat} {Q : State → Prop} {b L B J i : Nat} {xs : Nat → Int32} {D : va_G} {K : Nat → ClassId} {ad : Nat → Nat} {S : z_S} {ls : Array Slot} (C : g_C l p s m c b L xs D K ad) (hI : q_I B J S) (hi : i + 6 ≤ L) (hP : va_P D vwCl (z_ws B K ad S) H) (hf : z_fit S) (hS : va_S (g_A s) s.heap H locs) (ha : z_ado ad H.size) (hl : lv_has ls 7 (g_lv b ad i)) (hcs : cells + 1 ≤ 601024 ∧ slots + 6 ≤ 7293000) (next : g_nx l p e s m below meth c b B J i D K ad (cells + 1) (slots + 6) Q) : W p l e room_1 s m #[Value.ref b] below meth c H locs cells slots Q (F0 m 1421 ls []) := by
  obtain ⟨hx, hb, hml, hown, hts, hK, hX, hbl, hge, hst, hL, hz⟩ := id C
  have hl : lv_has ls 7 [(4, .int (nI i)), (3, .ref (ad 66)), (2, .ref (ad 60)), (1, .ref (ad 0)), (0, .ref b)] := hl
  refine lv_aload_n hx hb dL_law_1421 rfl (lv_at hl 3 rfl) ?_
  refine lv_aload_n hx hb dL_law_1422 rfl (lv_at hl 4 rfl) ?_
  refine lv_iload hx hb dL_law_1423 (lv_at hl 0 rfl) ?_
  refine lv_iconst (v := 1) hx hb dL_law_1425 (by decide) ?_
  refine lv_iadd hx hb dL_law_1426 ?_
  refine y_topi (v := nI (i + 1)) (nI_add i 1) ?_
  refine g_sc (k := 1) C hS (by omega) dL_law_1427 ?_
  refine lv_aload_n hx hb dL_law_1428 rfl (lv_at hl 1 rfl) ?_
  obtain ⟨code, w, S1, hF, hc, hk⟩ := Z_count (p := xs (i + 1)) S hI
  refine v_callL (n := 3) (X := J_count) (As := [.ref 0, .int (xs (i + 1)), .ref 66]) (rest := []) (S := S) (S1 := S1) (code := code) (P := fun lg => code = 0 → lg 0 = w.toInt64) (g_F C) (v_count hst hF (by exact hc)) ha (g_preV C hP hf hS) hS (g_in C hS) vc_count.1 vc_count.2.1 vc_count.2.2 gw_40 ⟨by decide, by decide, by decide +kernel⟩ rfl hl.1 ⟨Nat.le_of_ble_eq_true rfl, Nat.le_of_ble_eq_true rfl⟩ hcs (Nat.le_of_ble_eq_true rfl) dL_law_1429 rfl (fun lg H1 locs1 hlg hP1 hf1 hS1 hz1 => ?_)
  have ha := z_ado_go ha hz1
  clear hP hf hS
  have hP := hP1; have hf := hf1; have hS := hS1; clear hP1 hf1 hS1 hz1
  obtain ⟨v, S2, k1, k2, k3, k4, k5⟩ := hk lg
  refine lv_istore (lv' := [(5, .int (nI code)), (4, .int (nI i)), (3, .ref (ad 66)), (2, .ref (ad 60)), (1, .ref (ad 0)), (0, .ref b)]) hx hb dL_law_1432 hl (by decide) rfl (fun ls hl => ?_)
  refine lv_aload_n hx hb dL_law_1434 rfl (lv_at hl 3 rfl) ?_
  refine lv_aload_n hx hb dL_law_1435 rfl (lv_at hl 5 rfl) ?_
  refine lv_iload hx hb dL_law_1436 (lv_at hl 1 rfl) ?_
  refine lv_iconst (v := 1) hx hb dL_law_1438 (by decide) ?_
  refine lv_iadd hx hb dL_law_1439 ?_
  refine y_topi (v := nI (i + 1)) (nI_add i 1) ?_
  refine g_sc (k := 1) C hS (by omega) dL_law_1440 ?_
  have hM9 := c_X6_count hst k1
  refine v_callR (Y := I_X6_count) (As := [.int (xs (i + 1))]) (rest := []) (ci := 6) (T := TX6) (N := 15) (S := q_ul S1 lg) (S1 := S2) (a := 60) (r := some v) (g_F C) (hM9) ha hK hP (g_pre C hP hf hS) hS (g_in C hS) ok_X6_count gw_41 rfl (by decide) (by decide) rfl hl.1 ⟨Nat.le_of_ble_eq_true rfl, Nat.le_of_ble_eq_true rfl⟩ ⟨hcs.1, hcs.2⟩ (Nat.le_of_ble_eq_true rfl) dL_law_1441 rfl (fun H1 locs1 hP1 hf1 hS1 hz1 => ?_)
  have ha := z_ado_go ha hz1
  clear hP hf hS hM9
  have hP := hP1; have hf := hf1; have hS := hS1; clear hP1 hf1 hS1 hz1
  refine lv_istore (lv' := [(6, .int v), (5, .int (nI code)), (4, .int (nI i)), (3, .ref (ad 66)), (2, .ref (ad 60)), (1, .ref (ad 0)), (0, .ref b)]) hx hb dL_law_1444 hl (by decide) rfl (fun ls hl => ?_)
  refine lv_aload_n hx hb dL_law_1446 rfl (lv_at hl 4 rfl) ?_
  have hM9 := c_X6_thrown hst (g_thr (B := B) (S := S2))
  refine v_callR (Y := I_X6_thrown) (As := []) (rest := []) (ci := 6) (T := TX6) (N := 15) (S := S2) (S1 := S2) (a := 60) (r := some (S2.2.1 60 0)) (g_F C) (hM9) ha hK hP (g_pre C hP hf hS) hS (g_in C hS) ok_X6_thrown gw_2 rfl (by decide) (by decide) rfl hl.1 ⟨Nat.le_of_ble_eq_true rfl, Nat.le_of_ble_eq_true rfl⟩ ⟨hcs.1, hcs.2⟩ (Nat.le_of_ble_eq_true rfl) dL_law_1447 rfl (fun H1 locs1 hP1 hf1 hS1 hz1 => ?_)
  have ha := z_ado_go ha hz1
  clear hP hf hS hM9
  have hP := hP1; have hf := hf1; have hS := hS1; clear hP1 hf1 hS1 hz1
  refine y_topi (v := nI code) k2 ?_
  refine lv_iload hx hb dL_law_1450 (lv_at hl 1 rfl) ?_
  refine lv_icmp_eq (tgt := 1457) hx hb dL_law_1452 (by decide) (fun _ => ?_) (fun h9 => absurd rfl h9)
  refine lv_iload hx hb dL_law_1457 (lv_at hl 1 rfl) ?_
  refine lv_if_ne (tgt := 1474) hx hb dL_law_1459 (by decide) (fun _ => ?_) (fun h0 => ?_)
  · refine lv_goto (tgt := 1477) hx hb dL_law_1474 (by decide) ?_
    exact next S2 _ _ _ k4 hP hf hS ha (lv_sub hl [2, 3, 4, 5, 6] rfl)
  · have hc0 := g_nz (Nat.le_trans hc (by decide)) h0
    refine lv_aload_n hx hb dL_law_1462 rfl (lv_at hl 3 rfl) ?_
    refine lv_iconst (v := 0) hx hb dL_law_1463 (by decide) ?_
    refine va_lald hx hb hK hP 66 3 v_l_at rfl (y_in (k := 0) (by decide) (by decide) (by show 0 < 0 * B + 1; omega)) dL_law_1464 ?_
    refine lv_iload hx hb dL_law_1465 (lv_at hl 0 rfl) ?_
    refine lv_i2l hx hb dL_law_1467 rfl ?_
    refine W.lcmp hx hb dL_law_1468 ?_
    refine y_topi (v := 0) (by rw [k5, show lg (Int32.toNatClampNeg 0) = w.toInt64 from hlg hc0, k3 hc0]; exact g_cmp _) ?_
    refine lv_if_eq (tgt := 1474) hx hb dL_law_1469 (by decide) (fun _ => ?_) (fun h9 => absurd rfl h9)
    refine lv_goto (tgt := 1477) hx hb dL_law_1474 (by decide) ?_
    exact next S2 _ _ _ k4 hP hf hS ha (lv_sub hl [2, 3, 4, 5, 6] rfl)
