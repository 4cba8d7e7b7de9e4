abbrev I_X5_node : z_I := (yX5_node, cX5_node, 6, some .int)
abbrev R_X5_node (q : z_O × z_S) : Room := { frames := 7, locals := 110, cells := z_mc q.1, slots := 6 * z_mc q.1 }
def F_X5_node (B : Nat) (p1 : Int32) (p2 : Int32) (p3 : Int32) (S : z_S) : Option (z_O × z_S) :=
  z_bv (F_X5_needPower B S) fun S2 =>
  (z_bn (F_X4_nodeAt B 2 p1 p2 S2) fun r4 S5 =>
  (if r4 = (-1) then
    some (.inr "java/lang/IndexOutOfBoundsException", S5)
  else
    if p3 = 0 then
      some (.inl (some r4), S5)
    else if p3 = 1 then
      z_gd (z_inb r4 B) (
      z_lt (S5.1 5 (z_ix (r4))) fun x8 =>
      (some (.inl (some x8), S5)))
    else if p3 = 2 then
      z_gd (z_inb r4 B) (
      z_lt (S5.1 6 (z_ix (r4))) fun x10 =>
      (some (.inl (some x10), S5)))
    else if p3 = 3 then
      z_gd (z_inb r4 B) (
      z_lt (S5.1 7 (z_ix (r4))) fun x12 =>
      (some (.inl (some x12), S5)))
    else 
      some (.inr "java/lang/IllegalArgumentException", S5)))
set_option maxRecDepth 20000 in
set_option maxHeartbeats 16000000 in
theorem c_X5_node {l : Launch} {B : Nat} {p1 : Int32} {p2 : Int32} {p3 : Int32} {S : z_S} {q : z_O × z_S} (hst : l.stackTraces = false) (hF : F_X5_node B p1 p2 p3 S = some q) : z_Met l I_X5_node 7 110 B [.ref 0, .int p1, .int p2, .int p3] S q.1 q.2 := by
  refine z_enter (ls := [some (.ref 0), some (.int p1), some (.int p2), some (.int p3), none, none]) (n := 2) (by decide) rfl (Nat.le_of_ble_eq_true rfl) hst ?_
  unfold F_X5_node at hF
  refine z_aload_n (pc' := 1) dX5_node_0 rfl rfl rfl ?_
  rcases z_bve hF with ⟨S2, hc3, hF⟩ | ⟨E9, S9, hc3, hq9⟩
  rotate_left
  · exact kx_X5_needPower (F := 7) (L := 110) hc3 hq9 hst zw_57 rfl rfl (by decide) (by decide) ⟨rfl, rfl⟩ (by decide) dX5_node_1
  refine k_X5_needPower (F := 7) (L := 110) (pc' := 4) hc3 hst zw_57 rfl rfl (by decide) (by decide) (by decide) dX5_node_1 rfl ?_
  refine z_aload_n (pc' := 5) dX5_node_4 rfl rfl rfl ?_
  refine gf_X5_22 (b := 1) (pc' := 8) rfl is_5_0 rfl dX5_node_5 rfl ?_
  refine gf_X5_92 (b := 2) (pc' := 11) rfl (is_5_f1 is_5_0) rfl dX5_node_8 rfl ?_
  refine z_astore (pc' := 13) dX5_node_11 (by decide) rfl rfl ?_
  refine z_aload (pc' := 15) dX5_node_13 rfl rfl ?_
  refine z_iload_n (pc' := 16) dX5_node_15 rfl rfl rfl ?_
  refine z_iload_n (pc' := 17) dX5_node_16 rfl rfl rfl ?_
  obtain ⟨r4, S5, hc6, hF⟩ := z_bne hF
  refine k_X4_nodeAt (F := 7) (L := 110) (pc' := 20) (is_0_f0 (is_5_f1 is_5_0)) hc6 hst zw_88 rfl rfl (by decide) (by decide) (by decide) dX5_node_17 rfl ?_
  refine z_istore (pc' := 22) dX5_node_20 (by decide) rfl rfl ?_
  refine z_iload (pc' := 24) dX5_node_22 rfl rfl ?_
  refine z_iconst (v := (-1)) (pc' := 25) dX5_node_24 (by decide) rfl ?_
  refine z_icmp_ne (tgt := 38) (pc' := 28) dX5_node_25 (by decide) rfl (fun c17 => ?_) (fun c17 => ?_)
  · rw [if_neg c17] at hF
    refine z_iload_n (pc' := 39) dX5_node_38 rfl rfl rfl ?_
    by_cases c13 : p3 = 0
    · rw [if_pos c13] at hF
      refine z_tswIn (tgt := 68) dX5_node_39 (by rw [c13]; decide) (by rw [c13]; decide) (by rw [c13]; rfl) (by decide) ?_
      refine z_iload (pc' := 70) dX5_node_68 rfl rfl ?_
      exact z_ireturn rfl dX5_node_70 (Option.some.inj hF).symm
    rw [if_neg c13] at hF
    by_cases c14 : p3 = 1
    · rw [if_pos c14] at hF
      refine z_tswIn (tgt := 71) dX5_node_39 (by rw [c14]; decide) (by rw [c14]; decide) (by rw [c14]; rfl) (by decide) ?_
      refine z_aload (pc' := 73) dX5_node_71 rfl rfl ?_
      refine gf_X5_210 (b := 5) (pc' := 76) rfl (is_0_f0 (is_5_f1 is_5_0)) rfl dX5_node_73 rfl ?_
      refine z_iload (pc' := 78) dX5_node_76 rfl rfl ?_
      obtain ⟨g7, hF⟩ := z_gde hF
      refine z_iaload (pc' := 79) (ar_4_f3 (is_0_f0 (is_5_f1 is_5_0))) (z_inbe g7) dX5_node_78 rfl ?_
      refine z_topi (fun x8 ex8 => ?_)
      replace hF := z_lte hF x8 ex8
      exact z_ireturn rfl dX5_node_79 (Option.some.inj hF).symm
    rw [if_neg c14] at hF
    by_cases c15 : p3 = 2
    · rw [if_pos c15] at hF
      refine z_tswIn (tgt := 80) dX5_node_39 (by rw [c15]; decide) (by rw [c15]; decide) (by rw [c15]; rfl) (by decide) ?_
      refine z_aload (pc' := 82) dX5_node_80 rfl rfl ?_
      refine gf_X5_213 (b := 6) (pc' := 85) rfl (is_0_f0 (is_5_f1 is_5_0)) rfl dX5_node_82 rfl ?_
      refine z_iload (pc' := 87) dX5_node_85 rfl rfl ?_
      obtain ⟨g9, hF⟩ := z_gde hF
      refine z_iaload (pc' := 88) (ar_4_f4 (is_0_f0 (is_5_f1 is_5_0))) (z_inbe g9) dX5_node_87 rfl ?_
      refine z_topi (fun x10 ex10 => ?_)
      replace hF := z_lte hF x10 ex10
      exact z_ireturn rfl dX5_node_88 (Option.some.inj hF).symm
    rw [if_neg c15] at hF
    by_cases c16 : p3 = 3
    · rw [if_pos c16] at hF
      refine z_tswIn (tgt := 89) dX5_node_39 (by rw [c16]; decide) (by rw [c16]; decide) (by rw [c16]; rfl) (by decide) ?_
      refine z_aload (pc' := 91) dX5_node_89 rfl rfl ?_
      refine gf_X5_216 (b := 7) (pc' := 94) rfl (is_0_f0 (is_5_f1 is_5_0)) rfl dX5_node_91 rfl ?_
      refine z_iload (pc' := 96) dX5_node_94 rfl rfl ?_
      obtain ⟨g11, hF⟩ := z_gde hF
      refine z_iaload (pc' := 97) (ar_4_f5 (is_0_f0 (is_5_f1 is_5_0))) (z_inbe g11) dX5_node_96 rfl ?_
      refine z_topi (fun x12 ex12 => ?_)
      replace hF := z_lte hF x12 ex12
      exact z_ireturn rfl dX5_node_97 (Option.some.inj hF).symm
    rw [if_neg c16] at hF
    refine z_tswOut (tgt := 98) dX5_node_39 (z_out0_3 c13 c14 c15 c16) (by decide) ?_
    exact z_throwS (text := "nothing of that number is told of a node") (names := ["java/lang/RuntimeException", "java/lang/Exception"]) rfl (Option.some.inj hF).symm (by decide +kernel) (by decide +kernel) (by decide +kernel) zw_48 zw_49 z_at_159 dX5_node_98 dX5_node_101 dX5_node_102 dX5_node_104 dX5_node_107 ⟨by show (_ : Nat) ≤ 7; decide, by show (_ : Nat) ≤ 110; decide⟩ ⟨rfl, rfl⟩
  · rw [if_pos c17] at hF
    exact z_throwS (text := "no such node") (names := ["java/lang/RuntimeException", "java/lang/Exception"]) rfl (Option.some.inj hF).symm (by decide +kernel) (by decide +kernel) (by decide +kernel) zw_46 zw_47 z_at_168 dX5_node_28 dX5_node_31 dX5_node_32 dX5_node_34 dX5_node_37 ⟨by show (_ : Nat) ≤ 7; decide, by show (_ : Nat) ≤ 110; decide⟩ ⟨rfl, rfl⟩
theorem ok_X5_node : z_okV I_X5_node 3 := ⟨⟨z_Gin (List.mem_of_getElem? (i := 748) (by decide +kernel)) rfl, z_Gin (List.mem_of_getElem? (i := 749) (by decide +kernel)) rfl, z_Gin (List.mem_of_getElem? (i := 89) (by decide +kernel)) rfl, z_Gin (List.mem_of_getElem? (i := 750) (by decide +kernel)) rfl⟩, by decide, by decide, by decide +kernel⟩
theorem k_X5_node {l : Launch} {I : z_I} {R : Room} {B : Nat} {p1 : Int32} {p2 : Int32} {p3 : Int32} {q : z_O × z_S} {pc pc' : Nat} {ls : List (Option Value)} {st : List Value} {S S1 : z_S} {idx F L : Nat} {r : Int32}  (hF : F_X5_node B p1 p2 p3 S = some (.inl (some r), S1)) (hst : l.stackTraces = false) (w : Cond.methodLink I.1.cls idx yX5_node ∈ z_G) (hRF : R.frames = F) (hRL : R.locals = L) (h1 : 8 ≤ F) (h2 : 135 ≤ L) (hs : (st.map fun v => v.category).sum ≤ 8) (d : decode I.2.1 pc = .ok (.invokevirtual idx, 3)) (hp : pc + 3 = pc') (k : z_W l I R B q pc' ls (.int r :: st) S1) : z_W l I R B q pc ls (.int p3 :: .int p2 :: .int p1 :: .ref 0 :: st) S := z_callV (Y := I_X5_node) (As := [.int p1, .int p2, .int p3]) (st := st) (r := (some r)) (S1 := S1) (c_X5_node (q := (.inl (some r), S1)) hst hF) ok_X5_node w (ci := 5) rfl is_5_0.1 is_5_0.2 rfl ⟨by rw [hRF]; exact h1, by rw [hRL]; exact h2⟩ hs d hp rfl k
theorem kx_X5_node {l : Launch} {I : z_I} {R : Room} {B : Nat} {p1 : Int32} {p2 : Int32} {p3 : Int32} {q : z_O × z_S} {pc : Nat} {ls : List (Option Value)} {st : List Value} {S S1 : z_S} {idx F L : Nat} {E : String}  (hF : F_X5_node B p1 p2 p3 S = some (.inr E, S1)) (hq : q = (.inr E, S1)) (hst : l.stackTraces = false) (w : Cond.methodLink I.1.cls idx yX5_node ∈ z_G) (hRF : R.frames = F) (hRL : R.locals = L) (h1 : 8 ≤ F) (h2 : 135 ≤ L) (hRc : R.cells = z_mc q.1 ∧ R.slots = 6 * z_mc q.1) (hs : (st.map fun v => v.category).sum ≤ 8) (d : decode I.2.1 pc = .ok (.invokevirtual idx, 3)) : z_W l I R B q pc ls (.int p3 :: .int p2 :: .int p1 :: .ref 0 :: st) S := z_callVX (Y := I_X5_node) (As := [.int p1, .int p2, .int p3]) (st := st) (E := E) (S1 := S1) (c_X5_node (q := (.inr E, S1)) hst hF) hq ok_X5_node w (ci := 5) rfl is_5_0.1 is_5_0.2 rfl ⟨by rw [hRF]; exact h1, by rw [hRL]; exact h2⟩ hRc hs d rfl

abbrev I_X5_item : z_I := (yX5_item, cX5_item, 5, some .int)
abbrev R_X5_item (q : z_O × z_S) : Room := { frames := 7, locals := 110, cells := z_mc q.1, slots := 6 * z_mc q.1 }
def F_X5_item (B : Nat) (p1 : Int32) (p2 : Int32) (S : z_S) : Option (z_O × z_S) :=
  z_bv (F_X5_needPower B S) fun S2 =>
  (z_bn (F_X4_leftmost B 2 0 S2) fun r4 S5 =>
  (z_bn (F_X4_slotFrom B 2 r4 p1 S5) fun r7 S8 =>
  (if r7 = (-1) then
    some (.inr "java/lang/IndexOutOfBoundsException", S8)
  else
    if p2 = 0 then
      z_gd (z_inb r7 (14 * B)) (
      z_lt (S8.1 11 (z_ix (r7))) fun x11 =>
      (z_bn (F_X5_objectOf B x11 S8) fun r12 S13 =>
      (some (.inl (some r12), S13))))
    else if p2 = 1 then
      z_gd (z_inb r7 (14 * B)) (
      z_lt (S8.1 11 (z_ix (r7))) fun x16 =>
      (z_bn (F_X5_kindOf B x16 S8) fun r17 S18 =>
      (some (.inl (some r17), S18))))
    else if p2 = 2 then
      z_gd (z_inb r7 (14 * B)) (
      z_lt (S8.1 11 (z_ix (r7))) fun x21 =>
      (z_bn (F_X5_nameOf B x21 S8) fun r22 S23 =>
      (some (.inl (some r22), S23))))
    else if p2 = 3 then
      z_gd (z_inb r7 (14 * B)) (
      z_lt (S8.1 12 (z_ix (r7))) fun x26 =>
      (some (.inl (some x26), S8)))
    else if p2 = 4 then
      some (.inl (some (r7 / 14)), S8)
    else 
      some (.inr "java/lang/IllegalArgumentException", S8))))
set_option maxRecDepth 20000 in
set_option maxHeartbeats 16000000 in
theorem c_X5_item {l : Launch} {B : Nat} {p1 : Int32} {p2 : Int32} {S : z_S} {q : z_O × z_S} (hst : l.stackTraces = false) (hF : F_X5_item B p1 p2 S = some q) : z_Met l I_X5_item 7 110 B [.ref 0, .int p1, .int p2] S q.1 q.2 := by
  refine z_enter (ls := [some (.ref 0), some (.int p1), some (.int p2), none, none]) (n := 2) (by decide) rfl (Nat.le_of_ble_eq_true rfl) hst ?_
  unfold F_X5_item at hF
  refine z_aload_n (pc' := 1) dX5_item_0 rfl rfl rfl ?_
  rcases z_bve hF with ⟨S2, hc3, hF⟩ | ⟨E9, S9, hc3, hq9⟩
  rotate_left
  · exact kx_X5_needPower (F := 7) (L := 110) hc3 hq9 hst zw_57 rfl rfl (by decide) (by decide) ⟨rfl, rfl⟩ (by decide) dX5_item_1
  refine k_X5_needPower (F := 7) (L := 110) (pc' := 4) hc3 hst zw_57 rfl rfl (by decide) (by decide) (by decide) dX5_item_1 rfl ?_
  refine z_aload_n (pc' := 5) dX5_item_4 rfl rfl rfl ?_
  refine gf_X5_22 (b := 1) (pc' := 8) rfl is_5_0 rfl dX5_item_5 rfl ?_
  refine gf_X5_92 (b := 2) (pc' := 11) rfl (is_5_f1 is_5_0) rfl dX5_item_8 rfl ?_
  refine z_astore_n (pc' := 12) dX5_item_11 rfl (by decide) rfl rfl ?_
  refine z_aload_n (pc' := 13) dX5_item_12 rfl rfl rfl ?_
  refine z_aload_n (pc' := 14) dX5_item_13 rfl rfl rfl ?_
  refine z_iconst (v := 0) (pc' := 15) dX5_item_14 (by decide) rfl ?_
  obtain ⟨r4, S5, hc6, hF⟩ := z_bne hF
  refine k_X4_leftmost (F := 7) (L := 110) (pc' := 18) (is_0_f0 (is_5_f1 is_5_0)) hc6 hst zw_89 rfl rfl (by decide) (by decide) (Nat.le_of_ble_eq_true rfl) dX5_item_15 rfl ?_
  refine z_iload_n (pc' := 19) dX5_item_18 rfl rfl rfl ?_
  obtain ⟨r7, S8, hc9, hF⟩ := z_bne hF
  refine k_X4_slotFrom (F := 7) (L := 110) (pc' := 22) (is_0_f0 (is_5_f1 is_5_0)) hc9 hst zw_90 rfl rfl (by decide) (by decide) (by decide) dX5_item_19 rfl ?_
  refine z_istore (pc' := 24) dX5_item_22 (by decide) rfl rfl ?_
  refine z_iload (pc' := 26) dX5_item_24 rfl rfl ?_
  refine z_iconst (v := (-1)) (pc' := 27) dX5_item_26 (by decide) rfl ?_
  refine z_icmp_ne (tgt := 40) (pc' := 30) dX5_item_27 (by decide) rfl (fun c32 => ?_) (fun c32 => ?_)
  · rw [if_neg c32] at hF
    refine z_iload_n (pc' := 41) dX5_item_40 rfl rfl rfl ?_
    by_cases c27 : p2 = 0
    · rw [if_pos c27] at hF
      refine z_tswIn (tgt := 76) dX5_item_41 (by rw [c27]; decide) (by rw [c27]; decide) (by rw [c27]; rfl) (by decide) ?_
      refine z_aload_n (pc' := 77) dX5_item_76 rfl rfl rfl ?_
      refine gf_X5_180 (b := 11) (pc' := 80) rfl (is_0_f0 (is_5_f1 is_5_0)) rfl dX5_item_77 rfl ?_
      refine z_iload (pc' := 82) dX5_item_80 rfl rfl ?_
      obtain ⟨g10, hF⟩ := z_gde hF
      refine z_iaload (pc' := 83) (ar_4_f9 (is_0_f0 (is_5_f1 is_5_0))) (z_inbe g10) dX5_item_82 rfl ?_
      refine z_topi (fun x11 ex11 => ?_)
      replace hF := z_lte hF x11 ex11
      obtain ⟨r12, S13, hc14, hF⟩ := z_bne hF
      refine k_X5_objectOf (F := 7) (L := 110) (pc' := 86) hc14 hst zw_91 rfl rfl (by decide) (by decide) (by decide) dX5_item_83 rfl ?_
      exact z_ireturn rfl dX5_item_86 (Option.some.inj hF).symm
    rw [if_neg c27] at hF
    by_cases c28 : p2 = 1
    · rw [if_pos c28] at hF
      refine z_tswIn (tgt := 87) dX5_item_41 (by rw [c28]; decide) (by rw [c28]; decide) (by rw [c28]; rfl) (by decide) ?_
      refine z_aload_n (pc' := 88) dX5_item_87 rfl rfl rfl ?_
      refine gf_X5_180 (b := 11) (pc' := 91) rfl (is_0_f0 (is_5_f1 is_5_0)) rfl dX5_item_88 rfl ?_
      refine z_iload (pc' := 93) dX5_item_91 rfl rfl ?_
      obtain ⟨g15, hF⟩ := z_gde hF
      refine z_iaload (pc' := 94) (ar_4_f9 (is_0_f0 (is_5_f1 is_5_0))) (z_inbe g15) dX5_item_93 rfl ?_
      refine z_topi (fun x16 ex16 => ?_)
      replace hF := z_lte hF x16 ex16
      obtain ⟨r17, S18, hc19, hF⟩ := z_bne hF
      refine k_X5_kindOf (F := 7) (L := 110) (pc' := 97) hc19 hst zw_92 rfl rfl (by decide) (by decide) (by decide) dX5_item_94 rfl ?_
      exact z_ireturn rfl dX5_item_97 (Option.some.inj hF).symm
    rw [if_neg c28] at hF
    by_cases c29 : p2 = 2
    · rw [if_pos c29] at hF
      refine z_tswIn (tgt := 98) dX5_item_41 (by rw [c29]; decide) (by rw [c29]; decide) (by rw [c29]; rfl) (by decide) ?_
      refine z_aload_n (pc' := 99) dX5_item_98 rfl rfl rfl ?_
      refine gf_X5_180 (b := 11) (pc' := 102) rfl (is_0_f0 (is_5_f1 is_5_0)) rfl dX5_item_99 rfl ?_
      refine z_iload (pc' := 104) dX5_item_102 rfl rfl ?_
      obtain ⟨g20, hF⟩ := z_gde hF
      refine z_iaload (pc' := 105) (ar_4_f9 (is_0_f0 (is_5_f1 is_5_0))) (z_inbe g20) dX5_item_104 rfl ?_
      refine z_topi (fun x21 ex21 => ?_)
      replace hF := z_lte hF x21 ex21
      obtain ⟨r22, S23, hc24, hF⟩ := z_bne hF
      refine k_X5_nameOf (F := 7) (L := 110) (pc' := 108) hc24 hst zw_87 rfl rfl (by decide) (by decide) (by decide) dX5_item_105 rfl ?_
      exact z_ireturn rfl dX5_item_108 (Option.some.inj hF).symm
    rw [if_neg c29] at hF
    by_cases c30 : p2 = 3
    · rw [if_pos c30] at hF
      refine z_tswIn (tgt := 109) dX5_item_41 (by rw [c30]; decide) (by rw [c30]; decide) (by rw [c30]; rfl) (by decide) ?_
      refine z_aload_n (pc' := 110) dX5_item_109 rfl rfl rfl ?_
      refine gf_X5_235 (b := 12) (pc' := 113) rfl (is_0_f0 (is_5_f1 is_5_0)) rfl dX5_item_110 rfl ?_
      refine z_iload (pc' := 115) dX5_item_113 rfl rfl ?_
      obtain ⟨g25, hF⟩ := z_gde hF
      refine z_iaload (pc' := 116) (ar_4_f10 (is_0_f0 (is_5_f1 is_5_0))) (z_inbe g25) dX5_item_115 rfl ?_
      refine z_topi (fun x26 ex26 => ?_)
      replace hF := z_lte hF x26 ex26
      exact z_ireturn rfl dX5_item_116 (Option.some.inj hF).symm
    rw [if_neg c30] at hF
    by_cases c31 : p2 = 4
    · rw [if_pos c31] at hF
      refine z_tswIn (tgt := 117) dX5_item_41 (by rw [c31]; decide) (by rw [c31]; decide) (by rw [c31]; rfl) (by decide) ?_
      refine z_iload (pc' := 119) dX5_item_117 rfl rfl ?_
      refine z_bipush (v := 14) (pc' := 121) dX5_item_119 (by decide) rfl ?_
      refine z_idiv (pc' := 122) dX5_item_121 (by decide) rfl ?_
      exact z_ireturn rfl dX5_item_122 (Option.some.inj hF).symm
    rw [if_neg c31] at hF
    refine z_tswOut (tgt := 123) dX5_item_41 (z_out0_4 c27 c28 c29 c30 c31) (by decide) ?_
    exact z_throwS (text := "nothing of that number is told of an item") (names := ["java/lang/RuntimeException", "java/lang/Exception"]) rfl (Option.some.inj hF).symm (by decide +kernel) (by decide +kernel) (by decide +kernel) zw_48 zw_49 z_at_159 dX5_item_123 dX5_item_126 dX5_item_127 dX5_item_129 dX5_item_132 ⟨by show (_ : Nat) ≤ 7; decide, by show (_ : Nat) ≤ 110; decide⟩ ⟨rfl, rfl⟩
  · rw [if_pos c32] at hF
    exact z_throwS (text := "no such item") (names := ["java/lang/RuntimeException", "java/lang/Exception"]) rfl (Option.some.inj hF).symm (by decide +kernel) (by decide +kernel) (by decide +kernel) zw_46 zw_47 z_at_168 dX5_item_30 dX5_item_33 dX5_item_34 dX5_item_36 dX5_item_39 ⟨by show (_ : Nat) ≤ 7; decide, by show (_ : Nat) ≤ 110; decide⟩ ⟨rfl, rfl⟩
theorem ok_X5_item : z_okV I_X5_item 2 := ⟨⟨z_Gin (List.mem_of_getElem? (i := 761) (by decide +kernel)) rfl, z_Gin (List.mem_of_getElem? (i := 762) (by decide +kernel)) rfl, z_Gin (List.mem_of_getElem? (i := 89) (by decide +kernel)) rfl, z_Gin (List.mem_of_getElem? (i := 763) (by decide +kernel)) rfl⟩, by decide, by decide, by decide +kernel⟩
theorem k_X5_item {l : Launch} {I : z_I} {R : Room} {B : Nat} {p1 : Int32} {p2 : Int32} {q : z_O × z_S} {pc pc' : Nat} {ls : List (Option Value)} {st : List Value} {S S1 : z_S} {idx F L : Nat} {r : Int32}  (hF : F_X5_item B p1 p2 S = some (.inl (some r), S1)) (hst : l.stackTraces = false) (w : Cond.methodLink I.1.cls idx yX5_item ∈ z_G) (hRF : R.frames = F) (hRL : R.locals = L) (h1 : 8 ≤ F) (h2 : 134 ≤ L) (hs : (st.map fun v => v.category).sum ≤ 8) (d : decode I.2.1 pc = .ok (.invokevirtual idx, 3)) (hp : pc + 3 = pc') (k : z_W l I R B q pc' ls (.int r :: st) S1) : z_W l I R B q pc ls (.int p2 :: .int p1 :: .ref 0 :: st) S := z_callV (Y := I_X5_item) (As := [.int p1, .int p2]) (st := st) (r := (some r)) (S1 := S1) (c_X5_item (q := (.inl (some r), S1)) hst hF) ok_X5_item w (ci := 5) rfl is_5_0.1 is_5_0.2 rfl ⟨by rw [hRF]; exact h1, by rw [hRL]; exact h2⟩ hs d hp rfl k
theorem kx_X5_item {l : Launch} {I : z_I} {R : Room} {B : Nat} {p1 : Int32} {p2 : Int32} {q : z_O × z_S} {pc : Nat} {ls : List (Option Value)} {st : List Value} {S S1 : z_S} {idx F L : Nat} {E : String}  (hF : F_X5_item B p1 p2 S = some (.inr E, S1)) (hq : q = (.inr E, S1)) (hst : l.stackTraces = false) (w : Cond.methodLink I.1.cls idx yX5_item ∈ z_G) (hRF : R.frames = F) (hRL : R.locals = L) (h1 : 8 ≤ F) (h2 : 134 ≤ L) (hRc : R.cells = z_mc q.1 ∧ R.slots = 6 * z_mc q.1) (hs : (st.map fun v => v.category).sum ≤ 8) (d : decode I.2.1 pc = .ok (.invokevirtual idx, 3)) : z_W l I R B q pc ls (.int p2 :: .int p1 :: .ref 0 :: st) S := z_callVX (Y := I_X5_item) (As := [.int p1, .int p2]) (st := st) (E := E) (S1 := S1) (c_X5_item (q := (.inr E, S1)) hst hF) hq ok_X5_item w (ci := 5) rfl is_5_0.1 is_5_0.2 rfl ⟨by rw [hRF]; exact h1, by rw [hRL]; exact h2⟩ hRc hs d rfl

abbrev I_X5_markChanged : z_I := (yX5_markChanged, cX5_markChanged, 3, some .int)
abbrev R_X5_markChanged (q : z_O × z_S) : Room := { frames := 4, locals := 92, cells := z_mc q.1, slots := 6 * z_mc q.1 }
def F_X5_markChanged_65 (B : Nat) (k4 : Int32 → Int32 → z_S → Option (z_O × z_S)) (v1 : Int32) (v2 : Int32) (S : z_S) : Option (z_O × z_S) :=
  k4 v1 (v2 + 1) S
set_option maxRecDepth 20000 in
set_option maxHeartbeats 16000000 in
theorem ok_X5_markChanged_65 {l : Launch} {B : Nat} {q : z_O × z_S} (hst : l.stackTraces = false) {k4 : Int32 → Int32 → z_S → Option (z_O × z_S)} (hk4 : ∀ (v1 : Int32) (v2 : Int32) (S : z_S), k4 v1 v2 S = some q → z_W l I_X5_markChanged (R_X5_markChanged q) B q 4 [some (.ref 0), some (.int v1), some (.int v2)] [] S) : ∀ (v1 : Int32) (v2 : Int32) (S : z_S), F_X5_markChanged_65 B k4 v1 v2 S = some q → z_W l I_X5_markChanged (R_X5_markChanged q) B q 65 [some (.ref 0), some (.int v1), some (.int v2)] [] S := by
  intro v1 v2 S hF
  unfold F_X5_markChanged_65 at hF
  refine z_iinc (v := v2 + 1) (pc' := 68) dX5_markChanged_65 rfl rfl (by decide) rfl rfl ?_
  refine z_goto (pc' := 4) dX5_markChanged_68 (by decide) ?_
  refine z_wk (ls' := [some (.ref 0), some (.int v1), some (.int (v2 + 1))]) (z_lec rfl (z_lec rfl (z_lec rfl z_le0))) ?_
  exact hk4 _ _ _ hF
def F_X5_markChanged_52 (B : Nat) (k4 : Int32 → Int32 → z_S → Option (z_O × z_S)) (v1 : Int32) (v2 : Int32) (s0 : Int32) (s1 : Int32) (S : z_S) : Option (z_O × z_S) :=
  z_gd (z_inb s1 B) (
  z_lt (z_ua S 58 (upd (S.1 58) (z_ix (s1)) (vp_nar .boolean s0))) fun S2 =>
  (z_gd (z_inb v2 B) (
  z_lt (S2.1 58 (z_ix (v2))) fun x4 =>
  (if x4 = 0 then
    F_X5_markChanged_65 B k4 v1 v2 S2
  else
    F_X5_markChanged_65 B k4 (v1 + 1) v2 S2))))
set_option maxRecDepth 20000 in
set_option maxHeartbeats 16000000 in
theorem ok_X5_markChanged_52 {l : Launch} {B : Nat} {q : z_O × z_S} (hst : l.stackTraces = false) {k4 : Int32 → Int32 → z_S → Option (z_O × z_S)} (hk4 : ∀ (v1 : Int32) (v2 : Int32) (S : z_S), k4 v1 v2 S = some q → z_W l I_X5_markChanged (R_X5_markChanged q) B q 4 [some (.ref 0), some (.int v1), some (.int v2)] [] S) : ∀ (v1 : Int32) (v2 : Int32) (s0 : Int32) (s1 : Int32) (S : z_S), F_X5_markChanged_52 B k4 v1 v2 s0 s1 S = some q → z_W l I_X5_markChanged (R_X5_markChanged q) B q 52 [some (.ref 0), some (.int v1), some (.int v2)] [.int s0, .int s1, .ref 58] S := by
  intro v1 v2 s0 s1 S hF
  unfold F_X5_markChanged_52 at hF
  obtain ⟨g1, hF⟩ := z_gde hF
  refine z_zastore (pc' := 53) (ar_5_f6 is_5_0) (z_inbe g1) dX5_markChanged_52 rfl (fun S2 eS2 => ?_)
  replace hF := z_lte hF S2 eS2
  refine z_aload_n (pc' := 54) dX5_markChanged_53 rfl rfl rfl ?_
  refine gf_X5_52 (b := 58) (pc' := 57) rfl is_5_0 rfl dX5_markChanged_54 rfl ?_
  refine z_iload_n (pc' := 58) dX5_markChanged_57 rfl rfl rfl ?_
  obtain ⟨g3, hF⟩ := z_gde hF
  refine z_zaload (pc' := 59) (ar_5_f6 is_5_0) (z_inbe g3) dX5_markChanged_58 rfl ?_
  refine z_topi (fun x4 ex4 => ?_)
  replace hF := z_lte hF x4 ex4
  refine z_if_eq (tgt := 65) (pc' := 62) dX5_markChanged_59 (by decide) rfl (fun c5 => ?_) (fun c5 => ?_)
  · rw [if_pos c5] at hF
    refine z_wk (ls' := [some (.ref 0), some (.int v1), some (.int v2)]) (z_lec rfl (z_lec rfl (z_lec rfl z_le0))) ?_
    exact (ok_X5_markChanged_65 hst hk4) _ _ _ hF
  · rw [if_neg c5] at hF
    refine z_iinc (v := v1 + 1) (pc' := 65) dX5_markChanged_62 rfl rfl (by decide) rfl rfl ?_
    refine z_wk (ls' := [some (.ref 0), some (.int (v1 + 1)), some (.int v2)]) (z_lec rfl (z_lec rfl (z_lec rfl z_le0))) ?_
    exact (ok_X5_markChanged_65 hst hk4) _ _ _ hF
def F_X5_markChanged_51 (B : Nat) (k52 : Int32 → Int32 → Int32 → Int32 → z_S → Option (z_O × z_S)) (v1 : Int32) (v2 : Int32) (s0 : Int32) (S : z_S) : Option (z_O × z_S) :=
  k52 v1 v2 0 s0 S
set_option maxRecDepth 20000 in
set_option maxHeartbeats 16000000 in
theorem ok_X5_markChanged_51 {l : Launch} {B : Nat} {q : z_O × z_S} (hst : l.stackTraces = false) {k52 : Int32 → Int32 → Int32 → Int32 → z_S → Option (z_O × z_S)} (hk52 : ∀ (v1 : Int32) (v2 : Int32) (s0 : Int32) (s1 : Int32) (S : z_S), k52 v1 v2 s0 s1 S = some q → z_W l I_X5_markChanged (R_X5_markChanged q) B q 52 [some (.ref 0), some (.int v1), some (.int v2)] [.int s0, .int s1, .ref 58] S) : ∀ (v1 : Int32) (v2 : Int32) (s0 : Int32) (S : z_S), F_X5_markChanged_51 B k52 v1 v2 s0 S = some q → z_W l I_X5_markChanged (R_X5_markChanged q) B q 51 [some (.ref 0), some (.int v1), some (.int v2)] [.int s0, .ref 58] S := by
  intro v1 v2 s0 S hF
  unfold F_X5_markChanged_51 at hF
  refine z_iconst (v := 0) (pc' := 52) dX5_markChanged_51 (by decide) rfl ?_
  refine z_wk (ls' := [some (.ref 0), some (.int v1), some (.int v2)]) (z_lec rfl (z_lec rfl (z_lec rfl z_le0))) ?_
  exact hk52 _ _ _ _ _ hF
def F_X5_markChanged_4 (B : Nat)  : Nat → Int32 → Int32 → z_S → Option (z_O × z_S)
  | 0, _, _, _ => none
  | n + 1, v1, v2, S => if (S.2.1 0 0) ≤ v2 then
    some (.inl (some v1), S)
  else
    z_gd (z_inb v2 B) (
    z_lt (S.1 3 (z_ix (v2))) fun x2 =>
    (if x2 = 0 then
      F_X5_markChanged_51 B (F_X5_markChanged_52 B (F_X5_markChanged_4 B n) ) v1 v2 v2 S
    else
      z_bn (F_X0_sameBlock B 1 22 v2 S) fun r3 S4 =>
      (if r3 = 0 then
        F_X5_markChanged_52 B (F_X5_markChanged_4 B n) v1 v2 1 v2 S4
      else
        F_X5_markChanged_51 B (F_X5_markChanged_52 B (F_X5_markChanged_4 B n) ) v1 v2 v2 S4)))
set_option maxRecDepth 20000 in
set_option maxHeartbeats 16000000 in
theorem ok_X5_markChanged_4 {l : Launch} {B : Nat} {q : z_O × z_S} (hst : l.stackTraces = false) : ∀ (n : Nat) (v1 : Int32) (v2 : Int32) (S : z_S), F_X5_markChanged_4 B n v1 v2 S = some q → z_W l I_X5_markChanged (R_X5_markChanged q) B q 4 [some (.ref 0), some (.int v1), some (.int v2)] [] S := by
  intro n
  induction n with
  | zero => intro v1 v2 S hF; cases hF
  | succ n ih =>
    intro v1 v2 S hF
    rw [F_X5_markChanged_4] at hF
    refine z_iload_n (pc' := 5) dX5_markChanged_4 rfl rfl rfl ?_
    refine z_aload_n (pc' := 6) dX5_markChanged_5 rfl rfl rfl ?_
    refine gf_X5_13 (pc' := 9) rfl is_5_0 dX5_markChanged_6 rfl ?_
    refine z_icmp_ge (tgt := 71) (pc' := 12) dX5_markChanged_9 (by decide) rfl (fun c8 => ?_) (fun c8 => ?_)
    · rw [if_pos c8] at hF
      refine z_iload_n (pc' := 72) dX5_markChanged_71 rfl rfl rfl ?_
      exact z_ireturn rfl dX5_markChanged_72 (Option.some.inj hF).symm
    · rw [if_neg c8] at hF
      refine z_aload_n (pc' := 13) dX5_markChanged_12 rfl rfl rfl ?_
      refine gf_X5_52 (b := 58) (pc' := 16) rfl is_5_0 rfl dX5_markChanged_13 rfl ?_
      refine z_iload_n (pc' := 17) dX5_markChanged_16 rfl rfl rfl ?_
      refine z_aload_n (pc' := 18) dX5_markChanged_17 rfl rfl rfl ?_
      refine gf_X5_22 (b := 1) (pc' := 21) rfl is_5_0 rfl dX5_markChanged_18 rfl ?_
      refine gf_X5_92 (b := 2) (pc' := 24) rfl (is_5_f1 is_5_0) rfl dX5_markChanged_21 rfl ?_
      refine gf_X5_354 (b := 3) (pc' := 27) rfl (is_0_f0 (is_5_f1 is_5_0)) rfl dX5_markChanged_24 rfl ?_
      refine z_iload_n (pc' := 28) dX5_markChanged_27 rfl rfl rfl ?_
      obtain ⟨g1, hF⟩ := z_gde hF
      refine z_iaload (pc' := 29) (ar_4_f1 (is_0_f0 (is_5_f1 is_5_0))) (z_inbe g1) dX5_markChanged_28 rfl ?_
      refine z_topi (fun x2 ex2 => ?_)
      replace hF := z_lte hF x2 ex2
      refine z_if_eq (tgt := 51) (pc' := 32) dX5_markChanged_29 (by decide) rfl (fun c7 => ?_) (fun c7 => ?_)
      · rw [if_pos c7] at hF
        refine z_wk (ls' := [some (.ref 0), some (.int v1), some (.int v2)]) (z_lec rfl (z_lec rfl (z_lec rfl z_le0))) ?_
        exact (ok_X5_markChanged_51 hst (ok_X5_markChanged_52 hst ih)) _ _ _ _ hF
      · rw [if_neg c7] at hF
        refine z_aload_n (pc' := 33) dX5_markChanged_32 rfl rfl rfl ?_
        refine gf_X5_22 (b := 1) (pc' := 36) rfl is_5_0 rfl dX5_markChanged_33 rfl ?_
        refine z_iload_n (pc' := 37) dX5_markChanged_36 rfl rfl rfl ?_
        refine z_aload_n (pc' := 38) dX5_markChanged_37 rfl rfl rfl ?_
        refine gf_X5_26 (b := 22) (pc' := 41) rfl is_5_0 rfl dX5_markChanged_38 rfl ?_
        obtain ⟨r3, S4, hc5, hF⟩ := z_bne hF
        refine k_X0_sameBlock (F := 4) (L := 92) (pc' := 44) (is_5_f1 is_5_0) (is_5_f2 is_5_0) hc5 hst zw_93 rfl rfl (by decide) (by decide) (Nat.le_of_ble_eq_true rfl) dX5_markChanged_41 rfl ?_
        refine z_if_ne (tgt := 51) (pc' := 47) dX5_markChanged_44 (by decide) rfl (fun c6 => ?_) (fun c6 => ?_)
        · rw [if_neg c6] at hF
          refine z_wk (ls' := [some (.ref 0), some (.int v1), some (.int v2)]) (z_lec rfl (z_lec rfl (z_lec rfl z_le0))) ?_
          exact (ok_X5_markChanged_51 hst (ok_X5_markChanged_52 hst ih)) _ _ _ _ hF
        · rw [if_pos c6] at hF
          refine z_iconst (v := 1) (pc' := 48) dX5_markChanged_47 (by decide) rfl ?_
          refine z_goto (pc' := 52) dX5_markChanged_48 (by decide) ?_
          refine z_wk (ls' := [some (.ref 0), some (.int v1), some (.int v2)]) (z_lec rfl (z_lec rfl (z_lec rfl z_le0))) ?_
          exact (ok_X5_markChanged_52 hst ih) _ _ _ _ _ hF
def F_X5_markChanged (B : Nat)  (S : z_S) : Option (z_O × z_S) :=
  F_X5_markChanged_4 B z_n 0 0 S
set_option maxRecDepth 20000 in
set_option maxHeartbeats 16000000 in
theorem c_X5_markChanged {l : Launch} {B : Nat}  {S : z_S} {q : z_O × z_S} (hst : l.stackTraces = false) (hF : F_X5_markChanged B S = some q) : z_Met l I_X5_markChanged 4 92 B [.ref 0] S q.1 q.2 := by
  refine z_enter (ls := [some (.ref 0), none, none]) (n := 2) (by decide) rfl (Nat.le_of_ble_eq_true rfl) hst ?_
  unfold F_X5_markChanged at hF
  refine z_iconst (v := 0) (pc' := 1) dX5_markChanged_0 (by decide) rfl ?_
  refine z_istore_n (pc' := 2) dX5_markChanged_1 rfl (by decide) rfl rfl ?_
  refine z_iconst (v := 0) (pc' := 3) dX5_markChanged_2 (by decide) rfl ?_
  refine z_istore_n (pc' := 4) dX5_markChanged_3 rfl (by decide) rfl rfl ?_
  refine z_wk (ls' := [some (.ref 0), some (.int 0), some (.int 0)]) (z_lec rfl (z_lec rfl (z_lec rfl z_le0))) ?_
  exact (ok_X5_markChanged_4 hst z_n) _ _ _ hF
theorem ok_X5_markChanged : z_okV I_X5_markChanged 0 := ⟨⟨z_Gin (List.mem_of_getElem? (i := 783) (by decide +kernel)) rfl, z_Gin (List.mem_of_getElem? (i := 32) (by decide +kernel)) rfl, z_Gin (List.mem_of_getElem? (i := 89) (by decide +kernel)) rfl, z_Gin (List.mem_of_getElem? (i := 784) (by decide +kernel)) rfl⟩, by decide, by decide, by decide +kernel⟩
theorem k_X5_markChanged {l : Launch} {I : z_I} {R : Room} {B : Nat}  {q : z_O × z_S} {pc pc' : Nat} {ls : List (Option Value)} {st : List Value} {S S1 : z_S} {idx F L : Nat} {r : Int32}  (hF : F_X5_markChanged B S = some (.inl (some r), S1)) (hst : l.stackTraces = false) (w : Cond.methodLink I.1.cls idx yX5_markChanged ∈ z_G) (hRF : R.frames = F) (hRL : R.locals = L) (h1 : 5 ≤ F) (h2 : 114 ≤ L) (hs : (st.map fun v => v.category).sum ≤ 8) (d : decode I.2.1 pc = .ok (.invokevirtual idx, 3)) (hp : pc + 3 = pc') (k : z_W l I R B q pc' ls (.int r :: st) S1) : z_W l I R B q pc ls (.ref 0 :: st) S := z_callV (Y := I_X5_markChanged) (As := []) (st := st) (r := (some r)) (S1 := S1) (c_X5_markChanged (q := (.inl (some r), S1)) hst hF) ok_X5_markChanged w (ci := 5) rfl is_5_0.1 is_5_0.2 rfl ⟨by rw [hRF]; exact h1, by rw [hRL]; exact h2⟩ hs d hp rfl k

abbrev I_X5_commit : z_I := (yX5_commit, cX5_commit, 5, some .int)
abbrev R_X5_commit (q : z_O × z_S) : Room := { frames := 7, locals := 114, cells := z_mc q.1, slots := 6 * z_mc q.1 }
def F_X5_commit_122 (B : Nat)  (v3 : Int32) (S : z_S) : Option (z_O × z_S) :=
  some (.inl (some ((S.2.1 57 2) - v3)), S)
set_option maxRecDepth 20000 in
set_option maxHeartbeats 16000000 in
theorem ok_X5_commit_122 {l : Launch} {B : Nat} {q : z_O × z_S} (hst : l.stackTraces = false) : ∀ (v3 : Int32) (S : z_S), F_X5_commit_122 B v3 S = some q → z_W l I_X5_commit (R_X5_commit q) B q 122 [some (.ref 0), none, none, some (.int v3), none] [] S := by
  intro v3 S hF
  unfold F_X5_commit_122 at hF
  refine z_aload_n (pc' := 123) dX5_commit_122 rfl rfl rfl ?_
  refine gf_X5_48 (b := 57) (pc' := 126) rfl is_5_0 rfl dX5_commit_123 rfl ?_
  refine gf_X5_248 (pc' := 129) rfl (is_5_f5 is_5_0) dX5_commit_126 rfl ?_
  refine z_iload_n (pc' := 130) dX5_commit_129 rfl rfl rfl ?_
  refine z_isub (pc' := 131) dX5_commit_130 rfl ?_
  exact z_ireturn rfl dX5_commit_131 (Option.some.inj hF).symm
def F_X5_commit_86 (B : Nat)  (v3 : Int32) (s0 : Int32) (S : z_S) : Option (z_O × z_S) :=
  if s0 = 0 then
    F_X5_commit_122 B v3 S
  else
    z_bn (F_X1_takes B 58 B S) fun r1 S2 =>
    (if r1 = 0 then
      F_X5_commit_122 B v3 S2
    else
      z_bo (F_X0_copyFrom B 22 1 S2) fun S5 =>
      (F_X5_commit_122 B v3 S5))
set_option maxRecDepth 20000 in
set_option maxHeartbeats 16000000 in
theorem ok_X5_commit_86 {l : Launch} {B : Nat} {q : z_O × z_S} (hst : l.stackTraces = false) : ∀ (v3 : Int32) (s0 : Int32) (S : z_S), F_X5_commit_86 B v3 s0 S = some q → z_W l I_X5_commit (R_X5_commit q) B q 86 [some (.ref 0), none, none, some (.int v3), none] [.int s0] S := by
  intro v3 s0 S hF
  unfold F_X5_commit_86 at hF
  refine z_istore (pc' := 88) dX5_commit_86 (by decide) rfl rfl ?_
  refine z_iload (pc' := 90) dX5_commit_88 rfl rfl ?_
  refine z_if_eq (tgt := 122) (pc' := 93) dX5_commit_90 (by decide) rfl (fun c8 => ?_) (fun c8 => ?_)
  · rw [if_pos c8] at hF
    refine z_wk (ls' := [some (.ref 0), none, none, some (.int v3), none]) (z_lec rfl (z_len1 (z_len1 (z_lec rfl (z_len1 z_le0))))) ?_
    exact (ok_X5_commit_122 hst) _ _ hF
  · rw [if_neg c8] at hF
    refine z_aload_n (pc' := 94) dX5_commit_93 rfl rfl rfl ?_
    refine gf_X5_41 (b := 55) (pc' := 97) rfl is_5_0 rfl dX5_commit_94 rfl ?_
    refine z_aload_n (pc' := 98) dX5_commit_97 rfl rfl rfl ?_
    refine gf_X5_52 (b := 58) (pc' := 101) rfl is_5_0 rfl dX5_commit_98 rfl ?_
    refine z_aload_n (pc' := 102) dX5_commit_101 rfl rfl rfl ?_
    refine gf_X5_48 (b := 57) (pc' := 105) rfl is_5_0 rfl dX5_commit_102 rfl ?_
    obtain ⟨r1, S2, hc3, hF⟩ := z_bne hF
    refine k_X1_takes (F := 7) (L := 114) (pc' := 108) (ar_5_f6 is_5_0) hc3 hst zw_96 rfl rfl (by decide) (by decide) (by decide) dX5_commit_105 rfl ?_
    refine z_if_eq (tgt := 122) (pc' := 111) dX5_commit_108 (by decide) rfl (fun c7 => ?_) (fun c7 => ?_)
    · rw [if_pos c7] at hF
      refine z_wk (ls' := [some (.ref 0), none, none, some (.int v3), none]) (z_lec rfl (z_len1 (z_len1 (z_lec rfl (z_len1 z_le0))))) ?_
      exact (ok_X5_commit_122 hst) _ _ hF
    · rw [if_neg c7] at hF
      refine z_aload_n (pc' := 112) dX5_commit_111 rfl rfl rfl ?_
      refine gf_X5_26 (b := 22) (pc' := 115) rfl is_5_0 rfl dX5_commit_112 rfl ?_
      refine z_aload_n (pc' := 116) dX5_commit_115 rfl rfl rfl ?_
      refine gf_X5_22 (b := 1) (pc' := 119) rfl is_5_0 rfl dX5_commit_116 rfl ?_
      obtain ⟨S5, hc6, hF⟩ := z_boe hF
      refine k_X0_copyFrom (F := 7) (L := 114) (pc' := 122) (is_5_f2 is_5_0) (is_5_f1 is_5_0) hc6 hst zw_97 rfl rfl (by decide) (by decide) (by decide) dX5_commit_119 rfl ?_
      refine z_wk (ls' := [some (.ref 0), none, none, some (.int v3), none]) (z_lec rfl (z_len1 (z_len1 (z_lec rfl (z_len1 z_le0))))) ?_
      exact (ok_X5_commit_122 hst) _ _ hF
def F_X5_commit_81 (B : Nat) (k86 : Int32 → Int32 → z_S → Option (z_O × z_S)) (v3 : Int32) (S : z_S) : Option (z_O × z_S) :=
  k86 v3 1 S
set_option maxRecDepth 20000 in
set_option maxHeartbeats 16000000 in
theorem ok_X5_commit_81 {l : Launch} {B : Nat} {q : z_O × z_S} (hst : l.stackTraces = false) {k86 : Int32 → Int32 → z_S → Option (z_O × z_S)} (hk86 : ∀ (v3 : Int32) (s0 : Int32) (S : z_S), k86 v3 s0 S = some q → z_W l I_X5_commit (R_X5_commit q) B q 86 [some (.ref 0), none, none, some (.int v3), none] [.int s0] S) : ∀ (v3 : Int32) (S : z_S), F_X5_commit_81 B k86 v3 S = some q → z_W l I_X5_commit (R_X5_commit q) B q 81 [some (.ref 0), none, none, some (.int v3), none] [] S := by
  intro v3 S hF
  unfold F_X5_commit_81 at hF
  refine z_iconst (v := 1) (pc' := 82) dX5_commit_81 (by decide) rfl ?_
  refine z_goto (pc' := 86) dX5_commit_82 (by decide) ?_
  refine z_wk (ls' := [some (.ref 0), none, none, some (.int v3), none]) (z_lec rfl (z_len1 (z_len1 (z_lec rfl (z_len1 z_le0))))) ?_
  exact hk86 _ _ _ hF
def F_X5_commit (B : Nat)  (S : z_S) : Option (z_O × z_S) :=
  z_bv (F_X5_needPower B S) fun S2 =>
  (z_bn (F_X5_markChanged B S2) fun r4 S5 =>
  (if r4 = 0 then
    some (.inl (some 0), S5)
  else
    if (r4 + 2) ≤ (S5.2.1 55 0) then
      if (r4 + 2) ≤ ((S5.2.1 55 0) - (S5.2.1 55 2)) then
        F_X5_commit_81 B (F_X5_commit_86 B ) (S5.2.1 57 2) S5
      else
        z_bn (F_X1_empties B S5) fun r7 S8 =>
        (if r7 = 0 then
          F_X5_commit_86 B (S5.2.1 57 2) 0 S8
        else
          F_X5_commit_81 B (F_X5_commit_86 B ) (S5.2.1 57 2) S8)
    else
      some (.inr "java/lang/IllegalStateException", S5)))
set_option maxRecDepth 20000 in
set_option maxHeartbeats 16000000 in
theorem c_X5_commit {l : Launch} {B : Nat}  {S : z_S} {q : z_O × z_S} (hst : l.stackTraces = false) (hF : F_X5_commit B S = some q) : z_Met l I_X5_commit 7 114 B [.ref 0] S q.1 q.2 := by
  refine z_enter (ls := [some (.ref 0), none, none, none, none]) (n := 4) (by decide) rfl (Nat.le_of_ble_eq_true rfl) hst ?_
  unfold F_X5_commit at hF
  refine z_aload_n (pc' := 1) dX5_commit_0 rfl rfl rfl ?_
  rcases z_bve hF with ⟨S2, hc3, hF⟩ | ⟨E9, S9, hc3, hq9⟩
  rotate_left
  · exact kx_X5_needPower (F := 7) (L := 114) hc3 hq9 hst zw_57 rfl rfl (by decide) (by decide) ⟨rfl, rfl⟩ (by decide) dX5_commit_1
  refine k_X5_needPower (F := 7) (L := 114) (pc' := 4) hc3 hst zw_57 rfl rfl (by decide) (by decide) (by decide) dX5_commit_1 rfl ?_
  refine z_aload_n (pc' := 5) dX5_commit_4 rfl rfl rfl ?_
  obtain ⟨r4, S5, hc6, hF⟩ := z_bne hF
  refine k_X5_markChanged (F := 7) (L := 114) (pc' := 8) hc6 hst zw_94 rfl rfl (by decide) (by decide) (by decide) dX5_commit_5 rfl ?_
  refine z_istore_n (pc' := 9) dX5_commit_8 rfl (by decide) rfl rfl ?_
  refine z_iload_n (pc' := 10) dX5_commit_9 rfl rfl rfl ?_
  refine z_if_ne (tgt := 15) (pc' := 13) dX5_commit_10 (by decide) rfl (fun c13 => ?_) (fun c13 => ?_)
  · rw [if_neg c13] at hF
    refine z_iload_n (pc' := 16) dX5_commit_15 rfl rfl rfl ?_
    refine z_iconst (v := 2) (pc' := 17) dX5_commit_16 (by decide) rfl ?_
    refine z_iadd (pc' := 18) dX5_commit_17 rfl ?_
    refine z_istore_n (pc' := 19) dX5_commit_18 rfl (by decide) rfl rfl ?_
    refine z_iload_n (pc' := 20) dX5_commit_19 rfl rfl rfl ?_
    refine z_aload_n (pc' := 21) dX5_commit_20 rfl rfl rfl ?_
    refine gf_X5_41 (b := 55) (pc' := 24) rfl is_5_0 rfl dX5_commit_21 rfl ?_
    refine gf_X5_243 (pc' := 27) rfl (is_5_f4 is_5_0) dX5_commit_24 rfl ?_
    refine z_icmp_le (tgt := 40) (pc' := 30) dX5_commit_27 (by decide) rfl (fun c12 => ?_) (fun c12 => ?_)
    · rw [if_pos c12] at hF
      refine z_aload_n (pc' := 41) dX5_commit_40 rfl rfl rfl ?_
      refine gf_X5_48 (b := 57) (pc' := 44) rfl is_5_0 rfl dX5_commit_41 rfl ?_
      refine gf_X5_248 (pc' := 47) rfl (is_5_f5 is_5_0) dX5_commit_44 rfl ?_
      refine z_istore_n (pc' := 48) dX5_commit_47 rfl (by decide) rfl rfl ?_
      refine z_iload_n (pc' := 49) dX5_commit_48 rfl rfl rfl ?_
      refine z_aload_n (pc' := 50) dX5_commit_49 rfl rfl rfl ?_
      refine gf_X5_41 (b := 55) (pc' := 53) rfl is_5_0 rfl dX5_commit_50 rfl ?_
      refine gf_X5_243 (pc' := 56) rfl (is_5_f4 is_5_0) dX5_commit_53 rfl ?_
      refine z_aload_n (pc' := 57) dX5_commit_56 rfl rfl rfl ?_
      refine gf_X5_41 (b := 55) (pc' := 60) rfl is_5_0 rfl dX5_commit_57 rfl ?_
      refine gf_X5_251 (pc' := 63) rfl (is_5_f4 is_5_0) dX5_commit_60 rfl ?_
      refine z_isub (pc' := 64) dX5_commit_63 rfl ?_
      refine z_icmp_le (tgt := 81) (pc' := 67) dX5_commit_64 (by decide) rfl (fun c11 => ?_) (fun c11 => ?_)
      · rw [if_pos c11] at hF
        refine z_wk (ls' := [some (.ref 0), none, none, some (.int (S5.2.1 57 2)), none]) (z_lec rfl (z_len1 (z_len1 (z_lec rfl (z_len1 z_le0))))) ?_
        exact (ok_X5_commit_81 hst (ok_X5_commit_86 hst)) _ _ hF
      · rw [if_neg c11] at hF
        refine z_aload_n (pc' := 68) dX5_commit_67 rfl rfl rfl ?_
        refine gf_X5_41 (b := 55) (pc' := 71) rfl is_5_0 rfl dX5_commit_68 rfl ?_
        refine z_aload_n (pc' := 72) dX5_commit_71 rfl rfl rfl ?_
        refine gf_X5_48 (b := 57) (pc' := 75) rfl is_5_0 rfl dX5_commit_72 rfl ?_
        obtain ⟨r7, S8, hc9, hF⟩ := z_bne hF
        refine k_X1_empties (F := 7) (L := 114) (pc' := 78) hc9 hst zw_95 rfl rfl (by decide) (by decide) (by decide) dX5_commit_75 rfl ?_
        refine z_if_eq (tgt := 85) (pc' := 81) dX5_commit_78 (by decide) rfl (fun c10 => ?_) (fun c10 => ?_)
        · rw [if_pos c10] at hF
          refine z_iconst (v := 0) (pc' := 86) dX5_commit_85 (by decide) rfl ?_
          refine z_wk (ls' := [some (.ref 0), none, none, some (.int (S5.2.1 57 2)), none]) (z_lec rfl (z_len1 (z_len1 (z_lec rfl (z_len1 z_le0))))) ?_
          exact (ok_X5_commit_86 hst) _ _ _ hF
        · rw [if_neg c10] at hF
          refine z_wk (ls' := [some (.ref 0), none, none, some (.int (S5.2.1 57 2)), none]) (z_lec rfl (z_len1 (z_len1 (z_lec rfl (z_len1 z_le0))))) ?_
          exact (ok_X5_commit_81 hst (ok_X5_commit_86 hst)) _ _ hF
    · rw [if_neg c12] at hF
      exact z_throwS (text := "more is changed than the journal has room for") (names := ["java/lang/RuntimeException", "java/lang/Exception"]) rfl (Option.some.inj hF).symm (by decide +kernel) (by decide +kernel) (by decide +kernel) zw_53 zw_54 z_at_86 dX5_commit_30 dX5_commit_33 dX5_commit_34 dX5_commit_36 dX5_commit_39 ⟨by show (_ : Nat) ≤ 7; decide, by show (_ : Nat) ≤ 114; decide⟩ ⟨rfl, rfl⟩
  · rw [if_pos c13] at hF
    refine z_iconst (v := 0) (pc' := 14) dX5_commit_13 (by decide) rfl ?_
    exact z_ireturn rfl dX5_commit_14 (Option.some.inj hF).symm
theorem ok_X5_commit : z_okV I_X5_commit 0 := ⟨⟨z_Gin (List.mem_of_getElem? (i := 778) (by decide +kernel)) rfl, z_Gin (List.mem_of_getElem? (i := 779) (by decide +kernel)) rfl, z_Gin (List.mem_of_getElem? (i := 89) (by decide +kernel)) rfl, z_Gin (List.mem_of_getElem? (i := 780) (by decide +kernel)) rfl⟩, by decide, by decide, by decide +kernel⟩
theorem k_X5_commit {l : Launch} {I : z_I} {R : Room} {B : Nat}  {q : z_O × z_S} {pc pc' : Nat} {ls : List (Option Value)} {st : List Value} {S S1 : z_S} {idx F L : Nat} {r : Int32}  (hF : F_X5_commit B S = some (.inl (some r), S1)) (hst : l.stackTraces = false) (w : Cond.methodLink I.1.cls idx yX5_commit ∈ z_G) (hRF : R.frames = F) (hRL : R.locals = L) (h1 : 8 ≤ F) (h2 : 138 ≤ L) (hs : (st.map fun v => v.category).sum ≤ 8) (d : decode I.2.1 pc = .ok (.invokevirtual idx, 3)) (hp : pc + 3 = pc') (k : z_W l I R B q pc' ls (.int r :: st) S1) : z_W l I R B q pc ls (.ref 0 :: st) S := z_callV (Y := I_X5_commit) (As := []) (st := st) (r := (some r)) (S1 := S1) (c_X5_commit (q := (.inl (some r), S1)) hst hF) ok_X5_commit w (ci := 5) rfl is_5_0.1 is_5_0.2 rfl ⟨by rw [hRF]; exact h1, by rw [hRL]; exact h2⟩ hs d hp rfl k
theorem kx_X5_commit {l : Launch} {I : z_I} {R : Room} {B : Nat}  {q : z_O × z_S} {pc : Nat} {ls : List (Option Value)} {st : List Value} {S S1 : z_S} {idx F L : Nat} {E : String}  (hF : F_X5_commit B S = some (.inr E, S1)) (hq : q = (.inr E, S1)) (hst : l.stackTraces = false) (w : Cond.methodLink I.1.cls idx yX5_commit ∈ z_G) (hRF : R.frames = F) (hRL : R.locals = L) (h1 : 8 ≤ F) (h2 : 138 ≤ L) (hRc : R.cells = z_mc q.1 ∧ R.slots = 6 * z_mc q.1) (hs : (st.map fun v => v.category).sum ≤ 8) (d : decode I.2.1 pc = .ok (.invokevirtual idx, 3)) : z_W l I R B q pc ls (.ref 0 :: st) S := z_callVX (Y := I_X5_commit) (As := []) (st := st) (E := E) (S1 := S1) (c_X5_commit (q := (.inr E, S1)) hst hF) hq ok_X5_commit w (ci := 5) rfl is_5_0.1 is_5_0.2 rfl ⟨by rw [hRF]; exact h1, by rw [hRL]; exact h2⟩ hRc hs d rfl

abbrev I_X5_emptyJournal : z_I := (yX5_emptyJournal, cX5_emptyJournal, 2, some .int)
abbrev R_X5_emptyJournal (q : z_O × z_S) : Room := { frames := 2, locals := 42, cells := z_mc q.1, slots := 6 * z_mc q.1 }
def F_X5_emptyJournal (B : Nat)  (S : z_S) : Option (z_O × z_S) :=
  z_bn (F_X1_empties B S) fun r1 S2 =>
  (some (.inl (some ((S2.2.1 57 2) - (S.2.1 57 2))), S2))
set_option maxRecDepth 20000 in
set_option maxHeartbeats 16000000 in
theorem c_X5_emptyJournal {l : Launch} {B : Nat}  {S : z_S} {q : z_O × z_S} (hst : l.stackTraces = false) (hF : F_X5_emptyJournal B S = some q) : z_Met l I_X5_emptyJournal 2 42 B [.ref 0] S q.1 q.2 := by
  refine z_enter (ls := [some (.ref 0), none]) (n := 1) (by decide) rfl (Nat.le_of_ble_eq_true rfl) hst ?_
  unfold F_X5_emptyJournal at hF
  refine z_aload_n (pc' := 1) dX5_emptyJournal_0 rfl rfl rfl ?_
  refine gf_X5_48 (b := 57) (pc' := 4) rfl is_5_0 rfl dX5_emptyJournal_1 rfl ?_
  refine gf_X5_248 (pc' := 7) rfl (is_5_f5 is_5_0) dX5_emptyJournal_4 rfl ?_
  refine z_istore_n (pc' := 8) dX5_emptyJournal_7 rfl (by decide) rfl rfl ?_
  refine z_aload_n (pc' := 9) dX5_emptyJournal_8 rfl rfl rfl ?_
  refine gf_X5_41 (b := 55) (pc' := 12) rfl is_5_0 rfl dX5_emptyJournal_9 rfl ?_
  refine z_aload_n (pc' := 13) dX5_emptyJournal_12 rfl rfl rfl ?_
  refine gf_X5_48 (b := 57) (pc' := 16) rfl is_5_0 rfl dX5_emptyJournal_13 rfl ?_
  obtain ⟨r1, S2, hc3, hF⟩ := z_bne hF
  refine k_X1_empties (F := 2) (L := 42) (pc' := 19) hc3 hst zw_95 rfl rfl (by decide) (by decide) (by decide) dX5_emptyJournal_16 rfl ?_
  refine z_popi (pc' := 20) dX5_emptyJournal_19 rfl ?_
  refine z_aload_n (pc' := 21) dX5_emptyJournal_20 rfl rfl rfl ?_
  refine gf_X5_48 (b := 57) (pc' := 24) rfl is_5_0 rfl dX5_emptyJournal_21 rfl ?_
  refine gf_X5_248 (pc' := 27) rfl (is_5_f5 is_5_0) dX5_emptyJournal_24 rfl ?_
  refine z_iload_n (pc' := 28) dX5_emptyJournal_27 rfl rfl rfl ?_
  refine z_isub (pc' := 29) dX5_emptyJournal_28 rfl ?_
  exact z_ireturn rfl dX5_emptyJournal_29 (Option.some.inj hF).symm
theorem ok_X5_emptyJournal : z_okV I_X5_emptyJournal 0 := ⟨⟨z_Gin (List.mem_of_getElem? (i := 858) (by decide +kernel)) rfl, z_Gin (List.mem_of_getElem? (i := 36) (by decide +kernel)) rfl, z_Gin (List.mem_of_getElem? (i := 89) (by decide +kernel)) rfl, z_Gin (List.mem_of_getElem? (i := 859) (by decide +kernel)) rfl⟩, by decide, by decide, by decide +kernel⟩
theorem k_X5_emptyJournal {l : Launch} {I : z_I} {R : Room} {B : Nat}  {q : z_O × z_S} {pc pc' : Nat} {ls : List (Option Value)} {st : List Value} {S S1 : z_S} {idx F L : Nat} {r : Int32}  (hF : F_X5_emptyJournal B S = some (.inl (some r), S1)) (hst : l.stackTraces = false) (w : Cond.methodLink I.1.cls idx yX5_emptyJournal ∈ z_G) (hRF : R.frames = F) (hRL : R.locals = L) (h1 : 3 ≤ F) (h2 : 63 ≤ L) (hs : (st.map fun v => v.category).sum ≤ 8) (d : decode I.2.1 pc = .ok (.invokevirtual idx, 3)) (hp : pc + 3 = pc') (k : z_W l I R B q pc' ls (.int r :: st) S1) : z_W l I R B q pc ls (.ref 0 :: st) S := z_callV (Y := I_X5_emptyJournal) (As := []) (st := st) (r := (some r)) (S1 := S1) (c_X5_emptyJournal (q := (.inl (some r), S1)) hst hF) ok_X5_emptyJournal w (ci := 5) rfl is_5_0.1 is_5_0.2 rfl ⟨by rw [hRF]; exact h1, by rw [hRL]; exact h2⟩ hs d hp rfl k

abbrev I_X5_checkpoint : z_I := (yX5_checkpoint, cX5_checkpoint, 1, some .int)
abbrev R_X5_checkpoint (q : z_O × z_S) : Room := { frames := 7, locals := 110, cells := z_mc q.1, slots := 6 * z_mc q.1 }
def F_X5_checkpoint (B : Nat)  (S : z_S) : Option (z_O × z_S) :=
  z_bv (F_X5_needPower B S) fun S2 =>
  (z_bn (F_X5_emptyJournal B S2) fun r4 S5 =>
  (some (.inl (some r4), S5)))
set_option maxRecDepth 20000 in
set_option maxHeartbeats 16000000 in
theorem c_X5_checkpoint {l : Launch} {B : Nat}  {S : z_S} {q : z_O × z_S} (hst : l.stackTraces = false) (hF : F_X5_checkpoint B S = some q) : z_Met l I_X5_checkpoint 7 110 B [.ref 0] S q.1 q.2 := by
  refine z_enter (ls := [some (.ref 0)]) (n := 0) (by decide) rfl (Nat.le_of_ble_eq_true rfl) hst ?_
  unfold F_X5_checkpoint at hF
  refine z_aload_n (pc' := 1) dX5_checkpoint_0 rfl rfl rfl ?_
  rcases z_bve hF with ⟨S2, hc3, hF⟩ | ⟨E9, S9, hc3, hq9⟩
  rotate_left
  · exact kx_X5_needPower (F := 7) (L := 110) hc3 hq9 hst zw_57 rfl rfl (by decide) (by decide) ⟨rfl, rfl⟩ (by decide) dX5_checkpoint_1
  refine k_X5_needPower (F := 7) (L := 110) (pc' := 4) hc3 hst zw_57 rfl rfl (by decide) (by decide) (by decide) dX5_checkpoint_1 rfl ?_
  refine z_aload_n (pc' := 5) dX5_checkpoint_4 rfl rfl rfl ?_
  obtain ⟨r4, S5, hc6, hF⟩ := z_bne hF
  refine k_X5_emptyJournal (F := 7) (L := 110) (pc' := 8) hc6 hst zw_98 rfl rfl (by decide) (by decide) (by decide) dX5_checkpoint_5 rfl ?_
  exact z_ireturn rfl dX5_checkpoint_8 (Option.some.inj hF).symm
theorem ok_X5_checkpoint : z_okV I_X5_checkpoint 0 := ⟨⟨z_Gin (List.mem_of_getElem? (i := 853) (by decide +kernel)) rfl, z_Gin (List.mem_of_getElem? (i := 854) (by decide +kernel)) rfl, z_Gin (List.mem_of_getElem? (i := 89) (by decide +kernel)) rfl, z_Gin (List.mem_of_getElem? (i := 855) (by decide +kernel)) rfl⟩, by decide, by decide, by decide +kernel⟩
theorem k_X5_checkpoint {l : Launch} {I : z_I} {R : Room} {B : Nat}  {q : z_O × z_S} {pc pc' : Nat} {ls : List (Option Value)} {st : List Value} {S S1 : z_S} {idx F L : Nat} {r : Int32}  (hF : F_X5_checkpoint B S = some (.inl (some r), S1)) (hst : l.stackTraces = false) (w : Cond.methodLink I.1.cls idx yX5_checkpoint ∈ z_G) (hRF : R.frames = F) (hRL : R.locals = L) (h1 : 8 ≤ F) (h2 : 130 ≤ L) (hs : (st.map fun v => v.category).sum ≤ 8) (d : decode I.2.1 pc = .ok (.invokevirtual idx, 3)) (hp : pc + 3 = pc') (k : z_W l I R B q pc' ls (.int r :: st) S1) : z_W l I R B q pc ls (.ref 0 :: st) S := z_callV (Y := I_X5_checkpoint) (As := []) (st := st) (r := (some r)) (S1 := S1) (c_X5_checkpoint (q := (.inl (some r), S1)) hst hF) ok_X5_checkpoint w (ci := 5) rfl is_5_0.1 is_5_0.2 rfl ⟨by rw [hRF]; exact h1, by rw [hRL]; exact h2⟩ hs d hp rfl k
theorem kx_X5_checkpoint {l : Launch} {I : z_I} {R : Room} {B : Nat}  {q : z_O × z_S} {pc : Nat} {ls : List (Option Value)} {st : List Value} {S S1 : z_S} {idx F L : Nat} {E : String}  (hF : F_X5_checkpoint B S = some (.inr E, S1)) (hq : q = (.inr E, S1)) (hst : l.stackTraces = false) (w : Cond.methodLink I.1.cls idx yX5_checkpoint ∈ z_G) (hRF : R.frames = F) (hRL : R.locals = L) (h1 : 8 ≤ F) (h2 : 130 ≤ L) (hRc : R.cells = z_mc q.1 ∧ R.slots = 6 * z_mc q.1) (hs : (st.map fun v => v.category).sum ≤ 8) (d : decode I.2.1 pc = .ok (.invokevirtual idx, 3)) : z_W l I R B q pc ls (.ref 0 :: st) S := z_callVX (Y := I_X5_checkpoint) (As := []) (st := st) (E := E) (S1 := S1) (c_X5_checkpoint (q := (.inr E, S1)) hst hF) hq ok_X5_checkpoint w (ci := 5) rfl is_5_0.1 is_5_0.2 rfl ⟨by rw [hRF]; exact h1, by rw [hRL]; exact h2⟩ hRc hs d rfl

abbrev I_X5_back : z_I := (yX5_back, cX5_back, 2, some .int)
abbrev R_X5_back (q : z_O × z_S) : Room := { frames := 7, locals := 114, cells := z_mc q.1, slots := 6 * z_mc q.1 }
def F_X5_back (B : Nat)  (S : z_S) : Option (z_O × z_S) :=
  z_bv (F_X5_needPower B S) fun S2 =>
  (z_bn (F_X5_markChanged B S2) fun r4 S5 =>
  (z_bo (F_X0_copyFrom B 1 22 S5) fun S8 =>
  (some (.inl (some r4), S8))))
set_option maxRecDepth 20000 in
set_option maxHeartbeats 16000000 in
theorem c_X5_back {l : Launch} {B : Nat}  {S : z_S} {q : z_O × z_S} (hst : l.stackTraces = false) (hF : F_X5_back B S = some q) : z_Met l I_X5_back 7 114 B [.ref 0] S q.1 q.2 := by
  refine z_enter (ls := [some (.ref 0), none]) (n := 1) (by decide) rfl (Nat.le_of_ble_eq_true rfl) hst ?_
  unfold F_X5_back at hF
  refine z_aload_n (pc' := 1) dX5_back_0 rfl rfl rfl ?_
  rcases z_bve hF with ⟨S2, hc3, hF⟩ | ⟨E9, S9, hc3, hq9⟩
  rotate_left
  · exact kx_X5_needPower (F := 7) (L := 114) hc3 hq9 hst zw_57 rfl rfl (by decide) (by decide) ⟨rfl, rfl⟩ (by decide) dX5_back_1
  refine k_X5_needPower (F := 7) (L := 114) (pc' := 4) hc3 hst zw_57 rfl rfl (by decide) (by decide) (by decide) dX5_back_1 rfl ?_
  refine z_aload_n (pc' := 5) dX5_back_4 rfl rfl rfl ?_
  obtain ⟨r4, S5, hc6, hF⟩ := z_bne hF
  refine k_X5_markChanged (F := 7) (L := 114) (pc' := 8) hc6 hst zw_94 rfl rfl (by decide) (by decide) (by decide) dX5_back_5 rfl ?_
  refine z_istore_n (pc' := 9) dX5_back_8 rfl (by decide) rfl rfl ?_
  refine z_aload_n (pc' := 10) dX5_back_9 rfl rfl rfl ?_
  refine gf_X5_22 (b := 1) (pc' := 13) rfl is_5_0 rfl dX5_back_10 rfl ?_
  refine z_aload_n (pc' := 14) dX5_back_13 rfl rfl rfl ?_
  refine gf_X5_26 (b := 22) (pc' := 17) rfl is_5_0 rfl dX5_back_14 rfl ?_
  obtain ⟨S8, hc9, hF⟩ := z_boe hF
  refine k_X0_copyFrom (F := 7) (L := 114) (pc' := 20) (is_5_f1 is_5_0) (is_5_f2 is_5_0) hc9 hst zw_97 rfl rfl (by decide) (by decide) (by decide) dX5_back_17 rfl ?_
  refine z_iload_n (pc' := 21) dX5_back_20 rfl rfl rfl ?_
  exact z_ireturn rfl dX5_back_21 (Option.some.inj hF).symm
theorem ok_X5_back : z_okV I_X5_back 0 := ⟨⟨z_Gin (List.mem_of_getElem? (i := 864) (by decide +kernel)) rfl, z_Gin (List.mem_of_getElem? (i := 865) (by decide +kernel)) rfl, z_Gin (List.mem_of_getElem? (i := 89) (by decide +kernel)) rfl, z_Gin (List.mem_of_getElem? (i := 866) (by decide +kernel)) rfl⟩, by decide, by decide, by decide +kernel⟩
theorem k_X5_back {l : Launch} {I : z_I} {R : Room} {B : Nat}  {q : z_O × z_S} {pc pc' : Nat} {ls : List (Option Value)} {st : List Value} {S S1 : z_S} {idx F L : Nat} {r : Int32}  (hF : F_X5_back B S = some (.inl (some r), S1)) (hst : l.stackTraces = false) (w : Cond.methodLink I.1.cls idx yX5_back ∈ z_G) (hRF : R.frames = F) (hRL : R.locals = L) (h1 : 8 ≤ F) (h2 : 135 ≤ L) (hs : (st.map fun v => v.category).sum ≤ 8) (d : decode I.2.1 pc = .ok (.invokevirtual idx, 3)) (hp : pc + 3 = pc') (k : z_W l I R B q pc' ls (.int r :: st) S1) : z_W l I R B q pc ls (.ref 0 :: st) S := z_callV (Y := I_X5_back) (As := []) (st := st) (r := (some r)) (S1 := S1) (c_X5_back (q := (.inl (some r), S1)) hst hF) ok_X5_back w (ci := 5) rfl is_5_0.1 is_5_0.2 rfl ⟨by rw [hRF]; exact h1, by rw [hRL]; exact h2⟩ hs d hp rfl k
theorem kx_X5_back {l : Launch} {I : z_I} {R : Room} {B : Nat}  {q : z_O × z_S} {pc : Nat} {ls : List (Option Value)} {st : List Value} {S S1 : z_S} {idx F L : Nat} {E : String}  (hF : F_X5_back B S = some (.inr E, S1)) (hq : q = (.inr E, S1)) (hst : l.stackTraces = false) (w : Cond.methodLink I.1.cls idx yX5_back ∈ z_G) (hRF : R.frames = F) (hRL : R.locals = L) (h1 : 8 ≤ F) (h2 : 135 ≤ L) (hRc : R.cells = z_mc q.1 ∧ R.slots = 6 * z_mc q.1) (hs : (st.map fun v => v.category).sum ≤ 8) (d : decode I.2.1 pc = .ok (.invokevirtual idx, 3)) : z_W l I R B q pc ls (.ref 0 :: st) S := z_callVX (Y := I_X5_back) (As := []) (st := st) (E := E) (S1 := S1) (c_X5_back (q := (.inr E, S1)) hst hF) hq ok_X5_back w (ci := 5) rfl is_5_0.1 is_5_0.2 rfl ⟨by rw [hRF]; exact h1, by rw [hRL]; exact h2⟩ hRc hs d rfl

abbrev I_X5_fail : z_I := (yX5_fail, cX5_fail, 2, none)
abbrev R_X5_fail (q : z_O × z_S) : Room := { frames := 6, locals := 90, cells := z_mc q.1, slots := 6 * z_mc q.1 }
def F_X5_fail (B : Nat) (p1 : Int32) (S : z_S) : Option (z_O × z_S) :=
  if (-1) ≤ p1 then
    z_lt (z_ui S 57 1 p1) fun S1 =>
    (some (.inl none, S1))
  else
    some (.inr "java/lang/IllegalArgumentException", S)
set_option maxRecDepth 20000 in
set_option maxHeartbeats 16000000 in
theorem c_X5_fail {l : Launch} {B : Nat} {p1 : Int32} {S : z_S} {q : z_O × z_S} (hst : l.stackTraces = false) (hF : F_X5_fail B p1 S = some q) : z_Met l I_X5_fail 6 90 B [.ref 0, .int p1] S q.1 q.2 := by
  refine z_enter (ls := [some (.ref 0), some (.int p1)]) (n := 0) (by decide) rfl (Nat.le_of_ble_eq_true rfl) hst ?_
  unfold F_X5_fail at hF
  refine z_iload_n (pc' := 1) dX5_fail_0 rfl rfl rfl ?_
  refine z_iconst (v := (-1)) (pc' := 2) dX5_fail_1 (by decide) rfl ?_
  refine z_icmp_ge (tgt := 16) (pc' := 5) dX5_fail_2 (by decide) rfl (fun c2 => ?_) (fun c2 => ?_)
  · rw [if_pos c2] at hF
    refine z_aload_n (pc' := 17) dX5_fail_16 rfl rfl rfl ?_
    refine gf_X5_48 (b := 57) (pc' := 20) rfl is_5_0 rfl dX5_fail_17 rfl ?_
    refine z_iload_n (pc' := 21) dX5_fail_20 rfl rfl rfl ?_
    refine pf_X5_271 (pc' := 24) rfl (is_5_f5 is_5_0) dX5_fail_21 rfl (fun S1 eS1 => ?_)
    replace hF := z_lte hF S1 eS1
    exact z_return rfl dX5_fail_24 (Option.some.inj hF).symm
  · rw [if_neg c2] at hF
    exact z_throwSW (text := "the power can't fail before it is told to") (names := ["java/lang/RuntimeException", "java/lang/Exception"]) rfl (Option.some.inj hF).symm (by decide +kernel) (by decide +kernel) (by decide +kernel) zw_48 zw_49 z_at_159 dX5_fail_5 dX5_fail_8 dX5_fail_9 dX5_fail_12 dX5_fail_15 ⟨by show (_ : Nat) ≤ 6; decide, by show (_ : Nat) ≤ 90; decide⟩ ⟨rfl, rfl⟩
theorem ok_X5_fail : z_okV I_X5_fail 1 := ⟨⟨z_Gin (List.mem_of_getElem? (i := 871) (by decide +kernel)) rfl, z_Gin (List.mem_of_getElem? (i := 872) (by decide +kernel)) rfl, z_Gin (List.mem_of_getElem? (i := 89) (by decide +kernel)) rfl, z_Gin (List.mem_of_getElem? (i := 873) (by decide +kernel)) rfl⟩, by decide, by decide, by decide +kernel⟩
theorem k_X5_fail {l : Launch} {I : z_I} {R : Room} {B : Nat} {p1 : Int32} {q : z_O × z_S} {pc pc' : Nat} {ls : List (Option Value)} {st : List Value} {S S1 : z_S} {idx F L : Nat}  (hF : F_X5_fail B p1 S = some (.inl none, S1)) (hst : l.stackTraces = false) (w : Cond.methodLink I.1.cls idx yX5_fail ∈ z_G) (hRF : R.frames = F) (hRL : R.locals = L) (h1 : 7 ≤ F) (h2 : 111 ≤ L) (hs : (st.map fun v => v.category).sum ≤ 8) (d : decode I.2.1 pc = .ok (.invokevirtual idx, 3)) (hp : pc + 3 = pc') (k : z_W l I R B q pc' ls st S1) : z_W l I R B q pc ls (.int p1 :: .ref 0 :: st) S := z_callV (Y := I_X5_fail) (As := [.int p1]) (st := st) (r := none) (S1 := S1) (c_X5_fail (q := (.inl none, S1)) hst hF) ok_X5_fail w (ci := 5) rfl is_5_0.1 is_5_0.2 rfl ⟨by rw [hRF]; exact h1, by rw [hRL]; exact h2⟩ hs d hp rfl k
theorem kx_X5_fail {l : Launch} {I : z_I} {R : Room} {B : Nat} {p1 : Int32} {q : z_O × z_S} {pc : Nat} {ls : List (Option Value)} {st : List Value} {S S1 : z_S} {idx F L : Nat} {E : String}  (hF : F_X5_fail B p1 S = some (.inr E, S1)) (hq : q = (.inr E, S1)) (hst : l.stackTraces = false) (w : Cond.methodLink I.1.cls idx yX5_fail ∈ z_G) (hRF : R.frames = F) (hRL : R.locals = L) (h1 : 7 ≤ F) (h2 : 111 ≤ L) (hRc : R.cells = z_mc q.1 ∧ R.slots = 6 * z_mc q.1) (hs : (st.map fun v => v.category).sum ≤ 8) (d : decode I.2.1 pc = .ok (.invokevirtual idx, 3)) : z_W l I R B q pc ls (.int p1 :: .ref 0 :: st) S := z_callVX (Y := I_X5_fail) (As := [.int p1]) (st := st) (E := E) (S1 := S1) (c_X5_fail (q := (.inr E, S1)) hst hF) hq ok_X5_fail w (ci := 5) rfl is_5_0.1 is_5_0.2 rfl ⟨by rw [hRF]; exact h1, by rw [hRL]; exact h2⟩ hRc hs d rfl

abbrev I_X5_off : z_I := (yX5_off, cX5_off, 1, some .boolean)
abbrev R_X5_off (q : z_O × z_S) : Room := { frames := 0, locals := 0, cells := z_mc q.1, slots := 6 * z_mc q.1 }
def F_X5_off (B : Nat)  (S : z_S) : Option (z_O × z_S) :=
  z_gd (z_b01 (S.2.1 57 0)) (some (.inl (some (S.2.1 57 0)), S))
set_option maxRecDepth 20000 in
set_option maxHeartbeats 16000000 in
theorem c_X5_off {l : Launch} {B : Nat}  {S : z_S} {q : z_O × z_S} (hst : l.stackTraces = false) (hF : F_X5_off B S = some q) : z_Met l I_X5_off 0 0 B [.ref 0] S q.1 q.2 := by
  refine z_enter (ls := [some (.ref 0)]) (n := 0) (by decide) rfl (Nat.le_of_ble_eq_true rfl) hst ?_
  unfold F_X5_off at hF
  refine z_aload_n (pc' := 1) dX5_off_0 rfl rfl rfl ?_
  refine gf_X5_48 (b := 57) (pc' := 4) rfl is_5_0 rfl dX5_off_1 rfl ?_
  refine gf_X5_274 (pc' := 7) rfl (is_5_f5 is_5_0) dX5_off_4 rfl ?_
  obtain ⟨g1, hF⟩ := z_gde hF
  exact z_zreturn rfl (z_b01e g1) dX5_off_7 (Option.some.inj hF).symm
theorem ok_X5_off : z_okV I_X5_off 0 := ⟨⟨z_Gin (List.mem_of_getElem? (i := 320) (by decide +kernel)) rfl, z_Gin (List.mem_of_getElem? (i := 321) (by decide +kernel)) rfl, z_Gin (List.mem_of_getElem? (i := 89) (by decide +kernel)) rfl, z_Gin (List.mem_of_getElem? (i := 322) (by decide +kernel)) rfl⟩, by decide, by decide, by decide +kernel⟩
theorem k_X5_off {l : Launch} {I : z_I} {R : Room} {B : Nat}  {q : z_O × z_S} {pc pc' : Nat} {ls : List (Option Value)} {st : List Value} {S S1 : z_S} {idx F L : Nat} {r : Int32}  (hF : F_X5_off B S = some (.inl (some r), S1)) (hst : l.stackTraces = false) (w : Cond.methodLink I.1.cls idx yX5_off ∈ z_G) (hRF : R.frames = F) (hRL : R.locals = L) (h1 : 1 ≤ F) (h2 : 20 ≤ L) (hs : (st.map fun v => v.category).sum ≤ 8) (d : decode I.2.1 pc = .ok (.invokevirtual idx, 3)) (hp : pc + 3 = pc') (k : z_W l I R B q pc' ls (.int r :: st) S1) : z_W l I R B q pc ls (.ref 0 :: st) S := z_callV (Y := I_X5_off) (As := []) (st := st) (r := (some r)) (S1 := S1) (c_X5_off (q := (.inl (some r), S1)) hst hF) ok_X5_off w (ci := 5) rfl is_5_0.1 is_5_0.2 rfl ⟨by rw [hRF]; exact h1, by rw [hRL]; exact h2⟩ hs d hp rfl k

abbrev I_X5_recover : z_I := (yX5_recover, cX5_recover, 1, some .int)
abbrev R_X5_recover (q : z_O × z_S) : Room := { frames := 6, locals := 110, cells := z_mc q.1, slots := 6 * z_mc q.1 }
def F_X5_recover (B : Nat)  (S : z_S) : Option (z_O × z_S) :=
  if (S.2.1 57 0) = 0 then
    some (.inr "java/lang/IllegalStateException", S)
  else
    z_gd (z_b01 0) (
    z_lt (z_ui S 57 0 0) fun S2 =>
    (z_bo (F_X0_copyFrom B 1 22 S2) fun S4 =>
    (z_bn (F_X5_emptyJournal B S4) fun r6 S7 =>
    (some (.inl (some r6), S7)))))
set_option maxRecDepth 20000 in
set_option maxHeartbeats 16000000 in
theorem c_X5_recover {l : Launch} {B : Nat}  {S : z_S} {q : z_O × z_S} (hst : l.stackTraces = false) (hF : F_X5_recover B S = some q) : z_Met l I_X5_recover 6 110 B [.ref 0] S q.1 q.2 := by
  refine z_enter (ls := [some (.ref 0)]) (n := 0) (by decide) rfl (Nat.le_of_ble_eq_true rfl) hst ?_
  unfold F_X5_recover at hF
  refine z_aload_n (pc' := 1) dX5_recover_0 rfl rfl rfl ?_
  refine gf_X5_48 (b := 57) (pc' := 4) rfl is_5_0 rfl dX5_recover_1 rfl ?_
  refine gf_X5_274 (pc' := 7) rfl (is_5_f5 is_5_0) dX5_recover_4 rfl ?_
  refine z_if_ne (tgt := 21) (pc' := 10) dX5_recover_7 (by decide) rfl (fun c9 => ?_) (fun c9 => ?_)
  · rw [if_neg c9] at hF
    refine z_aload_n (pc' := 22) dX5_recover_21 rfl rfl rfl ?_
    refine gf_X5_48 (b := 57) (pc' := 25) rfl is_5_0 rfl dX5_recover_22 rfl ?_
    refine z_iconst (v := 0) (pc' := 26) dX5_recover_25 (by decide) rfl ?_
    obtain ⟨g1, hF⟩ := z_gde hF
    refine pf_X5_274 (pc' := 29) rfl (is_5_f5 is_5_0) (z_b01e g1) dX5_recover_26 rfl (fun S2 eS2 => ?_)
    replace hF := z_lte hF S2 eS2
    refine z_aload_n (pc' := 30) dX5_recover_29 rfl rfl rfl ?_
    refine gf_X5_22 (b := 1) (pc' := 33) rfl is_5_0 rfl dX5_recover_30 rfl ?_
    refine z_aload_n (pc' := 34) dX5_recover_33 rfl rfl rfl ?_
    refine gf_X5_26 (b := 22) (pc' := 37) rfl is_5_0 rfl dX5_recover_34 rfl ?_
    obtain ⟨S4, hc5, hF⟩ := z_boe hF
    refine k_X0_copyFrom (F := 6) (L := 110) (pc' := 40) (is_5_f1 is_5_0) (is_5_f2 is_5_0) hc5 hst zw_97 rfl rfl (by decide) (by decide) (by decide) dX5_recover_37 rfl ?_
    refine z_aload_n (pc' := 41) dX5_recover_40 rfl rfl rfl ?_
    obtain ⟨r6, S7, hc8, hF⟩ := z_bne hF
    refine k_X5_emptyJournal (F := 6) (L := 110) (pc' := 44) hc8 hst zw_98 rfl rfl (by decide) (by decide) (by decide) dX5_recover_41 rfl ?_
    exact z_ireturn rfl dX5_recover_44 (Option.some.inj hF).symm
  · rw [if_pos c9] at hF
    exact z_throwSW (text := "the power is on") (names := ["java/lang/RuntimeException", "java/lang/Exception"]) rfl (Option.some.inj hF).symm (by decide +kernel) (by decide +kernel) (by decide +kernel) zw_53 zw_54 z_at_86 dX5_recover_10 dX5_recover_13 dX5_recover_14 dX5_recover_17 dX5_recover_20 ⟨by show (_ : Nat) ≤ 6; decide, by show (_ : Nat) ≤ 110; decide⟩ ⟨rfl, rfl⟩
theorem ok_X5_recover : z_okV I_X5_recover 0 := ⟨⟨z_Gin (List.mem_of_getElem? (i := 879) (by decide +kernel)) rfl, z_Gin (List.mem_of_getElem? (i := 880) (by decide +kernel)) rfl, z_Gin (List.mem_of_getElem? (i := 89) (by decide +kernel)) rfl, z_Gin (List.mem_of_getElem? (i := 881) (by decide +kernel)) rfl⟩, by decide, by decide, by decide +kernel⟩
theorem k_X5_recover {l : Launch} {I : z_I} {R : Room} {B : Nat}  {q : z_O × z_S} {pc pc' : Nat} {ls : List (Option Value)} {st : List Value} {S S1 : z_S} {idx F L : Nat} {r : Int32}  (hF : F_X5_recover B S = some (.inl (some r), S1)) (hst : l.stackTraces = false) (w : Cond.methodLink I.1.cls idx yX5_recover ∈ z_G) (hRF : R.frames = F) (hRL : R.locals = L) (h1 : 7 ≤ F) (h2 : 130 ≤ L) (hs : (st.map fun v => v.category).sum ≤ 8) (d : decode I.2.1 pc = .ok (.invokevirtual idx, 3)) (hp : pc + 3 = pc') (k : z_W l I R B q pc' ls (.int r :: st) S1) : z_W l I R B q pc ls (.ref 0 :: st) S := z_callV (Y := I_X5_recover) (As := []) (st := st) (r := (some r)) (S1 := S1) (c_X5_recover (q := (.inl (some r), S1)) hst hF) ok_X5_recover w (ci := 5) rfl is_5_0.1 is_5_0.2 rfl ⟨by rw [hRF]; exact h1, by rw [hRL]; exact h2⟩ hs d hp rfl k
theorem kx_X5_recover {l : Launch} {I : z_I} {R : Room} {B : Nat}  {q : z_O × z_S} {pc : Nat} {ls : List (Option Value)} {st : List Value} {S S1 : z_S} {idx F L : Nat} {E : String}  (hF : F_X5_recover B S = some (.inr E, S1)) (hq : q = (.inr E, S1)) (hst : l.stackTraces = false) (w : Cond.methodLink I.1.cls idx yX5_recover ∈ z_G) (hRF : R.frames = F) (hRL : R.locals = L) (h1 : 7 ≤ F) (h2 : 130 ≤ L) (hRc : R.cells = z_mc q.1 ∧ R.slots = 6 * z_mc q.1) (hs : (st.map fun v => v.category).sum ≤ 8) (d : decode I.2.1 pc = .ok (.invokevirtual idx, 3)) : z_W l I R B q pc ls (.ref 0 :: st) S := z_callVX (Y := I_X5_recover) (As := []) (st := st) (E := E) (S1 := S1) (c_X5_recover (q := (.inr E, S1)) hst hF) hq ok_X5_recover w (ci := 5) rfl is_5_0.1 is_5_0.2 rfl ⟨by rw [hRF]; exact h1, by rw [hRL]; exact h2⟩ hRc hs d rfl

abbrev I_X5_count : z_I := (yX5_count, cX5_count, 3, some .int)
abbrev R_X5_count (q : z_O × z_S) : Room := { frames := 7, locals := 114, cells := z_mc q.1, slots := 6 * z_mc q.1 }
def F_X5_count (B : Nat) (p1 : Int32) (S : z_S) : Option (z_O × z_S) :=
  z_bv (F_X5_needPower B S) fun S2 =>
  (if p1 = 0 then
    z_bn (F_X4_blocksInUse B 2 S2) fun r4 S5 =>
    (some (.inl (some r4), S5))
  else if p1 = 1 then
    z_bn (F_X4_leaves B 2 S2) fun r7 S8 =>
    (some (.inl (some r7), S8))
  else if p1 = 2 then
    z_gd (z_inb (S2.2.1 2 12) B) (
    z_lt (S2.1 4 (z_ix (S2.2.1 2 12))) fun x11 =>
    (some (.inl (some (x11 + 1)), S2)))
  else if p1 = 3 then
    z_bn (F_X2_howMany B 14 S2) fun r12 S13 =>
    (some (.inl (some r12), S13))
  else if p1 = 4 then
    z_bn (F_X4_items B 2 S2) fun r15 S16 =>
    (some (.inl (some r15), S16))
  else if p1 = 5 then
    z_bn (F_X4_usedOfAll B 2 S2) fun r18 S19 =>
    (some (.inl (some r18), S19))
  else if p1 = 6 then
    z_bn (F_X5_markChanged B S2) fun r21 S22 =>
    (some (.inl (some r21), S22))
  else if p1 = 7 then
    some (.inl (some (S2.2.1 55 2)), S2)
  else if p1 = 8 then
    some (.inl (some (S2.2.1 57 2)), S2)
  else if p1 = 9 then
    some (.inl (some (S2.2.1 55 3)), S2)
  else 
    some (.inr "java/lang/IllegalArgumentException", S2))
set_option maxRecDepth 20000 in
set_option maxHeartbeats 16000000 in
theorem c_X5_count {l : Launch} {B : Nat} {p1 : Int32} {S : z_S} {q : z_O × z_S} (hst : l.stackTraces = false) (hF : F_X5_count B p1 S = some q) : z_Met l I_X5_count 7 114 B [.ref 0, .int p1] S q.1 q.2 := by
  refine z_enter (ls := [some (.ref 0), some (.int p1), none]) (n := 1) (by decide) rfl (Nat.le_of_ble_eq_true rfl) hst ?_
  unfold F_X5_count at hF
  refine z_aload_n (pc' := 1) dX5_count_0 rfl rfl rfl ?_
  rcases z_bve hF with ⟨S2, hc3, hF⟩ | ⟨E9, S9, hc3, hq9⟩
  rotate_left
  · exact kx_X5_needPower (F := 7) (L := 114) hc3 hq9 hst zw_57 rfl rfl (by decide) (by decide) ⟨rfl, rfl⟩ (by decide) dX5_count_1
  refine k_X5_needPower (F := 7) (L := 114) (pc' := 4) hc3 hst zw_57 rfl rfl (by decide) (by decide) (by decide) dX5_count_1 rfl ?_
  refine z_aload_n (pc' := 5) dX5_count_4 rfl rfl rfl ?_
  refine gf_X5_22 (b := 1) (pc' := 8) rfl is_5_0 rfl dX5_count_5 rfl ?_
  refine gf_X5_92 (b := 2) (pc' := 11) rfl (is_5_f1 is_5_0) rfl dX5_count_8 rfl ?_
  refine z_astore_n (pc' := 12) dX5_count_11 rfl (by decide) rfl rfl ?_
  refine z_iload_n (pc' := 13) dX5_count_12 rfl rfl rfl ?_
  by_cases c24 : p1 = 0
  · rw [if_pos c24] at hF
    refine z_tswIn (tgt := 68) dX5_count_13 (by rw [c24]; decide) (by rw [c24]; decide) (by rw [c24]; rfl) (by decide) ?_
    refine z_aload_n (pc' := 69) dX5_count_68 rfl rfl rfl ?_
    obtain ⟨r4, S5, hc6, hF⟩ := z_bne hF
    refine k_X4_blocksInUse (F := 7) (L := 114) (pc' := 72) (is_0_f0 (is_5_f1 is_5_0)) hc6 hst zw_99 rfl rfl (by decide) (by decide) (by decide) dX5_count_69 rfl ?_
    exact z_ireturn rfl dX5_count_72 (Option.some.inj hF).symm
  rw [if_neg c24] at hF
  by_cases c25 : p1 = 1
  · rw [if_pos c25] at hF
    refine z_tswIn (tgt := 73) dX5_count_13 (by rw [c25]; decide) (by rw [c25]; decide) (by rw [c25]; rfl) (by decide) ?_
    refine z_aload_n (pc' := 74) dX5_count_73 rfl rfl rfl ?_
    obtain ⟨r7, S8, hc9, hF⟩ := z_bne hF
    refine k_X4_leaves (F := 7) (L := 114) (pc' := 77) (is_0_f0 (is_5_f1 is_5_0)) hc9 hst zw_100 rfl rfl (by decide) (by decide) (by decide) dX5_count_74 rfl ?_
    exact z_ireturn rfl dX5_count_77 (Option.some.inj hF).symm
  rw [if_neg c25] at hF
  by_cases c26 : p1 = 2
  · rw [if_pos c26] at hF
    refine z_tswIn (tgt := 78) dX5_count_13 (by rw [c26]; decide) (by rw [c26]; decide) (by rw [c26]; rfl) (by decide) ?_
    refine z_aload_n (pc' := 79) dX5_count_78 rfl rfl rfl ?_
    refine gf_X5_286 (b := 4) (pc' := 82) rfl (is_0_f0 (is_5_f1 is_5_0)) rfl dX5_count_79 rfl ?_
    refine z_aload_n (pc' := 83) dX5_count_82 rfl rfl rfl ?_
    refine gf_X5_289 (pc' := 86) rfl (is_0_f0 (is_5_f1 is_5_0)) dX5_count_83 rfl ?_
    obtain ⟨g10, hF⟩ := z_gde hF
    refine z_iaload (pc' := 87) (ar_4_f2 (is_0_f0 (is_5_f1 is_5_0))) (z_inbe g10) dX5_count_86 rfl ?_
    refine z_topi (fun x11 ex11 => ?_)
    replace hF := z_lte hF x11 ex11
    refine z_iconst (v := 1) (pc' := 88) dX5_count_87 (by decide) rfl ?_
    refine z_iadd (pc' := 89) dX5_count_88 rfl ?_
    exact z_ireturn rfl dX5_count_89 (Option.some.inj hF).symm
  rw [if_neg c26] at hF
  by_cases c27 : p1 = 3
  · rw [if_pos c27] at hF
    refine z_tswIn (tgt := 90) dX5_count_13 (by rw [c27]; decide) (by rw [c27]; decide) (by rw [c27]; rfl) (by decide) ?_
    refine z_aload_n (pc' := 91) dX5_count_90 rfl rfl rfl ?_
    refine gf_X5_22 (b := 1) (pc' := 94) rfl is_5_0 rfl dX5_count_91 rfl ?_
    refine gf_X5_72 (b := 14) (pc' := 97) rfl (is_5_f1 is_5_0) rfl dX5_count_94 rfl ?_
    obtain ⟨r12, S13, hc14, hF⟩ := z_bne hF
    refine k_X2_howMany (F := 7) (L := 114) (pc' := 100) (is_0_f1 (is_5_f1 is_5_0)) hc14 hst zw_101 rfl rfl (by decide) (by decide) (by decide) dX5_count_97 rfl ?_
    exact z_ireturn rfl dX5_count_100 (Option.some.inj hF).symm
  rw [if_neg c27] at hF
  by_cases c28 : p1 = 4
  · rw [if_pos c28] at hF
    refine z_tswIn (tgt := 101) dX5_count_13 (by rw [c28]; decide) (by rw [c28]; decide) (by rw [c28]; rfl) (by decide) ?_
    refine z_aload_n (pc' := 102) dX5_count_101 rfl rfl rfl ?_
    obtain ⟨r15, S16, hc17, hF⟩ := z_bne hF
    refine k_X4_items (F := 7) (L := 114) (pc' := 105) (is_0_f0 (is_5_f1 is_5_0)) hc17 hst zw_102 rfl rfl (by decide) (by decide) (by decide) dX5_count_102 rfl ?_
    exact z_ireturn rfl dX5_count_105 (Option.some.inj hF).symm
  rw [if_neg c28] at hF
  by_cases c29 : p1 = 5
  · rw [if_pos c29] at hF
    refine z_tswIn (tgt := 106) dX5_count_13 (by rw [c29]; decide) (by rw [c29]; decide) (by rw [c29]; rfl) (by decide) ?_
    refine z_aload_n (pc' := 107) dX5_count_106 rfl rfl rfl ?_
    obtain ⟨r18, S19, hc20, hF⟩ := z_bne hF
    refine k_X4_usedOfAll (F := 7) (L := 114) (pc' := 110) (is_0_f0 (is_5_f1 is_5_0)) hc20 hst zw_103 rfl rfl (by decide) (by decide) (by decide) dX5_count_107 rfl ?_
    exact z_ireturn rfl dX5_count_110 (Option.some.inj hF).symm
  rw [if_neg c29] at hF
  by_cases c30 : p1 = 6
  · rw [if_pos c30] at hF
    refine z_tswIn (tgt := 111) dX5_count_13 (by rw [c30]; decide) (by rw [c30]; decide) (by rw [c30]; rfl) (by decide) ?_
    refine z_aload_n (pc' := 112) dX5_count_111 rfl rfl rfl ?_
    obtain ⟨r21, S22, hc23, hF⟩ := z_bne hF
    refine k_X5_markChanged (F := 7) (L := 114) (pc' := 115) hc23 hst zw_94 rfl rfl (by decide) (by decide) (by decide) dX5_count_112 rfl ?_
    exact z_ireturn rfl dX5_count_115 (Option.some.inj hF).symm
  rw [if_neg c30] at hF
  by_cases c31 : p1 = 7
  · rw [if_pos c31] at hF
    refine z_tswIn (tgt := 116) dX5_count_13 (by rw [c31]; decide) (by rw [c31]; decide) (by rw [c31]; rfl) (by decide) ?_
    refine z_aload_n (pc' := 117) dX5_count_116 rfl rfl rfl ?_
    refine gf_X5_41 (b := 55) (pc' := 120) rfl is_5_0 rfl dX5_count_117 rfl ?_
    refine gf_X5_251 (pc' := 123) rfl (is_5_f4 is_5_0) dX5_count_120 rfl ?_
    exact z_ireturn rfl dX5_count_123 (Option.some.inj hF).symm
  rw [if_neg c31] at hF
  by_cases c32 : p1 = 8
  · rw [if_pos c32] at hF
    refine z_tswIn (tgt := 124) dX5_count_13 (by rw [c32]; decide) (by rw [c32]; decide) (by rw [c32]; rfl) (by decide) ?_
    refine z_aload_n (pc' := 125) dX5_count_124 rfl rfl rfl ?_
    refine gf_X5_48 (b := 57) (pc' := 128) rfl is_5_0 rfl dX5_count_125 rfl ?_
    refine gf_X5_248 (pc' := 131) rfl (is_5_f5 is_5_0) dX5_count_128 rfl ?_
    exact z_ireturn rfl dX5_count_131 (Option.some.inj hF).symm
  rw [if_neg c32] at hF
  by_cases c33 : p1 = 9
  · rw [if_pos c33] at hF
    refine z_tswIn (tgt := 132) dX5_count_13 (by rw [c33]; decide) (by rw [c33]; decide) (by rw [c33]; rfl) (by decide) ?_
    refine z_aload_n (pc' := 133) dX5_count_132 rfl rfl rfl ?_
    refine gf_X5_41 (b := 55) (pc' := 136) rfl is_5_0 rfl dX5_count_133 rfl ?_
    refine gf_X5_301 (pc' := 139) rfl (is_5_f4 is_5_0) dX5_count_136 rfl ?_
    exact z_ireturn rfl dX5_count_139 (Option.some.inj hF).symm
  rw [if_neg c33] at hF
  refine z_tswOut (tgt := 140) dX5_count_13 (z_out0_9 c24 c25 c26 c27 c28 c29 c30 c31 c32 c33) (by decide) ?_
  exact z_throwSW (text := "nothing of that number is counted") (names := ["java/lang/RuntimeException", "java/lang/Exception"]) rfl (Option.some.inj hF).symm (by decide +kernel) (by decide +kernel) (by decide +kernel) zw_48 zw_49 z_at_159 dX5_count_140 dX5_count_143 dX5_count_144 dX5_count_147 dX5_count_150 ⟨by show (_ : Nat) ≤ 7; decide, by show (_ : Nat) ≤ 114; decide⟩ ⟨rfl, rfl⟩
theorem ok_X5_count : z_okV I_X5_count 1 := ⟨⟨z_Gin (List.mem_of_getElem? (i := 887) (by decide +kernel)) rfl, z_Gin (List.mem_of_getElem? (i := 888) (by decide +kernel)) rfl, z_Gin (List.mem_of_getElem? (i := 89) (by decide +kernel)) rfl, z_Gin (List.mem_of_getElem? (i := 889) (by decide +kernel)) rfl⟩, by decide, by decide, by decide +kernel⟩
theorem k_X5_count {l : Launch} {I : z_I} {R : Room} {B : Nat} {p1 : Int32} {q : z_O × z_S} {pc pc' : Nat} {ls : List (Option Value)} {st : List Value} {S S1 : z_S} {idx F L : Nat} {r : Int32}  (hF : F_X5_count B p1 S = some (.inl (some r), S1)) (hst : l.stackTraces = false) (w : Cond.methodLink I.1.cls idx yX5_count ∈ z_G) (hRF : R.frames = F) (hRL : R.locals = L) (h1 : 8 ≤ F) (h2 : 136 ≤ L) (hs : (st.map fun v => v.category).sum ≤ 8) (d : decode I.2.1 pc = .ok (.invokevirtual idx, 3)) (hp : pc + 3 = pc') (k : z_W l I R B q pc' ls (.int r :: st) S1) : z_W l I R B q pc ls (.int p1 :: .ref 0 :: st) S := z_callV (Y := I_X5_count) (As := [.int p1]) (st := st) (r := (some r)) (S1 := S1) (c_X5_count (q := (.inl (some r), S1)) hst hF) ok_X5_count w (ci := 5) rfl is_5_0.1 is_5_0.2 rfl ⟨by rw [hRF]; exact h1, by rw [hRL]; exact h2⟩ hs d hp rfl k
theorem kx_X5_count {l : Launch} {I : z_I} {R : Room} {B : Nat} {p1 : Int32} {q : z_O × z_S} {pc : Nat} {ls : List (Option Value)} {st : List Value} {S S1 : z_S} {idx F L : Nat} {E : String}  (hF : F_X5_count B p1 S = some (.inr E, S1)) (hq : q = (.inr E, S1)) (hst : l.stackTraces = false) (w : Cond.methodLink I.1.cls idx yX5_count ∈ z_G) (hRF : R.frames = F) (hRL : R.locals = L) (h1 : 8 ≤ F) (h2 : 136 ≤ L) (hRc : R.cells = z_mc q.1 ∧ R.slots = 6 * z_mc q.1) (hs : (st.map fun v => v.category).sum ≤ 8) (d : decode I.2.1 pc = .ok (.invokevirtual idx, 3)) : z_W l I R B q pc ls (.int p1 :: .ref 0 :: st) S := z_callVX (Y := I_X5_count) (As := [.int p1]) (st := st) (E := E) (S1 := S1) (c_X5_count (q := (.inr E, S1)) hst hF) hq ok_X5_count w (ci := 5) rfl is_5_0.1 is_5_0.2 rfl ⟨by rw [hRF]; exact h1, by rw [hRL]; exact h2⟩ hRc hs d rfl

abbrev I_X6_thrown : z_I := (yX6_thrown, cX6_thrown, 1, some .int)
abbrev R_X6_thrown (q : z_O × z_S) : Room := { frames := 0, locals := 0, cells := z_mc q.1, slots := 6 * z_mc q.1 }
def F_X6_thrown (B : Nat)  (S : z_S) : Option (z_O × z_S) :=
  some (.inl (some (S.2.1 60 0)), S)
set_option maxRecDepth 20000 in
set_option maxHeartbeats 16000000 in
theorem c_X6_thrown {l : Launch} {B : Nat}  {S : z_S} {q : z_O × z_S} (hst : l.stackTraces = false) (hF : F_X6_thrown B S = some q) : z_Met l I_X6_thrown 0 0 B [.ref 60] S q.1 q.2 := by
  refine z_enter (ls := [some (.ref 60)]) (n := 0) (by decide) rfl (Nat.le_of_ble_eq_true rfl) hst ?_
  unfold F_X6_thrown at hF
  refine z_aload_n (pc' := 1) dX6_thrown_0 rfl rfl rfl ?_
  refine gf_X6_40 (pc' := 4) rfl is_6_60 dX6_thrown_1 rfl ?_
  exact z_ireturn rfl dX6_thrown_4 (Option.some.inj hF).symm
theorem ok_X6_thrown : z_okV I_X6_thrown 0 := ⟨⟨z_Gin (List.mem_of_getElem? (i := 967) (by decide +kernel)) rfl, z_Gin (List.mem_of_getElem? (i := 968) (by decide +kernel)) rfl, z_Gin (List.mem_of_getElem? (i := 98) (by decide +kernel)) rfl, z_Gin (List.mem_of_getElem? (i := 969) (by decide +kernel)) rfl⟩, by decide, by decide, by decide +kernel⟩
theorem k_X6_thrown {l : Launch} {I : z_I} {R : Room} {B : Nat}  {q : z_O × z_S} {pc pc' : Nat} {ls : List (Option Value)} {st : List Value} {S S1 : z_S} {idx F L : Nat} {r : Int32}  (hF : F_X6_thrown B S = some (.inl (some r), S1)) (hst : l.stackTraces = false) (w : Cond.methodLink I.1.cls idx yX6_thrown ∈ z_G) (hRF : R.frames = F) (hRL : R.locals = L) (h1 : 1 ≤ F) (h2 : 20 ≤ L) (hs : (st.map fun v => v.category).sum ≤ 8) (d : decode I.2.1 pc = .ok (.invokevirtual idx, 3)) (hp : pc + 3 = pc') (k : z_W l I R B q pc' ls (.int r :: st) S1) : z_W l I R B q pc ls (.ref 60 :: st) S := z_callV (Y := I_X6_thrown) (As := []) (st := st) (r := (some r)) (S1 := S1) (c_X6_thrown (q := (.inl (some r), S1)) hst hF) ok_X6_thrown w (ci := 6) rfl is_6_60.1 is_6_60.2 rfl ⟨by rw [hRF]; exact h1, by rw [hRL]; exact h2⟩ hs d hp rfl k

abbrev I_X6_keep : z_I := (yX6_keep, cX6_keep, 3, none)
abbrev R_X6_keep (q : z_O × z_S) : Room := { frames := 0, locals := 0, cells := z_mc q.1, slots := 6 * z_mc q.1 }
def F_X6_keep_2 (B : Nat) (a1 m1 : Nat) (a2 m2 : Nat)  : Nat → Int32 → z_S → Option (z_O × z_S)
  | 0, _, _ => none
  | n + 1, v2, S => if 25366 ≤ v2 then
    some (.inl none, S)
  else
    z_gd (z_inb v2 m1) (
    z_lt (S.1 a1 (z_ix (v2))) fun x2 =>
    (z_gd (z_inb v2 m2) (
    z_lt (z_ua S a2 (upd (S.1 a2) (z_ix (v2)) x2)) fun S4 =>
    (F_X6_keep_2 B a1 m1 a2 m2 n (v2 + 1) S4))))
set_option maxRecDepth 20000 in
set_option maxHeartbeats 16000000 in
theorem ok_X6_keep_2 {l : Launch} {B : Nat} {a1 : Nat} {m1 : Nat} {a2 : Nat} {m2 : Nat} {q : z_O × z_S} (hst : l.stackTraces = false) (ha1 : z_arr B a1 0 m1) (ha2 : z_arr B a2 0 m2) : ∀ (n : Nat) (v2 : Int32) (S : z_S), F_X6_keep_2 B a1 m1 a2 m2 n v2 S = some q → z_W l I_X6_keep (R_X6_keep q) B q 2 [some (.ref a1), some (.ref a2), some (.int v2)] [] S := by
  intro n
  induction n with
  | zero => intro v2 S hF; cases hF
  | succ n ih =>
    intro v2 S hF
    rw [F_X6_keep_2] at hF
    refine z_iload_n (pc' := 3) dX6_keep_2 rfl rfl rfl ?_
    refine z_sipush (v := 25366) (pc' := 6) dX6_keep_3 (by decide) rfl ?_
    refine z_icmp_ge (tgt := 21) (pc' := 9) dX6_keep_6 (by decide) rfl (fun c5 => ?_) (fun c5 => ?_)
    · rw [if_pos c5] at hF
      exact z_return rfl dX6_keep_21 (Option.some.inj hF).symm
    · rw [if_neg c5] at hF
      refine z_aload_n (pc' := 10) dX6_keep_9 rfl rfl rfl ?_
      refine z_iload_n (pc' := 11) dX6_keep_10 rfl rfl rfl ?_
      refine z_aload_n (pc' := 12) dX6_keep_11 rfl rfl rfl ?_
      refine z_iload_n (pc' := 13) dX6_keep_12 rfl rfl rfl ?_
      obtain ⟨g1, hF⟩ := z_gde hF
      refine z_iaload (pc' := 14) ha1 (z_inbe g1) dX6_keep_13 rfl ?_
      refine z_topi (fun x2 ex2 => ?_)
      replace hF := z_lte hF x2 ex2
      obtain ⟨g3, hF⟩ := z_gde hF
      refine z_iastore (pc' := 15) ha2 (z_inbe g3) dX6_keep_14 rfl (fun S4 eS4 => ?_)
      replace hF := z_lte hF S4 eS4
      refine z_iinc (v := v2 + 1) (pc' := 18) dX6_keep_15 rfl rfl (by decide) rfl rfl ?_
      refine z_goto (pc' := 2) dX6_keep_18 (by decide) ?_
      refine z_wk (ls' := [some (.ref a1), some (.ref a2), some (.int (v2 + 1))]) (z_lec rfl (z_lec rfl (z_lec rfl z_le0))) ?_
      exact ih _ _ hF
def F_X6_keep (B : Nat) (a1 m1 : Nat) (a2 m2 : Nat)  (S : z_S) : Option (z_O × z_S) :=
  F_X6_keep_2 B a1 m1 a2 m2 z_n 0 S
set_option maxRecDepth 20000 in
set_option maxHeartbeats 16000000 in
theorem c_X6_keep {l : Launch} {B : Nat} {a1 : Nat} {m1 : Nat} {a2 : Nat} {m2 : Nat}  {S : z_S} {q : z_O × z_S} (hst : l.stackTraces = false) (ha1 : z_arr B a1 0 m1) (ha2 : z_arr B a2 0 m2) (hF : F_X6_keep B a1 m1 a2 m2 S = some q) : z_Met l I_X6_keep 0 0 B [.ref a1, .ref a2] S q.1 q.2 := by
  refine z_enter (ls := [some (.ref a1), some (.ref a2), none]) (n := 1) (by decide) rfl (Nat.le_of_ble_eq_true rfl) hst ?_
  unfold F_X6_keep at hF
  refine z_iconst (v := 0) (pc' := 1) dX6_keep_0 (by decide) rfl ?_
  refine z_istore_n (pc' := 2) dX6_keep_1 rfl (by decide) rfl rfl ?_
  refine z_wk (ls' := [some (.ref a1), some (.ref a2), some (.int 0)]) (z_lec rfl (z_lec rfl (z_lec rfl z_le0))) ?_
  exact (ok_X6_keep_2 hst ha1 ha2 z_n) _ _ hF
theorem ok_X6_keep : z_okS I_X6_keep 2 := ⟨⟨z_Gin (List.mem_of_getElem? (i := 918) (by decide +kernel)) rfl, z_Gin (List.mem_of_getElem? (i := 98) (by decide +kernel)) rfl, z_Gin (List.mem_of_getElem? (i := 919) (by decide +kernel)) rfl⟩, by decide, by decide, by decide +kernel⟩
theorem k_X6_keep {l : Launch} {I : z_I} {R : Room} {B : Nat} {a1 : Nat} {m1 : Nat} {a2 : Nat} {m2 : Nat}  {q : z_O × z_S} {pc pc' : Nat} {ls : List (Option Value)} {st : List Value} {S S1 : z_S} {idx F L : Nat} (ha1 : z_arr B a1 0 m1) (ha2 : z_arr B a2 0 m2) (hF : F_X6_keep B a1 m1 a2 m2 S = some (.inl none, S1)) (hst : l.stackTraces = false) (w : Cond.methodLink I.1.cls idx yX6_keep ∈ z_G) (hRF : R.frames = F) (hRL : R.locals = L) (h1 : 1 ≤ F) (h2 : 22 ≤ L) (hs : (st.map fun v => v.category).sum ≤ 8) (d : decode I.2.1 pc = .ok (.invokestatic idx, 3)) (hp : pc + 3 = pc') (k : z_W l I R B q pc' ls st S1) : z_W l I R B q pc ls (.ref a2 :: .ref a1 :: st) S := z_callS (Y := I_X6_keep) (As := [.ref a1, .ref a2]) (st := st) (r := none) (S1 := S1) (c_X6_keep (q := (.inl none, S1)) hst ha1 ha2 hF) ok_X6_keep w rfl ⟨by rw [hRF]; exact h1, by rw [hRL]; exact h2⟩ hs d hp rfl k

abbrev I_X6_isIn : z_I := (yX6_isIn, cX6_isIn, 3, some .boolean)
abbrev R_X6_isIn (q : z_O × z_S) : Room := { frames := 0, locals := 0, cells := z_mc q.1, slots := 6 * z_mc q.1 }
def F_X6_isIn_15 (B : Nat)  (s0 : Int32) (S : z_S) : Option (z_O × z_S) :=
  z_gd (z_b01 s0) (some (.inl (some s0), S))
set_option maxRecDepth 20000 in
set_option maxHeartbeats 16000000 in
theorem ok_X6_isIn_15 {l : Launch} {B : Nat} {q : z_O × z_S} (hst : l.stackTraces = false) : ∀ (s0 : Int32) (S : z_S), F_X6_isIn_15 B s0 S = some q → z_W l I_X6_isIn (R_X6_isIn q) B q 15 [none, none, none] [.int s0] S := by
  intro s0 S hF
  unfold F_X6_isIn_15 at hF
  obtain ⟨g1, hF⟩ := z_gde hF
  exact z_zreturn rfl (z_b01e g1) dX6_isIn_15 (Option.some.inj hF).symm
def F_X6_isIn_14 (B : Nat) (k15 : Int32 → z_S → Option (z_O × z_S))  (S : z_S) : Option (z_O × z_S) :=
  k15 0 S
set_option maxRecDepth 20000 in
set_option maxHeartbeats 16000000 in
theorem ok_X6_isIn_14 {l : Launch} {B : Nat} {q : z_O × z_S} (hst : l.stackTraces = false) {k15 : Int32 → z_S → Option (z_O × z_S)} (hk15 : ∀ (s0 : Int32) (S : z_S), k15 s0 S = some q → z_W l I_X6_isIn (R_X6_isIn q) B q 15 [none, none, none] [.int s0] S) : ∀ (S : z_S), F_X6_isIn_14 B k15 S = some q → z_W l I_X6_isIn (R_X6_isIn q) B q 14 [none, none, none] [] S := by
  intro S hF
  unfold F_X6_isIn_14 at hF
  refine z_iconst (v := 0) (pc' := 15) dX6_isIn_14 (by decide) rfl ?_
  refine z_wk (ls' := [none, none, none]) (z_len1 (z_len1 (z_len1 z_le0))) ?_
  exact hk15 _ _ hF
def F_X6_isIn (B : Nat) (p0 : Int32) (p1 : Int32) (p2 : Int32) (S : z_S) : Option (z_O × z_S) :=
  if p0 < p1 then
    F_X6_isIn_14 B (F_X6_isIn_15 B ) S
  else
    if p2 < p0 then
      F_X6_isIn_14 B (F_X6_isIn_15 B ) S
    else
      F_X6_isIn_15 B 1 S
set_option maxRecDepth 20000 in
set_option maxHeartbeats 16000000 in
theorem c_X6_isIn {l : Launch} {B : Nat} {p0 : Int32} {p1 : Int32} {p2 : Int32} {S : z_S} {q : z_O × z_S} (hst : l.stackTraces = false) (hF : F_X6_isIn B p0 p1 p2 S = some q) : z_Met l I_X6_isIn 0 0 B [.int p0, .int p1, .int p2] S q.1 q.2 := by
  refine z_enter (ls := [some (.int p0), some (.int p1), some (.int p2)]) (n := 0) (by decide) rfl (Nat.le_of_ble_eq_true rfl) hst ?_
  unfold F_X6_isIn at hF
  refine z_iload_n (pc' := 1) dX6_isIn_0 rfl rfl rfl ?_
  refine z_iload_n (pc' := 2) dX6_isIn_1 rfl rfl rfl ?_
  refine z_icmp_lt (tgt := 14) (pc' := 5) dX6_isIn_2 (by decide) rfl (fun c2 => ?_) (fun c2 => ?_)
  · rw [if_pos c2] at hF
    refine z_wk (ls' := [none, none, none]) (z_len1 (z_len1 (z_len1 z_le0))) ?_
    exact (ok_X6_isIn_14 hst (ok_X6_isIn_15 hst)) _ hF
  · rw [if_neg c2] at hF
    refine z_iload_n (pc' := 6) dX6_isIn_5 rfl rfl rfl ?_
    refine z_iload_n (pc' := 7) dX6_isIn_6 rfl rfl rfl ?_
    refine z_icmp_gt (tgt := 14) (pc' := 10) dX6_isIn_7 (by decide) rfl (fun c1 => ?_) (fun c1 => ?_)
    · rw [if_pos c1] at hF
      refine z_wk (ls' := [none, none, none]) (z_len1 (z_len1 (z_len1 z_le0))) ?_
      exact (ok_X6_isIn_14 hst (ok_X6_isIn_15 hst)) _ hF
    · rw [if_neg c1] at hF
      refine z_iconst (v := 1) (pc' := 11) dX6_isIn_10 (by decide) rfl ?_
      refine z_goto (pc' := 15) dX6_isIn_11 (by decide) ?_
      refine z_wk (ls' := [none, none, none]) (z_len1 (z_len1 (z_len1 z_le0))) ?_
      exact (ok_X6_isIn_15 hst) _ _ hF
theorem ok_X6_isIn : z_okS I_X6_isIn 3 := ⟨⟨z_Gin (List.mem_of_getElem? (i := 983) (by decide +kernel)) rfl, z_Gin (List.mem_of_getElem? (i := 98) (by decide +kernel)) rfl, z_Gin (List.mem_of_getElem? (i := 984) (by decide +kernel)) rfl⟩, by decide, by decide, by decide +kernel⟩
theorem k_X6_isIn {l : Launch} {I : z_I} {R : Room} {B : Nat} {p0 : Int32} {p1 : Int32} {p2 : Int32} {q : z_O × z_S} {pc pc' : Nat} {ls : List (Option Value)} {st : List Value} {S S1 : z_S} {idx F L : Nat} {r : Int32}  (hF : F_X6_isIn B p0 p1 p2 S = some (.inl (some r), S1)) (hst : l.stackTraces = false) (w : Cond.methodLink I.1.cls idx yX6_isIn ∈ z_G) (hRF : R.frames = F) (hRL : R.locals = L) (h1 : 1 ≤ F) (h2 : 22 ≤ L) (hs : (st.map fun v => v.category).sum ≤ 8) (d : decode I.2.1 pc = .ok (.invokestatic idx, 3)) (hp : pc + 3 = pc') (k : z_W l I R B q pc' ls (.int r :: st) S1) : z_W l I R B q pc ls (.int p2 :: .int p1 :: .int p0 :: st) S := z_callS (Y := I_X6_isIn) (As := [.int p0, .int p1, .int p2]) (st := st) (r := (some r)) (S1 := S1) (c_X6_isIn (q := (.inl (some r), S1)) hst hF) ok_X6_isIn w rfl ⟨by rw [hRF]; exact h1, by rw [hRL]; exact h2⟩ hs d hp rfl k

abbrev I_X6_isObject : z_I := (yX6_isObject, cX6_isObject, 2, some .boolean)
abbrev R_X6_isObject (q : z_O × z_S) : Room := { frames := 1, locals := 22, cells := z_mc q.1, slots := 6 * z_mc q.1 }
def F_X6_isObject_27 (B : Nat)  (s0 : Int32) (S : z_S) : Option (z_O × z_S) :=
  z_gd (z_b01 s0) (some (.inl (some s0), S))
set_option maxRecDepth 20000 in
set_option maxHeartbeats 16000000 in
theorem ok_X6_isObject_27 {l : Launch} {B : Nat} {q : z_O × z_S} (hst : l.stackTraces = false) : ∀ (s0 : Int32) (S : z_S), F_X6_isObject_27 B s0 S = some q → z_W l I_X6_isObject (R_X6_isObject q) B q 27 [none, none] [.int s0] S := by
  intro s0 S hF
  unfold F_X6_isObject_27 at hF
  obtain ⟨g1, hF⟩ := z_gde hF
  exact z_zreturn rfl (z_b01e g1) dX6_isObject_27 (Option.some.inj hF).symm
def F_X6_isObject_26 (B : Nat) (k27 : Int32 → z_S → Option (z_O × z_S))  (S : z_S) : Option (z_O × z_S) :=
  k27 0 S
set_option maxRecDepth 20000 in
set_option maxHeartbeats 16000000 in
theorem ok_X6_isObject_26 {l : Launch} {B : Nat} {q : z_O × z_S} (hst : l.stackTraces = false) {k27 : Int32 → z_S → Option (z_O × z_S)} (hk27 : ∀ (s0 : Int32) (S : z_S), k27 s0 S = some q → z_W l I_X6_isObject (R_X6_isObject q) B q 27 [none, none] [.int s0] S) : ∀ (S : z_S), F_X6_isObject_26 B k27 S = some q → z_W l I_X6_isObject (R_X6_isObject q) B q 26 [none, none] [] S := by
  intro S hF
  unfold F_X6_isObject_26 at hF
  refine z_iconst (v := 0) (pc' := 27) dX6_isObject_26 (by decide) rfl ?_
  refine z_wk (ls' := [none, none]) (z_len1 (z_len1 z_le0)) ?_
  exact hk27 _ _ hF
def F_X6_isObject (B : Nat) (p1 : Int32) (S : z_S) : Option (z_O × z_S) :=
  z_bn (F_X6_isIn B p1 1 60 S) fun r1 S2 =>
  (if r1 = 0 then
    F_X6_isObject_26 B (F_X6_isObject_27 B ) S2
  else
    z_gd (z_inb (96 + p1) 25366) (
    z_lt (S2.1 61 (z_ix (96 + p1))) fun x5 =>
    (if x5 ≤ 0 then
      F_X6_isObject_26 B (F_X6_isObject_27 B ) S2
    else
      F_X6_isObject_27 B 1 S2)))
set_option maxRecDepth 20000 in
set_option maxHeartbeats 16000000 in
theorem c_X6_isObject {l : Launch} {B : Nat} {p1 : Int32} {S : z_S} {q : z_O × z_S} (hst : l.stackTraces = false) (hF : F_X6_isObject B p1 S = some q) : z_Met l I_X6_isObject 1 22 B [.ref 60, .int p1] S q.1 q.2 := by
  refine z_enter (ls := [some (.ref 60), some (.int p1)]) (n := 0) (by decide) rfl (Nat.le_of_ble_eq_true rfl) hst ?_
  unfold F_X6_isObject at hF
  refine z_iload_n (pc' := 1) dX6_isObject_0 rfl rfl rfl ?_
  refine z_iconst (v := 1) (pc' := 2) dX6_isObject_1 (by decide) rfl ?_
  refine z_bipush (v := 60) (pc' := 4) dX6_isObject_2 (by decide) rfl ?_
  obtain ⟨r1, S2, hc3, hF⟩ := z_bne hF
  refine k_X6_isIn (F := 1) (L := 22) (pc' := 7) hc3 hst zw_104 rfl rfl (by decide) (by decide) (by decide) dX6_isObject_4 rfl ?_
  refine z_if_eq (tgt := 26) (pc' := 10) dX6_isObject_7 (by decide) rfl (fun c7 => ?_) (fun c7 => ?_)
  · rw [if_pos c7] at hF
    refine z_wk (ls' := [none, none]) (z_len1 (z_len1 z_le0)) ?_
    exact (ok_X6_isObject_26 hst (ok_X6_isObject_27 hst)) _ hF
  · rw [if_neg c7] at hF
    refine z_aload_n (pc' := 11) dX6_isObject_10 rfl rfl rfl ?_
    refine gf_X6_7 (b := 61) (pc' := 14) rfl is_6_60 rfl dX6_isObject_11 rfl ?_
    refine z_bipush (v := 96) (pc' := 16) dX6_isObject_14 (by decide) rfl ?_
    refine z_iload_n (pc' := 17) dX6_isObject_16 rfl rfl rfl ?_
    refine z_iadd (pc' := 18) dX6_isObject_17 rfl ?_
    obtain ⟨g4, hF⟩ := z_gde hF
    refine z_iaload (pc' := 19) (ar_6_f3 is_6_60) (z_inbe g4) dX6_isObject_18 rfl ?_
    refine z_topi (fun x5 ex5 => ?_)
    replace hF := z_lte hF x5 ex5
    refine z_if_le (tgt := 26) (pc' := 22) dX6_isObject_19 (by decide) rfl (fun c6 => ?_) (fun c6 => ?_)
    · rw [if_pos c6] at hF
      refine z_wk (ls' := [none, none]) (z_len1 (z_len1 z_le0)) ?_
      exact (ok_X6_isObject_26 hst (ok_X6_isObject_27 hst)) _ hF
    · rw [if_neg c6] at hF
      refine z_iconst (v := 1) (pc' := 23) dX6_isObject_22 (by decide) rfl ?_
      refine z_goto (pc' := 27) dX6_isObject_23 (by decide) ?_
      refine z_wk (ls' := [none, none]) (z_len1 (z_len1 z_le0)) ?_
      exact (ok_X6_isObject_27 hst) _ _ hF
theorem ok_X6_isObject : z_okV I_X6_isObject 1 := ⟨⟨z_Gin (List.mem_of_getElem? (i := 980) (by decide +kernel)) rfl, z_Gin (List.mem_of_getElem? (i := 38) (by decide +kernel)) rfl, z_Gin (List.mem_of_getElem? (i := 98) (by decide +kernel)) rfl, z_Gin (List.mem_of_getElem? (i := 981) (by decide +kernel)) rfl⟩, by decide, by decide, by decide +kernel⟩
theorem k_X6_isObject {l : Launch} {I : z_I} {R : Room} {B : Nat} {p1 : Int32} {q : z_O × z_S} {pc pc' : Nat} {ls : List (Option Value)} {st : List Value} {S S1 : z_S} {idx F L : Nat} {r : Int32}  (hF : F_X6_isObject B p1 S = some (.inl (some r), S1)) (hst : l.stackTraces = false) (w : Cond.methodLink I.1.cls idx yX6_isObject ∈ z_G) (hRF : R.frames = F) (hRL : R.locals = L) (h1 : 2 ≤ F) (h2 : 43 ≤ L) (hs : (st.map fun v => v.category).sum ≤ 8) (d : decode I.2.1 pc = .ok (.invokevirtual idx, 3)) (hp : pc + 3 = pc') (k : z_W l I R B q pc' ls (.int r :: st) S1) : z_W l I R B q pc ls (.int p1 :: .ref 60 :: st) S := z_callV (Y := I_X6_isObject) (As := [.int p1]) (st := st) (r := (some r)) (S1 := S1) (c_X6_isObject (q := (.inl (some r), S1)) hst hF) ok_X6_isObject w (ci := 6) rfl is_6_60.1 is_6_60.2 rfl ⟨by rw [hRF]; exact h1, by rw [hRL]; exact h2⟩ hs d hp rfl k

abbrev I_X6_isDirectory : z_I := (yX6_isDirectory, cX6_isDirectory, 2, some .boolean)
abbrev R_X6_isDirectory (q : z_O × z_S) : Room := { frames := 2, locals := 43, cells := z_mc q.1, slots := 6 * z_mc q.1 }
def F_X6_isDirectory_26 (B : Nat)  (s0 : Int32) (S : z_S) : Option (z_O × z_S) :=
  z_gd (z_b01 s0) (some (.inl (some s0), S))
set_option maxRecDepth 20000 in
set_option maxHeartbeats 16000000 in
theorem ok_X6_isDirectory_26 {l : Launch} {B : Nat} {q : z_O × z_S} (hst : l.stackTraces = false) : ∀ (s0 : Int32) (S : z_S), F_X6_isDirectory_26 B s0 S = some q → z_W l I_X6_isDirectory (R_X6_isDirectory q) B q 26 [none, none] [.int s0] S := by
  intro s0 S hF
  unfold F_X6_isDirectory_26 at hF
  obtain ⟨g1, hF⟩ := z_gde hF
  exact z_zreturn rfl (z_b01e g1) dX6_isDirectory_26 (Option.some.inj hF).symm
def F_X6_isDirectory_25 (B : Nat) (k26 : Int32 → z_S → Option (z_O × z_S))  (S : z_S) : Option (z_O × z_S) :=
  k26 0 S
set_option maxRecDepth 20000 in
set_option maxHeartbeats 16000000 in
theorem ok_X6_isDirectory_25 {l : Launch} {B : Nat} {q : z_O × z_S} (hst : l.stackTraces = false) {k26 : Int32 → z_S → Option (z_O × z_S)} (hk26 : ∀ (s0 : Int32) (S : z_S), k26 s0 S = some q → z_W l I_X6_isDirectory (R_X6_isDirectory q) B q 26 [none, none] [.int s0] S) : ∀ (S : z_S), F_X6_isDirectory_25 B k26 S = some q → z_W l I_X6_isDirectory (R_X6_isDirectory q) B q 25 [none, none] [] S := by
  intro S hF
  unfold F_X6_isDirectory_25 at hF
  refine z_iconst (v := 0) (pc' := 26) dX6_isDirectory_25 (by decide) rfl ?_
  refine z_wk (ls' := [none, none]) (z_len1 (z_len1 z_le0)) ?_
  exact hk26 _ _ hF
def F_X6_isDirectory (B : Nat) (p1 : Int32) (S : z_S) : Option (z_O × z_S) :=
  z_bn (F_X6_isObject B p1 S) fun r1 S2 =>
  (if r1 = 0 then
    F_X6_isDirectory_25 B (F_X6_isDirectory_26 B ) S2
  else
    z_gd (z_inb (96 + p1) 25366) (
    z_lt (S2.1 61 (z_ix (96 + p1))) fun x5 =>
    (if x5 = 1 then
      F_X6_isDirectory_26 B 1 S2
    else
      F_X6_isDirectory_25 B (F_X6_isDirectory_26 B ) S2)))
set_option maxRecDepth 20000 in
set_option maxHeartbeats 16000000 in
theorem c_X6_isDirectory {l : Launch} {B : Nat} {p1 : Int32} {S : z_S} {q : z_O × z_S} (hst : l.stackTraces = false) (hF : F_X6_isDirectory B p1 S = some q) : z_Met l I_X6_isDirectory 2 43 B [.ref 60, .int p1] S q.1 q.2 := by
  refine z_enter (ls := [some (.ref 60), some (.int p1)]) (n := 0) (by decide) rfl (Nat.le_of_ble_eq_true rfl) hst ?_
  unfold F_X6_isDirectory at hF
  refine z_aload_n (pc' := 1) dX6_isDirectory_0 rfl rfl rfl ?_
  refine z_iload_n (pc' := 2) dX6_isDirectory_1 rfl rfl rfl ?_
  obtain ⟨r1, S2, hc3, hF⟩ := z_bne hF
  refine k_X6_isObject (F := 2) (L := 43) (pc' := 5) hc3 hst zw_105 rfl rfl (by decide) (by decide) (by decide) dX6_isDirectory_2 rfl ?_
  refine z_if_eq (tgt := 25) (pc' := 8) dX6_isDirectory_5 (by decide) rfl (fun c7 => ?_) (fun c7 => ?_)
  · rw [if_pos c7] at hF
    refine z_wk (ls' := [none, none]) (z_len1 (z_len1 z_le0)) ?_
    exact (ok_X6_isDirectory_25 hst (ok_X6_isDirectory_26 hst)) _ hF
  · rw [if_neg c7] at hF
    refine z_aload_n (pc' := 9) dX6_isDirectory_8 rfl rfl rfl ?_
    refine gf_X6_7 (b := 61) (pc' := 12) rfl is_6_60 rfl dX6_isDirectory_9 rfl ?_
    refine z_bipush (v := 96) (pc' := 14) dX6_isDirectory_12 (by decide) rfl ?_
    refine z_iload_n (pc' := 15) dX6_isDirectory_14 rfl rfl rfl ?_
    refine z_iadd (pc' := 16) dX6_isDirectory_15 rfl ?_
    obtain ⟨g4, hF⟩ := z_gde hF
    refine z_iaload (pc' := 17) (ar_6_f3 is_6_60) (z_inbe g4) dX6_isDirectory_16 rfl ?_
    refine z_topi (fun x5 ex5 => ?_)
    replace hF := z_lte hF x5 ex5
    refine z_iconst (v := 1) (pc' := 18) dX6_isDirectory_17 (by decide) rfl ?_
    refine z_icmp_ne (tgt := 25) (pc' := 21) dX6_isDirectory_18 (by decide) rfl (fun c6 => ?_) (fun c6 => ?_)
    · rw [if_neg c6] at hF
      refine z_wk (ls' := [none, none]) (z_len1 (z_len1 z_le0)) ?_
      exact (ok_X6_isDirectory_25 hst (ok_X6_isDirectory_26 hst)) _ hF
    · rw [if_pos c6] at hF
      refine z_iconst (v := 1) (pc' := 22) dX6_isDirectory_21 (by decide) rfl ?_
      refine z_goto (pc' := 26) dX6_isDirectory_22 (by decide) ?_
      refine z_wk (ls' := [none, none]) (z_len1 (z_len1 z_le0)) ?_
      exact (ok_X6_isDirectory_26 hst) _ _ hF
theorem ok_X6_isDirectory : z_okV I_X6_isDirectory 1 := ⟨⟨z_Gin (List.mem_of_getElem? (i := 976) (by decide +kernel)) rfl, z_Gin (List.mem_of_getElem? (i := 37) (by decide +kernel)) rfl, z_Gin (List.mem_of_getElem? (i := 98) (by decide +kernel)) rfl, z_Gin (List.mem_of_getElem? (i := 977) (by decide +kernel)) rfl⟩, by decide, by decide, by decide +kernel⟩
theorem k_X6_isDirectory {l : Launch} {I : z_I} {R : Room} {B : Nat} {p1 : Int32} {q : z_O × z_S} {pc pc' : Nat} {ls : List (Option Value)} {st : List Value} {S S1 : z_S} {idx F L : Nat} {r : Int32}  (hF : F_X6_isDirectory B p1 S = some (.inl (some r), S1)) (hst : l.stackTraces = false) (w : Cond.methodLink I.1.cls idx yX6_isDirectory ∈ z_G) (hRF : R.frames = F) (hRL : R.locals = L) (h1 : 3 ≤ F) (h2 : 64 ≤ L) (hs : (st.map fun v => v.category).sum ≤ 8) (d : decode I.2.1 pc = .ok (.invokevirtual idx, 3)) (hp : pc + 3 = pc') (k : z_W l I R B q pc' ls (.int r :: st) S1) : z_W l I R B q pc ls (.int p1 :: .ref 60 :: st) S := z_callV (Y := I_X6_isDirectory) (As := [.int p1]) (st := st) (r := (some r)) (S1 := S1) (c_X6_isDirectory (q := (.inl (some r), S1)) hst hF) ok_X6_isDirectory w (ci := 6) rfl is_6_60.1 is_6_60.2 rfl ⟨by rw [hRF]; exact h1, by rw [hRL]; exact h2⟩ hs d hp rfl k

abbrev I_X6_isFile : z_I := (yX6_isFile, cX6_isFile, 2, some .boolean)
abbrev R_X6_isFile (q : z_O × z_S) : Room := { frames := 2, locals := 43, cells := z_mc q.1, slots := 6 * z_mc q.1 }
def F_X6_isFile_26 (B : Nat)  (s0 : Int32) (S : z_S) : Option (z_O × z_S) :=
  z_gd (z_b01 s0) (some (.inl (some s0), S))
set_option maxRecDepth 20000 in
set_option maxHeartbeats 16000000 in
theorem ok_X6_isFile_26 {l : Launch} {B : Nat} {q : z_O × z_S} (hst : l.stackTraces = false) : ∀ (s0 : Int32) (S : z_S), F_X6_isFile_26 B s0 S = some q → z_W l I_X6_isFile (R_X6_isFile q) B q 26 [none, none] [.int s0] S := by
  intro s0 S hF
  unfold F_X6_isFile_26 at hF
  obtain ⟨g1, hF⟩ := z_gde hF
  exact z_zreturn rfl (z_b01e g1) dX6_isFile_26 (Option.some.inj hF).symm
def F_X6_isFile_25 (B : Nat) (k26 : Int32 → z_S → Option (z_O × z_S))  (S : z_S) : Option (z_O × z_S) :=
  k26 0 S
set_option maxRecDepth 20000 in
set_option maxHeartbeats 16000000 in
theorem ok_X6_isFile_25 {l : Launch} {B : Nat} {q : z_O × z_S} (hst : l.stackTraces = false) {k26 : Int32 → z_S → Option (z_O × z_S)} (hk26 : ∀ (s0 : Int32) (S : z_S), k26 s0 S = some q → z_W l I_X6_isFile (R_X6_isFile q) B q 26 [none, none] [.int s0] S) : ∀ (S : z_S), F_X6_isFile_25 B k26 S = some q → z_W l I_X6_isFile (R_X6_isFile q) B q 25 [none, none] [] S := by
  intro S hF
  unfold F_X6_isFile_25 at hF
  refine z_iconst (v := 0) (pc' := 26) dX6_isFile_25 (by decide) rfl ?_
  refine z_wk (ls' := [none, none]) (z_len1 (z_len1 z_le0)) ?_
  exact hk26 _ _ hF
def F_X6_isFile (B : Nat) (p1 : Int32) (S : z_S) : Option (z_O × z_S) :=
  z_bn (F_X6_isObject B p1 S) fun r1 S2 =>
  (if r1 = 0 then
    F_X6_isFile_25 B (F_X6_isFile_26 B ) S2
  else
    z_gd (z_inb (96 + p1) 25366) (
    z_lt (S2.1 61 (z_ix (96 + p1))) fun x5 =>
    (if x5 = 2 then
      F_X6_isFile_26 B 1 S2
    else
      F_X6_isFile_25 B (F_X6_isFile_26 B ) S2)))
set_option maxRecDepth 20000 in
set_option maxHeartbeats 16000000 in
theorem c_X6_isFile {l : Launch} {B : Nat} {p1 : Int32} {S : z_S} {q : z_O × z_S} (hst : l.stackTraces = false) (hF : F_X6_isFile B p1 S = some q) : z_Met l I_X6_isFile 2 43 B [.ref 60, .int p1] S q.1 q.2 := by
  refine z_enter (ls := [some (.ref 60), some (.int p1)]) (n := 0) (by decide) rfl (Nat.le_of_ble_eq_true rfl) hst ?_
  unfold F_X6_isFile at hF
  refine z_aload_n (pc' := 1) dX6_isFile_0 rfl rfl rfl ?_
  refine z_iload_n (pc' := 2) dX6_isFile_1 rfl rfl rfl ?_
  obtain ⟨r1, S2, hc3, hF⟩ := z_bne hF
  refine k_X6_isObject (F := 2) (L := 43) (pc' := 5) hc3 hst zw_105 rfl rfl (by decide) (by decide) (by decide) dX6_isFile_2 rfl ?_
  refine z_if_eq (tgt := 25) (pc' := 8) dX6_isFile_5 (by decide) rfl (fun c7 => ?_) (fun c7 => ?_)
  · rw [if_pos c7] at hF
    refine z_wk (ls' := [none, none]) (z_len1 (z_len1 z_le0)) ?_
    exact (ok_X6_isFile_25 hst (ok_X6_isFile_26 hst)) _ hF
  · rw [if_neg c7] at hF
    refine z_aload_n (pc' := 9) dX6_isFile_8 rfl rfl rfl ?_
    refine gf_X6_7 (b := 61) (pc' := 12) rfl is_6_60 rfl dX6_isFile_9 rfl ?_
    refine z_bipush (v := 96) (pc' := 14) dX6_isFile_12 (by decide) rfl ?_
    refine z_iload_n (pc' := 15) dX6_isFile_14 rfl rfl rfl ?_
    refine z_iadd (pc' := 16) dX6_isFile_15 rfl ?_
    obtain ⟨g4, hF⟩ := z_gde hF
    refine z_iaload (pc' := 17) (ar_6_f3 is_6_60) (z_inbe g4) dX6_isFile_16 rfl ?_
    refine z_topi (fun x5 ex5 => ?_)
    replace hF := z_lte hF x5 ex5
    refine z_iconst (v := 2) (pc' := 18) dX6_isFile_17 (by decide) rfl ?_
    refine z_icmp_ne (tgt := 25) (pc' := 21) dX6_isFile_18 (by decide) rfl (fun c6 => ?_) (fun c6 => ?_)
    · rw [if_neg c6] at hF
      refine z_wk (ls' := [none, none]) (z_len1 (z_len1 z_le0)) ?_
      exact (ok_X6_isFile_25 hst (ok_X6_isFile_26 hst)) _ hF
    · rw [if_pos c6] at hF
      refine z_iconst (v := 1) (pc' := 22) dX6_isFile_21 (by decide) rfl ?_
      refine z_goto (pc' := 26) dX6_isFile_22 (by decide) ?_
      refine z_wk (ls' := [none, none]) (z_len1 (z_len1 z_le0)) ?_
      exact (ok_X6_isFile_26 hst) _ _ hF
theorem ok_X6_isFile : z_okV I_X6_isFile 1 := ⟨⟨z_Gin (List.mem_of_getElem? (i := 1087) (by decide +kernel)) rfl, z_Gin (List.mem_of_getElem? (i := 63) (by decide +kernel)) rfl, z_Gin (List.mem_of_getElem? (i := 98) (by decide +kernel)) rfl, z_Gin (List.mem_of_getElem? (i := 1088) (by decide +kernel)) rfl⟩, by decide, by decide, by decide +kernel⟩
theorem k_X6_isFile {l : Launch} {I : z_I} {R : Room} {B : Nat} {p1 : Int32} {q : z_O × z_S} {pc pc' : Nat} {ls : List (Option Value)} {st : List Value} {S S1 : z_S} {idx F L : Nat} {r : Int32}  (hF : F_X6_isFile B p1 S = some (.inl (some r), S1)) (hst : l.stackTraces = false) (w : Cond.methodLink I.1.cls idx yX6_isFile ∈ z_G) (hRF : R.frames = F) (hRL : R.locals = L) (h1 : 3 ≤ F) (h2 : 64 ≤ L) (hs : (st.map fun v => v.category).sum ≤ 8) (d : decode I.2.1 pc = .ok (.invokevirtual idx, 3)) (hp : pc + 3 = pc') (k : z_W l I R B q pc' ls (.int r :: st) S1) : z_W l I R B q pc ls (.int p1 :: .ref 60 :: st) S := z_callV (Y := I_X6_isFile) (As := [.int p1]) (st := st) (r := (some r)) (S1 := S1) (c_X6_isFile (q := (.inl (some r), S1)) hst hF) ok_X6_isFile w (ci := 6) rfl is_6_60.1 is_6_60.2 rfl ⟨by rw [hRF]; exact h1, by rw [hRL]; exact h2⟩ hs d hp rfl k

abbrev I_X6_take : z_I := (yX6_take, cX6_take, 2, some .int)
abbrev R_X6_take (q : z_O × z_S) : Room := { frames := 0, locals := 0, cells := z_mc q.1, slots := 6 * z_mc q.1 }
def F_X6_take_2 (B : Nat)  : Nat → Int32 → z_S → Option (z_O × z_S)
  | 0, _, _ => none
  | n + 1, v1, S => if (S.2.1 60 1) ≤ v1 then
    z_gd (z_b01 1) (
    z_lt (z_ui S 60 7 1) fun S2 =>
    (some (.inl (some (-1)), S2)))
  else
    z_gd (z_inb (0 + v1) 25366) (
    z_lt (S.1 61 (z_ix (0 + v1))) fun x4 =>
    (if x4 = 0 then
      z_gd (z_inb (0 + v1) 25366) (
      z_lt (z_ua S 61 (upd (S.1 61) (z_ix (0 + v1)) 1)) fun S6 =>
      (z_gd (z_inb (3756 + v1) 25366) (
      z_lt (z_ua S6 61 (upd (S6.1 61) (z_ix (3756 + v1)) 0)) fun S8 =>
      (z_gd (z_inb (3852 + v1) 25366) (
      z_lt (z_ua S8 61 (upd (S8.1 61) (z_ix (3852 + v1)) 0)) fun S10 =>
      (some (.inl (some v1), S10)))))))
    else
      F_X6_take_2 B n (v1 + 1) S))
set_option maxRecDepth 20000 in
set_option maxHeartbeats 16000000 in
theorem ok_X6_take_2 {l : Launch} {B : Nat} {q : z_O × z_S} (hst : l.stackTraces = false) : ∀ (n : Nat) (v1 : Int32) (S : z_S), F_X6_take_2 B n v1 S = some q → z_W l I_X6_take (R_X6_take q) B q 2 [some (.ref 60), some (.int v1)] [] S := by
  intro n
  induction n with
  | zero => intro v1 S hF; cases hF
  | succ n ih =>
    intro v1 S hF
    rw [F_X6_take_2] at hF
    refine z_iload_n (pc' := 3) dX6_take_2 rfl rfl rfl ?_
    refine z_aload_n (pc' := 4) dX6_take_3 rfl rfl rfl ?_
    refine gf_X6_30 (pc' := 7) rfl is_6_60 dX6_take_4 rfl ?_
    refine z_icmp_ge (tgt := 60) (pc' := 10) dX6_take_7 (by decide) rfl (fun c12 => ?_) (fun c12 => ?_)
    · rw [if_pos c12] at hF
      refine z_aload_n (pc' := 61) dX6_take_60 rfl rfl rfl ?_
      refine z_iconst (v := 1) (pc' := 62) dX6_take_61 (by decide) rfl ?_
      obtain ⟨g1, hF⟩ := z_gde hF
      refine pf_X6_51 (pc' := 65) rfl is_6_60 (z_b01e g1) dX6_take_62 rfl (fun S2 eS2 => ?_)
      replace hF := z_lte hF S2 eS2
      refine z_iconst (v := (-1)) (pc' := 66) dX6_take_65 (by decide) rfl ?_
      exact z_ireturn rfl dX6_take_66 (Option.some.inj hF).symm
    · rw [if_neg c12] at hF
      refine z_aload_n (pc' := 11) dX6_take_10 rfl rfl rfl ?_
      refine gf_X6_7 (b := 61) (pc' := 14) rfl is_6_60 rfl dX6_take_11 rfl ?_
      refine z_iconst (v := 0) (pc' := 15) dX6_take_14 (by decide) rfl ?_
      refine z_iload_n (pc' := 16) dX6_take_15 rfl rfl rfl ?_
      refine z_iadd (pc' := 17) dX6_take_16 rfl ?_
      obtain ⟨g3, hF⟩ := z_gde hF
      refine z_iaload (pc' := 18) (ar_6_f3 is_6_60) (z_inbe g3) dX6_take_17 rfl ?_
      refine z_topi (fun x4 ex4 => ?_)
      replace hF := z_lte hF x4 ex4
      refine z_if_ne (tgt := 54) (pc' := 21) dX6_take_18 (by decide) rfl (fun c11 => ?_) (fun c11 => ?_)
      · rw [if_neg c11] at hF
        refine z_iinc (v := v1 + 1) (pc' := 57) dX6_take_54 rfl rfl (by decide) rfl rfl ?_
        refine z_goto (pc' := 2) dX6_take_57 (by decide) ?_
        refine z_wk (ls' := [some (.ref 60), some (.int (v1 + 1))]) (z_lec rfl (z_lec rfl z_le0)) ?_
        exact ih _ _ hF
      · rw [if_pos c11] at hF
        refine z_aload_n (pc' := 22) dX6_take_21 rfl rfl rfl ?_
        refine gf_X6_7 (b := 61) (pc' := 25) rfl is_6_60 rfl dX6_take_22 rfl ?_
        refine z_iconst (v := 0) (pc' := 26) dX6_take_25 (by decide) rfl ?_
        refine z_iload_n (pc' := 27) dX6_take_26 rfl rfl rfl ?_
        refine z_iadd (pc' := 28) dX6_take_27 rfl ?_
        refine z_iconst (v := 1) (pc' := 29) dX6_take_28 (by decide) rfl ?_
        obtain ⟨g5, hF⟩ := z_gde hF
        refine z_iastore (pc' := 30) (ar_6_f3 is_6_60) (z_inbe g5) dX6_take_29 rfl (fun S6 eS6 => ?_)
        replace hF := z_lte hF S6 eS6
        refine z_aload_n (pc' := 31) dX6_take_30 rfl rfl rfl ?_
        refine gf_X6_7 (b := 61) (pc' := 34) rfl is_6_60 rfl dX6_take_31 rfl ?_
        refine z_sipush (v := 3756) (pc' := 37) dX6_take_34 (by decide) rfl ?_
        refine z_iload_n (pc' := 38) dX6_take_37 rfl rfl rfl ?_
        refine z_iadd (pc' := 39) dX6_take_38 rfl ?_
        refine z_iconst (v := 0) (pc' := 40) dX6_take_39 (by decide) rfl ?_
        obtain ⟨g7, hF⟩ := z_gde hF
        refine z_iastore (pc' := 41) (ar_6_f3 is_6_60) (z_inbe g7) dX6_take_40 rfl (fun S8 eS8 => ?_)
        replace hF := z_lte hF S8 eS8
        refine z_aload_n (pc' := 42) dX6_take_41 rfl rfl rfl ?_
        refine gf_X6_7 (b := 61) (pc' := 45) rfl is_6_60 rfl dX6_take_42 rfl ?_
        refine z_sipush (v := 3852) (pc' := 48) dX6_take_45 (by decide) rfl ?_
        refine z_iload_n (pc' := 49) dX6_take_48 rfl rfl rfl ?_
        refine z_iadd (pc' := 50) dX6_take_49 rfl ?_
        refine z_iconst (v := 0) (pc' := 51) dX6_take_50 (by decide) rfl ?_
        obtain ⟨g9, hF⟩ := z_gde hF
        refine z_iastore (pc' := 52) (ar_6_f3 is_6_60) (z_inbe g9) dX6_take_51 rfl (fun S10 eS10 => ?_)
        replace hF := z_lte hF S10 eS10
        refine z_iload_n (pc' := 53) dX6_take_52 rfl rfl rfl ?_
        exact z_ireturn rfl dX6_take_53 (Option.some.inj hF).symm
def F_X6_take (B : Nat)  (S : z_S) : Option (z_O × z_S) :=
  F_X6_take_2 B z_n 1 S
set_option maxRecDepth 20000 in
set_option maxHeartbeats 16000000 in
theorem c_X6_take {l : Launch} {B : Nat}  {S : z_S} {q : z_O × z_S} (hst : l.stackTraces = false) (hF : F_X6_take B S = some q) : z_Met l I_X6_take 0 0 B [.ref 60] S q.1 q.2 := by
  refine z_enter (ls := [some (.ref 60), none]) (n := 1) (by decide) rfl (Nat.le_of_ble_eq_true rfl) hst ?_
  unfold F_X6_take at hF
  refine z_iconst (v := 1) (pc' := 1) dX6_take_0 (by decide) rfl ?_
  refine z_istore_n (pc' := 2) dX6_take_1 rfl (by decide) rfl rfl ?_
  refine z_wk (ls' := [some (.ref 60), some (.int 1)]) (z_lec rfl (z_lec rfl z_le0)) ?_
  exact (ok_X6_take_2 hst z_n) _ _ hF
theorem ok_X6_take : z_okV I_X6_take 0 := ⟨⟨z_Gin (List.mem_of_getElem? (i := 1055) (by decide +kernel)) rfl, z_Gin (List.mem_of_getElem? (i := 56) (by decide +kernel)) rfl, z_Gin (List.mem_of_getElem? (i := 98) (by decide +kernel)) rfl, z_Gin (List.mem_of_getElem? (i := 1056) (by decide +kernel)) rfl⟩, by decide, by decide, by decide +kernel⟩
theorem k_X6_take {l : Launch} {I : z_I} {R : Room} {B : Nat}  {q : z_O × z_S} {pc pc' : Nat} {ls : List (Option Value)} {st : List Value} {S S1 : z_S} {idx F L : Nat} {r : Int32}  (hF : F_X6_take B S = some (.inl (some r), S1)) (hst : l.stackTraces = false) (w : Cond.methodLink I.1.cls idx yX6_take ∈ z_G) (hRF : R.frames = F) (hRL : R.locals = L) (h1 : 1 ≤ F) (h2 : 21 ≤ L) (hs : (st.map fun v => v.category).sum ≤ 8) (d : decode I.2.1 pc = .ok (.invokevirtual idx, 3)) (hp : pc + 3 = pc') (k : z_W l I R B q pc' ls (.int r :: st) S1) : z_W l I R B q pc ls (.ref 60 :: st) S := z_callV (Y := I_X6_take) (As := []) (st := st) (r := (some r)) (S1 := S1) (c_X6_take (q := (.inl (some r), S1)) hst hF) ok_X6_take w (ci := 6) rfl is_6_60.1 is_6_60.2 rfl ⟨by rw [hRF]; exact h1, by rw [hRL]; exact h2⟩ hs d hp rfl k

abbrev I_X6_free : z_I := (yX6_free, cX6_free, 2, none)
abbrev R_X6_free (q : z_O × z_S) : Room := { frames := 0, locals := 0, cells := z_mc q.1, slots := 6 * z_mc q.1 }
def F_X6_free (B : Nat) (p1 : Int32) (S : z_S) : Option (z_O × z_S) :=
  z_gd (z_inb (0 + p1) 25366) (
  z_lt (z_ua S 61 (upd (S.1 61) (z_ix (0 + p1)) 0)) fun S2 =>
  (z_gd (z_inb (3756 + p1) 25366) (
  z_lt (z_ua S2 61 (upd (S2.1 61) (z_ix (3756 + p1)) 0)) fun S4 =>
  (z_gd (z_inb (3852 + p1) 25366) (
  z_lt (z_ua S4 61 (upd (S4.1 61) (z_ix (3852 + p1)) 0)) fun S6 =>
  (some (.inl none, S6)))))))
set_option maxRecDepth 20000 in
set_option maxHeartbeats 16000000 in
theorem c_X6_free {l : Launch} {B : Nat} {p1 : Int32} {S : z_S} {q : z_O × z_S} (hst : l.stackTraces = false) (hF : F_X6_free B p1 S = some q) : z_Met l I_X6_free 0 0 B [.ref 60, .int p1] S q.1 q.2 := by
  refine z_enter (ls := [some (.ref 60), some (.int p1)]) (n := 0) (by decide) rfl (Nat.le_of_ble_eq_true rfl) hst ?_
  unfold F_X6_free at hF
  refine z_aload_n (pc' := 1) dX6_free_0 rfl rfl rfl ?_
  refine gf_X6_7 (b := 61) (pc' := 4) rfl is_6_60 rfl dX6_free_1 rfl ?_
  refine z_iconst (v := 0) (pc' := 5) dX6_free_4 (by decide) rfl ?_
  refine z_iload_n (pc' := 6) dX6_free_5 rfl rfl rfl ?_
  refine z_iadd (pc' := 7) dX6_free_6 rfl ?_
  refine z_iconst (v := 0) (pc' := 8) dX6_free_7 (by decide) rfl ?_
  obtain ⟨g1, hF⟩ := z_gde hF
  refine z_iastore (pc' := 9) (ar_6_f3 is_6_60) (z_inbe g1) dX6_free_8 rfl (fun S2 eS2 => ?_)
  replace hF := z_lte hF S2 eS2
  refine z_aload_n (pc' := 10) dX6_free_9 rfl rfl rfl ?_
  refine gf_X6_7 (b := 61) (pc' := 13) rfl is_6_60 rfl dX6_free_10 rfl ?_
  refine z_sipush (v := 3756) (pc' := 16) dX6_free_13 (by decide) rfl ?_
  refine z_iload_n (pc' := 17) dX6_free_16 rfl rfl rfl ?_
  refine z_iadd (pc' := 18) dX6_free_17 rfl ?_
  refine z_iconst (v := 0) (pc' := 19) dX6_free_18 (by decide) rfl ?_
  obtain ⟨g3, hF⟩ := z_gde hF
  refine z_iastore (pc' := 20) (ar_6_f3 is_6_60) (z_inbe g3) dX6_free_19 rfl (fun S4 eS4 => ?_)
  replace hF := z_lte hF S4 eS4
  refine z_aload_n (pc' := 21) dX6_free_20 rfl rfl rfl ?_
  refine gf_X6_7 (b := 61) (pc' := 24) rfl is_6_60 rfl dX6_free_21 rfl ?_
  refine z_sipush (v := 3852) (pc' := 27) dX6_free_24 (by decide) rfl ?_
  refine z_iload_n (pc' := 28) dX6_free_27 rfl rfl rfl ?_
  refine z_iadd (pc' := 29) dX6_free_28 rfl ?_
  refine z_iconst (v := 0) (pc' := 30) dX6_free_29 (by decide) rfl ?_
  obtain ⟨g5, hF⟩ := z_gde hF
  refine z_iastore (pc' := 31) (ar_6_f3 is_6_60) (z_inbe g5) dX6_free_30 rfl (fun S6 eS6 => ?_)
  replace hF := z_lte hF S6 eS6
  exact z_return rfl dX6_free_31 (Option.some.inj hF).symm
theorem ok_X6_free : z_okV I_X6_free 1 := ⟨⟨z_Gin (List.mem_of_getElem? (i := 1111) (by decide +kernel)) rfl, z_Gin (List.mem_of_getElem? (i := 68) (by decide +kernel)) rfl, z_Gin (List.mem_of_getElem? (i := 98) (by decide +kernel)) rfl, z_Gin (List.mem_of_getElem? (i := 1112) (by decide +kernel)) rfl⟩, by decide, by decide, by decide +kernel⟩
theorem k_X6_free {l : Launch} {I : z_I} {R : Room} {B : Nat} {p1 : Int32} {q : z_O × z_S} {pc pc' : Nat} {ls : List (Option Value)} {st : List Value} {S S1 : z_S} {idx F L : Nat}  (hF : F_X6_free B p1 S = some (.inl none, S1)) (hst : l.stackTraces = false) (w : Cond.methodLink I.1.cls idx yX6_free ∈ z_G) (hRF : R.frames = F) (hRL : R.locals = L) (h1 : 1 ≤ F) (h2 : 21 ≤ L) (hs : (st.map fun v => v.category).sum ≤ 8) (d : decode I.2.1 pc = .ok (.invokevirtual idx, 3)) (hp : pc + 3 = pc') (k : z_W l I R B q pc' ls st S1) : z_W l I R B q pc ls (.int p1 :: .ref 60 :: st) S := z_callV (Y := I_X6_free) (As := [.int p1]) (st := st) (r := none) (S1 := S1) (c_X6_free (q := (.inl none, S1)) hst hF) ok_X6_free w (ci := 6) rfl is_6_60.1 is_6_60.2 rfl ⟨by rw [hRF]; exact h1, by rw [hRL]; exact h2⟩ hs d hp rfl k

abbrev I_X6_height : z_I := (yX6_height, cX6_height, 2, some .int)
abbrev R_X6_height (q : z_O × z_S) : Room := { frames := 0, locals := 0, cells := z_mc q.1, slots := 6 * z_mc q.1 }
def F_X6_height (B : Nat) (p1 : Int32) (S : z_S) : Option (z_O × z_S) :=
  z_gd (z_inb (3756 + p1) 25366) (
  z_lt (S.1 61 (z_ix (3756 + p1))) fun x2 =>
  (some (.inl (some (x2 - 1)), S)))
set_option maxRecDepth 20000 in
set_option maxHeartbeats 16000000 in
theorem c_X6_height {l : Launch} {B : Nat} {p1 : Int32} {S : z_S} {q : z_O × z_S} (hst : l.stackTraces = false) (hF : F_X6_height B p1 S = some q) : z_Met l I_X6_height 0 0 B [.ref 60, .int p1] S q.1 q.2 := by
  refine z_enter (ls := [some (.ref 60), some (.int p1)]) (n := 0) (by decide) rfl (Nat.le_of_ble_eq_true rfl) hst ?_
  unfold F_X6_height at hF
  refine z_aload_n (pc' := 1) dX6_height_0 rfl rfl rfl ?_
  refine gf_X6_7 (b := 61) (pc' := 4) rfl is_6_60 rfl dX6_height_1 rfl ?_
  refine z_sipush (v := 3756) (pc' := 7) dX6_height_4 (by decide) rfl ?_
  refine z_iload_n (pc' := 8) dX6_height_7 rfl rfl rfl ?_
  refine z_iadd (pc' := 9) dX6_height_8 rfl ?_
  obtain ⟨g1, hF⟩ := z_gde hF
  refine z_iaload (pc' := 10) (ar_6_f3 is_6_60) (z_inbe g1) dX6_height_9 rfl ?_
  refine z_topi (fun x2 ex2 => ?_)
  replace hF := z_lte hF x2 ex2
  refine z_iconst (v := 1) (pc' := 11) dX6_height_10 (by decide) rfl ?_
  refine z_isub (pc' := 12) dX6_height_11 rfl ?_
  exact z_ireturn rfl dX6_height_12 (Option.some.inj hF).symm
theorem ok_X6_height : z_okV I_X6_height 1 := ⟨⟨z_Gin (List.mem_of_getElem? (i := 1031) (by decide +kernel)) rfl, z_Gin (List.mem_of_getElem? (i := 50) (by decide +kernel)) rfl, z_Gin (List.mem_of_getElem? (i := 98) (by decide +kernel)) rfl, z_Gin (List.mem_of_getElem? (i := 1032) (by decide +kernel)) rfl⟩, by decide, by decide, by decide +kernel⟩
theorem k_X6_height {l : Launch} {I : z_I} {R : Room} {B : Nat} {p1 : Int32} {q : z_O × z_S} {pc pc' : Nat} {ls : List (Option Value)} {st : List Value} {S S1 : z_S} {idx F L : Nat} {r : Int32}  (hF : F_X6_height B p1 S = some (.inl (some r), S1)) (hst : l.stackTraces = false) (w : Cond.methodLink I.1.cls idx yX6_height ∈ z_G) (hRF : R.frames = F) (hRL : R.locals = L) (h1 : 1 ≤ F) (h2 : 21 ≤ L) (hs : (st.map fun v => v.category).sum ≤ 8) (d : decode I.2.1 pc = .ok (.invokevirtual idx, 3)) (hp : pc + 3 = pc') (k : z_W l I R B q pc' ls (.int r :: st) S1) : z_W l I R B q pc ls (.int p1 :: .ref 60 :: st) S := z_callV (Y := I_X6_height) (As := [.int p1]) (st := st) (r := (some r)) (S1 := S1) (c_X6_height (q := (.inl (some r), S1)) hst hF) ok_X6_height w (ci := 6) rfl is_6_60.1 is_6_60.2 rfl ⟨by rw [hRF]; exact h1, by rw [hRL]; exact h2⟩ hs d hp rfl k

abbrev I_X6_placeOf : z_I := (yX6_placeOf, cX6_placeOf, 4, some .int)
abbrev R_X6_placeOf (q : z_O × z_S) : Room := { frames := 1, locals := 21, cells := z_mc q.1, slots := 6 * z_mc q.1 }
def F_X6_placeOf_15 (B : Nat)  : Nat → Int32 → Int32 → Int32 → z_S → Option (z_O × z_S)
  | 0, _, _, _, _ => none
  | n + 1, v1, v2, v3, S => z_gd (z_inb (v2 + v3) 25366) (
  z_lt (S.1 61 (z_ix (v2 + v3))) fun x2 =>
  (if x2 = v1 then
    some (.inl (some v3), S)
  else
    F_X6_placeOf_15 B n v1 v2 (v3 + 1) S))
set_option maxRecDepth 20000 in
set_option maxHeartbeats 16000000 in
theorem ok_X6_placeOf_15 {l : Launch} {B : Nat} {q : z_O × z_S} (hst : l.stackTraces = false) : ∀ (n : Nat) (v1 : Int32) (v2 : Int32) (v3 : Int32) (S : z_S), F_X6_placeOf_15 B n v1 v2 v3 S = some q → z_W l I_X6_placeOf (R_X6_placeOf q) B q 15 [some (.ref 60), some (.int v1), some (.int v2), some (.int v3)] [] S := by
  intro n
  induction n with
  | zero => intro v1 v2 v3 S hF; cases hF
  | succ n ih =>
    intro v1 v2 v3 S hF
    rw [F_X6_placeOf_15] at hF
    refine z_aload_n (pc' := 16) dX6_placeOf_15 rfl rfl rfl ?_
    refine gf_X6_7 (b := 61) (pc' := 19) rfl is_6_60 rfl dX6_placeOf_16 rfl ?_
    refine z_iload_n (pc' := 20) dX6_placeOf_19 rfl rfl rfl ?_
    refine z_iload_n (pc' := 21) dX6_placeOf_20 rfl rfl rfl ?_
    refine z_iadd (pc' := 22) dX6_placeOf_21 rfl ?_
    obtain ⟨g1, hF⟩ := z_gde hF
    refine z_iaload (pc' := 23) (ar_6_f3 is_6_60) (z_inbe g1) dX6_placeOf_22 rfl ?_
    refine z_topi (fun x2 ex2 => ?_)
    replace hF := z_lte hF x2 ex2
    refine z_iload_n (pc' := 24) dX6_placeOf_23 rfl rfl rfl ?_
    refine z_icmp_eq (tgt := 33) (pc' := 27) dX6_placeOf_24 (by decide) rfl (fun c3 => ?_) (fun c3 => ?_)
    · rw [if_pos c3] at hF
      refine z_iload_n (pc' := 34) dX6_placeOf_33 rfl rfl rfl ?_
      exact z_ireturn rfl dX6_placeOf_34 (Option.some.inj hF).symm
    · rw [if_neg c3] at hF
      refine z_iinc (v := v3 + 1) (pc' := 30) dX6_placeOf_27 rfl rfl (by decide) rfl rfl ?_
      refine z_goto (pc' := 15) dX6_placeOf_30 (by decide) ?_
      refine z_wk (ls' := [some (.ref 60), some (.int v1), some (.int v2), some (.int (v3 + 1))]) (z_lec rfl (z_lec rfl (z_lec rfl (z_lec rfl z_le0)))) ?_
      exact ih _ _ _ _ hF
def F_X6_placeOf (B : Nat) (p1 : Int32) (S : z_S) : Option (z_O × z_S) :=
  z_bn (F_X6_height B p1 S) fun r1 S2 =>
  (F_X6_placeOf_15 B z_n p1 (12300 + (96 * r1)) 0 S2)
set_option maxRecDepth 20000 in
set_option maxHeartbeats 16000000 in
theorem c_X6_placeOf {l : Launch} {B : Nat} {p1 : Int32} {S : z_S} {q : z_O × z_S} (hst : l.stackTraces = false) (hF : F_X6_placeOf B p1 S = some q) : z_Met l I_X6_placeOf 1 21 B [.ref 60, .int p1] S q.1 q.2 := by
  refine z_enter (ls := [some (.ref 60), some (.int p1), none, none]) (n := 2) (by decide) rfl (Nat.le_of_ble_eq_true rfl) hst ?_
  unfold F_X6_placeOf at hF
  refine z_sipush (v := 12300) (pc' := 3) dX6_placeOf_0 (by decide) rfl ?_
  refine z_bipush (v := 96) (pc' := 5) dX6_placeOf_3 (by decide) rfl ?_
  refine z_aload_n (pc' := 6) dX6_placeOf_5 rfl rfl rfl ?_
  refine z_iload_n (pc' := 7) dX6_placeOf_6 rfl rfl rfl ?_
  obtain ⟨r1, S2, hc3, hF⟩ := z_bne hF
  refine k_X6_height (F := 1) (L := 21) (pc' := 10) hc3 hst zw_106 rfl rfl (by decide) (by decide) (Nat.le_of_ble_eq_true rfl) dX6_placeOf_7 rfl ?_
  refine z_imul (pc' := 11) dX6_placeOf_10 rfl ?_
  refine z_iadd (pc' := 12) dX6_placeOf_11 rfl ?_
  refine z_istore_n (pc' := 13) dX6_placeOf_12 rfl (by decide) rfl rfl ?_
  refine z_iconst (v := 0) (pc' := 14) dX6_placeOf_13 (by decide) rfl ?_
  refine z_istore_n (pc' := 15) dX6_placeOf_14 rfl (by decide) rfl rfl ?_
  refine z_wk (ls' := [some (.ref 60), some (.int p1), some (.int (12300 + (96 * r1))), some (.int 0)]) (z_lec rfl (z_lec rfl (z_lec rfl (z_lec rfl z_le0)))) ?_
  exact (ok_X6_placeOf_15 hst z_n) _ _ _ _ hF
theorem ok_X6_placeOf : z_okV I_X6_placeOf 1 := ⟨⟨z_Gin (List.mem_of_getElem? (i := 1035) (by decide +kernel)) rfl, z_Gin (List.mem_of_getElem? (i := 51) (by decide +kernel)) rfl, z_Gin (List.mem_of_getElem? (i := 98) (by decide +kernel)) rfl, z_Gin (List.mem_of_getElem? (i := 1036) (by decide +kernel)) rfl⟩, by decide, by decide, by decide +kernel⟩
theorem k_X6_placeOf {l : Launch} {I : z_I} {R : Room} {B : Nat} {p1 : Int32} {q : z_O × z_S} {pc pc' : Nat} {ls : List (Option Value)} {st : List Value} {S S1 : z_S} {idx F L : Nat} {r : Int32}  (hF : F_X6_placeOf B p1 S = some (.inl (some r), S1)) (hst : l.stackTraces = false) (w : Cond.methodLink I.1.cls idx yX6_placeOf ∈ z_G) (hRF : R.frames = F) (hRL : R.locals = L) (h1 : 2 ≤ F) (h2 : 44 ≤ L) (hs : (st.map fun v => v.category).sum ≤ 8) (d : decode I.2.1 pc = .ok (.invokevirtual idx, 3)) (hp : pc + 3 = pc') (k : z_W l I R B q pc' ls (.int r :: st) S1) : z_W l I R B q pc ls (.int p1 :: .ref 60 :: st) S := z_callV (Y := I_X6_placeOf) (As := [.int p1]) (st := st) (r := (some r)) (S1 := S1) (c_X6_placeOf (q := (.inl (some r), S1)) hst hF) ok_X6_placeOf w (ci := 6) rfl is_6_60.1 is_6_60.2 rfl ⟨by rw [hRF]; exact h1, by rw [hRL]; exact h2⟩ hs d hp rfl k

abbrev I_X6_beside : z_I := (yX6_beside, cX6_beside, 5, some .int)
abbrev R_X6_beside (q : z_O × z_S) : Room := { frames := 2, locals := 44, cells := z_mc q.1, slots := 6 * z_mc q.1 }
def F_X6_beside_56 (B : Nat)  (s0 : Int32) (S : z_S) : Option (z_O × z_S) :=
  some (.inl (some s0), S)
set_option maxRecDepth 20000 in
set_option maxHeartbeats 16000000 in
theorem ok_X6_beside_56 {l : Launch} {B : Nat} {q : z_O × z_S} (hst : l.stackTraces = false) : ∀ (s0 : Int32) (S : z_S), F_X6_beside_56 B s0 S = some q → z_W l I_X6_beside (R_X6_beside q) B q 56 [none, none, none, none, none] [.int s0] S := by
  intro s0 S hF
  unfold F_X6_beside_56 at hF
  exact z_ireturn rfl dX6_beside_56 (Option.some.inj hF).symm
def F_X6_beside (B : Nat) (p1 : Int32) (p2 : Int32) (S : z_S) : Option (z_O × z_S) :=
  z_bn (F_X6_height B p1 S) fun r1 S2 =>
  (z_bn (F_X6_placeOf B p1 S2) fun r4 S5 =>
  (z_gd (z_inb (13068 + r1) 25366) (
  z_lt (S5.1 61 (z_ix (13068 + r1))) fun x8 =>
  (z_bn (F_X6_isIn B (r4 + p2) 0 (x8 - 1) S5) fun r9 S10 =>
  (if r9 = 0 then
    F_X6_beside_56 B (-1) S10
  else
    z_gd (z_inb ((12300 + (96 * r1)) + (r4 + p2)) 25366) (
    z_lt (S10.1 61 (z_ix ((12300 + (96 * r1)) + (r4 + p2)))) fun x13 =>
    (F_X6_beside_56 B x13 S10)))))))
set_option maxRecDepth 20000 in
set_option maxHeartbeats 16000000 in
theorem c_X6_beside {l : Launch} {B : Nat} {p1 : Int32} {p2 : Int32} {S : z_S} {q : z_O × z_S} (hst : l.stackTraces = false) (hF : F_X6_beside B p1 p2 S = some q) : z_Met l I_X6_beside 2 44 B [.ref 60, .int p1, .int p2] S q.1 q.2 := by
  refine z_enter (ls := [some (.ref 60), some (.int p1), some (.int p2), none, none]) (n := 2) (by decide) rfl (Nat.le_of_ble_eq_true rfl) hst ?_
  unfold F_X6_beside at hF
  refine z_aload_n (pc' := 1) dX6_beside_0 rfl rfl rfl ?_
  refine z_iload_n (pc' := 2) dX6_beside_1 rfl rfl rfl ?_
  obtain ⟨r1, S2, hc3, hF⟩ := z_bne hF
  refine k_X6_height (F := 2) (L := 44) (pc' := 5) hc3 hst zw_106 rfl rfl (by decide) (by decide) (by decide) dX6_beside_2 rfl ?_
  refine z_istore_n (pc' := 6) dX6_beside_5 rfl (by decide) rfl rfl ?_
  refine z_aload_n (pc' := 7) dX6_beside_6 rfl rfl rfl ?_
  refine z_iload_n (pc' := 8) dX6_beside_7 rfl rfl rfl ?_
  obtain ⟨r4, S5, hc6, hF⟩ := z_bne hF
  refine k_X6_placeOf (F := 2) (L := 44) (pc' := 11) hc6 hst zw_107 rfl rfl (by decide) (by decide) (by decide) dX6_beside_8 rfl ?_
  refine z_iload_n (pc' := 12) dX6_beside_11 rfl rfl rfl ?_
  refine z_iadd (pc' := 13) dX6_beside_12 rfl ?_
  refine z_istore (pc' := 15) dX6_beside_13 (by decide) rfl rfl ?_
  refine z_iload (pc' := 17) dX6_beside_15 rfl rfl ?_
  refine z_iconst (v := 0) (pc' := 18) dX6_beside_17 (by decide) rfl ?_
  refine z_aload_n (pc' := 19) dX6_beside_18 rfl rfl rfl ?_
  refine gf_X6_7 (b := 61) (pc' := 22) rfl is_6_60 rfl dX6_beside_19 rfl ?_
  refine z_sipush (v := 13068) (pc' := 25) dX6_beside_22 (by decide) rfl ?_
  refine z_iload_n (pc' := 26) dX6_beside_25 rfl rfl rfl ?_
  refine z_iadd (pc' := 27) dX6_beside_26 rfl ?_
  obtain ⟨g7, hF⟩ := z_gde hF
  refine z_iaload (pc' := 28) (ar_6_f3 is_6_60) (z_inbe g7) dX6_beside_27 rfl ?_
  refine z_topi (fun x8 ex8 => ?_)
  replace hF := z_lte hF x8 ex8
  refine z_iconst (v := 1) (pc' := 29) dX6_beside_28 (by decide) rfl ?_
  refine z_isub (pc' := 30) dX6_beside_29 rfl ?_
  obtain ⟨r9, S10, hc11, hF⟩ := z_bne hF
  refine k_X6_isIn (F := 2) (L := 44) (pc' := 33) hc11 hst zw_104 rfl rfl (by decide) (by decide) (by decide) dX6_beside_30 rfl ?_
  refine z_if_eq (tgt := 55) (pc' := 36) dX6_beside_33 (by decide) rfl (fun c14 => ?_) (fun c14 => ?_)
  · rw [if_pos c14] at hF
    refine z_iconst (v := (-1)) (pc' := 56) dX6_beside_55 (by decide) rfl ?_
    refine z_wk (ls' := [none, none, none, none, none]) (z_len1 (z_len1 (z_len1 (z_len1 (z_len1 z_le0))))) ?_
    exact (ok_X6_beside_56 hst) _ _ hF
  · rw [if_neg c14] at hF
    refine z_aload_n (pc' := 37) dX6_beside_36 rfl rfl rfl ?_
    refine gf_X6_7 (b := 61) (pc' := 40) rfl is_6_60 rfl dX6_beside_37 rfl ?_
    refine z_sipush (v := 12300) (pc' := 43) dX6_beside_40 (by decide) rfl ?_
    refine z_bipush (v := 96) (pc' := 45) dX6_beside_43 (by decide) rfl ?_
    refine z_iload_n (pc' := 46) dX6_beside_45 rfl rfl rfl ?_
    refine z_imul (pc' := 47) dX6_beside_46 rfl ?_
    refine z_iadd (pc' := 48) dX6_beside_47 rfl ?_
    refine z_iload (pc' := 50) dX6_beside_48 rfl rfl ?_
    refine z_iadd (pc' := 51) dX6_beside_50 rfl ?_
    obtain ⟨g12, hF⟩ := z_gde hF
    refine z_iaload (pc' := 52) (ar_6_f3 is_6_60) (z_inbe g12) dX6_beside_51 rfl ?_
    refine z_topi (fun x13 ex13 => ?_)
    replace hF := z_lte hF x13 ex13
    refine z_goto (pc' := 56) dX6_beside_52 (by decide) ?_
    refine z_wk (ls' := [none, none, none, none, none]) (z_len1 (z_len1 (z_len1 (z_len1 (z_len1 z_le0))))) ?_
    exact (ok_X6_beside_56 hst) _ _ hF
theorem ok_X6_beside : z_okV I_X6_beside 2 := ⟨⟨z_Gin (List.mem_of_getElem? (i := 1027) (by decide +kernel)) rfl, z_Gin (List.mem_of_getElem? (i := 49) (by decide +kernel)) rfl, z_Gin (List.mem_of_getElem? (i := 98) (by decide +kernel)) rfl, z_Gin (List.mem_of_getElem? (i := 1028) (by decide +kernel)) rfl⟩, by decide, by decide, by decide +kernel⟩
theorem k_X6_beside {l : Launch} {I : z_I} {R : Room} {B : Nat} {p1 : Int32} {p2 : Int32} {q : z_O × z_S} {pc pc' : Nat} {ls : List (Option Value)} {st : List Value} {S S1 : z_S} {idx F L : Nat} {r : Int32}  (hF : F_X6_beside B p1 p2 S = some (.inl (some r), S1)) (hst : l.stackTraces = false) (w : Cond.methodLink I.1.cls idx yX6_beside ∈ z_G) (hRF : R.frames = F) (hRL : R.locals = L) (h1 : 3 ≤ F) (h2 : 68 ≤ L) (hs : (st.map fun v => v.category).sum ≤ 8) (d : decode I.2.1 pc = .ok (.invokevirtual idx, 3)) (hp : pc + 3 = pc') (k : z_W l I R B q pc' ls (.int r :: st) S1) : z_W l I R B q pc ls (.int p2 :: .int p1 :: .ref 60 :: st) S := z_callV (Y := I_X6_beside) (As := [.int p1, .int p2]) (st := st) (r := (some r)) (S1 := S1) (c_X6_beside (q := (.inl (some r), S1)) hst hF) ok_X6_beside w (ci := 6) rfl is_6_60.1 is_6_60.2 rfl ⟨by rw [hRF]; exact h1, by rw [hRL]; exact h2⟩ hs d hp rfl k

