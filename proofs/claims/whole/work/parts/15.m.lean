abbrev I_X5_forget : z_I := (yX5_forget, cX5_forget, 3, none)
abbrev R_X5_forget (q : z_O × z_S) : Room := { frames := 6, locals := 197, cells := z_mc q.1, slots := 6 * z_mc q.1 }
def F_X5_forget (B : Nat) (p1 : Int32) (S : z_S) : Option (z_O × z_S) :=
  z_bn (F_X2_dataOf B 14 p1 S) fun r1 S2 =>
  (z_bn (F_X5_changeData B p1 r1 0 S2) fun r4 S5 =>
  (z_bn (F_X5_keyOf B p1 3 0 S5) fun r7 S8 =>
  (z_bn (F_X2_tailOf B 14 p1 S8) fun r10 S11 =>
  (z_bn (F_X4_reshape B 2 r7 r10 0 S11) fun r13 S14 =>
  (z_bn (F_X5_keyOf B p1 2 0 S14) fun r16 S17 =>
  (z_bn (F_X4_reshape B 2 r16 (2 * r1) 0 S17) fun r19 S20 =>
  (z_bn (F_X5_keyOf B p1 0 0 S20) fun r22 S23 =>
  (z_bo (F_X4_takeOut B 2 r22 S23) fun S26 =>
  (z_gd (z_inb p1 61) (
  z_lt (z_ua S26 15 (upd (S26.1 15) (z_ix (p1)) (-1))) fun S29 =>
  (some (.inl none, S29))))))))))))
set_option maxRecDepth 20000 in
set_option maxHeartbeats 16000000 in
theorem c_X5_forget {l : Launch} {B : Nat} {p1 : Int32} {S : z_S} {q : z_O × z_S} (hst : l.stackTraces = false) (hF : F_X5_forget B p1 S = some q) : z_Met l I_X5_forget 6 197 B [.ref 0, .int p1] S q.1 q.2 := by
  refine z_enter (ls := [some (.ref 0), some (.int p1), none]) (n := 1) (by decide) rfl (Nat.le_of_ble_eq_true rfl) hst ?_
  unfold F_X5_forget at hF
  refine z_aload_n (pc' := 1) dX5_forget_0 rfl rfl rfl ?_
  refine gf_X5_22 (b := 1) (pc' := 4) rfl is_5_0 rfl dX5_forget_1 rfl ?_
  refine gf_X5_72 (b := 14) (pc' := 7) rfl (is_5_f1 is_5_0) rfl dX5_forget_4 rfl ?_
  refine z_iload_n (pc' := 8) dX5_forget_7 rfl rfl rfl ?_
  obtain ⟨r1, S2, hc3, hF⟩ := z_bne hF
  refine k_X2_dataOf (F := 6) (L := 197) (pc' := 11) (is_0_f1 (is_5_f1 is_5_0)) hc3 hst zw_68 rfl rfl (by decide) (by decide) (by decide) dX5_forget_8 rfl ?_
  refine z_istore_n (pc' := 12) dX5_forget_11 rfl (by decide) rfl rfl ?_
  refine z_aload_n (pc' := 13) dX5_forget_12 rfl rfl rfl ?_
  refine z_iload_n (pc' := 14) dX5_forget_13 rfl rfl rfl ?_
  refine z_iload_n (pc' := 15) dX5_forget_14 rfl rfl rfl ?_
  refine z_iconst (v := 0) (pc' := 16) dX5_forget_15 (by decide) rfl ?_
  obtain ⟨r4, S5, hc6, hF⟩ := z_bne hF
  refine k_X5_changeData (F := 6) (L := 197) (pc' := 19) hc6 hst zw_69 rfl rfl (by decide) (by decide) (by decide) dX5_forget_16 rfl ?_
  refine z_popi (pc' := 20) dX5_forget_19 rfl ?_
  refine z_aload_n (pc' := 21) dX5_forget_20 rfl rfl rfl ?_
  refine gf_X5_22 (b := 1) (pc' := 24) rfl is_5_0 rfl dX5_forget_21 rfl ?_
  refine gf_X5_92 (b := 2) (pc' := 27) rfl (is_5_f1 is_5_0) rfl dX5_forget_24 rfl ?_
  refine z_iload_n (pc' := 28) dX5_forget_27 rfl rfl rfl ?_
  refine z_iconst (v := 3) (pc' := 29) dX5_forget_28 (by decide) rfl ?_
  refine z_iconst (v := 0) (pc' := 30) dX5_forget_29 (by decide) rfl ?_
  obtain ⟨r7, S8, hc9, hF⟩ := z_bne hF
  refine k_X5_keyOf (F := 6) (L := 197) (pc' := 33) hc9 hst zw_50 rfl rfl (by decide) (by decide) (Nat.le_of_ble_eq_true rfl) dX5_forget_30 rfl ?_
  refine z_aload_n (pc' := 34) dX5_forget_33 rfl rfl rfl ?_
  refine gf_X5_22 (b := 1) (pc' := 37) rfl is_5_0 rfl dX5_forget_34 rfl ?_
  refine gf_X5_72 (b := 14) (pc' := 40) rfl (is_5_f1 is_5_0) rfl dX5_forget_37 rfl ?_
  refine z_iload_n (pc' := 41) dX5_forget_40 rfl rfl rfl ?_
  obtain ⟨r10, S11, hc12, hF⟩ := z_bne hF
  refine k_X2_tailOf (F := 6) (L := 197) (pc' := 44) (is_0_f1 (is_5_f1 is_5_0)) hc12 hst zw_70 rfl rfl (by decide) (by decide) (Nat.le_of_ble_eq_true rfl) dX5_forget_41 rfl ?_
  refine z_iconst (v := 0) (pc' := 45) dX5_forget_44 (by decide) rfl ?_
  obtain ⟨r13, S14, hc15, hF⟩ := z_bne hF
  refine k_X4_reshape (F := 6) (L := 197) (pc' := 48) (is_0_f0 (is_5_f1 is_5_0)) hc15 hst zw_71 rfl rfl (by decide) (by decide) (by decide) dX5_forget_45 rfl ?_
  refine z_popi (pc' := 49) dX5_forget_48 rfl ?_
  refine z_aload_n (pc' := 50) dX5_forget_49 rfl rfl rfl ?_
  refine gf_X5_22 (b := 1) (pc' := 53) rfl is_5_0 rfl dX5_forget_50 rfl ?_
  refine gf_X5_92 (b := 2) (pc' := 56) rfl (is_5_f1 is_5_0) rfl dX5_forget_53 rfl ?_
  refine z_iload_n (pc' := 57) dX5_forget_56 rfl rfl rfl ?_
  refine z_iconst (v := 2) (pc' := 58) dX5_forget_57 (by decide) rfl ?_
  refine z_iconst (v := 0) (pc' := 59) dX5_forget_58 (by decide) rfl ?_
  obtain ⟨r16, S17, hc18, hF⟩ := z_bne hF
  refine k_X5_keyOf (F := 6) (L := 197) (pc' := 62) hc18 hst zw_50 rfl rfl (by decide) (by decide) (Nat.le_of_ble_eq_true rfl) dX5_forget_59 rfl ?_
  refine z_iconst (v := 2) (pc' := 63) dX5_forget_62 (by decide) rfl ?_
  refine z_iload_n (pc' := 64) dX5_forget_63 rfl rfl rfl ?_
  refine z_imul (pc' := 65) dX5_forget_64 rfl ?_
  refine z_iconst (v := 0) (pc' := 66) dX5_forget_65 (by decide) rfl ?_
  obtain ⟨r19, S20, hc21, hF⟩ := z_bne hF
  refine k_X4_reshape (F := 6) (L := 197) (pc' := 69) (is_0_f0 (is_5_f1 is_5_0)) hc21 hst zw_71 rfl rfl (by decide) (by decide) (by decide) dX5_forget_66 rfl ?_
  refine z_popi (pc' := 70) dX5_forget_69 rfl ?_
  refine z_aload_n (pc' := 71) dX5_forget_70 rfl rfl rfl ?_
  refine gf_X5_22 (b := 1) (pc' := 74) rfl is_5_0 rfl dX5_forget_71 rfl ?_
  refine gf_X5_92 (b := 2) (pc' := 77) rfl (is_5_f1 is_5_0) rfl dX5_forget_74 rfl ?_
  refine z_iload_n (pc' := 78) dX5_forget_77 rfl rfl rfl ?_
  refine z_iconst (v := 0) (pc' := 79) dX5_forget_78 (by decide) rfl ?_
  refine z_iconst (v := 0) (pc' := 80) dX5_forget_79 (by decide) rfl ?_
  obtain ⟨r22, S23, hc24, hF⟩ := z_bne hF
  refine k_X5_keyOf (F := 6) (L := 197) (pc' := 83) hc24 hst zw_50 rfl rfl (by decide) (by decide) (Nat.le_of_ble_eq_true rfl) dX5_forget_80 rfl ?_
  obtain ⟨S26, hc27, hF⟩ := z_boe hF
  refine k_X4_takeOut (F := 6) (L := 197) (pc' := 86) (is_0_f0 (is_5_f1 is_5_0)) hc27 hst zw_72 rfl rfl (by decide) (by decide) (by decide) dX5_forget_83 rfl ?_
  refine z_aload_n (pc' := 87) dX5_forget_86 rfl rfl rfl ?_
  refine gf_X5_22 (b := 1) (pc' := 90) rfl is_5_0 rfl dX5_forget_87 rfl ?_
  refine gf_X5_72 (b := 14) (pc' := 93) rfl (is_5_f1 is_5_0) rfl dX5_forget_90 rfl ?_
  refine gf_X5_124 (b := 15) (pc' := 96) rfl (is_0_f1 (is_5_f1 is_5_0)) rfl dX5_forget_93 rfl ?_
  refine z_iload_n (pc' := 97) dX5_forget_96 rfl rfl rfl ?_
  refine z_iconst (v := (-1)) (pc' := 98) dX5_forget_97 (by decide) rfl ?_
  obtain ⟨g28, hF⟩ := z_gde hF
  refine z_iastore (pc' := 99) (ar_2_f0 (is_0_f1 (is_5_f1 is_5_0))) (z_inbe g28) dX5_forget_98 rfl (fun S29 eS29 => ?_)
  replace hF := z_lte hF S29 eS29
  exact z_return rfl dX5_forget_99 (Option.some.inj hF).symm
theorem ok_X5_forget : z_okV I_X5_forget 1 := ⟨⟨z_Gin (List.mem_of_getElem? (i := 612) (by decide +kernel)) rfl, z_Gin (List.mem_of_getElem? (i := 28) (by decide +kernel)) rfl, z_Gin (List.mem_of_getElem? (i := 89) (by decide +kernel)) rfl, z_Gin (List.mem_of_getElem? (i := 613) (by decide +kernel)) rfl⟩, by decide, by decide, by decide +kernel⟩
theorem k_X5_forget {l : Launch} {I : z_I} {R : Room} {B : Nat} {p1 : Int32} {q : z_O × z_S} {pc pc' : Nat} {ls : List (Option Value)} {st : List Value} {S S1 : z_S} {idx F L : Nat}  (hF : F_X5_forget B p1 S = some (.inl none, S1)) (hst : l.stackTraces = false) (w : Cond.methodLink I.1.cls idx yX5_forget ∈ z_G) (hRF : R.frames = F) (hRL : R.locals = L) (h1 : 7 ≤ F) (h2 : 219 ≤ L) (hs : (st.map fun v => v.category).sum ≤ 8) (d : decode I.2.1 pc = .ok (.invokevirtual idx, 3)) (hp : pc + 3 = pc') (k : z_W l I R B q pc' ls st S1) : z_W l I R B q pc ls (.int p1 :: .ref 0 :: st) S := z_callV (Y := I_X5_forget) (As := [.int p1]) (st := st) (r := none) (S1 := S1) (c_X5_forget (q := (.inl none, S1)) hst hF) ok_X5_forget w (ci := 5) rfl is_5_0.1 is_5_0.2 rfl ⟨by rw [hRF]; exact h1, by rw [hRL]; exact h2⟩ hs d hp rfl k

abbrev I_X5_needEntry : z_I := (yX5_needEntry, cX5_needEntry, 4, some .int)
abbrev R_X5_needEntry (q : z_O × z_S) : Room := { frames := 6, locals := 94, cells := z_mc q.1, slots := 6 * z_mc q.1 }
def F_X5_needEntry (B : Nat) (p1 : Int32) (p2 : Int32) (S : z_S) : Option (z_O × z_S) :=
  z_bn (F_X5_toldBy B p1 p2 S) fun r1 S2 =>
  (if r1 = (-1) then
    some (.inr "java/lang/IndexOutOfBoundsException", S2)
  else
    some (.inl (some r1), S2))
set_option maxRecDepth 20000 in
set_option maxHeartbeats 16000000 in
theorem c_X5_needEntry {l : Launch} {B : Nat} {p1 : Int32} {p2 : Int32} {S : z_S} {q : z_O × z_S} (hst : l.stackTraces = false) (hF : F_X5_needEntry B p1 p2 S = some q) : z_Met l I_X5_needEntry 6 94 B [.ref 0, .int p1, .int p2] S q.1 q.2 := by
  refine z_enter (ls := [some (.ref 0), some (.int p1), some (.int p2), none]) (n := 1) (by decide) rfl (Nat.le_of_ble_eq_true rfl) hst ?_
  unfold F_X5_needEntry at hF
  refine z_aload_n (pc' := 1) dX5_needEntry_0 rfl rfl rfl ?_
  refine z_iload_n (pc' := 2) dX5_needEntry_1 rfl rfl rfl ?_
  refine z_iload_n (pc' := 3) dX5_needEntry_2 rfl rfl rfl ?_
  obtain ⟨r1, S2, hc3, hF⟩ := z_bne hF
  refine k_X5_toldBy (F := 6) (L := 94) (pc' := 6) hc3 hst zw_52 rfl rfl (by decide) (by decide) (by decide) dX5_needEntry_3 rfl ?_
  refine z_istore_n (pc' := 7) dX5_needEntry_6 rfl (by decide) rfl rfl ?_
  refine z_iload_n (pc' := 8) dX5_needEntry_7 rfl rfl rfl ?_
  refine z_iconst (v := (-1)) (pc' := 9) dX5_needEntry_8 (by decide) rfl ?_
  refine z_icmp_ne (tgt := 23) (pc' := 12) dX5_needEntry_9 (by decide) rfl (fun c4 => ?_) (fun c4 => ?_)
  · rw [if_neg c4] at hF
    refine z_iload_n (pc' := 24) dX5_needEntry_23 rfl rfl rfl ?_
    exact z_ireturn rfl dX5_needEntry_24 (Option.some.inj hF).symm
  · rw [if_pos c4] at hF
    exact z_throwSW (text := "the directory has no such name") (names := ["java/lang/RuntimeException", "java/lang/Exception"]) rfl (Option.some.inj hF).symm (by decide +kernel) (by decide +kernel) (by decide +kernel) zw_46 zw_47 z_at_168 dX5_needEntry_12 dX5_needEntry_15 dX5_needEntry_16 dX5_needEntry_19 dX5_needEntry_22 ⟨by show (_ : Nat) ≤ 6; decide, by show (_ : Nat) ≤ 94; decide⟩ ⟨rfl, rfl⟩
theorem ok_X5_needEntry : z_okV I_X5_needEntry 2 := ⟨⟨z_Gin (List.mem_of_getElem? (i := 585) (by decide +kernel)) rfl, z_Gin (List.mem_of_getElem? (i := 23) (by decide +kernel)) rfl, z_Gin (List.mem_of_getElem? (i := 89) (by decide +kernel)) rfl, z_Gin (List.mem_of_getElem? (i := 586) (by decide +kernel)) rfl⟩, by decide, by decide, by decide +kernel⟩
theorem k_X5_needEntry {l : Launch} {I : z_I} {R : Room} {B : Nat} {p1 : Int32} {p2 : Int32} {q : z_O × z_S} {pc pc' : Nat} {ls : List (Option Value)} {st : List Value} {S S1 : z_S} {idx F L : Nat} {r : Int32}  (hF : F_X5_needEntry B p1 p2 S = some (.inl (some r), S1)) (hst : l.stackTraces = false) (w : Cond.methodLink I.1.cls idx yX5_needEntry ∈ z_G) (hRF : R.frames = F) (hRL : R.locals = L) (h1 : 7 ≤ F) (h2 : 117 ≤ L) (hs : (st.map fun v => v.category).sum ≤ 8) (d : decode I.2.1 pc = .ok (.invokevirtual idx, 3)) (hp : pc + 3 = pc') (k : z_W l I R B q pc' ls (.int r :: st) S1) : z_W l I R B q pc ls (.int p2 :: .int p1 :: .ref 0 :: st) S := z_callV (Y := I_X5_needEntry) (As := [.int p1, .int p2]) (st := st) (r := (some r)) (S1 := S1) (c_X5_needEntry (q := (.inl (some r), S1)) hst hF) ok_X5_needEntry w (ci := 5) rfl is_5_0.1 is_5_0.2 rfl ⟨by rw [hRF]; exact h1, by rw [hRL]; exact h2⟩ hs d hp rfl k
theorem kx_X5_needEntry {l : Launch} {I : z_I} {R : Room} {B : Nat} {p1 : Int32} {p2 : Int32} {q : z_O × z_S} {pc : Nat} {ls : List (Option Value)} {st : List Value} {S S1 : z_S} {idx F L : Nat} {E : String}  (hF : F_X5_needEntry B p1 p2 S = some (.inr E, S1)) (hq : q = (.inr E, S1)) (hst : l.stackTraces = false) (w : Cond.methodLink I.1.cls idx yX5_needEntry ∈ z_G) (hRF : R.frames = F) (hRL : R.locals = L) (h1 : 7 ≤ F) (h2 : 117 ≤ L) (hRc : R.cells = z_mc q.1 ∧ R.slots = 6 * z_mc q.1) (hs : (st.map fun v => v.category).sum ≤ 8) (d : decode I.2.1 pc = .ok (.invokevirtual idx, 3)) : z_W l I R B q pc ls (.int p2 :: .int p1 :: .ref 0 :: st) S := z_callVX (Y := I_X5_needEntry) (As := [.int p1, .int p2]) (st := st) (E := E) (S1 := S1) (c_X5_needEntry (q := (.inr E, S1)) hst hF) hq ok_X5_needEntry w (ci := 5) rfl is_5_0.1 is_5_0.2 rfl ⟨by rw [hRF]; exact h1, by rw [hRL]; exact h2⟩ hRc hs d rfl

abbrev I_X5_unlink : z_I := (yX5_unlink, cX5_unlink, 6, some .int)
abbrev R_X5_unlink (q : z_O × z_S) : Room := { frames := 7, locals := 219, cells := z_mc q.1, slots := 6 * z_mc q.1 }
def F_X5_unlink_112 (B : Nat)  (v5 : Int32) (S : z_S) : Option (z_O × z_S) :=
  some (.inl (some v5), S)
set_option maxRecDepth 20000 in
set_option maxHeartbeats 16000000 in
theorem ok_X5_unlink_112 {l : Launch} {B : Nat} {q : z_O × z_S} (hst : l.stackTraces = false) : ∀ (v5 : Int32) (S : z_S), F_X5_unlink_112 B v5 S = some q → z_W l I_X5_unlink (R_X5_unlink q) B q 112 [none, none, none, none, none, some (.int v5)] [] S := by
  intro v5 S hF
  unfold F_X5_unlink_112 at hF
  refine z_iload (pc' := 114) dX5_unlink_112 rfl rfl ?_
  exact z_ireturn rfl dX5_unlink_114 (Option.some.inj hF).symm
def F_X5_unlink_55 (B : Nat)  (v1 : Int32) (v2 : Int32) (v3 : Int32) (S : z_S) : Option (z_O × z_S) :=
  z_bn (F_X5_keyOf B v1 1 v2 S) fun r1 S2 =>
  (z_bo (F_X4_takeOut B 2 r1 S2) fun S5 =>
  (z_gd (z_inb v1 61) (
  z_lt (S5.1 17 (z_ix (v1))) fun x8 =>
  (z_gd (z_inb v1 61) (
  z_lt (z_ua S5 17 (upd (S5.1 17) (z_ix (v1)) (x8 - 1))) fun S10 =>
  (z_gd (z_inb v3 61) (
  z_lt (S10.1 16 (z_ix (v3))) fun x12 =>
  (z_gd (z_inb v3 61) (
  z_lt (z_ua S10 16 (upd (S10.1 16) (z_ix (v3)) (x12 - 1))) fun S14 =>
  (z_gd (z_inb v3 61) (
  z_lt (S14.1 16 (z_ix (v3))) fun x16 =>
  (if x16 = 0 then
    z_bo (F_X5_forget B v3 S14) fun S18 =>
    (F_X5_unlink_112 B x16 S18)
  else
    F_X5_unlink_112 B x16 S14))))))))))))
set_option maxRecDepth 20000 in
set_option maxHeartbeats 16000000 in
theorem ok_X5_unlink_55 {l : Launch} {B : Nat} {q : z_O × z_S} (hst : l.stackTraces = false) : ∀ (v1 : Int32) (v2 : Int32) (v3 : Int32) (S : z_S), F_X5_unlink_55 B v1 v2 v3 S = some q → z_W l I_X5_unlink (R_X5_unlink q) B q 55 [some (.ref 0), some (.int v1), some (.int v2), some (.int v3), some (.ref 14), none] [] S := by
  intro v1 v2 v3 S hF
  unfold F_X5_unlink_55 at hF
  refine z_aload_n (pc' := 56) dX5_unlink_55 rfl rfl rfl ?_
  refine gf_X5_22 (b := 1) (pc' := 59) rfl is_5_0 rfl dX5_unlink_56 rfl ?_
  refine gf_X5_92 (b := 2) (pc' := 62) rfl (is_5_f1 is_5_0) rfl dX5_unlink_59 rfl ?_
  refine z_iload_n (pc' := 63) dX5_unlink_62 rfl rfl rfl ?_
  refine z_iconst (v := 1) (pc' := 64) dX5_unlink_63 (by decide) rfl ?_
  refine z_iload_n (pc' := 65) dX5_unlink_64 rfl rfl rfl ?_
  obtain ⟨r1, S2, hc3, hF⟩ := z_bne hF
  refine k_X5_keyOf (F := 7) (L := 219) (pc' := 68) hc3 hst zw_50 rfl rfl (by decide) (by decide) (Nat.le_of_ble_eq_true rfl) dX5_unlink_65 rfl ?_
  obtain ⟨S5, hc6, hF⟩ := z_boe hF
  refine k_X4_takeOut (F := 7) (L := 219) (pc' := 71) (is_0_f0 (is_5_f1 is_5_0)) hc6 hst zw_72 rfl rfl (by decide) (by decide) (by decide) dX5_unlink_68 rfl ?_
  refine z_aload (pc' := 73) dX5_unlink_71 rfl rfl ?_
  refine gf_X5_110 (b := 17) (pc' := 76) rfl (is_0_f1 (is_5_f1 is_5_0)) rfl dX5_unlink_73 rfl ?_
  refine z_iload_n (pc' := 77) dX5_unlink_76 rfl rfl rfl ?_
  refine z_dup2 (pc' := 78) dX5_unlink_77 rfl ?_
  obtain ⟨g7, hF⟩ := z_gde hF
  refine z_iaload (pc' := 79) (ar_2_f2 (is_0_f1 (is_5_f1 is_5_0))) (z_inbe g7) dX5_unlink_78 rfl ?_
  refine z_topi (fun x8 ex8 => ?_)
  replace hF := z_lte hF x8 ex8
  refine z_iconst (v := 1) (pc' := 80) dX5_unlink_79 (by decide) rfl ?_
  refine z_isub (pc' := 81) dX5_unlink_80 rfl ?_
  obtain ⟨g9, hF⟩ := z_gde hF
  refine z_iastore (pc' := 82) (ar_2_f2 (is_0_f1 (is_5_f1 is_5_0))) (z_inbe g9) dX5_unlink_81 rfl (fun S10 eS10 => ?_)
  replace hF := z_lte hF S10 eS10
  refine z_aload (pc' := 84) dX5_unlink_82 rfl rfl ?_
  refine gf_X5_117 (b := 16) (pc' := 87) rfl (is_0_f1 (is_5_f1 is_5_0)) rfl dX5_unlink_84 rfl ?_
  refine z_iload_n (pc' := 88) dX5_unlink_87 rfl rfl rfl ?_
  refine z_dup2 (pc' := 89) dX5_unlink_88 rfl ?_
  obtain ⟨g11, hF⟩ := z_gde hF
  refine z_iaload (pc' := 90) (ar_2_f1 (is_0_f1 (is_5_f1 is_5_0))) (z_inbe g11) dX5_unlink_89 rfl ?_
  refine z_topi (fun x12 ex12 => ?_)
  replace hF := z_lte hF x12 ex12
  refine z_iconst (v := 1) (pc' := 91) dX5_unlink_90 (by decide) rfl ?_
  refine z_isub (pc' := 92) dX5_unlink_91 rfl ?_
  obtain ⟨g13, hF⟩ := z_gde hF
  refine z_iastore (pc' := 93) (ar_2_f1 (is_0_f1 (is_5_f1 is_5_0))) (z_inbe g13) dX5_unlink_92 rfl (fun S14 eS14 => ?_)
  replace hF := z_lte hF S14 eS14
  refine z_aload (pc' := 95) dX5_unlink_93 rfl rfl ?_
  refine gf_X5_117 (b := 16) (pc' := 98) rfl (is_0_f1 (is_5_f1 is_5_0)) rfl dX5_unlink_95 rfl ?_
  refine z_iload_n (pc' := 99) dX5_unlink_98 rfl rfl rfl ?_
  obtain ⟨g15, hF⟩ := z_gde hF
  refine z_iaload (pc' := 100) (ar_2_f1 (is_0_f1 (is_5_f1 is_5_0))) (z_inbe g15) dX5_unlink_99 rfl ?_
  refine z_topi (fun x16 ex16 => ?_)
  replace hF := z_lte hF x16 ex16
  refine z_istore (pc' := 102) dX5_unlink_100 (by decide) rfl rfl ?_
  refine z_iload (pc' := 104) dX5_unlink_102 rfl rfl ?_
  refine z_if_ne (tgt := 112) (pc' := 107) dX5_unlink_104 (by decide) rfl (fun c20 => ?_) (fun c20 => ?_)
  · rw [if_neg c20] at hF
    refine z_wk (ls' := [none, none, none, none, none, some (.int x16)]) (z_len1 (z_len1 (z_len1 (z_len1 (z_len1 (z_lec rfl z_le0)))))) ?_
    exact (ok_X5_unlink_112 hst) _ _ hF
  · rw [if_pos c20] at hF
    refine z_aload_n (pc' := 108) dX5_unlink_107 rfl rfl rfl ?_
    refine z_iload_n (pc' := 109) dX5_unlink_108 rfl rfl rfl ?_
    obtain ⟨S18, hc19, hF⟩ := z_boe hF
    refine k_X5_forget (F := 7) (L := 219) (pc' := 112) hc19 hst zw_74 rfl rfl (by decide) (by decide) (by decide) dX5_unlink_109 rfl ?_
    refine z_wk (ls' := [none, none, none, none, none, some (.int x16)]) (z_len1 (z_len1 (z_len1 (z_len1 (z_len1 (z_lec rfl z_le0)))))) ?_
    exact (ok_X5_unlink_112 hst) _ _ hF
def F_X5_unlink (B : Nat) (p1 : Int32) (p2 : Int32) (S : z_S) : Option (z_O × z_S) :=
  z_bv (F_X5_needPower B S) fun S2 =>
  (z_bv (F_X5_needDirectory B p1 S2) fun S5 =>
  (z_bi (F_X5_needEntry B p1 p2 S5) fun r7 S8 =>
  (z_gd (z_inb r7 61) (
  z_lt (S8.1 15 (z_ix (r7))) fun x11 =>
  (if x11 = 0 then
    z_gd (z_inb r7 61) (
    z_lt (S8.1 17 (z_ix (r7))) fun x13 =>
    (if x13 ≤ 0 then
      F_X5_unlink_55 B p1 p2 r7 S8
    else
      some (.inr "java/lang/IllegalStateException", S8)))
  else
    F_X5_unlink_55 B p1 p2 r7 S8)))))
set_option maxRecDepth 20000 in
set_option maxHeartbeats 16000000 in
theorem c_X5_unlink {l : Launch} {B : Nat} {p1 : Int32} {p2 : Int32} {S : z_S} {q : z_O × z_S} (hst : l.stackTraces = false) (hF : F_X5_unlink B p1 p2 S = some q) : z_Met l I_X5_unlink 7 219 B [.ref 0, .int p1, .int p2] S q.1 q.2 := by
  refine z_enter (ls := [some (.ref 0), some (.int p1), some (.int p2), none, none, none]) (n := 3) (by decide) rfl (Nat.le_of_ble_eq_true rfl) hst ?_
  unfold F_X5_unlink at hF
  refine z_aload_n (pc' := 1) dX5_unlink_0 rfl rfl rfl ?_
  rcases z_bve hF with ⟨S2, hc3, hF⟩ | ⟨E9, S9, hc3, hq9⟩
  rotate_left
  · exact kx_X5_needPower (F := 7) (L := 219) hc3 hq9 hst zw_57 rfl rfl (by decide) (by decide) ⟨rfl, rfl⟩ (by decide) dX5_unlink_1
  refine k_X5_needPower (F := 7) (L := 219) (pc' := 4) hc3 hst zw_57 rfl rfl (by decide) (by decide) (by decide) dX5_unlink_1 rfl ?_
  refine z_aload_n (pc' := 5) dX5_unlink_4 rfl rfl rfl ?_
  refine z_iload_n (pc' := 6) dX5_unlink_5 rfl rfl rfl ?_
  rcases z_bve hF with ⟨S5, hc6, hF⟩ | ⟨E9, S9, hc6, hq9⟩
  rotate_left
  · exact kx_X5_needDirectory (F := 7) (L := 219) hc6 hq9 hst zw_58 rfl rfl (by decide) (by decide) ⟨rfl, rfl⟩ (by decide) dX5_unlink_6
  refine k_X5_needDirectory (F := 7) (L := 219) (pc' := 9) hc6 hst zw_58 rfl rfl (by decide) (by decide) (by decide) dX5_unlink_6 rfl ?_
  refine z_aload_n (pc' := 10) dX5_unlink_9 rfl rfl rfl ?_
  refine z_iload_n (pc' := 11) dX5_unlink_10 rfl rfl rfl ?_
  refine z_iload_n (pc' := 12) dX5_unlink_11 rfl rfl rfl ?_
  rcases z_bie hF with ⟨r7, S8, hc9, hF⟩ | ⟨E9, S9, hc9, hq9⟩
  rotate_left
  · exact kx_X5_needEntry (F := 7) (L := 219) hc9 hq9 hst zw_73 rfl rfl (by decide) (by decide) ⟨rfl, rfl⟩ (by decide) dX5_unlink_12
  refine k_X5_needEntry (F := 7) (L := 219) (pc' := 15) hc9 hst zw_73 rfl rfl (by decide) (by decide) (by decide) dX5_unlink_12 rfl ?_
  refine z_istore_n (pc' := 16) dX5_unlink_15 rfl (by decide) rfl rfl ?_
  refine z_aload_n (pc' := 17) dX5_unlink_16 rfl rfl rfl ?_
  refine gf_X5_22 (b := 1) (pc' := 20) rfl is_5_0 rfl dX5_unlink_17 rfl ?_
  refine gf_X5_72 (b := 14) (pc' := 23) rfl (is_5_f1 is_5_0) rfl dX5_unlink_20 rfl ?_
  refine z_astore (pc' := 25) dX5_unlink_23 (by decide) rfl rfl ?_
  refine z_aload (pc' := 27) dX5_unlink_25 rfl rfl ?_
  refine gf_X5_124 (b := 15) (pc' := 30) rfl (is_0_f1 (is_5_f1 is_5_0)) rfl dX5_unlink_27 rfl ?_
  refine z_iload_n (pc' := 31) dX5_unlink_30 rfl rfl rfl ?_
  obtain ⟨g10, hF⟩ := z_gde hF
  refine z_iaload (pc' := 32) (ar_2_f0 (is_0_f1 (is_5_f1 is_5_0))) (z_inbe g10) dX5_unlink_31 rfl ?_
  refine z_topi (fun x11 ex11 => ?_)
  replace hF := z_lte hF x11 ex11
  refine z_if_ne (tgt := 55) (pc' := 35) dX5_unlink_32 (by decide) rfl (fun c15 => ?_) (fun c15 => ?_)
  · rw [if_neg c15] at hF
    refine z_wk (ls' := [some (.ref 0), some (.int p1), some (.int p2), some (.int r7), some (.ref 14), none]) (z_lec rfl (z_lec rfl (z_lec rfl (z_lec rfl (z_lec rfl (z_len1 z_le0)))))) ?_
    exact (ok_X5_unlink_55 hst) _ _ _ _ hF
  · rw [if_pos c15] at hF
    refine z_aload (pc' := 37) dX5_unlink_35 rfl rfl ?_
    refine gf_X5_110 (b := 17) (pc' := 40) rfl (is_0_f1 (is_5_f1 is_5_0)) rfl dX5_unlink_37 rfl ?_
    refine z_iload_n (pc' := 41) dX5_unlink_40 rfl rfl rfl ?_
    obtain ⟨g12, hF⟩ := z_gde hF
    refine z_iaload (pc' := 42) (ar_2_f2 (is_0_f1 (is_5_f1 is_5_0))) (z_inbe g12) dX5_unlink_41 rfl ?_
    refine z_topi (fun x13 ex13 => ?_)
    replace hF := z_lte hF x13 ex13
    refine z_if_le (tgt := 55) (pc' := 45) dX5_unlink_42 (by decide) rfl (fun c14 => ?_) (fun c14 => ?_)
    · rw [if_pos c14] at hF
      refine z_wk (ls' := [some (.ref 0), some (.int p1), some (.int p2), some (.int r7), some (.ref 14), none]) (z_lec rfl (z_lec rfl (z_lec rfl (z_lec rfl (z_lec rfl (z_len1 z_le0)))))) ?_
      exact (ok_X5_unlink_55 hst) _ _ _ _ hF
    · rw [if_neg c14] at hF
      exact z_throwS (text := "the directory has entries") (names := ["java/lang/RuntimeException", "java/lang/Exception"]) rfl (Option.some.inj hF).symm (by decide +kernel) (by decide +kernel) (by decide +kernel) zw_53 zw_54 z_at_86 dX5_unlink_45 dX5_unlink_48 dX5_unlink_49 dX5_unlink_51 dX5_unlink_54 ⟨by show (_ : Nat) ≤ 7; decide, by show (_ : Nat) ≤ 219; decide⟩ ⟨rfl, rfl⟩
theorem ok_X5_unlink : z_okV I_X5_unlink 2 := ⟨⟨z_Gin (List.mem_of_getElem? (i := 580) (by decide +kernel)) rfl, z_Gin (List.mem_of_getElem? (i := 581) (by decide +kernel)) rfl, z_Gin (List.mem_of_getElem? (i := 89) (by decide +kernel)) rfl, z_Gin (List.mem_of_getElem? (i := 582) (by decide +kernel)) rfl⟩, by decide, by decide, by decide +kernel⟩
theorem k_X5_unlink {l : Launch} {I : z_I} {R : Room} {B : Nat} {p1 : Int32} {p2 : Int32} {q : z_O × z_S} {pc pc' : Nat} {ls : List (Option Value)} {st : List Value} {S S1 : z_S} {idx F L : Nat} {r : Int32}  (hF : F_X5_unlink B p1 p2 S = some (.inl (some r), S1)) (hst : l.stackTraces = false) (w : Cond.methodLink I.1.cls idx yX5_unlink ∈ z_G) (hRF : R.frames = F) (hRL : R.locals = L) (h1 : 8 ≤ F) (h2 : 244 ≤ L) (hs : (st.map fun v => v.category).sum ≤ 8) (d : decode I.2.1 pc = .ok (.invokevirtual idx, 3)) (hp : pc + 3 = pc') (k : z_W l I R B q pc' ls (.int r :: st) S1) : z_W l I R B q pc ls (.int p2 :: .int p1 :: .ref 0 :: st) S := z_callV (Y := I_X5_unlink) (As := [.int p1, .int p2]) (st := st) (r := (some r)) (S1 := S1) (c_X5_unlink (q := (.inl (some r), S1)) hst hF) ok_X5_unlink w (ci := 5) rfl is_5_0.1 is_5_0.2 rfl ⟨by rw [hRF]; exact h1, by rw [hRL]; exact h2⟩ hs d hp rfl k
theorem kx_X5_unlink {l : Launch} {I : z_I} {R : Room} {B : Nat} {p1 : Int32} {p2 : Int32} {q : z_O × z_S} {pc : Nat} {ls : List (Option Value)} {st : List Value} {S S1 : z_S} {idx F L : Nat} {E : String}  (hF : F_X5_unlink B p1 p2 S = some (.inr E, S1)) (hq : q = (.inr E, S1)) (hst : l.stackTraces = false) (w : Cond.methodLink I.1.cls idx yX5_unlink ∈ z_G) (hRF : R.frames = F) (hRL : R.locals = L) (h1 : 8 ≤ F) (h2 : 244 ≤ L) (hRc : R.cells = z_mc q.1 ∧ R.slots = 6 * z_mc q.1) (hs : (st.map fun v => v.category).sum ≤ 8) (d : decode I.2.1 pc = .ok (.invokevirtual idx, 3)) : z_W l I R B q pc ls (.int p2 :: .int p1 :: .ref 0 :: st) S := z_callVX (Y := I_X5_unlink) (As := [.int p1, .int p2]) (st := st) (E := E) (S1 := S1) (c_X5_unlink (q := (.inr E, S1)) hst hF) hq ok_X5_unlink w (ci := 5) rfl is_5_0.1 is_5_0.2 rfl ⟨by rw [hRF]; exact h1, by rw [hRL]; exact h2⟩ hRc hs d rfl

abbrev I_X5_move : z_I := (yX5_move, cX5_move, 7, some .int)
abbrev R_X5_move (q : z_O × z_S) : Room := { frames := 7, locals := 196, cells := z_mc q.1, slots := 6 * z_mc q.1 }
def F_X5_move_151 (B : Nat)  (v5 : Int32) (S : z_S) : Option (z_O × z_S) :=
  some (.inl (some v5), S)
set_option maxRecDepth 20000 in
set_option maxHeartbeats 16000000 in
theorem ok_X5_move_151 {l : Launch} {B : Nat} {q : z_O × z_S} (hst : l.stackTraces = false) : ∀ (v5 : Int32) (S : z_S), F_X5_move_151 B v5 S = some q → z_W l I_X5_move (R_X5_move q) B q 151 [none, none, none, none, none, some (.int v5), none] [] S := by
  intro v5 S hF
  unfold F_X5_move_151 at hF
  refine z_iload (pc' := 153) dX5_move_151 rfl rfl ?_
  exact z_ireturn rfl dX5_move_153 (Option.some.inj hF).symm
def F_X5_move (B : Nat) (p1 : Int32) (p2 : Int32) (p3 : Int32) (p4 : Int32) (S : z_S) : Option (z_O × z_S) :=
  z_bv (F_X5_needPower B S) fun S2 =>
  (z_bv (F_X5_needDirectory B p1 S2) fun S5 =>
  (z_bv (F_X5_needDirectory B p3 S5) fun S8 =>
  (z_bi (F_X5_needEntry B p1 p2 S8) fun r10 S11 =>
  (z_bv (F_X5_needName B p4 S11) fun S14 =>
  (z_bv (F_X5_needNoEntry B p3 p4 S14) fun S17 =>
  (z_bn (F_X2_holds B 14 r10 p3 S17) fun r19 S20 =>
  (if r19 = 0 then
    z_bo (F_X5_keep B S20) fun S23 =>
    (z_bn (F_X5_keyOf B p1 1 p2 S23) fun r25 S26 =>
    (z_bo (F_X4_takeOut B 2 r25 S26) fun S29 =>
    (z_bn (F_X5_keyOf B p3 1 p4 S29) fun r31 S32 =>
    (z_bn (F_X4_putIn B 2 r31 3 r10 S32) fun r34 S35 =>
    (z_bv (F_X5_needRoom B r34 S35) fun S38 =>
    (z_gd (z_inb p1 61) (
    z_lt (S38.1 17 (z_ix (p1))) fun x41 =>
    (z_gd (z_inb p1 61) (
    z_lt (z_ua S38 17 (upd (S38.1 17) (z_ix (p1)) (x41 - 1))) fun S43 =>
    (z_gd (z_inb p3 61) (
    z_lt (S43.1 17 (z_ix (p3))) fun x45 =>
    (z_gd (z_inb p3 61) (
    z_lt (z_ua S43 17 (upd (S43.1 17) (z_ix (p3)) (x45 + 1))) fun S47 =>
    (z_gd (z_inb r10 61) (
    z_lt (S47.1 15 (z_ix (r10))) fun x49 =>
    (if x49 = 0 then
      z_gd (z_inb r10 61) (
      z_lt (z_ua S47 18 (upd (S47.1 18) (z_ix (r10)) p3)) fun S51 =>
      (F_X5_move_151 B r10 S51))
    else
      F_X5_move_151 B r10 S47))))))))))))))))
  else
    some (.inr "java/lang/IllegalStateException", S20))))))))
set_option maxRecDepth 20000 in
set_option maxHeartbeats 16000000 in
theorem c_X5_move {l : Launch} {B : Nat} {p1 : Int32} {p2 : Int32} {p3 : Int32} {p4 : Int32} {S : z_S} {q : z_O × z_S} (hst : l.stackTraces = false) (hF : F_X5_move B p1 p2 p3 p4 S = some q) : z_Met l I_X5_move 7 196 B [.ref 0, .int p1, .int p2, .int p3, .int p4] S q.1 q.2 := by
  refine z_enter (ls := [some (.ref 0), some (.int p1), some (.int p2), some (.int p3), some (.int p4), none, none]) (n := 2) (by decide) rfl (Nat.le_of_ble_eq_true rfl) hst ?_
  unfold F_X5_move at hF
  refine z_aload_n (pc' := 1) dX5_move_0 rfl rfl rfl ?_
  rcases z_bve hF with ⟨S2, hc3, hF⟩ | ⟨E9, S9, hc3, hq9⟩
  rotate_left
  · exact kx_X5_needPower (F := 7) (L := 196) hc3 hq9 hst zw_57 rfl rfl (by decide) (by decide) ⟨rfl, rfl⟩ (by decide) dX5_move_1
  refine k_X5_needPower (F := 7) (L := 196) (pc' := 4) hc3 hst zw_57 rfl rfl (by decide) (by decide) (by decide) dX5_move_1 rfl ?_
  refine z_aload_n (pc' := 5) dX5_move_4 rfl rfl rfl ?_
  refine z_iload_n (pc' := 6) dX5_move_5 rfl rfl rfl ?_
  rcases z_bve hF with ⟨S5, hc6, hF⟩ | ⟨E9, S9, hc6, hq9⟩
  rotate_left
  · exact kx_X5_needDirectory (F := 7) (L := 196) hc6 hq9 hst zw_58 rfl rfl (by decide) (by decide) ⟨rfl, rfl⟩ (by decide) dX5_move_6
  refine k_X5_needDirectory (F := 7) (L := 196) (pc' := 9) hc6 hst zw_58 rfl rfl (by decide) (by decide) (by decide) dX5_move_6 rfl ?_
  refine z_aload_n (pc' := 10) dX5_move_9 rfl rfl rfl ?_
  refine z_iload_n (pc' := 11) dX5_move_10 rfl rfl rfl ?_
  rcases z_bve hF with ⟨S8, hc9, hF⟩ | ⟨E9, S9, hc9, hq9⟩
  rotate_left
  · exact kx_X5_needDirectory (F := 7) (L := 196) hc9 hq9 hst zw_58 rfl rfl (by decide) (by decide) ⟨rfl, rfl⟩ (by decide) dX5_move_11
  refine k_X5_needDirectory (F := 7) (L := 196) (pc' := 14) hc9 hst zw_58 rfl rfl (by decide) (by decide) (by decide) dX5_move_11 rfl ?_
  refine z_aload_n (pc' := 15) dX5_move_14 rfl rfl rfl ?_
  refine z_iload_n (pc' := 16) dX5_move_15 rfl rfl rfl ?_
  refine z_iload_n (pc' := 17) dX5_move_16 rfl rfl rfl ?_
  rcases z_bie hF with ⟨r10, S11, hc12, hF⟩ | ⟨E9, S9, hc12, hq9⟩
  rotate_left
  · exact kx_X5_needEntry (F := 7) (L := 196) hc12 hq9 hst zw_73 rfl rfl (by decide) (by decide) ⟨rfl, rfl⟩ (by decide) dX5_move_17
  refine k_X5_needEntry (F := 7) (L := 196) (pc' := 20) hc12 hst zw_73 rfl rfl (by decide) (by decide) (by decide) dX5_move_17 rfl ?_
  refine z_istore (pc' := 22) dX5_move_20 (by decide) rfl rfl ?_
  refine z_aload_n (pc' := 23) dX5_move_22 rfl rfl rfl ?_
  refine z_iload (pc' := 25) dX5_move_23 rfl rfl ?_
  rcases z_bve hF with ⟨S14, hc15, hF⟩ | ⟨E9, S9, hc15, hq9⟩
  rotate_left
  · exact kx_X5_needName (F := 7) (L := 196) hc15 hq9 hst zw_59 rfl rfl (by decide) (by decide) ⟨rfl, rfl⟩ (by decide) dX5_move_25
  refine k_X5_needName (F := 7) (L := 196) (pc' := 28) hc15 hst zw_59 rfl rfl (by decide) (by decide) (by decide) dX5_move_25 rfl ?_
  refine z_aload_n (pc' := 29) dX5_move_28 rfl rfl rfl ?_
  refine z_iload_n (pc' := 30) dX5_move_29 rfl rfl rfl ?_
  refine z_iload (pc' := 32) dX5_move_30 rfl rfl ?_
  rcases z_bve hF with ⟨S17, hc18, hF⟩ | ⟨E9, S9, hc18, hq9⟩
  rotate_left
  · exact kx_X5_needNoEntry (F := 7) (L := 196) hc18 hq9 hst zw_60 rfl rfl (by decide) (by decide) ⟨rfl, rfl⟩ (by decide) dX5_move_32
  refine k_X5_needNoEntry (F := 7) (L := 196) (pc' := 35) hc18 hst zw_60 rfl rfl (by decide) (by decide) (by decide) dX5_move_32 rfl ?_
  refine z_aload_n (pc' := 36) dX5_move_35 rfl rfl rfl ?_
  refine gf_X5_22 (b := 1) (pc' := 39) rfl is_5_0 rfl dX5_move_36 rfl ?_
  refine gf_X5_72 (b := 14) (pc' := 42) rfl (is_5_f1 is_5_0) rfl dX5_move_39 rfl ?_
  refine z_astore (pc' := 44) dX5_move_42 (by decide) rfl rfl ?_
  refine z_aload (pc' := 46) dX5_move_44 rfl rfl ?_
  refine z_iload (pc' := 48) dX5_move_46 rfl rfl ?_
  refine z_iload_n (pc' := 49) dX5_move_48 rfl rfl rfl ?_
  obtain ⟨r19, S20, hc21, hF⟩ := z_bne hF
  refine k_X2_holds (F := 7) (L := 196) (pc' := 52) (is_0_f1 (is_5_f1 is_5_0)) hc21 hst zw_75 rfl rfl (by decide) (by decide) (by decide) dX5_move_49 rfl ?_
  refine z_if_eq (tgt := 65) (pc' := 55) dX5_move_52 (by decide) rfl (fun c53 => ?_) (fun c53 => ?_)
  · rw [if_pos c53] at hF
    refine z_aload_n (pc' := 66) dX5_move_65 rfl rfl rfl ?_
    obtain ⟨S23, hc24, hF⟩ := z_boe hF
    refine k_X5_keep (F := 7) (L := 196) (pc' := 69) hc24 hst zw_62 rfl rfl (by decide) (by decide) (by decide) dX5_move_66 rfl ?_
    refine z_aload_n (pc' := 70) dX5_move_69 rfl rfl rfl ?_
    refine gf_X5_22 (b := 1) (pc' := 73) rfl is_5_0 rfl dX5_move_70 rfl ?_
    refine gf_X5_92 (b := 2) (pc' := 76) rfl (is_5_f1 is_5_0) rfl dX5_move_73 rfl ?_
    refine z_iload_n (pc' := 77) dX5_move_76 rfl rfl rfl ?_
    refine z_iconst (v := 1) (pc' := 78) dX5_move_77 (by decide) rfl ?_
    refine z_iload_n (pc' := 79) dX5_move_78 rfl rfl rfl ?_
    obtain ⟨r25, S26, hc27, hF⟩ := z_bne hF
    refine k_X5_keyOf (F := 7) (L := 196) (pc' := 82) hc27 hst zw_50 rfl rfl (by decide) (by decide) (Nat.le_of_ble_eq_true rfl) dX5_move_79 rfl ?_
    obtain ⟨S29, hc30, hF⟩ := z_boe hF
    refine k_X4_takeOut (F := 7) (L := 196) (pc' := 85) (is_0_f0 (is_5_f1 is_5_0)) hc30 hst zw_72 rfl rfl (by decide) (by decide) (by decide) dX5_move_82 rfl ?_
    refine z_aload_n (pc' := 86) dX5_move_85 rfl rfl rfl ?_
    refine z_aload_n (pc' := 87) dX5_move_86 rfl rfl rfl ?_
    refine gf_X5_22 (b := 1) (pc' := 90) rfl is_5_0 rfl dX5_move_87 rfl ?_
    refine gf_X5_92 (b := 2) (pc' := 93) rfl (is_5_f1 is_5_0) rfl dX5_move_90 rfl ?_
    refine z_iload_n (pc' := 94) dX5_move_93 rfl rfl rfl ?_
    refine z_iconst (v := 1) (pc' := 95) dX5_move_94 (by decide) rfl ?_
    refine z_iload (pc' := 97) dX5_move_95 rfl rfl ?_
    obtain ⟨r31, S32, hc33, hF⟩ := z_bne hF
    refine k_X5_keyOf (F := 7) (L := 196) (pc' := 100) hc33 hst zw_50 rfl rfl (by decide) (by decide) (Nat.le_of_ble_eq_true rfl) dX5_move_97 rfl ?_
    refine z_iconst (v := 3) (pc' := 101) dX5_move_100 (by decide) rfl ?_
    refine z_iload (pc' := 103) dX5_move_101 rfl rfl ?_
    obtain ⟨r34, S35, hc36, hF⟩ := z_bne hF
    refine k_X4_putIn (F := 7) (L := 196) (pc' := 106) (is_0_f0 (is_5_f1 is_5_0)) hc36 hst zw_63 rfl rfl (by decide) (by decide) (Nat.le_of_ble_eq_true rfl) dX5_move_103 rfl ?_
    rcases z_bve hF with ⟨S38, hc39, hF⟩ | ⟨E9, S9, hc39, hq9⟩
    rotate_left
    · exact kx_X5_needRoom (F := 7) (L := 196) hc39 hq9 hst zw_64 rfl rfl (by decide) (by decide) ⟨rfl, rfl⟩ (by decide) dX5_move_106
    refine k_X5_needRoom (F := 7) (L := 196) (pc' := 109) hc39 hst zw_64 rfl rfl (by decide) (by decide) (by decide) dX5_move_106 rfl ?_
    refine z_aload (pc' := 111) dX5_move_109 rfl rfl ?_
    refine gf_X5_110 (b := 17) (pc' := 114) rfl (is_0_f1 (is_5_f1 is_5_0)) rfl dX5_move_111 rfl ?_
    refine z_iload_n (pc' := 115) dX5_move_114 rfl rfl rfl ?_
    refine z_dup2 (pc' := 116) dX5_move_115 rfl ?_
    obtain ⟨g40, hF⟩ := z_gde hF
    refine z_iaload (pc' := 117) (ar_2_f2 (is_0_f1 (is_5_f1 is_5_0))) (z_inbe g40) dX5_move_116 rfl ?_
    refine z_topi (fun x41 ex41 => ?_)
    replace hF := z_lte hF x41 ex41
    refine z_iconst (v := 1) (pc' := 118) dX5_move_117 (by decide) rfl ?_
    refine z_isub (pc' := 119) dX5_move_118 rfl ?_
    obtain ⟨g42, hF⟩ := z_gde hF
    refine z_iastore (pc' := 120) (ar_2_f2 (is_0_f1 (is_5_f1 is_5_0))) (z_inbe g42) dX5_move_119 rfl (fun S43 eS43 => ?_)
    replace hF := z_lte hF S43 eS43
    refine z_aload (pc' := 122) dX5_move_120 rfl rfl ?_
    refine gf_X5_110 (b := 17) (pc' := 125) rfl (is_0_f1 (is_5_f1 is_5_0)) rfl dX5_move_122 rfl ?_
    refine z_iload_n (pc' := 126) dX5_move_125 rfl rfl rfl ?_
    refine z_dup2 (pc' := 127) dX5_move_126 rfl ?_
    obtain ⟨g44, hF⟩ := z_gde hF
    refine z_iaload (pc' := 128) (ar_2_f2 (is_0_f1 (is_5_f1 is_5_0))) (z_inbe g44) dX5_move_127 rfl ?_
    refine z_topi (fun x45 ex45 => ?_)
    replace hF := z_lte hF x45 ex45
    refine z_iconst (v := 1) (pc' := 129) dX5_move_128 (by decide) rfl ?_
    refine z_iadd (pc' := 130) dX5_move_129 rfl ?_
    obtain ⟨g46, hF⟩ := z_gde hF
    refine z_iastore (pc' := 131) (ar_2_f2 (is_0_f1 (is_5_f1 is_5_0))) (z_inbe g46) dX5_move_130 rfl (fun S47 eS47 => ?_)
    replace hF := z_lte hF S47 eS47
    refine z_aload (pc' := 133) dX5_move_131 rfl rfl ?_
    refine gf_X5_124 (b := 15) (pc' := 136) rfl (is_0_f1 (is_5_f1 is_5_0)) rfl dX5_move_133 rfl ?_
    refine z_iload (pc' := 138) dX5_move_136 rfl rfl ?_
    obtain ⟨g48, hF⟩ := z_gde hF
    refine z_iaload (pc' := 139) (ar_2_f0 (is_0_f1 (is_5_f1 is_5_0))) (z_inbe g48) dX5_move_138 rfl ?_
    refine z_topi (fun x49 ex49 => ?_)
    replace hF := z_lte hF x49 ex49
    refine z_if_ne (tgt := 151) (pc' := 142) dX5_move_139 (by decide) rfl (fun c52 => ?_) (fun c52 => ?_)
    · rw [if_neg c52] at hF
      refine z_wk (ls' := [none, none, none, none, none, some (.int r10), none]) (z_len1 (z_len1 (z_len1 (z_len1 (z_len1 (z_lec rfl (z_len1 z_le0))))))) ?_
      exact (ok_X5_move_151 hst) _ _ hF
    · rw [if_pos c52] at hF
      refine z_aload (pc' := 144) dX5_move_142 rfl rfl ?_
      refine gf_X5_141 (b := 18) (pc' := 147) rfl (is_0_f1 (is_5_f1 is_5_0)) rfl dX5_move_144 rfl ?_
      refine z_iload (pc' := 149) dX5_move_147 rfl rfl ?_
      refine z_iload_n (pc' := 150) dX5_move_149 rfl rfl rfl ?_
      obtain ⟨g50, hF⟩ := z_gde hF
      refine z_iastore (pc' := 151) (ar_2_f3 (is_0_f1 (is_5_f1 is_5_0))) (z_inbe g50) dX5_move_150 rfl (fun S51 eS51 => ?_)
      replace hF := z_lte hF S51 eS51
      refine z_wk (ls' := [none, none, none, none, none, some (.int r10), none]) (z_len1 (z_len1 (z_len1 (z_len1 (z_len1 (z_lec rfl (z_len1 z_le0))))))) ?_
      exact (ok_X5_move_151 hst) _ _ hF
  · rw [if_neg c53] at hF
    exact z_throwS (text := "the directory would be in itself") (names := ["java/lang/RuntimeException", "java/lang/Exception"]) rfl (Option.some.inj hF).symm (by decide +kernel) (by decide +kernel) (by decide +kernel) zw_53 zw_54 z_at_86 dX5_move_55 dX5_move_58 dX5_move_59 dX5_move_61 dX5_move_64 ⟨by show (_ : Nat) ≤ 7; decide, by show (_ : Nat) ≤ 196; decide⟩ ⟨rfl, rfl⟩
theorem ok_X5_move : z_okV I_X5_move 4 := ⟨⟨z_Gin (List.mem_of_getElem? (i := 642) (by decide +kernel)) rfl, z_Gin (List.mem_of_getElem? (i := 643) (by decide +kernel)) rfl, z_Gin (List.mem_of_getElem? (i := 89) (by decide +kernel)) rfl, z_Gin (List.mem_of_getElem? (i := 644) (by decide +kernel)) rfl⟩, by decide, by decide, by decide +kernel⟩
theorem k_X5_move {l : Launch} {I : z_I} {R : Room} {B : Nat} {p1 : Int32} {p2 : Int32} {p3 : Int32} {p4 : Int32} {q : z_O × z_S} {pc pc' : Nat} {ls : List (Option Value)} {st : List Value} {S S1 : z_S} {idx F L : Nat} {r : Int32}  (hF : F_X5_move B p1 p2 p3 p4 S = some (.inl (some r), S1)) (hst : l.stackTraces = false) (w : Cond.methodLink I.1.cls idx yX5_move ∈ z_G) (hRF : R.frames = F) (hRL : R.locals = L) (h1 : 8 ≤ F) (h2 : 222 ≤ L) (hs : (st.map fun v => v.category).sum ≤ 8) (d : decode I.2.1 pc = .ok (.invokevirtual idx, 3)) (hp : pc + 3 = pc') (k : z_W l I R B q pc' ls (.int r :: st) S1) : z_W l I R B q pc ls (.int p4 :: .int p3 :: .int p2 :: .int p1 :: .ref 0 :: st) S := z_callV (Y := I_X5_move) (As := [.int p1, .int p2, .int p3, .int p4]) (st := st) (r := (some r)) (S1 := S1) (c_X5_move (q := (.inl (some r), S1)) hst hF) ok_X5_move w (ci := 5) rfl is_5_0.1 is_5_0.2 rfl ⟨by rw [hRF]; exact h1, by rw [hRL]; exact h2⟩ hs d hp rfl k
theorem kx_X5_move {l : Launch} {I : z_I} {R : Room} {B : Nat} {p1 : Int32} {p2 : Int32} {p3 : Int32} {p4 : Int32} {q : z_O × z_S} {pc : Nat} {ls : List (Option Value)} {st : List Value} {S S1 : z_S} {idx F L : Nat} {E : String}  (hF : F_X5_move B p1 p2 p3 p4 S = some (.inr E, S1)) (hq : q = (.inr E, S1)) (hst : l.stackTraces = false) (w : Cond.methodLink I.1.cls idx yX5_move ∈ z_G) (hRF : R.frames = F) (hRL : R.locals = L) (h1 : 8 ≤ F) (h2 : 222 ≤ L) (hRc : R.cells = z_mc q.1 ∧ R.slots = 6 * z_mc q.1) (hs : (st.map fun v => v.category).sum ≤ 8) (d : decode I.2.1 pc = .ok (.invokevirtual idx, 3)) : z_W l I R B q pc ls (.int p4 :: .int p3 :: .int p2 :: .int p1 :: .ref 0 :: st) S := z_callVX (Y := I_X5_move) (As := [.int p1, .int p2, .int p3, .int p4]) (st := st) (E := E) (S1 := S1) (c_X5_move (q := (.inr E, S1)) hst hF) hq ok_X5_move w (ci := 5) rfl is_5_0.1 is_5_0.2 rfl ⟨by rw [hRF]; exact h1, by rw [hRL]; exact h2⟩ hRc hs d rfl

abbrev I_X5_changeFile : z_I := (yX5_changeFile, cX5_changeFile, 6, none)
abbrev R_X5_changeFile (q : z_O × z_S) : Room := { frames := 7, locals := 197, cells := z_mc q.1, slots := 6 * z_mc q.1 }
def F_X5_changeFile_100 (B : Nat)  (v1 : Int32) (v2 : Int32) (s0 : Int32) (S : z_S) : Option (z_O × z_S) :=
  z_bv (F_X5_needRoom B s0 S) fun S2 =>
  (z_gd (z_inb v1 61) (
  z_lt (z_ua S2 17 (upd (S2.1 17) (z_ix (v1)) v2)) fun S5 =>
  (z_bo (F_X0_lay B 1 59 2048 v1 S5) fun S7 =>
  (some (.inl none, S7)))))
set_option maxRecDepth 20000 in
set_option maxHeartbeats 16000000 in
theorem ok_X5_changeFile_100 {l : Launch} {B : Nat} {q : z_O × z_S} (hst : l.stackTraces = false) : ∀ (v1 : Int32) (v2 : Int32) (s0 : Int32) (S : z_S), F_X5_changeFile_100 B v1 v2 s0 S = some q → z_W l I_X5_changeFile (R_X5_changeFile q) B q 100 [some (.ref 0), some (.int v1), some (.int v2), some (.ref 14), none, none] [.int s0, .ref 0] S := by
  intro v1 v2 s0 S hF
  unfold F_X5_changeFile_100 at hF
  rcases z_bve hF with ⟨S2, hc3, hF⟩ | ⟨E9, S9, hc3, hq9⟩
  rotate_left
  · exact kx_X5_needRoom (F := 7) (L := 197) hc3 hq9 hst zw_64 rfl rfl (by decide) (by decide) ⟨rfl, rfl⟩ (by decide) dX5_changeFile_100
  refine k_X5_needRoom (F := 7) (L := 197) (pc' := 103) hc3 hst zw_64 rfl rfl (by decide) (by decide) (by decide) dX5_changeFile_100 rfl ?_
  refine z_aload_n (pc' := 104) dX5_changeFile_103 rfl rfl rfl ?_
  refine gf_X5_110 (b := 17) (pc' := 107) rfl (is_0_f1 (is_5_f1 is_5_0)) rfl dX5_changeFile_104 rfl ?_
  refine z_iload_n (pc' := 108) dX5_changeFile_107 rfl rfl rfl ?_
  refine z_iload_n (pc' := 109) dX5_changeFile_108 rfl rfl rfl ?_
  obtain ⟨g4, hF⟩ := z_gde hF
  refine z_iastore (pc' := 110) (ar_2_f2 (is_0_f1 (is_5_f1 is_5_0))) (z_inbe g4) dX5_changeFile_109 rfl (fun S5 eS5 => ?_)
  replace hF := z_lte hF S5 eS5
  refine z_aload_n (pc' := 111) dX5_changeFile_110 rfl rfl rfl ?_
  refine gf_X5_22 (b := 1) (pc' := 114) rfl is_5_0 rfl dX5_changeFile_111 rfl ?_
  refine z_iload_n (pc' := 115) dX5_changeFile_114 rfl rfl rfl ?_
  refine z_aload_n (pc' := 116) dX5_changeFile_115 rfl rfl rfl ?_
  refine gf_X5_56 (b := 59) (pc' := 119) rfl is_5_0 rfl dX5_changeFile_116 rfl ?_
  obtain ⟨S7, hc8, hF⟩ := z_boe hF
  refine k_X0_lay (F := 7) (L := 197) (pc' := 122) (is_5_f1 is_5_0) (ar_5_f7 is_5_0) hc8 hst zw_77 rfl rfl (by decide) (by decide) (by decide) dX5_changeFile_119 rfl ?_
  exact z_return rfl dX5_changeFile_122 (Option.some.inj hF).symm
def F_X5_changeFile_99 (B : Nat) (k100 : Int32 → Int32 → Int32 → z_S → Option (z_O × z_S)) (v1 : Int32) (v2 : Int32) (S : z_S) : Option (z_O × z_S) :=
  k100 v1 v2 0 S
set_option maxRecDepth 20000 in
set_option maxHeartbeats 16000000 in
theorem ok_X5_changeFile_99 {l : Launch} {B : Nat} {q : z_O × z_S} (hst : l.stackTraces = false) {k100 : Int32 → Int32 → Int32 → z_S → Option (z_O × z_S)} (hk100 : ∀ (v1 : Int32) (v2 : Int32) (s0 : Int32) (S : z_S), k100 v1 v2 s0 S = some q → z_W l I_X5_changeFile (R_X5_changeFile q) B q 100 [some (.ref 0), some (.int v1), some (.int v2), some (.ref 14), none, none] [.int s0, .ref 0] S) : ∀ (v1 : Int32) (v2 : Int32) (S : z_S), F_X5_changeFile_99 B k100 v1 v2 S = some q → z_W l I_X5_changeFile (R_X5_changeFile q) B q 99 [some (.ref 0), some (.int v1), some (.int v2), some (.ref 14), none, none] [.ref 0] S := by
  intro v1 v2 S hF
  unfold F_X5_changeFile_99 at hF
  refine z_iconst (v := 0) (pc' := 100) dX5_changeFile_99 (by decide) rfl ?_
  refine z_wk (ls' := [some (.ref 0), some (.int v1), some (.int v2), some (.ref 14), none, none]) (z_lec rfl (z_lec rfl (z_lec rfl (z_lec rfl (z_len1 (z_len1 z_le0)))))) ?_
  exact hk100 _ _ _ _ hF
def F_X5_changeFile (B : Nat) (p1 : Int32) (p2 : Int32) (S : z_S) : Option (z_O × z_S) :=
  z_bn (F_X2_dataOf B 14 p1 S) fun r1 S2 =>
  (z_bn (F_X2_tailOf B 14 p1 S2) fun r4 S5 =>
  (z_bo (F_X5_keep B S5) fun S8 =>
  (z_bn (F_X5_dataBlocks B p2 S8) fun r10 S11 =>
  (z_bn (F_X5_changeData B p1 r1 r10 S11) fun r13 S14 =>
  (if r13 = 0 then
    F_X5_changeFile_99 B (F_X5_changeFile_100 B ) p1 p2 S14
  else
    z_bn (F_X5_keyOf B p1 2 0 S14) fun r16 S17 =>
    (z_bn (F_X5_dataBlocks B p2 S17) fun r19 S20 =>
    (z_bn (F_X4_reshape B 2 r16 (2 * r1) (2 * r19) S20) fun r22 S23 =>
    (if r22 = 0 then
      F_X5_changeFile_99 B (F_X5_changeFile_100 B ) p1 p2 S23
    else
      z_bn (F_X5_keyOf B p1 3 0 S23) fun r25 S26 =>
      (z_bn (F_X5_tailBytes B p2 S26) fun r28 S29 =>
      (z_bn (F_X4_reshape B 2 r25 r4 r28 S29) fun r31 S32 =>
      (if r31 = 0 then
        F_X5_changeFile_99 B (F_X5_changeFile_100 B ) p1 p2 S32
      else
        F_X5_changeFile_100 B p1 p2 1 S32)))))))))))
set_option maxRecDepth 20000 in
set_option maxHeartbeats 16000000 in
theorem c_X5_changeFile {l : Launch} {B : Nat} {p1 : Int32} {p2 : Int32} {S : z_S} {q : z_O × z_S} (hst : l.stackTraces = false) (hF : F_X5_changeFile B p1 p2 S = some q) : z_Met l I_X5_changeFile 7 197 B [.ref 0, .int p1, .int p2] S q.1 q.2 := by
  refine z_enter (ls := [some (.ref 0), some (.int p1), some (.int p2), none, none, none]) (n := 3) (by decide) rfl (Nat.le_of_ble_eq_true rfl) hst ?_
  unfold F_X5_changeFile at hF
  refine z_aload_n (pc' := 1) dX5_changeFile_0 rfl rfl rfl ?_
  refine gf_X5_22 (b := 1) (pc' := 4) rfl is_5_0 rfl dX5_changeFile_1 rfl ?_
  refine gf_X5_72 (b := 14) (pc' := 7) rfl (is_5_f1 is_5_0) rfl dX5_changeFile_4 rfl ?_
  refine z_astore_n (pc' := 8) dX5_changeFile_7 rfl (by decide) rfl rfl ?_
  refine z_aload_n (pc' := 9) dX5_changeFile_8 rfl rfl rfl ?_
  refine z_iload_n (pc' := 10) dX5_changeFile_9 rfl rfl rfl ?_
  obtain ⟨r1, S2, hc3, hF⟩ := z_bne hF
  refine k_X2_dataOf (F := 7) (L := 197) (pc' := 13) (is_0_f1 (is_5_f1 is_5_0)) hc3 hst zw_68 rfl rfl (by decide) (by decide) (by decide) dX5_changeFile_10 rfl ?_
  refine z_istore (pc' := 15) dX5_changeFile_13 (by decide) rfl rfl ?_
  refine z_aload_n (pc' := 16) dX5_changeFile_15 rfl rfl rfl ?_
  refine z_iload_n (pc' := 17) dX5_changeFile_16 rfl rfl rfl ?_
  obtain ⟨r4, S5, hc6, hF⟩ := z_bne hF
  refine k_X2_tailOf (F := 7) (L := 197) (pc' := 20) (is_0_f1 (is_5_f1 is_5_0)) hc6 hst zw_70 rfl rfl (by decide) (by decide) (by decide) dX5_changeFile_17 rfl ?_
  refine z_istore (pc' := 22) dX5_changeFile_20 (by decide) rfl rfl ?_
  refine z_aload_n (pc' := 23) dX5_changeFile_22 rfl rfl rfl ?_
  obtain ⟨S8, hc9, hF⟩ := z_boe hF
  refine k_X5_keep (F := 7) (L := 197) (pc' := 26) hc9 hst zw_62 rfl rfl (by decide) (by decide) (by decide) dX5_changeFile_23 rfl ?_
  refine z_aload_n (pc' := 27) dX5_changeFile_26 rfl rfl rfl ?_
  refine z_aload_n (pc' := 28) dX5_changeFile_27 rfl rfl rfl ?_
  refine z_iload_n (pc' := 29) dX5_changeFile_28 rfl rfl rfl ?_
  refine z_iload (pc' := 31) dX5_changeFile_29 rfl rfl ?_
  refine z_iload_n (pc' := 32) dX5_changeFile_31 rfl rfl rfl ?_
  obtain ⟨r10, S11, hc12, hF⟩ := z_bne hF
  refine k_X5_dataBlocks (F := 7) (L := 197) (pc' := 35) hc12 hst zw_76 rfl rfl (by decide) (by decide) (Nat.le_of_ble_eq_true rfl) dX5_changeFile_32 rfl ?_
  obtain ⟨r13, S14, hc15, hF⟩ := z_bne hF
  refine k_X5_changeData (F := 7) (L := 197) (pc' := 38) hc15 hst zw_69 rfl rfl (by decide) (by decide) (Nat.le_of_ble_eq_true rfl) dX5_changeFile_35 rfl ?_
  refine z_if_eq (tgt := 99) (pc' := 41) dX5_changeFile_38 (by decide) rfl (fun c36 => ?_) (fun c36 => ?_)
  · rw [if_pos c36] at hF
    refine z_wk (ls' := [some (.ref 0), some (.int p1), some (.int p2), some (.ref 14), none, none]) (z_lec rfl (z_lec rfl (z_lec rfl (z_lec rfl (z_len1 (z_len1 z_le0)))))) ?_
    exact (ok_X5_changeFile_99 hst (ok_X5_changeFile_100 hst)) _ _ _ hF
  · rw [if_neg c36] at hF
    refine z_aload_n (pc' := 42) dX5_changeFile_41 rfl rfl rfl ?_
    refine gf_X5_22 (b := 1) (pc' := 45) rfl is_5_0 rfl dX5_changeFile_42 rfl ?_
    refine gf_X5_92 (b := 2) (pc' := 48) rfl (is_5_f1 is_5_0) rfl dX5_changeFile_45 rfl ?_
    refine z_iload_n (pc' := 49) dX5_changeFile_48 rfl rfl rfl ?_
    refine z_iconst (v := 2) (pc' := 50) dX5_changeFile_49 (by decide) rfl ?_
    refine z_iconst (v := 0) (pc' := 51) dX5_changeFile_50 (by decide) rfl ?_
    obtain ⟨r16, S17, hc18, hF⟩ := z_bne hF
    refine k_X5_keyOf (F := 7) (L := 197) (pc' := 54) hc18 hst zw_50 rfl rfl (by decide) (by decide) (Nat.le_of_ble_eq_true rfl) dX5_changeFile_51 rfl ?_
    refine z_iconst (v := 2) (pc' := 55) dX5_changeFile_54 (by decide) rfl ?_
    refine z_iload (pc' := 57) dX5_changeFile_55 rfl rfl ?_
    refine z_imul (pc' := 58) dX5_changeFile_57 rfl ?_
    refine z_iconst (v := 2) (pc' := 59) dX5_changeFile_58 (by decide) rfl ?_
    refine z_iload_n (pc' := 60) dX5_changeFile_59 rfl rfl rfl ?_
    obtain ⟨r19, S20, hc21, hF⟩ := z_bne hF
    refine k_X5_dataBlocks (F := 7) (L := 197) (pc' := 63) hc21 hst zw_76 rfl rfl (by decide) (by decide) (Nat.le_of_ble_eq_true rfl) dX5_changeFile_60 rfl ?_
    refine z_imul (pc' := 64) dX5_changeFile_63 rfl ?_
    obtain ⟨r22, S23, hc24, hF⟩ := z_bne hF
    refine k_X4_reshape (F := 7) (L := 197) (pc' := 67) (is_0_f0 (is_5_f1 is_5_0)) hc24 hst zw_71 rfl rfl (by decide) (by decide) (Nat.le_of_ble_eq_true rfl) dX5_changeFile_64 rfl ?_
    refine z_if_eq (tgt := 99) (pc' := 70) dX5_changeFile_67 (by decide) rfl (fun c35 => ?_) (fun c35 => ?_)
    · rw [if_pos c35] at hF
      refine z_wk (ls' := [some (.ref 0), some (.int p1), some (.int p2), some (.ref 14), none, none]) (z_lec rfl (z_lec rfl (z_lec rfl (z_lec rfl (z_len1 (z_len1 z_le0)))))) ?_
      exact (ok_X5_changeFile_99 hst (ok_X5_changeFile_100 hst)) _ _ _ hF
    · rw [if_neg c35] at hF
      refine z_aload_n (pc' := 71) dX5_changeFile_70 rfl rfl rfl ?_
      refine gf_X5_22 (b := 1) (pc' := 74) rfl is_5_0 rfl dX5_changeFile_71 rfl ?_
      refine gf_X5_92 (b := 2) (pc' := 77) rfl (is_5_f1 is_5_0) rfl dX5_changeFile_74 rfl ?_
      refine z_iload_n (pc' := 78) dX5_changeFile_77 rfl rfl rfl ?_
      refine z_iconst (v := 3) (pc' := 79) dX5_changeFile_78 (by decide) rfl ?_
      refine z_iconst (v := 0) (pc' := 80) dX5_changeFile_79 (by decide) rfl ?_
      obtain ⟨r25, S26, hc27, hF⟩ := z_bne hF
      refine k_X5_keyOf (F := 7) (L := 197) (pc' := 83) hc27 hst zw_50 rfl rfl (by decide) (by decide) (Nat.le_of_ble_eq_true rfl) dX5_changeFile_80 rfl ?_
      refine z_iload (pc' := 85) dX5_changeFile_83 rfl rfl ?_
      refine z_iload_n (pc' := 86) dX5_changeFile_85 rfl rfl rfl ?_
      obtain ⟨r28, S29, hc30, hF⟩ := z_bne hF
      refine k_X5_tailBytes (F := 7) (L := 197) (pc' := 89) hc30 hst zw_8 rfl rfl (by decide) (by decide) (Nat.le_of_ble_eq_true rfl) dX5_changeFile_86 rfl ?_
      obtain ⟨r31, S32, hc33, hF⟩ := z_bne hF
      refine k_X4_reshape (F := 7) (L := 197) (pc' := 92) (is_0_f0 (is_5_f1 is_5_0)) hc33 hst zw_71 rfl rfl (by decide) (by decide) (Nat.le_of_ble_eq_true rfl) dX5_changeFile_89 rfl ?_
      refine z_if_eq (tgt := 99) (pc' := 95) dX5_changeFile_92 (by decide) rfl (fun c34 => ?_) (fun c34 => ?_)
      · rw [if_pos c34] at hF
        refine z_wk (ls' := [some (.ref 0), some (.int p1), some (.int p2), some (.ref 14), none, none]) (z_lec rfl (z_lec rfl (z_lec rfl (z_lec rfl (z_len1 (z_len1 z_le0)))))) ?_
        exact (ok_X5_changeFile_99 hst (ok_X5_changeFile_100 hst)) _ _ _ hF
      · rw [if_neg c34] at hF
        refine z_iconst (v := 1) (pc' := 96) dX5_changeFile_95 (by decide) rfl ?_
        refine z_goto (pc' := 100) dX5_changeFile_96 (by decide) ?_
        refine z_wk (ls' := [some (.ref 0), some (.int p1), some (.int p2), some (.ref 14), none, none]) (z_lec rfl (z_lec rfl (z_lec rfl (z_lec rfl (z_len1 (z_len1 z_le0)))))) ?_
        exact (ok_X5_changeFile_100 hst) _ _ _ _ hF
theorem ok_X5_changeFile : z_okV I_X5_changeFile 2 := ⟨⟨z_Gin (List.mem_of_getElem? (i := 675) (by decide +kernel)) rfl, z_Gin (List.mem_of_getElem? (i := 31) (by decide +kernel)) rfl, z_Gin (List.mem_of_getElem? (i := 89) (by decide +kernel)) rfl, z_Gin (List.mem_of_getElem? (i := 676) (by decide +kernel)) rfl⟩, by decide, by decide, by decide +kernel⟩
theorem k_X5_changeFile {l : Launch} {I : z_I} {R : Room} {B : Nat} {p1 : Int32} {p2 : Int32} {q : z_O × z_S} {pc pc' : Nat} {ls : List (Option Value)} {st : List Value} {S S1 : z_S} {idx F L : Nat}  (hF : F_X5_changeFile B p1 p2 S = some (.inl none, S1)) (hst : l.stackTraces = false) (w : Cond.methodLink I.1.cls idx yX5_changeFile ∈ z_G) (hRF : R.frames = F) (hRL : R.locals = L) (h1 : 8 ≤ F) (h2 : 222 ≤ L) (hs : (st.map fun v => v.category).sum ≤ 8) (d : decode I.2.1 pc = .ok (.invokevirtual idx, 3)) (hp : pc + 3 = pc') (k : z_W l I R B q pc' ls st S1) : z_W l I R B q pc ls (.int p2 :: .int p1 :: .ref 0 :: st) S := z_callV (Y := I_X5_changeFile) (As := [.int p1, .int p2]) (st := st) (r := none) (S1 := S1) (c_X5_changeFile (q := (.inl none, S1)) hst hF) ok_X5_changeFile w (ci := 5) rfl is_5_0.1 is_5_0.2 rfl ⟨by rw [hRF]; exact h1, by rw [hRL]; exact h2⟩ hs d hp rfl k
theorem kx_X5_changeFile {l : Launch} {I : z_I} {R : Room} {B : Nat} {p1 : Int32} {p2 : Int32} {q : z_O × z_S} {pc : Nat} {ls : List (Option Value)} {st : List Value} {S S1 : z_S} {idx F L : Nat} {E : String}  (hF : F_X5_changeFile B p1 p2 S = some (.inr E, S1)) (hq : q = (.inr E, S1)) (hst : l.stackTraces = false) (w : Cond.methodLink I.1.cls idx yX5_changeFile ∈ z_G) (hRF : R.frames = F) (hRL : R.locals = L) (h1 : 8 ≤ F) (h2 : 222 ≤ L) (hRc : R.cells = z_mc q.1 ∧ R.slots = 6 * z_mc q.1) (hs : (st.map fun v => v.category).sum ≤ 8) (d : decode I.2.1 pc = .ok (.invokevirtual idx, 3)) : z_W l I R B q pc ls (.int p2 :: .int p1 :: .ref 0 :: st) S := z_callVX (Y := I_X5_changeFile) (As := [.int p1, .int p2]) (st := st) (E := E) (S1 := S1) (c_X5_changeFile (q := (.inr E, S1)) hst hF) hq ok_X5_changeFile w (ci := 5) rfl is_5_0.1 is_5_0.2 rfl ⟨by rw [hRF]; exact h1, by rw [hRL]; exact h2⟩ hRc hs d rfl

abbrev I_X5_sizeAfter : z_I := (yX5_sizeAfter, cX5_sizeAfter, 6, some .int)
abbrev R_X5_sizeAfter (q : z_O × z_S) : Room := { frames := 7, locals := 111, cells := z_mc q.1, slots := 6 * z_mc q.1 }
def F_X5_sizeAfter_63 (B : Nat)   (S : z_S) : Option (z_O × z_S) :=
  some (.inr "java/lang/IllegalArgumentException", S)
set_option maxRecDepth 20000 in
set_option maxHeartbeats 16000000 in
theorem ok_X5_sizeAfter_63 {l : Launch} {B : Nat} {q : z_O × z_S} (hst : l.stackTraces = false) : ∀ (S : z_S), F_X5_sizeAfter_63 B S = some q → z_W l I_X5_sizeAfter (R_X5_sizeAfter q) B q 63 [none, none, none, none, none, none] [] S := by
  intro S hF
  unfold F_X5_sizeAfter_63 at hF
  exact z_throwSW (text := "not so many bytes") (names := ["java/lang/RuntimeException", "java/lang/Exception"]) rfl (Option.some.inj hF).symm (by decide +kernel) (by decide +kernel) (by decide +kernel) zw_48 zw_49 z_at_159 dX5_sizeAfter_63 dX5_sizeAfter_66 dX5_sizeAfter_67 dX5_sizeAfter_70 dX5_sizeAfter_73 ⟨by show (_ : Nat) ≤ 7; decide, by show (_ : Nat) ≤ 111; decide⟩ ⟨rfl, rfl⟩
def F_X5_sizeAfter_33 (B : Nat)   (S : z_S) : Option (z_O × z_S) :=
  some (.inr "java/lang/IndexOutOfBoundsException", S)
set_option maxRecDepth 20000 in
set_option maxHeartbeats 16000000 in
theorem ok_X5_sizeAfter_33 {l : Launch} {B : Nat} {q : z_O × z_S} (hst : l.stackTraces = false) : ∀ (S : z_S), F_X5_sizeAfter_33 B S = some q → z_W l I_X5_sizeAfter (R_X5_sizeAfter q) B q 33 [none, none, none, none, none, none] [] S := by
  intro S hF
  unfold F_X5_sizeAfter_33 at hF
  exact z_throwS (text := "no such byte") (names := ["java/lang/RuntimeException", "java/lang/Exception"]) rfl (Option.some.inj hF).symm (by decide +kernel) (by decide +kernel) (by decide +kernel) zw_46 zw_47 z_at_168 dX5_sizeAfter_33 dX5_sizeAfter_36 dX5_sizeAfter_37 dX5_sizeAfter_39 dX5_sizeAfter_42 ⟨by show (_ : Nat) ≤ 7; decide, by show (_ : Nat) ≤ 111; decide⟩ ⟨rfl, rfl⟩
def F_X5_sizeAfter (B : Nat) (p1 : Int32) (p2 : Int32) (p3 : Int32) (p4 : Int32) (S : z_S) : Option (z_O × z_S) :=
  z_bv (F_X5_needPower B S) fun S2 =>
  (z_bv (F_X5_needFile B p1 S2) fun S5 =>
  (z_gd (z_inb p1 61) (
  z_lt (S5.1 17 (z_ix (p1))) fun x8 =>
  (if p2 < 0 then
    F_X5_sizeAfter_33 B S5
  else
    if p2 ≤ x8 then
      if p3 < 1 then
        F_X5_sizeAfter_63 B S5
      else
        if p4 < p3 then
          F_X5_sizeAfter_63 B S5
        else
          if (p2 + p3) ≤ 2048 then
            some (.inl (some (if x8 < (p2 + p3) then p2 + p3 else x8)), S5)
          else
            F_X5_sizeAfter_63 B S5
    else
      F_X5_sizeAfter_33 B S5))))
set_option maxRecDepth 20000 in
set_option maxHeartbeats 16000000 in
theorem c_X5_sizeAfter {l : Launch} {B : Nat} {p1 : Int32} {p2 : Int32} {p3 : Int32} {p4 : Int32} {S : z_S} {q : z_O × z_S} (hst : l.stackTraces = false) (hF : F_X5_sizeAfter B p1 p2 p3 p4 S = some q) : z_Met l I_X5_sizeAfter 7 111 B [.ref 0, .int p1, .int p2, .int p3, .int p4] S q.1 q.2 := by
  refine z_enter (ls := [some (.ref 0), some (.int p1), some (.int p2), some (.int p3), some (.int p4), none]) (n := 1) (by decide) rfl (Nat.le_of_ble_eq_true rfl) hst ?_
  unfold F_X5_sizeAfter at hF
  refine z_aload_n (pc' := 1) dX5_sizeAfter_0 rfl rfl rfl ?_
  rcases z_bve hF with ⟨S2, hc3, hF⟩ | ⟨E9, S9, hc3, hq9⟩
  rotate_left
  · exact kx_X5_needPower (F := 7) (L := 111) hc3 hq9 hst zw_57 rfl rfl (by decide) (by decide) ⟨rfl, rfl⟩ (by decide) dX5_sizeAfter_1
  refine k_X5_needPower (F := 7) (L := 111) (pc' := 4) hc3 hst zw_57 rfl rfl (by decide) (by decide) (by decide) dX5_sizeAfter_1 rfl ?_
  refine z_aload_n (pc' := 5) dX5_sizeAfter_4 rfl rfl rfl ?_
  refine z_iload_n (pc' := 6) dX5_sizeAfter_5 rfl rfl rfl ?_
  rcases z_bve hF with ⟨S5, hc6, hF⟩ | ⟨E9, S9, hc6, hq9⟩
  rotate_left
  · exact kx_X5_needFile (F := 7) (L := 111) hc6 hq9 hst zw_66 rfl rfl (by decide) (by decide) ⟨rfl, rfl⟩ (by decide) dX5_sizeAfter_6
  refine k_X5_needFile (F := 7) (L := 111) (pc' := 9) hc6 hst zw_66 rfl rfl (by decide) (by decide) (by decide) dX5_sizeAfter_6 rfl ?_
  refine z_aload_n (pc' := 10) dX5_sizeAfter_9 rfl rfl rfl ?_
  refine gf_X5_22 (b := 1) (pc' := 13) rfl is_5_0 rfl dX5_sizeAfter_10 rfl ?_
  refine gf_X5_72 (b := 14) (pc' := 16) rfl (is_5_f1 is_5_0) rfl dX5_sizeAfter_13 rfl ?_
  refine gf_X5_110 (b := 17) (pc' := 19) rfl (is_0_f1 (is_5_f1 is_5_0)) rfl dX5_sizeAfter_16 rfl ?_
  refine z_iload_n (pc' := 20) dX5_sizeAfter_19 rfl rfl rfl ?_
  obtain ⟨g7, hF⟩ := z_gde hF
  refine z_iaload (pc' := 21) (ar_2_f2 (is_0_f1 (is_5_f1 is_5_0))) (z_inbe g7) dX5_sizeAfter_20 rfl ?_
  refine z_topi (fun x8 ex8 => ?_)
  replace hF := z_lte hF x8 ex8
  refine z_istore (pc' := 23) dX5_sizeAfter_21 (by decide) rfl rfl ?_
  refine z_iload_n (pc' := 24) dX5_sizeAfter_23 rfl rfl rfl ?_
  refine z_if_lt (tgt := 33) (pc' := 27) dX5_sizeAfter_24 (by decide) rfl (fun c13 => ?_) (fun c13 => ?_)
  · rw [if_pos c13] at hF
    refine z_wk (ls' := [none, none, none, none, none, none]) (z_len1 (z_len1 (z_len1 (z_len1 (z_len1 (z_len1 z_le0)))))) ?_
    exact (ok_X5_sizeAfter_33 hst) _ hF
  · rw [if_neg c13] at hF
    refine z_iload_n (pc' := 28) dX5_sizeAfter_27 rfl rfl rfl ?_
    refine z_iload (pc' := 30) dX5_sizeAfter_28 rfl rfl ?_
    refine z_icmp_le (tgt := 43) (pc' := 33) dX5_sizeAfter_30 (by decide) rfl (fun c12 => ?_) (fun c12 => ?_)
    · rw [if_pos c12] at hF
      refine z_iload_n (pc' := 44) dX5_sizeAfter_43 rfl rfl rfl ?_
      refine z_iconst (v := 1) (pc' := 45) dX5_sizeAfter_44 (by decide) rfl ?_
      refine z_icmp_lt (tgt := 63) (pc' := 48) dX5_sizeAfter_45 (by decide) rfl (fun c11 => ?_) (fun c11 => ?_)
      · rw [if_pos c11] at hF
        refine z_wk (ls' := [none, none, none, none, none, none]) (z_len1 (z_len1 (z_len1 (z_len1 (z_len1 (z_len1 z_le0)))))) ?_
        exact (ok_X5_sizeAfter_63 hst) _ hF
      · rw [if_neg c11] at hF
        refine z_iload_n (pc' := 49) dX5_sizeAfter_48 rfl rfl rfl ?_
        refine z_iload (pc' := 51) dX5_sizeAfter_49 rfl rfl ?_
        refine z_icmp_gt (tgt := 63) (pc' := 54) dX5_sizeAfter_51 (by decide) rfl (fun c10 => ?_) (fun c10 => ?_)
        · rw [if_pos c10] at hF
          refine z_wk (ls' := [none, none, none, none, none, none]) (z_len1 (z_len1 (z_len1 (z_len1 (z_len1 (z_len1 z_le0)))))) ?_
          exact (ok_X5_sizeAfter_63 hst) _ hF
        · rw [if_neg c10] at hF
          refine z_iload_n (pc' := 55) dX5_sizeAfter_54 rfl rfl rfl ?_
          refine z_iload_n (pc' := 56) dX5_sizeAfter_55 rfl rfl rfl ?_
          refine z_iadd (pc' := 57) dX5_sizeAfter_56 rfl ?_
          refine z_sipush (v := 2048) (pc' := 60) dX5_sizeAfter_57 (by decide) rfl ?_
          refine z_icmp_le (tgt := 74) (pc' := 63) dX5_sizeAfter_60 (by decide) rfl (fun c9 => ?_) (fun c9 => ?_)
          · rw [if_pos c9] at hF
            refine z_iload (pc' := 76) dX5_sizeAfter_74 rfl rfl ?_
            refine z_iload_n (pc' := 77) dX5_sizeAfter_76 rfl rfl rfl ?_
            refine z_iload_n (pc' := 78) dX5_sizeAfter_77 rfl rfl rfl ?_
            refine z_iadd (pc' := 79) dX5_sizeAfter_78 rfl ?_
            refine z_max (pc' := 82) zw_78 zw_79 zw_80 zw_81 ⟨by show (_ : Nat) ≤ 7; decide, Nat.le_of_ble_eq_true rfl⟩ dX5_sizeAfter_79 rfl ?_
            exact z_ireturn rfl dX5_sizeAfter_82 (Option.some.inj hF).symm
          · rw [if_neg c9] at hF
            refine z_wk (ls' := [none, none, none, none, none, none]) (z_len1 (z_len1 (z_len1 (z_len1 (z_len1 (z_len1 z_le0)))))) ?_
            exact (ok_X5_sizeAfter_63 hst) _ hF
    · rw [if_neg c12] at hF
      refine z_wk (ls' := [none, none, none, none, none, none]) (z_len1 (z_len1 (z_len1 (z_len1 (z_len1 (z_len1 z_le0)))))) ?_
      exact (ok_X5_sizeAfter_33 hst) _ hF
theorem ok_X5_sizeAfter : z_okV I_X5_sizeAfter 4 := ⟨⟨z_Gin (List.mem_of_getElem? (i := 659) (by decide +kernel)) rfl, z_Gin (List.mem_of_getElem? (i := 30) (by decide +kernel)) rfl, z_Gin (List.mem_of_getElem? (i := 89) (by decide +kernel)) rfl, z_Gin (List.mem_of_getElem? (i := 660) (by decide +kernel)) rfl⟩, by decide, by decide, by decide +kernel⟩
theorem k_X5_sizeAfter {l : Launch} {I : z_I} {R : Room} {B : Nat} {p1 : Int32} {p2 : Int32} {p3 : Int32} {p4 : Int32} {q : z_O × z_S} {pc pc' : Nat} {ls : List (Option Value)} {st : List Value} {S S1 : z_S} {idx F L : Nat} {r : Int32}  (hF : F_X5_sizeAfter B p1 p2 p3 p4 S = some (.inl (some r), S1)) (hst : l.stackTraces = false) (w : Cond.methodLink I.1.cls idx yX5_sizeAfter ∈ z_G) (hRF : R.frames = F) (hRL : R.locals = L) (h1 : 8 ≤ F) (h2 : 136 ≤ L) (hs : (st.map fun v => v.category).sum ≤ 8) (d : decode I.2.1 pc = .ok (.invokevirtual idx, 3)) (hp : pc + 3 = pc') (k : z_W l I R B q pc' ls (.int r :: st) S1) : z_W l I R B q pc ls (.int p4 :: .int p3 :: .int p2 :: .int p1 :: .ref 0 :: st) S := z_callV (Y := I_X5_sizeAfter) (As := [.int p1, .int p2, .int p3, .int p4]) (st := st) (r := (some r)) (S1 := S1) (c_X5_sizeAfter (q := (.inl (some r), S1)) hst hF) ok_X5_sizeAfter w (ci := 5) rfl is_5_0.1 is_5_0.2 rfl ⟨by rw [hRF]; exact h1, by rw [hRL]; exact h2⟩ hs d hp rfl k
theorem kx_X5_sizeAfter {l : Launch} {I : z_I} {R : Room} {B : Nat} {p1 : Int32} {p2 : Int32} {p3 : Int32} {p4 : Int32} {q : z_O × z_S} {pc : Nat} {ls : List (Option Value)} {st : List Value} {S S1 : z_S} {idx F L : Nat} {E : String}  (hF : F_X5_sizeAfter B p1 p2 p3 p4 S = some (.inr E, S1)) (hq : q = (.inr E, S1)) (hst : l.stackTraces = false) (w : Cond.methodLink I.1.cls idx yX5_sizeAfter ∈ z_G) (hRF : R.frames = F) (hRL : R.locals = L) (h1 : 8 ≤ F) (h2 : 136 ≤ L) (hRc : R.cells = z_mc q.1 ∧ R.slots = 6 * z_mc q.1) (hs : (st.map fun v => v.category).sum ≤ 8) (d : decode I.2.1 pc = .ok (.invokevirtual idx, 3)) : z_W l I R B q pc ls (.int p4 :: .int p3 :: .int p2 :: .int p1 :: .ref 0 :: st) S := z_callVX (Y := I_X5_sizeAfter) (As := [.int p1, .int p2, .int p3, .int p4]) (st := st) (E := E) (S1 := S1) (c_X5_sizeAfter (q := (.inr E, S1)) hst hF) hq ok_X5_sizeAfter w (ci := 5) rfl is_5_0.1 is_5_0.2 rfl ⟨by rw [hRF]; exact h1, by rw [hRL]; exact h2⟩ hRc hs d rfl

abbrev I_X5_write : z_I := (yX5_write, cX5_write, 8, some .int)
abbrev R_X5_write (q : z_O × z_S) : Room := { frames := 8, locals := 222, cells := z_mc q.1, slots := 6 * z_mc q.1 }
def F_X5_write_27 (B : Nat)  : Nat → Int32 → Int32 → Int64 → Int32 → Int32 → Int32 → z_S → Option (z_O × z_S)
  | 0, _, _, _, _, _, _, _ => none
  | n + 1, v1, v2, v3, v5, v6, v7, S => if v5 ≤ v7 then
    z_bv (F_X5_changeFile B v1 v6 S) fun S2 =>
    (some (.inl (some v6), S2))
  else
    z_gd (z_inb (v2 + v7) 2048) (
    z_lt (z_ua S 59 (upd (S.1 59) (z_ix (v2 + v7)) (vp_nar .byte (((v3 >>> ((8 * v7).toInt64 &&& 63)).toInt32).toInt8.toInt32)))) fun S5 =>
    (F_X5_write_27 B n v1 v2 v3 v5 v6 (v7 + 1) S5))
set_option maxRecDepth 20000 in
set_option maxHeartbeats 16000000 in
theorem ok_X5_write_27 {l : Launch} {B : Nat} {q : z_O × z_S} (hst : l.stackTraces = false) : ∀ (n : Nat) (v1 : Int32) (v2 : Int32) (v3 : Int64) (v5 : Int32) (v6 : Int32) (v7 : Int32) (S : z_S), F_X5_write_27 B n v1 v2 v3 v5 v6 v7 S = some q → z_W l I_X5_write (R_X5_write q) B q 27 [some (.ref 0), some (.int v1), some (.int v2), some (.long v3), none, some (.int v5), some (.int v6), some (.int v7)] [] S := by
  intro n
  induction n with
  | zero => intro v1 v2 v3 v5 v6 v7 S hF; cases hF
  | succ n ih =>
    intro v1 v2 v3 v5 v6 v7 S hF
    rw [F_X5_write_27] at hF
    refine z_iload (pc' := 29) dX5_write_27 rfl rfl ?_
    refine z_iload (pc' := 31) dX5_write_29 rfl rfl ?_
    refine z_icmp_ge (tgt := 58) (pc' := 34) dX5_write_31 (by decide) rfl (fun c6 => ?_) (fun c6 => ?_)
    · rw [if_pos c6] at hF
      refine z_aload_n (pc' := 59) dX5_write_58 rfl rfl rfl ?_
      refine z_iload_n (pc' := 60) dX5_write_59 rfl rfl rfl ?_
      refine z_iload (pc' := 62) dX5_write_60 rfl rfl ?_
      rcases z_bve hF with ⟨S2, hc3, hF⟩ | ⟨E9, S9, hc3, hq9⟩
      rotate_left
      · exact kx_X5_changeFile (F := 8) (L := 222) hc3 hq9 hst zw_84 rfl rfl (by decide) (by decide) ⟨rfl, rfl⟩ (by decide) dX5_write_62
      refine k_X5_changeFile (F := 8) (L := 222) (pc' := 65) hc3 hst zw_84 rfl rfl (by decide) (by decide) (by decide) dX5_write_62 rfl ?_
      refine z_iload (pc' := 67) dX5_write_65 rfl rfl ?_
      exact z_ireturn rfl dX5_write_67 (Option.some.inj hF).symm
    · rw [if_neg c6] at hF
      refine z_aload_n (pc' := 35) dX5_write_34 rfl rfl rfl ?_
      refine gf_X5_56 (b := 59) (pc' := 38) rfl is_5_0 rfl dX5_write_35 rfl ?_
      refine z_iload_n (pc' := 39) dX5_write_38 rfl rfl rfl ?_
      refine z_iload (pc' := 41) dX5_write_39 rfl rfl ?_
      refine z_iadd (pc' := 42) dX5_write_41 rfl ?_
      refine z_lload_n (pc' := 43) dX5_write_42 rfl rfl rfl ?_
      refine z_bipush (v := 8) (pc' := 45) dX5_write_43 (by decide) rfl ?_
      refine z_iload (pc' := 47) dX5_write_45 rfl rfl ?_
      refine z_imul (pc' := 48) dX5_write_47 rfl ?_
      refine z_lshr (pc' := 49) dX5_write_48 rfl ?_
      refine z_l2i (pc' := 50) dX5_write_49 rfl ?_
      refine z_i2b (pc' := 51) dX5_write_50 rfl ?_
      obtain ⟨g4, hF⟩ := z_gde hF
      refine z_bastore (pc' := 52) (ar_5_f7 is_5_0) (z_inbe g4) dX5_write_51 rfl (fun S5 eS5 => ?_)
      replace hF := z_lte hF S5 eS5
      refine z_iinc (v := v7 + 1) (pc' := 55) dX5_write_52 rfl rfl (by decide) rfl rfl ?_
      refine z_goto (pc' := 27) dX5_write_55 (by decide) ?_
      refine z_wk (ls' := [some (.ref 0), some (.int v1), some (.int v2), some (.long v3), none, some (.int v5), some (.int v6), some (.int (v7 + 1))]) (z_lec rfl (z_lec rfl (z_lec rfl (z_lec rfl (z_len1 (z_lec rfl (z_lec rfl (z_lec rfl z_le0)))))))) ?_
      exact ih _ _ _ _ _ _ _ hF
def F_X5_write (B : Nat) (p1 : Int32) (p2 : Int32) (p3 : Int64) (p5 : Int32) (S : z_S) : Option (z_O × z_S) :=
  z_bi (F_X5_sizeAfter B p1 p2 p5 8 S) fun r1 S2 =>
  (z_bo (F_X0_gather B 1 59 2048 p1 S2) fun S5 =>
  (F_X5_write_27 B z_n p1 p2 p3 p5 r1 0 S5))
set_option maxRecDepth 20000 in
set_option maxHeartbeats 16000000 in
theorem c_X5_write {l : Launch} {B : Nat} {p1 : Int32} {p2 : Int32} {p3 : Int64} {p5 : Int32} {S : z_S} {q : z_O × z_S} (hst : l.stackTraces = false) (hF : F_X5_write B p1 p2 p3 p5 S = some q) : z_Met l I_X5_write 8 222 B [.ref 0, .int p1, .int p2, .long p3, .int p5] S q.1 q.2 := by
  refine z_enter (ls := [some (.ref 0), some (.int p1), some (.int p2), some (.long p3), none, some (.int p5), none, none]) (n := 2) (by decide) rfl (Nat.le_of_ble_eq_true rfl) hst ?_
  unfold F_X5_write at hF
  refine z_aload_n (pc' := 1) dX5_write_0 rfl rfl rfl ?_
  refine z_iload_n (pc' := 2) dX5_write_1 rfl rfl rfl ?_
  refine z_iload_n (pc' := 3) dX5_write_2 rfl rfl rfl ?_
  refine z_iload (pc' := 5) dX5_write_3 rfl rfl ?_
  refine z_bipush (v := 8) (pc' := 7) dX5_write_5 (by decide) rfl ?_
  rcases z_bie hF with ⟨r1, S2, hc3, hF⟩ | ⟨E9, S9, hc3, hq9⟩
  rotate_left
  · exact kx_X5_sizeAfter (F := 8) (L := 222) hc3 hq9 hst zw_82 rfl rfl (by decide) (by decide) ⟨rfl, rfl⟩ (by decide) dX5_write_7
  refine k_X5_sizeAfter (F := 8) (L := 222) (pc' := 10) hc3 hst zw_82 rfl rfl (by decide) (by decide) (by decide) dX5_write_7 rfl ?_
  refine z_istore (pc' := 12) dX5_write_10 (by decide) rfl rfl ?_
  refine z_aload_n (pc' := 13) dX5_write_12 rfl rfl rfl ?_
  refine gf_X5_22 (b := 1) (pc' := 16) rfl is_5_0 rfl dX5_write_13 rfl ?_
  refine z_iload_n (pc' := 17) dX5_write_16 rfl rfl rfl ?_
  refine z_aload_n (pc' := 18) dX5_write_17 rfl rfl rfl ?_
  refine gf_X5_56 (b := 59) (pc' := 21) rfl is_5_0 rfl dX5_write_18 rfl ?_
  obtain ⟨S5, hc6, hF⟩ := z_boe hF
  refine k_X0_gather (F := 8) (L := 222) (pc' := 24) (is_5_f1 is_5_0) (ar_5_f7 is_5_0) hc6 hst zw_83 rfl rfl (by decide) (by decide) (by decide) dX5_write_21 rfl ?_
  refine z_iconst (v := 0) (pc' := 25) dX5_write_24 (by decide) rfl ?_
  refine z_istore (pc' := 27) dX5_write_25 (by decide) rfl rfl ?_
  refine z_wk (ls' := [some (.ref 0), some (.int p1), some (.int p2), some (.long p3), none, some (.int p5), some (.int r1), some (.int 0)]) (z_lec rfl (z_lec rfl (z_lec rfl (z_lec rfl (z_len1 (z_lec rfl (z_lec rfl (z_lec rfl z_le0)))))))) ?_
  exact (ok_X5_write_27 hst z_n) _ _ _ _ _ _ _ hF
theorem ok_X5_write : z_okV I_X5_write 4 := ⟨⟨z_Gin (List.mem_of_getElem? (i := 654) (by decide +kernel)) rfl, z_Gin (List.mem_of_getElem? (i := 655) (by decide +kernel)) rfl, z_Gin (List.mem_of_getElem? (i := 89) (by decide +kernel)) rfl, z_Gin (List.mem_of_getElem? (i := 656) (by decide +kernel)) rfl⟩, by decide, by decide, by decide +kernel⟩
theorem k_X5_write {l : Launch} {I : z_I} {R : Room} {B : Nat} {p1 : Int32} {p2 : Int32} {p3 : Int64} {p5 : Int32} {q : z_O × z_S} {pc pc' : Nat} {ls : List (Option Value)} {st : List Value} {S S1 : z_S} {idx F L : Nat} {r : Int32}  (hF : F_X5_write B p1 p2 p3 p5 S = some (.inl (some r), S1)) (hst : l.stackTraces = false) (w : Cond.methodLink I.1.cls idx yX5_write ∈ z_G) (hRF : R.frames = F) (hRL : R.locals = L) (h1 : 9 ≤ F) (h2 : 249 ≤ L) (hs : (st.map fun v => v.category).sum ≤ 8) (d : decode I.2.1 pc = .ok (.invokevirtual idx, 3)) (hp : pc + 3 = pc') (k : z_W l I R B q pc' ls (.int r :: st) S1) : z_W l I R B q pc ls (.int p5 :: .long p3 :: .int p2 :: .int p1 :: .ref 0 :: st) S := z_callV (Y := I_X5_write) (As := [.int p1, .int p2, .long p3, .int p5]) (st := st) (r := (some r)) (S1 := S1) (c_X5_write (q := (.inl (some r), S1)) hst hF) ok_X5_write w (ci := 5) rfl is_5_0.1 is_5_0.2 rfl ⟨by rw [hRF]; exact h1, by rw [hRL]; exact h2⟩ hs d hp rfl k
theorem kx_X5_write {l : Launch} {I : z_I} {R : Room} {B : Nat} {p1 : Int32} {p2 : Int32} {p3 : Int64} {p5 : Int32} {q : z_O × z_S} {pc : Nat} {ls : List (Option Value)} {st : List Value} {S S1 : z_S} {idx F L : Nat} {E : String}  (hF : F_X5_write B p1 p2 p3 p5 S = some (.inr E, S1)) (hq : q = (.inr E, S1)) (hst : l.stackTraces = false) (w : Cond.methodLink I.1.cls idx yX5_write ∈ z_G) (hRF : R.frames = F) (hRL : R.locals = L) (h1 : 9 ≤ F) (h2 : 249 ≤ L) (hRc : R.cells = z_mc q.1 ∧ R.slots = 6 * z_mc q.1) (hs : (st.map fun v => v.category).sum ≤ 8) (d : decode I.2.1 pc = .ok (.invokevirtual idx, 3)) : z_W l I R B q pc ls (.int p5 :: .long p3 :: .int p2 :: .int p1 :: .ref 0 :: st) S := z_callVX (Y := I_X5_write) (As := [.int p1, .int p2, .long p3, .int p5]) (st := st) (E := E) (S1 := S1) (c_X5_write (q := (.inr E, S1)) hst hF) hq ok_X5_write w (ci := 5) rfl is_5_0.1 is_5_0.2 rfl ⟨by rw [hRF]; exact h1, by rw [hRL]; exact h2⟩ hRc hs d rfl

abbrev I_X5_fill : z_I := (yX5_fill, cX5_fill, 7, some .int)
abbrev R_X5_fill (q : z_O × z_S) : Room := { frames := 8, locals := 222, cells := z_mc q.1, slots := 6 * z_mc q.1 }
def F_X5_fill_28 (B : Nat)  : Nat → Int32 → Int32 → Int32 → Int32 → Int32 → Int32 → z_S → Option (z_O × z_S)
  | 0, _, _, _, _, _, _, _ => none
  | n + 1, v1, v2, v3, v4, v5, v6, S => if v4 ≤ v6 then
    z_bv (F_X5_changeFile B v1 v5 S) fun S2 =>
    (some (.inl (some v5), S2))
  else
    z_gd (z_inb (v2 + v6) 2048) (
    z_lt (z_ua S 59 (upd (S.1 59) (z_ix (v2 + v6)) (vp_nar .byte ((v3 + (7 * v6)).toInt8.toInt32)))) fun S5 =>
    (F_X5_fill_28 B n v1 v2 v3 v4 v5 (v6 + 1) S5))
set_option maxRecDepth 20000 in
set_option maxHeartbeats 16000000 in
theorem ok_X5_fill_28 {l : Launch} {B : Nat} {q : z_O × z_S} (hst : l.stackTraces = false) : ∀ (n : Nat) (v1 : Int32) (v2 : Int32) (v3 : Int32) (v4 : Int32) (v5 : Int32) (v6 : Int32) (S : z_S), F_X5_fill_28 B n v1 v2 v3 v4 v5 v6 S = some q → z_W l I_X5_fill (R_X5_fill q) B q 28 [some (.ref 0), some (.int v1), some (.int v2), some (.int v3), some (.int v4), some (.int v5), some (.int v6)] [] S := by
  intro n
  induction n with
  | zero => intro v1 v2 v3 v4 v5 v6 S hF; cases hF
  | succ n ih =>
    intro v1 v2 v3 v4 v5 v6 S hF
    rw [F_X5_fill_28] at hF
    refine z_iload (pc' := 30) dX5_fill_28 rfl rfl ?_
    refine z_iload (pc' := 32) dX5_fill_30 rfl rfl ?_
    refine z_icmp_ge (tgt := 58) (pc' := 35) dX5_fill_32 (by decide) rfl (fun c6 => ?_) (fun c6 => ?_)
    · rw [if_pos c6] at hF
      refine z_aload_n (pc' := 59) dX5_fill_58 rfl rfl rfl ?_
      refine z_iload_n (pc' := 60) dX5_fill_59 rfl rfl rfl ?_
      refine z_iload (pc' := 62) dX5_fill_60 rfl rfl ?_
      rcases z_bve hF with ⟨S2, hc3, hF⟩ | ⟨E9, S9, hc3, hq9⟩
      rotate_left
      · exact kx_X5_changeFile (F := 8) (L := 222) hc3 hq9 hst zw_84 rfl rfl (by decide) (by decide) ⟨rfl, rfl⟩ (by decide) dX5_fill_62
      refine k_X5_changeFile (F := 8) (L := 222) (pc' := 65) hc3 hst zw_84 rfl rfl (by decide) (by decide) (by decide) dX5_fill_62 rfl ?_
      refine z_iload (pc' := 67) dX5_fill_65 rfl rfl ?_
      exact z_ireturn rfl dX5_fill_67 (Option.some.inj hF).symm
    · rw [if_neg c6] at hF
      refine z_aload_n (pc' := 36) dX5_fill_35 rfl rfl rfl ?_
      refine gf_X5_56 (b := 59) (pc' := 39) rfl is_5_0 rfl dX5_fill_36 rfl ?_
      refine z_iload_n (pc' := 40) dX5_fill_39 rfl rfl rfl ?_
      refine z_iload (pc' := 42) dX5_fill_40 rfl rfl ?_
      refine z_iadd (pc' := 43) dX5_fill_42 rfl ?_
      refine z_iload_n (pc' := 44) dX5_fill_43 rfl rfl rfl ?_
      refine z_bipush (v := 7) (pc' := 46) dX5_fill_44 (by decide) rfl ?_
      refine z_iload (pc' := 48) dX5_fill_46 rfl rfl ?_
      refine z_imul (pc' := 49) dX5_fill_48 rfl ?_
      refine z_iadd (pc' := 50) dX5_fill_49 rfl ?_
      refine z_i2b (pc' := 51) dX5_fill_50 rfl ?_
      obtain ⟨g4, hF⟩ := z_gde hF
      refine z_bastore (pc' := 52) (ar_5_f7 is_5_0) (z_inbe g4) dX5_fill_51 rfl (fun S5 eS5 => ?_)
      replace hF := z_lte hF S5 eS5
      refine z_iinc (v := v6 + 1) (pc' := 55) dX5_fill_52 rfl rfl (by decide) rfl rfl ?_
      refine z_goto (pc' := 28) dX5_fill_55 (by decide) ?_
      refine z_wk (ls' := [some (.ref 0), some (.int v1), some (.int v2), some (.int v3), some (.int v4), some (.int v5), some (.int (v6 + 1))]) (z_lec rfl (z_lec rfl (z_lec rfl (z_lec rfl (z_lec rfl (z_lec rfl (z_lec rfl z_le0))))))) ?_
      exact ih _ _ _ _ _ _ _ hF
def F_X5_fill (B : Nat) (p1 : Int32) (p2 : Int32) (p3 : Int32) (p4 : Int32) (S : z_S) : Option (z_O × z_S) :=
  z_bi (F_X5_sizeAfter B p1 p2 p4 512 S) fun r1 S2 =>
  (z_bo (F_X0_gather B 1 59 2048 p1 S2) fun S5 =>
  (F_X5_fill_28 B z_n p1 p2 p3 p4 r1 0 S5))
set_option maxRecDepth 20000 in
set_option maxHeartbeats 16000000 in
theorem c_X5_fill {l : Launch} {B : Nat} {p1 : Int32} {p2 : Int32} {p3 : Int32} {p4 : Int32} {S : z_S} {q : z_O × z_S} (hst : l.stackTraces = false) (hF : F_X5_fill B p1 p2 p3 p4 S = some q) : z_Met l I_X5_fill 8 222 B [.ref 0, .int p1, .int p2, .int p3, .int p4] S q.1 q.2 := by
  refine z_enter (ls := [some (.ref 0), some (.int p1), some (.int p2), some (.int p3), some (.int p4), none, none]) (n := 2) (by decide) rfl (Nat.le_of_ble_eq_true rfl) hst ?_
  unfold F_X5_fill at hF
  refine z_aload_n (pc' := 1) dX5_fill_0 rfl rfl rfl ?_
  refine z_iload_n (pc' := 2) dX5_fill_1 rfl rfl rfl ?_
  refine z_iload_n (pc' := 3) dX5_fill_2 rfl rfl rfl ?_
  refine z_iload (pc' := 5) dX5_fill_3 rfl rfl ?_
  refine z_sipush (v := 512) (pc' := 8) dX5_fill_5 (by decide) rfl ?_
  rcases z_bie hF with ⟨r1, S2, hc3, hF⟩ | ⟨E9, S9, hc3, hq9⟩
  rotate_left
  · exact kx_X5_sizeAfter (F := 8) (L := 222) hc3 hq9 hst zw_82 rfl rfl (by decide) (by decide) ⟨rfl, rfl⟩ (by decide) dX5_fill_8
  refine k_X5_sizeAfter (F := 8) (L := 222) (pc' := 11) hc3 hst zw_82 rfl rfl (by decide) (by decide) (by decide) dX5_fill_8 rfl ?_
  refine z_istore (pc' := 13) dX5_fill_11 (by decide) rfl rfl ?_
  refine z_aload_n (pc' := 14) dX5_fill_13 rfl rfl rfl ?_
  refine gf_X5_22 (b := 1) (pc' := 17) rfl is_5_0 rfl dX5_fill_14 rfl ?_
  refine z_iload_n (pc' := 18) dX5_fill_17 rfl rfl rfl ?_
  refine z_aload_n (pc' := 19) dX5_fill_18 rfl rfl rfl ?_
  refine gf_X5_56 (b := 59) (pc' := 22) rfl is_5_0 rfl dX5_fill_19 rfl ?_
  obtain ⟨S5, hc6, hF⟩ := z_boe hF
  refine k_X0_gather (F := 8) (L := 222) (pc' := 25) (is_5_f1 is_5_0) (ar_5_f7 is_5_0) hc6 hst zw_83 rfl rfl (by decide) (by decide) (by decide) dX5_fill_22 rfl ?_
  refine z_iconst (v := 0) (pc' := 26) dX5_fill_25 (by decide) rfl ?_
  refine z_istore (pc' := 28) dX5_fill_26 (by decide) rfl rfl ?_
  refine z_wk (ls' := [some (.ref 0), some (.int p1), some (.int p2), some (.int p3), some (.int p4), some (.int r1), some (.int 0)]) (z_lec rfl (z_lec rfl (z_lec rfl (z_lec rfl (z_lec rfl (z_lec rfl (z_lec rfl z_le0))))))) ?_
  exact (ok_X5_fill_28 hst z_n) _ _ _ _ _ _ _ hF
theorem ok_X5_fill : z_okV I_X5_fill 4 := ⟨⟨z_Gin (List.mem_of_getElem? (i := 686) (by decide +kernel)) rfl, z_Gin (List.mem_of_getElem? (i := 687) (by decide +kernel)) rfl, z_Gin (List.mem_of_getElem? (i := 89) (by decide +kernel)) rfl, z_Gin (List.mem_of_getElem? (i := 688) (by decide +kernel)) rfl⟩, by decide, by decide, by decide +kernel⟩
theorem k_X5_fill {l : Launch} {I : z_I} {R : Room} {B : Nat} {p1 : Int32} {p2 : Int32} {p3 : Int32} {p4 : Int32} {q : z_O × z_S} {pc pc' : Nat} {ls : List (Option Value)} {st : List Value} {S S1 : z_S} {idx F L : Nat} {r : Int32}  (hF : F_X5_fill B p1 p2 p3 p4 S = some (.inl (some r), S1)) (hst : l.stackTraces = false) (w : Cond.methodLink I.1.cls idx yX5_fill ∈ z_G) (hRF : R.frames = F) (hRL : R.locals = L) (h1 : 9 ≤ F) (h2 : 248 ≤ L) (hs : (st.map fun v => v.category).sum ≤ 8) (d : decode I.2.1 pc = .ok (.invokevirtual idx, 3)) (hp : pc + 3 = pc') (k : z_W l I R B q pc' ls (.int r :: st) S1) : z_W l I R B q pc ls (.int p4 :: .int p3 :: .int p2 :: .int p1 :: .ref 0 :: st) S := z_callV (Y := I_X5_fill) (As := [.int p1, .int p2, .int p3, .int p4]) (st := st) (r := (some r)) (S1 := S1) (c_X5_fill (q := (.inl (some r), S1)) hst hF) ok_X5_fill w (ci := 5) rfl is_5_0.1 is_5_0.2 rfl ⟨by rw [hRF]; exact h1, by rw [hRL]; exact h2⟩ hs d hp rfl k
theorem kx_X5_fill {l : Launch} {I : z_I} {R : Room} {B : Nat} {p1 : Int32} {p2 : Int32} {p3 : Int32} {p4 : Int32} {q : z_O × z_S} {pc : Nat} {ls : List (Option Value)} {st : List Value} {S S1 : z_S} {idx F L : Nat} {E : String}  (hF : F_X5_fill B p1 p2 p3 p4 S = some (.inr E, S1)) (hq : q = (.inr E, S1)) (hst : l.stackTraces = false) (w : Cond.methodLink I.1.cls idx yX5_fill ∈ z_G) (hRF : R.frames = F) (hRL : R.locals = L) (h1 : 9 ≤ F) (h2 : 248 ≤ L) (hRc : R.cells = z_mc q.1 ∧ R.slots = 6 * z_mc q.1) (hs : (st.map fun v => v.category).sum ≤ 8) (d : decode I.2.1 pc = .ok (.invokevirtual idx, 3)) : z_W l I R B q pc ls (.int p4 :: .int p3 :: .int p2 :: .int p1 :: .ref 0 :: st) S := z_callVX (Y := I_X5_fill) (As := [.int p1, .int p2, .int p3, .int p4]) (st := st) (E := E) (S1 := S1) (c_X5_fill (q := (.inr E, S1)) hst hF) hq ok_X5_fill w (ci := 5) rfl is_5_0.1 is_5_0.2 rfl ⟨by rw [hRF]; exact h1, by rw [hRL]; exact h2⟩ hRc hs d rfl

abbrev I_X5_cut : z_I := (yX5_cut, cX5_cut, 5, some .int)
abbrev R_X5_cut (q : z_O × z_S) : Room := { frames := 8, locals := 222, cells := z_mc q.1, slots := 6 * z_mc q.1 }
def F_X5_cut_56 (B : Nat)  : Nat → Int32 → Int32 → Int32 → Int32 → z_S → Option (z_O × z_S)
  | 0, _, _, _, _, _ => none
  | n + 1, v1, v2, v3, v4, S => if v3 ≤ v4 then
    z_bv (F_X5_changeFile B v1 v2 S) fun S2 =>
    (z_bn (F_X5_dataBlocks B v2 S2) fun r4 S5 =>
    (some (.inl (some r4), S5)))
  else
    z_gd (z_inb v4 2048) (
    z_lt (z_ua S 59 (upd (S.1 59) (z_ix (v4)) (vp_nar .byte 0))) fun S8 =>
    (F_X5_cut_56 B n v1 v2 v3 (v4 + 1) S8))
set_option maxRecDepth 20000 in
set_option maxHeartbeats 16000000 in
theorem ok_X5_cut_56 {l : Launch} {B : Nat} {q : z_O × z_S} (hst : l.stackTraces = false) : ∀ (n : Nat) (v1 : Int32) (v2 : Int32) (v3 : Int32) (v4 : Int32) (S : z_S), F_X5_cut_56 B n v1 v2 v3 v4 S = some q → z_W l I_X5_cut (R_X5_cut q) B q 56 [some (.ref 0), some (.int v1), some (.int v2), some (.int v3), some (.int v4)] [] S := by
  intro n
  induction n with
  | zero => intro v1 v2 v3 v4 S hF; cases hF
  | succ n ih =>
    intro v1 v2 v3 v4 S hF
    rw [F_X5_cut_56] at hF
    refine z_iload (pc' := 58) dX5_cut_56 rfl rfl ?_
    refine z_iload_n (pc' := 59) dX5_cut_58 rfl rfl rfl ?_
    refine z_icmp_ge (tgt := 76) (pc' := 62) dX5_cut_59 (by decide) rfl (fun c9 => ?_) (fun c9 => ?_)
    · rw [if_pos c9] at hF
      refine z_aload_n (pc' := 77) dX5_cut_76 rfl rfl rfl ?_
      refine z_iload_n (pc' := 78) dX5_cut_77 rfl rfl rfl ?_
      refine z_iload_n (pc' := 79) dX5_cut_78 rfl rfl rfl ?_
      rcases z_bve hF with ⟨S2, hc3, hF⟩ | ⟨E9, S9, hc3, hq9⟩
      rotate_left
      · exact kx_X5_changeFile (F := 8) (L := 222) hc3 hq9 hst zw_84 rfl rfl (by decide) (by decide) ⟨rfl, rfl⟩ (by decide) dX5_cut_79
      refine k_X5_changeFile (F := 8) (L := 222) (pc' := 82) hc3 hst zw_84 rfl rfl (by decide) (by decide) (by decide) dX5_cut_79 rfl ?_
      refine z_iload_n (pc' := 83) dX5_cut_82 rfl rfl rfl ?_
      obtain ⟨r4, S5, hc6, hF⟩ := z_bne hF
      refine k_X5_dataBlocks (F := 8) (L := 222) (pc' := 86) hc6 hst zw_76 rfl rfl (by decide) (by decide) (by decide) dX5_cut_83 rfl ?_
      exact z_ireturn rfl dX5_cut_86 (Option.some.inj hF).symm
    · rw [if_neg c9] at hF
      refine z_aload_n (pc' := 63) dX5_cut_62 rfl rfl rfl ?_
      refine gf_X5_56 (b := 59) (pc' := 66) rfl is_5_0 rfl dX5_cut_63 rfl ?_
      refine z_iload (pc' := 68) dX5_cut_66 rfl rfl ?_
      refine z_iconst (v := 0) (pc' := 69) dX5_cut_68 (by decide) rfl ?_
      obtain ⟨g7, hF⟩ := z_gde hF
      refine z_bastore (pc' := 70) (ar_5_f7 is_5_0) (z_inbe g7) dX5_cut_69 rfl (fun S8 eS8 => ?_)
      replace hF := z_lte hF S8 eS8
      refine z_iinc (v := v4 + 1) (pc' := 73) dX5_cut_70 rfl rfl (by decide) rfl rfl ?_
      refine z_goto (pc' := 56) dX5_cut_73 (by decide) ?_
      refine z_wk (ls' := [some (.ref 0), some (.int v1), some (.int v2), some (.int v3), some (.int (v4 + 1))]) (z_lec rfl (z_lec rfl (z_lec rfl (z_lec rfl (z_lec rfl z_le0))))) ?_
      exact ih _ _ _ _ _ hF
def F_X5_cut_31 (B : Nat)   (S : z_S) : Option (z_O × z_S) :=
  some (.inr "java/lang/IllegalArgumentException", S)
set_option maxRecDepth 20000 in
set_option maxHeartbeats 16000000 in
theorem ok_X5_cut_31 {l : Launch} {B : Nat} {q : z_O × z_S} (hst : l.stackTraces = false) : ∀ (S : z_S), F_X5_cut_31 B S = some q → z_W l I_X5_cut (R_X5_cut q) B q 31 [none, none, none, none, none] [] S := by
  intro S hF
  unfold F_X5_cut_31 at hF
  exact z_throwS (text := "no size to cut to") (names := ["java/lang/RuntimeException", "java/lang/Exception"]) rfl (Option.some.inj hF).symm (by decide +kernel) (by decide +kernel) (by decide +kernel) zw_48 zw_49 z_at_159 dX5_cut_31 dX5_cut_34 dX5_cut_35 dX5_cut_37 dX5_cut_40 ⟨by show (_ : Nat) ≤ 8; decide, by show (_ : Nat) ≤ 222; decide⟩ ⟨rfl, rfl⟩
def F_X5_cut (B : Nat) (p1 : Int32) (p2 : Int32) (S : z_S) : Option (z_O × z_S) :=
  z_bv (F_X5_needPower B S) fun S2 =>
  (z_bv (F_X5_needFile B p1 S2) fun S5 =>
  (z_gd (z_inb p1 61) (
  z_lt (S5.1 17 (z_ix (p1))) fun x8 =>
  (if p2 < 0 then
    F_X5_cut_31 B S5
  else
    if p2 ≤ x8 then
      z_bo (F_X0_gather B 1 59 2048 p1 S5) fun S10 =>
      (F_X5_cut_56 B z_n p1 p2 x8 p2 S10)
    else
      F_X5_cut_31 B S5))))
set_option maxRecDepth 20000 in
set_option maxHeartbeats 16000000 in
theorem c_X5_cut {l : Launch} {B : Nat} {p1 : Int32} {p2 : Int32} {S : z_S} {q : z_O × z_S} (hst : l.stackTraces = false) (hF : F_X5_cut B p1 p2 S = some q) : z_Met l I_X5_cut 8 222 B [.ref 0, .int p1, .int p2] S q.1 q.2 := by
  refine z_enter (ls := [some (.ref 0), some (.int p1), some (.int p2), none, none]) (n := 2) (by decide) rfl (Nat.le_of_ble_eq_true rfl) hst ?_
  unfold F_X5_cut at hF
  refine z_aload_n (pc' := 1) dX5_cut_0 rfl rfl rfl ?_
  rcases z_bve hF with ⟨S2, hc3, hF⟩ | ⟨E9, S9, hc3, hq9⟩
  rotate_left
  · exact kx_X5_needPower (F := 8) (L := 222) hc3 hq9 hst zw_57 rfl rfl (by decide) (by decide) ⟨rfl, rfl⟩ (by decide) dX5_cut_1
  refine k_X5_needPower (F := 8) (L := 222) (pc' := 4) hc3 hst zw_57 rfl rfl (by decide) (by decide) (by decide) dX5_cut_1 rfl ?_
  refine z_aload_n (pc' := 5) dX5_cut_4 rfl rfl rfl ?_
  refine z_iload_n (pc' := 6) dX5_cut_5 rfl rfl rfl ?_
  rcases z_bve hF with ⟨S5, hc6, hF⟩ | ⟨E9, S9, hc6, hq9⟩
  rotate_left
  · exact kx_X5_needFile (F := 8) (L := 222) hc6 hq9 hst zw_66 rfl rfl (by decide) (by decide) ⟨rfl, rfl⟩ (by decide) dX5_cut_6
  refine k_X5_needFile (F := 8) (L := 222) (pc' := 9) hc6 hst zw_66 rfl rfl (by decide) (by decide) (by decide) dX5_cut_6 rfl ?_
  refine z_aload_n (pc' := 10) dX5_cut_9 rfl rfl rfl ?_
  refine gf_X5_22 (b := 1) (pc' := 13) rfl is_5_0 rfl dX5_cut_10 rfl ?_
  refine gf_X5_72 (b := 14) (pc' := 16) rfl (is_5_f1 is_5_0) rfl dX5_cut_13 rfl ?_
  refine gf_X5_110 (b := 17) (pc' := 19) rfl (is_0_f1 (is_5_f1 is_5_0)) rfl dX5_cut_16 rfl ?_
  refine z_iload_n (pc' := 20) dX5_cut_19 rfl rfl rfl ?_
  obtain ⟨g7, hF⟩ := z_gde hF
  refine z_iaload (pc' := 21) (ar_2_f2 (is_0_f1 (is_5_f1 is_5_0))) (z_inbe g7) dX5_cut_20 rfl ?_
  refine z_topi (fun x8 ex8 => ?_)
  replace hF := z_lte hF x8 ex8
  refine z_istore_n (pc' := 22) dX5_cut_21 rfl (by decide) rfl rfl ?_
  refine z_iload_n (pc' := 23) dX5_cut_22 rfl rfl rfl ?_
  refine z_if_lt (tgt := 31) (pc' := 26) dX5_cut_23 (by decide) rfl (fun c13 => ?_) (fun c13 => ?_)
  · rw [if_pos c13] at hF
    refine z_wk (ls' := [none, none, none, none, none]) (z_len1 (z_len1 (z_len1 (z_len1 (z_len1 z_le0))))) ?_
    exact (ok_X5_cut_31 hst) _ hF
  · rw [if_neg c13] at hF
    refine z_iload_n (pc' := 27) dX5_cut_26 rfl rfl rfl ?_
    refine z_iload_n (pc' := 28) dX5_cut_27 rfl rfl rfl ?_
    refine z_icmp_le (tgt := 41) (pc' := 31) dX5_cut_28 (by decide) rfl (fun c12 => ?_) (fun c12 => ?_)
    · rw [if_pos c12] at hF
      refine z_aload_n (pc' := 42) dX5_cut_41 rfl rfl rfl ?_
      refine gf_X5_22 (b := 1) (pc' := 45) rfl is_5_0 rfl dX5_cut_42 rfl ?_
      refine z_iload_n (pc' := 46) dX5_cut_45 rfl rfl rfl ?_
      refine z_aload_n (pc' := 47) dX5_cut_46 rfl rfl rfl ?_
      refine gf_X5_56 (b := 59) (pc' := 50) rfl is_5_0 rfl dX5_cut_47 rfl ?_
      obtain ⟨S10, hc11, hF⟩ := z_boe hF
      refine k_X0_gather (F := 8) (L := 222) (pc' := 53) (is_5_f1 is_5_0) (ar_5_f7 is_5_0) hc11 hst zw_83 rfl rfl (by decide) (by decide) (by decide) dX5_cut_50 rfl ?_
      refine z_iload_n (pc' := 54) dX5_cut_53 rfl rfl rfl ?_
      refine z_istore (pc' := 56) dX5_cut_54 (by decide) rfl rfl ?_
      refine z_wk (ls' := [some (.ref 0), some (.int p1), some (.int p2), some (.int x8), some (.int p2)]) (z_lec rfl (z_lec rfl (z_lec rfl (z_lec rfl (z_lec rfl z_le0))))) ?_
      exact (ok_X5_cut_56 hst z_n) _ _ _ _ _ hF
    · rw [if_neg c12] at hF
      refine z_wk (ls' := [none, none, none, none, none]) (z_len1 (z_len1 (z_len1 (z_len1 (z_len1 z_le0))))) ?_
      exact (ok_X5_cut_31 hst) _ hF
theorem ok_X5_cut : z_okV I_X5_cut 2 := ⟨⟨z_Gin (List.mem_of_getElem? (i := 693) (by decide +kernel)) rfl, z_Gin (List.mem_of_getElem? (i := 694) (by decide +kernel)) rfl, z_Gin (List.mem_of_getElem? (i := 89) (by decide +kernel)) rfl, z_Gin (List.mem_of_getElem? (i := 695) (by decide +kernel)) rfl⟩, by decide, by decide, by decide +kernel⟩
theorem k_X5_cut {l : Launch} {I : z_I} {R : Room} {B : Nat} {p1 : Int32} {p2 : Int32} {q : z_O × z_S} {pc pc' : Nat} {ls : List (Option Value)} {st : List Value} {S S1 : z_S} {idx F L : Nat} {r : Int32}  (hF : F_X5_cut B p1 p2 S = some (.inl (some r), S1)) (hst : l.stackTraces = false) (w : Cond.methodLink I.1.cls idx yX5_cut ∈ z_G) (hRF : R.frames = F) (hRL : R.locals = L) (h1 : 9 ≤ F) (h2 : 246 ≤ L) (hs : (st.map fun v => v.category).sum ≤ 8) (d : decode I.2.1 pc = .ok (.invokevirtual idx, 3)) (hp : pc + 3 = pc') (k : z_W l I R B q pc' ls (.int r :: st) S1) : z_W l I R B q pc ls (.int p2 :: .int p1 :: .ref 0 :: st) S := z_callV (Y := I_X5_cut) (As := [.int p1, .int p2]) (st := st) (r := (some r)) (S1 := S1) (c_X5_cut (q := (.inl (some r), S1)) hst hF) ok_X5_cut w (ci := 5) rfl is_5_0.1 is_5_0.2 rfl ⟨by rw [hRF]; exact h1, by rw [hRL]; exact h2⟩ hs d hp rfl k
theorem kx_X5_cut {l : Launch} {I : z_I} {R : Room} {B : Nat} {p1 : Int32} {p2 : Int32} {q : z_O × z_S} {pc : Nat} {ls : List (Option Value)} {st : List Value} {S S1 : z_S} {idx F L : Nat} {E : String}  (hF : F_X5_cut B p1 p2 S = some (.inr E, S1)) (hq : q = (.inr E, S1)) (hst : l.stackTraces = false) (w : Cond.methodLink I.1.cls idx yX5_cut ∈ z_G) (hRF : R.frames = F) (hRL : R.locals = L) (h1 : 9 ≤ F) (h2 : 246 ≤ L) (hRc : R.cells = z_mc q.1 ∧ R.slots = 6 * z_mc q.1) (hs : (st.map fun v => v.category).sum ≤ 8) (d : decode I.2.1 pc = .ok (.invokevirtual idx, 3)) : z_W l I R B q pc ls (.int p2 :: .int p1 :: .ref 0 :: st) S := z_callVX (Y := I_X5_cut) (As := [.int p1, .int p2]) (st := st) (E := E) (S1 := S1) (c_X5_cut (q := (.inr E, S1)) hst hF) hq ok_X5_cut w (ci := 5) rfl is_5_0.1 is_5_0.2 rfl ⟨by rw [hRF]; exact h1, by rw [hRL]; exact h2⟩ hRc hs d rfl

abbrev I_X5_read : z_I := (yX5_read, cX5_read, 3, some .int)
abbrev R_X5_read (q : z_O × z_S) : Room := { frames := 7, locals := 111, cells := z_mc q.1, slots := 6 * z_mc q.1 }
def F_X5_read_29 (B : Nat)   (S : z_S) : Option (z_O × z_S) :=
  some (.inr "java/lang/IndexOutOfBoundsException", S)
set_option maxRecDepth 20000 in
set_option maxHeartbeats 16000000 in
theorem ok_X5_read_29 {l : Launch} {B : Nat} {q : z_O × z_S} (hst : l.stackTraces = false) : ∀ (S : z_S), F_X5_read_29 B S = some q → z_W l I_X5_read (R_X5_read q) B q 29 [none, none, none] [] S := by
  intro S hF
  unfold F_X5_read_29 at hF
  exact z_throwS (text := "no such byte") (names := ["java/lang/RuntimeException", "java/lang/Exception"]) rfl (Option.some.inj hF).symm (by decide +kernel) (by decide +kernel) (by decide +kernel) zw_46 zw_47 z_at_168 dX5_read_29 dX5_read_32 dX5_read_33 dX5_read_35 dX5_read_38 ⟨by show (_ : Nat) ≤ 7; decide, by show (_ : Nat) ≤ 111; decide⟩ ⟨rfl, rfl⟩
def F_X5_read (B : Nat) (p1 : Int32) (p2 : Int32) (S : z_S) : Option (z_O × z_S) :=
  z_bv (F_X5_needPower B S) fun S2 =>
  (z_bv (F_X5_needFile B p1 S2) fun S5 =>
  (if p2 < 0 then
    F_X5_read_29 B S5
  else
    z_gd (z_inb p1 61) (
    z_lt (S5.1 17 (z_ix (p1))) fun x8 =>
    (if p2 < x8 then
      z_bn (F_X0_byteOf B 1 p1 p2 S5) fun r9 S10 =>
      (some (.inl (some r9), S10))
    else
      F_X5_read_29 B S5))))
set_option maxRecDepth 20000 in
set_option maxHeartbeats 16000000 in
theorem c_X5_read {l : Launch} {B : Nat} {p1 : Int32} {p2 : Int32} {S : z_S} {q : z_O × z_S} (hst : l.stackTraces = false) (hF : F_X5_read B p1 p2 S = some q) : z_Met l I_X5_read 7 111 B [.ref 0, .int p1, .int p2] S q.1 q.2 := by
  refine z_enter (ls := [some (.ref 0), some (.int p1), some (.int p2)]) (n := 0) (by decide) rfl (Nat.le_of_ble_eq_true rfl) hst ?_
  unfold F_X5_read at hF
  refine z_aload_n (pc' := 1) dX5_read_0 rfl rfl rfl ?_
  rcases z_bve hF with ⟨S2, hc3, hF⟩ | ⟨E9, S9, hc3, hq9⟩
  rotate_left
  · exact kx_X5_needPower (F := 7) (L := 111) hc3 hq9 hst zw_57 rfl rfl (by decide) (by decide) ⟨rfl, rfl⟩ (by decide) dX5_read_1
  refine k_X5_needPower (F := 7) (L := 111) (pc' := 4) hc3 hst zw_57 rfl rfl (by decide) (by decide) (by decide) dX5_read_1 rfl ?_
  refine z_aload_n (pc' := 5) dX5_read_4 rfl rfl rfl ?_
  refine z_iload_n (pc' := 6) dX5_read_5 rfl rfl rfl ?_
  rcases z_bve hF with ⟨S5, hc6, hF⟩ | ⟨E9, S9, hc6, hq9⟩
  rotate_left
  · exact kx_X5_needFile (F := 7) (L := 111) hc6 hq9 hst zw_66 rfl rfl (by decide) (by decide) ⟨rfl, rfl⟩ (by decide) dX5_read_6
  refine k_X5_needFile (F := 7) (L := 111) (pc' := 9) hc6 hst zw_66 rfl rfl (by decide) (by decide) (by decide) dX5_read_6 rfl ?_
  refine z_iload_n (pc' := 10) dX5_read_9 rfl rfl rfl ?_
  refine z_if_lt (tgt := 29) (pc' := 13) dX5_read_10 (by decide) rfl (fun c13 => ?_) (fun c13 => ?_)
  · rw [if_pos c13] at hF
    refine z_wk (ls' := [none, none, none]) (z_len1 (z_len1 (z_len1 z_le0))) ?_
    exact (ok_X5_read_29 hst) _ hF
  · rw [if_neg c13] at hF
    refine z_iload_n (pc' := 14) dX5_read_13 rfl rfl rfl ?_
    refine z_aload_n (pc' := 15) dX5_read_14 rfl rfl rfl ?_
    refine gf_X5_22 (b := 1) (pc' := 18) rfl is_5_0 rfl dX5_read_15 rfl ?_
    refine gf_X5_72 (b := 14) (pc' := 21) rfl (is_5_f1 is_5_0) rfl dX5_read_18 rfl ?_
    refine gf_X5_110 (b := 17) (pc' := 24) rfl (is_0_f1 (is_5_f1 is_5_0)) rfl dX5_read_21 rfl ?_
    refine z_iload_n (pc' := 25) dX5_read_24 rfl rfl rfl ?_
    obtain ⟨g7, hF⟩ := z_gde hF
    refine z_iaload (pc' := 26) (ar_2_f2 (is_0_f1 (is_5_f1 is_5_0))) (z_inbe g7) dX5_read_25 rfl ?_
    refine z_topi (fun x8 ex8 => ?_)
    replace hF := z_lte hF x8 ex8
    refine z_icmp_lt (tgt := 39) (pc' := 29) dX5_read_26 (by decide) rfl (fun c12 => ?_) (fun c12 => ?_)
    · rw [if_pos c12] at hF
      refine z_aload_n (pc' := 40) dX5_read_39 rfl rfl rfl ?_
      refine gf_X5_22 (b := 1) (pc' := 43) rfl is_5_0 rfl dX5_read_40 rfl ?_
      refine z_iload_n (pc' := 44) dX5_read_43 rfl rfl rfl ?_
      refine z_iload_n (pc' := 45) dX5_read_44 rfl rfl rfl ?_
      obtain ⟨r9, S10, hc11, hF⟩ := z_bne hF
      refine k_X0_byteOf (F := 7) (L := 111) (pc' := 48) (is_5_f1 is_5_0) hc11 hst zw_85 rfl rfl (by decide) (by decide) (by decide) dX5_read_45 rfl ?_
      exact z_ireturn rfl dX5_read_48 (Option.some.inj hF).symm
    · rw [if_neg c12] at hF
      refine z_wk (ls' := [none, none, none]) (z_len1 (z_len1 (z_len1 z_le0))) ?_
      exact (ok_X5_read_29 hst) _ hF
theorem ok_X5_read : z_okV I_X5_read 2 := ⟨⟨z_Gin (List.mem_of_getElem? (i := 701) (by decide +kernel)) rfl, z_Gin (List.mem_of_getElem? (i := 702) (by decide +kernel)) rfl, z_Gin (List.mem_of_getElem? (i := 89) (by decide +kernel)) rfl, z_Gin (List.mem_of_getElem? (i := 703) (by decide +kernel)) rfl⟩, by decide, by decide, by decide +kernel⟩
theorem k_X5_read {l : Launch} {I : z_I} {R : Room} {B : Nat} {p1 : Int32} {p2 : Int32} {q : z_O × z_S} {pc pc' : Nat} {ls : List (Option Value)} {st : List Value} {S S1 : z_S} {idx F L : Nat} {r : Int32}  (hF : F_X5_read B p1 p2 S = some (.inl (some r), S1)) (hst : l.stackTraces = false) (w : Cond.methodLink I.1.cls idx yX5_read ∈ z_G) (hRF : R.frames = F) (hRL : R.locals = L) (h1 : 8 ≤ F) (h2 : 133 ≤ L) (hs : (st.map fun v => v.category).sum ≤ 8) (d : decode I.2.1 pc = .ok (.invokevirtual idx, 3)) (hp : pc + 3 = pc') (k : z_W l I R B q pc' ls (.int r :: st) S1) : z_W l I R B q pc ls (.int p2 :: .int p1 :: .ref 0 :: st) S := z_callV (Y := I_X5_read) (As := [.int p1, .int p2]) (st := st) (r := (some r)) (S1 := S1) (c_X5_read (q := (.inl (some r), S1)) hst hF) ok_X5_read w (ci := 5) rfl is_5_0.1 is_5_0.2 rfl ⟨by rw [hRF]; exact h1, by rw [hRL]; exact h2⟩ hs d hp rfl k
theorem kx_X5_read {l : Launch} {I : z_I} {R : Room} {B : Nat} {p1 : Int32} {p2 : Int32} {q : z_O × z_S} {pc : Nat} {ls : List (Option Value)} {st : List Value} {S S1 : z_S} {idx F L : Nat} {E : String}  (hF : F_X5_read B p1 p2 S = some (.inr E, S1)) (hq : q = (.inr E, S1)) (hst : l.stackTraces = false) (w : Cond.methodLink I.1.cls idx yX5_read ∈ z_G) (hRF : R.frames = F) (hRL : R.locals = L) (h1 : 8 ≤ F) (h2 : 133 ≤ L) (hRc : R.cells = z_mc q.1 ∧ R.slots = 6 * z_mc q.1) (hs : (st.map fun v => v.category).sum ≤ 8) (d : decode I.2.1 pc = .ok (.invokevirtual idx, 3)) : z_W l I R B q pc ls (.int p2 :: .int p1 :: .ref 0 :: st) S := z_callVX (Y := I_X5_read) (As := [.int p1, .int p2]) (st := st) (E := E) (S1 := S1) (c_X5_read (q := (.inr E, S1)) hst hF) hq ok_X5_read w (ci := 5) rfl is_5_0.1 is_5_0.2 rfl ⟨by rw [hRF]; exact h1, by rw [hRL]; exact h2⟩ hRc hs d rfl

abbrev I_X5_look : z_I := (yX5_look, cX5_look, 3, some .int)
abbrev R_X5_look (q : z_O × z_S) : Room := { frames := 7, locals := 111, cells := z_mc q.1, slots := 6 * z_mc q.1 }
def F_X5_look (B : Nat) (p1 : Int32) (p2 : Int32) (S : z_S) : Option (z_O × z_S) :=
  z_bv (F_X5_needPower B S) fun S2 =>
  (z_bv (F_X5_needDirectory B p1 S2) fun S5 =>
  (z_bn (F_X5_toldBy B p1 p2 S5) fun r7 S8 =>
  (some (.inl (some r7), S8))))
set_option maxRecDepth 20000 in
set_option maxHeartbeats 16000000 in
theorem c_X5_look {l : Launch} {B : Nat} {p1 : Int32} {p2 : Int32} {S : z_S} {q : z_O × z_S} (hst : l.stackTraces = false) (hF : F_X5_look B p1 p2 S = some q) : z_Met l I_X5_look 7 111 B [.ref 0, .int p1, .int p2] S q.1 q.2 := by
  refine z_enter (ls := [some (.ref 0), some (.int p1), some (.int p2)]) (n := 0) (by decide) rfl (Nat.le_of_ble_eq_true rfl) hst ?_
  unfold F_X5_look at hF
  refine z_aload_n (pc' := 1) dX5_look_0 rfl rfl rfl ?_
  rcases z_bve hF with ⟨S2, hc3, hF⟩ | ⟨E9, S9, hc3, hq9⟩
  rotate_left
  · exact kx_X5_needPower (F := 7) (L := 111) hc3 hq9 hst zw_57 rfl rfl (by decide) (by decide) ⟨rfl, rfl⟩ (by decide) dX5_look_1
  refine k_X5_needPower (F := 7) (L := 111) (pc' := 4) hc3 hst zw_57 rfl rfl (by decide) (by decide) (by decide) dX5_look_1 rfl ?_
  refine z_aload_n (pc' := 5) dX5_look_4 rfl rfl rfl ?_
  refine z_iload_n (pc' := 6) dX5_look_5 rfl rfl rfl ?_
  rcases z_bve hF with ⟨S5, hc6, hF⟩ | ⟨E9, S9, hc6, hq9⟩
  rotate_left
  · exact kx_X5_needDirectory (F := 7) (L := 111) hc6 hq9 hst zw_58 rfl rfl (by decide) (by decide) ⟨rfl, rfl⟩ (by decide) dX5_look_6
  refine k_X5_needDirectory (F := 7) (L := 111) (pc' := 9) hc6 hst zw_58 rfl rfl (by decide) (by decide) (by decide) dX5_look_6 rfl ?_
  refine z_aload_n (pc' := 10) dX5_look_9 rfl rfl rfl ?_
  refine z_iload_n (pc' := 11) dX5_look_10 rfl rfl rfl ?_
  refine z_iload_n (pc' := 12) dX5_look_11 rfl rfl rfl ?_
  obtain ⟨r7, S8, hc9, hF⟩ := z_bne hF
  refine k_X5_toldBy (F := 7) (L := 111) (pc' := 15) hc9 hst zw_52 rfl rfl (by decide) (by decide) (by decide) dX5_look_12 rfl ?_
  exact z_ireturn rfl dX5_look_15 (Option.some.inj hF).symm
theorem ok_X5_look : z_okV I_X5_look 2 := ⟨⟨z_Gin (List.mem_of_getElem? (i := 712) (by decide +kernel)) rfl, z_Gin (List.mem_of_getElem? (i := 713) (by decide +kernel)) rfl, z_Gin (List.mem_of_getElem? (i := 89) (by decide +kernel)) rfl, z_Gin (List.mem_of_getElem? (i := 714) (by decide +kernel)) rfl⟩, by decide, by decide, by decide +kernel⟩
theorem k_X5_look {l : Launch} {I : z_I} {R : Room} {B : Nat} {p1 : Int32} {p2 : Int32} {q : z_O × z_S} {pc pc' : Nat} {ls : List (Option Value)} {st : List Value} {S S1 : z_S} {idx F L : Nat} {r : Int32}  (hF : F_X5_look B p1 p2 S = some (.inl (some r), S1)) (hst : l.stackTraces = false) (w : Cond.methodLink I.1.cls idx yX5_look ∈ z_G) (hRF : R.frames = F) (hRL : R.locals = L) (h1 : 8 ≤ F) (h2 : 133 ≤ L) (hs : (st.map fun v => v.category).sum ≤ 8) (d : decode I.2.1 pc = .ok (.invokevirtual idx, 3)) (hp : pc + 3 = pc') (k : z_W l I R B q pc' ls (.int r :: st) S1) : z_W l I R B q pc ls (.int p2 :: .int p1 :: .ref 0 :: st) S := z_callV (Y := I_X5_look) (As := [.int p1, .int p2]) (st := st) (r := (some r)) (S1 := S1) (c_X5_look (q := (.inl (some r), S1)) hst hF) ok_X5_look w (ci := 5) rfl is_5_0.1 is_5_0.2 rfl ⟨by rw [hRF]; exact h1, by rw [hRL]; exact h2⟩ hs d hp rfl k
theorem kx_X5_look {l : Launch} {I : z_I} {R : Room} {B : Nat} {p1 : Int32} {p2 : Int32} {q : z_O × z_S} {pc : Nat} {ls : List (Option Value)} {st : List Value} {S S1 : z_S} {idx F L : Nat} {E : String}  (hF : F_X5_look B p1 p2 S = some (.inr E, S1)) (hq : q = (.inr E, S1)) (hst : l.stackTraces = false) (w : Cond.methodLink I.1.cls idx yX5_look ∈ z_G) (hRF : R.frames = F) (hRL : R.locals = L) (h1 : 8 ≤ F) (h2 : 133 ≤ L) (hRc : R.cells = z_mc q.1 ∧ R.slots = 6 * z_mc q.1) (hs : (st.map fun v => v.category).sum ≤ 8) (d : decode I.2.1 pc = .ok (.invokevirtual idx, 3)) : z_W l I R B q pc ls (.int p2 :: .int p1 :: .ref 0 :: st) S := z_callVX (Y := I_X5_look) (As := [.int p1, .int p2]) (st := st) (E := E) (S1 := S1) (c_X5_look (q := (.inr E, S1)) hst hF) hq ok_X5_look w (ci := 5) rfl is_5_0.1 is_5_0.2 rfl ⟨by rw [hRF]; exact h1, by rw [hRL]; exact h2⟩ hRc hs d rfl

abbrev I_X5_nameOf : z_I := (yX5_nameOf, cX5_nameOf, 1, some .int)
abbrev R_X5_nameOf (q : z_O × z_S) : Room := { frames := 0, locals := 0, cells := z_mc q.1, slots := 6 * z_mc q.1 }
def F_X5_nameOf (B : Nat) (p0 : Int32) (S : z_S) : Option (z_O × z_S) :=
  some (.inl (some (p0 - p0 / 1000 * 1000)), S)
set_option maxRecDepth 20000 in
set_option maxHeartbeats 16000000 in
theorem c_X5_nameOf {l : Launch} {B : Nat} {p0 : Int32} {S : z_S} {q : z_O × z_S} (hst : l.stackTraces = false) (hF : F_X5_nameOf B p0 S = some q) : z_Met l I_X5_nameOf 0 0 B [.int p0] S q.1 q.2 := by
  refine z_enter (ls := [some (.int p0)]) (n := 0) (by decide) rfl (Nat.le_of_ble_eq_true rfl) hst ?_
  unfold F_X5_nameOf at hF
  refine z_iload_n (pc' := 1) dX5_nameOf_0 rfl rfl rfl ?_
  refine z_sipush (v := 1000) (pc' := 4) dX5_nameOf_1 (by decide) rfl ?_
  refine z_irem (pc' := 5) dX5_nameOf_4 (by decide) rfl ?_
  exact z_ireturn rfl dX5_nameOf_5 (Option.some.inj hF).symm
theorem ok_X5_nameOf : z_okS I_X5_nameOf 1 := ⟨⟨z_Gin (List.mem_of_getElem? (i := 732) (by decide +kernel)) rfl, z_Gin (List.mem_of_getElem? (i := 89) (by decide +kernel)) rfl, z_Gin (List.mem_of_getElem? (i := 733) (by decide +kernel)) rfl⟩, by decide, by decide, by decide +kernel⟩
theorem k_X5_nameOf {l : Launch} {I : z_I} {R : Room} {B : Nat} {p0 : Int32} {q : z_O × z_S} {pc pc' : Nat} {ls : List (Option Value)} {st : List Value} {S S1 : z_S} {idx F L : Nat} {r : Int32}  (hF : F_X5_nameOf B p0 S = some (.inl (some r), S1)) (hst : l.stackTraces = false) (w : Cond.methodLink I.1.cls idx yX5_nameOf ∈ z_G) (hRF : R.frames = F) (hRL : R.locals = L) (h1 : 1 ≤ F) (h2 : 20 ≤ L) (hs : (st.map fun v => v.category).sum ≤ 8) (d : decode I.2.1 pc = .ok (.invokestatic idx, 3)) (hp : pc + 3 = pc') (k : z_W l I R B q pc' ls (.int r :: st) S1) : z_W l I R B q pc ls (.int p0 :: st) S := z_callS (Y := I_X5_nameOf) (As := [.int p0]) (st := st) (r := (some r)) (S1 := S1) (c_X5_nameOf (q := (.inl (some r), S1)) hst hF) ok_X5_nameOf w rfl ⟨by rw [hRF]; exact h1, by rw [hRL]; exact h2⟩ hs d hp rfl k
theorem kn_X5_nameOf {l : Launch} {I : z_I} {R : Room} {B : Nat} {p0 : Int32} {q : z_O × z_S} {pc pc' : Nat} {ls : List (Option Value)} {st : List Value} {S S1 : z_S} {idx F L : Nat} {r : Int32}  (hF : F_X5_nameOf B p0 S = some (.inl (some r), S1)) (hst : l.stackTraces = false) (w : (I.1.cls, idx, yX5_nameOf, "PackedTree") ∈ z_nest) (hRF : R.frames = F) (hRL : R.locals = L) (h1 : 1 ≤ F) (h2 : 20 ≤ L) (hs : (st.map fun v => v.category).sum ≤ 8) (d : decode I.2.1 pc = .ok (.invokestatic idx, 3)) (hp : pc + 3 = pc') (k : z_W l I R B q pc' ls (.int r :: st) S1) : z_W l I R B q pc ls (.int p0 :: st) S := z_callN (Y := I_X5_nameOf) (As := [.int p0]) (st := st) (r := (some r)) (S1 := S1) (host := "PackedTree") (c_X5_nameOf (q := (.inl (some r), S1)) hst hF) ok_X5_nameOf w rfl ⟨by rw [hRF]; exact h1, by rw [hRL]; exact h2⟩ hs d hp rfl k

abbrev I_X5_name : z_I := (yX5_name, cX5_name, 5, some .int)
abbrev R_X5_name (q : z_O × z_S) : Room := { frames := 7, locals := 111, cells := z_mc q.1, slots := 6 * z_mc q.1 }
def F_X5_name_62 (B : Nat)  (s0 : Int32) (S : z_S) : Option (z_O × z_S) :=
  if s0 = (-1) then
    some (.inr "java/lang/IndexOutOfBoundsException", S)
  else
    z_gd (z_inb s0 (14 * B)) (
    z_lt (S.1 11 (z_ix (s0))) fun x2 =>
    (z_bn (F_X5_nameOf B x2 S) fun r3 S4 =>
    (some (.inl (some r3), S4))))
set_option maxRecDepth 20000 in
set_option maxHeartbeats 16000000 in
theorem ok_X5_name_62 {l : Launch} {B : Nat} {q : z_O × z_S} (hst : l.stackTraces = false) : ∀ (s0 : Int32) (S : z_S), F_X5_name_62 B s0 S = some q → z_W l I_X5_name (R_X5_name q) B q 62 [some (.ref 0), none, none, none, none] [.int s0] S := by
  intro s0 S hF
  unfold F_X5_name_62 at hF
  refine z_istore (pc' := 64) dX5_name_62 (by decide) rfl rfl ?_
  refine z_iload (pc' := 66) dX5_name_64 rfl rfl ?_
  refine z_iconst (v := (-1)) (pc' := 67) dX5_name_66 (by decide) rfl ?_
  refine z_icmp_ne (tgt := 80) (pc' := 70) dX5_name_67 (by decide) rfl (fun c6 => ?_) (fun c6 => ?_)
  · rw [if_neg c6] at hF
    refine z_aload_n (pc' := 81) dX5_name_80 rfl rfl rfl ?_
    refine gf_X5_22 (b := 1) (pc' := 84) rfl is_5_0 rfl dX5_name_81 rfl ?_
    refine gf_X5_92 (b := 2) (pc' := 87) rfl (is_5_f1 is_5_0) rfl dX5_name_84 rfl ?_
    refine gf_X5_180 (b := 11) (pc' := 90) rfl (is_0_f0 (is_5_f1 is_5_0)) rfl dX5_name_87 rfl ?_
    refine z_iload (pc' := 92) dX5_name_90 rfl rfl ?_
    obtain ⟨g1, hF⟩ := z_gde hF
    refine z_iaload (pc' := 93) (ar_4_f9 (is_0_f0 (is_5_f1 is_5_0))) (z_inbe g1) dX5_name_92 rfl ?_
    refine z_topi (fun x2 ex2 => ?_)
    replace hF := z_lte hF x2 ex2
    obtain ⟨r3, S4, hc5, hF⟩ := z_bne hF
    refine k_X5_nameOf (F := 7) (L := 111) (pc' := 96) hc5 hst zw_87 rfl rfl (by decide) (by decide) (by decide) dX5_name_93 rfl ?_
    exact z_ireturn rfl dX5_name_96 (Option.some.inj hF).symm
  · rw [if_pos c6] at hF
    exact z_throwS (text := "not so many names") (names := ["java/lang/RuntimeException", "java/lang/Exception"]) rfl (Option.some.inj hF).symm (by decide +kernel) (by decide +kernel) (by decide +kernel) zw_46 zw_47 z_at_168 dX5_name_70 dX5_name_73 dX5_name_74 dX5_name_76 dX5_name_79 ⟨by show (_ : Nat) ≤ 7; decide, by show (_ : Nat) ≤ 111; decide⟩ ⟨rfl, rfl⟩
def F_X5_name_34 (B : Nat)  (v1 : Int32) (v2 : Int32) (s0 : Int32) (S : z_S) : Option (z_O × z_S) :=
  if s0 = 0 then
    F_X5_name_62 B (-1) S
  else
    z_bn (F_X5_keyOf B v1 0 0 S) fun r1 S2 =>
    (z_bn (F_X4_slotBehind B 2 r1 (v2 + 1) S2) fun r4 S5 =>
    (F_X5_name_62 B r4 S5))
set_option maxRecDepth 20000 in
set_option maxHeartbeats 16000000 in
theorem ok_X5_name_34 {l : Launch} {B : Nat} {q : z_O × z_S} (hst : l.stackTraces = false) : ∀ (v1 : Int32) (v2 : Int32) (s0 : Int32) (S : z_S), F_X5_name_34 B v1 v2 s0 S = some q → z_W l I_X5_name (R_X5_name q) B q 34 [some (.ref 0), some (.int v1), some (.int v2), none, none] [.int s0] S := by
  intro v1 v2 s0 S hF
  unfold F_X5_name_34 at hF
  refine z_istore_n (pc' := 35) dX5_name_34 rfl (by decide) rfl rfl ?_
  refine z_iload_n (pc' := 36) dX5_name_35 rfl rfl rfl ?_
  refine z_if_eq (tgt := 61) (pc' := 39) dX5_name_36 (by decide) rfl (fun c7 => ?_) (fun c7 => ?_)
  · rw [if_pos c7] at hF
    refine z_iconst (v := (-1)) (pc' := 62) dX5_name_61 (by decide) rfl ?_
    refine z_wk (ls' := [some (.ref 0), none, none, none, none]) (z_lec rfl (z_len1 (z_len1 (z_len1 (z_len1 z_le0))))) ?_
    exact (ok_X5_name_62 hst) _ _ hF
  · rw [if_neg c7] at hF
    refine z_aload_n (pc' := 40) dX5_name_39 rfl rfl rfl ?_
    refine gf_X5_22 (b := 1) (pc' := 43) rfl is_5_0 rfl dX5_name_40 rfl ?_
    refine gf_X5_92 (b := 2) (pc' := 46) rfl (is_5_f1 is_5_0) rfl dX5_name_43 rfl ?_
    refine z_iload_n (pc' := 47) dX5_name_46 rfl rfl rfl ?_
    refine z_iconst (v := 0) (pc' := 48) dX5_name_47 (by decide) rfl ?_
    refine z_iconst (v := 0) (pc' := 49) dX5_name_48 (by decide) rfl ?_
    obtain ⟨r1, S2, hc3, hF⟩ := z_bne hF
    refine k_X5_keyOf (F := 7) (L := 111) (pc' := 52) hc3 hst zw_50 rfl rfl (by decide) (by decide) (Nat.le_of_ble_eq_true rfl) dX5_name_49 rfl ?_
    refine z_iload_n (pc' := 53) dX5_name_52 rfl rfl rfl ?_
    refine z_iconst (v := 1) (pc' := 54) dX5_name_53 (by decide) rfl ?_
    refine z_iadd (pc' := 55) dX5_name_54 rfl ?_
    obtain ⟨r4, S5, hc6, hF⟩ := z_bne hF
    refine k_X4_slotBehind (F := 7) (L := 111) (pc' := 58) (is_0_f0 (is_5_f1 is_5_0)) hc6 hst zw_86 rfl rfl (by decide) (by decide) (by decide) dX5_name_55 rfl ?_
    refine z_goto (pc' := 62) dX5_name_58 (by decide) ?_
    refine z_wk (ls' := [some (.ref 0), none, none, none, none]) (z_lec rfl (z_len1 (z_len1 (z_len1 (z_len1 z_le0))))) ?_
    exact (ok_X5_name_62 hst) _ _ hF
def F_X5_name_33 (B : Nat) (k34 : Int32 → Int32 → Int32 → z_S → Option (z_O × z_S)) (v1 : Int32) (v2 : Int32) (S : z_S) : Option (z_O × z_S) :=
  k34 v1 v2 0 S
set_option maxRecDepth 20000 in
set_option maxHeartbeats 16000000 in
theorem ok_X5_name_33 {l : Launch} {B : Nat} {q : z_O × z_S} (hst : l.stackTraces = false) {k34 : Int32 → Int32 → Int32 → z_S → Option (z_O × z_S)} (hk34 : ∀ (v1 : Int32) (v2 : Int32) (s0 : Int32) (S : z_S), k34 v1 v2 s0 S = some q → z_W l I_X5_name (R_X5_name q) B q 34 [some (.ref 0), some (.int v1), some (.int v2), none, none] [.int s0] S) : ∀ (v1 : Int32) (v2 : Int32) (S : z_S), F_X5_name_33 B k34 v1 v2 S = some q → z_W l I_X5_name (R_X5_name q) B q 33 [some (.ref 0), some (.int v1), some (.int v2), none, none] [] S := by
  intro v1 v2 S hF
  unfold F_X5_name_33 at hF
  refine z_iconst (v := 0) (pc' := 34) dX5_name_33 (by decide) rfl ?_
  refine z_wk (ls' := [some (.ref 0), some (.int v1), some (.int v2), none, none]) (z_lec rfl (z_lec rfl (z_lec rfl (z_len1 (z_len1 z_le0))))) ?_
  exact hk34 _ _ _ _ hF
def F_X5_name (B : Nat) (p1 : Int32) (p2 : Int32) (S : z_S) : Option (z_O × z_S) :=
  z_bv (F_X5_needPower B S) fun S2 =>
  (z_bv (F_X5_needDirectory B p1 S2) fun S5 =>
  (if p2 < 0 then
    F_X5_name_33 B (F_X5_name_34 B ) p1 p2 S5
  else
    z_gd (z_inb p1 61) (
    z_lt (S5.1 17 (z_ix (p1))) fun x8 =>
    (if x8 ≤ p2 then
      F_X5_name_33 B (F_X5_name_34 B ) p1 p2 S5
    else
      F_X5_name_34 B p1 p2 1 S5))))
set_option maxRecDepth 20000 in
set_option maxHeartbeats 16000000 in
theorem c_X5_name {l : Launch} {B : Nat} {p1 : Int32} {p2 : Int32} {S : z_S} {q : z_O × z_S} (hst : l.stackTraces = false) (hF : F_X5_name B p1 p2 S = some q) : z_Met l I_X5_name 7 111 B [.ref 0, .int p1, .int p2] S q.1 q.2 := by
  refine z_enter (ls := [some (.ref 0), some (.int p1), some (.int p2), none, none]) (n := 2) (by decide) rfl (Nat.le_of_ble_eq_true rfl) hst ?_
  unfold F_X5_name at hF
  refine z_aload_n (pc' := 1) dX5_name_0 rfl rfl rfl ?_
  rcases z_bve hF with ⟨S2, hc3, hF⟩ | ⟨E9, S9, hc3, hq9⟩
  rotate_left
  · exact kx_X5_needPower (F := 7) (L := 111) hc3 hq9 hst zw_57 rfl rfl (by decide) (by decide) ⟨rfl, rfl⟩ (by decide) dX5_name_1
  refine k_X5_needPower (F := 7) (L := 111) (pc' := 4) hc3 hst zw_57 rfl rfl (by decide) (by decide) (by decide) dX5_name_1 rfl ?_
  refine z_aload_n (pc' := 5) dX5_name_4 rfl rfl rfl ?_
  refine z_iload_n (pc' := 6) dX5_name_5 rfl rfl rfl ?_
  rcases z_bve hF with ⟨S5, hc6, hF⟩ | ⟨E9, S9, hc6, hq9⟩
  rotate_left
  · exact kx_X5_needDirectory (F := 7) (L := 111) hc6 hq9 hst zw_58 rfl rfl (by decide) (by decide) ⟨rfl, rfl⟩ (by decide) dX5_name_6
  refine k_X5_needDirectory (F := 7) (L := 111) (pc' := 9) hc6 hst zw_58 rfl rfl (by decide) (by decide) (by decide) dX5_name_6 rfl ?_
  refine z_iload_n (pc' := 10) dX5_name_9 rfl rfl rfl ?_
  refine z_if_lt (tgt := 33) (pc' := 13) dX5_name_10 (by decide) rfl (fun c10 => ?_) (fun c10 => ?_)
  · rw [if_pos c10] at hF
    refine z_wk (ls' := [some (.ref 0), some (.int p1), some (.int p2), none, none]) (z_lec rfl (z_lec rfl (z_lec rfl (z_len1 (z_len1 z_le0))))) ?_
    exact (ok_X5_name_33 hst (ok_X5_name_34 hst)) _ _ _ hF
  · rw [if_neg c10] at hF
    refine z_iload_n (pc' := 14) dX5_name_13 rfl rfl rfl ?_
    refine z_aload_n (pc' := 15) dX5_name_14 rfl rfl rfl ?_
    refine gf_X5_22 (b := 1) (pc' := 18) rfl is_5_0 rfl dX5_name_15 rfl ?_
    refine gf_X5_72 (b := 14) (pc' := 21) rfl (is_5_f1 is_5_0) rfl dX5_name_18 rfl ?_
    refine gf_X5_110 (b := 17) (pc' := 24) rfl (is_0_f1 (is_5_f1 is_5_0)) rfl dX5_name_21 rfl ?_
    refine z_iload_n (pc' := 25) dX5_name_24 rfl rfl rfl ?_
    obtain ⟨g7, hF⟩ := z_gde hF
    refine z_iaload (pc' := 26) (ar_2_f2 (is_0_f1 (is_5_f1 is_5_0))) (z_inbe g7) dX5_name_25 rfl ?_
    refine z_topi (fun x8 ex8 => ?_)
    replace hF := z_lte hF x8 ex8
    refine z_icmp_ge (tgt := 33) (pc' := 29) dX5_name_26 (by decide) rfl (fun c9 => ?_) (fun c9 => ?_)
    · rw [if_pos c9] at hF
      refine z_wk (ls' := [some (.ref 0), some (.int p1), some (.int p2), none, none]) (z_lec rfl (z_lec rfl (z_lec rfl (z_len1 (z_len1 z_le0))))) ?_
      exact (ok_X5_name_33 hst (ok_X5_name_34 hst)) _ _ _ hF
    · rw [if_neg c9] at hF
      refine z_iconst (v := 1) (pc' := 30) dX5_name_29 (by decide) rfl ?_
      refine z_goto (pc' := 34) dX5_name_30 (by decide) ?_
      refine z_wk (ls' := [some (.ref 0), some (.int p1), some (.int p2), none, none]) (z_lec rfl (z_lec rfl (z_lec rfl (z_len1 (z_len1 z_le0))))) ?_
      exact (ok_X5_name_34 hst) _ _ _ _ hF
theorem ok_X5_name : z_okV I_X5_name 2 := ⟨⟨z_Gin (List.mem_of_getElem? (i := 719) (by decide +kernel)) rfl, z_Gin (List.mem_of_getElem? (i := 720) (by decide +kernel)) rfl, z_Gin (List.mem_of_getElem? (i := 89) (by decide +kernel)) rfl, z_Gin (List.mem_of_getElem? (i := 721) (by decide +kernel)) rfl⟩, by decide, by decide, by decide +kernel⟩
theorem k_X5_name {l : Launch} {I : z_I} {R : Room} {B : Nat} {p1 : Int32} {p2 : Int32} {q : z_O × z_S} {pc pc' : Nat} {ls : List (Option Value)} {st : List Value} {S S1 : z_S} {idx F L : Nat} {r : Int32}  (hF : F_X5_name B p1 p2 S = some (.inl (some r), S1)) (hst : l.stackTraces = false) (w : Cond.methodLink I.1.cls idx yX5_name ∈ z_G) (hRF : R.frames = F) (hRL : R.locals = L) (h1 : 8 ≤ F) (h2 : 135 ≤ L) (hs : (st.map fun v => v.category).sum ≤ 8) (d : decode I.2.1 pc = .ok (.invokevirtual idx, 3)) (hp : pc + 3 = pc') (k : z_W l I R B q pc' ls (.int r :: st) S1) : z_W l I R B q pc ls (.int p2 :: .int p1 :: .ref 0 :: st) S := z_callV (Y := I_X5_name) (As := [.int p1, .int p2]) (st := st) (r := (some r)) (S1 := S1) (c_X5_name (q := (.inl (some r), S1)) hst hF) ok_X5_name w (ci := 5) rfl is_5_0.1 is_5_0.2 rfl ⟨by rw [hRF]; exact h1, by rw [hRL]; exact h2⟩ hs d hp rfl k
theorem kx_X5_name {l : Launch} {I : z_I} {R : Room} {B : Nat} {p1 : Int32} {p2 : Int32} {q : z_O × z_S} {pc : Nat} {ls : List (Option Value)} {st : List Value} {S S1 : z_S} {idx F L : Nat} {E : String}  (hF : F_X5_name B p1 p2 S = some (.inr E, S1)) (hq : q = (.inr E, S1)) (hst : l.stackTraces = false) (w : Cond.methodLink I.1.cls idx yX5_name ∈ z_G) (hRF : R.frames = F) (hRL : R.locals = L) (h1 : 8 ≤ F) (h2 : 135 ≤ L) (hRc : R.cells = z_mc q.1 ∧ R.slots = 6 * z_mc q.1) (hs : (st.map fun v => v.category).sum ≤ 8) (d : decode I.2.1 pc = .ok (.invokevirtual idx, 3)) : z_W l I R B q pc ls (.int p2 :: .int p1 :: .ref 0 :: st) S := z_callVX (Y := I_X5_name) (As := [.int p1, .int p2]) (st := st) (E := E) (S1 := S1) (c_X5_name (q := (.inr E, S1)) hst hF) hq ok_X5_name w (ci := 5) rfl is_5_0.1 is_5_0.2 rfl ⟨by rw [hRF]; exact h1, by rw [hRL]; exact h2⟩ hRc hs d rfl

abbrev I_X5_about : z_I := (yX5_about, cX5_about, 4, some .int)
abbrev R_X5_about (q : z_O × z_S) : Room := { frames := 7, locals := 110, cells := z_mc q.1, slots := 6 * z_mc q.1 }
def F_X5_about (B : Nat) (p1 : Int32) (p2 : Int32) (S : z_S) : Option (z_O × z_S) :=
  z_bv (F_X5_needPower B S) fun S2 =>
  (z_bn (F_X2_isThere B 14 p1 S2) fun r4 S5 =>
  (if r4 = 0 then
    some (.inr "java/lang/IndexOutOfBoundsException", S5)
  else
    if 0 ≤ p2 then
      if p2 = 0 then
        z_gd (z_inb p1 61) (
        z_lt (S5.1 15 (z_ix (p1))) fun x8 =>
        (some (.inl (some x8), S5)))
      else if p2 = 1 then
        z_gd (z_inb p1 61) (
        z_lt (S5.1 16 (z_ix (p1))) fun x10 =>
        (some (.inl (some x10), S5)))
      else if p2 = 2 then
        z_gd (z_inb p1 61) (
        z_lt (S5.1 17 (z_ix (p1))) fun x12 =>
        (some (.inl (some x12), S5)))
      else if p2 = 3 then
        z_bn (F_X2_dataOf B 14 p1 S5) fun r13 S14 =>
        (some (.inl (some r13), S14))
      else if p2 = 4 then
        z_bn (F_X2_tailOf B 14 p1 S5) fun r16 S17 =>
        (some (.inl (some r16), S17))
      else 
        z_bn (F_X2_dataOf B 14 p1 S5) fun r19 S20 =>
        (if (p2 - 5) < r19 then
          z_gd (z_inb (((p1 * 16) + p2) - 5) 976) (
          z_lt (S20.1 19 (z_ix (((p1 * 16) + p2) - 5))) fun x23 =>
          (some (.inl (some x23), S20)))
        else
          some (.inr "java/lang/IndexOutOfBoundsException", S20))
    else
      some (.inr "java/lang/IllegalArgumentException", S5)))
set_option maxRecDepth 20000 in
set_option maxHeartbeats 16000000 in
theorem c_X5_about {l : Launch} {B : Nat} {p1 : Int32} {p2 : Int32} {S : z_S} {q : z_O × z_S} (hst : l.stackTraces = false) (hF : F_X5_about B p1 p2 S = some q) : z_Met l I_X5_about 7 110 B [.ref 0, .int p1, .int p2] S q.1 q.2 := by
  refine z_enter (ls := [some (.ref 0), some (.int p1), some (.int p2), none]) (n := 1) (by decide) rfl (Nat.le_of_ble_eq_true rfl) hst ?_
  unfold F_X5_about at hF
  refine z_aload_n (pc' := 1) dX5_about_0 rfl rfl rfl ?_
  rcases z_bve hF with ⟨S2, hc3, hF⟩ | ⟨E9, S9, hc3, hq9⟩
  rotate_left
  · exact kx_X5_needPower (F := 7) (L := 110) hc3 hq9 hst zw_57 rfl rfl (by decide) (by decide) ⟨rfl, rfl⟩ (by decide) dX5_about_1
  refine k_X5_needPower (F := 7) (L := 110) (pc' := 4) hc3 hst zw_57 rfl rfl (by decide) (by decide) (by decide) dX5_about_1 rfl ?_
  refine z_aload_n (pc' := 5) dX5_about_4 rfl rfl rfl ?_
  refine gf_X5_22 (b := 1) (pc' := 8) rfl is_5_0 rfl dX5_about_5 rfl ?_
  refine gf_X5_72 (b := 14) (pc' := 11) rfl (is_5_f1 is_5_0) rfl dX5_about_8 rfl ?_
  refine z_iload_n (pc' := 12) dX5_about_11 rfl rfl rfl ?_
  obtain ⟨r4, S5, hc6, hF⟩ := z_bne hF
  refine k_X2_isThere (F := 7) (L := 110) (pc' := 15) (is_0_f1 (is_5_f1 is_5_0)) hc6 hst zw_45 rfl rfl (by decide) (by decide) (by decide) dX5_about_12 rfl ?_
  refine z_if_ne (tgt := 28) (pc' := 18) dX5_about_15 (by decide) rfl (fun c31 => ?_) (fun c31 => ?_)
  · rw [if_neg c31] at hF
    refine z_iload_n (pc' := 29) dX5_about_28 rfl rfl rfl ?_
    refine z_if_ge (tgt := 42) (pc' := 32) dX5_about_29 (by decide) rfl (fun c30 => ?_) (fun c30 => ?_)
    · rw [if_pos c30] at hF
      refine z_aload_n (pc' := 43) dX5_about_42 rfl rfl rfl ?_
      refine gf_X5_22 (b := 1) (pc' := 46) rfl is_5_0 rfl dX5_about_43 rfl ?_
      refine gf_X5_72 (b := 14) (pc' := 49) rfl (is_5_f1 is_5_0) rfl dX5_about_46 rfl ?_
      refine z_astore_n (pc' := 50) dX5_about_49 rfl (by decide) rfl rfl ?_
      refine z_iload_n (pc' := 51) dX5_about_50 rfl rfl rfl ?_
      by_cases c25 : p2 = 0
      · rw [if_pos c25] at hF
        refine z_tswIn (tgt := 84) dX5_about_51 (by rw [c25]; decide) (by rw [c25]; decide) (by rw [c25]; rfl) (by decide) ?_
        refine z_aload_n (pc' := 85) dX5_about_84 rfl rfl rfl ?_
        refine gf_X5_124 (b := 15) (pc' := 88) rfl (is_0_f1 (is_5_f1 is_5_0)) rfl dX5_about_85 rfl ?_
        refine z_iload_n (pc' := 89) dX5_about_88 rfl rfl rfl ?_
        obtain ⟨g7, hF⟩ := z_gde hF
        refine z_iaload (pc' := 90) (ar_2_f0 (is_0_f1 (is_5_f1 is_5_0))) (z_inbe g7) dX5_about_89 rfl ?_
        refine z_topi (fun x8 ex8 => ?_)
        replace hF := z_lte hF x8 ex8
        exact z_ireturn rfl dX5_about_90 (Option.some.inj hF).symm
      rw [if_neg c25] at hF
      by_cases c26 : p2 = 1
      · rw [if_pos c26] at hF
        refine z_tswIn (tgt := 91) dX5_about_51 (by rw [c26]; decide) (by rw [c26]; decide) (by rw [c26]; rfl) (by decide) ?_
        refine z_aload_n (pc' := 92) dX5_about_91 rfl rfl rfl ?_
        refine gf_X5_117 (b := 16) (pc' := 95) rfl (is_0_f1 (is_5_f1 is_5_0)) rfl dX5_about_92 rfl ?_
        refine z_iload_n (pc' := 96) dX5_about_95 rfl rfl rfl ?_
        obtain ⟨g9, hF⟩ := z_gde hF
        refine z_iaload (pc' := 97) (ar_2_f1 (is_0_f1 (is_5_f1 is_5_0))) (z_inbe g9) dX5_about_96 rfl ?_
        refine z_topi (fun x10 ex10 => ?_)
        replace hF := z_lte hF x10 ex10
        exact z_ireturn rfl dX5_about_97 (Option.some.inj hF).symm
      rw [if_neg c26] at hF
      by_cases c27 : p2 = 2
      · rw [if_pos c27] at hF
        refine z_tswIn (tgt := 98) dX5_about_51 (by rw [c27]; decide) (by rw [c27]; decide) (by rw [c27]; rfl) (by decide) ?_
        refine z_aload_n (pc' := 99) dX5_about_98 rfl rfl rfl ?_
        refine gf_X5_110 (b := 17) (pc' := 102) rfl (is_0_f1 (is_5_f1 is_5_0)) rfl dX5_about_99 rfl ?_
        refine z_iload_n (pc' := 103) dX5_about_102 rfl rfl rfl ?_
        obtain ⟨g11, hF⟩ := z_gde hF
        refine z_iaload (pc' := 104) (ar_2_f2 (is_0_f1 (is_5_f1 is_5_0))) (z_inbe g11) dX5_about_103 rfl ?_
        refine z_topi (fun x12 ex12 => ?_)
        replace hF := z_lte hF x12 ex12
        exact z_ireturn rfl dX5_about_104 (Option.some.inj hF).symm
      rw [if_neg c27] at hF
      by_cases c28 : p2 = 3
      · rw [if_pos c28] at hF
        refine z_tswIn (tgt := 105) dX5_about_51 (by rw [c28]; decide) (by rw [c28]; decide) (by rw [c28]; rfl) (by decide) ?_
        refine z_aload_n (pc' := 106) dX5_about_105 rfl rfl rfl ?_
        refine z_iload_n (pc' := 107) dX5_about_106 rfl rfl rfl ?_
        obtain ⟨r13, S14, hc15, hF⟩ := z_bne hF
        refine k_X2_dataOf (F := 7) (L := 110) (pc' := 110) (is_0_f1 (is_5_f1 is_5_0)) hc15 hst zw_68 rfl rfl (by decide) (by decide) (by decide) dX5_about_107 rfl ?_
        exact z_ireturn rfl dX5_about_110 (Option.some.inj hF).symm
      rw [if_neg c28] at hF
      by_cases c29 : p2 = 4
      · rw [if_pos c29] at hF
        refine z_tswIn (tgt := 111) dX5_about_51 (by rw [c29]; decide) (by rw [c29]; decide) (by rw [c29]; rfl) (by decide) ?_
        refine z_aload_n (pc' := 112) dX5_about_111 rfl rfl rfl ?_
        refine z_iload_n (pc' := 113) dX5_about_112 rfl rfl rfl ?_
        obtain ⟨r16, S17, hc18, hF⟩ := z_bne hF
        refine k_X2_tailOf (F := 7) (L := 110) (pc' := 116) (is_0_f1 (is_5_f1 is_5_0)) hc18 hst zw_70 rfl rfl (by decide) (by decide) (by decide) dX5_about_113 rfl ?_
        exact z_ireturn rfl dX5_about_116 (Option.some.inj hF).symm
      rw [if_neg c29] at hF
      refine z_tswOut (tgt := 117) dX5_about_51 (z_out0_4 c25 c26 c27 c28 c29) (by decide) ?_
      refine z_iload_n (pc' := 118) dX5_about_117 rfl rfl rfl ?_
      refine z_iconst (v := 5) (pc' := 119) dX5_about_118 (by decide) rfl ?_
      refine z_isub (pc' := 120) dX5_about_119 rfl ?_
      refine z_aload_n (pc' := 121) dX5_about_120 rfl rfl rfl ?_
      refine z_iload_n (pc' := 122) dX5_about_121 rfl rfl rfl ?_
      obtain ⟨r19, S20, hc21, hF⟩ := z_bne hF
      refine k_X2_dataOf (F := 7) (L := 110) (pc' := 125) (is_0_f1 (is_5_f1 is_5_0)) hc21 hst zw_68 rfl rfl (by decide) (by decide) (Nat.le_of_ble_eq_true rfl) dX5_about_122 rfl ?_
      refine z_icmp_lt (tgt := 138) (pc' := 128) dX5_about_125 (by decide) rfl (fun c24 => ?_) (fun c24 => ?_)
      · rw [if_pos c24] at hF
        refine z_aload_n (pc' := 139) dX5_about_138 rfl rfl rfl ?_
        refine gf_X5_202 (b := 19) (pc' := 142) rfl (is_0_f1 (is_5_f1 is_5_0)) rfl dX5_about_139 rfl ?_
        refine z_iload_n (pc' := 143) dX5_about_142 rfl rfl rfl ?_
        refine z_bipush (v := 16) (pc' := 145) dX5_about_143 (by decide) rfl ?_
        refine z_imul (pc' := 146) dX5_about_145 rfl ?_
        refine z_iload_n (pc' := 147) dX5_about_146 rfl rfl rfl ?_
        refine z_iadd (pc' := 148) dX5_about_147 rfl ?_
        refine z_iconst (v := 5) (pc' := 149) dX5_about_148 (by decide) rfl ?_
        refine z_isub (pc' := 150) dX5_about_149 rfl ?_
        obtain ⟨g22, hF⟩ := z_gde hF
        refine z_iaload (pc' := 151) (ar_2_f4 (is_0_f1 (is_5_f1 is_5_0))) (z_inbe g22) dX5_about_150 rfl ?_
        refine z_topi (fun x23 ex23 => ?_)
        replace hF := z_lte hF x23 ex23
        exact z_ireturn rfl dX5_about_151 (Option.some.inj hF).symm
      · rw [if_neg c24] at hF
        exact z_throwS (text := "no such data block") (names := ["java/lang/RuntimeException", "java/lang/Exception"]) rfl (Option.some.inj hF).symm (by decide +kernel) (by decide +kernel) (by decide +kernel) zw_46 zw_47 z_at_168 dX5_about_128 dX5_about_131 dX5_about_132 dX5_about_134 dX5_about_137 ⟨by show (_ : Nat) ≤ 7; decide, by show (_ : Nat) ≤ 110; decide⟩ ⟨rfl, rfl⟩
    · rw [if_neg c30] at hF
      exact z_throwS (text := "nothing of that number is told about an object") (names := ["java/lang/RuntimeException", "java/lang/Exception"]) rfl (Option.some.inj hF).symm (by decide +kernel) (by decide +kernel) (by decide +kernel) zw_48 zw_49 z_at_159 dX5_about_32 dX5_about_35 dX5_about_36 dX5_about_38 dX5_about_41 ⟨by show (_ : Nat) ≤ 7; decide, by show (_ : Nat) ≤ 110; decide⟩ ⟨rfl, rfl⟩
  · rw [if_pos c31] at hF
    exact z_throwS (text := "no such object") (names := ["java/lang/RuntimeException", "java/lang/Exception"]) rfl (Option.some.inj hF).symm (by decide +kernel) (by decide +kernel) (by decide +kernel) zw_46 zw_47 z_at_168 dX5_about_18 dX5_about_21 dX5_about_22 dX5_about_24 dX5_about_27 ⟨by show (_ : Nat) ≤ 7; decide, by show (_ : Nat) ≤ 110; decide⟩ ⟨rfl, rfl⟩
theorem ok_X5_about : z_okV I_X5_about 2 := ⟨⟨z_Gin (List.mem_of_getElem? (i := 738) (by decide +kernel)) rfl, z_Gin (List.mem_of_getElem? (i := 739) (by decide +kernel)) rfl, z_Gin (List.mem_of_getElem? (i := 89) (by decide +kernel)) rfl, z_Gin (List.mem_of_getElem? (i := 740) (by decide +kernel)) rfl⟩, by decide, by decide, by decide +kernel⟩
theorem k_X5_about {l : Launch} {I : z_I} {R : Room} {B : Nat} {p1 : Int32} {p2 : Int32} {q : z_O × z_S} {pc pc' : Nat} {ls : List (Option Value)} {st : List Value} {S S1 : z_S} {idx F L : Nat} {r : Int32}  (hF : F_X5_about B p1 p2 S = some (.inl (some r), S1)) (hst : l.stackTraces = false) (w : Cond.methodLink I.1.cls idx yX5_about ∈ z_G) (hRF : R.frames = F) (hRL : R.locals = L) (h1 : 8 ≤ F) (h2 : 133 ≤ L) (hs : (st.map fun v => v.category).sum ≤ 8) (d : decode I.2.1 pc = .ok (.invokevirtual idx, 3)) (hp : pc + 3 = pc') (k : z_W l I R B q pc' ls (.int r :: st) S1) : z_W l I R B q pc ls (.int p2 :: .int p1 :: .ref 0 :: st) S := z_callV (Y := I_X5_about) (As := [.int p1, .int p2]) (st := st) (r := (some r)) (S1 := S1) (c_X5_about (q := (.inl (some r), S1)) hst hF) ok_X5_about w (ci := 5) rfl is_5_0.1 is_5_0.2 rfl ⟨by rw [hRF]; exact h1, by rw [hRL]; exact h2⟩ hs d hp rfl k
theorem kx_X5_about {l : Launch} {I : z_I} {R : Room} {B : Nat} {p1 : Int32} {p2 : Int32} {q : z_O × z_S} {pc : Nat} {ls : List (Option Value)} {st : List Value} {S S1 : z_S} {idx F L : Nat} {E : String}  (hF : F_X5_about B p1 p2 S = some (.inr E, S1)) (hq : q = (.inr E, S1)) (hst : l.stackTraces = false) (w : Cond.methodLink I.1.cls idx yX5_about ∈ z_G) (hRF : R.frames = F) (hRL : R.locals = L) (h1 : 8 ≤ F) (h2 : 133 ≤ L) (hRc : R.cells = z_mc q.1 ∧ R.slots = 6 * z_mc q.1) (hs : (st.map fun v => v.category).sum ≤ 8) (d : decode I.2.1 pc = .ok (.invokevirtual idx, 3)) : z_W l I R B q pc ls (.int p2 :: .int p1 :: .ref 0 :: st) S := z_callVX (Y := I_X5_about) (As := [.int p1, .int p2]) (st := st) (E := E) (S1 := S1) (c_X5_about (q := (.inr E, S1)) hst hF) hq ok_X5_about w (ci := 5) rfl is_5_0.1 is_5_0.2 rfl ⟨by rw [hRF]; exact h1, by rw [hRL]; exact h2⟩ hRc hs d rfl

