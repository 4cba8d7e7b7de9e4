abbrev I_X6_lineUp : z_I := (yX6_lineUp, cX6_lineUp, 7, none)
abbrev R_X6_lineUp (q : z_O × z_S) : Room := { frames := 2, locals := 44, cells := z_mc q.1, slots := 6 * z_mc q.1 }
def F_X6_lineUp_37 (B : Nat)  : Nat → Int32 → Int32 → Int32 → Int32 → Int32 → z_S → Option (z_O × z_S)
  | 0, _, _, _, _, _, _ => none
  | n + 1, v1, v3, v4, v5, v6, S => if v6 ≤ v5 then
    z_gd (z_inb (v4 + v5) 25366) (
    z_lt (z_ua S 61 (upd (S.1 61) (z_ix (v4 + v5)) v1)) fun S2 =>
    (z_gd (z_inb (13068 + v3) 25366) (
    z_lt (S2.1 61 (z_ix (13068 + v3))) fun x4 =>
    (z_gd (z_inb (13068 + v3) 25366) (
    z_lt (z_ua S2 61 (upd (S2.1 61) (z_ix (13068 + v3)) (x4 + 1))) fun S6 =>
    (some (.inl none, S6)))))))
  else
    z_gd (z_inb ((v4 + v6) - 1) 25366) (
    z_lt (S.1 61 (z_ix ((v4 + v6) - 1))) fun x8 =>
    (z_gd (z_inb (v4 + v6) 25366) (
    z_lt (z_ua S 61 (upd (S.1 61) (z_ix (v4 + v6)) x8)) fun S10 =>
    (F_X6_lineUp_37 B n v1 v3 v4 v5 (v6 + (-1)) S10))))
set_option maxRecDepth 20000 in
set_option maxHeartbeats 16000000 in
theorem ok_X6_lineUp_37 {l : Launch} {B : Nat} {q : z_O × z_S} (hst : l.stackTraces = false) : ∀ (n : Nat) (v1 : Int32) (v3 : Int32) (v4 : Int32) (v5 : Int32) (v6 : Int32) (S : z_S), F_X6_lineUp_37 B n v1 v3 v4 v5 v6 S = some q → z_W l I_X6_lineUp (R_X6_lineUp q) B q 37 [some (.ref 60), some (.int v1), none, some (.int v3), some (.int v4), some (.int v5), some (.int v6)] [] S := by
  intro n
  induction n with
  | zero => intro v1 v3 v4 v5 v6 S hF; cases hF
  | succ n ih =>
    intro v1 v3 v4 v5 v6 S hF
    rw [F_X6_lineUp_37] at hF
    refine z_iload (pc' := 39) dX6_lineUp_37 rfl rfl ?_
    refine z_iload (pc' := 41) dX6_lineUp_39 rfl rfl ?_
    refine z_icmp_le (tgt := 72) (pc' := 44) dX6_lineUp_41 (by decide) rfl (fun c11 => ?_) (fun c11 => ?_)
    · rw [if_pos c11] at hF
      refine z_aload_n (pc' := 73) dX6_lineUp_72 rfl rfl rfl ?_
      refine gf_X6_7 (b := 61) (pc' := 76) rfl is_6_60 rfl dX6_lineUp_73 rfl ?_
      refine z_iload (pc' := 78) dX6_lineUp_76 rfl rfl ?_
      refine z_iload (pc' := 80) dX6_lineUp_78 rfl rfl ?_
      refine z_iadd (pc' := 81) dX6_lineUp_80 rfl ?_
      refine z_iload_n (pc' := 82) dX6_lineUp_81 rfl rfl rfl ?_
      obtain ⟨g1, hF⟩ := z_gde hF
      refine z_iastore (pc' := 83) (ar_6_f3 is_6_60) (z_inbe g1) dX6_lineUp_82 rfl (fun S2 eS2 => ?_)
      replace hF := z_lte hF S2 eS2
      refine z_aload_n (pc' := 84) dX6_lineUp_83 rfl rfl rfl ?_
      refine gf_X6_7 (b := 61) (pc' := 87) rfl is_6_60 rfl dX6_lineUp_84 rfl ?_
      refine z_sipush (v := 13068) (pc' := 90) dX6_lineUp_87 (by decide) rfl ?_
      refine z_iload_n (pc' := 91) dX6_lineUp_90 rfl rfl rfl ?_
      refine z_iadd (pc' := 92) dX6_lineUp_91 rfl ?_
      refine z_dup2 (pc' := 93) dX6_lineUp_92 rfl ?_
      obtain ⟨g3, hF⟩ := z_gde hF
      refine z_iaload (pc' := 94) (ar_6_f3 is_6_60) (z_inbe g3) dX6_lineUp_93 rfl ?_
      refine z_topi (fun x4 ex4 => ?_)
      replace hF := z_lte hF x4 ex4
      refine z_iconst (v := 1) (pc' := 95) dX6_lineUp_94 (by decide) rfl ?_
      refine z_iadd (pc' := 96) dX6_lineUp_95 rfl ?_
      obtain ⟨g5, hF⟩ := z_gde hF
      refine z_iastore (pc' := 97) (ar_6_f3 is_6_60) (z_inbe g5) dX6_lineUp_96 rfl (fun S6 eS6 => ?_)
      replace hF := z_lte hF S6 eS6
      exact z_return rfl dX6_lineUp_97 (Option.some.inj hF).symm
    · rw [if_neg c11] at hF
      refine z_aload_n (pc' := 45) dX6_lineUp_44 rfl rfl rfl ?_
      refine gf_X6_7 (b := 61) (pc' := 48) rfl is_6_60 rfl dX6_lineUp_45 rfl ?_
      refine z_iload (pc' := 50) dX6_lineUp_48 rfl rfl ?_
      refine z_iload (pc' := 52) dX6_lineUp_50 rfl rfl ?_
      refine z_iadd (pc' := 53) dX6_lineUp_52 rfl ?_
      refine z_aload_n (pc' := 54) dX6_lineUp_53 rfl rfl rfl ?_
      refine gf_X6_7 (b := 61) (pc' := 57) rfl is_6_60 rfl dX6_lineUp_54 rfl ?_
      refine z_iload (pc' := 59) dX6_lineUp_57 rfl rfl ?_
      refine z_iload (pc' := 61) dX6_lineUp_59 rfl rfl ?_
      refine z_iadd (pc' := 62) dX6_lineUp_61 rfl ?_
      refine z_iconst (v := 1) (pc' := 63) dX6_lineUp_62 (by decide) rfl ?_
      refine z_isub (pc' := 64) dX6_lineUp_63 rfl ?_
      obtain ⟨g7, hF⟩ := z_gde hF
      refine z_iaload (pc' := 65) (ar_6_f3 is_6_60) (z_inbe g7) dX6_lineUp_64 rfl ?_
      refine z_topi (fun x8 ex8 => ?_)
      replace hF := z_lte hF x8 ex8
      obtain ⟨g9, hF⟩ := z_gde hF
      refine z_iastore (pc' := 66) (ar_6_f3 is_6_60) (z_inbe g9) dX6_lineUp_65 rfl (fun S10 eS10 => ?_)
      replace hF := z_lte hF S10 eS10
      refine z_iinc (v := v6 + (-1)) (pc' := 69) dX6_lineUp_66 rfl rfl (by decide) rfl rfl ?_
      refine z_goto (pc' := 37) dX6_lineUp_69 (by decide) ?_
      refine z_wk (ls' := [some (.ref 60), some (.int v1), none, some (.int v3), some (.int v4), some (.int v5), some (.int (v6 + (-1)))]) (z_lec rfl (z_lec rfl (z_len1 (z_lec rfl (z_lec rfl (z_lec rfl (z_lec rfl z_le0))))))) ?_
      exact ih _ _ _ _ _ _ hF
def F_X6_lineUp (B : Nat) (p1 : Int32) (p2 : Int32) (S : z_S) : Option (z_O × z_S) :=
  z_bn (F_X6_height B p1 S) fun r1 S2 =>
  (z_bn (F_X6_placeOf B p2 S2) fun r4 S5 =>
  (z_gd (z_inb (13068 + r1) 25366) (
  z_lt (S5.1 61 (z_ix (13068 + r1))) fun x8 =>
  (F_X6_lineUp_37 B z_n p1 r1 (12300 + (96 * r1)) (r4 + 1) x8 S5))))
set_option maxRecDepth 20000 in
set_option maxHeartbeats 16000000 in
theorem c_X6_lineUp {l : Launch} {B : Nat} {p1 : Int32} {p2 : Int32} {S : z_S} {q : z_O × z_S} (hst : l.stackTraces = false) (hF : F_X6_lineUp B p1 p2 S = some q) : z_Met l I_X6_lineUp 2 44 B [.ref 60, .int p1, .int p2] S q.1 q.2 := by
  refine z_enter (ls := [some (.ref 60), some (.int p1), some (.int p2), none, none, none, none]) (n := 4) (by decide) rfl (Nat.le_of_ble_eq_true rfl) hst ?_
  unfold F_X6_lineUp at hF
  refine z_aload_n (pc' := 1) dX6_lineUp_0 rfl rfl rfl ?_
  refine z_iload_n (pc' := 2) dX6_lineUp_1 rfl rfl rfl ?_
  obtain ⟨r1, S2, hc3, hF⟩ := z_bne hF
  refine k_X6_height (F := 2) (L := 44) (pc' := 5) hc3 hst zw_106 rfl rfl (by decide) (by decide) (by decide) dX6_lineUp_2 rfl ?_
  refine z_istore_n (pc' := 6) dX6_lineUp_5 rfl (by decide) rfl rfl ?_
  refine z_sipush (v := 12300) (pc' := 9) dX6_lineUp_6 (by decide) rfl ?_
  refine z_bipush (v := 96) (pc' := 11) dX6_lineUp_9 (by decide) rfl ?_
  refine z_iload_n (pc' := 12) dX6_lineUp_11 rfl rfl rfl ?_
  refine z_imul (pc' := 13) dX6_lineUp_12 rfl ?_
  refine z_iadd (pc' := 14) dX6_lineUp_13 rfl ?_
  refine z_istore (pc' := 16) dX6_lineUp_14 (by decide) rfl rfl ?_
  refine z_aload_n (pc' := 17) dX6_lineUp_16 rfl rfl rfl ?_
  refine z_iload_n (pc' := 18) dX6_lineUp_17 rfl rfl rfl ?_
  obtain ⟨r4, S5, hc6, hF⟩ := z_bne hF
  refine k_X6_placeOf (F := 2) (L := 44) (pc' := 21) hc6 hst zw_107 rfl rfl (by decide) (by decide) (by decide) dX6_lineUp_18 rfl ?_
  refine z_iconst (v := 1) (pc' := 22) dX6_lineUp_21 (by decide) rfl ?_
  refine z_iadd (pc' := 23) dX6_lineUp_22 rfl ?_
  refine z_istore (pc' := 25) dX6_lineUp_23 (by decide) rfl rfl ?_
  refine z_aload_n (pc' := 26) dX6_lineUp_25 rfl rfl rfl ?_
  refine gf_X6_7 (b := 61) (pc' := 29) rfl is_6_60 rfl dX6_lineUp_26 rfl ?_
  refine z_sipush (v := 13068) (pc' := 32) dX6_lineUp_29 (by decide) rfl ?_
  refine z_iload_n (pc' := 33) dX6_lineUp_32 rfl rfl rfl ?_
  refine z_iadd (pc' := 34) dX6_lineUp_33 rfl ?_
  obtain ⟨g7, hF⟩ := z_gde hF
  refine z_iaload (pc' := 35) (ar_6_f3 is_6_60) (z_inbe g7) dX6_lineUp_34 rfl ?_
  refine z_topi (fun x8 ex8 => ?_)
  replace hF := z_lte hF x8 ex8
  refine z_istore (pc' := 37) dX6_lineUp_35 (by decide) rfl rfl ?_
  refine z_wk (ls' := [some (.ref 60), some (.int p1), none, some (.int r1), some (.int (12300 + (96 * r1))), some (.int (r4 + 1)), some (.int x8)]) (z_lec rfl (z_lec rfl (z_len1 (z_lec rfl (z_lec rfl (z_lec rfl (z_lec rfl z_le0))))))) ?_
  exact (ok_X6_lineUp_37 hst z_n) _ _ _ _ _ _ hF
theorem ok_X6_lineUp : z_okV I_X6_lineUp 2 := ⟨⟨z_Gin (List.mem_of_getElem? (i := 1059) (by decide +kernel)) rfl, z_Gin (List.mem_of_getElem? (i := 57) (by decide +kernel)) rfl, z_Gin (List.mem_of_getElem? (i := 98) (by decide +kernel)) rfl, z_Gin (List.mem_of_getElem? (i := 1060) (by decide +kernel)) rfl⟩, by decide, by decide, by decide +kernel⟩
theorem k_X6_lineUp {l : Launch} {I : z_I} {R : Room} {B : Nat} {p1 : Int32} {p2 : Int32} {q : z_O × z_S} {pc pc' : Nat} {ls : List (Option Value)} {st : List Value} {S S1 : z_S} {idx F L : Nat}  (hF : F_X6_lineUp B p1 p2 S = some (.inl none, S1)) (hst : l.stackTraces = false) (w : Cond.methodLink I.1.cls idx yX6_lineUp ∈ z_G) (hRF : R.frames = F) (hRL : R.locals = L) (h1 : 3 ≤ F) (h2 : 70 ≤ L) (hs : (st.map fun v => v.category).sum ≤ 8) (d : decode I.2.1 pc = .ok (.invokevirtual idx, 3)) (hp : pc + 3 = pc') (k : z_W l I R B q pc' ls st S1) : z_W l I R B q pc ls (.int p2 :: .int p1 :: .ref 60 :: st) S := z_callV (Y := I_X6_lineUp) (As := [.int p1, .int p2]) (st := st) (r := none) (S1 := S1) (c_X6_lineUp (q := (.inl none, S1)) hst hF) ok_X6_lineUp w (ci := 6) rfl is_6_60.1 is_6_60.2 rfl ⟨by rw [hRF]; exact h1, by rw [hRL]; exact h2⟩ hs d hp rfl k

abbrev I_X6_lineOff : z_I := (yX6_lineOff, cX6_lineOff, 5, none)
abbrev R_X6_lineOff (q : z_O × z_S) : Room := { frames := 2, locals := 44, cells := z_mc q.1, slots := 6 * z_mc q.1 }
def F_X6_lineOff_22 (B : Nat)  : Nat → Int32 → Int32 → Int32 → z_S → Option (z_O × z_S)
  | 0, _, _, _, _ => none
  | n + 1, v2, v3, v4, S => z_gd (z_inb (13068 + v2) 25366) (
  z_lt (S.1 61 (z_ix (13068 + v2))) fun x2 =>
  (if x2 ≤ (v4 + 1) then
    z_gd (z_inb (13068 + v2) 25366) (
    z_lt (S.1 61 (z_ix (13068 + v2))) fun x4 =>
    (z_gd (z_inb (13068 + v2) 25366) (
    z_lt (z_ua S 61 (upd (S.1 61) (z_ix (13068 + v2)) (x4 - 1))) fun S6 =>
    (some (.inl none, S6)))))
  else
    z_gd (z_inb ((v3 + v4) + 1) 25366) (
    z_lt (S.1 61 (z_ix ((v3 + v4) + 1))) fun x8 =>
    (z_gd (z_inb (v3 + v4) 25366) (
    z_lt (z_ua S 61 (upd (S.1 61) (z_ix (v3 + v4)) x8)) fun S10 =>
    (F_X6_lineOff_22 B n v2 v3 (v4 + 1) S10))))))
set_option maxRecDepth 20000 in
set_option maxHeartbeats 16000000 in
theorem ok_X6_lineOff_22 {l : Launch} {B : Nat} {q : z_O × z_S} (hst : l.stackTraces = false) : ∀ (n : Nat) (v2 : Int32) (v3 : Int32) (v4 : Int32) (S : z_S), F_X6_lineOff_22 B n v2 v3 v4 S = some q → z_W l I_X6_lineOff (R_X6_lineOff q) B q 22 [some (.ref 60), none, some (.int v2), some (.int v3), some (.int v4)] [] S := by
  intro n
  induction n with
  | zero => intro v2 v3 v4 S hF; cases hF
  | succ n ih =>
    intro v2 v3 v4 S hF
    rw [F_X6_lineOff_22] at hF
    refine z_iload (pc' := 24) dX6_lineOff_22 rfl rfl ?_
    refine z_iconst (v := 1) (pc' := 25) dX6_lineOff_24 (by decide) rfl ?_
    refine z_iadd (pc' := 26) dX6_lineOff_25 rfl ?_
    refine z_aload_n (pc' := 27) dX6_lineOff_26 rfl rfl rfl ?_
    refine gf_X6_7 (b := 61) (pc' := 30) rfl is_6_60 rfl dX6_lineOff_27 rfl ?_
    refine z_sipush (v := 13068) (pc' := 33) dX6_lineOff_30 (by decide) rfl ?_
    refine z_iload_n (pc' := 34) dX6_lineOff_33 rfl rfl rfl ?_
    refine z_iadd (pc' := 35) dX6_lineOff_34 rfl ?_
    obtain ⟨g1, hF⟩ := z_gde hF
    refine z_iaload (pc' := 36) (ar_6_f3 is_6_60) (z_inbe g1) dX6_lineOff_35 rfl ?_
    refine z_topi (fun x2 ex2 => ?_)
    replace hF := z_lte hF x2 ex2
    refine z_icmp_ge (tgt := 65) (pc' := 39) dX6_lineOff_36 (by decide) rfl (fun c11 => ?_) (fun c11 => ?_)
    · rw [if_pos c11] at hF
      refine z_aload_n (pc' := 66) dX6_lineOff_65 rfl rfl rfl ?_
      refine gf_X6_7 (b := 61) (pc' := 69) rfl is_6_60 rfl dX6_lineOff_66 rfl ?_
      refine z_sipush (v := 13068) (pc' := 72) dX6_lineOff_69 (by decide) rfl ?_
      refine z_iload_n (pc' := 73) dX6_lineOff_72 rfl rfl rfl ?_
      refine z_iadd (pc' := 74) dX6_lineOff_73 rfl ?_
      refine z_dup2 (pc' := 75) dX6_lineOff_74 rfl ?_
      obtain ⟨g3, hF⟩ := z_gde hF
      refine z_iaload (pc' := 76) (ar_6_f3 is_6_60) (z_inbe g3) dX6_lineOff_75 rfl ?_
      refine z_topi (fun x4 ex4 => ?_)
      replace hF := z_lte hF x4 ex4
      refine z_iconst (v := 1) (pc' := 77) dX6_lineOff_76 (by decide) rfl ?_
      refine z_isub (pc' := 78) dX6_lineOff_77 rfl ?_
      obtain ⟨g5, hF⟩ := z_gde hF
      refine z_iastore (pc' := 79) (ar_6_f3 is_6_60) (z_inbe g5) dX6_lineOff_78 rfl (fun S6 eS6 => ?_)
      replace hF := z_lte hF S6 eS6
      exact z_return rfl dX6_lineOff_79 (Option.some.inj hF).symm
    · rw [if_neg c11] at hF
      refine z_aload_n (pc' := 40) dX6_lineOff_39 rfl rfl rfl ?_
      refine gf_X6_7 (b := 61) (pc' := 43) rfl is_6_60 rfl dX6_lineOff_40 rfl ?_
      refine z_iload_n (pc' := 44) dX6_lineOff_43 rfl rfl rfl ?_
      refine z_iload (pc' := 46) dX6_lineOff_44 rfl rfl ?_
      refine z_iadd (pc' := 47) dX6_lineOff_46 rfl ?_
      refine z_aload_n (pc' := 48) dX6_lineOff_47 rfl rfl rfl ?_
      refine gf_X6_7 (b := 61) (pc' := 51) rfl is_6_60 rfl dX6_lineOff_48 rfl ?_
      refine z_iload_n (pc' := 52) dX6_lineOff_51 rfl rfl rfl ?_
      refine z_iload (pc' := 54) dX6_lineOff_52 rfl rfl ?_
      refine z_iadd (pc' := 55) dX6_lineOff_54 rfl ?_
      refine z_iconst (v := 1) (pc' := 56) dX6_lineOff_55 (by decide) rfl ?_
      refine z_iadd (pc' := 57) dX6_lineOff_56 rfl ?_
      obtain ⟨g7, hF⟩ := z_gde hF
      refine z_iaload (pc' := 58) (ar_6_f3 is_6_60) (z_inbe g7) dX6_lineOff_57 rfl ?_
      refine z_topi (fun x8 ex8 => ?_)
      replace hF := z_lte hF x8 ex8
      obtain ⟨g9, hF⟩ := z_gde hF
      refine z_iastore (pc' := 59) (ar_6_f3 is_6_60) (z_inbe g9) dX6_lineOff_58 rfl (fun S10 eS10 => ?_)
      replace hF := z_lte hF S10 eS10
      refine z_iinc (v := v4 + 1) (pc' := 62) dX6_lineOff_59 rfl rfl (by decide) rfl rfl ?_
      refine z_goto (pc' := 22) dX6_lineOff_62 (by decide) ?_
      refine z_wk (ls' := [some (.ref 60), none, some (.int v2), some (.int v3), some (.int (v4 + 1))]) (z_lec rfl (z_len1 (z_lec rfl (z_lec rfl (z_lec rfl z_le0))))) ?_
      exact ih _ _ _ _ hF
def F_X6_lineOff (B : Nat) (p1 : Int32) (S : z_S) : Option (z_O × z_S) :=
  z_bn (F_X6_height B p1 S) fun r1 S2 =>
  (z_bn (F_X6_placeOf B p1 S2) fun r4 S5 =>
  (F_X6_lineOff_22 B z_n r1 (12300 + (96 * r1)) r4 S5))
set_option maxRecDepth 20000 in
set_option maxHeartbeats 16000000 in
theorem c_X6_lineOff {l : Launch} {B : Nat} {p1 : Int32} {S : z_S} {q : z_O × z_S} (hst : l.stackTraces = false) (hF : F_X6_lineOff B p1 S = some q) : z_Met l I_X6_lineOff 2 44 B [.ref 60, .int p1] S q.1 q.2 := by
  refine z_enter (ls := [some (.ref 60), some (.int p1), none, none, none]) (n := 3) (by decide) rfl (Nat.le_of_ble_eq_true rfl) hst ?_
  unfold F_X6_lineOff at hF
  refine z_aload_n (pc' := 1) dX6_lineOff_0 rfl rfl rfl ?_
  refine z_iload_n (pc' := 2) dX6_lineOff_1 rfl rfl rfl ?_
  obtain ⟨r1, S2, hc3, hF⟩ := z_bne hF
  refine k_X6_height (F := 2) (L := 44) (pc' := 5) hc3 hst zw_106 rfl rfl (by decide) (by decide) (by decide) dX6_lineOff_2 rfl ?_
  refine z_istore_n (pc' := 6) dX6_lineOff_5 rfl (by decide) rfl rfl ?_
  refine z_sipush (v := 12300) (pc' := 9) dX6_lineOff_6 (by decide) rfl ?_
  refine z_bipush (v := 96) (pc' := 11) dX6_lineOff_9 (by decide) rfl ?_
  refine z_iload_n (pc' := 12) dX6_lineOff_11 rfl rfl rfl ?_
  refine z_imul (pc' := 13) dX6_lineOff_12 rfl ?_
  refine z_iadd (pc' := 14) dX6_lineOff_13 rfl ?_
  refine z_istore_n (pc' := 15) dX6_lineOff_14 rfl (by decide) rfl rfl ?_
  refine z_aload_n (pc' := 16) dX6_lineOff_15 rfl rfl rfl ?_
  refine z_iload_n (pc' := 17) dX6_lineOff_16 rfl rfl rfl ?_
  obtain ⟨r4, S5, hc6, hF⟩ := z_bne hF
  refine k_X6_placeOf (F := 2) (L := 44) (pc' := 20) hc6 hst zw_107 rfl rfl (by decide) (by decide) (by decide) dX6_lineOff_17 rfl ?_
  refine z_istore (pc' := 22) dX6_lineOff_20 (by decide) rfl rfl ?_
  refine z_wk (ls' := [some (.ref 60), none, some (.int r1), some (.int (12300 + (96 * r1))), some (.int r4)]) (z_lec rfl (z_len1 (z_lec rfl (z_lec rfl (z_lec rfl z_le0))))) ?_
  exact (ok_X6_lineOff_22 hst z_n) _ _ _ _ hF
theorem ok_X6_lineOff : z_okV I_X6_lineOff 1 := ⟨⟨z_Gin (List.mem_of_getElem? (i := 1107) (by decide +kernel)) rfl, z_Gin (List.mem_of_getElem? (i := 67) (by decide +kernel)) rfl, z_Gin (List.mem_of_getElem? (i := 98) (by decide +kernel)) rfl, z_Gin (List.mem_of_getElem? (i := 1108) (by decide +kernel)) rfl⟩, by decide, by decide, by decide +kernel⟩
theorem k_X6_lineOff {l : Launch} {I : z_I} {R : Room} {B : Nat} {p1 : Int32} {q : z_O × z_S} {pc pc' : Nat} {ls : List (Option Value)} {st : List Value} {S S1 : z_S} {idx F L : Nat}  (hF : F_X6_lineOff B p1 S = some (.inl none, S1)) (hst : l.stackTraces = false) (w : Cond.methodLink I.1.cls idx yX6_lineOff ∈ z_G) (hRF : R.frames = F) (hRL : R.locals = L) (h1 : 3 ≤ F) (h2 : 68 ≤ L) (hs : (st.map fun v => v.category).sum ≤ 8) (d : decode I.2.1 pc = .ok (.invokevirtual idx, 3)) (hp : pc + 3 = pc') (k : z_W l I R B q pc' ls st S1) : z_W l I R B q pc ls (.int p1 :: .ref 60 :: st) S := z_callV (Y := I_X6_lineOff) (As := [.int p1]) (st := st) (r := none) (S1 := S1) (c_X6_lineOff (q := (.inl none, S1)) hst hF) ok_X6_lineOff w (ci := 6) rfl is_6_60.1 is_6_60.2 rfl ⟨by rw [hRF]; exact h1, by rw [hRL]; exact h2⟩ hs d hp rfl k

abbrev I_X6_child : z_I := (yX6_child, cX6_child, 5, none)
abbrev R_X6_child (q : z_O × z_S) : Room := { frames := 0, locals := 0, cells := z_mc q.1, slots := 6 * z_mc q.1 }
def F_X6_child_12 (B : Nat)  : Nat → Int32 → Int32 → Int32 → Int32 → z_S → Option (z_O × z_S)
  | 0, _, _, _, _, _ => none
  | n + 1, v1, v2, v3, v4, S => if v4 ≤ v2 then
    z_gd (z_inb ((4044 + (6 * v1)) + v2) 25366) (
    z_lt (z_ua S 61 (upd (S.1 61) (z_ix ((4044 + (6 * v1)) + v2)) v3)) fun S2 =>
    (z_gd (z_inb (3852 + v1) 25366) (
    z_lt (S2.1 61 (z_ix (3852 + v1))) fun x4 =>
    (z_gd (z_inb (3852 + v1) 25366) (
    z_lt (z_ua S2 61 (upd (S2.1 61) (z_ix (3852 + v1)) (x4 + 1))) fun S6 =>
    (z_gd (z_inb (3948 + v3) 25366) (
    z_lt (z_ua S6 61 (upd (S6.1 61) (z_ix (3948 + v3)) v1)) fun S8 =>
    (some (.inl none, S8)))))))))
  else
    z_gd (z_inb (((4044 + (6 * v1)) + v4) - 1) 25366) (
    z_lt (S.1 61 (z_ix (((4044 + (6 * v1)) + v4) - 1))) fun x10 =>
    (z_gd (z_inb ((4044 + (6 * v1)) + v4) 25366) (
    z_lt (z_ua S 61 (upd (S.1 61) (z_ix ((4044 + (6 * v1)) + v4)) x10)) fun S12 =>
    (F_X6_child_12 B n v1 v2 v3 (v4 + (-1)) S12))))
set_option maxRecDepth 20000 in
set_option maxHeartbeats 16000000 in
theorem ok_X6_child_12 {l : Launch} {B : Nat} {q : z_O × z_S} (hst : l.stackTraces = false) : ∀ (n : Nat) (v1 : Int32) (v2 : Int32) (v3 : Int32) (v4 : Int32) (S : z_S), F_X6_child_12 B n v1 v2 v3 v4 S = some q → z_W l I_X6_child (R_X6_child q) B q 12 [some (.ref 60), some (.int v1), some (.int v2), some (.int v3), some (.int v4)] [] S := by
  intro n
  induction n with
  | zero => intro v1 v2 v3 v4 S hF; cases hF
  | succ n ih =>
    intro v1 v2 v3 v4 S hF
    rw [F_X6_child_12] at hF
    refine z_iload (pc' := 14) dX6_child_12 rfl rfl ?_
    refine z_iload_n (pc' := 15) dX6_child_14 rfl rfl rfl ?_
    refine z_icmp_le (tgt := 58) (pc' := 18) dX6_child_15 (by decide) rfl (fun c13 => ?_) (fun c13 => ?_)
    · rw [if_pos c13] at hF
      refine z_aload_n (pc' := 59) dX6_child_58 rfl rfl rfl ?_
      refine gf_X6_7 (b := 61) (pc' := 62) rfl is_6_60 rfl dX6_child_59 rfl ?_
      refine z_sipush (v := 4044) (pc' := 65) dX6_child_62 (by decide) rfl ?_
      refine z_bipush (v := 6) (pc' := 67) dX6_child_65 (by decide) rfl ?_
      refine z_iload_n (pc' := 68) dX6_child_67 rfl rfl rfl ?_
      refine z_imul (pc' := 69) dX6_child_68 rfl ?_
      refine z_iadd (pc' := 70) dX6_child_69 rfl ?_
      refine z_iload_n (pc' := 71) dX6_child_70 rfl rfl rfl ?_
      refine z_iadd (pc' := 72) dX6_child_71 rfl ?_
      refine z_iload_n (pc' := 73) dX6_child_72 rfl rfl rfl ?_
      obtain ⟨g1, hF⟩ := z_gde hF
      refine z_iastore (pc' := 74) (ar_6_f3 is_6_60) (z_inbe g1) dX6_child_73 rfl (fun S2 eS2 => ?_)
      replace hF := z_lte hF S2 eS2
      refine z_aload_n (pc' := 75) dX6_child_74 rfl rfl rfl ?_
      refine gf_X6_7 (b := 61) (pc' := 78) rfl is_6_60 rfl dX6_child_75 rfl ?_
      refine z_sipush (v := 3852) (pc' := 81) dX6_child_78 (by decide) rfl ?_
      refine z_iload_n (pc' := 82) dX6_child_81 rfl rfl rfl ?_
      refine z_iadd (pc' := 83) dX6_child_82 rfl ?_
      refine z_dup2 (pc' := 84) dX6_child_83 rfl ?_
      obtain ⟨g3, hF⟩ := z_gde hF
      refine z_iaload (pc' := 85) (ar_6_f3 is_6_60) (z_inbe g3) dX6_child_84 rfl ?_
      refine z_topi (fun x4 ex4 => ?_)
      replace hF := z_lte hF x4 ex4
      refine z_iconst (v := 1) (pc' := 86) dX6_child_85 (by decide) rfl ?_
      refine z_iadd (pc' := 87) dX6_child_86 rfl ?_
      obtain ⟨g5, hF⟩ := z_gde hF
      refine z_iastore (pc' := 88) (ar_6_f3 is_6_60) (z_inbe g5) dX6_child_87 rfl (fun S6 eS6 => ?_)
      replace hF := z_lte hF S6 eS6
      refine z_aload_n (pc' := 89) dX6_child_88 rfl rfl rfl ?_
      refine gf_X6_7 (b := 61) (pc' := 92) rfl is_6_60 rfl dX6_child_89 rfl ?_
      refine z_sipush (v := 3948) (pc' := 95) dX6_child_92 (by decide) rfl ?_
      refine z_iload_n (pc' := 96) dX6_child_95 rfl rfl rfl ?_
      refine z_iadd (pc' := 97) dX6_child_96 rfl ?_
      refine z_iload_n (pc' := 98) dX6_child_97 rfl rfl rfl ?_
      obtain ⟨g7, hF⟩ := z_gde hF
      refine z_iastore (pc' := 99) (ar_6_f3 is_6_60) (z_inbe g7) dX6_child_98 rfl (fun S8 eS8 => ?_)
      replace hF := z_lte hF S8 eS8
      exact z_return rfl dX6_child_99 (Option.some.inj hF).symm
    · rw [if_neg c13] at hF
      refine z_aload_n (pc' := 19) dX6_child_18 rfl rfl rfl ?_
      refine gf_X6_7 (b := 61) (pc' := 22) rfl is_6_60 rfl dX6_child_19 rfl ?_
      refine z_sipush (v := 4044) (pc' := 25) dX6_child_22 (by decide) rfl ?_
      refine z_bipush (v := 6) (pc' := 27) dX6_child_25 (by decide) rfl ?_
      refine z_iload_n (pc' := 28) dX6_child_27 rfl rfl rfl ?_
      refine z_imul (pc' := 29) dX6_child_28 rfl ?_
      refine z_iadd (pc' := 30) dX6_child_29 rfl ?_
      refine z_iload (pc' := 32) dX6_child_30 rfl rfl ?_
      refine z_iadd (pc' := 33) dX6_child_32 rfl ?_
      refine z_aload_n (pc' := 34) dX6_child_33 rfl rfl rfl ?_
      refine gf_X6_7 (b := 61) (pc' := 37) rfl is_6_60 rfl dX6_child_34 rfl ?_
      refine z_sipush (v := 4044) (pc' := 40) dX6_child_37 (by decide) rfl ?_
      refine z_bipush (v := 6) (pc' := 42) dX6_child_40 (by decide) rfl ?_
      refine z_iload_n (pc' := 43) dX6_child_42 rfl rfl rfl ?_
      refine z_imul (pc' := 44) dX6_child_43 rfl ?_
      refine z_iadd (pc' := 45) dX6_child_44 rfl ?_
      refine z_iload (pc' := 47) dX6_child_45 rfl rfl ?_
      refine z_iadd (pc' := 48) dX6_child_47 rfl ?_
      refine z_iconst (v := 1) (pc' := 49) dX6_child_48 (by decide) rfl ?_
      refine z_isub (pc' := 50) dX6_child_49 rfl ?_
      obtain ⟨g9, hF⟩ := z_gde hF
      refine z_iaload (pc' := 51) (ar_6_f3 is_6_60) (z_inbe g9) dX6_child_50 rfl ?_
      refine z_topi (fun x10 ex10 => ?_)
      replace hF := z_lte hF x10 ex10
      obtain ⟨g11, hF⟩ := z_gde hF
      refine z_iastore (pc' := 52) (ar_6_f3 is_6_60) (z_inbe g11) dX6_child_51 rfl (fun S12 eS12 => ?_)
      replace hF := z_lte hF S12 eS12
      refine z_iinc (v := v4 + (-1)) (pc' := 55) dX6_child_52 rfl rfl (by decide) rfl rfl ?_
      refine z_goto (pc' := 12) dX6_child_55 (by decide) ?_
      refine z_wk (ls' := [some (.ref 60), some (.int v1), some (.int v2), some (.int v3), some (.int (v4 + (-1)))]) (z_lec rfl (z_lec rfl (z_lec rfl (z_lec rfl (z_lec rfl z_le0))))) ?_
      exact ih _ _ _ _ _ hF
def F_X6_child (B : Nat) (p1 : Int32) (p2 : Int32) (p3 : Int32) (S : z_S) : Option (z_O × z_S) :=
  z_gd (z_inb (3852 + p1) 25366) (
  z_lt (S.1 61 (z_ix (3852 + p1))) fun x2 =>
  (F_X6_child_12 B z_n p1 p2 p3 x2 S))
set_option maxRecDepth 20000 in
set_option maxHeartbeats 16000000 in
theorem c_X6_child {l : Launch} {B : Nat} {p1 : Int32} {p2 : Int32} {p3 : Int32} {S : z_S} {q : z_O × z_S} (hst : l.stackTraces = false) (hF : F_X6_child B p1 p2 p3 S = some q) : z_Met l I_X6_child 0 0 B [.ref 60, .int p1, .int p2, .int p3] S q.1 q.2 := by
  refine z_enter (ls := [some (.ref 60), some (.int p1), some (.int p2), some (.int p3), none]) (n := 1) (by decide) rfl (Nat.le_of_ble_eq_true rfl) hst ?_
  unfold F_X6_child at hF
  refine z_aload_n (pc' := 1) dX6_child_0 rfl rfl rfl ?_
  refine gf_X6_7 (b := 61) (pc' := 4) rfl is_6_60 rfl dX6_child_1 rfl ?_
  refine z_sipush (v := 3852) (pc' := 7) dX6_child_4 (by decide) rfl ?_
  refine z_iload_n (pc' := 8) dX6_child_7 rfl rfl rfl ?_
  refine z_iadd (pc' := 9) dX6_child_8 rfl ?_
  obtain ⟨g1, hF⟩ := z_gde hF
  refine z_iaload (pc' := 10) (ar_6_f3 is_6_60) (z_inbe g1) dX6_child_9 rfl ?_
  refine z_topi (fun x2 ex2 => ?_)
  replace hF := z_lte hF x2 ex2
  refine z_istore (pc' := 12) dX6_child_10 (by decide) rfl rfl ?_
  refine z_wk (ls' := [some (.ref 60), some (.int p1), some (.int p2), some (.int p3), some (.int x2)]) (z_lec rfl (z_lec rfl (z_lec rfl (z_lec rfl (z_lec rfl z_le0))))) ?_
  exact (ok_X6_child_12 hst z_n) _ _ _ _ _ hF
theorem ok_X6_child : z_okV I_X6_child 3 := ⟨⟨z_Gin (List.mem_of_getElem? (i := 1067) (by decide +kernel)) rfl, z_Gin (List.mem_of_getElem? (i := 59) (by decide +kernel)) rfl, z_Gin (List.mem_of_getElem? (i := 98) (by decide +kernel)) rfl, z_Gin (List.mem_of_getElem? (i := 1068) (by decide +kernel)) rfl⟩, by decide, by decide, by decide +kernel⟩
theorem k_X6_child {l : Launch} {I : z_I} {R : Room} {B : Nat} {p1 : Int32} {p2 : Int32} {p3 : Int32} {q : z_O × z_S} {pc pc' : Nat} {ls : List (Option Value)} {st : List Value} {S S1 : z_S} {idx F L : Nat}  (hF : F_X6_child B p1 p2 p3 S = some (.inl none, S1)) (hst : l.stackTraces = false) (w : Cond.methodLink I.1.cls idx yX6_child ∈ z_G) (hRF : R.frames = F) (hRL : R.locals = L) (h1 : 1 ≤ F) (h2 : 24 ≤ L) (hs : (st.map fun v => v.category).sum ≤ 8) (d : decode I.2.1 pc = .ok (.invokevirtual idx, 3)) (hp : pc + 3 = pc') (k : z_W l I R B q pc' ls st S1) : z_W l I R B q pc ls (.int p3 :: .int p2 :: .int p1 :: .ref 60 :: st) S := z_callV (Y := I_X6_child) (As := [.int p1, .int p2, .int p3]) (st := st) (r := none) (S1 := S1) (c_X6_child (q := (.inl none, S1)) hst hF) ok_X6_child w (ci := 6) rfl is_6_60.1 is_6_60.2 rfl ⟨by rw [hRF]; exact h1, by rw [hRL]; exact h2⟩ hs d hp rfl k

abbrev I_X6_childPlace : z_I := (yX6_childPlace, cX6_childPlace, 4, some .int)
abbrev R_X6_childPlace (q : z_O × z_S) : Room := { frames := 0, locals := 0, cells := z_mc q.1, slots := 6 * z_mc q.1 }
def F_X6_childPlace_2 (B : Nat)  : Nat → Int32 → Int32 → Int32 → z_S → Option (z_O × z_S)
  | 0, _, _, _, _ => none
  | n + 1, v1, v2, v3, S => z_gd (z_inb ((4044 + (6 * v1)) + v3) 25366) (
  z_lt (S.1 61 (z_ix ((4044 + (6 * v1)) + v3))) fun x2 =>
  (if x2 = v2 then
    some (.inl (some v3), S)
  else
    F_X6_childPlace_2 B n v1 v2 (v3 + 1) S))
set_option maxRecDepth 20000 in
set_option maxHeartbeats 16000000 in
theorem ok_X6_childPlace_2 {l : Launch} {B : Nat} {q : z_O × z_S} (hst : l.stackTraces = false) : ∀ (n : Nat) (v1 : Int32) (v2 : Int32) (v3 : Int32) (S : z_S), F_X6_childPlace_2 B n v1 v2 v3 S = some q → z_W l I_X6_childPlace (R_X6_childPlace q) B q 2 [some (.ref 60), some (.int v1), some (.int v2), some (.int v3)] [] S := by
  intro n
  induction n with
  | zero => intro v1 v2 v3 S hF; cases hF
  | succ n ih =>
    intro v1 v2 v3 S hF
    rw [F_X6_childPlace_2] at hF
    refine z_aload_n (pc' := 3) dX6_childPlace_2 rfl rfl rfl ?_
    refine gf_X6_7 (b := 61) (pc' := 6) rfl is_6_60 rfl dX6_childPlace_3 rfl ?_
    refine z_sipush (v := 4044) (pc' := 9) dX6_childPlace_6 (by decide) rfl ?_
    refine z_bipush (v := 6) (pc' := 11) dX6_childPlace_9 (by decide) rfl ?_
    refine z_iload_n (pc' := 12) dX6_childPlace_11 rfl rfl rfl ?_
    refine z_imul (pc' := 13) dX6_childPlace_12 rfl ?_
    refine z_iadd (pc' := 14) dX6_childPlace_13 rfl ?_
    refine z_iload_n (pc' := 15) dX6_childPlace_14 rfl rfl rfl ?_
    refine z_iadd (pc' := 16) dX6_childPlace_15 rfl ?_
    obtain ⟨g1, hF⟩ := z_gde hF
    refine z_iaload (pc' := 17) (ar_6_f3 is_6_60) (z_inbe g1) dX6_childPlace_16 rfl ?_
    refine z_topi (fun x2 ex2 => ?_)
    replace hF := z_lte hF x2 ex2
    refine z_iload_n (pc' := 18) dX6_childPlace_17 rfl rfl rfl ?_
    refine z_icmp_eq (tgt := 27) (pc' := 21) dX6_childPlace_18 (by decide) rfl (fun c3 => ?_) (fun c3 => ?_)
    · rw [if_pos c3] at hF
      refine z_iload_n (pc' := 28) dX6_childPlace_27 rfl rfl rfl ?_
      exact z_ireturn rfl dX6_childPlace_28 (Option.some.inj hF).symm
    · rw [if_neg c3] at hF
      refine z_iinc (v := v3 + 1) (pc' := 24) dX6_childPlace_21 rfl rfl (by decide) rfl rfl ?_
      refine z_goto (pc' := 2) dX6_childPlace_24 (by decide) ?_
      refine z_wk (ls' := [some (.ref 60), some (.int v1), some (.int v2), some (.int (v3 + 1))]) (z_lec rfl (z_lec rfl (z_lec rfl (z_lec rfl z_le0)))) ?_
      exact ih _ _ _ _ hF
def F_X6_childPlace (B : Nat) (p1 : Int32) (p2 : Int32) (S : z_S) : Option (z_O × z_S) :=
  F_X6_childPlace_2 B z_n p1 p2 0 S
set_option maxRecDepth 20000 in
set_option maxHeartbeats 16000000 in
theorem c_X6_childPlace {l : Launch} {B : Nat} {p1 : Int32} {p2 : Int32} {S : z_S} {q : z_O × z_S} (hst : l.stackTraces = false) (hF : F_X6_childPlace B p1 p2 S = some q) : z_Met l I_X6_childPlace 0 0 B [.ref 60, .int p1, .int p2] S q.1 q.2 := by
  refine z_enter (ls := [some (.ref 60), some (.int p1), some (.int p2), none]) (n := 1) (by decide) rfl (Nat.le_of_ble_eq_true rfl) hst ?_
  unfold F_X6_childPlace at hF
  refine z_iconst (v := 0) (pc' := 1) dX6_childPlace_0 (by decide) rfl ?_
  refine z_istore_n (pc' := 2) dX6_childPlace_1 rfl (by decide) rfl rfl ?_
  refine z_wk (ls' := [some (.ref 60), some (.int p1), some (.int p2), some (.int 0)]) (z_lec rfl (z_lec rfl (z_lec rfl (z_lec rfl z_le0)))) ?_
  exact (ok_X6_childPlace_2 hst z_n) _ _ _ _ hF
theorem ok_X6_childPlace : z_okV I_X6_childPlace 2 := ⟨⟨z_Gin (List.mem_of_getElem? (i := 1071) (by decide +kernel)) rfl, z_Gin (List.mem_of_getElem? (i := 60) (by decide +kernel)) rfl, z_Gin (List.mem_of_getElem? (i := 98) (by decide +kernel)) rfl, z_Gin (List.mem_of_getElem? (i := 1072) (by decide +kernel)) rfl⟩, by decide, by decide, by decide +kernel⟩
theorem k_X6_childPlace {l : Launch} {I : z_I} {R : Room} {B : Nat} {p1 : Int32} {p2 : Int32} {q : z_O × z_S} {pc pc' : Nat} {ls : List (Option Value)} {st : List Value} {S S1 : z_S} {idx F L : Nat} {r : Int32}  (hF : F_X6_childPlace B p1 p2 S = some (.inl (some r), S1)) (hst : l.stackTraces = false) (w : Cond.methodLink I.1.cls idx yX6_childPlace ∈ z_G) (hRF : R.frames = F) (hRL : R.locals = L) (h1 : 1 ≤ F) (h2 : 23 ≤ L) (hs : (st.map fun v => v.category).sum ≤ 8) (d : decode I.2.1 pc = .ok (.invokevirtual idx, 3)) (hp : pc + 3 = pc') (k : z_W l I R B q pc' ls (.int r :: st) S1) : z_W l I R B q pc ls (.int p2 :: .int p1 :: .ref 60 :: st) S := z_callV (Y := I_X6_childPlace) (As := [.int p1, .int p2]) (st := st) (r := (some r)) (S1 := S1) (c_X6_childPlace (q := (.inl (some r), S1)) hst hF) ok_X6_childPlace w (ci := 6) rfl is_6_60.1 is_6_60.2 rfl ⟨by rw [hRF]; exact h1, by rw [hRL]; exact h2⟩ hs d hp rfl k

abbrev I_X6_takeChild : z_I := (yX6_takeChild, cX6_takeChild, 5, some .int)
abbrev R_X6_takeChild (q : z_O × z_S) : Room := { frames := 0, locals := 0, cells := z_mc q.1, slots := 6 * z_mc q.1 }
def F_X6_takeChild_19 (B : Nat)  : Nat → Int32 → Int32 → Int32 → z_S → Option (z_O × z_S)
  | 0, _, _, _, _ => none
  | n + 1, v1, v3, v4, S => z_gd (z_inb (3852 + v1) 25366) (
  z_lt (S.1 61 (z_ix (3852 + v1))) fun x2 =>
  (if x2 ≤ (v4 + 1) then
    z_gd (z_inb (3852 + v1) 25366) (
    z_lt (S.1 61 (z_ix (3852 + v1))) fun x4 =>
    (z_gd (z_inb (3852 + v1) 25366) (
    z_lt (z_ua S 61 (upd (S.1 61) (z_ix (3852 + v1)) (x4 - 1))) fun S6 =>
    (some (.inl (some v3), S6)))))
  else
    z_gd (z_inb (((4044 + (6 * v1)) + v4) + 1) 25366) (
    z_lt (S.1 61 (z_ix (((4044 + (6 * v1)) + v4) + 1))) fun x8 =>
    (z_gd (z_inb ((4044 + (6 * v1)) + v4) 25366) (
    z_lt (z_ua S 61 (upd (S.1 61) (z_ix ((4044 + (6 * v1)) + v4)) x8)) fun S10 =>
    (F_X6_takeChild_19 B n v1 v3 (v4 + 1) S10))))))
set_option maxRecDepth 20000 in
set_option maxHeartbeats 16000000 in
theorem ok_X6_takeChild_19 {l : Launch} {B : Nat} {q : z_O × z_S} (hst : l.stackTraces = false) : ∀ (n : Nat) (v1 : Int32) (v3 : Int32) (v4 : Int32) (S : z_S), F_X6_takeChild_19 B n v1 v3 v4 S = some q → z_W l I_X6_takeChild (R_X6_takeChild q) B q 19 [some (.ref 60), some (.int v1), none, some (.int v3), some (.int v4)] [] S := by
  intro n
  induction n with
  | zero => intro v1 v3 v4 S hF; cases hF
  | succ n ih =>
    intro v1 v3 v4 S hF
    rw [F_X6_takeChild_19] at hF
    refine z_iload (pc' := 21) dX6_takeChild_19 rfl rfl ?_
    refine z_iconst (v := 1) (pc' := 22) dX6_takeChild_21 (by decide) rfl ?_
    refine z_iadd (pc' := 23) dX6_takeChild_22 rfl ?_
    refine z_aload_n (pc' := 24) dX6_takeChild_23 rfl rfl rfl ?_
    refine gf_X6_7 (b := 61) (pc' := 27) rfl is_6_60 rfl dX6_takeChild_24 rfl ?_
    refine z_sipush (v := 3852) (pc' := 30) dX6_takeChild_27 (by decide) rfl ?_
    refine z_iload_n (pc' := 31) dX6_takeChild_30 rfl rfl rfl ?_
    refine z_iadd (pc' := 32) dX6_takeChild_31 rfl ?_
    obtain ⟨g1, hF⟩ := z_gde hF
    refine z_iaload (pc' := 33) (ar_6_f3 is_6_60) (z_inbe g1) dX6_takeChild_32 rfl ?_
    refine z_topi (fun x2 ex2 => ?_)
    replace hF := z_lte hF x2 ex2
    refine z_icmp_ge (tgt := 76) (pc' := 36) dX6_takeChild_33 (by decide) rfl (fun c11 => ?_) (fun c11 => ?_)
    · rw [if_pos c11] at hF
      refine z_aload_n (pc' := 77) dX6_takeChild_76 rfl rfl rfl ?_
      refine gf_X6_7 (b := 61) (pc' := 80) rfl is_6_60 rfl dX6_takeChild_77 rfl ?_
      refine z_sipush (v := 3852) (pc' := 83) dX6_takeChild_80 (by decide) rfl ?_
      refine z_iload_n (pc' := 84) dX6_takeChild_83 rfl rfl rfl ?_
      refine z_iadd (pc' := 85) dX6_takeChild_84 rfl ?_
      refine z_dup2 (pc' := 86) dX6_takeChild_85 rfl ?_
      obtain ⟨g3, hF⟩ := z_gde hF
      refine z_iaload (pc' := 87) (ar_6_f3 is_6_60) (z_inbe g3) dX6_takeChild_86 rfl ?_
      refine z_topi (fun x4 ex4 => ?_)
      replace hF := z_lte hF x4 ex4
      refine z_iconst (v := 1) (pc' := 88) dX6_takeChild_87 (by decide) rfl ?_
      refine z_isub (pc' := 89) dX6_takeChild_88 rfl ?_
      obtain ⟨g5, hF⟩ := z_gde hF
      refine z_iastore (pc' := 90) (ar_6_f3 is_6_60) (z_inbe g5) dX6_takeChild_89 rfl (fun S6 eS6 => ?_)
      replace hF := z_lte hF S6 eS6
      refine z_iload_n (pc' := 91) dX6_takeChild_90 rfl rfl rfl ?_
      exact z_ireturn rfl dX6_takeChild_91 (Option.some.inj hF).symm
    · rw [if_neg c11] at hF
      refine z_aload_n (pc' := 37) dX6_takeChild_36 rfl rfl rfl ?_
      refine gf_X6_7 (b := 61) (pc' := 40) rfl is_6_60 rfl dX6_takeChild_37 rfl ?_
      refine z_sipush (v := 4044) (pc' := 43) dX6_takeChild_40 (by decide) rfl ?_
      refine z_bipush (v := 6) (pc' := 45) dX6_takeChild_43 (by decide) rfl ?_
      refine z_iload_n (pc' := 46) dX6_takeChild_45 rfl rfl rfl ?_
      refine z_imul (pc' := 47) dX6_takeChild_46 rfl ?_
      refine z_iadd (pc' := 48) dX6_takeChild_47 rfl ?_
      refine z_iload (pc' := 50) dX6_takeChild_48 rfl rfl ?_
      refine z_iadd (pc' := 51) dX6_takeChild_50 rfl ?_
      refine z_aload_n (pc' := 52) dX6_takeChild_51 rfl rfl rfl ?_
      refine gf_X6_7 (b := 61) (pc' := 55) rfl is_6_60 rfl dX6_takeChild_52 rfl ?_
      refine z_sipush (v := 4044) (pc' := 58) dX6_takeChild_55 (by decide) rfl ?_
      refine z_bipush (v := 6) (pc' := 60) dX6_takeChild_58 (by decide) rfl ?_
      refine z_iload_n (pc' := 61) dX6_takeChild_60 rfl rfl rfl ?_
      refine z_imul (pc' := 62) dX6_takeChild_61 rfl ?_
      refine z_iadd (pc' := 63) dX6_takeChild_62 rfl ?_
      refine z_iload (pc' := 65) dX6_takeChild_63 rfl rfl ?_
      refine z_iadd (pc' := 66) dX6_takeChild_65 rfl ?_
      refine z_iconst (v := 1) (pc' := 67) dX6_takeChild_66 (by decide) rfl ?_
      refine z_iadd (pc' := 68) dX6_takeChild_67 rfl ?_
      obtain ⟨g7, hF⟩ := z_gde hF
      refine z_iaload (pc' := 69) (ar_6_f3 is_6_60) (z_inbe g7) dX6_takeChild_68 rfl ?_
      refine z_topi (fun x8 ex8 => ?_)
      replace hF := z_lte hF x8 ex8
      obtain ⟨g9, hF⟩ := z_gde hF
      refine z_iastore (pc' := 70) (ar_6_f3 is_6_60) (z_inbe g9) dX6_takeChild_69 rfl (fun S10 eS10 => ?_)
      replace hF := z_lte hF S10 eS10
      refine z_iinc (v := v4 + 1) (pc' := 73) dX6_takeChild_70 rfl rfl (by decide) rfl rfl ?_
      refine z_goto (pc' := 19) dX6_takeChild_73 (by decide) ?_
      refine z_wk (ls' := [some (.ref 60), some (.int v1), none, some (.int v3), some (.int (v4 + 1))]) (z_lec rfl (z_lec rfl (z_len1 (z_lec rfl (z_lec rfl z_le0))))) ?_
      exact ih _ _ _ _ hF
def F_X6_takeChild (B : Nat) (p1 : Int32) (p2 : Int32) (S : z_S) : Option (z_O × z_S) :=
  z_gd (z_inb ((4044 + (6 * p1)) + p2) 25366) (
  z_lt (S.1 61 (z_ix ((4044 + (6 * p1)) + p2))) fun x2 =>
  (F_X6_takeChild_19 B z_n p1 x2 p2 S))
set_option maxRecDepth 20000 in
set_option maxHeartbeats 16000000 in
theorem c_X6_takeChild {l : Launch} {B : Nat} {p1 : Int32} {p2 : Int32} {S : z_S} {q : z_O × z_S} (hst : l.stackTraces = false) (hF : F_X6_takeChild B p1 p2 S = some q) : z_Met l I_X6_takeChild 0 0 B [.ref 60, .int p1, .int p2] S q.1 q.2 := by
  refine z_enter (ls := [some (.ref 60), some (.int p1), some (.int p2), none, none]) (n := 2) (by decide) rfl (Nat.le_of_ble_eq_true rfl) hst ?_
  unfold F_X6_takeChild at hF
  refine z_aload_n (pc' := 1) dX6_takeChild_0 rfl rfl rfl ?_
  refine gf_X6_7 (b := 61) (pc' := 4) rfl is_6_60 rfl dX6_takeChild_1 rfl ?_
  refine z_sipush (v := 4044) (pc' := 7) dX6_takeChild_4 (by decide) rfl ?_
  refine z_bipush (v := 6) (pc' := 9) dX6_takeChild_7 (by decide) rfl ?_
  refine z_iload_n (pc' := 10) dX6_takeChild_9 rfl rfl rfl ?_
  refine z_imul (pc' := 11) dX6_takeChild_10 rfl ?_
  refine z_iadd (pc' := 12) dX6_takeChild_11 rfl ?_
  refine z_iload_n (pc' := 13) dX6_takeChild_12 rfl rfl rfl ?_
  refine z_iadd (pc' := 14) dX6_takeChild_13 rfl ?_
  obtain ⟨g1, hF⟩ := z_gde hF
  refine z_iaload (pc' := 15) (ar_6_f3 is_6_60) (z_inbe g1) dX6_takeChild_14 rfl ?_
  refine z_topi (fun x2 ex2 => ?_)
  replace hF := z_lte hF x2 ex2
  refine z_istore_n (pc' := 16) dX6_takeChild_15 rfl (by decide) rfl rfl ?_
  refine z_iload_n (pc' := 17) dX6_takeChild_16 rfl rfl rfl ?_
  refine z_istore (pc' := 19) dX6_takeChild_17 (by decide) rfl rfl ?_
  refine z_wk (ls' := [some (.ref 60), some (.int p1), none, some (.int x2), some (.int p2)]) (z_lec rfl (z_lec rfl (z_len1 (z_lec rfl (z_lec rfl z_le0))))) ?_
  exact (ok_X6_takeChild_19 hst z_n) _ _ _ _ hF
theorem ok_X6_takeChild : z_okV I_X6_takeChild 2 := ⟨⟨z_Gin (List.mem_of_getElem? (i := 1075) (by decide +kernel)) rfl, z_Gin (List.mem_of_getElem? (i := 61) (by decide +kernel)) rfl, z_Gin (List.mem_of_getElem? (i := 98) (by decide +kernel)) rfl, z_Gin (List.mem_of_getElem? (i := 1076) (by decide +kernel)) rfl⟩, by decide, by decide, by decide +kernel⟩
theorem k_X6_takeChild {l : Launch} {I : z_I} {R : Room} {B : Nat} {p1 : Int32} {p2 : Int32} {q : z_O × z_S} {pc pc' : Nat} {ls : List (Option Value)} {st : List Value} {S S1 : z_S} {idx F L : Nat} {r : Int32}  (hF : F_X6_takeChild B p1 p2 S = some (.inl (some r), S1)) (hst : l.stackTraces = false) (w : Cond.methodLink I.1.cls idx yX6_takeChild ∈ z_G) (hRF : R.frames = F) (hRL : R.locals = L) (h1 : 1 ≤ F) (h2 : 24 ≤ L) (hs : (st.map fun v => v.category).sum ≤ 8) (d : decode I.2.1 pc = .ok (.invokevirtual idx, 3)) (hp : pc + 3 = pc') (k : z_W l I R B q pc' ls (.int r :: st) S1) : z_W l I R B q pc ls (.int p2 :: .int p1 :: .ref 60 :: st) S := z_callV (Y := I_X6_takeChild) (As := [.int p1, .int p2]) (st := st) (r := (some r)) (S1 := S1) (c_X6_takeChild (q := (.inl (some r), S1)) hst hF) ok_X6_takeChild w (ci := 6) rfl is_6_60.1 is_6_60.2 rfl ⟨by rw [hRF]; exact h1, by rw [hRL]; exact h2⟩ hs d hp rfl k

abbrev I_X6_added : z_I := (yX6_added, cX6_added, 8, none)
abbrev R_X6_added (q : z_O × z_S) : Room := { frames := 3, locals := 70, cells := z_mc q.1, slots := 6 * z_mc q.1 }
def F_X6_added_220 (B : Nat) (k5 : Int32 → Int32 → z_S → Option (z_O × z_S)) : Nat → Int32 → Int32 → Int32 → z_S → Option (z_O × z_S)
  | 0, _, _, _, _ => none
  | n + 1, v5, v6, v7, S => if 3 ≤ v7 then
    z_bo (F_X6_lineUp B v6 v5 S) fun S2 =>
    (k5 v5 v6 S2)
  else
    z_gd (z_inb (3852 + v5) 25366) (
    z_lt (S.1 61 (z_ix (3852 + v5))) fun x5 =>
    (z_bn (F_X6_takeChild B v5 (x5 - 1) S) fun r6 S7 =>
    (z_bo (F_X6_child B v6 0 r6 S7) fun S10 =>
    (F_X6_added_220 B k5 n v5 v6 (v7 + 1) S10))))
set_option maxRecDepth 20000 in
set_option maxHeartbeats 16000000 in
theorem ok_X6_added_220 {l : Launch} {B : Nat} {q : z_O × z_S} (hst : l.stackTraces = false) {k5 : Int32 → Int32 → z_S → Option (z_O × z_S)} (hk5 : ∀ (v3 : Int32) (v4 : Int32) (S : z_S), k5 v3 v4 S = some q → z_W l I_X6_added (R_X6_added q) B q 5 [some (.ref 60), none, none, some (.int v3), some (.int v4), none, none, none] [] S) : ∀ (n : Nat) (v5 : Int32) (v6 : Int32) (v7 : Int32) (S : z_S), F_X6_added_220 B k5 n v5 v6 v7 S = some q → z_W l I_X6_added (R_X6_added q) B q 220 [some (.ref 60), none, none, none, none, some (.int v5), some (.int v6), some (.int v7)] [] S := by
  intro n
  induction n with
  | zero => intro v5 v6 v7 S hF; cases hF
  | succ n ih =>
    intro v5 v6 v7 S hF
    rw [F_X6_added_220] at hF
    refine z_iload (pc' := 222) dX6_added_220 rfl rfl ?_
    refine z_iconst (v := 3) (pc' := 223) dX6_added_222 (by decide) rfl ?_
    refine z_icmp_ge (tgt := 258) (pc' := 226) dX6_added_223 (by decide) rfl (fun c12 => ?_) (fun c12 => ?_)
    · rw [if_pos c12] at hF
      refine z_aload_n (pc' := 259) dX6_added_258 rfl rfl rfl ?_
      refine z_iload (pc' := 261) dX6_added_259 rfl rfl ?_
      refine z_iload (pc' := 263) dX6_added_261 rfl rfl ?_
      obtain ⟨S2, hc3, hF⟩ := z_boe hF
      refine k_X6_lineUp (F := 3) (L := 70) (pc' := 266) hc3 hst zw_111 rfl rfl (by decide) (by decide) (by decide) dX6_added_263 rfl ?_
      refine z_iload (pc' := 268) dX6_added_266 rfl rfl ?_
      refine z_istore_n (pc' := 269) dX6_added_268 rfl (by decide) rfl rfl ?_
      refine z_iload (pc' := 271) dX6_added_269 rfl rfl ?_
      refine z_istore (pc' := 273) dX6_added_271 (by decide) rfl rfl ?_
      refine z_goto (pc' := 5) dX6_added_273 (by decide) ?_
      refine z_wk (ls' := [some (.ref 60), none, none, some (.int v5), some (.int v6), none, none, none]) (z_lec rfl (z_len1 (z_len1 (z_lec rfl (z_lec rfl (z_len1 (z_len1 (z_len1 z_le0)))))))) ?_
      exact hk5 _ _ _ hF
    · rw [if_neg c12] at hF
      refine z_aload_n (pc' := 227) dX6_added_226 rfl rfl rfl ?_
      refine z_iload (pc' := 229) dX6_added_227 rfl rfl ?_
      refine z_iconst (v := 0) (pc' := 230) dX6_added_229 (by decide) rfl ?_
      refine z_aload_n (pc' := 231) dX6_added_230 rfl rfl rfl ?_
      refine z_iload (pc' := 233) dX6_added_231 rfl rfl ?_
      refine z_aload_n (pc' := 234) dX6_added_233 rfl rfl rfl ?_
      refine gf_X6_7 (b := 61) (pc' := 237) rfl is_6_60 rfl dX6_added_234 rfl ?_
      refine z_sipush (v := 3852) (pc' := 240) dX6_added_237 (by decide) rfl ?_
      refine z_iload (pc' := 242) dX6_added_240 rfl rfl ?_
      refine z_iadd (pc' := 243) dX6_added_242 rfl ?_
      obtain ⟨g4, hF⟩ := z_gde hF
      refine z_iaload (pc' := 244) (ar_6_f3 is_6_60) (z_inbe g4) dX6_added_243 rfl ?_
      refine z_topi (fun x5 ex5 => ?_)
      replace hF := z_lte hF x5 ex5
      refine z_iconst (v := 1) (pc' := 245) dX6_added_244 (by decide) rfl ?_
      refine z_isub (pc' := 246) dX6_added_245 rfl ?_
      obtain ⟨r6, S7, hc8, hF⟩ := z_bne hF
      refine k_X6_takeChild (F := 3) (L := 70) (pc' := 249) hc8 hst zw_112 rfl rfl (by decide) (by decide) (Nat.le_of_ble_eq_true rfl) dX6_added_246 rfl ?_
      obtain ⟨S10, hc11, hF⟩ := z_boe hF
      refine k_X6_child (F := 3) (L := 70) (pc' := 252) hc11 hst zw_109 rfl rfl (by decide) (by decide) (by decide) dX6_added_249 rfl ?_
      refine z_iinc (v := v7 + 1) (pc' := 255) dX6_added_252 rfl rfl (by decide) rfl rfl ?_
      refine z_goto (pc' := 220) dX6_added_255 (by decide) ?_
      refine z_wk (ls' := [some (.ref 60), none, none, none, none, some (.int v5), some (.int v6), some (.int (v7 + 1))]) (z_lec rfl (z_len1 (z_len1 (z_len1 (z_len1 (z_lec rfl (z_lec rfl (z_lec rfl z_le0)))))))) ?_
      exact ih _ _ _ _ hF
def F_X6_added_5 (B : Nat)  : Nat → Int32 → Int32 → z_S → Option (z_O × z_S)
  | 0, _, _, _ => none
  | n + 1, v3, v4, S => if (S.2.1 60 7) = 0 then
    z_gd (z_inb (3948 + v3) 25366) (
    z_lt (S.1 61 (z_ix (3948 + v3))) fun x2 =>
    (if x2 = (-1) then
      z_bn (F_X6_take B S) fun r20 S21 =>
      (if (S21.2.1 60 7) = 0 then
        z_bn (F_X6_height B v3 S21) fun r23 S24 =>
        (z_gd (z_inb (3756 + r20) 25366) (
        z_lt (z_ua S24 61 (upd (S24.1 61) (z_ix (3756 + r20)) ((r23 + 1) + 1))) fun S27 =>
        (z_gd (z_inb (3948 + r20) 25366) (
        z_lt (z_ua S27 61 (upd (S27.1 61) (z_ix (3948 + r20)) (-1))) fun S29 =>
        (z_bo (F_X6_child B r20 0 v3 S29) fun S31 =>
        (z_bo (F_X6_child B r20 1 v4 S31) fun S34 =>
        (z_gd (z_inb (12300 + (96 * (r23 + 1))) 25366) (
        z_lt (z_ua S34 61 (upd (S34.1 61) (z_ix (12300 + (96 * (r23 + 1)))) r20)) fun S37 =>
        (z_gd (z_inb (13068 + (r23 + 1)) 25366) (
        z_lt (z_ua S37 61 (upd (S37.1 61) (z_ix (13068 + (r23 + 1))) 1)) fun S39 =>
        (z_gd (z_inb 13076 25366) (
        z_lt (z_ua S39 61 (upd (S39.1 61) (z_ix (13076)) r20)) fun S41 =>
        (z_gd (z_inb 13077 25366) (
        z_lt (S41.1 61 (z_ix (13077))) fun x43 =>
        (z_gd (z_inb 13077 25366) (
        z_lt (z_ua S41 61 (upd (S41.1 61) (z_ix (13077)) (x43 + 1))) fun S45 =>
        (some (.inl none, S45))))))))))))))))))
      else
        some (.inl none, S21))
    else
      z_bn (F_X6_childPlace B x2 v3 S) fun r3 S4 =>
      (z_bo (F_X6_child B x2 (r3 + 1) v4 S4) fun S7 =>
      (z_gd (z_inb (3852 + x2) 25366) (
      z_lt (S7.1 61 (z_ix (3852 + x2))) fun x10 =>
      (if 5 < x10 then
        z_bn (F_X6_take B S7) fun r11 S12 =>
        (if (S12.2.1 60 7) = 0 then
          z_gd (z_inb (3756 + x2) 25366) (
          z_lt (S12.1 61 (z_ix (3756 + x2))) fun x15 =>
          (z_gd (z_inb (3756 + r11) 25366) (
          z_lt (z_ua S12 61 (upd (S12.1 61) (z_ix (3756 + r11)) x15)) fun S17 =>
          (F_X6_added_220 B (F_X6_added_5 B n) z_n x2 r11 0 S17))))
        else
          some (.inl none, S12))
      else
        some (.inl none, S7)))))))
  else
    some (.inl none, S)
set_option maxRecDepth 20000 in
set_option maxHeartbeats 16000000 in
theorem ok_X6_added_5 {l : Launch} {B : Nat} {q : z_O × z_S} (hst : l.stackTraces = false) : ∀ (n : Nat) (v3 : Int32) (v4 : Int32) (S : z_S), F_X6_added_5 B n v3 v4 S = some q → z_W l I_X6_added (R_X6_added q) B q 5 [some (.ref 60), none, none, some (.int v3), some (.int v4), none, none, none] [] S := by
  intro n
  induction n with
  | zero => intro v3 v4 S hF; cases hF
  | succ n ih =>
    intro v3 v4 S hF
    rw [F_X6_added_5] at hF
    refine z_aload_n (pc' := 6) dX6_added_5 rfl rfl rfl ?_
    refine gf_X6_51 (pc' := 9) rfl is_6_60 dX6_added_6 rfl ?_
    refine z_if_ne (tgt := 276) (pc' := 12) dX6_added_9 (by decide) rfl (fun c48 => ?_) (fun c48 => ?_)
    · rw [if_neg c48] at hF
      exact z_return rfl dX6_added_276 (Option.some.inj hF).symm
    · rw [if_pos c48] at hF
      refine z_aload_n (pc' := 13) dX6_added_12 rfl rfl rfl ?_
      refine gf_X6_7 (b := 61) (pc' := 16) rfl is_6_60 rfl dX6_added_13 rfl ?_
      refine z_sipush (v := 3948) (pc' := 19) dX6_added_16 (by decide) rfl ?_
      refine z_iload_n (pc' := 20) dX6_added_19 rfl rfl rfl ?_
      refine z_iadd (pc' := 21) dX6_added_20 rfl ?_
      obtain ⟨g1, hF⟩ := z_gde hF
      refine z_iaload (pc' := 22) (ar_6_f3 is_6_60) (z_inbe g1) dX6_added_21 rfl ?_
      refine z_topi (fun x2 ex2 => ?_)
      replace hF := z_lte hF x2 ex2
      refine z_istore (pc' := 24) dX6_added_22 (by decide) rfl rfl ?_
      refine z_iload (pc' := 26) dX6_added_24 rfl rfl ?_
      refine z_iconst (v := (-1)) (pc' := 27) dX6_added_26 (by decide) rfl ?_
      refine z_icmp_ne (tgt := 148) (pc' := 30) dX6_added_27 (by decide) rfl (fun c47 => ?_) (fun c47 => ?_)
      · rw [if_neg c47] at hF
        refine z_aload_n (pc' := 149) dX6_added_148 rfl rfl rfl ?_
        refine z_iload (pc' := 151) dX6_added_149 rfl rfl ?_
        refine z_aload_n (pc' := 152) dX6_added_151 rfl rfl rfl ?_
        refine z_iload (pc' := 154) dX6_added_152 rfl rfl ?_
        refine z_iload_n (pc' := 155) dX6_added_154 rfl rfl rfl ?_
        obtain ⟨r3, S4, hc5, hF⟩ := z_bne hF
        refine k_X6_childPlace (F := 3) (L := 70) (pc' := 158) hc5 hst zw_108 rfl rfl (by decide) (by decide) (Nat.le_of_ble_eq_true rfl) dX6_added_155 rfl ?_
        refine z_iconst (v := 1) (pc' := 159) dX6_added_158 (by decide) rfl ?_
        refine z_iadd (pc' := 160) dX6_added_159 rfl ?_
        refine z_iload (pc' := 162) dX6_added_160 rfl rfl ?_
        obtain ⟨S7, hc8, hF⟩ := z_boe hF
        refine k_X6_child (F := 3) (L := 70) (pc' := 165) hc8 hst zw_109 rfl rfl (by decide) (by decide) (by decide) dX6_added_162 rfl ?_
        refine z_aload_n (pc' := 166) dX6_added_165 rfl rfl rfl ?_
        refine gf_X6_7 (b := 61) (pc' := 169) rfl is_6_60 rfl dX6_added_166 rfl ?_
        refine z_sipush (v := 3852) (pc' := 172) dX6_added_169 (by decide) rfl ?_
        refine z_iload (pc' := 174) dX6_added_172 rfl rfl ?_
        refine z_iadd (pc' := 175) dX6_added_174 rfl ?_
        obtain ⟨g9, hF⟩ := z_gde hF
        refine z_iaload (pc' := 176) (ar_6_f3 is_6_60) (z_inbe g9) dX6_added_175 rfl ?_
        refine z_topi (fun x10 ex10 => ?_)
        replace hF := z_lte hF x10 ex10
        refine z_iconst (v := 5) (pc' := 177) dX6_added_176 (by decide) rfl ?_
        refine z_icmp_gt (tgt := 181) (pc' := 180) dX6_added_177 (by decide) rfl (fun c19 => ?_) (fun c19 => ?_)
        · rw [if_pos c19] at hF
          refine z_aload_n (pc' := 182) dX6_added_181 rfl rfl rfl ?_
          obtain ⟨r11, S12, hc13, hF⟩ := z_bne hF
          refine k_X6_take (F := 3) (L := 70) (pc' := 185) hc13 hst zw_110 rfl rfl (by decide) (by decide) (by decide) dX6_added_182 rfl ?_
          refine z_istore (pc' := 187) dX6_added_185 (by decide) rfl rfl ?_
          refine z_aload_n (pc' := 188) dX6_added_187 rfl rfl rfl ?_
          refine gf_X6_51 (pc' := 191) rfl is_6_60 dX6_added_188 rfl ?_
          refine z_if_eq (tgt := 195) (pc' := 194) dX6_added_191 (by decide) rfl (fun c18 => ?_) (fun c18 => ?_)
          · rw [if_pos c18] at hF
            refine z_aload_n (pc' := 196) dX6_added_195 rfl rfl rfl ?_
            refine gf_X6_7 (b := 61) (pc' := 199) rfl is_6_60 rfl dX6_added_196 rfl ?_
            refine z_sipush (v := 3756) (pc' := 202) dX6_added_199 (by decide) rfl ?_
            refine z_iload (pc' := 204) dX6_added_202 rfl rfl ?_
            refine z_iadd (pc' := 205) dX6_added_204 rfl ?_
            refine z_aload_n (pc' := 206) dX6_added_205 rfl rfl rfl ?_
            refine gf_X6_7 (b := 61) (pc' := 209) rfl is_6_60 rfl dX6_added_206 rfl ?_
            refine z_sipush (v := 3756) (pc' := 212) dX6_added_209 (by decide) rfl ?_
            refine z_iload (pc' := 214) dX6_added_212 rfl rfl ?_
            refine z_iadd (pc' := 215) dX6_added_214 rfl ?_
            obtain ⟨g14, hF⟩ := z_gde hF
            refine z_iaload (pc' := 216) (ar_6_f3 is_6_60) (z_inbe g14) dX6_added_215 rfl ?_
            refine z_topi (fun x15 ex15 => ?_)
            replace hF := z_lte hF x15 ex15
            obtain ⟨g16, hF⟩ := z_gde hF
            refine z_iastore (pc' := 217) (ar_6_f3 is_6_60) (z_inbe g16) dX6_added_216 rfl (fun S17 eS17 => ?_)
            replace hF := z_lte hF S17 eS17
            refine z_iconst (v := 0) (pc' := 218) dX6_added_217 (by decide) rfl ?_
            refine z_istore (pc' := 220) dX6_added_218 (by decide) rfl rfl ?_
            refine z_wk (ls' := [some (.ref 60), none, none, none, none, some (.int x2), some (.int r11), some (.int 0)]) (z_lec rfl (z_len1 (z_len1 (z_len1 (z_len1 (z_lec rfl (z_lec rfl (z_lec rfl z_le0)))))))) ?_
            exact (ok_X6_added_220 hst ih z_n) _ _ _ _ hF
          · rw [if_neg c18] at hF
            exact z_return rfl dX6_added_194 (Option.some.inj hF).symm
        · rw [if_neg c19] at hF
          exact z_return rfl dX6_added_180 (Option.some.inj hF).symm
      · rw [if_pos c47] at hF
        refine z_aload_n (pc' := 31) dX6_added_30 rfl rfl rfl ?_
        obtain ⟨r20, S21, hc22, hF⟩ := z_bne hF
        refine k_X6_take (F := 3) (L := 70) (pc' := 34) hc22 hst zw_110 rfl rfl (by decide) (by decide) (by decide) dX6_added_31 rfl ?_
        refine z_istore (pc' := 36) dX6_added_34 (by decide) rfl rfl ?_
        refine z_aload_n (pc' := 37) dX6_added_36 rfl rfl rfl ?_
        refine gf_X6_51 (pc' := 40) rfl is_6_60 dX6_added_37 rfl ?_
        refine z_if_eq (tgt := 44) (pc' := 43) dX6_added_40 (by decide) rfl (fun c46 => ?_) (fun c46 => ?_)
        · rw [if_pos c46] at hF
          refine z_aload_n (pc' := 45) dX6_added_44 rfl rfl rfl ?_
          refine z_iload_n (pc' := 46) dX6_added_45 rfl rfl rfl ?_
          obtain ⟨r23, S24, hc25, hF⟩ := z_bne hF
          refine k_X6_height (F := 3) (L := 70) (pc' := 49) hc25 hst zw_106 rfl rfl (by decide) (by decide) (by decide) dX6_added_46 rfl ?_
          refine z_iconst (v := 1) (pc' := 50) dX6_added_49 (by decide) rfl ?_
          refine z_iadd (pc' := 51) dX6_added_50 rfl ?_
          refine z_istore (pc' := 53) dX6_added_51 (by decide) rfl rfl ?_
          refine z_aload_n (pc' := 54) dX6_added_53 rfl rfl rfl ?_
          refine gf_X6_7 (b := 61) (pc' := 57) rfl is_6_60 rfl dX6_added_54 rfl ?_
          refine z_sipush (v := 3756) (pc' := 60) dX6_added_57 (by decide) rfl ?_
          refine z_iload (pc' := 62) dX6_added_60 rfl rfl ?_
          refine z_iadd (pc' := 63) dX6_added_62 rfl ?_
          refine z_iload (pc' := 65) dX6_added_63 rfl rfl ?_
          refine z_iconst (v := 1) (pc' := 66) dX6_added_65 (by decide) rfl ?_
          refine z_iadd (pc' := 67) dX6_added_66 rfl ?_
          obtain ⟨g26, hF⟩ := z_gde hF
          refine z_iastore (pc' := 68) (ar_6_f3 is_6_60) (z_inbe g26) dX6_added_67 rfl (fun S27 eS27 => ?_)
          replace hF := z_lte hF S27 eS27
          refine z_aload_n (pc' := 69) dX6_added_68 rfl rfl rfl ?_
          refine gf_X6_7 (b := 61) (pc' := 72) rfl is_6_60 rfl dX6_added_69 rfl ?_
          refine z_sipush (v := 3948) (pc' := 75) dX6_added_72 (by decide) rfl ?_
          refine z_iload (pc' := 77) dX6_added_75 rfl rfl ?_
          refine z_iadd (pc' := 78) dX6_added_77 rfl ?_
          refine z_iconst (v := (-1)) (pc' := 79) dX6_added_78 (by decide) rfl ?_
          obtain ⟨g28, hF⟩ := z_gde hF
          refine z_iastore (pc' := 80) (ar_6_f3 is_6_60) (z_inbe g28) dX6_added_79 rfl (fun S29 eS29 => ?_)
          replace hF := z_lte hF S29 eS29
          refine z_aload_n (pc' := 81) dX6_added_80 rfl rfl rfl ?_
          refine z_iload (pc' := 83) dX6_added_81 rfl rfl ?_
          refine z_iconst (v := 0) (pc' := 84) dX6_added_83 (by decide) rfl ?_
          refine z_iload_n (pc' := 85) dX6_added_84 rfl rfl rfl ?_
          obtain ⟨S31, hc32, hF⟩ := z_boe hF
          refine k_X6_child (F := 3) (L := 70) (pc' := 88) hc32 hst zw_109 rfl rfl (by decide) (by decide) (by decide) dX6_added_85 rfl ?_
          refine z_aload_n (pc' := 89) dX6_added_88 rfl rfl rfl ?_
          refine z_iload (pc' := 91) dX6_added_89 rfl rfl ?_
          refine z_iconst (v := 1) (pc' := 92) dX6_added_91 (by decide) rfl ?_
          refine z_iload (pc' := 94) dX6_added_92 rfl rfl ?_
          obtain ⟨S34, hc35, hF⟩ := z_boe hF
          refine k_X6_child (F := 3) (L := 70) (pc' := 97) hc35 hst zw_109 rfl rfl (by decide) (by decide) (by decide) dX6_added_94 rfl ?_
          refine z_aload_n (pc' := 98) dX6_added_97 rfl rfl rfl ?_
          refine gf_X6_7 (b := 61) (pc' := 101) rfl is_6_60 rfl dX6_added_98 rfl ?_
          refine z_sipush (v := 12300) (pc' := 104) dX6_added_101 (by decide) rfl ?_
          refine z_bipush (v := 96) (pc' := 106) dX6_added_104 (by decide) rfl ?_
          refine z_iload (pc' := 108) dX6_added_106 rfl rfl ?_
          refine z_imul (pc' := 109) dX6_added_108 rfl ?_
          refine z_iadd (pc' := 110) dX6_added_109 rfl ?_
          refine z_iload (pc' := 112) dX6_added_110 rfl rfl ?_
          obtain ⟨g36, hF⟩ := z_gde hF
          refine z_iastore (pc' := 113) (ar_6_f3 is_6_60) (z_inbe g36) dX6_added_112 rfl (fun S37 eS37 => ?_)
          replace hF := z_lte hF S37 eS37
          refine z_aload_n (pc' := 114) dX6_added_113 rfl rfl rfl ?_
          refine gf_X6_7 (b := 61) (pc' := 117) rfl is_6_60 rfl dX6_added_114 rfl ?_
          refine z_sipush (v := 13068) (pc' := 120) dX6_added_117 (by decide) rfl ?_
          refine z_iload (pc' := 122) dX6_added_120 rfl rfl ?_
          refine z_iadd (pc' := 123) dX6_added_122 rfl ?_
          refine z_iconst (v := 1) (pc' := 124) dX6_added_123 (by decide) rfl ?_
          obtain ⟨g38, hF⟩ := z_gde hF
          refine z_iastore (pc' := 125) (ar_6_f3 is_6_60) (z_inbe g38) dX6_added_124 rfl (fun S39 eS39 => ?_)
          replace hF := z_lte hF S39 eS39
          refine z_aload_n (pc' := 126) dX6_added_125 rfl rfl rfl ?_
          refine gf_X6_7 (b := 61) (pc' := 129) rfl is_6_60 rfl dX6_added_126 rfl ?_
          refine z_sipush (v := 13076) (pc' := 132) dX6_added_129 (by decide) rfl ?_
          refine z_iload (pc' := 134) dX6_added_132 rfl rfl ?_
          obtain ⟨g40, hF⟩ := z_gde hF
          refine z_iastore (pc' := 135) (ar_6_f3 is_6_60) (z_inbe g40) dX6_added_134 rfl (fun S41 eS41 => ?_)
          replace hF := z_lte hF S41 eS41
          refine z_aload_n (pc' := 136) dX6_added_135 rfl rfl rfl ?_
          refine gf_X6_7 (b := 61) (pc' := 139) rfl is_6_60 rfl dX6_added_136 rfl ?_
          refine z_sipush (v := 13077) (pc' := 142) dX6_added_139 (by decide) rfl ?_
          refine z_dup2 (pc' := 143) dX6_added_142 rfl ?_
          obtain ⟨g42, hF⟩ := z_gde hF
          refine z_iaload (pc' := 144) (ar_6_f3 is_6_60) (z_inbe g42) dX6_added_143 rfl ?_
          refine z_topi (fun x43 ex43 => ?_)
          replace hF := z_lte hF x43 ex43
          refine z_iconst (v := 1) (pc' := 145) dX6_added_144 (by decide) rfl ?_
          refine z_iadd (pc' := 146) dX6_added_145 rfl ?_
          obtain ⟨g44, hF⟩ := z_gde hF
          refine z_iastore (pc' := 147) (ar_6_f3 is_6_60) (z_inbe g44) dX6_added_146 rfl (fun S45 eS45 => ?_)
          replace hF := z_lte hF S45 eS45
          exact z_return rfl dX6_added_147 (Option.some.inj hF).symm
        · rw [if_neg c46] at hF
          exact z_return rfl dX6_added_43 (Option.some.inj hF).symm
def F_X6_added (B : Nat) (p1 : Int32) (p2 : Int32) (S : z_S) : Option (z_O × z_S) :=
  F_X6_added_5 B z_n p1 p2 S
set_option maxRecDepth 20000 in
set_option maxHeartbeats 16000000 in
theorem c_X6_added {l : Launch} {B : Nat} {p1 : Int32} {p2 : Int32} {S : z_S} {q : z_O × z_S} (hst : l.stackTraces = false) (hF : F_X6_added B p1 p2 S = some q) : z_Met l I_X6_added 3 70 B [.ref 60, .int p1, .int p2] S q.1 q.2 := by
  refine z_enter (ls := [some (.ref 60), some (.int p1), some (.int p2), none, none, none, none, none]) (n := 5) (by decide) rfl (Nat.le_of_ble_eq_true rfl) hst ?_
  unfold F_X6_added at hF
  refine z_iload_n (pc' := 1) dX6_added_0 rfl rfl rfl ?_
  refine z_istore_n (pc' := 2) dX6_added_1 rfl (by decide) rfl rfl ?_
  refine z_iload_n (pc' := 3) dX6_added_2 rfl rfl rfl ?_
  refine z_istore (pc' := 5) dX6_added_3 (by decide) rfl rfl ?_
  refine z_wk (ls' := [some (.ref 60), none, none, some (.int p1), some (.int p2), none, none, none]) (z_lec rfl (z_len1 (z_len1 (z_lec rfl (z_lec rfl (z_len1 (z_len1 (z_len1 z_le0)))))))) ?_
  exact (ok_X6_added_5 hst z_n) _ _ _ hF
theorem ok_X6_added : z_okV I_X6_added 2 := ⟨⟨z_Gin (List.mem_of_getElem? (i := 1063) (by decide +kernel)) rfl, z_Gin (List.mem_of_getElem? (i := 58) (by decide +kernel)) rfl, z_Gin (List.mem_of_getElem? (i := 98) (by decide +kernel)) rfl, z_Gin (List.mem_of_getElem? (i := 1064) (by decide +kernel)) rfl⟩, by decide, by decide, by decide +kernel⟩
theorem k_X6_added {l : Launch} {I : z_I} {R : Room} {B : Nat} {p1 : Int32} {p2 : Int32} {q : z_O × z_S} {pc pc' : Nat} {ls : List (Option Value)} {st : List Value} {S S1 : z_S} {idx F L : Nat}  (hF : F_X6_added B p1 p2 S = some (.inl none, S1)) (hst : l.stackTraces = false) (w : Cond.methodLink I.1.cls idx yX6_added ∈ z_G) (hRF : R.frames = F) (hRL : R.locals = L) (h1 : 4 ≤ F) (h2 : 97 ≤ L) (hs : (st.map fun v => v.category).sum ≤ 8) (d : decode I.2.1 pc = .ok (.invokevirtual idx, 3)) (hp : pc + 3 = pc') (k : z_W l I R B q pc' ls st S1) : z_W l I R B q pc ls (.int p2 :: .int p1 :: .ref 60 :: st) S := z_callV (Y := I_X6_added) (As := [.int p1, .int p2]) (st := st) (r := none) (S1 := S1) (c_X6_added (q := (.inl none, S1)) hst hF) ok_X6_added w (ci := 6) rfl is_6_60.1 is_6_60.2 rfl ⟨by rw [hRF]; exact h1, by rw [hRL]; exact h2⟩ hs d hp rfl k

abbrev I_X6_gone : z_I := (yX6_gone, cX6_gone, 8, none)
abbrev R_X6_gone (q : z_O × z_S) : Room := { frames := 3, locals := 68, cells := z_mc q.1, slots := 6 * z_mc q.1 }
def F_X6_gone_274 (B : Nat)   (S : z_S) : Option (z_O × z_S) :=
  some (.inl none, S)
set_option maxRecDepth 20000 in
set_option maxHeartbeats 16000000 in
theorem ok_X6_gone_274 {l : Launch} {B : Nat} {q : z_O × z_S} (hst : l.stackTraces = false) : ∀ (S : z_S), F_X6_gone_274 B S = some q → z_W l I_X6_gone (R_X6_gone q) B q 274 [none, none, none, none, none, none, none, none] [] S := by
  intro S hF
  unfold F_X6_gone_274 at hF
  exact z_return rfl dX6_gone_274 (Option.some.inj hF).symm
def F_X6_gone_227 (B : Nat)  (v3 : Int32) (v6 : Int32) (v7 : Int32) (S : z_S) : Option (z_O × z_S) :=
  if v6 = (-1) then
    z_bn (F_X6_takeChild B v7 0 S) fun r1 S2 =>
    (z_bo (F_X6_child B v3 1 r1 S2) fun S5 =>
    (F_X6_gone_274 B S5))
  else
    z_gd (z_inb (3852 + v6) 25366) (
    z_lt (S.1 61 (z_ix (3852 + v6))) fun x8 =>
    (z_bn (F_X6_takeChild B v6 (x8 - 1) S) fun r9 S10 =>
    (z_bo (F_X6_child B v3 0 r9 S10) fun S13 =>
    (F_X6_gone_274 B S13))))
set_option maxRecDepth 20000 in
set_option maxHeartbeats 16000000 in
theorem ok_X6_gone_227 {l : Launch} {B : Nat} {q : z_O × z_S} (hst : l.stackTraces = false) : ∀ (v3 : Int32) (v6 : Int32) (v7 : Int32) (S : z_S), F_X6_gone_227 B v3 v6 v7 S = some q → z_W l I_X6_gone (R_X6_gone q) B q 227 [some (.ref 60), none, none, some (.int v3), none, none, some (.int v6), some (.int v7)] [] S := by
  intro v3 v6 v7 S hF
  unfold F_X6_gone_227 at hF
  refine z_iload (pc' := 229) dX6_gone_227 rfl rfl ?_
  refine z_iconst (v := (-1)) (pc' := 230) dX6_gone_229 (by decide) rfl ?_
  refine z_icmp_eq (tgt := 261) (pc' := 233) dX6_gone_230 (by decide) rfl (fun c15 => ?_) (fun c15 => ?_)
  · rw [if_pos c15] at hF
    refine z_aload_n (pc' := 262) dX6_gone_261 rfl rfl rfl ?_
    refine z_iload_n (pc' := 263) dX6_gone_262 rfl rfl rfl ?_
    refine z_iconst (v := 1) (pc' := 264) dX6_gone_263 (by decide) rfl ?_
    refine z_aload_n (pc' := 265) dX6_gone_264 rfl rfl rfl ?_
    refine z_iload (pc' := 267) dX6_gone_265 rfl rfl ?_
    refine z_iconst (v := 0) (pc' := 268) dX6_gone_267 (by decide) rfl ?_
    obtain ⟨r1, S2, hc3, hF⟩ := z_bne hF
    refine k_X6_takeChild (F := 3) (L := 68) (pc' := 271) hc3 hst zw_112 rfl rfl (by decide) (by decide) (Nat.le_of_ble_eq_true rfl) dX6_gone_268 rfl ?_
    obtain ⟨S5, hc6, hF⟩ := z_boe hF
    refine k_X6_child (F := 3) (L := 68) (pc' := 274) hc6 hst zw_109 rfl rfl (by decide) (by decide) (by decide) dX6_gone_271 rfl ?_
    refine z_wk (ls' := [none, none, none, none, none, none, none, none]) (z_len1 (z_len1 (z_len1 (z_len1 (z_len1 (z_len1 (z_len1 (z_len1 z_le0)))))))) ?_
    exact (ok_X6_gone_274 hst) _ hF
  · rw [if_neg c15] at hF
    refine z_aload_n (pc' := 234) dX6_gone_233 rfl rfl rfl ?_
    refine z_iload_n (pc' := 235) dX6_gone_234 rfl rfl rfl ?_
    refine z_iconst (v := 0) (pc' := 236) dX6_gone_235 (by decide) rfl ?_
    refine z_aload_n (pc' := 237) dX6_gone_236 rfl rfl rfl ?_
    refine z_iload (pc' := 239) dX6_gone_237 rfl rfl ?_
    refine z_aload_n (pc' := 240) dX6_gone_239 rfl rfl rfl ?_
    refine gf_X6_7 (b := 61) (pc' := 243) rfl is_6_60 rfl dX6_gone_240 rfl ?_
    refine z_sipush (v := 3852) (pc' := 246) dX6_gone_243 (by decide) rfl ?_
    refine z_iload (pc' := 248) dX6_gone_246 rfl rfl ?_
    refine z_iadd (pc' := 249) dX6_gone_248 rfl ?_
    obtain ⟨g7, hF⟩ := z_gde hF
    refine z_iaload (pc' := 250) (ar_6_f3 is_6_60) (z_inbe g7) dX6_gone_249 rfl ?_
    refine z_topi (fun x8 ex8 => ?_)
    replace hF := z_lte hF x8 ex8
    refine z_iconst (v := 1) (pc' := 251) dX6_gone_250 (by decide) rfl ?_
    refine z_isub (pc' := 252) dX6_gone_251 rfl ?_
    obtain ⟨r9, S10, hc11, hF⟩ := z_bne hF
    refine k_X6_takeChild (F := 3) (L := 68) (pc' := 255) hc11 hst zw_112 rfl rfl (by decide) (by decide) (Nat.le_of_ble_eq_true rfl) dX6_gone_252 rfl ?_
    obtain ⟨S13, hc14, hF⟩ := z_boe hF
    refine k_X6_child (F := 3) (L := 68) (pc' := 258) hc14 hst zw_109 rfl rfl (by decide) (by decide) (by decide) dX6_gone_255 rfl ?_
    refine z_goto (pc' := 274) dX6_gone_258 (by decide) ?_
    refine z_wk (ls' := [none, none, none, none, none, none, none, none]) (z_len1 (z_len1 (z_len1 (z_len1 (z_len1 (z_len1 (z_len1 (z_len1 z_le0)))))))) ?_
    exact (ok_X6_gone_274 hst) _ hF
def F_X6_gone_275 (B : Nat) (k2 : Int32 → z_S → Option (z_O × z_S)) (v3 : Int32) (S : z_S) : Option (z_O × z_S) :=
  k2 v3 S
set_option maxRecDepth 20000 in
set_option maxHeartbeats 16000000 in
theorem ok_X6_gone_275 {l : Launch} {B : Nat} {q : z_O × z_S} (hst : l.stackTraces = false) {k2 : Int32 → z_S → Option (z_O × z_S)} (hk2 : ∀ (v2 : Int32) (S : z_S), k2 v2 S = some q → z_W l I_X6_gone (R_X6_gone q) B q 2 [some (.ref 60), none, some (.int v2), none, none, none, none, none] [] S) : ∀ (v3 : Int32) (S : z_S), F_X6_gone_275 B k2 v3 S = some q → z_W l I_X6_gone (R_X6_gone q) B q 275 [some (.ref 60), none, none, some (.int v3), none, none, none, none] [] S := by
  intro v3 S hF
  unfold F_X6_gone_275 at hF
  refine z_iload_n (pc' := 276) dX6_gone_275 rfl rfl rfl ?_
  refine z_istore_n (pc' := 277) dX6_gone_276 rfl (by decide) rfl rfl ?_
  refine z_goto (pc' := 2) dX6_gone_277 (by decide) ?_
  refine z_wk (ls' := [some (.ref 60), none, some (.int v3), none, none, none, none, none]) (z_lec rfl (z_len1 (z_lec rfl (z_len1 (z_len1 (z_len1 (z_len1 (z_len1 z_le0)))))))) ?_
  exact hk2 _ _ hF
def F_X6_gone_194 (B : Nat) (k275 : Int32 → z_S → Option (z_O × z_S)) (v3 : Int32) (v5 : Int32) (v6 : Int32) (v7 : Int32) (S : z_S) : Option (z_O × z_S) :=
  if v7 = (-1) then
    F_X6_gone_227 B v3 v6 v7 S
  else
    z_gd (z_inb (3852 + v7) 25366) (
    z_lt (S.1 61 (z_ix (3852 + v7))) fun x2 =>
    (if 5 ≤ x2 then
      F_X6_gone_227 B v3 v6 v7 S
    else
      z_bo (F_X6_child B v7 0 v5 S) fun S4 =>
      (k275 v3 S4)))
set_option maxRecDepth 20000 in
set_option maxHeartbeats 16000000 in
theorem ok_X6_gone_194 {l : Launch} {B : Nat} {q : z_O × z_S} (hst : l.stackTraces = false) {k275 : Int32 → z_S → Option (z_O × z_S)} (hk275 : ∀ (v3 : Int32) (S : z_S), k275 v3 S = some q → z_W l I_X6_gone (R_X6_gone q) B q 275 [some (.ref 60), none, none, some (.int v3), none, none, none, none] [] S) : ∀ (v3 : Int32) (v5 : Int32) (v6 : Int32) (v7 : Int32) (S : z_S), F_X6_gone_194 B k275 v3 v5 v6 v7 S = some q → z_W l I_X6_gone (R_X6_gone q) B q 194 [some (.ref 60), none, none, some (.int v3), none, some (.int v5), some (.int v6), some (.int v7)] [] S := by
  intro v3 v5 v6 v7 S hF
  unfold F_X6_gone_194 at hF
  refine z_iload (pc' := 196) dX6_gone_194 rfl rfl ?_
  refine z_iconst (v := (-1)) (pc' := 197) dX6_gone_196 (by decide) rfl ?_
  refine z_icmp_eq (tgt := 227) (pc' := 200) dX6_gone_197 (by decide) rfl (fun c7 => ?_) (fun c7 => ?_)
  · rw [if_pos c7] at hF
    refine z_wk (ls' := [some (.ref 60), none, none, some (.int v3), none, none, some (.int v6), some (.int v7)]) (z_lec rfl (z_len1 (z_len1 (z_lec rfl (z_len1 (z_len1 (z_lec rfl (z_lec rfl z_le0)))))))) ?_
    exact (ok_X6_gone_227 hst) _ _ _ _ hF
  · rw [if_neg c7] at hF
    refine z_aload_n (pc' := 201) dX6_gone_200 rfl rfl rfl ?_
    refine gf_X6_7 (b := 61) (pc' := 204) rfl is_6_60 rfl dX6_gone_201 rfl ?_
    refine z_sipush (v := 3852) (pc' := 207) dX6_gone_204 (by decide) rfl ?_
    refine z_iload (pc' := 209) dX6_gone_207 rfl rfl ?_
    refine z_iadd (pc' := 210) dX6_gone_209 rfl ?_
    obtain ⟨g1, hF⟩ := z_gde hF
    refine z_iaload (pc' := 211) (ar_6_f3 is_6_60) (z_inbe g1) dX6_gone_210 rfl ?_
    refine z_topi (fun x2 ex2 => ?_)
    replace hF := z_lte hF x2 ex2
    refine z_iconst (v := 5) (pc' := 212) dX6_gone_211 (by decide) rfl ?_
    refine z_icmp_ge (tgt := 227) (pc' := 215) dX6_gone_212 (by decide) rfl (fun c6 => ?_) (fun c6 => ?_)
    · rw [if_pos c6] at hF
      refine z_wk (ls' := [some (.ref 60), none, none, some (.int v3), none, none, some (.int v6), some (.int v7)]) (z_lec rfl (z_len1 (z_len1 (z_lec rfl (z_len1 (z_len1 (z_lec rfl (z_lec rfl z_le0)))))))) ?_
      exact (ok_X6_gone_227 hst) _ _ _ _ hF
    · rw [if_neg c6] at hF
      refine z_aload_n (pc' := 216) dX6_gone_215 rfl rfl rfl ?_
      refine z_iload (pc' := 218) dX6_gone_216 rfl rfl ?_
      refine z_iconst (v := 0) (pc' := 219) dX6_gone_218 (by decide) rfl ?_
      refine z_iload (pc' := 221) dX6_gone_219 rfl rfl ?_
      obtain ⟨S4, hc5, hF⟩ := z_boe hF
      refine k_X6_child (F := 3) (L := 68) (pc' := 224) hc5 hst zw_109 rfl rfl (by decide) (by decide) (by decide) dX6_gone_221 rfl ?_
      refine z_goto (pc' := 275) dX6_gone_224 (by decide) ?_
      refine z_wk (ls' := [some (.ref 60), none, none, some (.int v3), none, none, none, none]) (z_lec rfl (z_len1 (z_len1 (z_lec rfl (z_len1 (z_len1 (z_len1 (z_len1 z_le0)))))))) ?_
      exact hk275 _ _ hF
def F_X6_gone_2 (B : Nat)  : Nat → Int32 → z_S → Option (z_O × z_S)
  | 0, _, _ => none
  | n + 1, v2, S => z_gd (z_inb (3948 + v2) 25366) (
  z_lt (S.1 61 (z_ix (3948 + v2))) fun x2 =>
  (z_bo (F_X6_lineOff B v2 S) fun S4 =>
  (z_bo (F_X6_free B v2 S4) fun S7 =>
  (z_bn (F_X6_childPlace B x2 v2 S7) fun r9 S10 =>
  (z_bn (F_X6_takeChild B x2 r9 S10) fun r12 S13 =>
  (z_gd (z_inb (3852 + x2) 25366) (
  z_lt (S13.1 61 (z_ix (3852 + x2))) fun x16 =>
  (if x16 ≤ 1 then
    z_gd (z_inb (4044 + (6 * x2)) 25366) (
    z_lt (S13.1 61 (z_ix (4044 + (6 * x2)))) fun x18 =>
    (z_gd (z_inb (3948 + x2) 25366) (
    z_lt (S13.1 61 (z_ix (3948 + x2))) fun x20 =>
    (if x20 = (-1) then
      z_bn (F_X6_height B x2 S13) fun r36 S37 =>
      (z_gd (z_inb (13068 + r36) 25366) (
      z_lt (z_ua S37 61 (upd (S37.1 61) (z_ix (13068 + r36)) 0)) fun S40 =>
      (z_bo (F_X6_free B x2 S40) fun S42 =>
      (z_gd (z_inb (3948 + x18) 25366) (
      z_lt (z_ua S42 61 (upd (S42.1 61) (z_ix (3948 + x18)) (-1))) fun S45 =>
      (z_gd (z_inb 13076 25366) (
      z_lt (z_ua S45 61 (upd (S45.1 61) (z_ix (13076)) x18)) fun S47 =>
      (z_gd (z_inb 13077 25366) (
      z_lt (S47.1 61 (z_ix (13077))) fun x49 =>
      (z_gd (z_inb 13077 25366) (
      z_lt (z_ua S47 61 (upd (S47.1 61) (z_ix (13077)) (x49 - 1))) fun S51 =>
      (some (.inl none, S51)))))))))))))
    else
      z_bn (F_X6_beside B x2 (-1) S13) fun r21 S22 =>
      (z_bn (F_X6_beside B x2 1 S22) fun r24 S25 =>
      (if r21 = (-1) then
        F_X6_gone_194 B (F_X6_gone_275 B (F_X6_gone_2 B n) ) x2 x18 r21 r24 S25
      else
        z_gd (z_inb (3852 + r21) 25366) (
        z_lt (S25.1 61 (z_ix (3852 + r21))) fun x28 =>
        (if 5 ≤ x28 then
          F_X6_gone_194 B (F_X6_gone_275 B (F_X6_gone_2 B n) ) x2 x18 r21 r24 S25
        else
          z_gd (z_inb (3852 + r21) 25366) (
          z_lt (S25.1 61 (z_ix (3852 + r21))) fun x30 =>
          (z_bo (F_X6_child B r21 x30 x18 S25) fun S32 =>
          (F_X6_gone_275 B (F_X6_gone_2 B n) x2 S32)))))))))))
  else
    some (.inl none, S13)))))))))
set_option maxRecDepth 20000 in
set_option maxHeartbeats 16000000 in
theorem ok_X6_gone_2 {l : Launch} {B : Nat} {q : z_O × z_S} (hst : l.stackTraces = false) : ∀ (n : Nat) (v2 : Int32) (S : z_S), F_X6_gone_2 B n v2 S = some q → z_W l I_X6_gone (R_X6_gone q) B q 2 [some (.ref 60), none, some (.int v2), none, none, none, none, none] [] S := by
  intro n
  induction n with
  | zero => intro v2 S hF; cases hF
  | succ n ih =>
    intro v2 S hF
    rw [F_X6_gone_2] at hF
    refine z_aload_n (pc' := 3) dX6_gone_2 rfl rfl rfl ?_
    refine gf_X6_7 (b := 61) (pc' := 6) rfl is_6_60 rfl dX6_gone_3 rfl ?_
    refine z_sipush (v := 3948) (pc' := 9) dX6_gone_6 (by decide) rfl ?_
    refine z_iload_n (pc' := 10) dX6_gone_9 rfl rfl rfl ?_
    refine z_iadd (pc' := 11) dX6_gone_10 rfl ?_
    obtain ⟨g1, hF⟩ := z_gde hF
    refine z_iaload (pc' := 12) (ar_6_f3 is_6_60) (z_inbe g1) dX6_gone_11 rfl ?_
    refine z_topi (fun x2 ex2 => ?_)
    replace hF := z_lte hF x2 ex2
    refine z_istore_n (pc' := 13) dX6_gone_12 rfl (by decide) rfl rfl ?_
    refine z_aload_n (pc' := 14) dX6_gone_13 rfl rfl rfl ?_
    refine z_iload_n (pc' := 15) dX6_gone_14 rfl rfl rfl ?_
    obtain ⟨S4, hc5, hF⟩ := z_boe hF
    refine k_X6_lineOff (F := 3) (L := 68) (pc' := 18) hc5 hst zw_113 rfl rfl (by decide) (by decide) (by decide) dX6_gone_15 rfl ?_
    refine z_aload_n (pc' := 19) dX6_gone_18 rfl rfl rfl ?_
    refine z_iload_n (pc' := 20) dX6_gone_19 rfl rfl rfl ?_
    obtain ⟨S7, hc8, hF⟩ := z_boe hF
    refine k_X6_free (F := 3) (L := 68) (pc' := 23) hc8 hst zw_114 rfl rfl (by decide) (by decide) (by decide) dX6_gone_20 rfl ?_
    refine z_aload_n (pc' := 24) dX6_gone_23 rfl rfl rfl ?_
    refine z_iload_n (pc' := 25) dX6_gone_24 rfl rfl rfl ?_
    refine z_aload_n (pc' := 26) dX6_gone_25 rfl rfl rfl ?_
    refine z_iload_n (pc' := 27) dX6_gone_26 rfl rfl rfl ?_
    refine z_iload_n (pc' := 28) dX6_gone_27 rfl rfl rfl ?_
    obtain ⟨r9, S10, hc11, hF⟩ := z_bne hF
    refine k_X6_childPlace (F := 3) (L := 68) (pc' := 31) hc11 hst zw_108 rfl rfl (by decide) (by decide) (Nat.le_of_ble_eq_true rfl) dX6_gone_28 rfl ?_
    obtain ⟨r12, S13, hc14, hF⟩ := z_bne hF
    refine k_X6_takeChild (F := 3) (L := 68) (pc' := 34) hc14 hst zw_112 rfl rfl (by decide) (by decide) (by decide) dX6_gone_31 rfl ?_
    refine z_istore (pc' := 36) dX6_gone_34 (by decide) rfl rfl ?_
    refine z_aload_n (pc' := 37) dX6_gone_36 rfl rfl rfl ?_
    refine gf_X6_7 (b := 61) (pc' := 40) rfl is_6_60 rfl dX6_gone_37 rfl ?_
    refine z_sipush (v := 3852) (pc' := 43) dX6_gone_40 (by decide) rfl ?_
    refine z_iload_n (pc' := 44) dX6_gone_43 rfl rfl rfl ?_
    refine z_iadd (pc' := 45) dX6_gone_44 rfl ?_
    obtain ⟨g15, hF⟩ := z_gde hF
    refine z_iaload (pc' := 46) (ar_6_f3 is_6_60) (z_inbe g15) dX6_gone_45 rfl ?_
    refine z_topi (fun x16 ex16 => ?_)
    replace hF := z_lte hF x16 ex16
    refine z_iconst (v := 1) (pc' := 47) dX6_gone_46 (by decide) rfl ?_
    refine z_icmp_le (tgt := 51) (pc' := 50) dX6_gone_47 (by decide) rfl (fun c53 => ?_) (fun c53 => ?_)
    · rw [if_pos c53] at hF
      refine z_aload_n (pc' := 52) dX6_gone_51 rfl rfl rfl ?_
      refine gf_X6_7 (b := 61) (pc' := 55) rfl is_6_60 rfl dX6_gone_52 rfl ?_
      refine z_sipush (v := 4044) (pc' := 58) dX6_gone_55 (by decide) rfl ?_
      refine z_bipush (v := 6) (pc' := 60) dX6_gone_58 (by decide) rfl ?_
      refine z_iload_n (pc' := 61) dX6_gone_60 rfl rfl rfl ?_
      refine z_imul (pc' := 62) dX6_gone_61 rfl ?_
      refine z_iadd (pc' := 63) dX6_gone_62 rfl ?_
      obtain ⟨g17, hF⟩ := z_gde hF
      refine z_iaload (pc' := 64) (ar_6_f3 is_6_60) (z_inbe g17) dX6_gone_63 rfl ?_
      refine z_topi (fun x18 ex18 => ?_)
      replace hF := z_lte hF x18 ex18
      refine z_istore (pc' := 66) dX6_gone_64 (by decide) rfl rfl ?_
      refine z_aload_n (pc' := 67) dX6_gone_66 rfl rfl rfl ?_
      refine gf_X6_7 (b := 61) (pc' := 70) rfl is_6_60 rfl dX6_gone_67 rfl ?_
      refine z_sipush (v := 3948) (pc' := 73) dX6_gone_70 (by decide) rfl ?_
      refine z_iload_n (pc' := 74) dX6_gone_73 rfl rfl rfl ?_
      refine z_iadd (pc' := 75) dX6_gone_74 rfl ?_
      obtain ⟨g19, hF⟩ := z_gde hF
      refine z_iaload (pc' := 76) (ar_6_f3 is_6_60) (z_inbe g19) dX6_gone_75 rfl ?_
      refine z_topi (fun x20 ex20 => ?_)
      replace hF := z_lte hF x20 ex20
      refine z_iconst (v := (-1)) (pc' := 77) dX6_gone_76 (by decide) rfl ?_
      refine z_icmp_ne (tgt := 135) (pc' := 80) dX6_gone_77 (by decide) rfl (fun c52 => ?_) (fun c52 => ?_)
      · rw [if_neg c52] at hF
        refine z_aload_n (pc' := 136) dX6_gone_135 rfl rfl rfl ?_
        refine z_iload_n (pc' := 137) dX6_gone_136 rfl rfl rfl ?_
        refine z_iconst (v := (-1)) (pc' := 138) dX6_gone_137 (by decide) rfl ?_
        obtain ⟨r21, S22, hc23, hF⟩ := z_bne hF
        refine k_X6_beside (F := 3) (L := 68) (pc' := 141) hc23 hst zw_115 rfl rfl (by decide) (by decide) (by decide) dX6_gone_138 rfl ?_
        refine z_istore (pc' := 143) dX6_gone_141 (by decide) rfl rfl ?_
        refine z_aload_n (pc' := 144) dX6_gone_143 rfl rfl rfl ?_
        refine z_iload_n (pc' := 145) dX6_gone_144 rfl rfl rfl ?_
        refine z_iconst (v := 1) (pc' := 146) dX6_gone_145 (by decide) rfl ?_
        obtain ⟨r24, S25, hc26, hF⟩ := z_bne hF
        refine k_X6_beside (F := 3) (L := 68) (pc' := 149) hc26 hst zw_115 rfl rfl (by decide) (by decide) (by decide) dX6_gone_146 rfl ?_
        refine z_istore (pc' := 151) dX6_gone_149 (by decide) rfl rfl ?_
        refine z_iload (pc' := 153) dX6_gone_151 rfl rfl ?_
        refine z_iconst (v := (-1)) (pc' := 154) dX6_gone_153 (by decide) rfl ?_
        refine z_icmp_eq (tgt := 194) (pc' := 157) dX6_gone_154 (by decide) rfl (fun c35 => ?_) (fun c35 => ?_)
        · rw [if_pos c35] at hF
          refine z_wk (ls' := [some (.ref 60), none, none, some (.int x2), none, some (.int x18), some (.int r21), some (.int r24)]) (z_lec rfl (z_len1 (z_len1 (z_lec rfl (z_len1 (z_lec rfl (z_lec rfl (z_lec rfl z_le0)))))))) ?_
          exact (ok_X6_gone_194 hst (ok_X6_gone_275 hst ih)) _ _ _ _ _ hF
        · rw [if_neg c35] at hF
          refine z_aload_n (pc' := 158) dX6_gone_157 rfl rfl rfl ?_
          refine gf_X6_7 (b := 61) (pc' := 161) rfl is_6_60 rfl dX6_gone_158 rfl ?_
          refine z_sipush (v := 3852) (pc' := 164) dX6_gone_161 (by decide) rfl ?_
          refine z_iload (pc' := 166) dX6_gone_164 rfl rfl ?_
          refine z_iadd (pc' := 167) dX6_gone_166 rfl ?_
          obtain ⟨g27, hF⟩ := z_gde hF
          refine z_iaload (pc' := 168) (ar_6_f3 is_6_60) (z_inbe g27) dX6_gone_167 rfl ?_
          refine z_topi (fun x28 ex28 => ?_)
          replace hF := z_lte hF x28 ex28
          refine z_iconst (v := 5) (pc' := 169) dX6_gone_168 (by decide) rfl ?_
          refine z_icmp_ge (tgt := 194) (pc' := 172) dX6_gone_169 (by decide) rfl (fun c34 => ?_) (fun c34 => ?_)
          · rw [if_pos c34] at hF
            refine z_wk (ls' := [some (.ref 60), none, none, some (.int x2), none, some (.int x18), some (.int r21), some (.int r24)]) (z_lec rfl (z_len1 (z_len1 (z_lec rfl (z_len1 (z_lec rfl (z_lec rfl (z_lec rfl z_le0)))))))) ?_
            exact (ok_X6_gone_194 hst (ok_X6_gone_275 hst ih)) _ _ _ _ _ hF
          · rw [if_neg c34] at hF
            refine z_aload_n (pc' := 173) dX6_gone_172 rfl rfl rfl ?_
            refine z_iload (pc' := 175) dX6_gone_173 rfl rfl ?_
            refine z_aload_n (pc' := 176) dX6_gone_175 rfl rfl rfl ?_
            refine gf_X6_7 (b := 61) (pc' := 179) rfl is_6_60 rfl dX6_gone_176 rfl ?_
            refine z_sipush (v := 3852) (pc' := 182) dX6_gone_179 (by decide) rfl ?_
            refine z_iload (pc' := 184) dX6_gone_182 rfl rfl ?_
            refine z_iadd (pc' := 185) dX6_gone_184 rfl ?_
            obtain ⟨g29, hF⟩ := z_gde hF
            refine z_iaload (pc' := 186) (ar_6_f3 is_6_60) (z_inbe g29) dX6_gone_185 rfl ?_
            refine z_topi (fun x30 ex30 => ?_)
            replace hF := z_lte hF x30 ex30
            refine z_iload (pc' := 188) dX6_gone_186 rfl rfl ?_
            obtain ⟨S32, hc33, hF⟩ := z_boe hF
            refine k_X6_child (F := 3) (L := 68) (pc' := 191) hc33 hst zw_109 rfl rfl (by decide) (by decide) (by decide) dX6_gone_188 rfl ?_
            refine z_goto (pc' := 275) dX6_gone_191 (by decide) ?_
            refine z_wk (ls' := [some (.ref 60), none, none, some (.int x2), none, none, none, none]) (z_lec rfl (z_len1 (z_len1 (z_lec rfl (z_len1 (z_len1 (z_len1 (z_len1 z_le0)))))))) ?_
            exact (ok_X6_gone_275 hst ih) _ _ hF
      · rw [if_pos c52] at hF
        refine z_aload_n (pc' := 81) dX6_gone_80 rfl rfl rfl ?_
        refine gf_X6_7 (b := 61) (pc' := 84) rfl is_6_60 rfl dX6_gone_81 rfl ?_
        refine z_sipush (v := 13068) (pc' := 87) dX6_gone_84 (by decide) rfl ?_
        refine z_aload_n (pc' := 88) dX6_gone_87 rfl rfl rfl ?_
        refine z_iload_n (pc' := 89) dX6_gone_88 rfl rfl rfl ?_
        obtain ⟨r36, S37, hc38, hF⟩ := z_bne hF
        refine k_X6_height (F := 3) (L := 68) (pc' := 92) hc38 hst zw_106 rfl rfl (by decide) (by decide) (Nat.le_of_ble_eq_true rfl) dX6_gone_89 rfl ?_
        refine z_iadd (pc' := 93) dX6_gone_92 rfl ?_
        refine z_iconst (v := 0) (pc' := 94) dX6_gone_93 (by decide) rfl ?_
        obtain ⟨g39, hF⟩ := z_gde hF
        refine z_iastore (pc' := 95) (ar_6_f3 is_6_60) (z_inbe g39) dX6_gone_94 rfl (fun S40 eS40 => ?_)
        replace hF := z_lte hF S40 eS40
        refine z_aload_n (pc' := 96) dX6_gone_95 rfl rfl rfl ?_
        refine z_iload_n (pc' := 97) dX6_gone_96 rfl rfl rfl ?_
        obtain ⟨S42, hc43, hF⟩ := z_boe hF
        refine k_X6_free (F := 3) (L := 68) (pc' := 100) hc43 hst zw_114 rfl rfl (by decide) (by decide) (by decide) dX6_gone_97 rfl ?_
        refine z_aload_n (pc' := 101) dX6_gone_100 rfl rfl rfl ?_
        refine gf_X6_7 (b := 61) (pc' := 104) rfl is_6_60 rfl dX6_gone_101 rfl ?_
        refine z_sipush (v := 3948) (pc' := 107) dX6_gone_104 (by decide) rfl ?_
        refine z_iload (pc' := 109) dX6_gone_107 rfl rfl ?_
        refine z_iadd (pc' := 110) dX6_gone_109 rfl ?_
        refine z_iconst (v := (-1)) (pc' := 111) dX6_gone_110 (by decide) rfl ?_
        obtain ⟨g44, hF⟩ := z_gde hF
        refine z_iastore (pc' := 112) (ar_6_f3 is_6_60) (z_inbe g44) dX6_gone_111 rfl (fun S45 eS45 => ?_)
        replace hF := z_lte hF S45 eS45
        refine z_aload_n (pc' := 113) dX6_gone_112 rfl rfl rfl ?_
        refine gf_X6_7 (b := 61) (pc' := 116) rfl is_6_60 rfl dX6_gone_113 rfl ?_
        refine z_sipush (v := 13076) (pc' := 119) dX6_gone_116 (by decide) rfl ?_
        refine z_iload (pc' := 121) dX6_gone_119 rfl rfl ?_
        obtain ⟨g46, hF⟩ := z_gde hF
        refine z_iastore (pc' := 122) (ar_6_f3 is_6_60) (z_inbe g46) dX6_gone_121 rfl (fun S47 eS47 => ?_)
        replace hF := z_lte hF S47 eS47
        refine z_aload_n (pc' := 123) dX6_gone_122 rfl rfl rfl ?_
        refine gf_X6_7 (b := 61) (pc' := 126) rfl is_6_60 rfl dX6_gone_123 rfl ?_
        refine z_sipush (v := 13077) (pc' := 129) dX6_gone_126 (by decide) rfl ?_
        refine z_dup2 (pc' := 130) dX6_gone_129 rfl ?_
        obtain ⟨g48, hF⟩ := z_gde hF
        refine z_iaload (pc' := 131) (ar_6_f3 is_6_60) (z_inbe g48) dX6_gone_130 rfl ?_
        refine z_topi (fun x49 ex49 => ?_)
        replace hF := z_lte hF x49 ex49
        refine z_iconst (v := 1) (pc' := 132) dX6_gone_131 (by decide) rfl ?_
        refine z_isub (pc' := 133) dX6_gone_132 rfl ?_
        obtain ⟨g50, hF⟩ := z_gde hF
        refine z_iastore (pc' := 134) (ar_6_f3 is_6_60) (z_inbe g50) dX6_gone_133 rfl (fun S51 eS51 => ?_)
        replace hF := z_lte hF S51 eS51
        exact z_return rfl dX6_gone_134 (Option.some.inj hF).symm
    · rw [if_neg c53] at hF
      exact z_return rfl dX6_gone_50 (Option.some.inj hF).symm
def F_X6_gone (B : Nat) (p1 : Int32) (S : z_S) : Option (z_O × z_S) :=
  F_X6_gone_2 B z_n p1 S
set_option maxRecDepth 20000 in
set_option maxHeartbeats 16000000 in
theorem c_X6_gone {l : Launch} {B : Nat} {p1 : Int32} {S : z_S} {q : z_O × z_S} (hst : l.stackTraces = false) (hF : F_X6_gone B p1 S = some q) : z_Met l I_X6_gone 3 68 B [.ref 60, .int p1] S q.1 q.2 := by
  refine z_enter (ls := [some (.ref 60), some (.int p1), none, none, none, none, none, none]) (n := 6) (by decide) rfl (Nat.le_of_ble_eq_true rfl) hst ?_
  unfold F_X6_gone at hF
  refine z_iload_n (pc' := 1) dX6_gone_0 rfl rfl rfl ?_
  refine z_istore_n (pc' := 2) dX6_gone_1 rfl (by decide) rfl rfl ?_
  refine z_wk (ls' := [some (.ref 60), none, some (.int p1), none, none, none, none, none]) (z_lec rfl (z_len1 (z_lec rfl (z_len1 (z_len1 (z_len1 (z_len1 (z_len1 z_le0)))))))) ?_
  exact (ok_X6_gone_2 hst z_n) _ _ hF
theorem ok_X6_gone : z_okV I_X6_gone 1 := ⟨⟨z_Gin (List.mem_of_getElem? (i := 1103) (by decide +kernel)) rfl, z_Gin (List.mem_of_getElem? (i := 66) (by decide +kernel)) rfl, z_Gin (List.mem_of_getElem? (i := 98) (by decide +kernel)) rfl, z_Gin (List.mem_of_getElem? (i := 1104) (by decide +kernel)) rfl⟩, by decide, by decide, by decide +kernel⟩
theorem k_X6_gone {l : Launch} {I : z_I} {R : Room} {B : Nat} {p1 : Int32} {q : z_O × z_S} {pc pc' : Nat} {ls : List (Option Value)} {st : List Value} {S S1 : z_S} {idx F L : Nat}  (hF : F_X6_gone B p1 S = some (.inl none, S1)) (hst : l.stackTraces = false) (w : Cond.methodLink I.1.cls idx yX6_gone ∈ z_G) (hRF : R.frames = F) (hRL : R.locals = L) (h1 : 4 ≤ F) (h2 : 95 ≤ L) (hs : (st.map fun v => v.category).sum ≤ 8) (d : decode I.2.1 pc = .ok (.invokevirtual idx, 3)) (hp : pc + 3 = pc') (k : z_W l I R B q pc' ls st S1) : z_W l I R B q pc ls (.int p1 :: .ref 60 :: st) S := z_callV (Y := I_X6_gone) (As := [.int p1]) (st := st) (r := none) (S1 := S1) (c_X6_gone (q := (.inl none, S1)) hst hF) ok_X6_gone w (ci := 6) rfl is_6_60.1 is_6_60.2 rfl ⟨by rw [hRF]; exact h1, by rw [hRL]; exact h2⟩ hs d hp rfl k

abbrev I_X6_used : z_I := (yX6_used, cX6_used, 4, some .int)
abbrev R_X6_used (q : z_O × z_S) : Room := { frames := 0, locals := 0, cells := z_mc q.1, slots := 6 * z_mc q.1 }
def F_X6_used_4 (B : Nat)  : Nat → Int32 → Int32 → Int32 → z_S → Option (z_O × z_S)
  | 0, _, _, _, _ => none
  | n + 1, v1, v2, v3, S => z_gd (z_inb (3852 + v1) 25366) (
  z_lt (S.1 61 (z_ix (3852 + v1))) fun x2 =>
  (if x2 ≤ v3 then
    some (.inl (some v2), S)
  else
    z_gd (z_inb ((9228 + (16 * v1)) + v3) 25366) (
    z_lt (S.1 61 (z_ix ((9228 + (16 * v1)) + v3))) fun x4 =>
    (F_X6_used_4 B n v1 (v2 + (8 + x4)) (v3 + 1) S))))
set_option maxRecDepth 20000 in
set_option maxHeartbeats 16000000 in
theorem ok_X6_used_4 {l : Launch} {B : Nat} {q : z_O × z_S} (hst : l.stackTraces = false) : ∀ (n : Nat) (v1 : Int32) (v2 : Int32) (v3 : Int32) (S : z_S), F_X6_used_4 B n v1 v2 v3 S = some q → z_W l I_X6_used (R_X6_used q) B q 4 [some (.ref 60), some (.int v1), some (.int v2), some (.int v3)] [] S := by
  intro n
  induction n with
  | zero => intro v1 v2 v3 S hF; cases hF
  | succ n ih =>
    intro v1 v2 v3 S hF
    rw [F_X6_used_4] at hF
    refine z_iload_n (pc' := 5) dX6_used_4 rfl rfl rfl ?_
    refine z_aload_n (pc' := 6) dX6_used_5 rfl rfl rfl ?_
    refine gf_X6_7 (b := 61) (pc' := 9) rfl is_6_60 rfl dX6_used_6 rfl ?_
    refine z_sipush (v := 3852) (pc' := 12) dX6_used_9 (by decide) rfl ?_
    refine z_iload_n (pc' := 13) dX6_used_12 rfl rfl rfl ?_
    refine z_iadd (pc' := 14) dX6_used_13 rfl ?_
    obtain ⟨g1, hF⟩ := z_gde hF
    refine z_iaload (pc' := 15) (ar_6_f3 is_6_60) (z_inbe g1) dX6_used_14 rfl ?_
    refine z_topi (fun x2 ex2 => ?_)
    replace hF := z_lte hF x2 ex2
    refine z_icmp_ge (tgt := 45) (pc' := 18) dX6_used_15 (by decide) rfl (fun c5 => ?_) (fun c5 => ?_)
    · rw [if_pos c5] at hF
      refine z_iload_n (pc' := 46) dX6_used_45 rfl rfl rfl ?_
      exact z_ireturn rfl dX6_used_46 (Option.some.inj hF).symm
    · rw [if_neg c5] at hF
      refine z_iload_n (pc' := 19) dX6_used_18 rfl rfl rfl ?_
      refine z_bipush (v := 8) (pc' := 21) dX6_used_19 (by decide) rfl ?_
      refine z_aload_n (pc' := 22) dX6_used_21 rfl rfl rfl ?_
      refine gf_X6_7 (b := 61) (pc' := 25) rfl is_6_60 rfl dX6_used_22 rfl ?_
      refine z_sipush (v := 9228) (pc' := 28) dX6_used_25 (by decide) rfl ?_
      refine z_bipush (v := 16) (pc' := 30) dX6_used_28 (by decide) rfl ?_
      refine z_iload_n (pc' := 31) dX6_used_30 rfl rfl rfl ?_
      refine z_imul (pc' := 32) dX6_used_31 rfl ?_
      refine z_iadd (pc' := 33) dX6_used_32 rfl ?_
      refine z_iload_n (pc' := 34) dX6_used_33 rfl rfl rfl ?_
      refine z_iadd (pc' := 35) dX6_used_34 rfl ?_
      obtain ⟨g3, hF⟩ := z_gde hF
      refine z_iaload (pc' := 36) (ar_6_f3 is_6_60) (z_inbe g3) dX6_used_35 rfl ?_
      refine z_topi (fun x4 ex4 => ?_)
      replace hF := z_lte hF x4 ex4
      refine z_iadd (pc' := 37) dX6_used_36 rfl ?_
      refine z_iadd (pc' := 38) dX6_used_37 rfl ?_
      refine z_istore_n (pc' := 39) dX6_used_38 rfl (by decide) rfl rfl ?_
      refine z_iinc (v := v3 + 1) (pc' := 42) dX6_used_39 rfl rfl (by decide) rfl rfl ?_
      refine z_goto (pc' := 4) dX6_used_42 (by decide) ?_
      refine z_wk (ls' := [some (.ref 60), some (.int v1), some (.int (v2 + (8 + x4))), some (.int (v3 + 1))]) (z_lec rfl (z_lec rfl (z_lec rfl (z_lec rfl z_le0)))) ?_
      exact ih _ _ _ _ hF
def F_X6_used (B : Nat) (p1 : Int32) (S : z_S) : Option (z_O × z_S) :=
  F_X6_used_4 B z_n p1 0 0 S
set_option maxRecDepth 20000 in
set_option maxHeartbeats 16000000 in
theorem c_X6_used {l : Launch} {B : Nat} {p1 : Int32} {S : z_S} {q : z_O × z_S} (hst : l.stackTraces = false) (hF : F_X6_used B p1 S = some q) : z_Met l I_X6_used 0 0 B [.ref 60, .int p1] S q.1 q.2 := by
  refine z_enter (ls := [some (.ref 60), some (.int p1), none, none]) (n := 2) (by decide) rfl (Nat.le_of_ble_eq_true rfl) hst ?_
  unfold F_X6_used at hF
  refine z_iconst (v := 0) (pc' := 1) dX6_used_0 (by decide) rfl ?_
  refine z_istore_n (pc' := 2) dX6_used_1 rfl (by decide) rfl rfl ?_
  refine z_iconst (v := 0) (pc' := 3) dX6_used_2 (by decide) rfl ?_
  refine z_istore_n (pc' := 4) dX6_used_3 rfl (by decide) rfl rfl ?_
  refine z_wk (ls' := [some (.ref 60), some (.int p1), some (.int 0), some (.int 0)]) (z_lec rfl (z_lec rfl (z_lec rfl (z_lec rfl z_le0)))) ?_
  exact (ok_X6_used_4 hst z_n) _ _ _ _ hF
theorem ok_X6_used : z_okV I_X6_used 1 := ⟨⟨z_Gin (List.mem_of_getElem? (i := 1039) (by decide +kernel)) rfl, z_Gin (List.mem_of_getElem? (i := 52) (by decide +kernel)) rfl, z_Gin (List.mem_of_getElem? (i := 98) (by decide +kernel)) rfl, z_Gin (List.mem_of_getElem? (i := 1040) (by decide +kernel)) rfl⟩, by decide, by decide, by decide +kernel⟩
theorem k_X6_used {l : Launch} {I : z_I} {R : Room} {B : Nat} {p1 : Int32} {q : z_O × z_S} {pc pc' : Nat} {ls : List (Option Value)} {st : List Value} {S S1 : z_S} {idx F L : Nat} {r : Int32}  (hF : F_X6_used B p1 S = some (.inl (some r), S1)) (hst : l.stackTraces = false) (w : Cond.methodLink I.1.cls idx yX6_used ∈ z_G) (hRF : R.frames = F) (hRL : R.locals = L) (h1 : 1 ≤ F) (h2 : 23 ≤ L) (hs : (st.map fun v => v.category).sum ≤ 8) (d : decode I.2.1 pc = .ok (.invokevirtual idx, 3)) (hp : pc + 3 = pc') (k : z_W l I R B q pc' ls (.int r :: st) S1) : z_W l I R B q pc ls (.int p1 :: .ref 60 :: st) S := z_callV (Y := I_X6_used) (As := [.int p1]) (st := st) (r := (some r)) (S1 := S1) (c_X6_used (q := (.inl (some r), S1)) hst hF) ok_X6_used w (ci := 6) rfl is_6_60.1 is_6_60.2 rfl ⟨by rw [hRF]; exact h1, by rw [hRL]; exact h2⟩ hs d hp rfl k

abbrev I_X6_cost : z_I := (yX6_cost, cX6_cost, 3, some .int)
abbrev R_X6_cost (q : z_O × z_S) : Room := { frames := 0, locals := 0, cells := z_mc q.1, slots := 6 * z_mc q.1 }
def F_X6_cost (B : Nat) (p1 : Int32) (p2 : Int32) (S : z_S) : Option (z_O × z_S) :=
  z_gd (z_inb ((9228 + (16 * p1)) + p2) 25366) (
  z_lt (S.1 61 (z_ix ((9228 + (16 * p1)) + p2))) fun x2 =>
  (some (.inl (some (8 + x2)), S)))
set_option maxRecDepth 20000 in
set_option maxHeartbeats 16000000 in
theorem c_X6_cost {l : Launch} {B : Nat} {p1 : Int32} {p2 : Int32} {S : z_S} {q : z_O × z_S} (hst : l.stackTraces = false) (hF : F_X6_cost B p1 p2 S = some q) : z_Met l I_X6_cost 0 0 B [.ref 60, .int p1, .int p2] S q.1 q.2 := by
  refine z_enter (ls := [some (.ref 60), some (.int p1), some (.int p2)]) (n := 0) (by decide) rfl (Nat.le_of_ble_eq_true rfl) hst ?_
  unfold F_X6_cost at hF
  refine z_bipush (v := 8) (pc' := 2) dX6_cost_0 (by decide) rfl ?_
  refine z_aload_n (pc' := 3) dX6_cost_2 rfl rfl rfl ?_
  refine gf_X6_7 (b := 61) (pc' := 6) rfl is_6_60 rfl dX6_cost_3 rfl ?_
  refine z_sipush (v := 9228) (pc' := 9) dX6_cost_6 (by decide) rfl ?_
  refine z_bipush (v := 16) (pc' := 11) dX6_cost_9 (by decide) rfl ?_
  refine z_iload_n (pc' := 12) dX6_cost_11 rfl rfl rfl ?_
  refine z_imul (pc' := 13) dX6_cost_12 rfl ?_
  refine z_iadd (pc' := 14) dX6_cost_13 rfl ?_
  refine z_iload_n (pc' := 15) dX6_cost_14 rfl rfl rfl ?_
  refine z_iadd (pc' := 16) dX6_cost_15 rfl ?_
  obtain ⟨g1, hF⟩ := z_gde hF
  refine z_iaload (pc' := 17) (ar_6_f3 is_6_60) (z_inbe g1) dX6_cost_16 rfl ?_
  refine z_topi (fun x2 ex2 => ?_)
  replace hF := z_lte hF x2 ex2
  refine z_iadd (pc' := 18) dX6_cost_17 rfl ?_
  exact z_ireturn rfl dX6_cost_18 (Option.some.inj hF).symm
theorem ok_X6_cost : z_okV I_X6_cost 2 := ⟨⟨z_Gin (List.mem_of_getElem? (i := 1043) (by decide +kernel)) rfl, z_Gin (List.mem_of_getElem? (i := 53) (by decide +kernel)) rfl, z_Gin (List.mem_of_getElem? (i := 98) (by decide +kernel)) rfl, z_Gin (List.mem_of_getElem? (i := 1044) (by decide +kernel)) rfl⟩, by decide, by decide, by decide +kernel⟩
theorem k_X6_cost {l : Launch} {I : z_I} {R : Room} {B : Nat} {p1 : Int32} {p2 : Int32} {q : z_O × z_S} {pc pc' : Nat} {ls : List (Option Value)} {st : List Value} {S S1 : z_S} {idx F L : Nat} {r : Int32}  (hF : F_X6_cost B p1 p2 S = some (.inl (some r), S1)) (hst : l.stackTraces = false) (w : Cond.methodLink I.1.cls idx yX6_cost ∈ z_G) (hRF : R.frames = F) (hRL : R.locals = L) (h1 : 1 ≤ F) (h2 : 22 ≤ L) (hs : (st.map fun v => v.category).sum ≤ 8) (d : decode I.2.1 pc = .ok (.invokevirtual idx, 3)) (hp : pc + 3 = pc') (k : z_W l I R B q pc' ls (.int r :: st) S1) : z_W l I R B q pc ls (.int p2 :: .int p1 :: .ref 60 :: st) S := z_callV (Y := I_X6_cost) (As := [.int p1, .int p2]) (st := st) (r := (some r)) (S1 := S1) (c_X6_cost (q := (.inl (some r), S1)) hst hF) ok_X6_cost w (ci := 6) rfl is_6_60.1 is_6_60.2 rfl ⟨by rw [hRF]; exact h1, by rw [hRL]; exact h2⟩ hs d hp rfl k

abbrev I_X6_compare : z_I := (yX6_compare, cX6_compare, 7, some .int)
abbrev R_X6_compare (q : z_O × z_S) : Room := { frames := 0, locals := 0, cells := z_mc q.1, slots := 6 * z_mc q.1 }
def F_X6_compare_86 (B : Nat)  (s0 : Int32) (S : z_S) : Option (z_O × z_S) :=
  some (.inl (some s0), S)
set_option maxRecDepth 20000 in
set_option maxHeartbeats 16000000 in
theorem ok_X6_compare_86 {l : Launch} {B : Nat} {q : z_O × z_S} (hst : l.stackTraces = false) : ∀ (s0 : Int32) (S : z_S), F_X6_compare_86 B s0 S = some q → z_W l I_X6_compare (R_X6_compare q) B q 86 [none, none, none, none, none, none, none] [.int s0] S := by
  intro s0 S hF
  unfold F_X6_compare_86 at hF
  exact z_ireturn rfl dX6_compare_86 (Option.some.inj hF).symm
def F_X6_compare (B : Nat) (p1 : Int32) (p2 : Int32) (p3 : Int32) (p4 : Int32) (p5 : Int32) (S : z_S) : Option (z_O × z_S) :=
  z_gd (z_inb (4620 + ((16 * p1) + p2)) 25366) (
  z_lt (S.1 61 (z_ix (4620 + ((16 * p1) + p2)))) fun x2 =>
  (if x2 = p3 then
    z_gd (z_inb (6156 + ((16 * p1) + p2)) 25366) (
    z_lt (S.1 61 (z_ix (6156 + ((16 * p1) + p2)))) fun x4 =>
    (if x4 = p4 then
      z_gd (z_inb (7692 + ((16 * p1) + p2)) 25366) (
      z_lt (S.1 61 (z_ix (7692 + ((16 * p1) + p2)))) fun x6 =>
      (F_X6_compare_86 B (x6 - p5) S))
    else
      z_gd (z_inb (6156 + ((16 * p1) + p2)) 25366) (
      z_lt (S.1 61 (z_ix (6156 + ((16 * p1) + p2)))) fun x8 =>
      (F_X6_compare_86 B (x8 - p4) S))))
  else
    z_gd (z_inb (4620 + ((16 * p1) + p2)) 25366) (
    z_lt (S.1 61 (z_ix (4620 + ((16 * p1) + p2)))) fun x11 =>
    (F_X6_compare_86 B (x11 - p3) S))))
set_option maxRecDepth 20000 in
set_option maxHeartbeats 16000000 in
theorem c_X6_compare {l : Launch} {B : Nat} {p1 : Int32} {p2 : Int32} {p3 : Int32} {p4 : Int32} {p5 : Int32} {S : z_S} {q : z_O × z_S} (hst : l.stackTraces = false) (hF : F_X6_compare B p1 p2 p3 p4 p5 S = some q) : z_Met l I_X6_compare 0 0 B [.ref 60, .int p1, .int p2, .int p3, .int p4, .int p5] S q.1 q.2 := by
  refine z_enter (ls := [some (.ref 60), some (.int p1), some (.int p2), some (.int p3), some (.int p4), some (.int p5), none]) (n := 1) (by decide) rfl (Nat.le_of_ble_eq_true rfl) hst ?_
  unfold F_X6_compare at hF
  refine z_bipush (v := 16) (pc' := 2) dX6_compare_0 (by decide) rfl ?_
  refine z_iload_n (pc' := 3) dX6_compare_2 rfl rfl rfl ?_
  refine z_imul (pc' := 4) dX6_compare_3 rfl ?_
  refine z_iload_n (pc' := 5) dX6_compare_4 rfl rfl rfl ?_
  refine z_iadd (pc' := 6) dX6_compare_5 rfl ?_
  refine z_istore (pc' := 8) dX6_compare_6 (by decide) rfl rfl ?_
  refine z_aload_n (pc' := 9) dX6_compare_8 rfl rfl rfl ?_
  refine gf_X6_7 (b := 61) (pc' := 12) rfl is_6_60 rfl dX6_compare_9 rfl ?_
  refine z_sipush (v := 4620) (pc' := 15) dX6_compare_12 (by decide) rfl ?_
  refine z_iload (pc' := 17) dX6_compare_15 rfl rfl ?_
  refine z_iadd (pc' := 18) dX6_compare_17 rfl ?_
  obtain ⟨g1, hF⟩ := z_gde hF
  refine z_iaload (pc' := 19) (ar_6_f3 is_6_60) (z_inbe g1) dX6_compare_18 rfl ?_
  refine z_topi (fun x2 ex2 => ?_)
  replace hF := z_lte hF x2 ex2
  refine z_iload_n (pc' := 20) dX6_compare_19 rfl rfl rfl ?_
  refine z_icmp_eq (tgt := 39) (pc' := 23) dX6_compare_20 (by decide) rfl (fun c12 => ?_) (fun c12 => ?_)
  · rw [if_pos c12] at hF
    refine z_aload_n (pc' := 40) dX6_compare_39 rfl rfl rfl ?_
    refine gf_X6_7 (b := 61) (pc' := 43) rfl is_6_60 rfl dX6_compare_40 rfl ?_
    refine z_sipush (v := 6156) (pc' := 46) dX6_compare_43 (by decide) rfl ?_
    refine z_iload (pc' := 48) dX6_compare_46 rfl rfl ?_
    refine z_iadd (pc' := 49) dX6_compare_48 rfl ?_
    obtain ⟨g3, hF⟩ := z_gde hF
    refine z_iaload (pc' := 50) (ar_6_f3 is_6_60) (z_inbe g3) dX6_compare_49 rfl ?_
    refine z_topi (fun x4 ex4 => ?_)
    replace hF := z_lte hF x4 ex4
    refine z_iload (pc' := 52) dX6_compare_50 rfl rfl ?_
    refine z_icmp_eq (tgt := 72) (pc' := 55) dX6_compare_52 (by decide) rfl (fun c9 => ?_) (fun c9 => ?_)
    · rw [if_pos c9] at hF
      refine z_aload_n (pc' := 73) dX6_compare_72 rfl rfl rfl ?_
      refine gf_X6_7 (b := 61) (pc' := 76) rfl is_6_60 rfl dX6_compare_73 rfl ?_
      refine z_sipush (v := 7692) (pc' := 79) dX6_compare_76 (by decide) rfl ?_
      refine z_iload (pc' := 81) dX6_compare_79 rfl rfl ?_
      refine z_iadd (pc' := 82) dX6_compare_81 rfl ?_
      obtain ⟨g5, hF⟩ := z_gde hF
      refine z_iaload (pc' := 83) (ar_6_f3 is_6_60) (z_inbe g5) dX6_compare_82 rfl ?_
      refine z_topi (fun x6 ex6 => ?_)
      replace hF := z_lte hF x6 ex6
      refine z_iload (pc' := 85) dX6_compare_83 rfl rfl ?_
      refine z_isub (pc' := 86) dX6_compare_85 rfl ?_
      refine z_wk (ls' := [none, none, none, none, none, none, none]) (z_len1 (z_len1 (z_len1 (z_len1 (z_len1 (z_len1 (z_len1 z_le0))))))) ?_
      exact (ok_X6_compare_86 hst) _ _ hF
    · rw [if_neg c9] at hF
      refine z_aload_n (pc' := 56) dX6_compare_55 rfl rfl rfl ?_
      refine gf_X6_7 (b := 61) (pc' := 59) rfl is_6_60 rfl dX6_compare_56 rfl ?_
      refine z_sipush (v := 6156) (pc' := 62) dX6_compare_59 (by decide) rfl ?_
      refine z_iload (pc' := 64) dX6_compare_62 rfl rfl ?_
      refine z_iadd (pc' := 65) dX6_compare_64 rfl ?_
      obtain ⟨g7, hF⟩ := z_gde hF
      refine z_iaload (pc' := 66) (ar_6_f3 is_6_60) (z_inbe g7) dX6_compare_65 rfl ?_
      refine z_topi (fun x8 ex8 => ?_)
      replace hF := z_lte hF x8 ex8
      refine z_iload (pc' := 68) dX6_compare_66 rfl rfl ?_
      refine z_isub (pc' := 69) dX6_compare_68 rfl ?_
      refine z_goto (pc' := 86) dX6_compare_69 (by decide) ?_
      refine z_wk (ls' := [none, none, none, none, none, none, none]) (z_len1 (z_len1 (z_len1 (z_len1 (z_len1 (z_len1 (z_len1 z_le0))))))) ?_
      exact (ok_X6_compare_86 hst) _ _ hF
  · rw [if_neg c12] at hF
    refine z_aload_n (pc' := 24) dX6_compare_23 rfl rfl rfl ?_
    refine gf_X6_7 (b := 61) (pc' := 27) rfl is_6_60 rfl dX6_compare_24 rfl ?_
    refine z_sipush (v := 4620) (pc' := 30) dX6_compare_27 (by decide) rfl ?_
    refine z_iload (pc' := 32) dX6_compare_30 rfl rfl ?_
    refine z_iadd (pc' := 33) dX6_compare_32 rfl ?_
    obtain ⟨g10, hF⟩ := z_gde hF
    refine z_iaload (pc' := 34) (ar_6_f3 is_6_60) (z_inbe g10) dX6_compare_33 rfl ?_
    refine z_topi (fun x11 ex11 => ?_)
    replace hF := z_lte hF x11 ex11
    refine z_iload_n (pc' := 35) dX6_compare_34 rfl rfl rfl ?_
    refine z_isub (pc' := 36) dX6_compare_35 rfl ?_
    refine z_goto (pc' := 86) dX6_compare_36 (by decide) ?_
    refine z_wk (ls' := [none, none, none, none, none, none, none]) (z_len1 (z_len1 (z_len1 (z_len1 (z_len1 (z_len1 (z_len1 z_le0))))))) ?_
    exact (ok_X6_compare_86 hst) _ _ hF
theorem ok_X6_compare : z_okV I_X6_compare 5 := ⟨⟨z_Gin (List.mem_of_getElem? (i := 1003) (by decide +kernel)) rfl, z_Gin (List.mem_of_getElem? (i := 43) (by decide +kernel)) rfl, z_Gin (List.mem_of_getElem? (i := 98) (by decide +kernel)) rfl, z_Gin (List.mem_of_getElem? (i := 1004) (by decide +kernel)) rfl⟩, by decide, by decide, by decide +kernel⟩
theorem k_X6_compare {l : Launch} {I : z_I} {R : Room} {B : Nat} {p1 : Int32} {p2 : Int32} {p3 : Int32} {p4 : Int32} {p5 : Int32} {q : z_O × z_S} {pc pc' : Nat} {ls : List (Option Value)} {st : List Value} {S S1 : z_S} {idx F L : Nat} {r : Int32}  (hF : F_X6_compare B p1 p2 p3 p4 p5 S = some (.inl (some r), S1)) (hst : l.stackTraces = false) (w : Cond.methodLink I.1.cls idx yX6_compare ∈ z_G) (hRF : R.frames = F) (hRL : R.locals = L) (h1 : 1 ≤ F) (h2 : 26 ≤ L) (hs : (st.map fun v => v.category).sum ≤ 8) (d : decode I.2.1 pc = .ok (.invokevirtual idx, 3)) (hp : pc + 3 = pc') (k : z_W l I R B q pc' ls (.int r :: st) S1) : z_W l I R B q pc ls (.int p5 :: .int p4 :: .int p3 :: .int p2 :: .int p1 :: .ref 60 :: st) S := z_callV (Y := I_X6_compare) (As := [.int p1, .int p2, .int p3, .int p4, .int p5]) (st := st) (r := (some r)) (S1 := S1) (c_X6_compare (q := (.inl (some r), S1)) hst hF) ok_X6_compare w (ci := 6) rfl is_6_60.1 is_6_60.2 rfl ⟨by rw [hRF]; exact h1, by rw [hRL]; exact h2⟩ hs d hp rfl k

abbrev I_X6_copy : z_I := (yX6_copy, cX6_copy, 3, none)
abbrev R_X6_copy (q : z_O × z_S) : Room := { frames := 0, locals := 0, cells := z_mc q.1, slots := 6 * z_mc q.1 }
def F_X6_copy (B : Nat) (p1 : Int32) (p2 : Int32) (S : z_S) : Option (z_O × z_S) :=
  z_gd (z_inb (4620 + p1) 25366) (
  z_lt (S.1 61 (z_ix (4620 + p1))) fun x2 =>
  (z_gd (z_inb (4620 + p2) 25366) (
  z_lt (z_ua S 61 (upd (S.1 61) (z_ix (4620 + p2)) x2)) fun S4 =>
  (z_gd (z_inb (6156 + p1) 25366) (
  z_lt (S4.1 61 (z_ix (6156 + p1))) fun x6 =>
  (z_gd (z_inb (6156 + p2) 25366) (
  z_lt (z_ua S4 61 (upd (S4.1 61) (z_ix (6156 + p2)) x6)) fun S8 =>
  (z_gd (z_inb (7692 + p1) 25366) (
  z_lt (S8.1 61 (z_ix (7692 + p1))) fun x10 =>
  (z_gd (z_inb (7692 + p2) 25366) (
  z_lt (z_ua S8 61 (upd (S8.1 61) (z_ix (7692 + p2)) x10)) fun S12 =>
  (z_gd (z_inb (9228 + p1) 25366) (
  z_lt (S12.1 61 (z_ix (9228 + p1))) fun x14 =>
  (z_gd (z_inb (9228 + p2) 25366) (
  z_lt (z_ua S12 61 (upd (S12.1 61) (z_ix (9228 + p2)) x14)) fun S16 =>
  (z_gd (z_inb (10764 + p1) 25366) (
  z_lt (S16.1 61 (z_ix (10764 + p1))) fun x18 =>
  (z_gd (z_inb (10764 + p2) 25366) (
  z_lt (z_ua S16 61 (upd (S16.1 61) (z_ix (10764 + p2)) x18)) fun S20 =>
  (some (.inl none, S20)))))))))))))))))))))
set_option maxRecDepth 20000 in
set_option maxHeartbeats 16000000 in
theorem c_X6_copy {l : Launch} {B : Nat} {p1 : Int32} {p2 : Int32} {S : z_S} {q : z_O × z_S} (hst : l.stackTraces = false) (hF : F_X6_copy B p1 p2 S = some q) : z_Met l I_X6_copy 0 0 B [.ref 60, .int p1, .int p2] S q.1 q.2 := by
  refine z_enter (ls := [some (.ref 60), some (.int p1), some (.int p2)]) (n := 0) (by decide) rfl (Nat.le_of_ble_eq_true rfl) hst ?_
  unfold F_X6_copy at hF
  refine z_aload_n (pc' := 1) dX6_copy_0 rfl rfl rfl ?_
  refine gf_X6_7 (b := 61) (pc' := 4) rfl is_6_60 rfl dX6_copy_1 rfl ?_
  refine z_sipush (v := 4620) (pc' := 7) dX6_copy_4 (by decide) rfl ?_
  refine z_iload_n (pc' := 8) dX6_copy_7 rfl rfl rfl ?_
  refine z_iadd (pc' := 9) dX6_copy_8 rfl ?_
  refine z_aload_n (pc' := 10) dX6_copy_9 rfl rfl rfl ?_
  refine gf_X6_7 (b := 61) (pc' := 13) rfl is_6_60 rfl dX6_copy_10 rfl ?_
  refine z_sipush (v := 4620) (pc' := 16) dX6_copy_13 (by decide) rfl ?_
  refine z_iload_n (pc' := 17) dX6_copy_16 rfl rfl rfl ?_
  refine z_iadd (pc' := 18) dX6_copy_17 rfl ?_
  obtain ⟨g1, hF⟩ := z_gde hF
  refine z_iaload (pc' := 19) (ar_6_f3 is_6_60) (z_inbe g1) dX6_copy_18 rfl ?_
  refine z_topi (fun x2 ex2 => ?_)
  replace hF := z_lte hF x2 ex2
  obtain ⟨g3, hF⟩ := z_gde hF
  refine z_iastore (pc' := 20) (ar_6_f3 is_6_60) (z_inbe g3) dX6_copy_19 rfl (fun S4 eS4 => ?_)
  replace hF := z_lte hF S4 eS4
  refine z_aload_n (pc' := 21) dX6_copy_20 rfl rfl rfl ?_
  refine gf_X6_7 (b := 61) (pc' := 24) rfl is_6_60 rfl dX6_copy_21 rfl ?_
  refine z_sipush (v := 6156) (pc' := 27) dX6_copy_24 (by decide) rfl ?_
  refine z_iload_n (pc' := 28) dX6_copy_27 rfl rfl rfl ?_
  refine z_iadd (pc' := 29) dX6_copy_28 rfl ?_
  refine z_aload_n (pc' := 30) dX6_copy_29 rfl rfl rfl ?_
  refine gf_X6_7 (b := 61) (pc' := 33) rfl is_6_60 rfl dX6_copy_30 rfl ?_
  refine z_sipush (v := 6156) (pc' := 36) dX6_copy_33 (by decide) rfl ?_
  refine z_iload_n (pc' := 37) dX6_copy_36 rfl rfl rfl ?_
  refine z_iadd (pc' := 38) dX6_copy_37 rfl ?_
  obtain ⟨g5, hF⟩ := z_gde hF
  refine z_iaload (pc' := 39) (ar_6_f3 is_6_60) (z_inbe g5) dX6_copy_38 rfl ?_
  refine z_topi (fun x6 ex6 => ?_)
  replace hF := z_lte hF x6 ex6
  obtain ⟨g7, hF⟩ := z_gde hF
  refine z_iastore (pc' := 40) (ar_6_f3 is_6_60) (z_inbe g7) dX6_copy_39 rfl (fun S8 eS8 => ?_)
  replace hF := z_lte hF S8 eS8
  refine z_aload_n (pc' := 41) dX6_copy_40 rfl rfl rfl ?_
  refine gf_X6_7 (b := 61) (pc' := 44) rfl is_6_60 rfl dX6_copy_41 rfl ?_
  refine z_sipush (v := 7692) (pc' := 47) dX6_copy_44 (by decide) rfl ?_
  refine z_iload_n (pc' := 48) dX6_copy_47 rfl rfl rfl ?_
  refine z_iadd (pc' := 49) dX6_copy_48 rfl ?_
  refine z_aload_n (pc' := 50) dX6_copy_49 rfl rfl rfl ?_
  refine gf_X6_7 (b := 61) (pc' := 53) rfl is_6_60 rfl dX6_copy_50 rfl ?_
  refine z_sipush (v := 7692) (pc' := 56) dX6_copy_53 (by decide) rfl ?_
  refine z_iload_n (pc' := 57) dX6_copy_56 rfl rfl rfl ?_
  refine z_iadd (pc' := 58) dX6_copy_57 rfl ?_
  obtain ⟨g9, hF⟩ := z_gde hF
  refine z_iaload (pc' := 59) (ar_6_f3 is_6_60) (z_inbe g9) dX6_copy_58 rfl ?_
  refine z_topi (fun x10 ex10 => ?_)
  replace hF := z_lte hF x10 ex10
  obtain ⟨g11, hF⟩ := z_gde hF
  refine z_iastore (pc' := 60) (ar_6_f3 is_6_60) (z_inbe g11) dX6_copy_59 rfl (fun S12 eS12 => ?_)
  replace hF := z_lte hF S12 eS12
  refine z_aload_n (pc' := 61) dX6_copy_60 rfl rfl rfl ?_
  refine gf_X6_7 (b := 61) (pc' := 64) rfl is_6_60 rfl dX6_copy_61 rfl ?_
  refine z_sipush (v := 9228) (pc' := 67) dX6_copy_64 (by decide) rfl ?_
  refine z_iload_n (pc' := 68) dX6_copy_67 rfl rfl rfl ?_
  refine z_iadd (pc' := 69) dX6_copy_68 rfl ?_
  refine z_aload_n (pc' := 70) dX6_copy_69 rfl rfl rfl ?_
  refine gf_X6_7 (b := 61) (pc' := 73) rfl is_6_60 rfl dX6_copy_70 rfl ?_
  refine z_sipush (v := 9228) (pc' := 76) dX6_copy_73 (by decide) rfl ?_
  refine z_iload_n (pc' := 77) dX6_copy_76 rfl rfl rfl ?_
  refine z_iadd (pc' := 78) dX6_copy_77 rfl ?_
  obtain ⟨g13, hF⟩ := z_gde hF
  refine z_iaload (pc' := 79) (ar_6_f3 is_6_60) (z_inbe g13) dX6_copy_78 rfl ?_
  refine z_topi (fun x14 ex14 => ?_)
  replace hF := z_lte hF x14 ex14
  obtain ⟨g15, hF⟩ := z_gde hF
  refine z_iastore (pc' := 80) (ar_6_f3 is_6_60) (z_inbe g15) dX6_copy_79 rfl (fun S16 eS16 => ?_)
  replace hF := z_lte hF S16 eS16
  refine z_aload_n (pc' := 81) dX6_copy_80 rfl rfl rfl ?_
  refine gf_X6_7 (b := 61) (pc' := 84) rfl is_6_60 rfl dX6_copy_81 rfl ?_
  refine z_sipush (v := 10764) (pc' := 87) dX6_copy_84 (by decide) rfl ?_
  refine z_iload_n (pc' := 88) dX6_copy_87 rfl rfl rfl ?_
  refine z_iadd (pc' := 89) dX6_copy_88 rfl ?_
  refine z_aload_n (pc' := 90) dX6_copy_89 rfl rfl rfl ?_
  refine gf_X6_7 (b := 61) (pc' := 93) rfl is_6_60 rfl dX6_copy_90 rfl ?_
  refine z_sipush (v := 10764) (pc' := 96) dX6_copy_93 (by decide) rfl ?_
  refine z_iload_n (pc' := 97) dX6_copy_96 rfl rfl rfl ?_
  refine z_iadd (pc' := 98) dX6_copy_97 rfl ?_
  obtain ⟨g17, hF⟩ := z_gde hF
  refine z_iaload (pc' := 99) (ar_6_f3 is_6_60) (z_inbe g17) dX6_copy_98 rfl ?_
  refine z_topi (fun x18 ex18 => ?_)
  replace hF := z_lte hF x18 ex18
  obtain ⟨g19, hF⟩ := z_gde hF
  refine z_iastore (pc' := 100) (ar_6_f3 is_6_60) (z_inbe g19) dX6_copy_99 rfl (fun S20 eS20 => ?_)
  replace hF := z_lte hF S20 eS20
  exact z_return rfl dX6_copy_100 (Option.some.inj hF).symm
theorem ok_X6_copy : z_okV I_X6_copy 2 := ⟨⟨z_Gin (List.mem_of_getElem? (i := 1019) (by decide +kernel)) rfl, z_Gin (List.mem_of_getElem? (i := 47) (by decide +kernel)) rfl, z_Gin (List.mem_of_getElem? (i := 98) (by decide +kernel)) rfl, z_Gin (List.mem_of_getElem? (i := 1020) (by decide +kernel)) rfl⟩, by decide, by decide, by decide +kernel⟩
theorem k_X6_copy {l : Launch} {I : z_I} {R : Room} {B : Nat} {p1 : Int32} {p2 : Int32} {q : z_O × z_S} {pc pc' : Nat} {ls : List (Option Value)} {st : List Value} {S S1 : z_S} {idx F L : Nat}  (hF : F_X6_copy B p1 p2 S = some (.inl none, S1)) (hst : l.stackTraces = false) (w : Cond.methodLink I.1.cls idx yX6_copy ∈ z_G) (hRF : R.frames = F) (hRL : R.locals = L) (h1 : 1 ≤ F) (h2 : 22 ≤ L) (hs : (st.map fun v => v.category).sum ≤ 8) (d : decode I.2.1 pc = .ok (.invokevirtual idx, 3)) (hp : pc + 3 = pc') (k : z_W l I R B q pc' ls st S1) : z_W l I R B q pc ls (.int p2 :: .int p1 :: .ref 60 :: st) S := z_callV (Y := I_X6_copy) (As := [.int p1, .int p2]) (st := st) (r := none) (S1 := S1) (c_X6_copy (q := (.inl none, S1)) hst hF) ok_X6_copy w (ci := 6) rfl is_6_60.1 is_6_60.2 rfl ⟨by rw [hRF]; exact h1, by rw [hRL]; exact h2⟩ hs d hp rfl k

