abbrev I_X6_drop : z_I := (yX6_drop, cX6_drop, 4, none)
abbrev R_X6_drop (q : z_O × z_S) : Room := { frames := 1, locals := 22, cells := z_mc q.1, slots := 6 * z_mc q.1 }
def F_X6_drop_2 (B : Nat)  : Nat → Int32 → Int32 → z_S → Option (z_O × z_S)
  | 0, _, _, _ => none
  | n + 1, v1, v3, S => z_gd (z_inb (3852 + v1) 25366) (
  z_lt (S.1 61 (z_ix (3852 + v1))) fun x2 =>
  (if x2 ≤ (v3 + 1) then
    z_gd (z_inb (3852 + v1) 25366) (
    z_lt (S.1 61 (z_ix (3852 + v1))) fun x4 =>
    (z_gd (z_inb (3852 + v1) 25366) (
    z_lt (z_ua S 61 (upd (S.1 61) (z_ix (3852 + v1)) (x4 - 1))) fun S6 =>
    (some (.inl none, S6)))))
  else
    z_bo (F_X6_copy B (((16 * v1) + v3) + 1) ((16 * v1) + v3) S) fun S8 =>
    (F_X6_drop_2 B n v1 (v3 + 1) S8)))
set_option maxRecDepth 20000 in
set_option maxHeartbeats 16000000 in
theorem ok_X6_drop_2 {l : Launch} {B : Nat} {q : z_O × z_S} (hst : l.stackTraces = false) : ∀ (n : Nat) (v1 : Int32) (v3 : Int32) (S : z_S), F_X6_drop_2 B n v1 v3 S = some q → z_W l I_X6_drop (R_X6_drop q) B q 2 [some (.ref 60), some (.int v1), none, some (.int v3)] [] S := by
  intro n
  induction n with
  | zero => intro v1 v3 S hF; cases hF
  | succ n ih =>
    intro v1 v3 S hF
    rw [F_X6_drop_2] at hF
    refine z_iload_n (pc' := 3) dX6_drop_2 rfl rfl rfl ?_
    refine z_iconst (v := 1) (pc' := 4) dX6_drop_3 (by decide) rfl ?_
    refine z_iadd (pc' := 5) dX6_drop_4 rfl ?_
    refine z_aload_n (pc' := 6) dX6_drop_5 rfl rfl rfl ?_
    refine gf_X6_7 (b := 61) (pc' := 9) rfl is_6_60 rfl dX6_drop_6 rfl ?_
    refine z_sipush (v := 3852) (pc' := 12) dX6_drop_9 (by decide) rfl ?_
    refine z_iload_n (pc' := 13) dX6_drop_12 rfl rfl rfl ?_
    refine z_iadd (pc' := 14) dX6_drop_13 rfl ?_
    obtain ⟨g1, hF⟩ := z_gde hF
    refine z_iaload (pc' := 15) (ar_6_f3 is_6_60) (z_inbe g1) dX6_drop_14 rfl ?_
    refine z_topi (fun x2 ex2 => ?_)
    replace hF := z_lte hF x2 ex2
    refine z_icmp_ge (tgt := 42) (pc' := 18) dX6_drop_15 (by decide) rfl (fun c10 => ?_) (fun c10 => ?_)
    · rw [if_pos c10] at hF
      refine z_aload_n (pc' := 43) dX6_drop_42 rfl rfl rfl ?_
      refine gf_X6_7 (b := 61) (pc' := 46) rfl is_6_60 rfl dX6_drop_43 rfl ?_
      refine z_sipush (v := 3852) (pc' := 49) dX6_drop_46 (by decide) rfl ?_
      refine z_iload_n (pc' := 50) dX6_drop_49 rfl rfl rfl ?_
      refine z_iadd (pc' := 51) dX6_drop_50 rfl ?_
      refine z_dup2 (pc' := 52) dX6_drop_51 rfl ?_
      obtain ⟨g3, hF⟩ := z_gde hF
      refine z_iaload (pc' := 53) (ar_6_f3 is_6_60) (z_inbe g3) dX6_drop_52 rfl ?_
      refine z_topi (fun x4 ex4 => ?_)
      replace hF := z_lte hF x4 ex4
      refine z_iconst (v := 1) (pc' := 54) dX6_drop_53 (by decide) rfl ?_
      refine z_isub (pc' := 55) dX6_drop_54 rfl ?_
      obtain ⟨g5, hF⟩ := z_gde hF
      refine z_iastore (pc' := 56) (ar_6_f3 is_6_60) (z_inbe g5) dX6_drop_55 rfl (fun S6 eS6 => ?_)
      replace hF := z_lte hF S6 eS6
      exact z_return rfl dX6_drop_56 (Option.some.inj hF).symm
    · rw [if_neg c10] at hF
      refine z_aload_n (pc' := 19) dX6_drop_18 rfl rfl rfl ?_
      refine z_bipush (v := 16) (pc' := 21) dX6_drop_19 (by decide) rfl ?_
      refine z_iload_n (pc' := 22) dX6_drop_21 rfl rfl rfl ?_
      refine z_imul (pc' := 23) dX6_drop_22 rfl ?_
      refine z_iload_n (pc' := 24) dX6_drop_23 rfl rfl rfl ?_
      refine z_iadd (pc' := 25) dX6_drop_24 rfl ?_
      refine z_iconst (v := 1) (pc' := 26) dX6_drop_25 (by decide) rfl ?_
      refine z_iadd (pc' := 27) dX6_drop_26 rfl ?_
      refine z_bipush (v := 16) (pc' := 29) dX6_drop_27 (by decide) rfl ?_
      refine z_iload_n (pc' := 30) dX6_drop_29 rfl rfl rfl ?_
      refine z_imul (pc' := 31) dX6_drop_30 rfl ?_
      refine z_iload_n (pc' := 32) dX6_drop_31 rfl rfl rfl ?_
      refine z_iadd (pc' := 33) dX6_drop_32 rfl ?_
      obtain ⟨S8, hc9, hF⟩ := z_boe hF
      refine k_X6_copy (F := 1) (L := 22) (pc' := 36) hc9 hst zw_116 rfl rfl (by decide) (by decide) (by decide) dX6_drop_33 rfl ?_
      refine z_iinc (v := v3 + 1) (pc' := 39) dX6_drop_36 rfl rfl (by decide) rfl rfl ?_
      refine z_goto (pc' := 2) dX6_drop_39 (by decide) ?_
      refine z_wk (ls' := [some (.ref 60), some (.int v1), none, some (.int (v3 + 1))]) (z_lec rfl (z_lec rfl (z_len1 (z_lec rfl z_le0)))) ?_
      exact ih _ _ _ hF
def F_X6_drop (B : Nat) (p1 : Int32) (p2 : Int32) (S : z_S) : Option (z_O × z_S) :=
  F_X6_drop_2 B z_n p1 p2 S
set_option maxRecDepth 20000 in
set_option maxHeartbeats 16000000 in
theorem c_X6_drop {l : Launch} {B : Nat} {p1 : Int32} {p2 : Int32} {S : z_S} {q : z_O × z_S} (hst : l.stackTraces = false) (hF : F_X6_drop B p1 p2 S = some q) : z_Met l I_X6_drop 1 22 B [.ref 60, .int p1, .int p2] S q.1 q.2 := by
  refine z_enter (ls := [some (.ref 60), some (.int p1), some (.int p2), none]) (n := 1) (by decide) rfl (Nat.le_of_ble_eq_true rfl) hst ?_
  unfold F_X6_drop at hF
  refine z_iload_n (pc' := 1) dX6_drop_0 rfl rfl rfl ?_
  refine z_istore_n (pc' := 2) dX6_drop_1 rfl (by decide) rfl rfl ?_
  refine z_wk (ls' := [some (.ref 60), some (.int p1), none, some (.int p2)]) (z_lec rfl (z_lec rfl (z_len1 (z_lec rfl z_le0)))) ?_
  exact (ok_X6_drop_2 hst z_n) _ _ _ hF
theorem ok_X6_drop : z_okV I_X6_drop 2 := ⟨⟨z_Gin (List.mem_of_getElem? (i := 1051) (by decide +kernel)) rfl, z_Gin (List.mem_of_getElem? (i := 55) (by decide +kernel)) rfl, z_Gin (List.mem_of_getElem? (i := 98) (by decide +kernel)) rfl, z_Gin (List.mem_of_getElem? (i := 1052) (by decide +kernel)) rfl⟩, by decide, by decide, by decide +kernel⟩
theorem k_X6_drop {l : Launch} {I : z_I} {R : Room} {B : Nat} {p1 : Int32} {p2 : Int32} {q : z_O × z_S} {pc pc' : Nat} {ls : List (Option Value)} {st : List Value} {S S1 : z_S} {idx F L : Nat}  (hF : F_X6_drop B p1 p2 S = some (.inl none, S1)) (hst : l.stackTraces = false) (w : Cond.methodLink I.1.cls idx yX6_drop ∈ z_G) (hRF : R.frames = F) (hRL : R.locals = L) (h1 : 2 ≤ F) (h2 : 45 ≤ L) (hs : (st.map fun v => v.category).sum ≤ 8) (d : decode I.2.1 pc = .ok (.invokevirtual idx, 3)) (hp : pc + 3 = pc') (k : z_W l I R B q pc' ls st S1) : z_W l I R B q pc ls (.int p2 :: .int p1 :: .ref 60 :: st) S := z_callV (Y := I_X6_drop) (As := [.int p1, .int p2]) (st := st) (r := none) (S1 := S1) (c_X6_drop (q := (.inl none, S1)) hst hF) ok_X6_drop w (ci := 6) rfl is_6_60.1 is_6_60.2 rfl ⟨by rw [hRF]; exact h1, by rw [hRL]; exact h2⟩ hs d hp rfl k

abbrev I_X6_carry : z_I := (yX6_carry, cX6_carry, 6, none)
abbrev R_X6_carry (q : z_O × z_S) : Room := { frames := 2, locals := 45, cells := z_mc q.1, slots := 6 * z_mc q.1 }
def F_X6_carry_12 (B : Nat)  : Nat → Int32 → Int32 → Int32 → Int32 → Int32 → z_S → Option (z_O × z_S)
  | 0, _, _, _, _, _, _ => none
  | n + 1, v1, v2, v3, v4, v5, S => if v5 ≤ v4 then
    z_bo (F_X6_copy B ((16 * v1) + v2) ((16 * v3) + v4) S) fun S2 =>
    (z_gd (z_inb (3852 + v3) 25366) (
    z_lt (S2.1 61 (z_ix (3852 + v3))) fun x5 =>
    (z_gd (z_inb (3852 + v3) 25366) (
    z_lt (z_ua S2 61 (upd (S2.1 61) (z_ix (3852 + v3)) (x5 + 1))) fun S7 =>
    (z_bo (F_X6_drop B v1 v2 S7) fun S9 =>
    (some (.inl none, S9)))))))
  else
    z_bo (F_X6_copy B (((16 * v3) + v5) - 1) ((16 * v3) + v5) S) fun S12 =>
    (F_X6_carry_12 B n v1 v2 v3 v4 (v5 + (-1)) S12)
set_option maxRecDepth 20000 in
set_option maxHeartbeats 16000000 in
theorem ok_X6_carry_12 {l : Launch} {B : Nat} {q : z_O × z_S} (hst : l.stackTraces = false) : ∀ (n : Nat) (v1 : Int32) (v2 : Int32) (v3 : Int32) (v4 : Int32) (v5 : Int32) (S : z_S), F_X6_carry_12 B n v1 v2 v3 v4 v5 S = some q → z_W l I_X6_carry (R_X6_carry q) B q 12 [some (.ref 60), some (.int v1), some (.int v2), some (.int v3), some (.int v4), some (.int v5)] [] S := by
  intro n
  induction n with
  | zero => intro v1 v2 v3 v4 v5 S hF; cases hF
  | succ n ih =>
    intro v1 v2 v3 v4 v5 S hF
    rw [F_X6_carry_12] at hF
    refine z_iload (pc' := 14) dX6_carry_12 rfl rfl ?_
    refine z_iload (pc' := 16) dX6_carry_14 rfl rfl ?_
    refine z_icmp_le (tgt := 45) (pc' := 19) dX6_carry_16 (by decide) rfl (fun c14 => ?_) (fun c14 => ?_)
    · rw [if_pos c14] at hF
      refine z_aload_n (pc' := 46) dX6_carry_45 rfl rfl rfl ?_
      refine z_bipush (v := 16) (pc' := 48) dX6_carry_46 (by decide) rfl ?_
      refine z_iload_n (pc' := 49) dX6_carry_48 rfl rfl rfl ?_
      refine z_imul (pc' := 50) dX6_carry_49 rfl ?_
      refine z_iload_n (pc' := 51) dX6_carry_50 rfl rfl rfl ?_
      refine z_iadd (pc' := 52) dX6_carry_51 rfl ?_
      refine z_bipush (v := 16) (pc' := 54) dX6_carry_52 (by decide) rfl ?_
      refine z_iload_n (pc' := 55) dX6_carry_54 rfl rfl rfl ?_
      refine z_imul (pc' := 56) dX6_carry_55 rfl ?_
      refine z_iload (pc' := 58) dX6_carry_56 rfl rfl ?_
      refine z_iadd (pc' := 59) dX6_carry_58 rfl ?_
      obtain ⟨S2, hc3, hF⟩ := z_boe hF
      refine k_X6_copy (F := 2) (L := 45) (pc' := 62) hc3 hst zw_116 rfl rfl (by decide) (by decide) (by decide) dX6_carry_59 rfl ?_
      refine z_aload_n (pc' := 63) dX6_carry_62 rfl rfl rfl ?_
      refine gf_X6_7 (b := 61) (pc' := 66) rfl is_6_60 rfl dX6_carry_63 rfl ?_
      refine z_sipush (v := 3852) (pc' := 69) dX6_carry_66 (by decide) rfl ?_
      refine z_iload_n (pc' := 70) dX6_carry_69 rfl rfl rfl ?_
      refine z_iadd (pc' := 71) dX6_carry_70 rfl ?_
      refine z_dup2 (pc' := 72) dX6_carry_71 rfl ?_
      obtain ⟨g4, hF⟩ := z_gde hF
      refine z_iaload (pc' := 73) (ar_6_f3 is_6_60) (z_inbe g4) dX6_carry_72 rfl ?_
      refine z_topi (fun x5 ex5 => ?_)
      replace hF := z_lte hF x5 ex5
      refine z_iconst (v := 1) (pc' := 74) dX6_carry_73 (by decide) rfl ?_
      refine z_iadd (pc' := 75) dX6_carry_74 rfl ?_
      obtain ⟨g6, hF⟩ := z_gde hF
      refine z_iastore (pc' := 76) (ar_6_f3 is_6_60) (z_inbe g6) dX6_carry_75 rfl (fun S7 eS7 => ?_)
      replace hF := z_lte hF S7 eS7
      refine z_aload_n (pc' := 77) dX6_carry_76 rfl rfl rfl ?_
      refine z_iload_n (pc' := 78) dX6_carry_77 rfl rfl rfl ?_
      refine z_iload_n (pc' := 79) dX6_carry_78 rfl rfl rfl ?_
      obtain ⟨S9, hc10, hF⟩ := z_boe hF
      refine k_X6_drop (F := 2) (L := 45) (pc' := 82) hc10 hst zw_117 rfl rfl (by decide) (by decide) (by decide) dX6_carry_79 rfl ?_
      exact z_return rfl dX6_carry_82 (Option.some.inj hF).symm
    · rw [if_neg c14] at hF
      refine z_aload_n (pc' := 20) dX6_carry_19 rfl rfl rfl ?_
      refine z_bipush (v := 16) (pc' := 22) dX6_carry_20 (by decide) rfl ?_
      refine z_iload_n (pc' := 23) dX6_carry_22 rfl rfl rfl ?_
      refine z_imul (pc' := 24) dX6_carry_23 rfl ?_
      refine z_iload (pc' := 26) dX6_carry_24 rfl rfl ?_
      refine z_iadd (pc' := 27) dX6_carry_26 rfl ?_
      refine z_iconst (v := 1) (pc' := 28) dX6_carry_27 (by decide) rfl ?_
      refine z_isub (pc' := 29) dX6_carry_28 rfl ?_
      refine z_bipush (v := 16) (pc' := 31) dX6_carry_29 (by decide) rfl ?_
      refine z_iload_n (pc' := 32) dX6_carry_31 rfl rfl rfl ?_
      refine z_imul (pc' := 33) dX6_carry_32 rfl ?_
      refine z_iload (pc' := 35) dX6_carry_33 rfl rfl ?_
      refine z_iadd (pc' := 36) dX6_carry_35 rfl ?_
      obtain ⟨S12, hc13, hF⟩ := z_boe hF
      refine k_X6_copy (F := 2) (L := 45) (pc' := 39) hc13 hst zw_116 rfl rfl (by decide) (by decide) (by decide) dX6_carry_36 rfl ?_
      refine z_iinc (v := v5 + (-1)) (pc' := 42) dX6_carry_39 rfl rfl (by decide) rfl rfl ?_
      refine z_goto (pc' := 12) dX6_carry_42 (by decide) ?_
      refine z_wk (ls' := [some (.ref 60), some (.int v1), some (.int v2), some (.int v3), some (.int v4), some (.int (v5 + (-1)))]) (z_lec rfl (z_lec rfl (z_lec rfl (z_lec rfl (z_lec rfl (z_lec rfl z_le0)))))) ?_
      exact ih _ _ _ _ _ _ hF
def F_X6_carry (B : Nat) (p1 : Int32) (p2 : Int32) (p3 : Int32) (p4 : Int32) (S : z_S) : Option (z_O × z_S) :=
  z_gd (z_inb (3852 + p3) 25366) (
  z_lt (S.1 61 (z_ix (3852 + p3))) fun x2 =>
  (F_X6_carry_12 B z_n p1 p2 p3 p4 x2 S))
set_option maxRecDepth 20000 in
set_option maxHeartbeats 16000000 in
theorem c_X6_carry {l : Launch} {B : Nat} {p1 : Int32} {p2 : Int32} {p3 : Int32} {p4 : Int32} {S : z_S} {q : z_O × z_S} (hst : l.stackTraces = false) (hF : F_X6_carry B p1 p2 p3 p4 S = some q) : z_Met l I_X6_carry 2 45 B [.ref 60, .int p1, .int p2, .int p3, .int p4] S q.1 q.2 := by
  refine z_enter (ls := [some (.ref 60), some (.int p1), some (.int p2), some (.int p3), some (.int p4), none]) (n := 1) (by decide) rfl (Nat.le_of_ble_eq_true rfl) hst ?_
  unfold F_X6_carry at hF
  refine z_aload_n (pc' := 1) dX6_carry_0 rfl rfl rfl ?_
  refine gf_X6_7 (b := 61) (pc' := 4) rfl is_6_60 rfl dX6_carry_1 rfl ?_
  refine z_sipush (v := 3852) (pc' := 7) dX6_carry_4 (by decide) rfl ?_
  refine z_iload_n (pc' := 8) dX6_carry_7 rfl rfl rfl ?_
  refine z_iadd (pc' := 9) dX6_carry_8 rfl ?_
  obtain ⟨g1, hF⟩ := z_gde hF
  refine z_iaload (pc' := 10) (ar_6_f3 is_6_60) (z_inbe g1) dX6_carry_9 rfl ?_
  refine z_topi (fun x2 ex2 => ?_)
  replace hF := z_lte hF x2 ex2
  refine z_istore (pc' := 12) dX6_carry_10 (by decide) rfl rfl ?_
  refine z_wk (ls' := [some (.ref 60), some (.int p1), some (.int p2), some (.int p3), some (.int p4), some (.int x2)]) (z_lec rfl (z_lec rfl (z_lec rfl (z_lec rfl (z_lec rfl (z_lec rfl z_le0)))))) ?_
  exact (ok_X6_carry_12 hst z_n) _ _ _ _ _ _ hF
theorem ok_X6_carry : z_okV I_X6_carry 4 := ⟨⟨z_Gin (List.mem_of_getElem? (i := 1047) (by decide +kernel)) rfl, z_Gin (List.mem_of_getElem? (i := 54) (by decide +kernel)) rfl, z_Gin (List.mem_of_getElem? (i := 98) (by decide +kernel)) rfl, z_Gin (List.mem_of_getElem? (i := 1048) (by decide +kernel)) rfl⟩, by decide, by decide, by decide +kernel⟩
theorem k_X6_carry {l : Launch} {I : z_I} {R : Room} {B : Nat} {p1 : Int32} {p2 : Int32} {p3 : Int32} {p4 : Int32} {q : z_O × z_S} {pc pc' : Nat} {ls : List (Option Value)} {st : List Value} {S S1 : z_S} {idx F L : Nat}  (hF : F_X6_carry B p1 p2 p3 p4 S = some (.inl none, S1)) (hst : l.stackTraces = false) (w : Cond.methodLink I.1.cls idx yX6_carry ∈ z_G) (hRF : R.frames = F) (hRL : R.locals = L) (h1 : 3 ≤ F) (h2 : 70 ≤ L) (hs : (st.map fun v => v.category).sum ≤ 8) (d : decode I.2.1 pc = .ok (.invokevirtual idx, 3)) (hp : pc + 3 = pc') (k : z_W l I R B q pc' ls st S1) : z_W l I R B q pc ls (.int p4 :: .int p3 :: .int p2 :: .int p1 :: .ref 60 :: st) S := z_callV (Y := I_X6_carry) (As := [.int p1, .int p2, .int p3, .int p4]) (st := st) (r := none) (S1 := S1) (c_X6_carry (q := (.inl none, S1)) hst hF) ok_X6_carry w (ci := 6) rfl is_6_60.1 is_6_60.2 rfl ⟨by rw [hRF]; exact h1, by rw [hRL]; exact h2⟩ hs d hp rfl k

abbrev I_X6_settle : z_I := (yX6_settle, cX6_settle, 5, none)
abbrev R_X6_settle (q : z_O × z_S) : Room := { frames := 4, locals := 97, cells := z_mc q.1, slots := 6 * z_mc q.1 }
def F_X6_settle_180 (B : Nat)  : Nat → Int32 → Int32 → z_S → Option (z_O × z_S)
  | 0, _, _, _ => none
  | n + 1, v1, v4, S => z_bn (F_X6_used B v1 S) fun r1 S2 =>
  (if r1 ≤ 120 then
    z_bo (F_X6_lineUp B v4 v1 S2) fun S5 =>
    (z_bo (F_X6_added B v1 v4 S5) fun S8 =>
    (some (.inl none, S8)))
  else
    z_gd (z_inb (3852 + v1) 25366) (
    z_lt (S2.1 61 (z_ix (3852 + v1))) fun x11 =>
    (z_bo (F_X6_carry B v1 (x11 - 1) v4 0 S2) fun S13 =>
    (F_X6_settle_180 B n v1 v4 S13))))
set_option maxRecDepth 20000 in
set_option maxHeartbeats 16000000 in
theorem ok_X6_settle_180 {l : Launch} {B : Nat} {q : z_O × z_S} (hst : l.stackTraces = false) : ∀ (n : Nat) (v1 : Int32) (v4 : Int32) (S : z_S), F_X6_settle_180 B n v1 v4 S = some q → z_W l I_X6_settle (R_X6_settle q) B q 180 [some (.ref 60), some (.int v1), none, none, some (.int v4)] [] S := by
  intro n
  induction n with
  | zero => intro v1 v4 S hF; cases hF
  | succ n ih =>
    intro v1 v4 S hF
    rw [F_X6_settle_180] at hF
    refine z_aload_n (pc' := 181) dX6_settle_180 rfl rfl rfl ?_
    refine z_iload_n (pc' := 182) dX6_settle_181 rfl rfl rfl ?_
    obtain ⟨r1, S2, hc3, hF⟩ := z_bne hF
    refine k_X6_used (F := 4) (L := 97) (pc' := 185) hc3 hst zw_118 rfl rfl (by decide) (by decide) (by decide) dX6_settle_182 rfl ?_
    refine z_bipush (v := 120) (pc' := 187) dX6_settle_185 (by decide) rfl ?_
    refine z_icmp_le (tgt := 213) (pc' := 190) dX6_settle_187 (by decide) rfl (fun c15 => ?_) (fun c15 => ?_)
    · rw [if_pos c15] at hF
      refine z_aload_n (pc' := 214) dX6_settle_213 rfl rfl rfl ?_
      refine z_iload (pc' := 216) dX6_settle_214 rfl rfl ?_
      refine z_iload_n (pc' := 217) dX6_settle_216 rfl rfl rfl ?_
      obtain ⟨S5, hc6, hF⟩ := z_boe hF
      refine k_X6_lineUp (F := 4) (L := 97) (pc' := 220) hc6 hst zw_111 rfl rfl (by decide) (by decide) (by decide) dX6_settle_217 rfl ?_
      refine z_aload_n (pc' := 221) dX6_settle_220 rfl rfl rfl ?_
      refine z_iload_n (pc' := 222) dX6_settle_221 rfl rfl rfl ?_
      refine z_iload (pc' := 224) dX6_settle_222 rfl rfl ?_
      obtain ⟨S8, hc9, hF⟩ := z_boe hF
      refine k_X6_added (F := 4) (L := 97) (pc' := 227) hc9 hst zw_121 rfl rfl (by decide) (by decide) (by decide) dX6_settle_224 rfl ?_
      exact z_return rfl dX6_settle_227 (Option.some.inj hF).symm
    · rw [if_neg c15] at hF
      refine z_aload_n (pc' := 191) dX6_settle_190 rfl rfl rfl ?_
      refine z_iload_n (pc' := 192) dX6_settle_191 rfl rfl rfl ?_
      refine z_aload_n (pc' := 193) dX6_settle_192 rfl rfl rfl ?_
      refine gf_X6_7 (b := 61) (pc' := 196) rfl is_6_60 rfl dX6_settle_193 rfl ?_
      refine z_sipush (v := 3852) (pc' := 199) dX6_settle_196 (by decide) rfl ?_
      refine z_iload_n (pc' := 200) dX6_settle_199 rfl rfl rfl ?_
      refine z_iadd (pc' := 201) dX6_settle_200 rfl ?_
      obtain ⟨g10, hF⟩ := z_gde hF
      refine z_iaload (pc' := 202) (ar_6_f3 is_6_60) (z_inbe g10) dX6_settle_201 rfl ?_
      refine z_topi (fun x11 ex11 => ?_)
      replace hF := z_lte hF x11 ex11
      refine z_iconst (v := 1) (pc' := 203) dX6_settle_202 (by decide) rfl ?_
      refine z_isub (pc' := 204) dX6_settle_203 rfl ?_
      refine z_iload (pc' := 206) dX6_settle_204 rfl rfl ?_
      refine z_iconst (v := 0) (pc' := 207) dX6_settle_206 (by decide) rfl ?_
      obtain ⟨S13, hc14, hF⟩ := z_boe hF
      refine k_X6_carry (F := 4) (L := 97) (pc' := 210) hc14 hst zw_120 rfl rfl (by decide) (by decide) (by decide) dX6_settle_207 rfl ?_
      refine z_goto (pc' := 180) dX6_settle_210 (by decide) ?_
      refine z_wk (ls' := [some (.ref 60), some (.int v1), none, none, some (.int v4)]) (z_lec rfl (z_lec rfl (z_len1 (z_len1 (z_lec rfl z_le0))))) ?_
      exact ih _ _ _ hF
def F_X6_settle_131 (B : Nat)  (v1 : Int32) (S : z_S) : Option (z_O × z_S) :=
  z_bn (F_X6_used B v1 S) fun r1 S2 =>
  (if 120 < r1 then
    z_bn (F_X6_take B S2) fun r4 S5 =>
    (if (S5.2.1 60 7) = 0 then
      z_gd (z_inb (3756 + r4) 25366) (
      z_lt (z_ua S5 61 (upd (S5.1 61) (z_ix (3756 + r4)) 1)) fun S8 =>
      (z_gd (z_inb (3948 + r4) 25366) (
      z_lt (z_ua S8 61 (upd (S8.1 61) (z_ix (3948 + r4)) (-1))) fun S10 =>
      (F_X6_settle_180 B z_n v1 r4 S10))))
    else
      some (.inl none, S5))
  else
    some (.inl none, S2))
set_option maxRecDepth 20000 in
set_option maxHeartbeats 16000000 in
theorem ok_X6_settle_131 {l : Launch} {B : Nat} {q : z_O × z_S} (hst : l.stackTraces = false) : ∀ (v1 : Int32) (S : z_S), F_X6_settle_131 B v1 S = some q → z_W l I_X6_settle (R_X6_settle q) B q 131 [some (.ref 60), some (.int v1), none, none, none] [] S := by
  intro v1 S hF
  unfold F_X6_settle_131 at hF
  refine z_aload_n (pc' := 132) dX6_settle_131 rfl rfl rfl ?_
  refine z_iload_n (pc' := 133) dX6_settle_132 rfl rfl rfl ?_
  obtain ⟨r1, S2, hc3, hF⟩ := z_bne hF
  refine k_X6_used (F := 4) (L := 97) (pc' := 136) hc3 hst zw_118 rfl rfl (by decide) (by decide) (by decide) dX6_settle_133 rfl ?_
  refine z_bipush (v := 120) (pc' := 138) dX6_settle_136 (by decide) rfl ?_
  refine z_icmp_gt (tgt := 142) (pc' := 141) dX6_settle_138 (by decide) rfl (fun c12 => ?_) (fun c12 => ?_)
  · rw [if_pos c12] at hF
    refine z_aload_n (pc' := 143) dX6_settle_142 rfl rfl rfl ?_
    obtain ⟨r4, S5, hc6, hF⟩ := z_bne hF
    refine k_X6_take (F := 4) (L := 97) (pc' := 146) hc6 hst zw_110 rfl rfl (by decide) (by decide) (by decide) dX6_settle_143 rfl ?_
    refine z_istore (pc' := 148) dX6_settle_146 (by decide) rfl rfl ?_
    refine z_aload_n (pc' := 149) dX6_settle_148 rfl rfl rfl ?_
    refine gf_X6_51 (pc' := 152) rfl is_6_60 dX6_settle_149 rfl ?_
    refine z_if_eq (tgt := 156) (pc' := 155) dX6_settle_152 (by decide) rfl (fun c11 => ?_) (fun c11 => ?_)
    · rw [if_pos c11] at hF
      refine z_aload_n (pc' := 157) dX6_settle_156 rfl rfl rfl ?_
      refine gf_X6_7 (b := 61) (pc' := 160) rfl is_6_60 rfl dX6_settle_157 rfl ?_
      refine z_sipush (v := 3756) (pc' := 163) dX6_settle_160 (by decide) rfl ?_
      refine z_iload (pc' := 165) dX6_settle_163 rfl rfl ?_
      refine z_iadd (pc' := 166) dX6_settle_165 rfl ?_
      refine z_iconst (v := 1) (pc' := 167) dX6_settle_166 (by decide) rfl ?_
      obtain ⟨g7, hF⟩ := z_gde hF
      refine z_iastore (pc' := 168) (ar_6_f3 is_6_60) (z_inbe g7) dX6_settle_167 rfl (fun S8 eS8 => ?_)
      replace hF := z_lte hF S8 eS8
      refine z_aload_n (pc' := 169) dX6_settle_168 rfl rfl rfl ?_
      refine gf_X6_7 (b := 61) (pc' := 172) rfl is_6_60 rfl dX6_settle_169 rfl ?_
      refine z_sipush (v := 3948) (pc' := 175) dX6_settle_172 (by decide) rfl ?_
      refine z_iload (pc' := 177) dX6_settle_175 rfl rfl ?_
      refine z_iadd (pc' := 178) dX6_settle_177 rfl ?_
      refine z_iconst (v := (-1)) (pc' := 179) dX6_settle_178 (by decide) rfl ?_
      obtain ⟨g9, hF⟩ := z_gde hF
      refine z_iastore (pc' := 180) (ar_6_f3 is_6_60) (z_inbe g9) dX6_settle_179 rfl (fun S10 eS10 => ?_)
      replace hF := z_lte hF S10 eS10
      refine z_wk (ls' := [some (.ref 60), some (.int v1), none, none, some (.int r4)]) (z_lec rfl (z_lec rfl (z_len1 (z_len1 (z_lec rfl z_le0))))) ?_
      exact (ok_X6_settle_180 hst z_n) _ _ _ hF
    · rw [if_neg c11] at hF
      exact z_return rfl dX6_settle_155 (Option.some.inj hF).symm
  · rw [if_neg c12] at hF
    exact z_return rfl dX6_settle_141 (Option.some.inj hF).symm
def F_X6_settle_66 (B : Nat)  : Nat → Int32 → Int32 → z_S → Option (z_O × z_S)
  | 0, _, _, _ => none
  | n + 1, v1, v3, S => z_bn (F_X6_used B v1 S) fun r1 S2 =>
  (if r1 ≤ 120 then
    F_X6_settle_131 B v1 S2
  else
    if v3 = (-1) then
      F_X6_settle_131 B v1 S2
    else
      z_bn (F_X6_used B v3 S2) fun r4 S5 =>
      (z_gd (z_inb (3852 + v1) 25366) (
      z_lt (S5.1 61 (z_ix (3852 + v1))) fun x8 =>
      (z_bn (F_X6_cost B v1 (x8 - 1) S5) fun r9 S10 =>
      (if 120 < (r4 + r9) then
        F_X6_settle_131 B v1 S10
      else
        z_gd (z_inb (3852 + v1) 25366) (
        z_lt (S10.1 61 (z_ix (3852 + v1))) fun x13 =>
        (z_bo (F_X6_carry B v1 (x13 - 1) v3 0 S10) fun S15 =>
        (F_X6_settle_66 B n v1 v3 S15))))))))
set_option maxRecDepth 20000 in
set_option maxHeartbeats 16000000 in
theorem ok_X6_settle_66 {l : Launch} {B : Nat} {q : z_O × z_S} (hst : l.stackTraces = false) : ∀ (n : Nat) (v1 : Int32) (v3 : Int32) (S : z_S), F_X6_settle_66 B n v1 v3 S = some q → z_W l I_X6_settle (R_X6_settle q) B q 66 [some (.ref 60), some (.int v1), none, some (.int v3), none] [] S := by
  intro n
  induction n with
  | zero => intro v1 v3 S hF; cases hF
  | succ n ih =>
    intro v1 v3 S hF
    rw [F_X6_settle_66] at hF
    refine z_aload_n (pc' := 67) dX6_settle_66 rfl rfl rfl ?_
    refine z_iload_n (pc' := 68) dX6_settle_67 rfl rfl rfl ?_
    obtain ⟨r1, S2, hc3, hF⟩ := z_bne hF
    refine k_X6_used (F := 4) (L := 97) (pc' := 71) hc3 hst zw_118 rfl rfl (by decide) (by decide) (by decide) dX6_settle_68 rfl ?_
    refine z_bipush (v := 120) (pc' := 73) dX6_settle_71 (by decide) rfl ?_
    refine z_icmp_le (tgt := 131) (pc' := 76) dX6_settle_73 (by decide) rfl (fun c19 => ?_) (fun c19 => ?_)
    · rw [if_pos c19] at hF
      refine z_wk (ls' := [some (.ref 60), some (.int v1), none, none, none]) (z_lec rfl (z_lec rfl (z_len1 (z_len1 (z_len1 z_le0))))) ?_
      exact (ok_X6_settle_131 hst) _ _ hF
    · rw [if_neg c19] at hF
      refine z_iload_n (pc' := 77) dX6_settle_76 rfl rfl rfl ?_
      refine z_iconst (v := (-1)) (pc' := 78) dX6_settle_77 (by decide) rfl ?_
      refine z_icmp_eq (tgt := 131) (pc' := 81) dX6_settle_78 (by decide) rfl (fun c18 => ?_) (fun c18 => ?_)
      · rw [if_pos c18] at hF
        refine z_wk (ls' := [some (.ref 60), some (.int v1), none, none, none]) (z_lec rfl (z_lec rfl (z_len1 (z_len1 (z_len1 z_le0))))) ?_
        exact (ok_X6_settle_131 hst) _ _ hF
      · rw [if_neg c18] at hF
        refine z_aload_n (pc' := 82) dX6_settle_81 rfl rfl rfl ?_
        refine z_iload_n (pc' := 83) dX6_settle_82 rfl rfl rfl ?_
        obtain ⟨r4, S5, hc6, hF⟩ := z_bne hF
        refine k_X6_used (F := 4) (L := 97) (pc' := 86) hc6 hst zw_118 rfl rfl (by decide) (by decide) (by decide) dX6_settle_83 rfl ?_
        refine z_aload_n (pc' := 87) dX6_settle_86 rfl rfl rfl ?_
        refine z_iload_n (pc' := 88) dX6_settle_87 rfl rfl rfl ?_
        refine z_aload_n (pc' := 89) dX6_settle_88 rfl rfl rfl ?_
        refine gf_X6_7 (b := 61) (pc' := 92) rfl is_6_60 rfl dX6_settle_89 rfl ?_
        refine z_sipush (v := 3852) (pc' := 95) dX6_settle_92 (by decide) rfl ?_
        refine z_iload_n (pc' := 96) dX6_settle_95 rfl rfl rfl ?_
        refine z_iadd (pc' := 97) dX6_settle_96 rfl ?_
        obtain ⟨g7, hF⟩ := z_gde hF
        refine z_iaload (pc' := 98) (ar_6_f3 is_6_60) (z_inbe g7) dX6_settle_97 rfl ?_
        refine z_topi (fun x8 ex8 => ?_)
        replace hF := z_lte hF x8 ex8
        refine z_iconst (v := 1) (pc' := 99) dX6_settle_98 (by decide) rfl ?_
        refine z_isub (pc' := 100) dX6_settle_99 rfl ?_
        obtain ⟨r9, S10, hc11, hF⟩ := z_bne hF
        refine k_X6_cost (F := 4) (L := 97) (pc' := 103) hc11 hst zw_119 rfl rfl (by decide) (by decide) (Nat.le_of_ble_eq_true rfl) dX6_settle_100 rfl ?_
        refine z_iadd (pc' := 104) dX6_settle_103 rfl ?_
        refine z_bipush (v := 120) (pc' := 106) dX6_settle_104 (by decide) rfl ?_
        refine z_icmp_gt (tgt := 131) (pc' := 109) dX6_settle_106 (by decide) rfl (fun c17 => ?_) (fun c17 => ?_)
        · rw [if_pos c17] at hF
          refine z_wk (ls' := [some (.ref 60), some (.int v1), none, none, none]) (z_lec rfl (z_lec rfl (z_len1 (z_len1 (z_len1 z_le0))))) ?_
          exact (ok_X6_settle_131 hst) _ _ hF
        · rw [if_neg c17] at hF
          refine z_aload_n (pc' := 110) dX6_settle_109 rfl rfl rfl ?_
          refine z_iload_n (pc' := 111) dX6_settle_110 rfl rfl rfl ?_
          refine z_aload_n (pc' := 112) dX6_settle_111 rfl rfl rfl ?_
          refine gf_X6_7 (b := 61) (pc' := 115) rfl is_6_60 rfl dX6_settle_112 rfl ?_
          refine z_sipush (v := 3852) (pc' := 118) dX6_settle_115 (by decide) rfl ?_
          refine z_iload_n (pc' := 119) dX6_settle_118 rfl rfl rfl ?_
          refine z_iadd (pc' := 120) dX6_settle_119 rfl ?_
          obtain ⟨g12, hF⟩ := z_gde hF
          refine z_iaload (pc' := 121) (ar_6_f3 is_6_60) (z_inbe g12) dX6_settle_120 rfl ?_
          refine z_topi (fun x13 ex13 => ?_)
          replace hF := z_lte hF x13 ex13
          refine z_iconst (v := 1) (pc' := 122) dX6_settle_121 (by decide) rfl ?_
          refine z_isub (pc' := 123) dX6_settle_122 rfl ?_
          refine z_iload_n (pc' := 124) dX6_settle_123 rfl rfl rfl ?_
          refine z_iconst (v := 0) (pc' := 125) dX6_settle_124 (by decide) rfl ?_
          obtain ⟨S15, hc16, hF⟩ := z_boe hF
          refine k_X6_carry (F := 4) (L := 97) (pc' := 128) hc16 hst zw_120 rfl rfl (by decide) (by decide) (by decide) dX6_settle_125 rfl ?_
          refine z_goto (pc' := 66) dX6_settle_128 (by decide) ?_
          refine z_wk (ls' := [some (.ref 60), some (.int v1), none, some (.int v3), none]) (z_lec rfl (z_lec rfl (z_len1 (z_lec rfl (z_len1 z_le0))))) ?_
          exact ih _ _ _ hF
def F_X6_settle_59 (B : Nat)  (v1 : Int32) (S : z_S) : Option (z_O × z_S) :=
  z_bn (F_X6_beside B v1 1 S) fun r1 S2 =>
  (F_X6_settle_66 B z_n v1 r1 S2)
set_option maxRecDepth 20000 in
set_option maxHeartbeats 16000000 in
theorem ok_X6_settle_59 {l : Launch} {B : Nat} {q : z_O × z_S} (hst : l.stackTraces = false) : ∀ (v1 : Int32) (S : z_S), F_X6_settle_59 B v1 S = some q → z_W l I_X6_settle (R_X6_settle q) B q 59 [some (.ref 60), some (.int v1), none, none, none] [] S := by
  intro v1 S hF
  unfold F_X6_settle_59 at hF
  refine z_aload_n (pc' := 60) dX6_settle_59 rfl rfl rfl ?_
  refine z_iload_n (pc' := 61) dX6_settle_60 rfl rfl rfl ?_
  refine z_iconst (v := 1) (pc' := 62) dX6_settle_61 (by decide) rfl ?_
  obtain ⟨r1, S2, hc3, hF⟩ := z_bne hF
  refine k_X6_beside (F := 4) (L := 97) (pc' := 65) hc3 hst zw_115 rfl rfl (by decide) (by decide) (by decide) dX6_settle_62 rfl ?_
  refine z_istore_n (pc' := 66) dX6_settle_65 rfl (by decide) rfl rfl ?_
  refine z_wk (ls' := [some (.ref 60), some (.int v1), none, some (.int r1), none]) (z_lec rfl (z_lec rfl (z_len1 (z_lec rfl (z_len1 z_le0))))) ?_
  exact (ok_X6_settle_66 hst z_n) _ _ _ hF
def F_X6_settle_7 (B : Nat)  : Nat → Int32 → Int32 → z_S → Option (z_O × z_S)
  | 0, _, _, _ => none
  | n + 1, v1, v2, S => z_bn (F_X6_used B v1 S) fun r1 S2 =>
  (if r1 ≤ 120 then
    F_X6_settle_59 B v1 S2
  else
    if v2 = (-1) then
      F_X6_settle_59 B v1 S2
    else
      z_bn (F_X6_used B v2 S2) fun r4 S5 =>
      (z_bn (F_X6_cost B v1 0 S5) fun r7 S8 =>
      (if 120 < (r4 + r7) then
        F_X6_settle_59 B v1 S8
      else
        z_gd (z_inb (3852 + v2) 25366) (
        z_lt (S8.1 61 (z_ix (3852 + v2))) fun x11 =>
        (z_bo (F_X6_carry B v1 0 v2 x11 S8) fun S13 =>
        (F_X6_settle_7 B n v1 v2 S13))))))
set_option maxRecDepth 20000 in
set_option maxHeartbeats 16000000 in
theorem ok_X6_settle_7 {l : Launch} {B : Nat} {q : z_O × z_S} (hst : l.stackTraces = false) : ∀ (n : Nat) (v1 : Int32) (v2 : Int32) (S : z_S), F_X6_settle_7 B n v1 v2 S = some q → z_W l I_X6_settle (R_X6_settle q) B q 7 [some (.ref 60), some (.int v1), some (.int v2), none, none] [] S := by
  intro n
  induction n with
  | zero => intro v1 v2 S hF; cases hF
  | succ n ih =>
    intro v1 v2 S hF
    rw [F_X6_settle_7] at hF
    refine z_aload_n (pc' := 8) dX6_settle_7 rfl rfl rfl ?_
    refine z_iload_n (pc' := 9) dX6_settle_8 rfl rfl rfl ?_
    obtain ⟨r1, S2, hc3, hF⟩ := z_bne hF
    refine k_X6_used (F := 4) (L := 97) (pc' := 12) hc3 hst zw_118 rfl rfl (by decide) (by decide) (by decide) dX6_settle_9 rfl ?_
    refine z_bipush (v := 120) (pc' := 14) dX6_settle_12 (by decide) rfl ?_
    refine z_icmp_le (tgt := 59) (pc' := 17) dX6_settle_14 (by decide) rfl (fun c17 => ?_) (fun c17 => ?_)
    · rw [if_pos c17] at hF
      refine z_wk (ls' := [some (.ref 60), some (.int v1), none, none, none]) (z_lec rfl (z_lec rfl (z_len1 (z_len1 (z_len1 z_le0))))) ?_
      exact (ok_X6_settle_59 hst) _ _ hF
    · rw [if_neg c17] at hF
      refine z_iload_n (pc' := 18) dX6_settle_17 rfl rfl rfl ?_
      refine z_iconst (v := (-1)) (pc' := 19) dX6_settle_18 (by decide) rfl ?_
      refine z_icmp_eq (tgt := 59) (pc' := 22) dX6_settle_19 (by decide) rfl (fun c16 => ?_) (fun c16 => ?_)
      · rw [if_pos c16] at hF
        refine z_wk (ls' := [some (.ref 60), some (.int v1), none, none, none]) (z_lec rfl (z_lec rfl (z_len1 (z_len1 (z_len1 z_le0))))) ?_
        exact (ok_X6_settle_59 hst) _ _ hF
      · rw [if_neg c16] at hF
        refine z_aload_n (pc' := 23) dX6_settle_22 rfl rfl rfl ?_
        refine z_iload_n (pc' := 24) dX6_settle_23 rfl rfl rfl ?_
        obtain ⟨r4, S5, hc6, hF⟩ := z_bne hF
        refine k_X6_used (F := 4) (L := 97) (pc' := 27) hc6 hst zw_118 rfl rfl (by decide) (by decide) (by decide) dX6_settle_24 rfl ?_
        refine z_aload_n (pc' := 28) dX6_settle_27 rfl rfl rfl ?_
        refine z_iload_n (pc' := 29) dX6_settle_28 rfl rfl rfl ?_
        refine z_iconst (v := 0) (pc' := 30) dX6_settle_29 (by decide) rfl ?_
        obtain ⟨r7, S8, hc9, hF⟩ := z_bne hF
        refine k_X6_cost (F := 4) (L := 97) (pc' := 33) hc9 hst zw_119 rfl rfl (by decide) (by decide) (Nat.le_of_ble_eq_true rfl) dX6_settle_30 rfl ?_
        refine z_iadd (pc' := 34) dX6_settle_33 rfl ?_
        refine z_bipush (v := 120) (pc' := 36) dX6_settle_34 (by decide) rfl ?_
        refine z_icmp_gt (tgt := 59) (pc' := 39) dX6_settle_36 (by decide) rfl (fun c15 => ?_) (fun c15 => ?_)
        · rw [if_pos c15] at hF
          refine z_wk (ls' := [some (.ref 60), some (.int v1), none, none, none]) (z_lec rfl (z_lec rfl (z_len1 (z_len1 (z_len1 z_le0))))) ?_
          exact (ok_X6_settle_59 hst) _ _ hF
        · rw [if_neg c15] at hF
          refine z_aload_n (pc' := 40) dX6_settle_39 rfl rfl rfl ?_
          refine z_iload_n (pc' := 41) dX6_settle_40 rfl rfl rfl ?_
          refine z_iconst (v := 0) (pc' := 42) dX6_settle_41 (by decide) rfl ?_
          refine z_iload_n (pc' := 43) dX6_settle_42 rfl rfl rfl ?_
          refine z_aload_n (pc' := 44) dX6_settle_43 rfl rfl rfl ?_
          refine gf_X6_7 (b := 61) (pc' := 47) rfl is_6_60 rfl dX6_settle_44 rfl ?_
          refine z_sipush (v := 3852) (pc' := 50) dX6_settle_47 (by decide) rfl ?_
          refine z_iload_n (pc' := 51) dX6_settle_50 rfl rfl rfl ?_
          refine z_iadd (pc' := 52) dX6_settle_51 rfl ?_
          obtain ⟨g10, hF⟩ := z_gde hF
          refine z_iaload (pc' := 53) (ar_6_f3 is_6_60) (z_inbe g10) dX6_settle_52 rfl ?_
          refine z_topi (fun x11 ex11 => ?_)
          replace hF := z_lte hF x11 ex11
          obtain ⟨S13, hc14, hF⟩ := z_boe hF
          refine k_X6_carry (F := 4) (L := 97) (pc' := 56) hc14 hst zw_120 rfl rfl (by decide) (by decide) (by decide) dX6_settle_53 rfl ?_
          refine z_goto (pc' := 7) dX6_settle_56 (by decide) ?_
          refine z_wk (ls' := [some (.ref 60), some (.int v1), some (.int v2), none, none]) (z_lec rfl (z_lec rfl (z_lec rfl (z_len1 (z_len1 z_le0))))) ?_
          exact ih _ _ _ hF
def F_X6_settle (B : Nat) (p1 : Int32) (S : z_S) : Option (z_O × z_S) :=
  z_bn (F_X6_beside B p1 (-1) S) fun r1 S2 =>
  (F_X6_settle_7 B z_n p1 r1 S2)
set_option maxRecDepth 20000 in
set_option maxHeartbeats 16000000 in
theorem c_X6_settle {l : Launch} {B : Nat} {p1 : Int32} {S : z_S} {q : z_O × z_S} (hst : l.stackTraces = false) (hF : F_X6_settle B p1 S = some q) : z_Met l I_X6_settle 4 97 B [.ref 60, .int p1] S q.1 q.2 := by
  refine z_enter (ls := [some (.ref 60), some (.int p1), none, none, none]) (n := 3) (by decide) rfl (Nat.le_of_ble_eq_true rfl) hst ?_
  unfold F_X6_settle at hF
  refine z_aload_n (pc' := 1) dX6_settle_0 rfl rfl rfl ?_
  refine z_iload_n (pc' := 2) dX6_settle_1 rfl rfl rfl ?_
  refine z_iconst (v := (-1)) (pc' := 3) dX6_settle_2 (by decide) rfl ?_
  obtain ⟨r1, S2, hc3, hF⟩ := z_bne hF
  refine k_X6_beside (F := 4) (L := 97) (pc' := 6) hc3 hst zw_115 rfl rfl (by decide) (by decide) (by decide) dX6_settle_3 rfl ?_
  refine z_istore_n (pc' := 7) dX6_settle_6 rfl (by decide) rfl rfl ?_
  refine z_wk (ls' := [some (.ref 60), some (.int p1), some (.int r1), none, none]) (z_lec rfl (z_lec rfl (z_lec rfl (z_len1 (z_len1 z_le0))))) ?_
  exact (ok_X6_settle_7 hst z_n) _ _ _ hF
theorem ok_X6_settle : z_okV I_X6_settle 1 := ⟨⟨z_Gin (List.mem_of_getElem? (i := 1023) (by decide +kernel)) rfl, z_Gin (List.mem_of_getElem? (i := 48) (by decide +kernel)) rfl, z_Gin (List.mem_of_getElem? (i := 98) (by decide +kernel)) rfl, z_Gin (List.mem_of_getElem? (i := 1024) (by decide +kernel)) rfl⟩, by decide, by decide, by decide +kernel⟩
theorem k_X6_settle {l : Launch} {I : z_I} {R : Room} {B : Nat} {p1 : Int32} {q : z_O × z_S} {pc pc' : Nat} {ls : List (Option Value)} {st : List Value} {S S1 : z_S} {idx F L : Nat}  (hF : F_X6_settle B p1 S = some (.inl none, S1)) (hst : l.stackTraces = false) (w : Cond.methodLink I.1.cls idx yX6_settle ∈ z_G) (hRF : R.frames = F) (hRL : R.locals = L) (h1 : 5 ≤ F) (h2 : 121 ≤ L) (hs : (st.map fun v => v.category).sum ≤ 8) (d : decode I.2.1 pc = .ok (.invokevirtual idx, 3)) (hp : pc + 3 = pc') (k : z_W l I R B q pc' ls st S1) : z_W l I R B q pc ls (.int p1 :: .ref 60 :: st) S := z_callV (Y := I_X6_settle) (As := [.int p1]) (st := st) (r := none) (S1 := S1) (c_X6_settle (q := (.inl none, S1)) hst hF) ok_X6_settle w (ci := 6) rfl is_6_60.1 is_6_60.2 rfl ⟨by rw [hRF]; exact h1, by rw [hRL]; exact h2⟩ hs d hp rfl k

abbrev I_X6_lookAt : z_I := (yX6_lookAt, cX6_lookAt, 6, none)
abbrev R_X6_lookAt (q : z_O × z_S) : Room := { frames := 4, locals := 95, cells := z_mc q.1, slots := 6 * z_mc q.1 }
def F_X6_lookAt_194 (B : Nat)   (S : z_S) : Option (z_O × z_S) :=
  some (.inl none, S)
set_option maxRecDepth 20000 in
set_option maxHeartbeats 16000000 in
theorem ok_X6_lookAt_194 {l : Launch} {B : Nat} {q : z_O × z_S} (hst : l.stackTraces = false) : ∀ (S : z_S), F_X6_lookAt_194 B S = some q → z_W l I_X6_lookAt (R_X6_lookAt q) B q 194 [none, none, none, none, none, none] [] S := by
  intro S hF
  unfold F_X6_lookAt_194 at hF
  exact z_return rfl dX6_lookAt_194 (Option.some.inj hF).symm
def F_X6_lookAt_150 (B : Nat) (k195 : Int32 → z_S → Option (z_O × z_S)) : Nat → Int32 → Int32 → z_S → Option (z_O × z_S)
  | 0, _, _, _ => none
  | n + 1, v2, v4, S => z_gd (z_inb (3852 + v4) 25366) (
  z_lt (S.1 61 (z_ix (3852 + v4))) fun x2 =>
  (if x2 ≤ 0 then
    z_bo (F_X6_gone B v4 S) fun S4 =>
    (k195 v2 S4)
  else
    z_gd (z_inb (3852 + v2) 25366) (
    z_lt (S.1 61 (z_ix (3852 + v2))) fun x7 =>
    (z_bo (F_X6_carry B v4 0 v2 x7 S) fun S9 =>
    (F_X6_lookAt_150 B k195 n v2 v4 S9)))))
set_option maxRecDepth 20000 in
set_option maxHeartbeats 16000000 in
theorem ok_X6_lookAt_150 {l : Launch} {B : Nat} {q : z_O × z_S} (hst : l.stackTraces = false) {k195 : Int32 → z_S → Option (z_O × z_S)} (hk195 : ∀ (v2 : Int32) (S : z_S), k195 v2 S = some q → z_W l I_X6_lookAt (R_X6_lookAt q) B q 195 [some (.ref 60), none, some (.int v2), none, none, none] [] S) : ∀ (n : Nat) (v2 : Int32) (v4 : Int32) (S : z_S), F_X6_lookAt_150 B k195 n v2 v4 S = some q → z_W l I_X6_lookAt (R_X6_lookAt q) B q 150 [some (.ref 60), none, some (.int v2), none, some (.int v4), none] [] S := by
  intro n
  induction n with
  | zero => intro v2 v4 S hF; cases hF
  | succ n ih =>
    intro v2 v4 S hF
    rw [F_X6_lookAt_150] at hF
    refine z_aload_n (pc' := 151) dX6_lookAt_150 rfl rfl rfl ?_
    refine gf_X6_7 (b := 61) (pc' := 154) rfl is_6_60 rfl dX6_lookAt_151 rfl ?_
    refine z_sipush (v := 3852) (pc' := 157) dX6_lookAt_154 (by decide) rfl ?_
    refine z_iload (pc' := 159) dX6_lookAt_157 rfl rfl ?_
    refine z_iadd (pc' := 160) dX6_lookAt_159 rfl ?_
    obtain ⟨g1, hF⟩ := z_gde hF
    refine z_iaload (pc' := 161) (ar_6_f3 is_6_60) (z_inbe g1) dX6_lookAt_160 rfl ?_
    refine z_topi (fun x2 ex2 => ?_)
    replace hF := z_lte hF x2 ex2
    refine z_if_le (tgt := 185) (pc' := 164) dX6_lookAt_161 (by decide) rfl (fun c11 => ?_) (fun c11 => ?_)
    · rw [if_pos c11] at hF
      refine z_aload_n (pc' := 186) dX6_lookAt_185 rfl rfl rfl ?_
      refine z_iload (pc' := 188) dX6_lookAt_186 rfl rfl ?_
      obtain ⟨S4, hc5, hF⟩ := z_boe hF
      refine k_X6_gone (F := 4) (L := 95) (pc' := 191) hc5 hst zw_122 rfl rfl (by decide) (by decide) (by decide) dX6_lookAt_188 rfl ?_
      refine z_goto (pc' := 195) dX6_lookAt_191 (by decide) ?_
      refine z_wk (ls' := [some (.ref 60), none, some (.int v2), none, none, none]) (z_lec rfl (z_len1 (z_lec rfl (z_len1 (z_len1 (z_len1 z_le0)))))) ?_
      exact hk195 _ _ hF
    · rw [if_neg c11] at hF
      refine z_aload_n (pc' := 165) dX6_lookAt_164 rfl rfl rfl ?_
      refine z_iload (pc' := 167) dX6_lookAt_165 rfl rfl ?_
      refine z_iconst (v := 0) (pc' := 168) dX6_lookAt_167 (by decide) rfl ?_
      refine z_iload_n (pc' := 169) dX6_lookAt_168 rfl rfl rfl ?_
      refine z_aload_n (pc' := 170) dX6_lookAt_169 rfl rfl rfl ?_
      refine gf_X6_7 (b := 61) (pc' := 173) rfl is_6_60 rfl dX6_lookAt_170 rfl ?_
      refine z_sipush (v := 3852) (pc' := 176) dX6_lookAt_173 (by decide) rfl ?_
      refine z_iload_n (pc' := 177) dX6_lookAt_176 rfl rfl rfl ?_
      refine z_iadd (pc' := 178) dX6_lookAt_177 rfl ?_
      obtain ⟨g6, hF⟩ := z_gde hF
      refine z_iaload (pc' := 179) (ar_6_f3 is_6_60) (z_inbe g6) dX6_lookAt_178 rfl ?_
      refine z_topi (fun x7 ex7 => ?_)
      replace hF := z_lte hF x7 ex7
      obtain ⟨S9, hc10, hF⟩ := z_boe hF
      refine k_X6_carry (F := 4) (L := 95) (pc' := 182) hc10 hst zw_120 rfl rfl (by decide) (by decide) (by decide) dX6_lookAt_179 rfl ?_
      refine z_goto (pc' := 150) dX6_lookAt_182 (by decide) ?_
      refine z_wk (ls' := [some (.ref 60), none, some (.int v2), none, some (.int v4), none]) (z_lec rfl (z_len1 (z_lec rfl (z_len1 (z_lec rfl (z_len1 z_le0)))))) ?_
      exact ih _ _ _ hF
def F_X6_lookAt_130 (B : Nat) (k195 : Int32 → z_S → Option (z_O × z_S)) (v2 : Int32) (v4 : Int32) (v5 : Int32) (S : z_S) : Option (z_O × z_S) :=
  if v4 = (-1) then
    F_X6_lookAt_194 B S
  else
    z_bn (F_X6_used B v4 S) fun r1 S2 =>
    (if 72 < (v5 + r1) then
      F_X6_lookAt_194 B S2
    else
      F_X6_lookAt_150 B k195 z_n v2 v4 S2)
set_option maxRecDepth 20000 in
set_option maxHeartbeats 16000000 in
theorem ok_X6_lookAt_130 {l : Launch} {B : Nat} {q : z_O × z_S} (hst : l.stackTraces = false) {k195 : Int32 → z_S → Option (z_O × z_S)} (hk195 : ∀ (v2 : Int32) (S : z_S), k195 v2 S = some q → z_W l I_X6_lookAt (R_X6_lookAt q) B q 195 [some (.ref 60), none, some (.int v2), none, none, none] [] S) : ∀ (v2 : Int32) (v4 : Int32) (v5 : Int32) (S : z_S), F_X6_lookAt_130 B k195 v2 v4 v5 S = some q → z_W l I_X6_lookAt (R_X6_lookAt q) B q 130 [some (.ref 60), none, some (.int v2), none, some (.int v4), some (.int v5)] [] S := by
  intro v2 v4 v5 S hF
  unfold F_X6_lookAt_130 at hF
  refine z_iload (pc' := 132) dX6_lookAt_130 rfl rfl ?_
  refine z_iconst (v := (-1)) (pc' := 133) dX6_lookAt_132 (by decide) rfl ?_
  refine z_icmp_eq (tgt := 194) (pc' := 136) dX6_lookAt_133 (by decide) rfl (fun c5 => ?_) (fun c5 => ?_)
  · rw [if_pos c5] at hF
    refine z_wk (ls' := [none, none, none, none, none, none]) (z_len1 (z_len1 (z_len1 (z_len1 (z_len1 (z_len1 z_le0)))))) ?_
    exact (ok_X6_lookAt_194 hst) _ hF
  · rw [if_neg c5] at hF
    refine z_iload (pc' := 138) dX6_lookAt_136 rfl rfl ?_
    refine z_aload_n (pc' := 139) dX6_lookAt_138 rfl rfl rfl ?_
    refine z_iload (pc' := 141) dX6_lookAt_139 rfl rfl ?_
    obtain ⟨r1, S2, hc3, hF⟩ := z_bne hF
    refine k_X6_used (F := 4) (L := 95) (pc' := 144) hc3 hst zw_118 rfl rfl (by decide) (by decide) (Nat.le_of_ble_eq_true rfl) dX6_lookAt_141 rfl ?_
    refine z_iadd (pc' := 145) dX6_lookAt_144 rfl ?_
    refine z_bipush (v := 72) (pc' := 147) dX6_lookAt_145 (by decide) rfl ?_
    refine z_icmp_gt (tgt := 194) (pc' := 150) dX6_lookAt_147 (by decide) rfl (fun c4 => ?_) (fun c4 => ?_)
    · rw [if_pos c4] at hF
      refine z_wk (ls' := [none, none, none, none, none, none]) (z_len1 (z_len1 (z_len1 (z_len1 (z_len1 (z_len1 z_le0)))))) ?_
      exact (ok_X6_lookAt_194 hst) _ hF
    · rw [if_neg c4] at hF
      refine z_wk (ls' := [some (.ref 60), none, some (.int v2), none, some (.int v4), none]) (z_lec rfl (z_len1 (z_lec rfl (z_len1 (z_lec rfl (z_len1 z_le0)))))) ?_
      exact (ok_X6_lookAt_150 hst hk195 z_n) _ _ _ hF
def F_X6_lookAt_87 (B : Nat) (k195 : Int32 → z_S → Option (z_O × z_S)) : Nat → Int32 → Int32 → z_S → Option (z_O × z_S)
  | 0, _, _, _ => none
  | n + 1, v2, v3, S => z_gd (z_inb (3852 + v2) 25366) (
  z_lt (S.1 61 (z_ix (3852 + v2))) fun x2 =>
  (if x2 ≤ 0 then
    z_bo (F_X6_gone B v2 S) fun S4 =>
    (k195 v3 S4)
  else
    z_gd (z_inb (3852 + v3) 25366) (
    z_lt (S.1 61 (z_ix (3852 + v3))) fun x7 =>
    (z_bo (F_X6_carry B v2 0 v3 x7 S) fun S9 =>
    (F_X6_lookAt_87 B k195 n v2 v3 S9)))))
set_option maxRecDepth 20000 in
set_option maxHeartbeats 16000000 in
theorem ok_X6_lookAt_87 {l : Launch} {B : Nat} {q : z_O × z_S} (hst : l.stackTraces = false) {k195 : Int32 → z_S → Option (z_O × z_S)} (hk195 : ∀ (v2 : Int32) (S : z_S), k195 v2 S = some q → z_W l I_X6_lookAt (R_X6_lookAt q) B q 195 [some (.ref 60), none, some (.int v2), none, none, none] [] S) : ∀ (n : Nat) (v2 : Int32) (v3 : Int32) (S : z_S), F_X6_lookAt_87 B k195 n v2 v3 S = some q → z_W l I_X6_lookAt (R_X6_lookAt q) B q 87 [some (.ref 60), none, some (.int v2), some (.int v3), none, none] [] S := by
  intro n
  induction n with
  | zero => intro v2 v3 S hF; cases hF
  | succ n ih =>
    intro v2 v3 S hF
    rw [F_X6_lookAt_87] at hF
    refine z_aload_n (pc' := 88) dX6_lookAt_87 rfl rfl rfl ?_
    refine gf_X6_7 (b := 61) (pc' := 91) rfl is_6_60 rfl dX6_lookAt_88 rfl ?_
    refine z_sipush (v := 3852) (pc' := 94) dX6_lookAt_91 (by decide) rfl ?_
    refine z_iload_n (pc' := 95) dX6_lookAt_94 rfl rfl rfl ?_
    refine z_iadd (pc' := 96) dX6_lookAt_95 rfl ?_
    obtain ⟨g1, hF⟩ := z_gde hF
    refine z_iaload (pc' := 97) (ar_6_f3 is_6_60) (z_inbe g1) dX6_lookAt_96 rfl ?_
    refine z_topi (fun x2 ex2 => ?_)
    replace hF := z_lte hF x2 ex2
    refine z_if_le (tgt := 120) (pc' := 100) dX6_lookAt_97 (by decide) rfl (fun c11 => ?_) (fun c11 => ?_)
    · rw [if_pos c11] at hF
      refine z_aload_n (pc' := 121) dX6_lookAt_120 rfl rfl rfl ?_
      refine z_iload_n (pc' := 122) dX6_lookAt_121 rfl rfl rfl ?_
      obtain ⟨S4, hc5, hF⟩ := z_boe hF
      refine k_X6_gone (F := 4) (L := 95) (pc' := 125) hc5 hst zw_122 rfl rfl (by decide) (by decide) (by decide) dX6_lookAt_122 rfl ?_
      refine z_iload_n (pc' := 126) dX6_lookAt_125 rfl rfl rfl ?_
      refine z_istore_n (pc' := 127) dX6_lookAt_126 rfl (by decide) rfl rfl ?_
      refine z_goto (pc' := 195) dX6_lookAt_127 (by decide) ?_
      refine z_wk (ls' := [some (.ref 60), none, some (.int v3), none, none, none]) (z_lec rfl (z_len1 (z_lec rfl (z_len1 (z_len1 (z_len1 z_le0)))))) ?_
      exact hk195 _ _ hF
    · rw [if_neg c11] at hF
      refine z_aload_n (pc' := 101) dX6_lookAt_100 rfl rfl rfl ?_
      refine z_iload_n (pc' := 102) dX6_lookAt_101 rfl rfl rfl ?_
      refine z_iconst (v := 0) (pc' := 103) dX6_lookAt_102 (by decide) rfl ?_
      refine z_iload_n (pc' := 104) dX6_lookAt_103 rfl rfl rfl ?_
      refine z_aload_n (pc' := 105) dX6_lookAt_104 rfl rfl rfl ?_
      refine gf_X6_7 (b := 61) (pc' := 108) rfl is_6_60 rfl dX6_lookAt_105 rfl ?_
      refine z_sipush (v := 3852) (pc' := 111) dX6_lookAt_108 (by decide) rfl ?_
      refine z_iload_n (pc' := 112) dX6_lookAt_111 rfl rfl rfl ?_
      refine z_iadd (pc' := 113) dX6_lookAt_112 rfl ?_
      obtain ⟨g6, hF⟩ := z_gde hF
      refine z_iaload (pc' := 114) (ar_6_f3 is_6_60) (z_inbe g6) dX6_lookAt_113 rfl ?_
      refine z_topi (fun x7 ex7 => ?_)
      replace hF := z_lte hF x7 ex7
      obtain ⟨S9, hc10, hF⟩ := z_boe hF
      refine k_X6_carry (F := 4) (L := 95) (pc' := 117) hc10 hst zw_120 rfl rfl (by decide) (by decide) (by decide) dX6_lookAt_114 rfl ?_
      refine z_goto (pc' := 87) dX6_lookAt_117 (by decide) ?_
      refine z_wk (ls' := [some (.ref 60), none, some (.int v2), some (.int v3), none, none]) (z_lec rfl (z_len1 (z_lec rfl (z_lec rfl (z_len1 (z_len1 z_le0)))))) ?_
      exact ih _ _ _ hF
def F_X6_lookAt_195 (B : Nat) (k2 : Int32 → z_S → Option (z_O × z_S)) (v2 : Int32) (S : z_S) : Option (z_O × z_S) :=
  k2 v2 S
set_option maxRecDepth 20000 in
set_option maxHeartbeats 16000000 in
theorem ok_X6_lookAt_195 {l : Launch} {B : Nat} {q : z_O × z_S} (hst : l.stackTraces = false) {k2 : Int32 → z_S → Option (z_O × z_S)} (hk2 : ∀ (v2 : Int32) (S : z_S), k2 v2 S = some q → z_W l I_X6_lookAt (R_X6_lookAt q) B q 2 [some (.ref 60), none, some (.int v2), none, none, none] [] S) : ∀ (v2 : Int32) (S : z_S), F_X6_lookAt_195 B k2 v2 S = some q → z_W l I_X6_lookAt (R_X6_lookAt q) B q 195 [some (.ref 60), none, some (.int v2), none, none, none] [] S := by
  intro v2 S hF
  unfold F_X6_lookAt_195 at hF
  refine z_goto (pc' := 2) dX6_lookAt_195 (by decide) ?_
  refine z_wk (ls' := [some (.ref 60), none, some (.int v2), none, none, none]) (z_lec rfl (z_len1 (z_lec rfl (z_len1 (z_len1 (z_len1 z_le0)))))) ?_
  exact hk2 _ _ hF
def F_X6_lookAt_69 (B : Nat) (k195 : Int32 → z_S → Option (z_O × z_S)) (v2 : Int32) (v3 : Int32) (v4 : Int32) (v5 : Int32) (S : z_S) : Option (z_O × z_S) :=
  if v3 = (-1) then
    F_X6_lookAt_130 B k195 v2 v4 v5 S
  else
    z_bn (F_X6_used B v3 S) fun r1 S2 =>
    (if 72 < (v5 + r1) then
      F_X6_lookAt_130 B k195 v2 v4 v5 S2
    else
      F_X6_lookAt_87 B k195 z_n v2 v3 S2)
set_option maxRecDepth 20000 in
set_option maxHeartbeats 16000000 in
theorem ok_X6_lookAt_69 {l : Launch} {B : Nat} {q : z_O × z_S} (hst : l.stackTraces = false) {k195 : Int32 → z_S → Option (z_O × z_S)} (hk195 : ∀ (v2 : Int32) (S : z_S), k195 v2 S = some q → z_W l I_X6_lookAt (R_X6_lookAt q) B q 195 [some (.ref 60), none, some (.int v2), none, none, none] [] S) : ∀ (v2 : Int32) (v3 : Int32) (v4 : Int32) (v5 : Int32) (S : z_S), F_X6_lookAt_69 B k195 v2 v3 v4 v5 S = some q → z_W l I_X6_lookAt (R_X6_lookAt q) B q 69 [some (.ref 60), none, some (.int v2), some (.int v3), some (.int v4), some (.int v5)] [] S := by
  intro v2 v3 v4 v5 S hF
  unfold F_X6_lookAt_69 at hF
  refine z_iload_n (pc' := 70) dX6_lookAt_69 rfl rfl rfl ?_
  refine z_iconst (v := (-1)) (pc' := 71) dX6_lookAt_70 (by decide) rfl ?_
  refine z_icmp_eq (tgt := 130) (pc' := 74) dX6_lookAt_71 (by decide) rfl (fun c5 => ?_) (fun c5 => ?_)
  · rw [if_pos c5] at hF
    refine z_wk (ls' := [some (.ref 60), none, some (.int v2), none, some (.int v4), some (.int v5)]) (z_lec rfl (z_len1 (z_lec rfl (z_len1 (z_lec rfl (z_lec rfl z_le0)))))) ?_
    exact (ok_X6_lookAt_130 hst hk195) _ _ _ _ hF
  · rw [if_neg c5] at hF
    refine z_iload (pc' := 76) dX6_lookAt_74 rfl rfl ?_
    refine z_aload_n (pc' := 77) dX6_lookAt_76 rfl rfl rfl ?_
    refine z_iload_n (pc' := 78) dX6_lookAt_77 rfl rfl rfl ?_
    obtain ⟨r1, S2, hc3, hF⟩ := z_bne hF
    refine k_X6_used (F := 4) (L := 95) (pc' := 81) hc3 hst zw_118 rfl rfl (by decide) (by decide) (Nat.le_of_ble_eq_true rfl) dX6_lookAt_78 rfl ?_
    refine z_iadd (pc' := 82) dX6_lookAt_81 rfl ?_
    refine z_bipush (v := 72) (pc' := 84) dX6_lookAt_82 (by decide) rfl ?_
    refine z_icmp_gt (tgt := 130) (pc' := 87) dX6_lookAt_84 (by decide) rfl (fun c4 => ?_) (fun c4 => ?_)
    · rw [if_pos c4] at hF
      refine z_wk (ls' := [some (.ref 60), none, some (.int v2), none, some (.int v4), some (.int v5)]) (z_lec rfl (z_len1 (z_lec rfl (z_len1 (z_lec rfl (z_lec rfl z_le0)))))) ?_
      exact (ok_X6_lookAt_130 hst hk195) _ _ _ _ hF
    · rw [if_neg c4] at hF
      refine z_wk (ls' := [some (.ref 60), none, some (.int v2), some (.int v3), none, none]) (z_lec rfl (z_len1 (z_lec rfl (z_lec rfl (z_len1 (z_len1 z_le0)))))) ?_
      exact (ok_X6_lookAt_87 hst hk195 z_n) _ _ _ hF
def F_X6_lookAt_65 (B : Nat) (k195 : Int32 → z_S → Option (z_O × z_S)) (s0 : Int32) (S : z_S) : Option (z_O × z_S) :=
  k195 s0 S
set_option maxRecDepth 20000 in
set_option maxHeartbeats 16000000 in
theorem ok_X6_lookAt_65 {l : Launch} {B : Nat} {q : z_O × z_S} (hst : l.stackTraces = false) {k195 : Int32 → z_S → Option (z_O × z_S)} (hk195 : ∀ (v2 : Int32) (S : z_S), k195 v2 S = some q → z_W l I_X6_lookAt (R_X6_lookAt q) B q 195 [some (.ref 60), none, some (.int v2), none, none, none] [] S) : ∀ (s0 : Int32) (S : z_S), F_X6_lookAt_65 B k195 s0 S = some q → z_W l I_X6_lookAt (R_X6_lookAt q) B q 65 [some (.ref 60), none, none, none, none, none] [.int s0] S := by
  intro s0 S hF
  unfold F_X6_lookAt_65 at hF
  refine z_istore_n (pc' := 66) dX6_lookAt_65 rfl (by decide) rfl rfl ?_
  refine z_goto (pc' := 195) dX6_lookAt_66 (by decide) ?_
  refine z_wk (ls' := [some (.ref 60), none, some (.int s0), none, none, none]) (z_lec rfl (z_len1 (z_lec rfl (z_len1 (z_len1 (z_len1 z_le0)))))) ?_
  exact hk195 _ _ hF
def F_X6_lookAt_2 (B : Nat)  : Nat → Int32 → z_S → Option (z_O × z_S)
  | 0, _, _ => none
  | n + 1, v2, S => z_bn (F_X6_beside B v2 (-1) S) fun r1 S2 =>
  (z_bn (F_X6_beside B v2 1 S2) fun r4 S5 =>
  (z_bn (F_X6_used B v2 S5) fun r7 S8 =>
  (z_gd (z_inb (3852 + v2) 25366) (
  z_lt (S8.1 61 (z_ix (3852 + v2))) fun x11 =>
  (if x11 = 0 then
    z_gd (z_inb 13068 25366) (
    z_lt (S8.1 61 (z_ix (13068))) fun x13 =>
    (if x13 ≤ 1 then
      F_X6_lookAt_69 B (F_X6_lookAt_195 B (F_X6_lookAt_2 B n) ) v2 r1 r4 r7 S8
    else
      z_bo (F_X6_gone B v2 S8) fun S15 =>
      (if r1 = (-1) then
        F_X6_lookAt_65 B (F_X6_lookAt_195 B (F_X6_lookAt_2 B n) ) r4 S15
      else
        F_X6_lookAt_65 B (F_X6_lookAt_195 B (F_X6_lookAt_2 B n) ) r1 S15)))
  else
    F_X6_lookAt_69 B (F_X6_lookAt_195 B (F_X6_lookAt_2 B n) ) v2 r1 r4 r7 S8)))))
set_option maxRecDepth 20000 in
set_option maxHeartbeats 16000000 in
theorem ok_X6_lookAt_2 {l : Launch} {B : Nat} {q : z_O × z_S} (hst : l.stackTraces = false) : ∀ (n : Nat) (v2 : Int32) (S : z_S), F_X6_lookAt_2 B n v2 S = some q → z_W l I_X6_lookAt (R_X6_lookAt q) B q 2 [some (.ref 60), none, some (.int v2), none, none, none] [] S := by
  intro n
  induction n with
  | zero => intro v2 S hF; cases hF
  | succ n ih =>
    intro v2 S hF
    rw [F_X6_lookAt_2] at hF
    refine z_aload_n (pc' := 3) dX6_lookAt_2 rfl rfl rfl ?_
    refine z_iload_n (pc' := 4) dX6_lookAt_3 rfl rfl rfl ?_
    refine z_iconst (v := (-1)) (pc' := 5) dX6_lookAt_4 (by decide) rfl ?_
    obtain ⟨r1, S2, hc3, hF⟩ := z_bne hF
    refine k_X6_beside (F := 4) (L := 95) (pc' := 8) hc3 hst zw_115 rfl rfl (by decide) (by decide) (by decide) dX6_lookAt_5 rfl ?_
    refine z_istore_n (pc' := 9) dX6_lookAt_8 rfl (by decide) rfl rfl ?_
    refine z_aload_n (pc' := 10) dX6_lookAt_9 rfl rfl rfl ?_
    refine z_iload_n (pc' := 11) dX6_lookAt_10 rfl rfl rfl ?_
    refine z_iconst (v := 1) (pc' := 12) dX6_lookAt_11 (by decide) rfl ?_
    obtain ⟨r4, S5, hc6, hF⟩ := z_bne hF
    refine k_X6_beside (F := 4) (L := 95) (pc' := 15) hc6 hst zw_115 rfl rfl (by decide) (by decide) (by decide) dX6_lookAt_12 rfl ?_
    refine z_istore (pc' := 17) dX6_lookAt_15 (by decide) rfl rfl ?_
    refine z_aload_n (pc' := 18) dX6_lookAt_17 rfl rfl rfl ?_
    refine z_iload_n (pc' := 19) dX6_lookAt_18 rfl rfl rfl ?_
    obtain ⟨r7, S8, hc9, hF⟩ := z_bne hF
    refine k_X6_used (F := 4) (L := 95) (pc' := 22) hc9 hst zw_118 rfl rfl (by decide) (by decide) (by decide) dX6_lookAt_19 rfl ?_
    refine z_istore (pc' := 24) dX6_lookAt_22 (by decide) rfl rfl ?_
    refine z_aload_n (pc' := 25) dX6_lookAt_24 rfl rfl rfl ?_
    refine gf_X6_7 (b := 61) (pc' := 28) rfl is_6_60 rfl dX6_lookAt_25 rfl ?_
    refine z_sipush (v := 3852) (pc' := 31) dX6_lookAt_28 (by decide) rfl ?_
    refine z_iload_n (pc' := 32) dX6_lookAt_31 rfl rfl rfl ?_
    refine z_iadd (pc' := 33) dX6_lookAt_32 rfl ?_
    obtain ⟨g10, hF⟩ := z_gde hF
    refine z_iaload (pc' := 34) (ar_6_f3 is_6_60) (z_inbe g10) dX6_lookAt_33 rfl ?_
    refine z_topi (fun x11 ex11 => ?_)
    replace hF := z_lte hF x11 ex11
    refine z_if_ne (tgt := 69) (pc' := 37) dX6_lookAt_34 (by decide) rfl (fun c19 => ?_) (fun c19 => ?_)
    · rw [if_neg c19] at hF
      refine z_wk (ls' := [some (.ref 60), none, some (.int v2), some (.int r1), some (.int r4), some (.int r7)]) (z_lec rfl (z_len1 (z_lec rfl (z_lec rfl (z_lec rfl (z_lec rfl z_le0)))))) ?_
      exact (ok_X6_lookAt_69 hst (ok_X6_lookAt_195 hst ih)) _ _ _ _ _ hF
    · rw [if_pos c19] at hF
      refine z_aload_n (pc' := 38) dX6_lookAt_37 rfl rfl rfl ?_
      refine gf_X6_7 (b := 61) (pc' := 41) rfl is_6_60 rfl dX6_lookAt_38 rfl ?_
      refine z_sipush (v := 13068) (pc' := 44) dX6_lookAt_41 (by decide) rfl ?_
      obtain ⟨g12, hF⟩ := z_gde hF
      refine z_iaload (pc' := 45) (ar_6_f3 is_6_60) (z_inbe g12) dX6_lookAt_44 rfl ?_
      refine z_topi (fun x13 ex13 => ?_)
      replace hF := z_lte hF x13 ex13
      refine z_iconst (v := 1) (pc' := 46) dX6_lookAt_45 (by decide) rfl ?_
      refine z_icmp_le (tgt := 69) (pc' := 49) dX6_lookAt_46 (by decide) rfl (fun c18 => ?_) (fun c18 => ?_)
      · rw [if_pos c18] at hF
        refine z_wk (ls' := [some (.ref 60), none, some (.int v2), some (.int r1), some (.int r4), some (.int r7)]) (z_lec rfl (z_len1 (z_lec rfl (z_lec rfl (z_lec rfl (z_lec rfl z_le0)))))) ?_
        exact (ok_X6_lookAt_69 hst (ok_X6_lookAt_195 hst ih)) _ _ _ _ _ hF
      · rw [if_neg c18] at hF
        refine z_aload_n (pc' := 50) dX6_lookAt_49 rfl rfl rfl ?_
        refine z_iload_n (pc' := 51) dX6_lookAt_50 rfl rfl rfl ?_
        obtain ⟨S15, hc16, hF⟩ := z_boe hF
        refine k_X6_gone (F := 4) (L := 95) (pc' := 54) hc16 hst zw_122 rfl rfl (by decide) (by decide) (by decide) dX6_lookAt_51 rfl ?_
        refine z_iload_n (pc' := 55) dX6_lookAt_54 rfl rfl rfl ?_
        refine z_iconst (v := (-1)) (pc' := 56) dX6_lookAt_55 (by decide) rfl ?_
        refine z_icmp_eq (tgt := 63) (pc' := 59) dX6_lookAt_56 (by decide) rfl (fun c17 => ?_) (fun c17 => ?_)
        · rw [if_pos c17] at hF
          refine z_iload (pc' := 65) dX6_lookAt_63 rfl rfl ?_
          refine z_wk (ls' := [some (.ref 60), none, none, none, none, none]) (z_lec rfl (z_len1 (z_len1 (z_len1 (z_len1 (z_len1 z_le0)))))) ?_
          exact (ok_X6_lookAt_65 hst (ok_X6_lookAt_195 hst ih)) _ _ hF
        · rw [if_neg c17] at hF
          refine z_iload_n (pc' := 60) dX6_lookAt_59 rfl rfl rfl ?_
          refine z_goto (pc' := 65) dX6_lookAt_60 (by decide) ?_
          refine z_wk (ls' := [some (.ref 60), none, none, none, none, none]) (z_lec rfl (z_len1 (z_len1 (z_len1 (z_len1 (z_len1 z_le0)))))) ?_
          exact (ok_X6_lookAt_65 hst (ok_X6_lookAt_195 hst ih)) _ _ hF
def F_X6_lookAt (B : Nat) (p1 : Int32) (S : z_S) : Option (z_O × z_S) :=
  F_X6_lookAt_2 B z_n p1 S
set_option maxRecDepth 20000 in
set_option maxHeartbeats 16000000 in
theorem c_X6_lookAt {l : Launch} {B : Nat} {p1 : Int32} {S : z_S} {q : z_O × z_S} (hst : l.stackTraces = false) (hF : F_X6_lookAt B p1 S = some q) : z_Met l I_X6_lookAt 4 95 B [.ref 60, .int p1] S q.1 q.2 := by
  refine z_enter (ls := [some (.ref 60), some (.int p1), none, none, none, none]) (n := 4) (by decide) rfl (Nat.le_of_ble_eq_true rfl) hst ?_
  unfold F_X6_lookAt at hF
  refine z_iload_n (pc' := 1) dX6_lookAt_0 rfl rfl rfl ?_
  refine z_istore_n (pc' := 2) dX6_lookAt_1 rfl (by decide) rfl rfl ?_
  refine z_wk (ls' := [some (.ref 60), none, some (.int p1), none, none, none]) (z_lec rfl (z_len1 (z_lec rfl (z_len1 (z_len1 (z_len1 z_le0)))))) ?_
  exact (ok_X6_lookAt_2 hst z_n) _ _ hF
theorem ok_X6_lookAt : z_okV I_X6_lookAt 1 := ⟨⟨z_Gin (List.mem_of_getElem? (i := 1099) (by decide +kernel)) rfl, z_Gin (List.mem_of_getElem? (i := 65) (by decide +kernel)) rfl, z_Gin (List.mem_of_getElem? (i := 98) (by decide +kernel)) rfl, z_Gin (List.mem_of_getElem? (i := 1100) (by decide +kernel)) rfl⟩, by decide, by decide, by decide +kernel⟩
theorem k_X6_lookAt {l : Launch} {I : z_I} {R : Room} {B : Nat} {p1 : Int32} {q : z_O × z_S} {pc pc' : Nat} {ls : List (Option Value)} {st : List Value} {S S1 : z_S} {idx F L : Nat}  (hF : F_X6_lookAt B p1 S = some (.inl none, S1)) (hst : l.stackTraces = false) (w : Cond.methodLink I.1.cls idx yX6_lookAt ∈ z_G) (hRF : R.frames = F) (hRL : R.locals = L) (h1 : 5 ≤ F) (h2 : 120 ≤ L) (hs : (st.map fun v => v.category).sum ≤ 8) (d : decode I.2.1 pc = .ok (.invokevirtual idx, 3)) (hp : pc + 3 = pc') (k : z_W l I R B q pc' ls st S1) : z_W l I R B q pc ls (.int p1 :: .ref 60 :: st) S := z_callV (Y := I_X6_lookAt) (As := [.int p1]) (st := st) (r := none) (S1 := S1) (c_X6_lookAt (q := (.inl none, S1)) hst hF) ok_X6_lookAt w (ci := 6) rfl is_6_60.1 is_6_60.2 rfl ⟨by rw [hRF]; exact h1, by rw [hRL]; exact h2⟩ hs d hp rfl k

abbrev I_X6_leafOf : z_I := (yX6_leafOf, cX6_leafOf, 7, some .int)
abbrev R_X6_leafOf (q : z_O × z_S) : Room := { frames := 1, locals := 26, cells := z_mc q.1, slots := 6 * z_mc q.1 }
def F_X6_leafOf_73 (B : Nat) (k13 : Int32 → Int32 → Int32 → Int32 → Int32 → z_S → Option (z_O × z_S)) (v1 : Int32) (v2 : Int32) (v3 : Int32) (v5 : Int32) (s0 : Int32) (S : z_S) : Option (z_O × z_S) :=
  k13 v1 v2 v3 s0 (v5 + 1) S
set_option maxRecDepth 20000 in
set_option maxHeartbeats 16000000 in
theorem ok_X6_leafOf_73 {l : Launch} {B : Nat} {q : z_O × z_S} (hst : l.stackTraces = false) {k13 : Int32 → Int32 → Int32 → Int32 → Int32 → z_S → Option (z_O × z_S)} (hk13 : ∀ (v1 : Int32) (v2 : Int32) (v3 : Int32) (v4 : Int32) (v5 : Int32) (S : z_S), k13 v1 v2 v3 v4 v5 S = some q → z_W l I_X6_leafOf (R_X6_leafOf q) B q 13 [some (.ref 60), some (.int v1), some (.int v2), some (.int v3), some (.int v4), some (.int v5), none] [] S) : ∀ (v1 : Int32) (v2 : Int32) (v3 : Int32) (v5 : Int32) (s0 : Int32) (S : z_S), F_X6_leafOf_73 B k13 v1 v2 v3 v5 s0 S = some q → z_W l I_X6_leafOf (R_X6_leafOf q) B q 73 [some (.ref 60), some (.int v1), some (.int v2), some (.int v3), none, some (.int v5), none] [.int s0] S := by
  intro v1 v2 v3 v5 s0 S hF
  unfold F_X6_leafOf_73 at hF
  refine z_istore (pc' := 75) dX6_leafOf_73 (by decide) rfl rfl ?_
  refine z_iinc (v := v5 + 1) (pc' := 78) dX6_leafOf_75 rfl rfl (by decide) rfl rfl ?_
  refine z_goto (pc' := 13) dX6_leafOf_78 (by decide) ?_
  refine z_wk (ls' := [some (.ref 60), some (.int v1), some (.int v2), some (.int v3), some (.int s0), some (.int (v5 + 1)), none]) (z_lec rfl (z_lec rfl (z_lec rfl (z_lec rfl (z_lec rfl (z_lec rfl (z_len1 z_le0))))))) ?_
  exact hk13 _ _ _ _ _ _ hF
def F_X6_leafOf_71 (B : Nat) (k73 : Int32 → Int32 → Int32 → Int32 → Int32 → z_S → Option (z_O × z_S)) (v1 : Int32) (v2 : Int32) (v3 : Int32) (v4 : Int32) (v5 : Int32) (S : z_S) : Option (z_O × z_S) :=
  k73 v1 v2 v3 v5 v4 S
set_option maxRecDepth 20000 in
set_option maxHeartbeats 16000000 in
theorem ok_X6_leafOf_71 {l : Launch} {B : Nat} {q : z_O × z_S} (hst : l.stackTraces = false) {k73 : Int32 → Int32 → Int32 → Int32 → Int32 → z_S → Option (z_O × z_S)} (hk73 : ∀ (v1 : Int32) (v2 : Int32) (v3 : Int32) (v5 : Int32) (s0 : Int32) (S : z_S), k73 v1 v2 v3 v5 s0 S = some q → z_W l I_X6_leafOf (R_X6_leafOf q) B q 73 [some (.ref 60), some (.int v1), some (.int v2), some (.int v3), none, some (.int v5), none] [.int s0] S) : ∀ (v1 : Int32) (v2 : Int32) (v3 : Int32) (v4 : Int32) (v5 : Int32) (S : z_S), F_X6_leafOf_71 B k73 v1 v2 v3 v4 v5 S = some q → z_W l I_X6_leafOf (R_X6_leafOf q) B q 71 [some (.ref 60), some (.int v1), some (.int v2), some (.int v3), some (.int v4), some (.int v5), none] [] S := by
  intro v1 v2 v3 v4 v5 S hF
  unfold F_X6_leafOf_71 at hF
  refine z_iload (pc' := 73) dX6_leafOf_71 rfl rfl ?_
  refine z_wk (ls' := [some (.ref 60), some (.int v1), some (.int v2), some (.int v3), none, some (.int v5), none]) (z_lec rfl (z_lec rfl (z_lec rfl (z_lec rfl (z_len1 (z_lec rfl (z_len1 z_le0))))))) ?_
  exact hk73 _ _ _ _ _ _ hF
def F_X6_leafOf_13 (B : Nat)  : Nat → Int32 → Int32 → Int32 → Int32 → Int32 → z_S → Option (z_O × z_S)
  | 0, _, _, _, _, _, _ => none
  | n + 1, v1, v2, v3, v4, v5, S => z_gd (z_inb 13068 25366) (
  z_lt (S.1 61 (z_ix (13068))) fun x2 =>
  (if x2 ≤ v5 then
    some (.inl (some v4), S)
  else
    z_gd (z_inb (12300 + v5) 25366) (
    z_lt (S.1 61 (z_ix (12300 + v5))) fun x4 =>
    (z_gd (z_inb (3852 + x4) 25366) (
    z_lt (S.1 61 (z_ix (3852 + x4))) fun x6 =>
    (if x6 ≤ 0 then
      F_X6_leafOf_71 B (F_X6_leafOf_73 B (F_X6_leafOf_13 B n) ) v1 v2 v3 v4 v5 S
    else
      z_bn (F_X6_compare B x4 0 v1 v2 v3 S) fun r7 S8 =>
      (if 0 < r7 then
        F_X6_leafOf_71 B (F_X6_leafOf_73 B (F_X6_leafOf_13 B n) ) v1 v2 v3 v4 v5 S8
      else
        F_X6_leafOf_73 B (F_X6_leafOf_13 B n) v1 v2 v3 v5 x4 S8)))))))
set_option maxRecDepth 20000 in
set_option maxHeartbeats 16000000 in
theorem ok_X6_leafOf_13 {l : Launch} {B : Nat} {q : z_O × z_S} (hst : l.stackTraces = false) : ∀ (n : Nat) (v1 : Int32) (v2 : Int32) (v3 : Int32) (v4 : Int32) (v5 : Int32) (S : z_S), F_X6_leafOf_13 B n v1 v2 v3 v4 v5 S = some q → z_W l I_X6_leafOf (R_X6_leafOf q) B q 13 [some (.ref 60), some (.int v1), some (.int v2), some (.int v3), some (.int v4), some (.int v5), none] [] S := by
  intro n
  induction n with
  | zero => intro v1 v2 v3 v4 v5 S hF; cases hF
  | succ n ih =>
    intro v1 v2 v3 v4 v5 S hF
    rw [F_X6_leafOf_13] at hF
    refine z_iload (pc' := 15) dX6_leafOf_13 rfl rfl ?_
    refine z_aload_n (pc' := 16) dX6_leafOf_15 rfl rfl rfl ?_
    refine gf_X6_7 (b := 61) (pc' := 19) rfl is_6_60 rfl dX6_leafOf_16 rfl ?_
    refine z_sipush (v := 13068) (pc' := 22) dX6_leafOf_19 (by decide) rfl ?_
    obtain ⟨g1, hF⟩ := z_gde hF
    refine z_iaload (pc' := 23) (ar_6_f3 is_6_60) (z_inbe g1) dX6_leafOf_22 rfl ?_
    refine z_topi (fun x2 ex2 => ?_)
    replace hF := z_lte hF x2 ex2
    refine z_icmp_ge (tgt := 81) (pc' := 26) dX6_leafOf_23 (by decide) rfl (fun c12 => ?_) (fun c12 => ?_)
    · rw [if_pos c12] at hF
      refine z_iload (pc' := 83) dX6_leafOf_81 rfl rfl ?_
      exact z_ireturn rfl dX6_leafOf_83 (Option.some.inj hF).symm
    · rw [if_neg c12] at hF
      refine z_aload_n (pc' := 27) dX6_leafOf_26 rfl rfl rfl ?_
      refine gf_X6_7 (b := 61) (pc' := 30) rfl is_6_60 rfl dX6_leafOf_27 rfl ?_
      refine z_sipush (v := 12300) (pc' := 33) dX6_leafOf_30 (by decide) rfl ?_
      refine z_iload (pc' := 35) dX6_leafOf_33 rfl rfl ?_
      refine z_iadd (pc' := 36) dX6_leafOf_35 rfl ?_
      obtain ⟨g3, hF⟩ := z_gde hF
      refine z_iaload (pc' := 37) (ar_6_f3 is_6_60) (z_inbe g3) dX6_leafOf_36 rfl ?_
      refine z_topi (fun x4 ex4 => ?_)
      replace hF := z_lte hF x4 ex4
      refine z_istore (pc' := 39) dX6_leafOf_37 (by decide) rfl rfl ?_
      refine z_aload_n (pc' := 40) dX6_leafOf_39 rfl rfl rfl ?_
      refine gf_X6_7 (b := 61) (pc' := 43) rfl is_6_60 rfl dX6_leafOf_40 rfl ?_
      refine z_sipush (v := 3852) (pc' := 46) dX6_leafOf_43 (by decide) rfl ?_
      refine z_iload (pc' := 48) dX6_leafOf_46 rfl rfl ?_
      refine z_iadd (pc' := 49) dX6_leafOf_48 rfl ?_
      obtain ⟨g5, hF⟩ := z_gde hF
      refine z_iaload (pc' := 50) (ar_6_f3 is_6_60) (z_inbe g5) dX6_leafOf_49 rfl ?_
      refine z_topi (fun x6 ex6 => ?_)
      replace hF := z_lte hF x6 ex6
      refine z_if_le (tgt := 71) (pc' := 53) dX6_leafOf_50 (by decide) rfl (fun c11 => ?_) (fun c11 => ?_)
      · rw [if_pos c11] at hF
        refine z_wk (ls' := [some (.ref 60), some (.int v1), some (.int v2), some (.int v3), some (.int v4), some (.int v5), none]) (z_lec rfl (z_lec rfl (z_lec rfl (z_lec rfl (z_lec rfl (z_lec rfl (z_len1 z_le0))))))) ?_
        exact (ok_X6_leafOf_71 hst (ok_X6_leafOf_73 hst ih)) _ _ _ _ _ _ hF
      · rw [if_neg c11] at hF
        refine z_aload_n (pc' := 54) dX6_leafOf_53 rfl rfl rfl ?_
        refine z_iload (pc' := 56) dX6_leafOf_54 rfl rfl ?_
        refine z_iconst (v := 0) (pc' := 57) dX6_leafOf_56 (by decide) rfl ?_
        refine z_iload_n (pc' := 58) dX6_leafOf_57 rfl rfl rfl ?_
        refine z_iload_n (pc' := 59) dX6_leafOf_58 rfl rfl rfl ?_
        refine z_iload_n (pc' := 60) dX6_leafOf_59 rfl rfl rfl ?_
        obtain ⟨r7, S8, hc9, hF⟩ := z_bne hF
        refine k_X6_compare (F := 1) (L := 26) (pc' := 63) hc9 hst zw_123 rfl rfl (by decide) (by decide) (by decide) dX6_leafOf_60 rfl ?_
        refine z_if_gt (tgt := 71) (pc' := 66) dX6_leafOf_63 (by decide) rfl (fun c10 => ?_) (fun c10 => ?_)
        · rw [if_pos c10] at hF
          refine z_wk (ls' := [some (.ref 60), some (.int v1), some (.int v2), some (.int v3), some (.int v4), some (.int v5), none]) (z_lec rfl (z_lec rfl (z_lec rfl (z_lec rfl (z_lec rfl (z_lec rfl (z_len1 z_le0))))))) ?_
          exact (ok_X6_leafOf_71 hst (ok_X6_leafOf_73 hst ih)) _ _ _ _ _ _ hF
        · rw [if_neg c10] at hF
          refine z_iload (pc' := 68) dX6_leafOf_66 rfl rfl ?_
          refine z_goto (pc' := 73) dX6_leafOf_68 (by decide) ?_
          refine z_wk (ls' := [some (.ref 60), some (.int v1), some (.int v2), some (.int v3), none, some (.int v5), none]) (z_lec rfl (z_lec rfl (z_lec rfl (z_lec rfl (z_len1 (z_lec rfl (z_len1 z_le0))))))) ?_
          exact (ok_X6_leafOf_73 hst ih) _ _ _ _ _ _ hF
def F_X6_leafOf (B : Nat) (p1 : Int32) (p2 : Int32) (p3 : Int32) (S : z_S) : Option (z_O × z_S) :=
  z_gd (z_inb 12300 25366) (
  z_lt (S.1 61 (z_ix (12300))) fun x2 =>
  (F_X6_leafOf_13 B z_n p1 p2 p3 x2 0 S))
set_option maxRecDepth 20000 in
set_option maxHeartbeats 16000000 in
theorem c_X6_leafOf {l : Launch} {B : Nat} {p1 : Int32} {p2 : Int32} {p3 : Int32} {S : z_S} {q : z_O × z_S} (hst : l.stackTraces = false) (hF : F_X6_leafOf B p1 p2 p3 S = some q) : z_Met l I_X6_leafOf 1 26 B [.ref 60, .int p1, .int p2, .int p3] S q.1 q.2 := by
  refine z_enter (ls := [some (.ref 60), some (.int p1), some (.int p2), some (.int p3), none, none, none]) (n := 3) (by decide) rfl (Nat.le_of_ble_eq_true rfl) hst ?_
  unfold F_X6_leafOf at hF
  refine z_aload_n (pc' := 1) dX6_leafOf_0 rfl rfl rfl ?_
  refine gf_X6_7 (b := 61) (pc' := 4) rfl is_6_60 rfl dX6_leafOf_1 rfl ?_
  refine z_sipush (v := 12300) (pc' := 7) dX6_leafOf_4 (by decide) rfl ?_
  obtain ⟨g1, hF⟩ := z_gde hF
  refine z_iaload (pc' := 8) (ar_6_f3 is_6_60) (z_inbe g1) dX6_leafOf_7 rfl ?_
  refine z_topi (fun x2 ex2 => ?_)
  replace hF := z_lte hF x2 ex2
  refine z_istore (pc' := 10) dX6_leafOf_8 (by decide) rfl rfl ?_
  refine z_iconst (v := 0) (pc' := 11) dX6_leafOf_10 (by decide) rfl ?_
  refine z_istore (pc' := 13) dX6_leafOf_11 (by decide) rfl rfl ?_
  refine z_wk (ls' := [some (.ref 60), some (.int p1), some (.int p2), some (.int p3), some (.int x2), some (.int 0), none]) (z_lec rfl (z_lec rfl (z_lec rfl (z_lec rfl (z_lec rfl (z_lec rfl (z_len1 z_le0))))))) ?_
  exact (ok_X6_leafOf_13 hst z_n) _ _ _ _ _ _ hF
theorem ok_X6_leafOf : z_okV I_X6_leafOf 3 := ⟨⟨z_Gin (List.mem_of_getElem? (i := 999) (by decide +kernel)) rfl, z_Gin (List.mem_of_getElem? (i := 42) (by decide +kernel)) rfl, z_Gin (List.mem_of_getElem? (i := 98) (by decide +kernel)) rfl, z_Gin (List.mem_of_getElem? (i := 1000) (by decide +kernel)) rfl⟩, by decide, by decide, by decide +kernel⟩
theorem k_X6_leafOf {l : Launch} {I : z_I} {R : Room} {B : Nat} {p1 : Int32} {p2 : Int32} {p3 : Int32} {q : z_O × z_S} {pc pc' : Nat} {ls : List (Option Value)} {st : List Value} {S S1 : z_S} {idx F L : Nat} {r : Int32}  (hF : F_X6_leafOf B p1 p2 p3 S = some (.inl (some r), S1)) (hst : l.stackTraces = false) (w : Cond.methodLink I.1.cls idx yX6_leafOf ∈ z_G) (hRF : R.frames = F) (hRL : R.locals = L) (h1 : 2 ≤ F) (h2 : 52 ≤ L) (hs : (st.map fun v => v.category).sum ≤ 8) (d : decode I.2.1 pc = .ok (.invokevirtual idx, 3)) (hp : pc + 3 = pc') (k : z_W l I R B q pc' ls (.int r :: st) S1) : z_W l I R B q pc ls (.int p3 :: .int p2 :: .int p1 :: .ref 60 :: st) S := z_callV (Y := I_X6_leafOf) (As := [.int p1, .int p2, .int p3]) (st := st) (r := (some r)) (S1 := S1) (c_X6_leafOf (q := (.inl (some r), S1)) hst hF) ok_X6_leafOf w (ci := 6) rfl is_6_60.1 is_6_60.2 rfl ⟨by rw [hRF]; exact h1, by rw [hRL]; exact h2⟩ hs d hp rfl k

abbrev I_X6_find : z_I := (yX6_find, cX6_find, 6, some .int)
abbrev R_X6_find (q : z_O × z_S) : Room := { frames := 2, locals := 52, cells := z_mc q.1, slots := 6 * z_mc q.1 }
def F_X6_find_12 (B : Nat)  : Nat → Int32 → Int32 → Int32 → Int32 → Int32 → z_S → Option (z_O × z_S)
  | 0, _, _, _, _, _, _ => none
  | n + 1, v1, v2, v3, v4, v5, S => z_gd (z_inb (3852 + v4) 25366) (
  z_lt (S.1 61 (z_ix (3852 + v4))) fun x2 =>
  (if x2 ≤ v5 then
    some (.inl (some (-1)), S)
  else
    z_bn (F_X6_compare B v4 v5 v1 v2 v3 S) fun r3 S4 =>
    (if r3 = 0 then
      some (.inl (some v5), S4)
    else
      F_X6_find_12 B n v1 v2 v3 v4 (v5 + 1) S4)))
set_option maxRecDepth 20000 in
set_option maxHeartbeats 16000000 in
theorem ok_X6_find_12 {l : Launch} {B : Nat} {q : z_O × z_S} (hst : l.stackTraces = false) : ∀ (n : Nat) (v1 : Int32) (v2 : Int32) (v3 : Int32) (v4 : Int32) (v5 : Int32) (S : z_S), F_X6_find_12 B n v1 v2 v3 v4 v5 S = some q → z_W l I_X6_find (R_X6_find q) B q 12 [some (.ref 60), some (.int v1), some (.int v2), some (.int v3), some (.int v4), some (.int v5)] [] S := by
  intro n
  induction n with
  | zero => intro v1 v2 v3 v4 v5 S hF; cases hF
  | succ n ih =>
    intro v1 v2 v3 v4 v5 S hF
    rw [F_X6_find_12] at hF
    refine z_iload (pc' := 14) dX6_find_12 rfl rfl ?_
    refine z_aload_n (pc' := 15) dX6_find_14 rfl rfl rfl ?_
    refine gf_X6_7 (b := 61) (pc' := 18) rfl is_6_60 rfl dX6_find_15 rfl ?_
    refine z_sipush (v := 3852) (pc' := 21) dX6_find_18 (by decide) rfl ?_
    refine z_iload (pc' := 23) dX6_find_21 rfl rfl ?_
    refine z_iadd (pc' := 24) dX6_find_23 rfl ?_
    obtain ⟨g1, hF⟩ := z_gde hF
    refine z_iaload (pc' := 25) (ar_6_f3 is_6_60) (z_inbe g1) dX6_find_24 rfl ?_
    refine z_topi (fun x2 ex2 => ?_)
    replace hF := z_lte hF x2 ex2
    refine z_icmp_ge (tgt := 51) (pc' := 28) dX6_find_25 (by decide) rfl (fun c7 => ?_) (fun c7 => ?_)
    · rw [if_pos c7] at hF
      refine z_iconst (v := (-1)) (pc' := 52) dX6_find_51 (by decide) rfl ?_
      exact z_ireturn rfl dX6_find_52 (Option.some.inj hF).symm
    · rw [if_neg c7] at hF
      refine z_aload_n (pc' := 29) dX6_find_28 rfl rfl rfl ?_
      refine z_iload (pc' := 31) dX6_find_29 rfl rfl ?_
      refine z_iload (pc' := 33) dX6_find_31 rfl rfl ?_
      refine z_iload_n (pc' := 34) dX6_find_33 rfl rfl rfl ?_
      refine z_iload_n (pc' := 35) dX6_find_34 rfl rfl rfl ?_
      refine z_iload_n (pc' := 36) dX6_find_35 rfl rfl rfl ?_
      obtain ⟨r3, S4, hc5, hF⟩ := z_bne hF
      refine k_X6_compare (F := 2) (L := 52) (pc' := 39) hc5 hst zw_123 rfl rfl (by decide) (by decide) (by decide) dX6_find_36 rfl ?_
      refine z_if_ne (tgt := 45) (pc' := 42) dX6_find_39 (by decide) rfl (fun c6 => ?_) (fun c6 => ?_)
      · rw [if_neg c6] at hF
        refine z_iinc (v := v5 + 1) (pc' := 48) dX6_find_45 rfl rfl (by decide) rfl rfl ?_
        refine z_goto (pc' := 12) dX6_find_48 (by decide) ?_
        refine z_wk (ls' := [some (.ref 60), some (.int v1), some (.int v2), some (.int v3), some (.int v4), some (.int (v5 + 1))]) (z_lec rfl (z_lec rfl (z_lec rfl (z_lec rfl (z_lec rfl (z_lec rfl z_le0)))))) ?_
        exact ih _ _ _ _ _ _ hF
      · rw [if_pos c6] at hF
        refine z_iload (pc' := 44) dX6_find_42 rfl rfl ?_
        exact z_ireturn rfl dX6_find_44 (Option.some.inj hF).symm
def F_X6_find (B : Nat) (p1 : Int32) (p2 : Int32) (p3 : Int32) (S : z_S) : Option (z_O × z_S) :=
  z_bn (F_X6_leafOf B p1 p2 p3 S) fun r1 S2 =>
  (F_X6_find_12 B z_n p1 p2 p3 r1 0 S2)
set_option maxRecDepth 20000 in
set_option maxHeartbeats 16000000 in
theorem c_X6_find {l : Launch} {B : Nat} {p1 : Int32} {p2 : Int32} {p3 : Int32} {S : z_S} {q : z_O × z_S} (hst : l.stackTraces = false) (hF : F_X6_find B p1 p2 p3 S = some q) : z_Met l I_X6_find 2 52 B [.ref 60, .int p1, .int p2, .int p3] S q.1 q.2 := by
  refine z_enter (ls := [some (.ref 60), some (.int p1), some (.int p2), some (.int p3), none, none]) (n := 2) (by decide) rfl (Nat.le_of_ble_eq_true rfl) hst ?_
  unfold F_X6_find at hF
  refine z_aload_n (pc' := 1) dX6_find_0 rfl rfl rfl ?_
  refine z_iload_n (pc' := 2) dX6_find_1 rfl rfl rfl ?_
  refine z_iload_n (pc' := 3) dX6_find_2 rfl rfl rfl ?_
  refine z_iload_n (pc' := 4) dX6_find_3 rfl rfl rfl ?_
  obtain ⟨r1, S2, hc3, hF⟩ := z_bne hF
  refine k_X6_leafOf (F := 2) (L := 52) (pc' := 7) hc3 hst zw_124 rfl rfl (by decide) (by decide) (by decide) dX6_find_4 rfl ?_
  refine z_istore (pc' := 9) dX6_find_7 (by decide) rfl rfl ?_
  refine z_iconst (v := 0) (pc' := 10) dX6_find_9 (by decide) rfl ?_
  refine z_istore (pc' := 12) dX6_find_10 (by decide) rfl rfl ?_
  refine z_wk (ls' := [some (.ref 60), some (.int p1), some (.int p2), some (.int p3), some (.int r1), some (.int 0)]) (z_lec rfl (z_lec rfl (z_lec rfl (z_lec rfl (z_lec rfl (z_lec rfl z_le0)))))) ?_
  exact (ok_X6_find_12 hst z_n) _ _ _ _ _ _ hF
theorem ok_X6_find : z_okV I_X6_find 3 := ⟨⟨z_Gin (List.mem_of_getElem? (i := 995) (by decide +kernel)) rfl, z_Gin (List.mem_of_getElem? (i := 41) (by decide +kernel)) rfl, z_Gin (List.mem_of_getElem? (i := 98) (by decide +kernel)) rfl, z_Gin (List.mem_of_getElem? (i := 996) (by decide +kernel)) rfl⟩, by decide, by decide, by decide +kernel⟩
theorem k_X6_find {l : Launch} {I : z_I} {R : Room} {B : Nat} {p1 : Int32} {p2 : Int32} {p3 : Int32} {q : z_O × z_S} {pc pc' : Nat} {ls : List (Option Value)} {st : List Value} {S S1 : z_S} {idx F L : Nat} {r : Int32}  (hF : F_X6_find B p1 p2 p3 S = some (.inl (some r), S1)) (hst : l.stackTraces = false) (w : Cond.methodLink I.1.cls idx yX6_find ∈ z_G) (hRF : R.frames = F) (hRL : R.locals = L) (h1 : 3 ≤ F) (h2 : 77 ≤ L) (hs : (st.map fun v => v.category).sum ≤ 8) (d : decode I.2.1 pc = .ok (.invokevirtual idx, 3)) (hp : pc + 3 = pc') (k : z_W l I R B q pc' ls (.int r :: st) S1) : z_W l I R B q pc ls (.int p3 :: .int p2 :: .int p1 :: .ref 60 :: st) S := z_callV (Y := I_X6_find) (As := [.int p1, .int p2, .int p3]) (st := st) (r := (some r)) (S1 := S1) (c_X6_find (q := (.inl (some r), S1)) hst hF) ok_X6_find w (ci := 6) rfl is_6_60.1 is_6_60.2 rfl ⟨by rw [hRF]; exact h1, by rw [hRL]; exact h2⟩ hs d hp rfl k

abbrev I_X6_put : z_I := (yX6_put, cX6_put, 9, none)
abbrev R_X6_put (q : z_O × z_S) : Room := { frames := 5, locals := 121, cells := z_mc q.1, slots := 6 * z_mc q.1 }
def F_X6_put_71 (B : Nat)  (v1 : Int32) (v2 : Int32) (v3 : Int32) (v4 : Int32) (v5 : Int32) (v6 : Int32) (v7 : Int32) (S : z_S) : Option (z_O × z_S) :=
  z_gd (z_inb (4620 + ((16 * v6) + v7)) 25366) (
  z_lt (z_ua S 61 (upd (S.1 61) (z_ix (4620 + ((16 * v6) + v7))) v1)) fun S2 =>
  (z_gd (z_inb (6156 + ((16 * v6) + v7)) 25366) (
  z_lt (z_ua S2 61 (upd (S2.1 61) (z_ix (6156 + ((16 * v6) + v7))) v2)) fun S4 =>
  (z_gd (z_inb (7692 + ((16 * v6) + v7)) 25366) (
  z_lt (z_ua S4 61 (upd (S4.1 61) (z_ix (7692 + ((16 * v6) + v7))) v3)) fun S6 =>
  (z_gd (z_inb (9228 + ((16 * v6) + v7)) 25366) (
  z_lt (z_ua S6 61 (upd (S6.1 61) (z_ix (9228 + ((16 * v6) + v7))) v4)) fun S8 =>
  (z_gd (z_inb (10764 + ((16 * v6) + v7)) 25366) (
  z_lt (z_ua S8 61 (upd (S8.1 61) (z_ix (10764 + ((16 * v6) + v7))) v5)) fun S10 =>
  (z_gd (z_inb (3852 + v6) 25366) (
  z_lt (S10.1 61 (z_ix (3852 + v6))) fun x12 =>
  (z_gd (z_inb (3852 + v6) 25366) (
  z_lt (z_ua S10 61 (upd (S10.1 61) (z_ix (3852 + v6)) (x12 + 1))) fun S14 =>
  (z_bo (F_X6_settle B v6 S14) fun S16 =>
  (some (.inl none, S16))))))))))))))))
set_option maxRecDepth 20000 in
set_option maxHeartbeats 16000000 in
theorem ok_X6_put_71 {l : Launch} {B : Nat} {q : z_O × z_S} (hst : l.stackTraces = false) : ∀ (v1 : Int32) (v2 : Int32) (v3 : Int32) (v4 : Int32) (v5 : Int32) (v6 : Int32) (v7 : Int32) (S : z_S), F_X6_put_71 B v1 v2 v3 v4 v5 v6 v7 S = some q → z_W l I_X6_put (R_X6_put q) B q 71 [some (.ref 60), some (.int v1), some (.int v2), some (.int v3), some (.int v4), some (.int v5), some (.int v6), some (.int v7), none] [] S := by
  intro v1 v2 v3 v4 v5 v6 v7 S hF
  unfold F_X6_put_71 at hF
  refine z_bipush (v := 16) (pc' := 73) dX6_put_71 (by decide) rfl ?_
  refine z_iload (pc' := 75) dX6_put_73 rfl rfl ?_
  refine z_imul (pc' := 76) dX6_put_75 rfl ?_
  refine z_iload (pc' := 78) dX6_put_76 rfl rfl ?_
  refine z_iadd (pc' := 79) dX6_put_78 rfl ?_
  refine z_istore (pc' := 81) dX6_put_79 (by decide) rfl rfl ?_
  refine z_aload_n (pc' := 82) dX6_put_81 rfl rfl rfl ?_
  refine gf_X6_7 (b := 61) (pc' := 85) rfl is_6_60 rfl dX6_put_82 rfl ?_
  refine z_sipush (v := 4620) (pc' := 88) dX6_put_85 (by decide) rfl ?_
  refine z_iload (pc' := 90) dX6_put_88 rfl rfl ?_
  refine z_iadd (pc' := 91) dX6_put_90 rfl ?_
  refine z_iload_n (pc' := 92) dX6_put_91 rfl rfl rfl ?_
  obtain ⟨g1, hF⟩ := z_gde hF
  refine z_iastore (pc' := 93) (ar_6_f3 is_6_60) (z_inbe g1) dX6_put_92 rfl (fun S2 eS2 => ?_)
  replace hF := z_lte hF S2 eS2
  refine z_aload_n (pc' := 94) dX6_put_93 rfl rfl rfl ?_
  refine gf_X6_7 (b := 61) (pc' := 97) rfl is_6_60 rfl dX6_put_94 rfl ?_
  refine z_sipush (v := 6156) (pc' := 100) dX6_put_97 (by decide) rfl ?_
  refine z_iload (pc' := 102) dX6_put_100 rfl rfl ?_
  refine z_iadd (pc' := 103) dX6_put_102 rfl ?_
  refine z_iload_n (pc' := 104) dX6_put_103 rfl rfl rfl ?_
  obtain ⟨g3, hF⟩ := z_gde hF
  refine z_iastore (pc' := 105) (ar_6_f3 is_6_60) (z_inbe g3) dX6_put_104 rfl (fun S4 eS4 => ?_)
  replace hF := z_lte hF S4 eS4
  refine z_aload_n (pc' := 106) dX6_put_105 rfl rfl rfl ?_
  refine gf_X6_7 (b := 61) (pc' := 109) rfl is_6_60 rfl dX6_put_106 rfl ?_
  refine z_sipush (v := 7692) (pc' := 112) dX6_put_109 (by decide) rfl ?_
  refine z_iload (pc' := 114) dX6_put_112 rfl rfl ?_
  refine z_iadd (pc' := 115) dX6_put_114 rfl ?_
  refine z_iload_n (pc' := 116) dX6_put_115 rfl rfl rfl ?_
  obtain ⟨g5, hF⟩ := z_gde hF
  refine z_iastore (pc' := 117) (ar_6_f3 is_6_60) (z_inbe g5) dX6_put_116 rfl (fun S6 eS6 => ?_)
  replace hF := z_lte hF S6 eS6
  refine z_aload_n (pc' := 118) dX6_put_117 rfl rfl rfl ?_
  refine gf_X6_7 (b := 61) (pc' := 121) rfl is_6_60 rfl dX6_put_118 rfl ?_
  refine z_sipush (v := 9228) (pc' := 124) dX6_put_121 (by decide) rfl ?_
  refine z_iload (pc' := 126) dX6_put_124 rfl rfl ?_
  refine z_iadd (pc' := 127) dX6_put_126 rfl ?_
  refine z_iload (pc' := 129) dX6_put_127 rfl rfl ?_
  obtain ⟨g7, hF⟩ := z_gde hF
  refine z_iastore (pc' := 130) (ar_6_f3 is_6_60) (z_inbe g7) dX6_put_129 rfl (fun S8 eS8 => ?_)
  replace hF := z_lte hF S8 eS8
  refine z_aload_n (pc' := 131) dX6_put_130 rfl rfl rfl ?_
  refine gf_X6_7 (b := 61) (pc' := 134) rfl is_6_60 rfl dX6_put_131 rfl ?_
  refine z_sipush (v := 10764) (pc' := 137) dX6_put_134 (by decide) rfl ?_
  refine z_iload (pc' := 139) dX6_put_137 rfl rfl ?_
  refine z_iadd (pc' := 140) dX6_put_139 rfl ?_
  refine z_iload (pc' := 142) dX6_put_140 rfl rfl ?_
  obtain ⟨g9, hF⟩ := z_gde hF
  refine z_iastore (pc' := 143) (ar_6_f3 is_6_60) (z_inbe g9) dX6_put_142 rfl (fun S10 eS10 => ?_)
  replace hF := z_lte hF S10 eS10
  refine z_aload_n (pc' := 144) dX6_put_143 rfl rfl rfl ?_
  refine gf_X6_7 (b := 61) (pc' := 147) rfl is_6_60 rfl dX6_put_144 rfl ?_
  refine z_sipush (v := 3852) (pc' := 150) dX6_put_147 (by decide) rfl ?_
  refine z_iload (pc' := 152) dX6_put_150 rfl rfl ?_
  refine z_iadd (pc' := 153) dX6_put_152 rfl ?_
  refine z_dup2 (pc' := 154) dX6_put_153 rfl ?_
  obtain ⟨g11, hF⟩ := z_gde hF
  refine z_iaload (pc' := 155) (ar_6_f3 is_6_60) (z_inbe g11) dX6_put_154 rfl ?_
  refine z_topi (fun x12 ex12 => ?_)
  replace hF := z_lte hF x12 ex12
  refine z_iconst (v := 1) (pc' := 156) dX6_put_155 (by decide) rfl ?_
  refine z_iadd (pc' := 157) dX6_put_156 rfl ?_
  obtain ⟨g13, hF⟩ := z_gde hF
  refine z_iastore (pc' := 158) (ar_6_f3 is_6_60) (z_inbe g13) dX6_put_157 rfl (fun S14 eS14 => ?_)
  replace hF := z_lte hF S14 eS14
  refine z_aload_n (pc' := 159) dX6_put_158 rfl rfl rfl ?_
  refine z_iload (pc' := 161) dX6_put_159 rfl rfl ?_
  obtain ⟨S16, hc17, hF⟩ := z_boe hF
  refine k_X6_settle (F := 5) (L := 121) (pc' := 164) hc17 hst zw_125 rfl rfl (by decide) (by decide) (by decide) dX6_put_161 rfl ?_
  exact z_return rfl dX6_put_164 (Option.some.inj hF).symm
def F_X6_put_22 (B : Nat)  : Nat → Int32 → Int32 → Int32 → Int32 → Int32 → Int32 → Int32 → z_S → Option (z_O × z_S)
  | 0, _, _, _, _, _, _, _, _ => none
  | n + 1, v1, v2, v3, v4, v5, v6, v7, S => if v7 ≤ 0 then
    F_X6_put_71 B v1 v2 v3 v4 v5 v6 v7 S
  else
    z_bn (F_X6_compare B v6 (v7 - 1) v1 v2 v3 S) fun r1 S2 =>
    (if r1 ≤ 0 then
      F_X6_put_71 B v1 v2 v3 v4 v5 v6 v7 S2
    else
      z_bo (F_X6_copy B (((16 * v6) + v7) - 1) ((16 * v6) + v7) S2) fun S5 =>
      (F_X6_put_22 B n v1 v2 v3 v4 v5 v6 (v7 + (-1)) S5))
set_option maxRecDepth 20000 in
set_option maxHeartbeats 16000000 in
theorem ok_X6_put_22 {l : Launch} {B : Nat} {q : z_O × z_S} (hst : l.stackTraces = false) : ∀ (n : Nat) (v1 : Int32) (v2 : Int32) (v3 : Int32) (v4 : Int32) (v5 : Int32) (v6 : Int32) (v7 : Int32) (S : z_S), F_X6_put_22 B n v1 v2 v3 v4 v5 v6 v7 S = some q → z_W l I_X6_put (R_X6_put q) B q 22 [some (.ref 60), some (.int v1), some (.int v2), some (.int v3), some (.int v4), some (.int v5), some (.int v6), some (.int v7), none] [] S := by
  intro n
  induction n with
  | zero => intro v1 v2 v3 v4 v5 v6 v7 S hF; cases hF
  | succ n ih =>
    intro v1 v2 v3 v4 v5 v6 v7 S hF
    rw [F_X6_put_22] at hF
    refine z_iload (pc' := 24) dX6_put_22 rfl rfl ?_
    refine z_if_le (tgt := 71) (pc' := 27) dX6_put_24 (by decide) rfl (fun c8 => ?_) (fun c8 => ?_)
    · rw [if_pos c8] at hF
      refine z_wk (ls' := [some (.ref 60), some (.int v1), some (.int v2), some (.int v3), some (.int v4), some (.int v5), some (.int v6), some (.int v7), none]) (z_lec rfl (z_lec rfl (z_lec rfl (z_lec rfl (z_lec rfl (z_lec rfl (z_lec rfl (z_lec rfl (z_len1 z_le0))))))))) ?_
      exact (ok_X6_put_71 hst) _ _ _ _ _ _ _ _ hF
    · rw [if_neg c8] at hF
      refine z_aload_n (pc' := 28) dX6_put_27 rfl rfl rfl ?_
      refine z_iload (pc' := 30) dX6_put_28 rfl rfl ?_
      refine z_iload (pc' := 32) dX6_put_30 rfl rfl ?_
      refine z_iconst (v := 1) (pc' := 33) dX6_put_32 (by decide) rfl ?_
      refine z_isub (pc' := 34) dX6_put_33 rfl ?_
      refine z_iload_n (pc' := 35) dX6_put_34 rfl rfl rfl ?_
      refine z_iload_n (pc' := 36) dX6_put_35 rfl rfl rfl ?_
      refine z_iload_n (pc' := 37) dX6_put_36 rfl rfl rfl ?_
      obtain ⟨r1, S2, hc3, hF⟩ := z_bne hF
      refine k_X6_compare (F := 5) (L := 121) (pc' := 40) hc3 hst zw_123 rfl rfl (by decide) (by decide) (by decide) dX6_put_37 rfl ?_
      refine z_if_le (tgt := 71) (pc' := 43) dX6_put_40 (by decide) rfl (fun c7 => ?_) (fun c7 => ?_)
      · rw [if_pos c7] at hF
        refine z_wk (ls' := [some (.ref 60), some (.int v1), some (.int v2), some (.int v3), some (.int v4), some (.int v5), some (.int v6), some (.int v7), none]) (z_lec rfl (z_lec rfl (z_lec rfl (z_lec rfl (z_lec rfl (z_lec rfl (z_lec rfl (z_lec rfl (z_len1 z_le0))))))))) ?_
        exact (ok_X6_put_71 hst) _ _ _ _ _ _ _ _ hF
      · rw [if_neg c7] at hF
        refine z_aload_n (pc' := 44) dX6_put_43 rfl rfl rfl ?_
        refine z_bipush (v := 16) (pc' := 46) dX6_put_44 (by decide) rfl ?_
        refine z_iload (pc' := 48) dX6_put_46 rfl rfl ?_
        refine z_imul (pc' := 49) dX6_put_48 rfl ?_
        refine z_iload (pc' := 51) dX6_put_49 rfl rfl ?_
        refine z_iadd (pc' := 52) dX6_put_51 rfl ?_
        refine z_iconst (v := 1) (pc' := 53) dX6_put_52 (by decide) rfl ?_
        refine z_isub (pc' := 54) dX6_put_53 rfl ?_
        refine z_bipush (v := 16) (pc' := 56) dX6_put_54 (by decide) rfl ?_
        refine z_iload (pc' := 58) dX6_put_56 rfl rfl ?_
        refine z_imul (pc' := 59) dX6_put_58 rfl ?_
        refine z_iload (pc' := 61) dX6_put_59 rfl rfl ?_
        refine z_iadd (pc' := 62) dX6_put_61 rfl ?_
        obtain ⟨S5, hc6, hF⟩ := z_boe hF
        refine k_X6_copy (F := 5) (L := 121) (pc' := 65) hc6 hst zw_116 rfl rfl (by decide) (by decide) (by decide) dX6_put_62 rfl ?_
        refine z_iinc (v := v7 + (-1)) (pc' := 68) dX6_put_65 rfl rfl (by decide) rfl rfl ?_
        refine z_goto (pc' := 22) dX6_put_68 (by decide) ?_
        refine z_wk (ls' := [some (.ref 60), some (.int v1), some (.int v2), some (.int v3), some (.int v4), some (.int v5), some (.int v6), some (.int (v7 + (-1))), none]) (z_lec rfl (z_lec rfl (z_lec rfl (z_lec rfl (z_lec rfl (z_lec rfl (z_lec rfl (z_lec rfl (z_len1 z_le0))))))))) ?_
        exact ih _ _ _ _ _ _ _ _ hF
def F_X6_put (B : Nat) (p1 : Int32) (p2 : Int32) (p3 : Int32) (p4 : Int32) (p5 : Int32) (S : z_S) : Option (z_O × z_S) :=
  z_bn (F_X6_leafOf B p1 p2 p3 S) fun r1 S2 =>
  (z_gd (z_inb (3852 + r1) 25366) (
  z_lt (S2.1 61 (z_ix (3852 + r1))) fun x5 =>
  (F_X6_put_22 B z_n p1 p2 p3 p4 p5 r1 x5 S2)))
set_option maxRecDepth 20000 in
set_option maxHeartbeats 16000000 in
theorem c_X6_put {l : Launch} {B : Nat} {p1 : Int32} {p2 : Int32} {p3 : Int32} {p4 : Int32} {p5 : Int32} {S : z_S} {q : z_O × z_S} (hst : l.stackTraces = false) (hF : F_X6_put B p1 p2 p3 p4 p5 S = some q) : z_Met l I_X6_put 5 121 B [.ref 60, .int p1, .int p2, .int p3, .int p4, .int p5] S q.1 q.2 := by
  refine z_enter (ls := [some (.ref 60), some (.int p1), some (.int p2), some (.int p3), some (.int p4), some (.int p5), none, none, none]) (n := 3) (by decide) rfl (Nat.le_of_ble_eq_true rfl) hst ?_
  unfold F_X6_put at hF
  refine z_aload_n (pc' := 1) dX6_put_0 rfl rfl rfl ?_
  refine z_iload_n (pc' := 2) dX6_put_1 rfl rfl rfl ?_
  refine z_iload_n (pc' := 3) dX6_put_2 rfl rfl rfl ?_
  refine z_iload_n (pc' := 4) dX6_put_3 rfl rfl rfl ?_
  obtain ⟨r1, S2, hc3, hF⟩ := z_bne hF
  refine k_X6_leafOf (F := 5) (L := 121) (pc' := 7) hc3 hst zw_124 rfl rfl (by decide) (by decide) (by decide) dX6_put_4 rfl ?_
  refine z_istore (pc' := 9) dX6_put_7 (by decide) rfl rfl ?_
  refine z_aload_n (pc' := 10) dX6_put_9 rfl rfl rfl ?_
  refine gf_X6_7 (b := 61) (pc' := 13) rfl is_6_60 rfl dX6_put_10 rfl ?_
  refine z_sipush (v := 3852) (pc' := 16) dX6_put_13 (by decide) rfl ?_
  refine z_iload (pc' := 18) dX6_put_16 rfl rfl ?_
  refine z_iadd (pc' := 19) dX6_put_18 rfl ?_
  obtain ⟨g4, hF⟩ := z_gde hF
  refine z_iaload (pc' := 20) (ar_6_f3 is_6_60) (z_inbe g4) dX6_put_19 rfl ?_
  refine z_topi (fun x5 ex5 => ?_)
  replace hF := z_lte hF x5 ex5
  refine z_istore (pc' := 22) dX6_put_20 (by decide) rfl rfl ?_
  refine z_wk (ls' := [some (.ref 60), some (.int p1), some (.int p2), some (.int p3), some (.int p4), some (.int p5), some (.int r1), some (.int x5), none]) (z_lec rfl (z_lec rfl (z_lec rfl (z_lec rfl (z_lec rfl (z_lec rfl (z_lec rfl (z_lec rfl (z_len1 z_le0))))))))) ?_
  exact (ok_X6_put_22 hst z_n) _ _ _ _ _ _ _ _ hF
theorem ok_X6_put : z_okV I_X6_put 5 := ⟨⟨z_Gin (List.mem_of_getElem? (i := 1015) (by decide +kernel)) rfl, z_Gin (List.mem_of_getElem? (i := 46) (by decide +kernel)) rfl, z_Gin (List.mem_of_getElem? (i := 98) (by decide +kernel)) rfl, z_Gin (List.mem_of_getElem? (i := 1016) (by decide +kernel)) rfl⟩, by decide, by decide, by decide +kernel⟩
theorem k_X6_put {l : Launch} {I : z_I} {R : Room} {B : Nat} {p1 : Int32} {p2 : Int32} {p3 : Int32} {p4 : Int32} {p5 : Int32} {q : z_O × z_S} {pc pc' : Nat} {ls : List (Option Value)} {st : List Value} {S S1 : z_S} {idx F L : Nat}  (hF : F_X6_put B p1 p2 p3 p4 p5 S = some (.inl none, S1)) (hst : l.stackTraces = false) (w : Cond.methodLink I.1.cls idx yX6_put ∈ z_G) (hRF : R.frames = F) (hRL : R.locals = L) (h1 : 6 ≤ F) (h2 : 149 ≤ L) (hs : (st.map fun v => v.category).sum ≤ 8) (d : decode I.2.1 pc = .ok (.invokevirtual idx, 3)) (hp : pc + 3 = pc') (k : z_W l I R B q pc' ls st S1) : z_W l I R B q pc ls (.int p5 :: .int p4 :: .int p3 :: .int p2 :: .int p1 :: .ref 60 :: st) S := z_callV (Y := I_X6_put) (As := [.int p1, .int p2, .int p3, .int p4, .int p5]) (st := st) (r := none) (S1 := S1) (c_X6_put (q := (.inl none, S1)) hst hF) ok_X6_put w (ci := 6) rfl is_6_60.1 is_6_60.2 rfl ⟨by rw [hRF]; exact h1, by rw [hRL]; exact h2⟩ hs d hp rfl k

abbrev I_X6_remove : z_I := (yX6_remove, cX6_remove, 5, none)
abbrev R_X6_remove (q : z_O × z_S) : Room := { frames := 5, locals := 120, cells := z_mc q.1, slots := 6 * z_mc q.1 }
def F_X6_remove (B : Nat) (p1 : Int32) (p2 : Int32) (p3 : Int32) (S : z_S) : Option (z_O × z_S) :=
  z_bn (F_X6_leafOf B p1 p2 p3 S) fun r1 S2 =>
  (z_bn (F_X6_find B p1 p2 p3 S2) fun r4 S5 =>
  (z_bo (F_X6_drop B r1 r4 S5) fun S8 =>
  (z_bo (F_X6_lookAt B r1 S8) fun S11 =>
  (some (.inl none, S11)))))
set_option maxRecDepth 20000 in
set_option maxHeartbeats 16000000 in
theorem c_X6_remove {l : Launch} {B : Nat} {p1 : Int32} {p2 : Int32} {p3 : Int32} {S : z_S} {q : z_O × z_S} (hst : l.stackTraces = false) (hF : F_X6_remove B p1 p2 p3 S = some q) : z_Met l I_X6_remove 5 120 B [.ref 60, .int p1, .int p2, .int p3] S q.1 q.2 := by
  refine z_enter (ls := [some (.ref 60), some (.int p1), some (.int p2), some (.int p3), none]) (n := 1) (by decide) rfl (Nat.le_of_ble_eq_true rfl) hst ?_
  unfold F_X6_remove at hF
  refine z_aload_n (pc' := 1) dX6_remove_0 rfl rfl rfl ?_
  refine z_iload_n (pc' := 2) dX6_remove_1 rfl rfl rfl ?_
  refine z_iload_n (pc' := 3) dX6_remove_2 rfl rfl rfl ?_
  refine z_iload_n (pc' := 4) dX6_remove_3 rfl rfl rfl ?_
  obtain ⟨r1, S2, hc3, hF⟩ := z_bne hF
  refine k_X6_leafOf (F := 5) (L := 120) (pc' := 7) hc3 hst zw_124 rfl rfl (by decide) (by decide) (by decide) dX6_remove_4 rfl ?_
  refine z_istore (pc' := 9) dX6_remove_7 (by decide) rfl rfl ?_
  refine z_aload_n (pc' := 10) dX6_remove_9 rfl rfl rfl ?_
  refine z_iload (pc' := 12) dX6_remove_10 rfl rfl ?_
  refine z_aload_n (pc' := 13) dX6_remove_12 rfl rfl rfl ?_
  refine z_iload_n (pc' := 14) dX6_remove_13 rfl rfl rfl ?_
  refine z_iload_n (pc' := 15) dX6_remove_14 rfl rfl rfl ?_
  refine z_iload_n (pc' := 16) dX6_remove_15 rfl rfl rfl ?_
  obtain ⟨r4, S5, hc6, hF⟩ := z_bne hF
  refine k_X6_find (F := 5) (L := 120) (pc' := 19) hc6 hst zw_126 rfl rfl (by decide) (by decide) (Nat.le_of_ble_eq_true rfl) dX6_remove_16 rfl ?_
  obtain ⟨S8, hc9, hF⟩ := z_boe hF
  refine k_X6_drop (F := 5) (L := 120) (pc' := 22) hc9 hst zw_117 rfl rfl (by decide) (by decide) (by decide) dX6_remove_19 rfl ?_
  refine z_aload_n (pc' := 23) dX6_remove_22 rfl rfl rfl ?_
  refine z_iload (pc' := 25) dX6_remove_23 rfl rfl ?_
  obtain ⟨S11, hc12, hF⟩ := z_boe hF
  refine k_X6_lookAt (F := 5) (L := 120) (pc' := 28) hc12 hst zw_127 rfl rfl (by decide) (by decide) (by decide) dX6_remove_25 rfl ?_
  exact z_return rfl dX6_remove_28 (Option.some.inj hF).symm
theorem ok_X6_remove : z_okV I_X6_remove 3 := ⟨⟨z_Gin (List.mem_of_getElem? (i := 1095) (by decide +kernel)) rfl, z_Gin (List.mem_of_getElem? (i := 64) (by decide +kernel)) rfl, z_Gin (List.mem_of_getElem? (i := 98) (by decide +kernel)) rfl, z_Gin (List.mem_of_getElem? (i := 1096) (by decide +kernel)) rfl⟩, by decide, by decide, by decide +kernel⟩
theorem k_X6_remove {l : Launch} {I : z_I} {R : Room} {B : Nat} {p1 : Int32} {p2 : Int32} {p3 : Int32} {q : z_O × z_S} {pc pc' : Nat} {ls : List (Option Value)} {st : List Value} {S S1 : z_S} {idx F L : Nat}  (hF : F_X6_remove B p1 p2 p3 S = some (.inl none, S1)) (hst : l.stackTraces = false) (w : Cond.methodLink I.1.cls idx yX6_remove ∈ z_G) (hRF : R.frames = F) (hRL : R.locals = L) (h1 : 6 ≤ F) (h2 : 144 ≤ L) (hs : (st.map fun v => v.category).sum ≤ 8) (d : decode I.2.1 pc = .ok (.invokevirtual idx, 3)) (hp : pc + 3 = pc') (k : z_W l I R B q pc' ls st S1) : z_W l I R B q pc ls (.int p3 :: .int p2 :: .int p1 :: .ref 60 :: st) S := z_callV (Y := I_X6_remove) (As := [.int p1, .int p2, .int p3]) (st := st) (r := none) (S1 := S1) (c_X6_remove (q := (.inl none, S1)) hst hF) ok_X6_remove w (ci := 6) rfl is_6_60.1 is_6_60.2 rfl ⟨by rw [hRF]; exact h1, by rw [hRL]; exact h2⟩ hs d hp rfl k

abbrev I_X6_resize : z_I := (yX6_resize, cX6_resize, 6, none)
abbrev R_X6_resize (q : z_O × z_S) : Room := { frames := 6, locals := 149, cells := z_mc q.1, slots := 6 * z_mc q.1 }
def F_X6_resize_100 (B : Nat)   (S : z_S) : Option (z_O × z_S) :=
  some (.inl none, S)
set_option maxRecDepth 20000 in
set_option maxHeartbeats 16000000 in
theorem ok_X6_resize_100 {l : Launch} {B : Nat} {q : z_O × z_S} (hst : l.stackTraces = false) : ∀ (S : z_S), F_X6_resize_100 B S = some q → z_W l I_X6_resize (R_X6_resize q) B q 100 [none, none, none, none, none, none] [] S := by
  intro S hF
  unfold F_X6_resize_100 at hF
  exact z_return rfl dX6_resize_100 (Option.some.inj hF).symm
def F_X6_resize_13 (B : Nat)   (S : z_S) : Option (z_O × z_S) :=
  some (.inl none, S)
set_option maxRecDepth 20000 in
set_option maxHeartbeats 16000000 in
theorem ok_X6_resize_13 {l : Launch} {B : Nat} {q : z_O × z_S} (hst : l.stackTraces = false) : ∀ (S : z_S), F_X6_resize_13 B S = some q → z_W l I_X6_resize (R_X6_resize q) B q 13 [none, none, none, none, none, none] [] S := by
  intro S hF
  unfold F_X6_resize_13 at hF
  exact z_return rfl dX6_resize_13 (Option.some.inj hF).symm
def F_X6_resize (B : Nat) (p1 : Int32) (p2 : Int32) (p3 : Int32) (p4 : Int32) (S : z_S) : Option (z_O × z_S) :=
  if (S.2.1 60 7) = 0 then
    if p3 = p4 then
      F_X6_resize_13 B S
    else
      if p3 = 0 then
        z_bo (F_X6_put B p1 p2 0 p4 0 S) fun S21 =>
        (F_X6_resize_100 B S21)
      else
        if p4 = 0 then
          z_bo (F_X6_remove B p1 p2 0 S) fun S17 =>
          (F_X6_resize_100 B S17)
        else
          z_bn (F_X6_leafOf B p1 p2 0 S) fun r1 S2 =>
          (z_bn (F_X6_find B p1 p2 0 S2) fun r4 S5 =>
          (z_gd (z_inb ((9228 + (16 * r1)) + r4) 25366) (
          z_lt (z_ua S5 61 (upd (S5.1 61) (z_ix ((9228 + (16 * r1)) + r4)) p4)) fun S8 =>
          (if p4 ≤ p3 then
            z_bo (F_X6_lookAt B r1 S8) fun S10 =>
            (F_X6_resize_100 B S10)
          else
            z_bo (F_X6_settle B r1 S8) fun S13 =>
            (F_X6_resize_100 B S13)))))
  else
    F_X6_resize_13 B S
set_option maxRecDepth 20000 in
set_option maxHeartbeats 16000000 in
theorem c_X6_resize {l : Launch} {B : Nat} {p1 : Int32} {p2 : Int32} {p3 : Int32} {p4 : Int32} {S : z_S} {q : z_O × z_S} (hst : l.stackTraces = false) (hF : F_X6_resize B p1 p2 p3 p4 S = some q) : z_Met l I_X6_resize 6 149 B [.ref 60, .int p1, .int p2, .int p3, .int p4] S q.1 q.2 := by
  refine z_enter (ls := [some (.ref 60), some (.int p1), some (.int p2), some (.int p3), some (.int p4), none]) (n := 1) (by decide) rfl (Nat.le_of_ble_eq_true rfl) hst ?_
  unfold F_X6_resize at hF
  refine z_aload_n (pc' := 1) dX6_resize_0 rfl rfl rfl ?_
  refine gf_X6_51 (pc' := 4) rfl is_6_60 dX6_resize_1 rfl ?_
  refine z_if_ne (tgt := 13) (pc' := 7) dX6_resize_4 (by decide) rfl (fun c25 => ?_) (fun c25 => ?_)
  · rw [if_neg c25] at hF
    refine z_wk (ls' := [none, none, none, none, none, none]) (z_len1 (z_len1 (z_len1 (z_len1 (z_len1 (z_len1 z_le0)))))) ?_
    exact (ok_X6_resize_13 hst) _ hF
  · rw [if_pos c25] at hF
    refine z_iload_n (pc' := 8) dX6_resize_7 rfl rfl rfl ?_
    refine z_iload (pc' := 10) dX6_resize_8 rfl rfl ?_
    refine z_icmp_ne (tgt := 14) (pc' := 13) dX6_resize_10 (by decide) rfl (fun c24 => ?_) (fun c24 => ?_)
    · rw [if_neg c24] at hF
      refine z_iload_n (pc' := 15) dX6_resize_14 rfl rfl rfl ?_
      refine z_if_ne (tgt := 31) (pc' := 18) dX6_resize_15 (by decide) rfl (fun c23 => ?_) (fun c23 => ?_)
      · rw [if_neg c23] at hF
        refine z_iload (pc' := 33) dX6_resize_31 rfl rfl ?_
        refine z_if_ne (tgt := 46) (pc' := 36) dX6_resize_33 (by decide) rfl (fun c19 => ?_) (fun c19 => ?_)
        · rw [if_neg c19] at hF
          refine z_aload_n (pc' := 47) dX6_resize_46 rfl rfl rfl ?_
          refine z_iload_n (pc' := 48) dX6_resize_47 rfl rfl rfl ?_
          refine z_iload_n (pc' := 49) dX6_resize_48 rfl rfl rfl ?_
          refine z_iconst (v := 0) (pc' := 50) dX6_resize_49 (by decide) rfl ?_
          obtain ⟨r1, S2, hc3, hF⟩ := z_bne hF
          refine k_X6_leafOf (F := 6) (L := 149) (pc' := 53) hc3 hst zw_124 rfl rfl (by decide) (by decide) (by decide) dX6_resize_50 rfl ?_
          refine z_istore (pc' := 55) dX6_resize_53 (by decide) rfl rfl ?_
          refine z_aload_n (pc' := 56) dX6_resize_55 rfl rfl rfl ?_
          refine gf_X6_7 (b := 61) (pc' := 59) rfl is_6_60 rfl dX6_resize_56 rfl ?_
          refine z_sipush (v := 9228) (pc' := 62) dX6_resize_59 (by decide) rfl ?_
          refine z_bipush (v := 16) (pc' := 64) dX6_resize_62 (by decide) rfl ?_
          refine z_iload (pc' := 66) dX6_resize_64 rfl rfl ?_
          refine z_imul (pc' := 67) dX6_resize_66 rfl ?_
          refine z_iadd (pc' := 68) dX6_resize_67 rfl ?_
          refine z_aload_n (pc' := 69) dX6_resize_68 rfl rfl rfl ?_
          refine z_iload_n (pc' := 70) dX6_resize_69 rfl rfl rfl ?_
          refine z_iload_n (pc' := 71) dX6_resize_70 rfl rfl rfl ?_
          refine z_iconst (v := 0) (pc' := 72) dX6_resize_71 (by decide) rfl ?_
          obtain ⟨r4, S5, hc6, hF⟩ := z_bne hF
          refine k_X6_find (F := 6) (L := 149) (pc' := 75) hc6 hst zw_126 rfl rfl (by decide) (by decide) (Nat.le_of_ble_eq_true rfl) dX6_resize_72 rfl ?_
          refine z_iadd (pc' := 76) dX6_resize_75 rfl ?_
          refine z_iload (pc' := 78) dX6_resize_76 rfl rfl ?_
          obtain ⟨g7, hF⟩ := z_gde hF
          refine z_iastore (pc' := 79) (ar_6_f3 is_6_60) (z_inbe g7) dX6_resize_78 rfl (fun S8 eS8 => ?_)
          replace hF := z_lte hF S8 eS8
          refine z_iload (pc' := 81) dX6_resize_79 rfl rfl ?_
          refine z_iload_n (pc' := 82) dX6_resize_81 rfl rfl rfl ?_
          refine z_icmp_le (tgt := 94) (pc' := 85) dX6_resize_82 (by decide) rfl (fun c15 => ?_) (fun c15 => ?_)
          · rw [if_pos c15] at hF
            refine z_aload_n (pc' := 95) dX6_resize_94 rfl rfl rfl ?_
            refine z_iload (pc' := 97) dX6_resize_95 rfl rfl ?_
            obtain ⟨S10, hc11, hF⟩ := z_boe hF
            refine k_X6_lookAt (F := 6) (L := 149) (pc' := 100) hc11 hst zw_127 rfl rfl (by decide) (by decide) (by decide) dX6_resize_97 rfl ?_
            refine z_wk (ls' := [none, none, none, none, none, none]) (z_len1 (z_len1 (z_len1 (z_len1 (z_len1 (z_len1 z_le0)))))) ?_
            exact (ok_X6_resize_100 hst) _ hF
          · rw [if_neg c15] at hF
            refine z_aload_n (pc' := 86) dX6_resize_85 rfl rfl rfl ?_
            refine z_iload (pc' := 88) dX6_resize_86 rfl rfl ?_
            obtain ⟨S13, hc14, hF⟩ := z_boe hF
            refine k_X6_settle (F := 6) (L := 149) (pc' := 91) hc14 hst zw_125 rfl rfl (by decide) (by decide) (by decide) dX6_resize_88 rfl ?_
            refine z_goto (pc' := 100) dX6_resize_91 (by decide) ?_
            refine z_wk (ls' := [none, none, none, none, none, none]) (z_len1 (z_len1 (z_len1 (z_len1 (z_len1 (z_len1 z_le0)))))) ?_
            exact (ok_X6_resize_100 hst) _ hF
        · rw [if_pos c19] at hF
          refine z_aload_n (pc' := 37) dX6_resize_36 rfl rfl rfl ?_
          refine z_iload_n (pc' := 38) dX6_resize_37 rfl rfl rfl ?_
          refine z_iload_n (pc' := 39) dX6_resize_38 rfl rfl rfl ?_
          refine z_iconst (v := 0) (pc' := 40) dX6_resize_39 (by decide) rfl ?_
          obtain ⟨S17, hc18, hF⟩ := z_boe hF
          refine k_X6_remove (F := 6) (L := 149) (pc' := 43) hc18 hst zw_128 rfl rfl (by decide) (by decide) (by decide) dX6_resize_40 rfl ?_
          refine z_goto (pc' := 100) dX6_resize_43 (by decide) ?_
          refine z_wk (ls' := [none, none, none, none, none, none]) (z_len1 (z_len1 (z_len1 (z_len1 (z_len1 (z_len1 z_le0)))))) ?_
          exact (ok_X6_resize_100 hst) _ hF
      · rw [if_pos c23] at hF
        refine z_aload_n (pc' := 19) dX6_resize_18 rfl rfl rfl ?_
        refine z_iload_n (pc' := 20) dX6_resize_19 rfl rfl rfl ?_
        refine z_iload_n (pc' := 21) dX6_resize_20 rfl rfl rfl ?_
        refine z_iconst (v := 0) (pc' := 22) dX6_resize_21 (by decide) rfl ?_
        refine z_iload (pc' := 24) dX6_resize_22 rfl rfl ?_
        refine z_iconst (v := 0) (pc' := 25) dX6_resize_24 (by decide) rfl ?_
        obtain ⟨S21, hc22, hF⟩ := z_boe hF
        refine k_X6_put (F := 6) (L := 149) (pc' := 28) hc22 hst zw_129 rfl rfl (by decide) (by decide) (by decide) dX6_resize_25 rfl ?_
        refine z_goto (pc' := 100) dX6_resize_28 (by decide) ?_
        refine z_wk (ls' := [none, none, none, none, none, none]) (z_len1 (z_len1 (z_len1 (z_len1 (z_len1 (z_len1 z_le0)))))) ?_
        exact (ok_X6_resize_100 hst) _ hF
    · rw [if_pos c24] at hF
      refine z_wk (ls' := [none, none, none, none, none, none]) (z_len1 (z_len1 (z_len1 (z_len1 (z_len1 (z_len1 z_le0)))))) ?_
      exact (ok_X6_resize_13 hst) _ hF
theorem ok_X6_resize : z_okV I_X6_resize 4 := ⟨⟨z_Gin (List.mem_of_getElem? (i := 1118) (by decide +kernel)) rfl, z_Gin (List.mem_of_getElem? (i := 69) (by decide +kernel)) rfl, z_Gin (List.mem_of_getElem? (i := 98) (by decide +kernel)) rfl, z_Gin (List.mem_of_getElem? (i := 1119) (by decide +kernel)) rfl⟩, by decide, by decide, by decide +kernel⟩
theorem k_X6_resize {l : Launch} {I : z_I} {R : Room} {B : Nat} {p1 : Int32} {p2 : Int32} {p3 : Int32} {p4 : Int32} {q : z_O × z_S} {pc pc' : Nat} {ls : List (Option Value)} {st : List Value} {S S1 : z_S} {idx F L : Nat}  (hF : F_X6_resize B p1 p2 p3 p4 S = some (.inl none, S1)) (hst : l.stackTraces = false) (w : Cond.methodLink I.1.cls idx yX6_resize ∈ z_G) (hRF : R.frames = F) (hRL : R.locals = L) (h1 : 7 ≤ F) (h2 : 174 ≤ L) (hs : (st.map fun v => v.category).sum ≤ 8) (d : decode I.2.1 pc = .ok (.invokevirtual idx, 3)) (hp : pc + 3 = pc') (k : z_W l I R B q pc' ls st S1) : z_W l I R B q pc ls (.int p4 :: .int p3 :: .int p2 :: .int p1 :: .ref 60 :: st) S := z_callV (Y := I_X6_resize) (As := [.int p1, .int p2, .int p3, .int p4]) (st := st) (r := none) (S1 := S1) (c_X6_resize (q := (.inl none, S1)) hst hF) ok_X6_resize w (ci := 6) rfl is_6_60.1 is_6_60.2 rfl ⟨by rw [hRF]; exact h1, by rw [hRL]; exact h2⟩ hs d hp rfl k

