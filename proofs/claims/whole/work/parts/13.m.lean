abbrev I_X4_placeOf : z_I := (yX4_placeOf, cX4_placeOf, 4, some .int)
abbrev R_X4_placeOf (q : z_O × z_S) : Room := { frames := 0, locals := 0, cells := z_mc q.1, slots := 6 * z_mc q.1 }
def F_X4_placeOf_33 (B : Nat) (t : Nat)  (v3 : Int32) (S : z_S) : Option (z_O × z_S) :=
  some (.inl (some v3), S)
set_option maxRecDepth 20000 in
set_option maxHeartbeats 16000000 in
theorem ok_X4_placeOf_33 {l : Launch} {B : Nat} {t : Nat} {q : z_O × z_S} (hst : l.stackTraces = false) (ht : z_is 4 t) : ∀ (v3 : Int32) (S : z_S), F_X4_placeOf_33 B t v3 S = some q → z_W l I_X4_placeOf (R_X4_placeOf q) B q 33 [none, none, none, some (.int v3)] [] S := by
  intro v3 S hF
  unfold F_X4_placeOf_33 at hF
  refine z_iload_n (pc' := 34) dX4_placeOf_33 rfl rfl rfl ?_
  exact z_ireturn rfl dX4_placeOf_34 (Option.some.inj hF).symm
def F_X4_placeOf_2 (B : Nat) (t : Nat)  : Nat → Int32 → Int32 → Int32 → z_S → Option (z_O × z_S)
  | 0, _, _, _, _ => none
  | n + 1, v1, v2, v3, S => z_gd (z_inb v2 B) (
  z_lt (S.1 (t + 3) (z_ix (v2))) fun x2 =>
  (if x2 ≤ v3 then
    F_X4_placeOf_33 B t v3 S
  else
    z_gd (z_inb ((v2 * 6) + v3) (6 * B)) (
    z_lt (S.1 (t + 8) (z_ix ((v2 * 6) + v3))) fun x4 =>
    (if x4 = v1 then
      F_X4_placeOf_33 B t v3 S
    else
      F_X4_placeOf_2 B t n v1 v2 (v3 + 1) S))))
set_option maxRecDepth 20000 in
set_option maxHeartbeats 16000000 in
theorem ok_X4_placeOf_2 {l : Launch} {B : Nat} {t : Nat} {q : z_O × z_S} (hst : l.stackTraces = false) (ht : z_is 4 t) : ∀ (n : Nat) (v1 : Int32) (v2 : Int32) (v3 : Int32) (S : z_S), F_X4_placeOf_2 B t n v1 v2 v3 S = some q → z_W l I_X4_placeOf (R_X4_placeOf q) B q 2 [some (.ref t), some (.int v1), some (.int v2), some (.int v3)] [] S := by
  intro n
  induction n with
  | zero => intro v1 v2 v3 S hF; cases hF
  | succ n ih =>
    intro v1 v2 v3 S hF
    rw [F_X4_placeOf_2] at hF
    refine z_iload_n (pc' := 3) dX4_placeOf_2 rfl rfl rfl ?_
    refine z_aload_n (pc' := 4) dX4_placeOf_3 rfl rfl rfl ?_
    refine gf_X4_22 (b := t + 3) (pc' := 7) rfl ht rfl dX4_placeOf_4 rfl ?_
    refine z_iload_n (pc' := 8) dX4_placeOf_7 rfl rfl rfl ?_
    obtain ⟨g1, hF⟩ := z_gde hF
    refine z_iaload (pc' := 9) (ar_4_f3 ht) (z_inbe g1) dX4_placeOf_8 rfl ?_
    refine z_topi (fun x2 ex2 => ?_)
    replace hF := z_lte hF x2 ex2
    refine z_icmp_ge (tgt := 33) (pc' := 12) dX4_placeOf_9 (by decide) rfl (fun c6 => ?_) (fun c6 => ?_)
    · rw [if_pos c6] at hF
      refine z_wk (ls' := [none, none, none, some (.int v3)]) (z_len1 (z_len1 (z_len1 (z_lec rfl z_le0)))) ?_
      exact (ok_X4_placeOf_33 hst ht) _ _ hF
    · rw [if_neg c6] at hF
      refine z_aload_n (pc' := 13) dX4_placeOf_12 rfl rfl rfl ?_
      refine gf_X4_37 (b := t + 8) (pc' := 16) rfl ht rfl dX4_placeOf_13 rfl ?_
      refine z_iload_n (pc' := 17) dX4_placeOf_16 rfl rfl rfl ?_
      refine z_bipush (v := 6) (pc' := 19) dX4_placeOf_17 (by decide) rfl ?_
      refine z_imul (pc' := 20) dX4_placeOf_19 rfl ?_
      refine z_iload_n (pc' := 21) dX4_placeOf_20 rfl rfl rfl ?_
      refine z_iadd (pc' := 22) dX4_placeOf_21 rfl ?_
      obtain ⟨g3, hF⟩ := z_gde hF
      refine z_iaload (pc' := 23) (ar_4_f8 ht) (z_inbe g3) dX4_placeOf_22 rfl ?_
      refine z_topi (fun x4 ex4 => ?_)
      replace hF := z_lte hF x4 ex4
      refine z_iload_n (pc' := 24) dX4_placeOf_23 rfl rfl rfl ?_
      refine z_icmp_eq (tgt := 33) (pc' := 27) dX4_placeOf_24 (by decide) rfl (fun c5 => ?_) (fun c5 => ?_)
      · rw [if_pos c5] at hF
        refine z_wk (ls' := [none, none, none, some (.int v3)]) (z_len1 (z_len1 (z_len1 (z_lec rfl z_le0)))) ?_
        exact (ok_X4_placeOf_33 hst ht) _ _ hF
      · rw [if_neg c5] at hF
        refine z_iinc (v := v3 + 1) (pc' := 30) dX4_placeOf_27 rfl rfl (by decide) rfl rfl ?_
        refine z_goto (pc' := 2) dX4_placeOf_30 (by decide) ?_
        refine z_wk (ls' := [some (.ref t), some (.int v1), some (.int v2), some (.int (v3 + 1))]) (z_lec rfl (z_lec rfl (z_lec rfl (z_lec rfl z_le0)))) ?_
        exact ih _ _ _ _ hF
def F_X4_placeOf (B : Nat) (t : Nat) (p1 : Int32) (p2 : Int32) (S : z_S) : Option (z_O × z_S) :=
  F_X4_placeOf_2 B t z_n p1 p2 0 S
set_option maxRecDepth 20000 in
set_option maxHeartbeats 16000000 in
theorem c_X4_placeOf {l : Launch} {B : Nat} {t : Nat} {p1 : Int32} {p2 : Int32} {S : z_S} {q : z_O × z_S} (hst : l.stackTraces = false) (ht : z_is 4 t) (hF : F_X4_placeOf B t p1 p2 S = some q) : z_Met l I_X4_placeOf 0 0 B [.ref t, .int p1, .int p2] S q.1 q.2 := by
  refine z_enter (ls := [some (.ref t), some (.int p1), some (.int p2), none]) (n := 1) (by decide) rfl (Nat.le_of_ble_eq_true rfl) hst ?_
  unfold F_X4_placeOf at hF
  refine z_iconst (v := 0) (pc' := 1) dX4_placeOf_0 (by decide) rfl ?_
  refine z_istore_n (pc' := 2) dX4_placeOf_1 rfl (by decide) rfl rfl ?_
  refine z_wk (ls' := [some (.ref t), some (.int p1), some (.int p2), some (.int 0)]) (z_lec rfl (z_lec rfl (z_lec rfl (z_lec rfl z_le0)))) ?_
  exact (ok_X4_placeOf_2 hst ht z_n) _ _ _ _ hF
theorem ok_X4_placeOf : z_okV I_X4_placeOf 2 := ⟨⟨z_Gin (List.mem_of_getElem? (i := 545) (by decide +kernel)) rfl, z_Gin (List.mem_of_getElem? (i := 18) (by decide +kernel)) rfl, z_Gin (List.mem_of_getElem? (i := 92) (by decide +kernel)) rfl, z_Gin (List.mem_of_getElem? (i := 546) (by decide +kernel)) rfl⟩, by decide, by decide, by decide +kernel⟩
theorem k_X4_placeOf {l : Launch} {I : z_I} {R : Room} {B : Nat} {t : Nat} {p1 : Int32} {p2 : Int32} {q : z_O × z_S} {pc pc' : Nat} {ls : List (Option Value)} {st : List Value} {S S1 : z_S} {idx F L : Nat} {r : Int32} (ht : z_is 4 t) (hF : F_X4_placeOf B t p1 p2 S = some (.inl (some r), S1)) (hst : l.stackTraces = false) (w : Cond.methodLink I.1.cls idx yX4_placeOf ∈ z_G) (hRF : R.frames = F) (hRL : R.locals = L) (h1 : 1 ≤ F) (h2 : 23 ≤ L) (hs : (st.map fun v => v.category).sum ≤ 8) (d : decode I.2.1 pc = .ok (.invokevirtual idx, 3)) (hp : pc + 3 = pc') (k : z_W l I R B q pc' ls (.int r :: st) S1) : z_W l I R B q pc ls (.int p2 :: .int p1 :: .ref t :: st) S := z_callV (Y := I_X4_placeOf) (As := [.int p1, .int p2]) (st := st) (r := (some r)) (S1 := S1) (c_X4_placeOf (q := (.inl (some r), S1)) hst ht hF) ok_X4_placeOf w (ci := 4) rfl ht.1 ht.2 rfl ⟨by rw [hRF]; exact h1, by rw [hRL]; exact h2⟩ hs d hp rfl k

abbrev I_X4_closeChild : z_I := (yX4_closeChild, cX4_closeChild, 5, none)
abbrev R_X4_closeChild (q : z_O × z_S) : Room := { frames := 1, locals := 68, cells := z_mc q.1, slots := 6 * z_mc q.1 }
def F_X4_closeChild_19 (B : Nat) (t : Nat)   (S : z_S) : Option (z_O × z_S) :=
  some (.inl none, S)
set_option maxRecDepth 20000 in
set_option maxHeartbeats 16000000 in
theorem ok_X4_closeChild_19 {l : Launch} {B : Nat} {t : Nat} {q : z_O × z_S} (hst : l.stackTraces = false) (ht : z_is 4 t) : ∀ (S : z_S), F_X4_closeChild_19 B t S = some q → z_W l I_X4_closeChild (R_X4_closeChild q) B q 19 [none, none, none, none, none] [] S := by
  intro S hF
  unfold F_X4_closeChild_19 at hF
  exact z_return rfl dX4_closeChild_19 (Option.some.inj hF).symm
def F_X4_closeChild (B : Nat) (t : Nat) (p1 : Int32) (p2 : Int32) (S : z_S) : Option (z_O × z_S) :=
  z_gd (z_inb p1 B) (
  z_lt (S.1 (t + 3) (z_ix (p1))) fun x2 =>
  (if p2 < 0 then
    F_X4_closeChild_19 B t S
  else
    if 0 ≤ ((x2 - p2) - 1) then
      z_gd (z_cok (((p1 * 6) + p2) + 1) ((p1 * 6) + p2) ((x2 - p2) - 1) (6 * B) (6 * B)) (
      z_lt (z_ua S (t + 8) (va_cpy (S.1 (t + 8)) (S.1 (t + 8)) (z_ix (((p1 * 6) + p2) + 1)) (z_ix ((p1 * 6) + p2)) (z_ix ((x2 - p2) - 1)))) fun S4 =>
      (z_gd (z_inb p1 B) (
      z_lt (S4.1 (t + 3) (z_ix (p1))) fun x6 =>
      (z_gd (z_inb p1 B) (
      z_lt (z_ua S4 (t + 3) (upd (S4.1 (t + 3)) (z_ix (p1)) (x6 - 1))) fun S8 =>
      (some (.inl none, S8)))))))
    else
      F_X4_closeChild_19 B t S))
set_option maxRecDepth 20000 in
set_option maxHeartbeats 16000000 in
theorem c_X4_closeChild {l : Launch} {B : Nat} {t : Nat} {p1 : Int32} {p2 : Int32} {S : z_S} {q : z_O × z_S} (hst : l.stackTraces = false) (ht : z_is 4 t) (hF : F_X4_closeChild B t p1 p2 S = some q) : z_Met l I_X4_closeChild 1 68 B [.ref t, .int p1, .int p2] S q.1 q.2 := by
  refine z_enter (ls := [some (.ref t), some (.int p1), some (.int p2), none, none]) (n := 2) (by decide) rfl (Nat.le_of_ble_eq_true rfl) hst ?_
  unfold F_X4_closeChild at hF
  refine z_aload_n (pc' := 1) dX4_closeChild_0 rfl rfl rfl ?_
  refine gf_X4_22 (b := t + 3) (pc' := 4) rfl ht rfl dX4_closeChild_1 rfl ?_
  refine z_iload_n (pc' := 5) dX4_closeChild_4 rfl rfl rfl ?_
  obtain ⟨g1, hF⟩ := z_gde hF
  refine z_iaload (pc' := 6) (ar_4_f3 ht) (z_inbe g1) dX4_closeChild_5 rfl ?_
  refine z_topi (fun x2 ex2 => ?_)
  replace hF := z_lte hF x2 ex2
  refine z_iload_n (pc' := 7) dX4_closeChild_6 rfl rfl rfl ?_
  refine z_isub (pc' := 8) dX4_closeChild_7 rfl ?_
  refine z_iconst (v := 1) (pc' := 9) dX4_closeChild_8 (by decide) rfl ?_
  refine z_isub (pc' := 10) dX4_closeChild_9 rfl ?_
  refine z_istore_n (pc' := 11) dX4_closeChild_10 rfl (by decide) rfl rfl ?_
  refine z_iload_n (pc' := 12) dX4_closeChild_11 rfl rfl rfl ?_
  refine z_if_lt (tgt := 19) (pc' := 15) dX4_closeChild_12 (by decide) rfl (fun c10 => ?_) (fun c10 => ?_)
  · rw [if_pos c10] at hF
    refine z_wk (ls' := [none, none, none, none, none]) (z_len1 (z_len1 (z_len1 (z_len1 (z_len1 z_le0))))) ?_
    exact (ok_X4_closeChild_19 hst ht) _ hF
  · rw [if_neg c10] at hF
    refine z_iload_n (pc' := 16) dX4_closeChild_15 rfl rfl rfl ?_
    refine z_if_ge (tgt := 20) (pc' := 19) dX4_closeChild_16 (by decide) rfl (fun c9 => ?_) (fun c9 => ?_)
    · rw [if_pos c9] at hF
      refine z_iload_n (pc' := 21) dX4_closeChild_20 rfl rfl rfl ?_
      refine z_bipush (v := 6) (pc' := 23) dX4_closeChild_21 (by decide) rfl ?_
      refine z_imul (pc' := 24) dX4_closeChild_23 rfl ?_
      refine z_iload_n (pc' := 25) dX4_closeChild_24 rfl rfl rfl ?_
      refine z_iadd (pc' := 26) dX4_closeChild_25 rfl ?_
      refine z_istore (pc' := 28) dX4_closeChild_26 (by decide) rfl rfl ?_
      refine z_aload_n (pc' := 29) dX4_closeChild_28 rfl rfl rfl ?_
      refine gf_X4_37 (b := t + 8) (pc' := 32) rfl ht rfl dX4_closeChild_29 rfl ?_
      refine z_iload (pc' := 34) dX4_closeChild_32 rfl rfl ?_
      refine z_iconst (v := 1) (pc' := 35) dX4_closeChild_34 (by decide) rfl ?_
      refine z_iadd (pc' := 36) dX4_closeChild_35 rfl ?_
      refine z_aload_n (pc' := 37) dX4_closeChild_36 rfl rfl rfl ?_
      refine gf_X4_37 (b := t + 8) (pc' := 40) rfl ht rfl dX4_closeChild_37 rfl ?_
      refine z_iload (pc' := 42) dX4_closeChild_40 rfl rfl ?_
      refine z_iload_n (pc' := 43) dX4_closeChild_42 rfl rfl rfl ?_
      obtain ⟨g3, hF⟩ := z_gde hF
      refine z_copy (pc' := 46) (ar_4_f8 ht) (ar_4_f8 ht) (by decide) g3 zw_4 zw_1 zw_2 zw_3 ⟨by show (_ : Nat) ≤ 1; decide, by show (_ : Nat) ≤ 68; decide⟩ dX4_closeChild_43 rfl (fun S4 eS4 => ?_)
      replace hF := z_lte hF S4 eS4
      refine z_aload_n (pc' := 47) dX4_closeChild_46 rfl rfl rfl ?_
      refine gf_X4_22 (b := t + 3) (pc' := 50) rfl ht rfl dX4_closeChild_47 rfl ?_
      refine z_iload_n (pc' := 51) dX4_closeChild_50 rfl rfl rfl ?_
      refine z_dup2 (pc' := 52) dX4_closeChild_51 rfl ?_
      obtain ⟨g5, hF⟩ := z_gde hF
      refine z_iaload (pc' := 53) (ar_4_f3 ht) (z_inbe g5) dX4_closeChild_52 rfl ?_
      refine z_topi (fun x6 ex6 => ?_)
      replace hF := z_lte hF x6 ex6
      refine z_iconst (v := 1) (pc' := 54) dX4_closeChild_53 (by decide) rfl ?_
      refine z_isub (pc' := 55) dX4_closeChild_54 rfl ?_
      obtain ⟨g7, hF⟩ := z_gde hF
      refine z_iastore (pc' := 56) (ar_4_f3 ht) (z_inbe g7) dX4_closeChild_55 rfl (fun S8 eS8 => ?_)
      replace hF := z_lte hF S8 eS8
      exact z_return rfl dX4_closeChild_56 (Option.some.inj hF).symm
    · rw [if_neg c9] at hF
      refine z_wk (ls' := [none, none, none, none, none]) (z_len1 (z_len1 (z_len1 (z_len1 (z_len1 z_le0))))) ?_
      exact (ok_X4_closeChild_19 hst ht) _ hF
theorem ok_X4_closeChild : z_okV I_X4_closeChild 2 := ⟨⟨z_Gin (List.mem_of_getElem? (i := 553) (by decide +kernel)) rfl, z_Gin (List.mem_of_getElem? (i := 20) (by decide +kernel)) rfl, z_Gin (List.mem_of_getElem? (i := 92) (by decide +kernel)) rfl, z_Gin (List.mem_of_getElem? (i := 554) (by decide +kernel)) rfl⟩, by decide, by decide, by decide +kernel⟩
theorem k_X4_closeChild {l : Launch} {I : z_I} {R : Room} {B : Nat} {t : Nat} {p1 : Int32} {p2 : Int32} {q : z_O × z_S} {pc pc' : Nat} {ls : List (Option Value)} {st : List Value} {S S1 : z_S} {idx F L : Nat} (ht : z_is 4 t) (hF : F_X4_closeChild B t p1 p2 S = some (.inl none, S1)) (hst : l.stackTraces = false) (w : Cond.methodLink I.1.cls idx yX4_closeChild ∈ z_G) (hRF : R.frames = F) (hRL : R.locals = L) (h1 : 2 ≤ F) (h2 : 92 ≤ L) (hs : (st.map fun v => v.category).sum ≤ 8) (d : decode I.2.1 pc = .ok (.invokevirtual idx, 3)) (hp : pc + 3 = pc') (k : z_W l I R B q pc' ls st S1) : z_W l I R B q pc ls (.int p2 :: .int p1 :: .ref t :: st) S := z_callV (Y := I_X4_closeChild) (As := [.int p1, .int p2]) (st := st) (r := none) (S1 := S1) (c_X4_closeChild (q := (.inl none, S1)) hst ht hF) ok_X4_closeChild w (ci := 4) rfl ht.1 ht.2 rfl ⟨by rw [hRF]; exact h1, by rw [hRL]; exact h2⟩ hs d hp rfl k

abbrev I_X4_shiftChild : z_I := (yX4_shiftChild, cX4_shiftChild, 6, none)
abbrev R_X4_shiftChild (q : z_O × z_S) : Room := { frames := 2, locals := 93, cells := z_mc q.1, slots := 6 * z_mc q.1 }
def F_X4_shiftChild (B : Nat) (t : Nat) (p1 : Int32) (p2 : Int32) (p3 : Int32) (p4 : Int32) (S : z_S) : Option (z_O × z_S) :=
  z_gd (z_inb ((p1 * 6) + p2) (6 * B)) (
  z_lt (S.1 (t + 8) (z_ix ((p1 * 6) + p2))) fun x2 =>
  (z_bo (F_X4_closeChild B t p1 p2 S) fun S4 =>
  (z_bo (F_X4_openChild B t p3 p4 x2 S4) fun S7 =>
  (some (.inl none, S7)))))
set_option maxRecDepth 20000 in
set_option maxHeartbeats 16000000 in
theorem c_X4_shiftChild {l : Launch} {B : Nat} {t : Nat} {p1 : Int32} {p2 : Int32} {p3 : Int32} {p4 : Int32} {S : z_S} {q : z_O × z_S} (hst : l.stackTraces = false) (ht : z_is 4 t) (hF : F_X4_shiftChild B t p1 p2 p3 p4 S = some q) : z_Met l I_X4_shiftChild 2 93 B [.ref t, .int p1, .int p2, .int p3, .int p4] S q.1 q.2 := by
  refine z_enter (ls := [some (.ref t), some (.int p1), some (.int p2), some (.int p3), some (.int p4), none]) (n := 1) (by decide) rfl (Nat.le_of_ble_eq_true rfl) hst ?_
  unfold F_X4_shiftChild at hF
  refine z_aload_n (pc' := 1) dX4_shiftChild_0 rfl rfl rfl ?_
  refine gf_X4_37 (b := t + 8) (pc' := 4) rfl ht rfl dX4_shiftChild_1 rfl ?_
  refine z_iload_n (pc' := 5) dX4_shiftChild_4 rfl rfl rfl ?_
  refine z_bipush (v := 6) (pc' := 7) dX4_shiftChild_5 (by decide) rfl ?_
  refine z_imul (pc' := 8) dX4_shiftChild_7 rfl ?_
  refine z_iload_n (pc' := 9) dX4_shiftChild_8 rfl rfl rfl ?_
  refine z_iadd (pc' := 10) dX4_shiftChild_9 rfl ?_
  obtain ⟨g1, hF⟩ := z_gde hF
  refine z_iaload (pc' := 11) (ar_4_f8 ht) (z_inbe g1) dX4_shiftChild_10 rfl ?_
  refine z_topi (fun x2 ex2 => ?_)
  replace hF := z_lte hF x2 ex2
  refine z_istore (pc' := 13) dX4_shiftChild_11 (by decide) rfl rfl ?_
  refine z_aload_n (pc' := 14) dX4_shiftChild_13 rfl rfl rfl ?_
  refine z_iload_n (pc' := 15) dX4_shiftChild_14 rfl rfl rfl ?_
  refine z_iload_n (pc' := 16) dX4_shiftChild_15 rfl rfl rfl ?_
  obtain ⟨S4, hc5, hF⟩ := z_boe hF
  refine k_X4_closeChild (F := 2) (L := 93) (pc' := 19) ht hc5 hst zw_29 rfl rfl (by decide) (by decide) (by decide) dX4_shiftChild_16 rfl ?_
  refine z_aload_n (pc' := 20) dX4_shiftChild_19 rfl rfl rfl ?_
  refine z_iload_n (pc' := 21) dX4_shiftChild_20 rfl rfl rfl ?_
  refine z_iload (pc' := 23) dX4_shiftChild_21 rfl rfl ?_
  refine z_iload (pc' := 25) dX4_shiftChild_23 rfl rfl ?_
  obtain ⟨S7, hc8, hF⟩ := z_boe hF
  refine k_X4_openChild (F := 2) (L := 93) (pc' := 28) ht hc8 hst zw_28 rfl rfl (by decide) (by decide) (by decide) dX4_shiftChild_25 rfl ?_
  exact z_return rfl dX4_shiftChild_28 (Option.some.inj hF).symm
theorem ok_X4_shiftChild : z_okV I_X4_shiftChild 4 := ⟨⟨z_Gin (List.mem_of_getElem? (i := 549) (by decide +kernel)) rfl, z_Gin (List.mem_of_getElem? (i := 19) (by decide +kernel)) rfl, z_Gin (List.mem_of_getElem? (i := 92) (by decide +kernel)) rfl, z_Gin (List.mem_of_getElem? (i := 550) (by decide +kernel)) rfl⟩, by decide, by decide, by decide +kernel⟩
theorem k_X4_shiftChild {l : Launch} {I : z_I} {R : Room} {B : Nat} {t : Nat} {p1 : Int32} {p2 : Int32} {p3 : Int32} {p4 : Int32} {q : z_O × z_S} {pc pc' : Nat} {ls : List (Option Value)} {st : List Value} {S S1 : z_S} {idx F L : Nat} (ht : z_is 4 t) (hF : F_X4_shiftChild B t p1 p2 p3 p4 S = some (.inl none, S1)) (hst : l.stackTraces = false) (w : Cond.methodLink I.1.cls idx yX4_shiftChild ∈ z_G) (hRF : R.frames = F) (hRL : R.locals = L) (h1 : 3 ≤ F) (h2 : 118 ≤ L) (hs : (st.map fun v => v.category).sum ≤ 8) (d : decode I.2.1 pc = .ok (.invokevirtual idx, 3)) (hp : pc + 3 = pc') (k : z_W l I R B q pc' ls st S1) : z_W l I R B q pc ls (.int p4 :: .int p3 :: .int p2 :: .int p1 :: .ref t :: st) S := z_callV (Y := I_X4_shiftChild) (As := [.int p1, .int p2, .int p3, .int p4]) (st := st) (r := none) (S1 := S1) (c_X4_shiftChild (q := (.inl none, S1)) hst ht hF) ok_X4_shiftChild w (ci := 4) rfl ht.1 ht.2 rfl ⟨by rw [hRF]; exact h1, by rw [hRL]; exact h2⟩ hs d hp rfl k

abbrev I_X4_addNode : z_I := (yX4_addNode, cX4_addNode, 9, some .boolean)
abbrev R_X4_addNode (q : z_O × z_S) : Room := { frames := 3, locals := 118, cells := z_mc q.1, slots := 6 * z_mc q.1 }
def F_X4_addNode_107 (B : Nat) (t : Nat) (k8 : Int32 → Int32 → Int32 → z_S → Option (z_O × z_S)) : Nat → Int32 → Int32 → Int32 → Int32 → z_S → Option (z_O × z_S)
  | 0, _, _, _, _, _ => none
  | n + 1, v5, v6, v7, v8, S => if 3 ≤ v8 then
    k8 v7 v6 (v5 + 1) S
  else
    z_gd (z_inb v6 B) (
    z_lt (S.1 (t + 3) (z_ix (v6))) fun x2 =>
    (z_bo (F_X4_shiftChild B t v6 (x2 - 1) v7 0 S) fun S4 =>
    (F_X4_addNode_107 B t k8 n v5 v6 v7 (v8 + 1) S4)))
set_option maxRecDepth 20000 in
set_option maxHeartbeats 16000000 in
theorem ok_X4_addNode_107 {l : Launch} {B : Nat} {t : Nat} {q : z_O × z_S} (hst : l.stackTraces = false) (ht : z_is 4 t) {k8 : Int32 → Int32 → Int32 → z_S → Option (z_O × z_S)} (hk8 : ∀ (v3 : Int32) (v4 : Int32) (v5 : Int32) (S : z_S), k8 v3 v4 v5 S = some q → z_W l I_X4_addNode (R_X4_addNode q) B q 8 [some (.ref t), none, none, some (.int v3), some (.int v4), some (.int v5), none, none, none] [] S) : ∀ (n : Nat) (v5 : Int32) (v6 : Int32) (v7 : Int32) (v8 : Int32) (S : z_S), F_X4_addNode_107 B t k8 n v5 v6 v7 v8 S = some q → z_W l I_X4_addNode (R_X4_addNode q) B q 107 [some (.ref t), none, none, none, none, some (.int v5), some (.int v6), some (.int v7), some (.int v8)] [] S := by
  intro n
  induction n with
  | zero => intro v5 v6 v7 v8 S hF; cases hF
  | succ n ih =>
    intro v5 v6 v7 v8 S hF
    rw [F_X4_addNode_107] at hF
    refine z_iload (pc' := 109) dX4_addNode_107 rfl rfl ?_
    refine z_iconst (v := 3) (pc' := 110) dX4_addNode_109 (by decide) rfl ?_
    refine z_icmp_ge (tgt := 137) (pc' := 113) dX4_addNode_110 (by decide) rfl (fun c6 => ?_) (fun c6 => ?_)
    · rw [if_pos c6] at hF
      refine z_iload (pc' := 139) dX4_addNode_137 rfl rfl ?_
      refine z_istore_n (pc' := 140) dX4_addNode_139 rfl (by decide) rfl rfl ?_
      refine z_iload (pc' := 142) dX4_addNode_140 rfl rfl ?_
      refine z_istore (pc' := 144) dX4_addNode_142 (by decide) rfl rfl ?_
      refine z_iinc (v := v5 + 1) (pc' := 147) dX4_addNode_144 rfl rfl (by decide) rfl rfl ?_
      refine z_goto (pc' := 8) dX4_addNode_147 (by decide) ?_
      refine z_wk (ls' := [some (.ref t), none, none, some (.int v7), some (.int v6), some (.int (v5 + 1)), none, none, none]) (z_lec rfl (z_len1 (z_len1 (z_lec rfl (z_lec rfl (z_lec rfl (z_len1 (z_len1 (z_len1 z_le0))))))))) ?_
      exact hk8 _ _ _ _ hF
    · rw [if_neg c6] at hF
      refine z_aload_n (pc' := 114) dX4_addNode_113 rfl rfl rfl ?_
      refine z_iload (pc' := 116) dX4_addNode_114 rfl rfl ?_
      refine z_aload_n (pc' := 117) dX4_addNode_116 rfl rfl rfl ?_
      refine gf_X4_22 (b := t + 3) (pc' := 120) rfl ht rfl dX4_addNode_117 rfl ?_
      refine z_iload (pc' := 122) dX4_addNode_120 rfl rfl ?_
      obtain ⟨g1, hF⟩ := z_gde hF
      refine z_iaload (pc' := 123) (ar_4_f3 ht) (z_inbe g1) dX4_addNode_122 rfl ?_
      refine z_topi (fun x2 ex2 => ?_)
      replace hF := z_lte hF x2 ex2
      refine z_iconst (v := 1) (pc' := 124) dX4_addNode_123 (by decide) rfl ?_
      refine z_isub (pc' := 125) dX4_addNode_124 rfl ?_
      refine z_iload (pc' := 127) dX4_addNode_125 rfl rfl ?_
      refine z_iconst (v := 0) (pc' := 128) dX4_addNode_127 (by decide) rfl ?_
      obtain ⟨S4, hc5, hF⟩ := z_boe hF
      refine k_X4_shiftChild (F := 3) (L := 118) (pc' := 131) ht hc5 hst zw_33 rfl rfl (by decide) (by decide) (by decide) dX4_addNode_128 rfl ?_
      refine z_iinc (v := v8 + 1) (pc' := 134) dX4_addNode_131 rfl rfl (by decide) rfl rfl ?_
      refine z_goto (pc' := 107) dX4_addNode_134 (by decide) ?_
      refine z_wk (ls' := [some (.ref t), none, none, none, none, some (.int v5), some (.int v6), some (.int v7), some (.int (v8 + 1))]) (z_lec rfl (z_len1 (z_len1 (z_len1 (z_len1 (z_lec rfl (z_lec rfl (z_lec rfl (z_lec rfl z_le0))))))))) ?_
      exact ih _ _ _ _ _ hF
def F_X4_addNode_8 (B : Nat) (t : Nat)  : Nat → Int32 → Int32 → Int32 → z_S → Option (z_O × z_S)
  | 0, _, _, _, _ => none
  | n + 1, v3, v4, v5, S => if 8 ≤ v5 then
    z_gd (z_b01 0) (some (.inl (some 0), S))
  else
    z_bo (F_X4_joinRow B t v3 v4 S) fun S3 =>
    (z_gd (z_inb v4 B) (
    z_lt (S3.1 (t + 5) (z_ix (v4))) fun x6 =>
    (if x6 = (-1) then
      z_bn (F_X4_addRoot B t v4 v3 S3) fun r26 S27 =>
      (z_gd (z_b01 r26) (some (.inl (some r26), S27)))
    else
      z_bn (F_X4_placeOf B t v4 x6 S3) fun r7 S8 =>
      (z_bo (F_X4_openChild B t x6 (r7 + 1) v3 S8) fun S11 =>
      (z_gd (z_inb x6 B) (
      z_lt (S11.1 (t + 3) (z_ix (x6))) fun x14 =>
      (if 5 < x14 then
        z_bn (F_X4_takeBlock B t 3 S11) fun r15 S16 =>
        (if r15 = (-1) then
          z_gd (z_b01 0) (some (.inl (some 0), S16))
        else
          z_gd (z_inb x6 B) (
          z_lt (S16.1 (t + 2) (z_ix (x6))) fun x19 =>
          (z_gd (z_inb r15 B) (
          z_lt (z_ua S16 (t + 2) (upd (S16.1 (t + 2)) (z_ix (r15)) x19)) fun S21 =>
          (F_X4_addNode_107 B t (F_X4_addNode_8 B t n) z_n v5 x6 r15 0 S21)))))
      else
        z_gd (z_b01 1) (some (.inl (some 1), S11)))))))))
set_option maxRecDepth 20000 in
set_option maxHeartbeats 16000000 in
theorem ok_X4_addNode_8 {l : Launch} {B : Nat} {t : Nat} {q : z_O × z_S} (hst : l.stackTraces = false) (ht : z_is 4 t) : ∀ (n : Nat) (v3 : Int32) (v4 : Int32) (v5 : Int32) (S : z_S), F_X4_addNode_8 B t n v3 v4 v5 S = some q → z_W l I_X4_addNode (R_X4_addNode q) B q 8 [some (.ref t), none, none, some (.int v3), some (.int v4), some (.int v5), none, none, none] [] S := by
  intro n
  induction n with
  | zero => intro v3 v4 v5 S hF; cases hF
  | succ n ih =>
    intro v3 v4 v5 S hF
    rw [F_X4_addNode_8] at hF
    refine z_iload (pc' := 10) dX4_addNode_8 rfl rfl ?_
    refine z_bipush (v := 8) (pc' := 12) dX4_addNode_10 (by decide) rfl ?_
    refine z_icmp_ge (tgt := 150) (pc' := 15) dX4_addNode_12 (by decide) rfl (fun c31 => ?_) (fun c31 => ?_)
    · rw [if_pos c31] at hF
      refine z_iconst (v := 0) (pc' := 151) dX4_addNode_150 (by decide) rfl ?_
      obtain ⟨g1, hF⟩ := z_gde hF
      exact z_zreturn rfl (z_b01e g1) dX4_addNode_151 (Option.some.inj hF).symm
    · rw [if_neg c31] at hF
      refine z_aload_n (pc' := 16) dX4_addNode_15 rfl rfl rfl ?_
      refine z_iload_n (pc' := 17) dX4_addNode_16 rfl rfl rfl ?_
      refine z_iload (pc' := 19) dX4_addNode_17 rfl rfl ?_
      obtain ⟨S3, hc4, hF⟩ := z_boe hF
      refine k_X4_joinRow (F := 3) (L := 118) (pc' := 22) ht hc4 hst zw_30 rfl rfl (by decide) (by decide) (by decide) dX4_addNode_19 rfl ?_
      refine z_aload_n (pc' := 23) dX4_addNode_22 rfl rfl rfl ?_
      refine gf_X4_28 (b := t + 5) (pc' := 26) rfl ht rfl dX4_addNode_23 rfl ?_
      refine z_iload (pc' := 28) dX4_addNode_26 rfl rfl ?_
      obtain ⟨g5, hF⟩ := z_gde hF
      refine z_iaload (pc' := 29) (ar_4_f5 ht) (z_inbe g5) dX4_addNode_28 rfl ?_
      refine z_topi (fun x6 ex6 => ?_)
      replace hF := z_lte hF x6 ex6
      refine z_istore (pc' := 31) dX4_addNode_29 (by decide) rfl rfl ?_
      refine z_iload (pc' := 33) dX4_addNode_31 rfl rfl ?_
      refine z_iconst (v := (-1)) (pc' := 34) dX4_addNode_33 (by decide) rfl ?_
      refine z_icmp_ne (tgt := 45) (pc' := 37) dX4_addNode_34 (by decide) rfl (fun c30 => ?_) (fun c30 => ?_)
      · rw [if_neg c30] at hF
        refine z_aload_n (pc' := 46) dX4_addNode_45 rfl rfl rfl ?_
        refine z_iload (pc' := 48) dX4_addNode_46 rfl rfl ?_
        refine z_aload_n (pc' := 49) dX4_addNode_48 rfl rfl rfl ?_
        refine z_iload (pc' := 51) dX4_addNode_49 rfl rfl ?_
        refine z_iload (pc' := 53) dX4_addNode_51 rfl rfl ?_
        obtain ⟨r7, S8, hc9, hF⟩ := z_bne hF
        refine k_X4_placeOf (F := 3) (L := 118) (pc' := 56) ht hc9 hst zw_31 rfl rfl (by decide) (by decide) (Nat.le_of_ble_eq_true rfl) dX4_addNode_53 rfl ?_
        refine z_iconst (v := 1) (pc' := 57) dX4_addNode_56 (by decide) rfl ?_
        refine z_iadd (pc' := 58) dX4_addNode_57 rfl ?_
        refine z_iload_n (pc' := 59) dX4_addNode_58 rfl rfl rfl ?_
        obtain ⟨S11, hc12, hF⟩ := z_boe hF
        refine k_X4_openChild (F := 3) (L := 118) (pc' := 62) ht hc12 hst zw_28 rfl rfl (by decide) (by decide) (by decide) dX4_addNode_59 rfl ?_
        refine z_aload_n (pc' := 63) dX4_addNode_62 rfl rfl rfl ?_
        refine gf_X4_22 (b := t + 3) (pc' := 66) rfl ht rfl dX4_addNode_63 rfl ?_
        refine z_iload (pc' := 68) dX4_addNode_66 rfl rfl ?_
        obtain ⟨g13, hF⟩ := z_gde hF
        refine z_iaload (pc' := 69) (ar_4_f3 ht) (z_inbe g13) dX4_addNode_68 rfl ?_
        refine z_topi (fun x14 ex14 => ?_)
        replace hF := z_lte hF x14 ex14
        refine z_iconst (v := 5) (pc' := 70) dX4_addNode_69 (by decide) rfl ?_
        refine z_icmp_gt (tgt := 75) (pc' := 73) dX4_addNode_70 (by decide) rfl (fun c25 => ?_) (fun c25 => ?_)
        · rw [if_pos c25] at hF
          refine z_aload_n (pc' := 76) dX4_addNode_75 rfl rfl rfl ?_
          refine z_iconst (v := 3) (pc' := 77) dX4_addNode_76 (by decide) rfl ?_
          obtain ⟨r15, S16, hc17, hF⟩ := z_bne hF
          refine k_X4_takeBlock (F := 3) (L := 118) (pc' := 80) ht hc17 hst zw_27 rfl rfl (by decide) (by decide) (by decide) dX4_addNode_77 rfl ?_
          refine z_istore (pc' := 82) dX4_addNode_80 (by decide) rfl rfl ?_
          refine z_iload (pc' := 84) dX4_addNode_82 rfl rfl ?_
          refine z_iconst (v := (-1)) (pc' := 85) dX4_addNode_84 (by decide) rfl ?_
          refine z_icmp_ne (tgt := 90) (pc' := 88) dX4_addNode_85 (by decide) rfl (fun c23 => ?_) (fun c23 => ?_)
          · rw [if_neg c23] at hF
            refine z_aload_n (pc' := 91) dX4_addNode_90 rfl rfl rfl ?_
            refine gf_X4_19 (b := t + 2) (pc' := 94) rfl ht rfl dX4_addNode_91 rfl ?_
            refine z_iload (pc' := 96) dX4_addNode_94 rfl rfl ?_
            refine z_aload_n (pc' := 97) dX4_addNode_96 rfl rfl rfl ?_
            refine gf_X4_19 (b := t + 2) (pc' := 100) rfl ht rfl dX4_addNode_97 rfl ?_
            refine z_iload (pc' := 102) dX4_addNode_100 rfl rfl ?_
            obtain ⟨g18, hF⟩ := z_gde hF
            refine z_iaload (pc' := 103) (ar_4_f2 ht) (z_inbe g18) dX4_addNode_102 rfl ?_
            refine z_topi (fun x19 ex19 => ?_)
            replace hF := z_lte hF x19 ex19
            obtain ⟨g20, hF⟩ := z_gde hF
            refine z_iastore (pc' := 104) (ar_4_f2 ht) (z_inbe g20) dX4_addNode_103 rfl (fun S21 eS21 => ?_)
            replace hF := z_lte hF S21 eS21
            refine z_iconst (v := 0) (pc' := 105) dX4_addNode_104 (by decide) rfl ?_
            refine z_istore (pc' := 107) dX4_addNode_105 (by decide) rfl rfl ?_
            refine z_wk (ls' := [some (.ref t), none, none, none, none, some (.int v5), some (.int x6), some (.int r15), some (.int 0)]) (z_lec rfl (z_len1 (z_len1 (z_len1 (z_len1 (z_lec rfl (z_lec rfl (z_lec rfl (z_lec rfl z_le0))))))))) ?_
            exact (ok_X4_addNode_107 hst ht ih z_n) _ _ _ _ _ hF
          · rw [if_pos c23] at hF
            refine z_iconst (v := 0) (pc' := 89) dX4_addNode_88 (by decide) rfl ?_
            obtain ⟨g22, hF⟩ := z_gde hF
            exact z_zreturn rfl (z_b01e g22) dX4_addNode_89 (Option.some.inj hF).symm
        · rw [if_neg c25] at hF
          refine z_iconst (v := 1) (pc' := 74) dX4_addNode_73 (by decide) rfl ?_
          obtain ⟨g24, hF⟩ := z_gde hF
          exact z_zreturn rfl (z_b01e g24) dX4_addNode_74 (Option.some.inj hF).symm
      · rw [if_pos c30] at hF
        refine z_aload_n (pc' := 38) dX4_addNode_37 rfl rfl rfl ?_
        refine z_iload (pc' := 40) dX4_addNode_38 rfl rfl ?_
        refine z_iload_n (pc' := 41) dX4_addNode_40 rfl rfl rfl ?_
        obtain ⟨r26, S27, hc28, hF⟩ := z_bne hF
        refine k_X4_addRoot (F := 3) (L := 118) (pc' := 44) ht hc28 hst zw_32 rfl rfl (by decide) (by decide) (by decide) dX4_addNode_41 rfl ?_
        obtain ⟨g29, hF⟩ := z_gde hF
        exact z_zreturn rfl (z_b01e g29) dX4_addNode_44 (Option.some.inj hF).symm
def F_X4_addNode (B : Nat) (t : Nat) (p1 : Int32) (p2 : Int32) (S : z_S) : Option (z_O × z_S) :=
  F_X4_addNode_8 B t z_n p1 p2 0 S
set_option maxRecDepth 20000 in
set_option maxHeartbeats 16000000 in
theorem c_X4_addNode {l : Launch} {B : Nat} {t : Nat} {p1 : Int32} {p2 : Int32} {S : z_S} {q : z_O × z_S} (hst : l.stackTraces = false) (ht : z_is 4 t) (hF : F_X4_addNode B t p1 p2 S = some q) : z_Met l I_X4_addNode 3 118 B [.ref t, .int p1, .int p2] S q.1 q.2 := by
  refine z_enter (ls := [some (.ref t), some (.int p1), some (.int p2), none, none, none, none, none, none]) (n := 6) (by decide) rfl (Nat.le_of_ble_eq_true rfl) hst ?_
  unfold F_X4_addNode at hF
  refine z_iload_n (pc' := 1) dX4_addNode_0 rfl rfl rfl ?_
  refine z_istore_n (pc' := 2) dX4_addNode_1 rfl (by decide) rfl rfl ?_
  refine z_iload_n (pc' := 3) dX4_addNode_2 rfl rfl rfl ?_
  refine z_istore (pc' := 5) dX4_addNode_3 (by decide) rfl rfl ?_
  refine z_iconst (v := 0) (pc' := 6) dX4_addNode_5 (by decide) rfl ?_
  refine z_istore (pc' := 8) dX4_addNode_6 (by decide) rfl rfl ?_
  refine z_wk (ls' := [some (.ref t), none, none, some (.int p1), some (.int p2), some (.int 0), none, none, none]) (z_lec rfl (z_len1 (z_len1 (z_lec rfl (z_lec rfl (z_lec rfl (z_len1 (z_len1 (z_len1 z_le0))))))))) ?_
  exact (ok_X4_addNode_8 hst ht z_n) _ _ _ _ hF
theorem ok_X4_addNode : z_okV I_X4_addNode 2 := ⟨⟨z_Gin (List.mem_of_getElem? (i := 529) (by decide +kernel)) rfl, z_Gin (List.mem_of_getElem? (i := 14) (by decide +kernel)) rfl, z_Gin (List.mem_of_getElem? (i := 92) (by decide +kernel)) rfl, z_Gin (List.mem_of_getElem? (i := 530) (by decide +kernel)) rfl⟩, by decide, by decide, by decide +kernel⟩
theorem k_X4_addNode {l : Launch} {I : z_I} {R : Room} {B : Nat} {t : Nat} {p1 : Int32} {p2 : Int32} {q : z_O × z_S} {pc pc' : Nat} {ls : List (Option Value)} {st : List Value} {S S1 : z_S} {idx F L : Nat} {r : Int32} (ht : z_is 4 t) (hF : F_X4_addNode B t p1 p2 S = some (.inl (some r), S1)) (hst : l.stackTraces = false) (w : Cond.methodLink I.1.cls idx yX4_addNode ∈ z_G) (hRF : R.frames = F) (hRL : R.locals = L) (h1 : 4 ≤ F) (h2 : 146 ≤ L) (hs : (st.map fun v => v.category).sum ≤ 8) (d : decode I.2.1 pc = .ok (.invokevirtual idx, 3)) (hp : pc + 3 = pc') (k : z_W l I R B q pc' ls (.int r :: st) S1) : z_W l I R B q pc ls (.int p2 :: .int p1 :: .ref t :: st) S := z_callV (Y := I_X4_addNode) (As := [.int p1, .int p2]) (st := st) (r := (some r)) (S1 := S1) (c_X4_addNode (q := (.inl (some r), S1)) hst ht hF) ok_X4_addNode w (ci := 4) rfl ht.1 ht.2 rfl ⟨by rw [hRF]; exact h1, by rw [hRL]; exact h2⟩ hs d hp rfl k

abbrev I_X4_fits : z_I := (yX4_fits, cX4_fits, 3, some .boolean)
abbrev R_X4_fits (q : z_O × z_S) : Room := { frames := 0, locals := 0, cells := z_mc q.1, slots := 6 * z_mc q.1 }
def F_X4_fits_31 (B : Nat) (t : Nat)  (s0 : Int32) (S : z_S) : Option (z_O × z_S) :=
  z_gd (z_b01 s0) (some (.inl (some s0), S))
set_option maxRecDepth 20000 in
set_option maxHeartbeats 16000000 in
theorem ok_X4_fits_31 {l : Launch} {B : Nat} {t : Nat} {q : z_O × z_S} (hst : l.stackTraces = false) (ht : z_is 4 t) : ∀ (s0 : Int32) (S : z_S), F_X4_fits_31 B t s0 S = some q → z_W l I_X4_fits (R_X4_fits q) B q 31 [none, none, none] [.int s0] S := by
  intro s0 S hF
  unfold F_X4_fits_31 at hF
  obtain ⟨g1, hF⟩ := z_gde hF
  exact z_zreturn rfl (z_b01e g1) dX4_fits_31 (Option.some.inj hF).symm
def F_X4_fits_30 (B : Nat) (t : Nat) (k31 : Int32 → z_S → Option (z_O × z_S))  (S : z_S) : Option (z_O × z_S) :=
  k31 0 S
set_option maxRecDepth 20000 in
set_option maxHeartbeats 16000000 in
theorem ok_X4_fits_30 {l : Launch} {B : Nat} {t : Nat} {q : z_O × z_S} (hst : l.stackTraces = false) (ht : z_is 4 t) {k31 : Int32 → z_S → Option (z_O × z_S)} (hk31 : ∀ (s0 : Int32) (S : z_S), k31 s0 S = some q → z_W l I_X4_fits (R_X4_fits q) B q 31 [none, none, none] [.int s0] S) : ∀ (S : z_S), F_X4_fits_30 B t k31 S = some q → z_W l I_X4_fits (R_X4_fits q) B q 30 [none, none, none] [] S := by
  intro S hF
  unfold F_X4_fits_30 at hF
  refine z_iconst (v := 0) (pc' := 31) dX4_fits_30 (by decide) rfl ?_
  refine z_wk (ls' := [none, none, none]) (z_len1 (z_len1 (z_len1 z_le0))) ?_
  exact hk31 _ _ hF
def F_X4_fits (B : Nat) (t : Nat) (p1 : Int32) (p2 : Int32) (S : z_S) : Option (z_O × z_S) :=
  if p2 = (-1) then
    F_X4_fits_30 B t (F_X4_fits_31 B t ) S
  else
    z_gd (z_inb p2 B) (
    z_lt (S.1 (t + 4) (z_ix (p2))) fun x2 =>
    (z_gd (z_inb p1 (14 * B)) (
    z_lt (S.1 (t + 10) (z_ix (p1))) fun x4 =>
    (if 120 < ((x2 + 8) + x4) then
      F_X4_fits_30 B t (F_X4_fits_31 B t ) S
    else
      F_X4_fits_31 B t 1 S))))
set_option maxRecDepth 20000 in
set_option maxHeartbeats 16000000 in
theorem c_X4_fits {l : Launch} {B : Nat} {t : Nat} {p1 : Int32} {p2 : Int32} {S : z_S} {q : z_O × z_S} (hst : l.stackTraces = false) (ht : z_is 4 t) (hF : F_X4_fits B t p1 p2 S = some q) : z_Met l I_X4_fits 0 0 B [.ref t, .int p1, .int p2] S q.1 q.2 := by
  refine z_enter (ls := [some (.ref t), some (.int p1), some (.int p2)]) (n := 0) (by decide) rfl (Nat.le_of_ble_eq_true rfl) hst ?_
  unfold F_X4_fits at hF
  refine z_iload_n (pc' := 1) dX4_fits_0 rfl rfl rfl ?_
  refine z_iconst (v := (-1)) (pc' := 2) dX4_fits_1 (by decide) rfl ?_
  refine z_icmp_eq (tgt := 30) (pc' := 5) dX4_fits_2 (by decide) rfl (fun c6 => ?_) (fun c6 => ?_)
  · rw [if_pos c6] at hF
    refine z_wk (ls' := [none, none, none]) (z_len1 (z_len1 (z_len1 z_le0))) ?_
    exact (ok_X4_fits_30 hst ht (ok_X4_fits_31 hst ht)) _ hF
  · rw [if_neg c6] at hF
    refine z_aload_n (pc' := 6) dX4_fits_5 rfl rfl rfl ?_
    refine gf_X4_25 (b := t + 4) (pc' := 9) rfl ht rfl dX4_fits_6 rfl ?_
    refine z_iload_n (pc' := 10) dX4_fits_9 rfl rfl rfl ?_
    obtain ⟨g1, hF⟩ := z_gde hF
    refine z_iaload (pc' := 11) (ar_4_f4 ht) (z_inbe g1) dX4_fits_10 rfl ?_
    refine z_topi (fun x2 ex2 => ?_)
    replace hF := z_lte hF x2 ex2
    refine z_bipush (v := 8) (pc' := 13) dX4_fits_11 (by decide) rfl ?_
    refine z_iadd (pc' := 14) dX4_fits_13 rfl ?_
    refine z_aload_n (pc' := 15) dX4_fits_14 rfl rfl rfl ?_
    refine gf_X4_43 (b := t + 10) (pc' := 18) rfl ht rfl dX4_fits_15 rfl ?_
    refine z_iload_n (pc' := 19) dX4_fits_18 rfl rfl rfl ?_
    obtain ⟨g3, hF⟩ := z_gde hF
    refine z_iaload (pc' := 20) (ar_4_f10 ht) (z_inbe g3) dX4_fits_19 rfl ?_
    refine z_topi (fun x4 ex4 => ?_)
    replace hF := z_lte hF x4 ex4
    refine z_iadd (pc' := 21) dX4_fits_20 rfl ?_
    refine z_bipush (v := 120) (pc' := 23) dX4_fits_21 (by decide) rfl ?_
    refine z_icmp_gt (tgt := 30) (pc' := 26) dX4_fits_23 (by decide) rfl (fun c5 => ?_) (fun c5 => ?_)
    · rw [if_pos c5] at hF
      refine z_wk (ls' := [none, none, none]) (z_len1 (z_len1 (z_len1 z_le0))) ?_
      exact (ok_X4_fits_30 hst ht (ok_X4_fits_31 hst ht)) _ hF
    · rw [if_neg c5] at hF
      refine z_iconst (v := 1) (pc' := 27) dX4_fits_26 (by decide) rfl ?_
      refine z_goto (pc' := 31) dX4_fits_27 (by decide) ?_
      refine z_wk (ls' := [none, none, none]) (z_len1 (z_len1 (z_len1 z_le0))) ?_
      exact (ok_X4_fits_31 hst ht) _ _ hF
theorem ok_X4_fits : z_okV I_X4_fits 2 := ⟨⟨z_Gin (List.mem_of_getElem? (i := 517) (by decide +kernel)) rfl, z_Gin (List.mem_of_getElem? (i := 11) (by decide +kernel)) rfl, z_Gin (List.mem_of_getElem? (i := 92) (by decide +kernel)) rfl, z_Gin (List.mem_of_getElem? (i := 518) (by decide +kernel)) rfl⟩, by decide, by decide, by decide +kernel⟩
theorem k_X4_fits {l : Launch} {I : z_I} {R : Room} {B : Nat} {t : Nat} {p1 : Int32} {p2 : Int32} {q : z_O × z_S} {pc pc' : Nat} {ls : List (Option Value)} {st : List Value} {S S1 : z_S} {idx F L : Nat} {r : Int32} (ht : z_is 4 t) (hF : F_X4_fits B t p1 p2 S = some (.inl (some r), S1)) (hst : l.stackTraces = false) (w : Cond.methodLink I.1.cls idx yX4_fits ∈ z_G) (hRF : R.frames = F) (hRL : R.locals = L) (h1 : 1 ≤ F) (h2 : 22 ≤ L) (hs : (st.map fun v => v.category).sum ≤ 8) (d : decode I.2.1 pc = .ok (.invokevirtual idx, 3)) (hp : pc + 3 = pc') (k : z_W l I R B q pc' ls (.int r :: st) S1) : z_W l I R B q pc ls (.int p2 :: .int p1 :: .ref t :: st) S := z_callV (Y := I_X4_fits) (As := [.int p1, .int p2]) (st := st) (r := (some r)) (S1 := S1) (c_X4_fits (q := (.inl (some r), S1)) hst ht hF) ok_X4_fits w (ci := 4) rfl ht.1 ht.2 rfl ⟨by rw [hRF]; exact h1, by rw [hRL]; exact h2⟩ hs d hp rfl k

abbrev I_X4_closeSlot : z_I := (yX4_closeSlot, cX4_closeSlot, 5, none)
abbrev R_X4_closeSlot (q : z_O × z_S) : Room := { frames := 1, locals := 68, cells := z_mc q.1, slots := 6 * z_mc q.1 }
def F_X4_closeSlot_19 (B : Nat) (t : Nat)   (S : z_S) : Option (z_O × z_S) :=
  some (.inl none, S)
set_option maxRecDepth 20000 in
set_option maxHeartbeats 16000000 in
theorem ok_X4_closeSlot_19 {l : Launch} {B : Nat} {t : Nat} {q : z_O × z_S} (hst : l.stackTraces = false) (ht : z_is 4 t) : ∀ (S : z_S), F_X4_closeSlot_19 B t S = some q → z_W l I_X4_closeSlot (R_X4_closeSlot q) B q 19 [none, none, none, none, none] [] S := by
  intro S hF
  unfold F_X4_closeSlot_19 at hF
  exact z_return rfl dX4_closeSlot_19 (Option.some.inj hF).symm
def F_X4_closeSlot (B : Nat) (t : Nat) (p1 : Int32) (p2 : Int32) (S : z_S) : Option (z_O × z_S) :=
  z_gd (z_inb p1 B) (
  z_lt (S.1 (t + 3) (z_ix (p1))) fun x2 =>
  (if p2 < 0 then
    F_X4_closeSlot_19 B t S
  else
    if 0 ≤ ((x2 - p2) - 1) then
      z_gd (z_inb p1 B) (
      z_lt (S.1 (t + 4) (z_ix (p1))) fun x4 =>
      (z_gd (z_inb ((p1 * 14) + p2) (14 * B)) (
      z_lt (S.1 (t + 10) (z_ix ((p1 * 14) + p2))) fun x6 =>
      (z_gd (z_inb p1 B) (
      z_lt (z_ua S (t + 4) (upd (S.1 (t + 4)) (z_ix (p1)) (x4 - (8 + x6)))) fun S8 =>
      (z_gd (z_inb p1 B) (
      z_lt (S8.1 (t + 3) (z_ix (p1))) fun x10 =>
      (z_gd (z_inb p1 B) (
      z_lt (z_ua S8 (t + 3) (upd (S8.1 (t + 3)) (z_ix (p1)) (x10 - 1))) fun S12 =>
      (z_gd (z_cok (((p1 * 14) + p2) + 1) ((p1 * 14) + p2) ((x2 - p2) - 1) (14 * B) (14 * B)) (
      z_lt (z_ua S12 (t + 9) (va_cpy (S12.1 (t + 9)) (S12.1 (t + 9)) (z_ix (((p1 * 14) + p2) + 1)) (z_ix ((p1 * 14) + p2)) (z_ix ((x2 - p2) - 1)))) fun S14 =>
      (z_gd (z_cok (((p1 * 14) + p2) + 1) ((p1 * 14) + p2) ((x2 - p2) - 1) (14 * B) (14 * B)) (
      z_lt (z_ua S14 (t + 10) (va_cpy (S14.1 (t + 10)) (S14.1 (t + 10)) (z_ix (((p1 * 14) + p2) + 1)) (z_ix ((p1 * 14) + p2)) (z_ix ((x2 - p2) - 1)))) fun S16 =>
      (z_gd (z_cok (((p1 * 14) + p2) + 1) ((p1 * 14) + p2) ((x2 - p2) - 1) (14 * B) (14 * B)) (
      z_lt (z_ua S16 (t + 11) (va_cpy (S16.1 (t + 11)) (S16.1 (t + 11)) (z_ix (((p1 * 14) + p2) + 1)) (z_ix ((p1 * 14) + p2)) (z_ix ((x2 - p2) - 1)))) fun S18 =>
      (some (.inl none, S18)))))))))))))))))
    else
      F_X4_closeSlot_19 B t S))
set_option maxRecDepth 20000 in
set_option maxHeartbeats 16000000 in
theorem c_X4_closeSlot {l : Launch} {B : Nat} {t : Nat} {p1 : Int32} {p2 : Int32} {S : z_S} {q : z_O × z_S} (hst : l.stackTraces = false) (ht : z_is 4 t) (hF : F_X4_closeSlot B t p1 p2 S = some q) : z_Met l I_X4_closeSlot 1 68 B [.ref t, .int p1, .int p2] S q.1 q.2 := by
  refine z_enter (ls := [some (.ref t), some (.int p1), some (.int p2), none, none]) (n := 2) (by decide) rfl (Nat.le_of_ble_eq_true rfl) hst ?_
  unfold F_X4_closeSlot at hF
  refine z_aload_n (pc' := 1) dX4_closeSlot_0 rfl rfl rfl ?_
  refine gf_X4_22 (b := t + 3) (pc' := 4) rfl ht rfl dX4_closeSlot_1 rfl ?_
  refine z_iload_n (pc' := 5) dX4_closeSlot_4 rfl rfl rfl ?_
  obtain ⟨g1, hF⟩ := z_gde hF
  refine z_iaload (pc' := 6) (ar_4_f3 ht) (z_inbe g1) dX4_closeSlot_5 rfl ?_
  refine z_topi (fun x2 ex2 => ?_)
  replace hF := z_lte hF x2 ex2
  refine z_iload_n (pc' := 7) dX4_closeSlot_6 rfl rfl rfl ?_
  refine z_isub (pc' := 8) dX4_closeSlot_7 rfl ?_
  refine z_iconst (v := 1) (pc' := 9) dX4_closeSlot_8 (by decide) rfl ?_
  refine z_isub (pc' := 10) dX4_closeSlot_9 rfl ?_
  refine z_istore_n (pc' := 11) dX4_closeSlot_10 rfl (by decide) rfl rfl ?_
  refine z_iload_n (pc' := 12) dX4_closeSlot_11 rfl rfl rfl ?_
  refine z_if_lt (tgt := 19) (pc' := 15) dX4_closeSlot_12 (by decide) rfl (fun c20 => ?_) (fun c20 => ?_)
  · rw [if_pos c20] at hF
    refine z_wk (ls' := [none, none, none, none, none]) (z_len1 (z_len1 (z_len1 (z_len1 (z_len1 z_le0))))) ?_
    exact (ok_X4_closeSlot_19 hst ht) _ hF
  · rw [if_neg c20] at hF
    refine z_iload_n (pc' := 16) dX4_closeSlot_15 rfl rfl rfl ?_
    refine z_if_ge (tgt := 20) (pc' := 19) dX4_closeSlot_16 (by decide) rfl (fun c19 => ?_) (fun c19 => ?_)
    · rw [if_pos c19] at hF
      refine z_iload_n (pc' := 21) dX4_closeSlot_20 rfl rfl rfl ?_
      refine z_bipush (v := 14) (pc' := 23) dX4_closeSlot_21 (by decide) rfl ?_
      refine z_imul (pc' := 24) dX4_closeSlot_23 rfl ?_
      refine z_iload_n (pc' := 25) dX4_closeSlot_24 rfl rfl rfl ?_
      refine z_iadd (pc' := 26) dX4_closeSlot_25 rfl ?_
      refine z_istore (pc' := 28) dX4_closeSlot_26 (by decide) rfl rfl ?_
      refine z_aload_n (pc' := 29) dX4_closeSlot_28 rfl rfl rfl ?_
      refine gf_X4_25 (b := t + 4) (pc' := 32) rfl ht rfl dX4_closeSlot_29 rfl ?_
      refine z_iload_n (pc' := 33) dX4_closeSlot_32 rfl rfl rfl ?_
      refine z_dup2 (pc' := 34) dX4_closeSlot_33 rfl ?_
      obtain ⟨g3, hF⟩ := z_gde hF
      refine z_iaload (pc' := 35) (ar_4_f4 ht) (z_inbe g3) dX4_closeSlot_34 rfl ?_
      refine z_topi (fun x4 ex4 => ?_)
      replace hF := z_lte hF x4 ex4
      refine z_bipush (v := 8) (pc' := 37) dX4_closeSlot_35 (by decide) rfl ?_
      refine z_aload_n (pc' := 38) dX4_closeSlot_37 rfl rfl rfl ?_
      refine gf_X4_43 (b := t + 10) (pc' := 41) rfl ht rfl dX4_closeSlot_38 rfl ?_
      refine z_iload (pc' := 43) dX4_closeSlot_41 rfl rfl ?_
      obtain ⟨g5, hF⟩ := z_gde hF
      refine z_iaload (pc' := 44) (ar_4_f10 ht) (z_inbe g5) dX4_closeSlot_43 rfl ?_
      refine z_topi (fun x6 ex6 => ?_)
      replace hF := z_lte hF x6 ex6
      refine z_iadd (pc' := 45) dX4_closeSlot_44 rfl ?_
      refine z_isub (pc' := 46) dX4_closeSlot_45 rfl ?_
      obtain ⟨g7, hF⟩ := z_gde hF
      refine z_iastore (pc' := 47) (ar_4_f4 ht) (z_inbe g7) dX4_closeSlot_46 rfl (fun S8 eS8 => ?_)
      replace hF := z_lte hF S8 eS8
      refine z_aload_n (pc' := 48) dX4_closeSlot_47 rfl rfl rfl ?_
      refine gf_X4_22 (b := t + 3) (pc' := 51) rfl ht rfl dX4_closeSlot_48 rfl ?_
      refine z_iload_n (pc' := 52) dX4_closeSlot_51 rfl rfl rfl ?_
      refine z_dup2 (pc' := 53) dX4_closeSlot_52 rfl ?_
      obtain ⟨g9, hF⟩ := z_gde hF
      refine z_iaload (pc' := 54) (ar_4_f3 ht) (z_inbe g9) dX4_closeSlot_53 rfl ?_
      refine z_topi (fun x10 ex10 => ?_)
      replace hF := z_lte hF x10 ex10
      refine z_iconst (v := 1) (pc' := 55) dX4_closeSlot_54 (by decide) rfl ?_
      refine z_isub (pc' := 56) dX4_closeSlot_55 rfl ?_
      obtain ⟨g11, hF⟩ := z_gde hF
      refine z_iastore (pc' := 57) (ar_4_f3 ht) (z_inbe g11) dX4_closeSlot_56 rfl (fun S12 eS12 => ?_)
      replace hF := z_lte hF S12 eS12
      refine z_aload_n (pc' := 58) dX4_closeSlot_57 rfl rfl rfl ?_
      refine gf_X4_40 (b := t + 9) (pc' := 61) rfl ht rfl dX4_closeSlot_58 rfl ?_
      refine z_iload (pc' := 63) dX4_closeSlot_61 rfl rfl ?_
      refine z_iconst (v := 1) (pc' := 64) dX4_closeSlot_63 (by decide) rfl ?_
      refine z_iadd (pc' := 65) dX4_closeSlot_64 rfl ?_
      refine z_aload_n (pc' := 66) dX4_closeSlot_65 rfl rfl rfl ?_
      refine gf_X4_40 (b := t + 9) (pc' := 69) rfl ht rfl dX4_closeSlot_66 rfl ?_
      refine z_iload (pc' := 71) dX4_closeSlot_69 rfl rfl ?_
      refine z_iload_n (pc' := 72) dX4_closeSlot_71 rfl rfl rfl ?_
      obtain ⟨g13, hF⟩ := z_gde hF
      refine z_copy (pc' := 75) (ar_4_f9 ht) (ar_4_f9 ht) (by decide) g13 zw_4 zw_1 zw_2 zw_3 ⟨by show (_ : Nat) ≤ 1; decide, by show (_ : Nat) ≤ 68; decide⟩ dX4_closeSlot_72 rfl (fun S14 eS14 => ?_)
      replace hF := z_lte hF S14 eS14
      refine z_aload_n (pc' := 76) dX4_closeSlot_75 rfl rfl rfl ?_
      refine gf_X4_43 (b := t + 10) (pc' := 79) rfl ht rfl dX4_closeSlot_76 rfl ?_
      refine z_iload (pc' := 81) dX4_closeSlot_79 rfl rfl ?_
      refine z_iconst (v := 1) (pc' := 82) dX4_closeSlot_81 (by decide) rfl ?_
      refine z_iadd (pc' := 83) dX4_closeSlot_82 rfl ?_
      refine z_aload_n (pc' := 84) dX4_closeSlot_83 rfl rfl rfl ?_
      refine gf_X4_43 (b := t + 10) (pc' := 87) rfl ht rfl dX4_closeSlot_84 rfl ?_
      refine z_iload (pc' := 89) dX4_closeSlot_87 rfl rfl ?_
      refine z_iload_n (pc' := 90) dX4_closeSlot_89 rfl rfl rfl ?_
      obtain ⟨g15, hF⟩ := z_gde hF
      refine z_copy (pc' := 93) (ar_4_f10 ht) (ar_4_f10 ht) (by decide) g15 zw_4 zw_1 zw_2 zw_3 ⟨by show (_ : Nat) ≤ 1; decide, by show (_ : Nat) ≤ 68; decide⟩ dX4_closeSlot_90 rfl (fun S16 eS16 => ?_)
      replace hF := z_lte hF S16 eS16
      refine z_aload_n (pc' := 94) dX4_closeSlot_93 rfl rfl rfl ?_
      refine gf_X4_46 (b := t + 11) (pc' := 97) rfl ht rfl dX4_closeSlot_94 rfl ?_
      refine z_iload (pc' := 99) dX4_closeSlot_97 rfl rfl ?_
      refine z_iconst (v := 1) (pc' := 100) dX4_closeSlot_99 (by decide) rfl ?_
      refine z_iadd (pc' := 101) dX4_closeSlot_100 rfl ?_
      refine z_aload_n (pc' := 102) dX4_closeSlot_101 rfl rfl rfl ?_
      refine gf_X4_46 (b := t + 11) (pc' := 105) rfl ht rfl dX4_closeSlot_102 rfl ?_
      refine z_iload (pc' := 107) dX4_closeSlot_105 rfl rfl ?_
      refine z_iload_n (pc' := 108) dX4_closeSlot_107 rfl rfl rfl ?_
      obtain ⟨g17, hF⟩ := z_gde hF
      refine z_copy (pc' := 111) (ar_4_f11 ht) (ar_4_f11 ht) (by decide) g17 zw_4 zw_1 zw_2 zw_3 ⟨by show (_ : Nat) ≤ 1; decide, by show (_ : Nat) ≤ 68; decide⟩ dX4_closeSlot_108 rfl (fun S18 eS18 => ?_)
      replace hF := z_lte hF S18 eS18
      exact z_return rfl dX4_closeSlot_111 (Option.some.inj hF).symm
    · rw [if_neg c19] at hF
      refine z_wk (ls' := [none, none, none, none, none]) (z_len1 (z_len1 (z_len1 (z_len1 (z_len1 z_le0))))) ?_
      exact (ok_X4_closeSlot_19 hst ht) _ hF
theorem ok_X4_closeSlot : z_okV I_X4_closeSlot 2 := ⟨⟨z_Gin (List.mem_of_getElem? (i := 525) (by decide +kernel)) rfl, z_Gin (List.mem_of_getElem? (i := 13) (by decide +kernel)) rfl, z_Gin (List.mem_of_getElem? (i := 92) (by decide +kernel)) rfl, z_Gin (List.mem_of_getElem? (i := 526) (by decide +kernel)) rfl⟩, by decide, by decide, by decide +kernel⟩
theorem k_X4_closeSlot {l : Launch} {I : z_I} {R : Room} {B : Nat} {t : Nat} {p1 : Int32} {p2 : Int32} {q : z_O × z_S} {pc pc' : Nat} {ls : List (Option Value)} {st : List Value} {S S1 : z_S} {idx F L : Nat} (ht : z_is 4 t) (hF : F_X4_closeSlot B t p1 p2 S = some (.inl none, S1)) (hst : l.stackTraces = false) (w : Cond.methodLink I.1.cls idx yX4_closeSlot ∈ z_G) (hRF : R.frames = F) (hRL : R.locals = L) (h1 : 2 ≤ F) (h2 : 92 ≤ L) (hs : (st.map fun v => v.category).sum ≤ 8) (d : decode I.2.1 pc = .ok (.invokevirtual idx, 3)) (hp : pc + 3 = pc') (k : z_W l I R B q pc' ls st S1) : z_W l I R B q pc ls (.int p2 :: .int p1 :: .ref t :: st) S := z_callV (Y := I_X4_closeSlot) (As := [.int p1, .int p2]) (st := st) (r := none) (S1 := S1) (c_X4_closeSlot (q := (.inl none, S1)) hst ht hF) ok_X4_closeSlot w (ci := 4) rfl ht.1 ht.2 rfl ⟨by rw [hRF]; exact h1, by rw [hRL]; exact h2⟩ hs d hp rfl k

abbrev I_X4_shiftItem : z_I := (yX4_shiftItem, cX4_shiftItem, 6, none)
abbrev R_X4_shiftItem (q : z_O × z_S) : Room := { frames := 2, locals := 95, cells := z_mc q.1, slots := 6 * z_mc q.1 }
def F_X4_shiftItem (B : Nat) (t : Nat) (p1 : Int32) (p2 : Int32) (p3 : Int32) (p4 : Int32) (S : z_S) : Option (z_O × z_S) :=
  z_gd (z_inb ((p1 * 14) + p2) (14 * B)) (
  z_lt (S.1 (t + 9) (z_ix ((p1 * 14) + p2))) fun x2 =>
  (z_gd (z_inb ((p1 * 14) + p2) (14 * B)) (
  z_lt (S.1 (t + 10) (z_ix ((p1 * 14) + p2))) fun x4 =>
  (z_gd (z_inb ((p1 * 14) + p2) (14 * B)) (
  z_lt (S.1 (t + 11) (z_ix ((p1 * 14) + p2))) fun x6 =>
  (z_bo (F_X4_openSlot B t p3 p4 x2 x4 x6 S) fun S8 =>
  (z_bo (F_X4_closeSlot B t p1 p2 S8) fun S11 =>
  (some (.inl none, S11)))))))))
set_option maxRecDepth 20000 in
set_option maxHeartbeats 16000000 in
theorem c_X4_shiftItem {l : Launch} {B : Nat} {t : Nat} {p1 : Int32} {p2 : Int32} {p3 : Int32} {p4 : Int32} {S : z_S} {q : z_O × z_S} (hst : l.stackTraces = false) (ht : z_is 4 t) (hF : F_X4_shiftItem B t p1 p2 p3 p4 S = some q) : z_Met l I_X4_shiftItem 2 95 B [.ref t, .int p1, .int p2, .int p3, .int p4] S q.1 q.2 := by
  refine z_enter (ls := [some (.ref t), some (.int p1), some (.int p2), some (.int p3), some (.int p4), none]) (n := 1) (by decide) rfl (Nat.le_of_ble_eq_true rfl) hst ?_
  unfold F_X4_shiftItem at hF
  refine z_iload_n (pc' := 1) dX4_shiftItem_0 rfl rfl rfl ?_
  refine z_bipush (v := 14) (pc' := 3) dX4_shiftItem_1 (by decide) rfl ?_
  refine z_imul (pc' := 4) dX4_shiftItem_3 rfl ?_
  refine z_iload_n (pc' := 5) dX4_shiftItem_4 rfl rfl rfl ?_
  refine z_iadd (pc' := 6) dX4_shiftItem_5 rfl ?_
  refine z_istore (pc' := 8) dX4_shiftItem_6 (by decide) rfl rfl ?_
  refine z_aload_n (pc' := 9) dX4_shiftItem_8 rfl rfl rfl ?_
  refine z_iload_n (pc' := 10) dX4_shiftItem_9 rfl rfl rfl ?_
  refine z_iload (pc' := 12) dX4_shiftItem_10 rfl rfl ?_
  refine z_aload_n (pc' := 13) dX4_shiftItem_12 rfl rfl rfl ?_
  refine gf_X4_40 (b := t + 9) (pc' := 16) rfl ht rfl dX4_shiftItem_13 rfl ?_
  refine z_iload (pc' := 18) dX4_shiftItem_16 rfl rfl ?_
  obtain ⟨g1, hF⟩ := z_gde hF
  refine z_iaload (pc' := 19) (ar_4_f9 ht) (z_inbe g1) dX4_shiftItem_18 rfl ?_
  refine z_topi (fun x2 ex2 => ?_)
  replace hF := z_lte hF x2 ex2
  refine z_aload_n (pc' := 20) dX4_shiftItem_19 rfl rfl rfl ?_
  refine gf_X4_43 (b := t + 10) (pc' := 23) rfl ht rfl dX4_shiftItem_20 rfl ?_
  refine z_iload (pc' := 25) dX4_shiftItem_23 rfl rfl ?_
  obtain ⟨g3, hF⟩ := z_gde hF
  refine z_iaload (pc' := 26) (ar_4_f10 ht) (z_inbe g3) dX4_shiftItem_25 rfl ?_
  refine z_topi (fun x4 ex4 => ?_)
  replace hF := z_lte hF x4 ex4
  refine z_aload_n (pc' := 27) dX4_shiftItem_26 rfl rfl rfl ?_
  refine gf_X4_46 (b := t + 11) (pc' := 30) rfl ht rfl dX4_shiftItem_27 rfl ?_
  refine z_iload (pc' := 32) dX4_shiftItem_30 rfl rfl ?_
  obtain ⟨g5, hF⟩ := z_gde hF
  refine z_iaload (pc' := 33) (ar_4_f11 ht) (z_inbe g5) dX4_shiftItem_32 rfl ?_
  refine z_topi (fun x6 ex6 => ?_)
  replace hF := z_lte hF x6 ex6
  obtain ⟨S8, hc9, hF⟩ := z_boe hF
  refine k_X4_openSlot (F := 2) (L := 95) (pc' := 36) ht hc9 hst zw_34 rfl rfl (by decide) (by decide) (by decide) dX4_shiftItem_33 rfl ?_
  refine z_aload_n (pc' := 37) dX4_shiftItem_36 rfl rfl rfl ?_
  refine z_iload_n (pc' := 38) dX4_shiftItem_37 rfl rfl rfl ?_
  refine z_iload_n (pc' := 39) dX4_shiftItem_38 rfl rfl rfl ?_
  obtain ⟨S11, hc12, hF⟩ := z_boe hF
  refine k_X4_closeSlot (F := 2) (L := 95) (pc' := 42) ht hc12 hst zw_35 rfl rfl (by decide) (by decide) (by decide) dX4_shiftItem_39 rfl ?_
  exact z_return rfl dX4_shiftItem_42 (Option.some.inj hF).symm
theorem ok_X4_shiftItem : z_okV I_X4_shiftItem 4 := ⟨⟨z_Gin (List.mem_of_getElem? (i := 521) (by decide +kernel)) rfl, z_Gin (List.mem_of_getElem? (i := 12) (by decide +kernel)) rfl, z_Gin (List.mem_of_getElem? (i := 92) (by decide +kernel)) rfl, z_Gin (List.mem_of_getElem? (i := 522) (by decide +kernel)) rfl⟩, by decide, by decide, by decide +kernel⟩
theorem k_X4_shiftItem {l : Launch} {I : z_I} {R : Room} {B : Nat} {t : Nat} {p1 : Int32} {p2 : Int32} {p3 : Int32} {p4 : Int32} {q : z_O × z_S} {pc pc' : Nat} {ls : List (Option Value)} {st : List Value} {S S1 : z_S} {idx F L : Nat} (ht : z_is 4 t) (hF : F_X4_shiftItem B t p1 p2 p3 p4 S = some (.inl none, S1)) (hst : l.stackTraces = false) (w : Cond.methodLink I.1.cls idx yX4_shiftItem ∈ z_G) (hRF : R.frames = F) (hRL : R.locals = L) (h1 : 3 ≤ F) (h2 : 120 ≤ L) (hs : (st.map fun v => v.category).sum ≤ 8) (d : decode I.2.1 pc = .ok (.invokevirtual idx, 3)) (hp : pc + 3 = pc') (k : z_W l I R B q pc' ls st S1) : z_W l I R B q pc ls (.int p4 :: .int p3 :: .int p2 :: .int p1 :: .ref t :: st) S := z_callV (Y := I_X4_shiftItem) (As := [.int p1, .int p2, .int p3, .int p4]) (st := st) (r := none) (S1 := S1) (c_X4_shiftItem (q := (.inl none, S1)) hst ht hF) ok_X4_shiftItem w (ci := 4) rfl ht.1 ht.2 rfl ⟨by rw [hRF]; exact h1, by rw [hRL]; exact h2⟩ hs d hp rfl k

abbrev I_X4_relieve : z_I := (yX4_relieve, cX4_relieve, 7, some .boolean)
abbrev R_X4_relieve (q : z_O × z_S) : Room := { frames := 4, locals := 146, cells := z_mc q.1, slots := 6 * z_mc q.1 }
def F_X4_relieve_202 (B : Nat) (t : Nat)  (v1 : Int32) (v5 : Int32) (S : z_S) : Option (z_O × z_S) :=
  z_bn (F_X4_addNode B t v5 v1 S) fun r1 S2 =>
  (z_gd (z_b01 r1) (some (.inl (some r1), S2)))
set_option maxRecDepth 20000 in
set_option maxHeartbeats 16000000 in
theorem ok_X4_relieve_202 {l : Launch} {B : Nat} {t : Nat} {q : z_O × z_S} (hst : l.stackTraces = false) (ht : z_is 4 t) : ∀ (v1 : Int32) (v5 : Int32) (S : z_S), F_X4_relieve_202 B t v1 v5 S = some q → z_W l I_X4_relieve (R_X4_relieve q) B q 202 [some (.ref t), some (.int v1), none, none, none, some (.int v5), none] [] S := by
  intro v1 v5 S hF
  unfold F_X4_relieve_202 at hF
  refine z_aload_n (pc' := 203) dX4_relieve_202 rfl rfl rfl ?_
  refine z_iload (pc' := 205) dX4_relieve_203 rfl rfl ?_
  refine z_iload_n (pc' := 206) dX4_relieve_205 rfl rfl rfl ?_
  obtain ⟨r1, S2, hc3, hF⟩ := z_bne hF
  refine k_X4_addNode (F := 4) (L := 146) (pc' := 209) ht hc3 hst zw_38 rfl rfl (by decide) (by decide) (by decide) dX4_relieve_206 rfl ?_
  obtain ⟨g4, hF⟩ := z_gde hF
  exact z_zreturn rfl (z_b01e g4) dX4_relieve_209 (Option.some.inj hF).symm
def F_X4_relieve_162 (B : Nat) (t : Nat)  : Nat → Int32 → Int32 → Int32 → z_S → Option (z_O × z_S)
  | 0, _, _, _, _ => none
  | n + 1, v1, v5, v6, S => if 14 ≤ v6 then
    F_X4_relieve_202 B t v1 v5 S
  else
    z_gd (z_inb v1 B) (
    z_lt (S.1 (t + 4) (z_ix (v1))) fun x2 =>
    (if x2 ≤ 120 then
      F_X4_relieve_202 B t v1 v5 S
    else
      z_gd (z_inb v1 B) (
      z_lt (S.1 (t + 3) (z_ix (v1))) fun x4 =>
      (z_bo (F_X4_shiftItem B t v1 (x4 - 1) v5 0 S) fun S6 =>
      (F_X4_relieve_162 B t n v1 v5 (v6 + 1) S6)))))
set_option maxRecDepth 20000 in
set_option maxHeartbeats 16000000 in
theorem ok_X4_relieve_162 {l : Launch} {B : Nat} {t : Nat} {q : z_O × z_S} (hst : l.stackTraces = false) (ht : z_is 4 t) : ∀ (n : Nat) (v1 : Int32) (v5 : Int32) (v6 : Int32) (S : z_S), F_X4_relieve_162 B t n v1 v5 v6 S = some q → z_W l I_X4_relieve (R_X4_relieve q) B q 162 [some (.ref t), some (.int v1), none, none, none, some (.int v5), some (.int v6)] [] S := by
  intro n
  induction n with
  | zero => intro v1 v5 v6 S hF; cases hF
  | succ n ih =>
    intro v1 v5 v6 S hF
    rw [F_X4_relieve_162] at hF
    refine z_iload (pc' := 164) dX4_relieve_162 rfl rfl ?_
    refine z_bipush (v := 14) (pc' := 166) dX4_relieve_164 (by decide) rfl ?_
    refine z_icmp_ge (tgt := 202) (pc' := 169) dX4_relieve_166 (by decide) rfl (fun c9 => ?_) (fun c9 => ?_)
    · rw [if_pos c9] at hF
      refine z_wk (ls' := [some (.ref t), some (.int v1), none, none, none, some (.int v5), none]) (z_lec rfl (z_lec rfl (z_len1 (z_len1 (z_len1 (z_lec rfl (z_len1 z_le0))))))) ?_
      exact (ok_X4_relieve_202 hst ht) _ _ _ hF
    · rw [if_neg c9] at hF
      refine z_aload_n (pc' := 170) dX4_relieve_169 rfl rfl rfl ?_
      refine gf_X4_25 (b := t + 4) (pc' := 173) rfl ht rfl dX4_relieve_170 rfl ?_
      refine z_iload_n (pc' := 174) dX4_relieve_173 rfl rfl rfl ?_
      obtain ⟨g1, hF⟩ := z_gde hF
      refine z_iaload (pc' := 175) (ar_4_f4 ht) (z_inbe g1) dX4_relieve_174 rfl ?_
      refine z_topi (fun x2 ex2 => ?_)
      replace hF := z_lte hF x2 ex2
      refine z_bipush (v := 120) (pc' := 177) dX4_relieve_175 (by decide) rfl ?_
      refine z_icmp_le (tgt := 202) (pc' := 180) dX4_relieve_177 (by decide) rfl (fun c8 => ?_) (fun c8 => ?_)
      · rw [if_pos c8] at hF
        refine z_wk (ls' := [some (.ref t), some (.int v1), none, none, none, some (.int v5), none]) (z_lec rfl (z_lec rfl (z_len1 (z_len1 (z_len1 (z_lec rfl (z_len1 z_le0))))))) ?_
        exact (ok_X4_relieve_202 hst ht) _ _ _ hF
      · rw [if_neg c8] at hF
        refine z_aload_n (pc' := 181) dX4_relieve_180 rfl rfl rfl ?_
        refine z_iload_n (pc' := 182) dX4_relieve_181 rfl rfl rfl ?_
        refine z_aload_n (pc' := 183) dX4_relieve_182 rfl rfl rfl ?_
        refine gf_X4_22 (b := t + 3) (pc' := 186) rfl ht rfl dX4_relieve_183 rfl ?_
        refine z_iload_n (pc' := 187) dX4_relieve_186 rfl rfl rfl ?_
        obtain ⟨g3, hF⟩ := z_gde hF
        refine z_iaload (pc' := 188) (ar_4_f3 ht) (z_inbe g3) dX4_relieve_187 rfl ?_
        refine z_topi (fun x4 ex4 => ?_)
        replace hF := z_lte hF x4 ex4
        refine z_iconst (v := 1) (pc' := 189) dX4_relieve_188 (by decide) rfl ?_
        refine z_isub (pc' := 190) dX4_relieve_189 rfl ?_
        refine z_iload (pc' := 192) dX4_relieve_190 rfl rfl ?_
        refine z_iconst (v := 0) (pc' := 193) dX4_relieve_192 (by decide) rfl ?_
        obtain ⟨S6, hc7, hF⟩ := z_boe hF
        refine k_X4_shiftItem (F := 4) (L := 146) (pc' := 196) ht hc7 hst zw_37 rfl rfl (by decide) (by decide) (by decide) dX4_relieve_193 rfl ?_
        refine z_iinc (v := v6 + 1) (pc' := 199) dX4_relieve_196 rfl rfl (by decide) rfl rfl ?_
        refine z_goto (pc' := 162) dX4_relieve_199 (by decide) ?_
        refine z_wk (ls' := [some (.ref t), some (.int v1), none, none, none, some (.int v5), some (.int (v6 + 1))]) (z_lec rfl (z_lec rfl (z_len1 (z_len1 (z_len1 (z_lec rfl (z_lec rfl z_le0))))))) ?_
        exact ih _ _ _ _ hF
def F_X4_relieve_131 (B : Nat) (t : Nat)  (v1 : Int32) (S : z_S) : Option (z_O × z_S) :=
  z_gd (z_inb v1 B) (
  z_lt (S.1 (t + 4) (z_ix (v1))) fun x2 =>
  (if 120 < x2 then
    z_bn (F_X4_takeBlock B t 2 S) fun r3 S4 =>
    (if r3 = (-1) then
      z_gd (z_b01 0) (some (.inl (some 0), S4))
    else
      F_X4_relieve_162 B t z_n v1 r3 0 S4)
  else
    z_gd (z_b01 1) (some (.inl (some 1), S))))
set_option maxRecDepth 20000 in
set_option maxHeartbeats 16000000 in
theorem ok_X4_relieve_131 {l : Launch} {B : Nat} {t : Nat} {q : z_O × z_S} (hst : l.stackTraces = false) (ht : z_is 4 t) : ∀ (v1 : Int32) (S : z_S), F_X4_relieve_131 B t v1 S = some q → z_W l I_X4_relieve (R_X4_relieve q) B q 131 [some (.ref t), some (.int v1), none, none, none, none, none] [] S := by
  intro v1 S hF
  unfold F_X4_relieve_131 at hF
  refine z_aload_n (pc' := 132) dX4_relieve_131 rfl rfl rfl ?_
  refine gf_X4_25 (b := t + 4) (pc' := 135) rfl ht rfl dX4_relieve_132 rfl ?_
  refine z_iload_n (pc' := 136) dX4_relieve_135 rfl rfl rfl ?_
  obtain ⟨g1, hF⟩ := z_gde hF
  refine z_iaload (pc' := 137) (ar_4_f4 ht) (z_inbe g1) dX4_relieve_136 rfl ?_
  refine z_topi (fun x2 ex2 => ?_)
  replace hF := z_lte hF x2 ex2
  refine z_bipush (v := 120) (pc' := 139) dX4_relieve_137 (by decide) rfl ?_
  refine z_icmp_gt (tgt := 144) (pc' := 142) dX4_relieve_139 (by decide) rfl (fun c9 => ?_) (fun c9 => ?_)
  · rw [if_pos c9] at hF
    refine z_aload_n (pc' := 145) dX4_relieve_144 rfl rfl rfl ?_
    refine z_iconst (v := 2) (pc' := 146) dX4_relieve_145 (by decide) rfl ?_
    obtain ⟨r3, S4, hc5, hF⟩ := z_bne hF
    refine k_X4_takeBlock (F := 4) (L := 146) (pc' := 149) ht hc5 hst zw_27 rfl rfl (by decide) (by decide) (by decide) dX4_relieve_146 rfl ?_
    refine z_istore (pc' := 151) dX4_relieve_149 (by decide) rfl rfl ?_
    refine z_iload (pc' := 153) dX4_relieve_151 rfl rfl ?_
    refine z_iconst (v := (-1)) (pc' := 154) dX4_relieve_153 (by decide) rfl ?_
    refine z_icmp_ne (tgt := 159) (pc' := 157) dX4_relieve_154 (by decide) rfl (fun c7 => ?_) (fun c7 => ?_)
    · rw [if_neg c7] at hF
      refine z_iconst (v := 0) (pc' := 160) dX4_relieve_159 (by decide) rfl ?_
      refine z_istore (pc' := 162) dX4_relieve_160 (by decide) rfl rfl ?_
      refine z_wk (ls' := [some (.ref t), some (.int v1), none, none, none, some (.int r3), some (.int 0)]) (z_lec rfl (z_lec rfl (z_len1 (z_len1 (z_len1 (z_lec rfl (z_lec rfl z_le0))))))) ?_
      exact (ok_X4_relieve_162 hst ht z_n) _ _ _ _ hF
    · rw [if_pos c7] at hF
      refine z_iconst (v := 0) (pc' := 158) dX4_relieve_157 (by decide) rfl ?_
      obtain ⟨g6, hF⟩ := z_gde hF
      exact z_zreturn rfl (z_b01e g6) dX4_relieve_158 (Option.some.inj hF).symm
  · rw [if_neg c9] at hF
    refine z_iconst (v := 1) (pc' := 143) dX4_relieve_142 (by decide) rfl ?_
    obtain ⟨g8, hF⟩ := z_gde hF
    exact z_zreturn rfl (z_b01e g8) dX4_relieve_143 (Option.some.inj hF).symm
def F_X4_relieve_72 (B : Nat) (t : Nat)  : Nat → Int32 → Int32 → Int32 → Int32 → z_S → Option (z_O × z_S)
  | 0, _, _, _, _, _ => none
  | n + 1, v1, v2, v4, v5, S => if 14 ≤ v5 then
    F_X4_relieve_131 B t v1 S
  else
    z_gd (z_inb v1 B) (
    z_lt (S.1 (t + 4) (z_ix (v1))) fun x2 =>
    (if x2 ≤ 120 then
      F_X4_relieve_131 B t v1 S
    else
      z_gd (z_inb v1 B) (
      z_lt (S.1 (t + 3) (z_ix (v1))) fun x4 =>
      (z_bn (F_X4_fits B t ((v2 + x4) - 1) v4 S) fun r5 S6 =>
      (if r5 = 0 then
        F_X4_relieve_131 B t v1 S6
      else
        z_gd (z_inb v1 B) (
        z_lt (S6.1 (t + 3) (z_ix (v1))) fun x9 =>
        (z_bo (F_X4_shiftItem B t v1 (x9 - 1) v4 0 S6) fun S11 =>
        (F_X4_relieve_72 B t n v1 v2 v4 (v5 + 1) S11))))))))
set_option maxRecDepth 20000 in
set_option maxHeartbeats 16000000 in
theorem ok_X4_relieve_72 {l : Launch} {B : Nat} {t : Nat} {q : z_O × z_S} (hst : l.stackTraces = false) (ht : z_is 4 t) : ∀ (n : Nat) (v1 : Int32) (v2 : Int32) (v4 : Int32) (v5 : Int32) (S : z_S), F_X4_relieve_72 B t n v1 v2 v4 v5 S = some q → z_W l I_X4_relieve (R_X4_relieve q) B q 72 [some (.ref t), some (.int v1), some (.int v2), none, some (.int v4), some (.int v5), none] [] S := by
  intro n
  induction n with
  | zero => intro v1 v2 v4 v5 S hF; cases hF
  | succ n ih =>
    intro v1 v2 v4 v5 S hF
    rw [F_X4_relieve_72] at hF
    refine z_iload (pc' := 74) dX4_relieve_72 rfl rfl ?_
    refine z_bipush (v := 14) (pc' := 76) dX4_relieve_74 (by decide) rfl ?_
    refine z_icmp_ge (tgt := 131) (pc' := 79) dX4_relieve_76 (by decide) rfl (fun c15 => ?_) (fun c15 => ?_)
    · rw [if_pos c15] at hF
      refine z_wk (ls' := [some (.ref t), some (.int v1), none, none, none, none, none]) (z_lec rfl (z_lec rfl (z_len1 (z_len1 (z_len1 (z_len1 (z_len1 z_le0))))))) ?_
      exact (ok_X4_relieve_131 hst ht) _ _ hF
    · rw [if_neg c15] at hF
      refine z_aload_n (pc' := 80) dX4_relieve_79 rfl rfl rfl ?_
      refine gf_X4_25 (b := t + 4) (pc' := 83) rfl ht rfl dX4_relieve_80 rfl ?_
      refine z_iload_n (pc' := 84) dX4_relieve_83 rfl rfl rfl ?_
      obtain ⟨g1, hF⟩ := z_gde hF
      refine z_iaload (pc' := 85) (ar_4_f4 ht) (z_inbe g1) dX4_relieve_84 rfl ?_
      refine z_topi (fun x2 ex2 => ?_)
      replace hF := z_lte hF x2 ex2
      refine z_bipush (v := 120) (pc' := 87) dX4_relieve_85 (by decide) rfl ?_
      refine z_icmp_le (tgt := 131) (pc' := 90) dX4_relieve_87 (by decide) rfl (fun c14 => ?_) (fun c14 => ?_)
      · rw [if_pos c14] at hF
        refine z_wk (ls' := [some (.ref t), some (.int v1), none, none, none, none, none]) (z_lec rfl (z_lec rfl (z_len1 (z_len1 (z_len1 (z_len1 (z_len1 z_le0))))))) ?_
        exact (ok_X4_relieve_131 hst ht) _ _ hF
      · rw [if_neg c14] at hF
        refine z_aload_n (pc' := 91) dX4_relieve_90 rfl rfl rfl ?_
        refine z_iload_n (pc' := 92) dX4_relieve_91 rfl rfl rfl ?_
        refine z_aload_n (pc' := 93) dX4_relieve_92 rfl rfl rfl ?_
        refine gf_X4_22 (b := t + 3) (pc' := 96) rfl ht rfl dX4_relieve_93 rfl ?_
        refine z_iload_n (pc' := 97) dX4_relieve_96 rfl rfl rfl ?_
        obtain ⟨g3, hF⟩ := z_gde hF
        refine z_iaload (pc' := 98) (ar_4_f3 ht) (z_inbe g3) dX4_relieve_97 rfl ?_
        refine z_topi (fun x4 ex4 => ?_)
        replace hF := z_lte hF x4 ex4
        refine z_iadd (pc' := 99) dX4_relieve_98 rfl ?_
        refine z_iconst (v := 1) (pc' := 100) dX4_relieve_99 (by decide) rfl ?_
        refine z_isub (pc' := 101) dX4_relieve_100 rfl ?_
        refine z_iload (pc' := 103) dX4_relieve_101 rfl rfl ?_
        obtain ⟨r5, S6, hc7, hF⟩ := z_bne hF
        refine k_X4_fits (F := 4) (L := 146) (pc' := 106) ht hc7 hst zw_36 rfl rfl (by decide) (by decide) (by decide) dX4_relieve_103 rfl ?_
        refine z_if_eq (tgt := 131) (pc' := 109) dX4_relieve_106 (by decide) rfl (fun c13 => ?_) (fun c13 => ?_)
        · rw [if_pos c13] at hF
          refine z_wk (ls' := [some (.ref t), some (.int v1), none, none, none, none, none]) (z_lec rfl (z_lec rfl (z_len1 (z_len1 (z_len1 (z_len1 (z_len1 z_le0))))))) ?_
          exact (ok_X4_relieve_131 hst ht) _ _ hF
        · rw [if_neg c13] at hF
          refine z_aload_n (pc' := 110) dX4_relieve_109 rfl rfl rfl ?_
          refine z_iload_n (pc' := 111) dX4_relieve_110 rfl rfl rfl ?_
          refine z_aload_n (pc' := 112) dX4_relieve_111 rfl rfl rfl ?_
          refine gf_X4_22 (b := t + 3) (pc' := 115) rfl ht rfl dX4_relieve_112 rfl ?_
          refine z_iload_n (pc' := 116) dX4_relieve_115 rfl rfl rfl ?_
          obtain ⟨g8, hF⟩ := z_gde hF
          refine z_iaload (pc' := 117) (ar_4_f3 ht) (z_inbe g8) dX4_relieve_116 rfl ?_
          refine z_topi (fun x9 ex9 => ?_)
          replace hF := z_lte hF x9 ex9
          refine z_iconst (v := 1) (pc' := 118) dX4_relieve_117 (by decide) rfl ?_
          refine z_isub (pc' := 119) dX4_relieve_118 rfl ?_
          refine z_iload (pc' := 121) dX4_relieve_119 rfl rfl ?_
          refine z_iconst (v := 0) (pc' := 122) dX4_relieve_121 (by decide) rfl ?_
          obtain ⟨S11, hc12, hF⟩ := z_boe hF
          refine k_X4_shiftItem (F := 4) (L := 146) (pc' := 125) ht hc12 hst zw_37 rfl rfl (by decide) (by decide) (by decide) dX4_relieve_122 rfl ?_
          refine z_iinc (v := v5 + 1) (pc' := 128) dX4_relieve_125 rfl rfl (by decide) rfl rfl ?_
          refine z_goto (pc' := 72) dX4_relieve_128 (by decide) ?_
          refine z_wk (ls' := [some (.ref t), some (.int v1), some (.int v2), none, some (.int v4), some (.int (v5 + 1)), none]) (z_lec rfl (z_lec rfl (z_lec rfl (z_len1 (z_lec rfl (z_lec rfl (z_len1 z_le0))))))) ?_
          exact ih _ _ _ _ _ hF
def F_X4_relieve_69 (B : Nat) (t : Nat)  (v1 : Int32) (v2 : Int32) (v4 : Int32) (S : z_S) : Option (z_O × z_S) :=
  F_X4_relieve_72 B t z_n v1 v2 v4 0 S
set_option maxRecDepth 20000 in
set_option maxHeartbeats 16000000 in
theorem ok_X4_relieve_69 {l : Launch} {B : Nat} {t : Nat} {q : z_O × z_S} (hst : l.stackTraces = false) (ht : z_is 4 t) : ∀ (v1 : Int32) (v2 : Int32) (v4 : Int32) (S : z_S), F_X4_relieve_69 B t v1 v2 v4 S = some q → z_W l I_X4_relieve (R_X4_relieve q) B q 69 [some (.ref t), some (.int v1), some (.int v2), none, some (.int v4), none, none] [] S := by
  intro v1 v2 v4 S hF
  unfold F_X4_relieve_69 at hF
  refine z_iconst (v := 0) (pc' := 70) dX4_relieve_69 (by decide) rfl ?_
  refine z_istore (pc' := 72) dX4_relieve_70 (by decide) rfl rfl ?_
  refine z_wk (ls' := [some (.ref t), some (.int v1), some (.int v2), none, some (.int v4), some (.int 0), none]) (z_lec rfl (z_lec rfl (z_lec rfl (z_len1 (z_lec rfl (z_lec rfl (z_len1 z_le0))))))) ?_
  exact (ok_X4_relieve_72 hst ht z_n) _ _ _ _ _ hF
def F_X4_relieve_23 (B : Nat) (t : Nat)  : Nat → Int32 → Int32 → Int32 → Int32 → Int32 → z_S → Option (z_O × z_S)
  | 0, _, _, _, _, _, _ => none
  | n + 1, v1, v2, v3, v4, v5, S => if 14 ≤ v5 then
    F_X4_relieve_69 B t v1 v2 v4 S
  else
    z_gd (z_inb v1 B) (
    z_lt (S.1 (t + 4) (z_ix (v1))) fun x2 =>
    (if x2 ≤ 120 then
      F_X4_relieve_69 B t v1 v2 v4 S
    else
      z_bn (F_X4_fits B t v2 v3 S) fun r3 S4 =>
      (if r3 = 0 then
        F_X4_relieve_69 B t v1 v2 v4 S4
      else
        z_gd (z_inb v3 B) (
        z_lt (S4.1 (t + 3) (z_ix (v3))) fun x7 =>
        (z_bo (F_X4_shiftItem B t v1 0 v3 x7 S4) fun S9 =>
        (F_X4_relieve_23 B t n v1 v2 v3 v4 (v5 + 1) S9))))))
set_option maxRecDepth 20000 in
set_option maxHeartbeats 16000000 in
theorem ok_X4_relieve_23 {l : Launch} {B : Nat} {t : Nat} {q : z_O × z_S} (hst : l.stackTraces = false) (ht : z_is 4 t) : ∀ (n : Nat) (v1 : Int32) (v2 : Int32) (v3 : Int32) (v4 : Int32) (v5 : Int32) (S : z_S), F_X4_relieve_23 B t n v1 v2 v3 v4 v5 S = some q → z_W l I_X4_relieve (R_X4_relieve q) B q 23 [some (.ref t), some (.int v1), some (.int v2), some (.int v3), some (.int v4), some (.int v5), none] [] S := by
  intro n
  induction n with
  | zero => intro v1 v2 v3 v4 v5 S hF; cases hF
  | succ n ih =>
    intro v1 v2 v3 v4 v5 S hF
    rw [F_X4_relieve_23] at hF
    refine z_iload (pc' := 25) dX4_relieve_23 rfl rfl ?_
    refine z_bipush (v := 14) (pc' := 27) dX4_relieve_25 (by decide) rfl ?_
    refine z_icmp_ge (tgt := 69) (pc' := 30) dX4_relieve_27 (by decide) rfl (fun c13 => ?_) (fun c13 => ?_)
    · rw [if_pos c13] at hF
      refine z_wk (ls' := [some (.ref t), some (.int v1), some (.int v2), none, some (.int v4), none, none]) (z_lec rfl (z_lec rfl (z_lec rfl (z_len1 (z_lec rfl (z_len1 (z_len1 z_le0))))))) ?_
      exact (ok_X4_relieve_69 hst ht) _ _ _ _ hF
    · rw [if_neg c13] at hF
      refine z_aload_n (pc' := 31) dX4_relieve_30 rfl rfl rfl ?_
      refine gf_X4_25 (b := t + 4) (pc' := 34) rfl ht rfl dX4_relieve_31 rfl ?_
      refine z_iload_n (pc' := 35) dX4_relieve_34 rfl rfl rfl ?_
      obtain ⟨g1, hF⟩ := z_gde hF
      refine z_iaload (pc' := 36) (ar_4_f4 ht) (z_inbe g1) dX4_relieve_35 rfl ?_
      refine z_topi (fun x2 ex2 => ?_)
      replace hF := z_lte hF x2 ex2
      refine z_bipush (v := 120) (pc' := 38) dX4_relieve_36 (by decide) rfl ?_
      refine z_icmp_le (tgt := 69) (pc' := 41) dX4_relieve_38 (by decide) rfl (fun c12 => ?_) (fun c12 => ?_)
      · rw [if_pos c12] at hF
        refine z_wk (ls' := [some (.ref t), some (.int v1), some (.int v2), none, some (.int v4), none, none]) (z_lec rfl (z_lec rfl (z_lec rfl (z_len1 (z_lec rfl (z_len1 (z_len1 z_le0))))))) ?_
        exact (ok_X4_relieve_69 hst ht) _ _ _ _ hF
      · rw [if_neg c12] at hF
        refine z_aload_n (pc' := 42) dX4_relieve_41 rfl rfl rfl ?_
        refine z_iload_n (pc' := 43) dX4_relieve_42 rfl rfl rfl ?_
        refine z_iload_n (pc' := 44) dX4_relieve_43 rfl rfl rfl ?_
        obtain ⟨r3, S4, hc5, hF⟩ := z_bne hF
        refine k_X4_fits (F := 4) (L := 146) (pc' := 47) ht hc5 hst zw_36 rfl rfl (by decide) (by decide) (by decide) dX4_relieve_44 rfl ?_
        refine z_if_eq (tgt := 69) (pc' := 50) dX4_relieve_47 (by decide) rfl (fun c11 => ?_) (fun c11 => ?_)
        · rw [if_pos c11] at hF
          refine z_wk (ls' := [some (.ref t), some (.int v1), some (.int v2), none, some (.int v4), none, none]) (z_lec rfl (z_lec rfl (z_lec rfl (z_len1 (z_lec rfl (z_len1 (z_len1 z_le0))))))) ?_
          exact (ok_X4_relieve_69 hst ht) _ _ _ _ hF
        · rw [if_neg c11] at hF
          refine z_aload_n (pc' := 51) dX4_relieve_50 rfl rfl rfl ?_
          refine z_iload_n (pc' := 52) dX4_relieve_51 rfl rfl rfl ?_
          refine z_iconst (v := 0) (pc' := 53) dX4_relieve_52 (by decide) rfl ?_
          refine z_iload_n (pc' := 54) dX4_relieve_53 rfl rfl rfl ?_
          refine z_aload_n (pc' := 55) dX4_relieve_54 rfl rfl rfl ?_
          refine gf_X4_22 (b := t + 3) (pc' := 58) rfl ht rfl dX4_relieve_55 rfl ?_
          refine z_iload_n (pc' := 59) dX4_relieve_58 rfl rfl rfl ?_
          obtain ⟨g6, hF⟩ := z_gde hF
          refine z_iaload (pc' := 60) (ar_4_f3 ht) (z_inbe g6) dX4_relieve_59 rfl ?_
          refine z_topi (fun x7 ex7 => ?_)
          replace hF := z_lte hF x7 ex7
          obtain ⟨S9, hc10, hF⟩ := z_boe hF
          refine k_X4_shiftItem (F := 4) (L := 146) (pc' := 63) ht hc10 hst zw_37 rfl rfl (by decide) (by decide) (by decide) dX4_relieve_60 rfl ?_
          refine z_iinc (v := v5 + 1) (pc' := 66) dX4_relieve_63 rfl rfl (by decide) rfl rfl ?_
          refine z_goto (pc' := 23) dX4_relieve_66 (by decide) ?_
          refine z_wk (ls' := [some (.ref t), some (.int v1), some (.int v2), some (.int v3), some (.int v4), some (.int (v5 + 1)), none]) (z_lec rfl (z_lec rfl (z_lec rfl (z_lec rfl (z_lec rfl (z_lec rfl (z_len1 z_le0))))))) ?_
          exact ih _ _ _ _ _ _ hF
def F_X4_relieve (B : Nat) (t : Nat) (p1 : Int32) (S : z_S) : Option (z_O × z_S) :=
  z_gd (z_inb p1 B) (
  z_lt (S.1 (t + 6) (z_ix (p1))) fun x2 =>
  (z_gd (z_inb p1 B) (
  z_lt (S.1 (t + 7) (z_ix (p1))) fun x4 =>
  (F_X4_relieve_23 B t z_n p1 (p1 * 14) x2 x4 0 S))))
set_option maxRecDepth 20000 in
set_option maxHeartbeats 16000000 in
theorem c_X4_relieve {l : Launch} {B : Nat} {t : Nat} {p1 : Int32} {S : z_S} {q : z_O × z_S} (hst : l.stackTraces = false) (ht : z_is 4 t) (hF : F_X4_relieve B t p1 S = some q) : z_Met l I_X4_relieve 4 146 B [.ref t, .int p1] S q.1 q.2 := by
  refine z_enter (ls := [some (.ref t), some (.int p1), none, none, none, none, none]) (n := 5) (by decide) rfl (Nat.le_of_ble_eq_true rfl) hst ?_
  unfold F_X4_relieve at hF
  refine z_iload_n (pc' := 1) dX4_relieve_0 rfl rfl rfl ?_
  refine z_bipush (v := 14) (pc' := 3) dX4_relieve_1 (by decide) rfl ?_
  refine z_imul (pc' := 4) dX4_relieve_3 rfl ?_
  refine z_istore_n (pc' := 5) dX4_relieve_4 rfl (by decide) rfl rfl ?_
  refine z_aload_n (pc' := 6) dX4_relieve_5 rfl rfl rfl ?_
  refine gf_X4_31 (b := t + 6) (pc' := 9) rfl ht rfl dX4_relieve_6 rfl ?_
  refine z_iload_n (pc' := 10) dX4_relieve_9 rfl rfl rfl ?_
  obtain ⟨g1, hF⟩ := z_gde hF
  refine z_iaload (pc' := 11) (ar_4_f6 ht) (z_inbe g1) dX4_relieve_10 rfl ?_
  refine z_topi (fun x2 ex2 => ?_)
  replace hF := z_lte hF x2 ex2
  refine z_istore_n (pc' := 12) dX4_relieve_11 rfl (by decide) rfl rfl ?_
  refine z_aload_n (pc' := 13) dX4_relieve_12 rfl rfl rfl ?_
  refine gf_X4_34 (b := t + 7) (pc' := 16) rfl ht rfl dX4_relieve_13 rfl ?_
  refine z_iload_n (pc' := 17) dX4_relieve_16 rfl rfl rfl ?_
  obtain ⟨g3, hF⟩ := z_gde hF
  refine z_iaload (pc' := 18) (ar_4_f7 ht) (z_inbe g3) dX4_relieve_17 rfl ?_
  refine z_topi (fun x4 ex4 => ?_)
  replace hF := z_lte hF x4 ex4
  refine z_istore (pc' := 20) dX4_relieve_18 (by decide) rfl rfl ?_
  refine z_iconst (v := 0) (pc' := 21) dX4_relieve_20 (by decide) rfl ?_
  refine z_istore (pc' := 23) dX4_relieve_21 (by decide) rfl rfl ?_
  refine z_wk (ls' := [some (.ref t), some (.int p1), some (.int (p1 * 14)), some (.int x2), some (.int x4), some (.int 0), none]) (z_lec rfl (z_lec rfl (z_lec rfl (z_lec rfl (z_lec rfl (z_lec rfl (z_len1 z_le0))))))) ?_
  exact (ok_X4_relieve_23 hst ht z_n) _ _ _ _ _ _ hF
theorem ok_X4_relieve : z_okV I_X4_relieve 1 := ⟨⟨z_Gin (List.mem_of_getElem? (i := 513) (by decide +kernel)) rfl, z_Gin (List.mem_of_getElem? (i := 10) (by decide +kernel)) rfl, z_Gin (List.mem_of_getElem? (i := 92) (by decide +kernel)) rfl, z_Gin (List.mem_of_getElem? (i := 514) (by decide +kernel)) rfl⟩, by decide, by decide, by decide +kernel⟩
theorem k_X4_relieve {l : Launch} {I : z_I} {R : Room} {B : Nat} {t : Nat} {p1 : Int32} {q : z_O × z_S} {pc pc' : Nat} {ls : List (Option Value)} {st : List Value} {S S1 : z_S} {idx F L : Nat} {r : Int32} (ht : z_is 4 t) (hF : F_X4_relieve B t p1 S = some (.inl (some r), S1)) (hst : l.stackTraces = false) (w : Cond.methodLink I.1.cls idx yX4_relieve ∈ z_G) (hRF : R.frames = F) (hRL : R.locals = L) (h1 : 5 ≤ F) (h2 : 172 ≤ L) (hs : (st.map fun v => v.category).sum ≤ 8) (d : decode I.2.1 pc = .ok (.invokevirtual idx, 3)) (hp : pc + 3 = pc') (k : z_W l I R B q pc' ls (.int r :: st) S1) : z_W l I R B q pc ls (.int p1 :: .ref t :: st) S := z_callV (Y := I_X4_relieve) (As := [.int p1]) (st := st) (r := (some r)) (S1 := S1) (c_X4_relieve (q := (.inl (some r), S1)) hst ht hF) ok_X4_relieve w (ci := 4) rfl ht.1 ht.2 rfl ⟨by rw [hRF]; exact h1, by rw [hRL]; exact h2⟩ hs d hp rfl k

abbrev I_X4_putIn : z_I := (yX4_putIn, cX4_putIn, 5, some .boolean)
abbrev R_X4_putIn (q : z_O × z_S) : Room := { frames := 5, locals := 172, cells := z_mc q.1, slots := 6 * z_mc q.1 }
def F_X4_putIn (B : Nat) (t : Nat) (p1 : Int32) (p2 : Int32) (p3 : Int32) (S : z_S) : Option (z_O × z_S) :=
  z_bn (F_X4_leafOf B t p1 S) fun r1 S2 =>
  (z_bn (F_X4_placeIn B t r1 p1 S2) fun r4 S5 =>
  (z_bo (F_X4_openSlot B t r1 r4 p1 p2 p3 S5) fun S8 =>
  (z_bn (F_X4_relieve B t r1 S8) fun r10 S11 =>
  (z_gd (z_b01 r10) (some (.inl (some r10), S11))))))
set_option maxRecDepth 20000 in
set_option maxHeartbeats 16000000 in
theorem c_X4_putIn {l : Launch} {B : Nat} {t : Nat} {p1 : Int32} {p2 : Int32} {p3 : Int32} {S : z_S} {q : z_O × z_S} (hst : l.stackTraces = false) (ht : z_is 4 t) (hF : F_X4_putIn B t p1 p2 p3 S = some q) : z_Met l I_X4_putIn 5 172 B [.ref t, .int p1, .int p2, .int p3] S q.1 q.2 := by
  refine z_enter (ls := [some (.ref t), some (.int p1), some (.int p2), some (.int p3), none]) (n := 1) (by decide) rfl (Nat.le_of_ble_eq_true rfl) hst ?_
  unfold F_X4_putIn at hF
  refine z_aload_n (pc' := 1) dX4_putIn_0 rfl rfl rfl ?_
  refine z_iload_n (pc' := 2) dX4_putIn_1 rfl rfl rfl ?_
  obtain ⟨r1, S2, hc3, hF⟩ := z_bne hF
  refine k_X4_leafOf (F := 5) (L := 172) (pc' := 5) ht hc3 hst zw_23 rfl rfl (by decide) (by decide) (by decide) dX4_putIn_2 rfl ?_
  refine z_istore (pc' := 7) dX4_putIn_5 (by decide) rfl rfl ?_
  refine z_aload_n (pc' := 8) dX4_putIn_7 rfl rfl rfl ?_
  refine z_iload (pc' := 10) dX4_putIn_8 rfl rfl ?_
  refine z_aload_n (pc' := 11) dX4_putIn_10 rfl rfl rfl ?_
  refine z_iload (pc' := 13) dX4_putIn_11 rfl rfl ?_
  refine z_iload_n (pc' := 14) dX4_putIn_13 rfl rfl rfl ?_
  obtain ⟨r4, S5, hc6, hF⟩ := z_bne hF
  refine k_X4_placeIn (F := 5) (L := 172) (pc' := 17) ht hc6 hst zw_24 rfl rfl (by decide) (by decide) (Nat.le_of_ble_eq_true rfl) dX4_putIn_14 rfl ?_
  refine z_iload_n (pc' := 18) dX4_putIn_17 rfl rfl rfl ?_
  refine z_iload_n (pc' := 19) dX4_putIn_18 rfl rfl rfl ?_
  refine z_iload_n (pc' := 20) dX4_putIn_19 rfl rfl rfl ?_
  obtain ⟨S8, hc9, hF⟩ := z_boe hF
  refine k_X4_openSlot (F := 5) (L := 172) (pc' := 23) ht hc9 hst zw_34 rfl rfl (by decide) (by decide) (by decide) dX4_putIn_20 rfl ?_
  refine z_aload_n (pc' := 24) dX4_putIn_23 rfl rfl rfl ?_
  refine z_iload (pc' := 26) dX4_putIn_24 rfl rfl ?_
  obtain ⟨r10, S11, hc12, hF⟩ := z_bne hF
  refine k_X4_relieve (F := 5) (L := 172) (pc' := 29) ht hc12 hst zw_39 rfl rfl (by decide) (by decide) (by decide) dX4_putIn_26 rfl ?_
  obtain ⟨g13, hF⟩ := z_gde hF
  exact z_zreturn rfl (z_b01e g13) dX4_putIn_29 (Option.some.inj hF).symm
theorem ok_X4_putIn : z_okV I_X4_putIn 3 := ⟨⟨z_Gin (List.mem_of_getElem? (i := 508) (by decide +kernel)) rfl, z_Gin (List.mem_of_getElem? (i := 509) (by decide +kernel)) rfl, z_Gin (List.mem_of_getElem? (i := 92) (by decide +kernel)) rfl, z_Gin (List.mem_of_getElem? (i := 510) (by decide +kernel)) rfl⟩, by decide, by decide, by decide +kernel⟩
theorem k_X4_putIn {l : Launch} {I : z_I} {R : Room} {B : Nat} {t : Nat} {p1 : Int32} {p2 : Int32} {p3 : Int32} {q : z_O × z_S} {pc pc' : Nat} {ls : List (Option Value)} {st : List Value} {S S1 : z_S} {idx F L : Nat} {r : Int32} (ht : z_is 4 t) (hF : F_X4_putIn B t p1 p2 p3 S = some (.inl (some r), S1)) (hst : l.stackTraces = false) (w : Cond.methodLink I.1.cls idx yX4_putIn ∈ z_G) (hRF : R.frames = F) (hRL : R.locals = L) (h1 : 6 ≤ F) (h2 : 196 ≤ L) (hs : (st.map fun v => v.category).sum ≤ 8) (d : decode I.2.1 pc = .ok (.invokevirtual idx, 3)) (hp : pc + 3 = pc') (k : z_W l I R B q pc' ls (.int r :: st) S1) : z_W l I R B q pc ls (.int p3 :: .int p2 :: .int p1 :: .ref t :: st) S := z_callV (Y := I_X4_putIn) (As := [.int p1, .int p2, .int p3]) (st := st) (r := (some r)) (S1 := S1) (c_X4_putIn (q := (.inl (some r), S1)) hst ht hF) ok_X4_putIn w (ci := 4) rfl ht.1 ht.2 rfl ⟨by rw [hRF]; exact h1, by rw [hRL]; exact h2⟩ hs d hp rfl k

abbrev I_X4_leaveRow : z_I := (yX4_leaveRow, cX4_leaveRow, 4, none)
abbrev R_X4_leaveRow (q : z_O × z_S) : Room := { frames := 0, locals := 0, cells := z_mc q.1, slots := 6 * z_mc q.1 }
def F_X4_leaveRow_38 (B : Nat) (t : Nat)   (S : z_S) : Option (z_O × z_S) :=
  some (.inl none, S)
set_option maxRecDepth 20000 in
set_option maxHeartbeats 16000000 in
theorem ok_X4_leaveRow_38 {l : Launch} {B : Nat} {t : Nat} {q : z_O × z_S} (hst : l.stackTraces = false) (ht : z_is 4 t) : ∀ (S : z_S), F_X4_leaveRow_38 B t S = some q → z_W l I_X4_leaveRow (R_X4_leaveRow q) B q 38 [none, none, none, none] [] S := by
  intro S hF
  unfold F_X4_leaveRow_38 at hF
  exact z_return rfl dX4_leaveRow_38 (Option.some.inj hF).symm
def F_X4_leaveRow_26 (B : Nat) (t : Nat)  (v2 : Int32) (v3 : Int32) (S : z_S) : Option (z_O × z_S) :=
  if v3 = (-1) then
    F_X4_leaveRow_38 B t S
  else
    z_gd (z_inb v3 B) (
    z_lt (z_ua S (t + 6) (upd (S.1 (t + 6)) (z_ix (v3)) v2)) fun S2 =>
    (F_X4_leaveRow_38 B t S2))
set_option maxRecDepth 20000 in
set_option maxHeartbeats 16000000 in
theorem ok_X4_leaveRow_26 {l : Launch} {B : Nat} {t : Nat} {q : z_O × z_S} (hst : l.stackTraces = false) (ht : z_is 4 t) : ∀ (v2 : Int32) (v3 : Int32) (S : z_S), F_X4_leaveRow_26 B t v2 v3 S = some q → z_W l I_X4_leaveRow (R_X4_leaveRow q) B q 26 [some (.ref t), none, some (.int v2), some (.int v3)] [] S := by
  intro v2 v3 S hF
  unfold F_X4_leaveRow_26 at hF
  refine z_iload_n (pc' := 27) dX4_leaveRow_26 rfl rfl rfl ?_
  refine z_iconst (v := (-1)) (pc' := 28) dX4_leaveRow_27 (by decide) rfl ?_
  refine z_icmp_eq (tgt := 38) (pc' := 31) dX4_leaveRow_28 (by decide) rfl (fun c3 => ?_) (fun c3 => ?_)
  · rw [if_pos c3] at hF
    refine z_wk (ls' := [none, none, none, none]) (z_len1 (z_len1 (z_len1 (z_len1 z_le0)))) ?_
    exact (ok_X4_leaveRow_38 hst ht) _ hF
  · rw [if_neg c3] at hF
    refine z_aload_n (pc' := 32) dX4_leaveRow_31 rfl rfl rfl ?_
    refine gf_X4_31 (b := t + 6) (pc' := 35) rfl ht rfl dX4_leaveRow_32 rfl ?_
    refine z_iload_n (pc' := 36) dX4_leaveRow_35 rfl rfl rfl ?_
    refine z_iload_n (pc' := 37) dX4_leaveRow_36 rfl rfl rfl ?_
    obtain ⟨g1, hF⟩ := z_gde hF
    refine z_iastore (pc' := 38) (ar_4_f6 ht) (z_inbe g1) dX4_leaveRow_37 rfl (fun S2 eS2 => ?_)
    replace hF := z_lte hF S2 eS2
    refine z_wk (ls' := [none, none, none, none]) (z_len1 (z_len1 (z_len1 (z_len1 z_le0)))) ?_
    exact (ok_X4_leaveRow_38 hst ht) _ hF
def F_X4_leaveRow (B : Nat) (t : Nat) (p1 : Int32) (S : z_S) : Option (z_O × z_S) :=
  z_gd (z_inb p1 B) (
  z_lt (S.1 (t + 6) (z_ix (p1))) fun x2 =>
  (z_gd (z_inb p1 B) (
  z_lt (S.1 (t + 7) (z_ix (p1))) fun x4 =>
  (if x2 = (-1) then
    F_X4_leaveRow_26 B t x2 x4 S
  else
    z_gd (z_inb x2 B) (
    z_lt (z_ua S (t + 7) (upd (S.1 (t + 7)) (z_ix (x2)) x4)) fun S6 =>
    (F_X4_leaveRow_26 B t x2 x4 S6))))))
set_option maxRecDepth 20000 in
set_option maxHeartbeats 16000000 in
theorem c_X4_leaveRow {l : Launch} {B : Nat} {t : Nat} {p1 : Int32} {S : z_S} {q : z_O × z_S} (hst : l.stackTraces = false) (ht : z_is 4 t) (hF : F_X4_leaveRow B t p1 S = some q) : z_Met l I_X4_leaveRow 0 0 B [.ref t, .int p1] S q.1 q.2 := by
  refine z_enter (ls := [some (.ref t), some (.int p1), none, none]) (n := 2) (by decide) rfl (Nat.le_of_ble_eq_true rfl) hst ?_
  unfold F_X4_leaveRow at hF
  refine z_aload_n (pc' := 1) dX4_leaveRow_0 rfl rfl rfl ?_
  refine gf_X4_31 (b := t + 6) (pc' := 4) rfl ht rfl dX4_leaveRow_1 rfl ?_
  refine z_iload_n (pc' := 5) dX4_leaveRow_4 rfl rfl rfl ?_
  obtain ⟨g1, hF⟩ := z_gde hF
  refine z_iaload (pc' := 6) (ar_4_f6 ht) (z_inbe g1) dX4_leaveRow_5 rfl ?_
  refine z_topi (fun x2 ex2 => ?_)
  replace hF := z_lte hF x2 ex2
  refine z_istore_n (pc' := 7) dX4_leaveRow_6 rfl (by decide) rfl rfl ?_
  refine z_aload_n (pc' := 8) dX4_leaveRow_7 rfl rfl rfl ?_
  refine gf_X4_34 (b := t + 7) (pc' := 11) rfl ht rfl dX4_leaveRow_8 rfl ?_
  refine z_iload_n (pc' := 12) dX4_leaveRow_11 rfl rfl rfl ?_
  obtain ⟨g3, hF⟩ := z_gde hF
  refine z_iaload (pc' := 13) (ar_4_f7 ht) (z_inbe g3) dX4_leaveRow_12 rfl ?_
  refine z_topi (fun x4 ex4 => ?_)
  replace hF := z_lte hF x4 ex4
  refine z_istore_n (pc' := 14) dX4_leaveRow_13 rfl (by decide) rfl rfl ?_
  refine z_iload_n (pc' := 15) dX4_leaveRow_14 rfl rfl rfl ?_
  refine z_iconst (v := (-1)) (pc' := 16) dX4_leaveRow_15 (by decide) rfl ?_
  refine z_icmp_eq (tgt := 26) (pc' := 19) dX4_leaveRow_16 (by decide) rfl (fun c7 => ?_) (fun c7 => ?_)
  · rw [if_pos c7] at hF
    refine z_wk (ls' := [some (.ref t), none, some (.int x2), some (.int x4)]) (z_lec rfl (z_len1 (z_lec rfl (z_lec rfl z_le0)))) ?_
    exact (ok_X4_leaveRow_26 hst ht) _ _ _ hF
  · rw [if_neg c7] at hF
    refine z_aload_n (pc' := 20) dX4_leaveRow_19 rfl rfl rfl ?_
    refine gf_X4_34 (b := t + 7) (pc' := 23) rfl ht rfl dX4_leaveRow_20 rfl ?_
    refine z_iload_n (pc' := 24) dX4_leaveRow_23 rfl rfl rfl ?_
    refine z_iload_n (pc' := 25) dX4_leaveRow_24 rfl rfl rfl ?_
    obtain ⟨g5, hF⟩ := z_gde hF
    refine z_iastore (pc' := 26) (ar_4_f7 ht) (z_inbe g5) dX4_leaveRow_25 rfl (fun S6 eS6 => ?_)
    replace hF := z_lte hF S6 eS6
    refine z_wk (ls' := [some (.ref t), none, some (.int x2), some (.int x4)]) (z_lec rfl (z_len1 (z_lec rfl (z_lec rfl z_le0)))) ?_
    exact (ok_X4_leaveRow_26 hst ht) _ _ _ hF
theorem ok_X4_leaveRow : z_okV I_X4_leaveRow 1 := ⟨⟨z_Gin (List.mem_of_getElem? (i := 604) (by decide +kernel)) rfl, z_Gin (List.mem_of_getElem? (i := 26) (by decide +kernel)) rfl, z_Gin (List.mem_of_getElem? (i := 92) (by decide +kernel)) rfl, z_Gin (List.mem_of_getElem? (i := 605) (by decide +kernel)) rfl⟩, by decide, by decide, by decide +kernel⟩
theorem k_X4_leaveRow {l : Launch} {I : z_I} {R : Room} {B : Nat} {t : Nat} {p1 : Int32} {q : z_O × z_S} {pc pc' : Nat} {ls : List (Option Value)} {st : List Value} {S S1 : z_S} {idx F L : Nat} (ht : z_is 4 t) (hF : F_X4_leaveRow B t p1 S = some (.inl none, S1)) (hst : l.stackTraces = false) (w : Cond.methodLink I.1.cls idx yX4_leaveRow ∈ z_G) (hRF : R.frames = F) (hRL : R.locals = L) (h1 : 1 ≤ F) (h2 : 23 ≤ L) (hs : (st.map fun v => v.category).sum ≤ 8) (d : decode I.2.1 pc = .ok (.invokevirtual idx, 3)) (hp : pc + 3 = pc') (k : z_W l I R B q pc' ls st S1) : z_W l I R B q pc ls (.int p1 :: .ref t :: st) S := z_callV (Y := I_X4_leaveRow) (As := [.int p1]) (st := st) (r := none) (S1 := S1) (c_X4_leaveRow (q := (.inl none, S1)) hst ht hF) ok_X4_leaveRow w (ci := 4) rfl ht.1 ht.2 rfl ⟨by rw [hRF]; exact h1, by rw [hRL]; exact h2⟩ hs d hp rfl k

abbrev I_X4_dropNode : z_I := (yX4_dropNode, cX4_dropNode, 7, none)
abbrev R_X4_dropNode (q : z_O × z_S) : Room := { frames := 3, locals := 118, cells := z_mc q.1, slots := 6 * z_mc q.1 }
def F_X4_dropNode_237 (B : Nat) (t : Nat)   (S : z_S) : Option (z_O × z_S) :=
  some (.inl none, S)
set_option maxRecDepth 20000 in
set_option maxHeartbeats 16000000 in
theorem ok_X4_dropNode_237 {l : Launch} {B : Nat} {t : Nat} {q : z_O × z_S} (hst : l.stackTraces = false) (ht : z_is 4 t) : ∀ (S : z_S), F_X4_dropNode_237 B t S = some q → z_W l I_X4_dropNode (R_X4_dropNode q) B q 237 [none, none, none, none, none, none, none] [] S := by
  intro S hF
  unfold F_X4_dropNode_237 at hF
  exact z_return rfl dX4_dropNode_237 (Option.some.inj hF).symm
def F_X4_dropNode_190 (B : Nat) (t : Nat)  (v4 : Int32) (v5 : Int32) (v6 : Int32) (S : z_S) : Option (z_O × z_S) :=
  if v5 = (-1) then
    if v6 = (-1) then
      F_X4_dropNode_237 B t S
    else
      z_gd (z_inb v4 B) (
      z_lt (S.1 (t + 3) (z_ix (v4))) fun x2 =>
      (z_bo (F_X4_shiftChild B t v6 0 v4 x2 S) fun S4 =>
      (F_X4_dropNode_237 B t S4)))
  else
    z_gd (z_inb v5 B) (
    z_lt (S.1 (t + 3) (z_ix (v5))) fun x8 =>
    (z_bo (F_X4_shiftChild B t v5 (x8 - 1) v4 0 S) fun S10 =>
    (some (.inl none, S10))))
set_option maxRecDepth 20000 in
set_option maxHeartbeats 16000000 in
theorem ok_X4_dropNode_190 {l : Launch} {B : Nat} {t : Nat} {q : z_O × z_S} (hst : l.stackTraces = false) (ht : z_is 4 t) : ∀ (v4 : Int32) (v5 : Int32) (v6 : Int32) (S : z_S), F_X4_dropNode_190 B t v4 v5 v6 S = some q → z_W l I_X4_dropNode (R_X4_dropNode q) B q 190 [some (.ref t), none, none, none, some (.int v4), some (.int v5), some (.int v6)] [] S := by
  intro v4 v5 v6 S hF
  unfold F_X4_dropNode_190 at hF
  refine z_iload (pc' := 192) dX4_dropNode_190 rfl rfl ?_
  refine z_iconst (v := (-1)) (pc' := 193) dX4_dropNode_192 (by decide) rfl ?_
  refine z_icmp_eq (tgt := 215) (pc' := 196) dX4_dropNode_193 (by decide) rfl (fun c12 => ?_) (fun c12 => ?_)
  · rw [if_pos c12] at hF
    refine z_iload (pc' := 217) dX4_dropNode_215 rfl rfl ?_
    refine z_iconst (v := (-1)) (pc' := 218) dX4_dropNode_217 (by decide) rfl ?_
    refine z_icmp_eq (tgt := 237) (pc' := 221) dX4_dropNode_218 (by decide) rfl (fun c6 => ?_) (fun c6 => ?_)
    · rw [if_pos c6] at hF
      refine z_wk (ls' := [none, none, none, none, none, none, none]) (z_len1 (z_len1 (z_len1 (z_len1 (z_len1 (z_len1 (z_len1 z_le0))))))) ?_
      exact (ok_X4_dropNode_237 hst ht) _ hF
    · rw [if_neg c6] at hF
      refine z_aload_n (pc' := 222) dX4_dropNode_221 rfl rfl rfl ?_
      refine z_iload (pc' := 224) dX4_dropNode_222 rfl rfl ?_
      refine z_iconst (v := 0) (pc' := 225) dX4_dropNode_224 (by decide) rfl ?_
      refine z_iload (pc' := 227) dX4_dropNode_225 rfl rfl ?_
      refine z_aload_n (pc' := 228) dX4_dropNode_227 rfl rfl rfl ?_
      refine gf_X4_22 (b := t + 3) (pc' := 231) rfl ht rfl dX4_dropNode_228 rfl ?_
      refine z_iload (pc' := 233) dX4_dropNode_231 rfl rfl ?_
      obtain ⟨g1, hF⟩ := z_gde hF
      refine z_iaload (pc' := 234) (ar_4_f3 ht) (z_inbe g1) dX4_dropNode_233 rfl ?_
      refine z_topi (fun x2 ex2 => ?_)
      replace hF := z_lte hF x2 ex2
      obtain ⟨S4, hc5, hF⟩ := z_boe hF
      refine k_X4_shiftChild (F := 3) (L := 118) (pc' := 237) ht hc5 hst zw_33 rfl rfl (by decide) (by decide) (by decide) dX4_dropNode_234 rfl ?_
      refine z_wk (ls' := [none, none, none, none, none, none, none]) (z_len1 (z_len1 (z_len1 (z_len1 (z_len1 (z_len1 (z_len1 z_le0))))))) ?_
      exact (ok_X4_dropNode_237 hst ht) _ hF
  · rw [if_neg c12] at hF
    refine z_aload_n (pc' := 197) dX4_dropNode_196 rfl rfl rfl ?_
    refine z_iload (pc' := 199) dX4_dropNode_197 rfl rfl ?_
    refine z_aload_n (pc' := 200) dX4_dropNode_199 rfl rfl rfl ?_
    refine gf_X4_22 (b := t + 3) (pc' := 203) rfl ht rfl dX4_dropNode_200 rfl ?_
    refine z_iload (pc' := 205) dX4_dropNode_203 rfl rfl ?_
    obtain ⟨g7, hF⟩ := z_gde hF
    refine z_iaload (pc' := 206) (ar_4_f3 ht) (z_inbe g7) dX4_dropNode_205 rfl ?_
    refine z_topi (fun x8 ex8 => ?_)
    replace hF := z_lte hF x8 ex8
    refine z_iconst (v := 1) (pc' := 207) dX4_dropNode_206 (by decide) rfl ?_
    refine z_isub (pc' := 208) dX4_dropNode_207 rfl ?_
    refine z_iload (pc' := 210) dX4_dropNode_208 rfl rfl ?_
    refine z_iconst (v := 0) (pc' := 211) dX4_dropNode_210 (by decide) rfl ?_
    obtain ⟨S10, hc11, hF⟩ := z_boe hF
    refine k_X4_shiftChild (F := 3) (L := 118) (pc' := 214) ht hc11 hst zw_33 rfl rfl (by decide) (by decide) (by decide) dX4_dropNode_211 rfl ?_
    exact z_return rfl dX4_dropNode_214 (Option.some.inj hF).symm
def F_X4_dropNode_238 (B : Nat) (t : Nat) (k4 : Int32 → Int32 → z_S → Option (z_O × z_S)) (v3 : Int32) (v4 : Int32) (S : z_S) : Option (z_O × z_S) :=
  k4 v4 (v3 + 1) S
set_option maxRecDepth 20000 in
set_option maxHeartbeats 16000000 in
theorem ok_X4_dropNode_238 {l : Launch} {B : Nat} {t : Nat} {q : z_O × z_S} (hst : l.stackTraces = false) (ht : z_is 4 t) {k4 : Int32 → Int32 → z_S → Option (z_O × z_S)} (hk4 : ∀ (v2 : Int32) (v3 : Int32) (S : z_S), k4 v2 v3 S = some q → z_W l I_X4_dropNode (R_X4_dropNode q) B q 4 [some (.ref t), none, some (.int v2), some (.int v3), none, none, none] [] S) : ∀ (v3 : Int32) (v4 : Int32) (S : z_S), F_X4_dropNode_238 B t k4 v3 v4 S = some q → z_W l I_X4_dropNode (R_X4_dropNode q) B q 238 [some (.ref t), none, none, some (.int v3), some (.int v4), none, none] [] S := by
  intro v3 v4 S hF
  unfold F_X4_dropNode_238 at hF
  refine z_iload (pc' := 240) dX4_dropNode_238 rfl rfl ?_
  refine z_istore_n (pc' := 241) dX4_dropNode_240 rfl (by decide) rfl rfl ?_
  refine z_iinc (v := v3 + 1) (pc' := 244) dX4_dropNode_241 rfl rfl (by decide) rfl rfl ?_
  refine z_goto (pc' := 4) dX4_dropNode_244 (by decide) ?_
  refine z_wk (ls' := [some (.ref t), none, some (.int v4), some (.int (v3 + 1)), none, none, none]) (z_lec rfl (z_len1 (z_lec rfl (z_lec rfl (z_len1 (z_len1 (z_len1 z_le0))))))) ?_
  exact hk4 _ _ _ hF
def F_X4_dropNode_160 (B : Nat) (t : Nat) (k238 : Int32 → Int32 → z_S → Option (z_O × z_S)) (v3 : Int32) (v4 : Int32) (v5 : Int32) (v6 : Int32) (S : z_S) : Option (z_O × z_S) :=
  if v6 = (-1) then
    F_X4_dropNode_190 B t v4 v5 v6 S
  else
    z_gd (z_inb v6 B) (
    z_lt (S.1 (t + 3) (z_ix (v6))) fun x2 =>
    (if 5 ≤ x2 then
      F_X4_dropNode_190 B t v4 v5 v6 S
    else
      z_bo (F_X4_shiftChild B t v4 0 v6 0 S) fun S4 =>
      (k238 v3 v4 S4)))
set_option maxRecDepth 20000 in
set_option maxHeartbeats 16000000 in
theorem ok_X4_dropNode_160 {l : Launch} {B : Nat} {t : Nat} {q : z_O × z_S} (hst : l.stackTraces = false) (ht : z_is 4 t) {k238 : Int32 → Int32 → z_S → Option (z_O × z_S)} (hk238 : ∀ (v3 : Int32) (v4 : Int32) (S : z_S), k238 v3 v4 S = some q → z_W l I_X4_dropNode (R_X4_dropNode q) B q 238 [some (.ref t), none, none, some (.int v3), some (.int v4), none, none] [] S) : ∀ (v3 : Int32) (v4 : Int32) (v5 : Int32) (v6 : Int32) (S : z_S), F_X4_dropNode_160 B t k238 v3 v4 v5 v6 S = some q → z_W l I_X4_dropNode (R_X4_dropNode q) B q 160 [some (.ref t), none, none, some (.int v3), some (.int v4), some (.int v5), some (.int v6)] [] S := by
  intro v3 v4 v5 v6 S hF
  unfold F_X4_dropNode_160 at hF
  refine z_iload (pc' := 162) dX4_dropNode_160 rfl rfl ?_
  refine z_iconst (v := (-1)) (pc' := 163) dX4_dropNode_162 (by decide) rfl ?_
  refine z_icmp_eq (tgt := 190) (pc' := 166) dX4_dropNode_163 (by decide) rfl (fun c7 => ?_) (fun c7 => ?_)
  · rw [if_pos c7] at hF
    refine z_wk (ls' := [some (.ref t), none, none, none, some (.int v4), some (.int v5), some (.int v6)]) (z_lec rfl (z_len1 (z_len1 (z_len1 (z_lec rfl (z_lec rfl (z_lec rfl z_le0))))))) ?_
    exact (ok_X4_dropNode_190 hst ht) _ _ _ _ hF
  · rw [if_neg c7] at hF
    refine z_aload_n (pc' := 167) dX4_dropNode_166 rfl rfl rfl ?_
    refine gf_X4_22 (b := t + 3) (pc' := 170) rfl ht rfl dX4_dropNode_167 rfl ?_
    refine z_iload (pc' := 172) dX4_dropNode_170 rfl rfl ?_
    obtain ⟨g1, hF⟩ := z_gde hF
    refine z_iaload (pc' := 173) (ar_4_f3 ht) (z_inbe g1) dX4_dropNode_172 rfl ?_
    refine z_topi (fun x2 ex2 => ?_)
    replace hF := z_lte hF x2 ex2
    refine z_iconst (v := 5) (pc' := 174) dX4_dropNode_173 (by decide) rfl ?_
    refine z_icmp_ge (tgt := 190) (pc' := 177) dX4_dropNode_174 (by decide) rfl (fun c6 => ?_) (fun c6 => ?_)
    · rw [if_pos c6] at hF
      refine z_wk (ls' := [some (.ref t), none, none, none, some (.int v4), some (.int v5), some (.int v6)]) (z_lec rfl (z_len1 (z_len1 (z_len1 (z_lec rfl (z_lec rfl (z_lec rfl z_le0))))))) ?_
      exact (ok_X4_dropNode_190 hst ht) _ _ _ _ hF
    · rw [if_neg c6] at hF
      refine z_aload_n (pc' := 178) dX4_dropNode_177 rfl rfl rfl ?_
      refine z_iload (pc' := 180) dX4_dropNode_178 rfl rfl ?_
      refine z_iconst (v := 0) (pc' := 181) dX4_dropNode_180 (by decide) rfl ?_
      refine z_iload (pc' := 183) dX4_dropNode_181 rfl rfl ?_
      refine z_iconst (v := 0) (pc' := 184) dX4_dropNode_183 (by decide) rfl ?_
      obtain ⟨S4, hc5, hF⟩ := z_boe hF
      refine k_X4_shiftChild (F := 3) (L := 118) (pc' := 187) ht hc5 hst zw_33 rfl rfl (by decide) (by decide) (by decide) dX4_dropNode_184 rfl ?_
      refine z_goto (pc' := 238) dX4_dropNode_187 (by decide) ?_
      refine z_wk (ls' := [some (.ref t), none, none, some (.int v3), some (.int v4), none, none]) (z_lec rfl (z_len1 (z_len1 (z_lec rfl (z_lec rfl (z_len1 (z_len1 z_le0))))))) ?_
      exact hk238 _ _ _ hF
def F_X4_dropNode_4 (B : Nat) (t : Nat)  : Nat → Int32 → Int32 → z_S → Option (z_O × z_S)
  | 0, _, _, _ => none
  | n + 1, v2, v3, S => if 8 ≤ v3 then
    some (.inl none, S)
  else
    z_gd (z_inb v2 B) (
    z_lt (S.1 (t + 5) (z_ix (v2))) fun x2 =>
    (z_bo (F_X4_leaveRow B t v2 S) fun S4 =>
    (z_gd (z_inb v2 B) (
    z_lt (z_ua S4 (t + 1) (upd (S4.1 (t + 1)) (z_ix (v2)) 0)) fun S7 =>
    (if x2 = (-1) then
      some (.inl none, S7)
    else
      z_bn (F_X4_placeOf B t v2 x2 S7) fun r8 S9 =>
      (z_bo (F_X4_closeChild B t x2 r8 S9) fun S12 =>
      (z_gd (z_inb x2 B) (
      z_lt (S12.1 (t + 3) (z_ix (x2))) fun x15 =>
      (if x15 = 1 then
        z_gd (z_inb x2 B) (
        z_lt (S12.1 (t + 5) (z_ix (x2))) fun x17 =>
        (if x17 = (-1) then
          z_gd (z_inb (x2 * 6) (6 * B)) (
          z_lt (S12.1 (t + 8) (z_ix (x2 * 6))) fun x32 =>
          (z_lt (z_ui S12 t 12 x32) fun S33 =>
          (z_gd (z_inb (S33.2.1 t 12) B) (
          z_lt (z_ua S33 (t + 5) (upd (S33.1 (t + 5)) (z_ix (S33.2.1 t 12)) (-1))) fun S35 =>
          (z_gd (z_inb x2 B) (
          z_lt (z_ua S35 (t + 1) (upd (S35.1 (t + 1)) (z_ix (x2)) 0)) fun S37 =>
          (some (.inl none, S37))))))))
        else
          z_gd (z_inb x2 B) (
          z_lt (S12.1 (t + 6) (z_ix (x2))) fun x19 =>
          (z_gd (z_inb x2 B) (
          z_lt (S12.1 (t + 7) (z_ix (x2))) fun x21 =>
          (if x19 = (-1) then
            F_X4_dropNode_160 B t (F_X4_dropNode_238 B t (F_X4_dropNode_4 B t n) ) v3 x2 x19 x21 S12
          else
            z_gd (z_inb x19 B) (
            z_lt (S12.1 (t + 3) (z_ix (x19))) fun x23 =>
            (if 5 ≤ x23 then
              F_X4_dropNode_160 B t (F_X4_dropNode_238 B t (F_X4_dropNode_4 B t n) ) v3 x2 x19 x21 S12
            else
              z_gd (z_inb x19 B) (
              z_lt (S12.1 (t + 3) (z_ix (x19))) fun x25 =>
              (z_bo (F_X4_shiftChild B t x2 0 x19 x25 S12) fun S27 =>
              (F_X4_dropNode_238 B t (F_X4_dropNode_4 B t n) v3 x2 S27)))))))))))
      else
        some (.inl none, S12))))))))))
set_option maxRecDepth 20000 in
set_option maxHeartbeats 16000000 in
theorem ok_X4_dropNode_4 {l : Launch} {B : Nat} {t : Nat} {q : z_O × z_S} (hst : l.stackTraces = false) (ht : z_is 4 t) : ∀ (n : Nat) (v2 : Int32) (v3 : Int32) (S : z_S), F_X4_dropNode_4 B t n v2 v3 S = some q → z_W l I_X4_dropNode (R_X4_dropNode q) B q 4 [some (.ref t), none, some (.int v2), some (.int v3), none, none, none] [] S := by
  intro n
  induction n with
  | zero => intro v2 v3 S hF; cases hF
  | succ n ih =>
    intro v2 v3 S hF
    rw [F_X4_dropNode_4] at hF
    refine z_iload_n (pc' := 5) dX4_dropNode_4 rfl rfl rfl ?_
    refine z_bipush (v := 8) (pc' := 7) dX4_dropNode_5 (by decide) rfl ?_
    refine z_icmp_ge (tgt := 247) (pc' := 10) dX4_dropNode_7 (by decide) rfl (fun c41 => ?_) (fun c41 => ?_)
    · rw [if_pos c41] at hF
      exact z_return rfl dX4_dropNode_247 (Option.some.inj hF).symm
    · rw [if_neg c41] at hF
      refine z_aload_n (pc' := 11) dX4_dropNode_10 rfl rfl rfl ?_
      refine gf_X4_28 (b := t + 5) (pc' := 14) rfl ht rfl dX4_dropNode_11 rfl ?_
      refine z_iload_n (pc' := 15) dX4_dropNode_14 rfl rfl rfl ?_
      obtain ⟨g1, hF⟩ := z_gde hF
      refine z_iaload (pc' := 16) (ar_4_f5 ht) (z_inbe g1) dX4_dropNode_15 rfl ?_
      refine z_topi (fun x2 ex2 => ?_)
      replace hF := z_lte hF x2 ex2
      refine z_istore (pc' := 18) dX4_dropNode_16 (by decide) rfl rfl ?_
      refine z_aload_n (pc' := 19) dX4_dropNode_18 rfl rfl rfl ?_
      refine z_iload_n (pc' := 20) dX4_dropNode_19 rfl rfl rfl ?_
      obtain ⟨S4, hc5, hF⟩ := z_boe hF
      refine k_X4_leaveRow (F := 3) (L := 118) (pc' := 23) ht hc5 hst zw_40 rfl rfl (by decide) (by decide) (by decide) dX4_dropNode_20 rfl ?_
      refine z_aload_n (pc' := 24) dX4_dropNode_23 rfl rfl rfl ?_
      refine gf_X4_15 (b := t + 1) (pc' := 27) rfl ht rfl dX4_dropNode_24 rfl ?_
      refine z_iload_n (pc' := 28) dX4_dropNode_27 rfl rfl rfl ?_
      refine z_iconst (v := 0) (pc' := 29) dX4_dropNode_28 (by decide) rfl ?_
      obtain ⟨g6, hF⟩ := z_gde hF
      refine z_iastore (pc' := 30) (ar_4_f1 ht) (z_inbe g6) dX4_dropNode_29 rfl (fun S7 eS7 => ?_)
      replace hF := z_lte hF S7 eS7
      refine z_iload (pc' := 32) dX4_dropNode_30 rfl rfl ?_
      refine z_iconst (v := (-1)) (pc' := 33) dX4_dropNode_32 (by decide) rfl ?_
      refine z_icmp_ne (tgt := 37) (pc' := 36) dX4_dropNode_33 (by decide) rfl (fun c40 => ?_) (fun c40 => ?_)
      · rw [if_neg c40] at hF
        refine z_aload_n (pc' := 38) dX4_dropNode_37 rfl rfl rfl ?_
        refine z_iload (pc' := 40) dX4_dropNode_38 rfl rfl ?_
        refine z_aload_n (pc' := 41) dX4_dropNode_40 rfl rfl rfl ?_
        refine z_iload_n (pc' := 42) dX4_dropNode_41 rfl rfl rfl ?_
        refine z_iload (pc' := 44) dX4_dropNode_42 rfl rfl ?_
        obtain ⟨r8, S9, hc10, hF⟩ := z_bne hF
        refine k_X4_placeOf (F := 3) (L := 118) (pc' := 47) ht hc10 hst zw_31 rfl rfl (by decide) (by decide) (Nat.le_of_ble_eq_true rfl) dX4_dropNode_44 rfl ?_
        obtain ⟨S12, hc13, hF⟩ := z_boe hF
        refine k_X4_closeChild (F := 3) (L := 118) (pc' := 50) ht hc13 hst zw_29 rfl rfl (by decide) (by decide) (by decide) dX4_dropNode_47 rfl ?_
        refine z_aload_n (pc' := 51) dX4_dropNode_50 rfl rfl rfl ?_
        refine gf_X4_22 (b := t + 3) (pc' := 54) rfl ht rfl dX4_dropNode_51 rfl ?_
        refine z_iload (pc' := 56) dX4_dropNode_54 rfl rfl ?_
        obtain ⟨g14, hF⟩ := z_gde hF
        refine z_iaload (pc' := 57) (ar_4_f3 ht) (z_inbe g14) dX4_dropNode_56 rfl ?_
        refine z_topi (fun x15 ex15 => ?_)
        replace hF := z_lte hF x15 ex15
        refine z_iconst (v := 1) (pc' := 58) dX4_dropNode_57 (by decide) rfl ?_
        refine z_icmp_eq (tgt := 62) (pc' := 61) dX4_dropNode_58 (by decide) rfl (fun c39 => ?_) (fun c39 => ?_)
        · rw [if_pos c39] at hF
          refine z_aload_n (pc' := 63) dX4_dropNode_62 rfl rfl rfl ?_
          refine gf_X4_28 (b := t + 5) (pc' := 66) rfl ht rfl dX4_dropNode_63 rfl ?_
          refine z_iload (pc' := 68) dX4_dropNode_66 rfl rfl ?_
          obtain ⟨g16, hF⟩ := z_gde hF
          refine z_iaload (pc' := 69) (ar_4_f5 ht) (z_inbe g16) dX4_dropNode_68 rfl ?_
          refine z_topi (fun x17 ex17 => ?_)
          replace hF := z_lte hF x17 ex17
          refine z_iconst (v := (-1)) (pc' := 70) dX4_dropNode_69 (by decide) rfl ?_
          refine z_icmp_ne (tgt := 106) (pc' := 73) dX4_dropNode_70 (by decide) rfl (fun c38 => ?_) (fun c38 => ?_)
          · rw [if_neg c38] at hF
            refine z_aload_n (pc' := 107) dX4_dropNode_106 rfl rfl rfl ?_
            refine gf_X4_31 (b := t + 6) (pc' := 110) rfl ht rfl dX4_dropNode_107 rfl ?_
            refine z_iload (pc' := 112) dX4_dropNode_110 rfl rfl ?_
            obtain ⟨g18, hF⟩ := z_gde hF
            refine z_iaload (pc' := 113) (ar_4_f6 ht) (z_inbe g18) dX4_dropNode_112 rfl ?_
            refine z_topi (fun x19 ex19 => ?_)
            replace hF := z_lte hF x19 ex19
            refine z_istore (pc' := 115) dX4_dropNode_113 (by decide) rfl rfl ?_
            refine z_aload_n (pc' := 116) dX4_dropNode_115 rfl rfl rfl ?_
            refine gf_X4_34 (b := t + 7) (pc' := 119) rfl ht rfl dX4_dropNode_116 rfl ?_
            refine z_iload (pc' := 121) dX4_dropNode_119 rfl rfl ?_
            obtain ⟨g20, hF⟩ := z_gde hF
            refine z_iaload (pc' := 122) (ar_4_f7 ht) (z_inbe g20) dX4_dropNode_121 rfl ?_
            refine z_topi (fun x21 ex21 => ?_)
            replace hF := z_lte hF x21 ex21
            refine z_istore (pc' := 124) dX4_dropNode_122 (by decide) rfl rfl ?_
            refine z_iload (pc' := 126) dX4_dropNode_124 rfl rfl ?_
            refine z_iconst (v := (-1)) (pc' := 127) dX4_dropNode_126 (by decide) rfl ?_
            refine z_icmp_eq (tgt := 160) (pc' := 130) dX4_dropNode_127 (by decide) rfl (fun c30 => ?_) (fun c30 => ?_)
            · rw [if_pos c30] at hF
              refine z_wk (ls' := [some (.ref t), none, none, some (.int v3), some (.int x2), some (.int x19), some (.int x21)]) (z_lec rfl (z_len1 (z_len1 (z_lec rfl (z_lec rfl (z_lec rfl (z_lec rfl z_le0))))))) ?_
              exact (ok_X4_dropNode_160 hst ht (ok_X4_dropNode_238 hst ht ih)) _ _ _ _ _ hF
            · rw [if_neg c30] at hF
              refine z_aload_n (pc' := 131) dX4_dropNode_130 rfl rfl rfl ?_
              refine gf_X4_22 (b := t + 3) (pc' := 134) rfl ht rfl dX4_dropNode_131 rfl ?_
              refine z_iload (pc' := 136) dX4_dropNode_134 rfl rfl ?_
              obtain ⟨g22, hF⟩ := z_gde hF
              refine z_iaload (pc' := 137) (ar_4_f3 ht) (z_inbe g22) dX4_dropNode_136 rfl ?_
              refine z_topi (fun x23 ex23 => ?_)
              replace hF := z_lte hF x23 ex23
              refine z_iconst (v := 5) (pc' := 138) dX4_dropNode_137 (by decide) rfl ?_
              refine z_icmp_ge (tgt := 160) (pc' := 141) dX4_dropNode_138 (by decide) rfl (fun c29 => ?_) (fun c29 => ?_)
              · rw [if_pos c29] at hF
                refine z_wk (ls' := [some (.ref t), none, none, some (.int v3), some (.int x2), some (.int x19), some (.int x21)]) (z_lec rfl (z_len1 (z_len1 (z_lec rfl (z_lec rfl (z_lec rfl (z_lec rfl z_le0))))))) ?_
                exact (ok_X4_dropNode_160 hst ht (ok_X4_dropNode_238 hst ht ih)) _ _ _ _ _ hF
              · rw [if_neg c29] at hF
                refine z_aload_n (pc' := 142) dX4_dropNode_141 rfl rfl rfl ?_
                refine z_iload (pc' := 144) dX4_dropNode_142 rfl rfl ?_
                refine z_iconst (v := 0) (pc' := 145) dX4_dropNode_144 (by decide) rfl ?_
                refine z_iload (pc' := 147) dX4_dropNode_145 rfl rfl ?_
                refine z_aload_n (pc' := 148) dX4_dropNode_147 rfl rfl rfl ?_
                refine gf_X4_22 (b := t + 3) (pc' := 151) rfl ht rfl dX4_dropNode_148 rfl ?_
                refine z_iload (pc' := 153) dX4_dropNode_151 rfl rfl ?_
                obtain ⟨g24, hF⟩ := z_gde hF
                refine z_iaload (pc' := 154) (ar_4_f3 ht) (z_inbe g24) dX4_dropNode_153 rfl ?_
                refine z_topi (fun x25 ex25 => ?_)
                replace hF := z_lte hF x25 ex25
                obtain ⟨S27, hc28, hF⟩ := z_boe hF
                refine k_X4_shiftChild (F := 3) (L := 118) (pc' := 157) ht hc28 hst zw_33 rfl rfl (by decide) (by decide) (by decide) dX4_dropNode_154 rfl ?_
                refine z_goto (pc' := 238) dX4_dropNode_157 (by decide) ?_
                refine z_wk (ls' := [some (.ref t), none, none, some (.int v3), some (.int x2), none, none]) (z_lec rfl (z_len1 (z_len1 (z_lec rfl (z_lec rfl (z_len1 (z_len1 z_le0))))))) ?_
                exact (ok_X4_dropNode_238 hst ht ih) _ _ _ hF
          · rw [if_pos c38] at hF
            refine z_aload_n (pc' := 74) dX4_dropNode_73 rfl rfl rfl ?_
            refine z_aload_n (pc' := 75) dX4_dropNode_74 rfl rfl rfl ?_
            refine gf_X4_37 (b := t + 8) (pc' := 78) rfl ht rfl dX4_dropNode_75 rfl ?_
            refine z_iload (pc' := 80) dX4_dropNode_78 rfl rfl ?_
            refine z_bipush (v := 6) (pc' := 82) dX4_dropNode_80 (by decide) rfl ?_
            refine z_imul (pc' := 83) dX4_dropNode_82 rfl ?_
            obtain ⟨g31, hF⟩ := z_gde hF
            refine z_iaload (pc' := 84) (ar_4_f8 ht) (z_inbe g31) dX4_dropNode_83 rfl ?_
            refine z_topi (fun x32 ex32 => ?_)
            replace hF := z_lte hF x32 ex32
            refine pf_X4_53 (pc' := 87) rfl ht dX4_dropNode_84 rfl (fun S33 eS33 => ?_)
            replace hF := z_lte hF S33 eS33
            refine z_aload_n (pc' := 88) dX4_dropNode_87 rfl rfl rfl ?_
            refine gf_X4_28 (b := t + 5) (pc' := 91) rfl ht rfl dX4_dropNode_88 rfl ?_
            refine z_aload_n (pc' := 92) dX4_dropNode_91 rfl rfl rfl ?_
            refine gf_X4_53 (pc' := 95) rfl ht dX4_dropNode_92 rfl ?_
            refine z_iconst (v := (-1)) (pc' := 96) dX4_dropNode_95 (by decide) rfl ?_
            obtain ⟨g34, hF⟩ := z_gde hF
            refine z_iastore (pc' := 97) (ar_4_f5 ht) (z_inbe g34) dX4_dropNode_96 rfl (fun S35 eS35 => ?_)
            replace hF := z_lte hF S35 eS35
            refine z_aload_n (pc' := 98) dX4_dropNode_97 rfl rfl rfl ?_
            refine gf_X4_15 (b := t + 1) (pc' := 101) rfl ht rfl dX4_dropNode_98 rfl ?_
            refine z_iload (pc' := 103) dX4_dropNode_101 rfl rfl ?_
            refine z_iconst (v := 0) (pc' := 104) dX4_dropNode_103 (by decide) rfl ?_
            obtain ⟨g36, hF⟩ := z_gde hF
            refine z_iastore (pc' := 105) (ar_4_f1 ht) (z_inbe g36) dX4_dropNode_104 rfl (fun S37 eS37 => ?_)
            replace hF := z_lte hF S37 eS37
            exact z_return rfl dX4_dropNode_105 (Option.some.inj hF).symm
        · rw [if_neg c39] at hF
          exact z_return rfl dX4_dropNode_61 (Option.some.inj hF).symm
      · rw [if_pos c40] at hF
        exact z_return rfl dX4_dropNode_36 (Option.some.inj hF).symm
def F_X4_dropNode (B : Nat) (t : Nat) (p1 : Int32) (S : z_S) : Option (z_O × z_S) :=
  F_X4_dropNode_4 B t z_n p1 0 S
set_option maxRecDepth 20000 in
set_option maxHeartbeats 16000000 in
theorem c_X4_dropNode {l : Launch} {B : Nat} {t : Nat} {p1 : Int32} {S : z_S} {q : z_O × z_S} (hst : l.stackTraces = false) (ht : z_is 4 t) (hF : F_X4_dropNode B t p1 S = some q) : z_Met l I_X4_dropNode 3 118 B [.ref t, .int p1] S q.1 q.2 := by
  refine z_enter (ls := [some (.ref t), some (.int p1), none, none, none, none, none]) (n := 5) (by decide) rfl (Nat.le_of_ble_eq_true rfl) hst ?_
  unfold F_X4_dropNode at hF
  refine z_iload_n (pc' := 1) dX4_dropNode_0 rfl rfl rfl ?_
  refine z_istore_n (pc' := 2) dX4_dropNode_1 rfl (by decide) rfl rfl ?_
  refine z_iconst (v := 0) (pc' := 3) dX4_dropNode_2 (by decide) rfl ?_
  refine z_istore_n (pc' := 4) dX4_dropNode_3 rfl (by decide) rfl rfl ?_
  refine z_wk (ls' := [some (.ref t), none, some (.int p1), some (.int 0), none, none, none]) (z_lec rfl (z_len1 (z_lec rfl (z_lec rfl (z_len1 (z_len1 (z_len1 z_le0))))))) ?_
  exact (ok_X4_dropNode_4 hst ht z_n) _ _ _ hF
theorem ok_X4_dropNode : z_okV I_X4_dropNode 1 := ⟨⟨z_Gin (List.mem_of_getElem? (i := 600) (by decide +kernel)) rfl, z_Gin (List.mem_of_getElem? (i := 25) (by decide +kernel)) rfl, z_Gin (List.mem_of_getElem? (i := 92) (by decide +kernel)) rfl, z_Gin (List.mem_of_getElem? (i := 601) (by decide +kernel)) rfl⟩, by decide, by decide, by decide +kernel⟩
theorem k_X4_dropNode {l : Launch} {I : z_I} {R : Room} {B : Nat} {t : Nat} {p1 : Int32} {q : z_O × z_S} {pc pc' : Nat} {ls : List (Option Value)} {st : List Value} {S S1 : z_S} {idx F L : Nat} (ht : z_is 4 t) (hF : F_X4_dropNode B t p1 S = some (.inl none, S1)) (hst : l.stackTraces = false) (w : Cond.methodLink I.1.cls idx yX4_dropNode ∈ z_G) (hRF : R.frames = F) (hRL : R.locals = L) (h1 : 4 ≤ F) (h2 : 144 ≤ L) (hs : (st.map fun v => v.category).sum ≤ 8) (d : decode I.2.1 pc = .ok (.invokevirtual idx, 3)) (hp : pc + 3 = pc') (k : z_W l I R B q pc' ls st S1) : z_W l I R B q pc ls (.int p1 :: .ref t :: st) S := z_callV (Y := I_X4_dropNode) (As := [.int p1]) (st := st) (r := none) (S1 := S1) (c_X4_dropNode (q := (.inl none, S1)) hst ht hF) ok_X4_dropNode w (ci := 4) rfl ht.1 ht.2 rfl ⟨by rw [hRF]; exact h1, by rw [hRL]; exact h2⟩ hs d hp rfl k

