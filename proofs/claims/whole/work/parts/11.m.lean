abbrev I_X0_sameLeaf : z_I := (yX0_sameLeaf, cX0_sameLeaf, 4, some .boolean)
abbrev R_X0_sameLeaf (q : z_O × z_S) : Room := { frames := 2, locals := 47, cells := z_mc q.1, slots := 6 * z_mc q.1 }
def F_X0_sameLeaf_19 (B : Nat) (t : Nat) (u : Nat)  : Nat → Int32 → Int32 → z_S → Option (z_O × z_S)
  | 0, _, _, _ => none
  | n + 1, v1, v3, S => z_gd (z_inb v1 B) (
  z_lt (S.1 (t + 4) (z_ix (v1))) fun x2 =>
  (if x2 ≤ v3 then
    z_gd (z_b01 1) (some (.inl (some 1), S))
  else
    z_bn (F_X0_sameBody B t u ((v1 * 14) + v3) S) fun r4 S5 =>
    (if r4 = 0 then
      z_gd (z_b01 0) (some (.inl (some 0), S5))
    else
      F_X0_sameLeaf_19 B t u n v1 (v3 + 1) S5)))
set_option maxRecDepth 20000 in
set_option maxHeartbeats 16000000 in
theorem ok_X0_sameLeaf_19 {l : Launch} {B : Nat} {t : Nat} {u : Nat} {q : z_O × z_S} (hst : l.stackTraces = false) (ht : z_is 0 t) (hu : z_is 0 u) : ∀ (n : Nat) (v1 : Int32) (v3 : Int32) (S : z_S), F_X0_sameLeaf_19 B t u n v1 v3 S = some q → z_W l I_X0_sameLeaf (R_X0_sameLeaf q) B q 19 [some (.ref t), some (.int v1), some (.ref u), some (.int v3)] [] S := by
  intro n
  induction n with
  | zero => intro v1 v3 S hF; cases hF
  | succ n ih =>
    intro v1 v3 S hF
    rw [F_X0_sameLeaf_19] at hF
    refine z_iload_n (pc' := 20) dX0_sameLeaf_19 rfl rfl rfl ?_
    refine z_aload_n (pc' := 21) dX0_sameLeaf_20 rfl rfl rfl ?_
    refine gf_X0_14 (b := t + 1) (pc' := 24) rfl ht rfl dX0_sameLeaf_21 rfl ?_
    refine gf_X0_86 (b := t + 4) (pc' := 27) rfl (is_0_f0 ht) rfl dX0_sameLeaf_24 rfl ?_
    refine z_iload_n (pc' := 28) dX0_sameLeaf_27 rfl rfl rfl ?_
    obtain ⟨g1, hF⟩ := z_gde hF
    refine z_iaload (pc' := 29) (ar_4_f3 (is_0_f0 ht)) (z_inbe g1) dX0_sameLeaf_28 rfl ?_
    refine z_topi (fun x2 ex2 => ?_)
    replace hF := z_lte hF x2 ex2
    refine z_icmp_ge (tgt := 54) (pc' := 32) dX0_sameLeaf_29 (by decide) rfl (fun c9 => ?_) (fun c9 => ?_)
    · rw [if_pos c9] at hF
      refine z_iconst (v := 1) (pc' := 55) dX0_sameLeaf_54 (by decide) rfl ?_
      obtain ⟨g3, hF⟩ := z_gde hF
      exact z_zreturn rfl (z_b01e g3) dX0_sameLeaf_55 (Option.some.inj hF).symm
    · rw [if_neg c9] at hF
      refine z_aload_n (pc' := 33) dX0_sameLeaf_32 rfl rfl rfl ?_
      refine z_iload_n (pc' := 34) dX0_sameLeaf_33 rfl rfl rfl ?_
      refine z_bipush (v := 14) (pc' := 36) dX0_sameLeaf_34 (by decide) rfl ?_
      refine z_imul (pc' := 37) dX0_sameLeaf_36 rfl ?_
      refine z_iload_n (pc' := 38) dX0_sameLeaf_37 rfl rfl rfl ?_
      refine z_iadd (pc' := 39) dX0_sameLeaf_38 rfl ?_
      refine z_aload_n (pc' := 40) dX0_sameLeaf_39 rfl rfl rfl ?_
      obtain ⟨r4, S5, hc6, hF⟩ := z_bne hF
      refine k_X0_sameBody (F := 2) (L := 47) (pc' := 43) ht hu hc6 hst zw_16 rfl rfl (by decide) (by decide) (by decide) dX0_sameLeaf_40 rfl ?_
      refine z_if_ne (tgt := 48) (pc' := 46) dX0_sameLeaf_43 (by decide) rfl (fun c8 => ?_) (fun c8 => ?_)
      · rw [if_neg c8] at hF
        refine z_iinc (v := v3 + 1) (pc' := 51) dX0_sameLeaf_48 rfl rfl (by decide) rfl rfl ?_
        refine z_goto (pc' := 19) dX0_sameLeaf_51 (by decide) ?_
        refine z_wk (ls' := [some (.ref t), some (.int v1), some (.ref u), some (.int (v3 + 1))]) (z_lec rfl (z_lec rfl (z_lec rfl (z_lec rfl z_le0)))) ?_
        exact ih _ _ _ hF
      · rw [if_pos c8] at hF
        refine z_iconst (v := 0) (pc' := 47) dX0_sameLeaf_46 (by decide) rfl ?_
        obtain ⟨g7, hF⟩ := z_gde hF
        exact z_zreturn rfl (z_b01e g7) dX0_sameLeaf_47 (Option.some.inj hF).symm
def F_X0_sameLeaf (B : Nat) (t : Nat) (u : Nat) (p1 : Int32) (S : z_S) : Option (z_O × z_S) :=
  z_bn (F_X4_sameItems B (t + 1) (u + 1) p1 S) fun r1 S2 =>
  (if r1 = 0 then
    z_gd (z_b01 0) (some (.inl (some 0), S2))
  else
    F_X0_sameLeaf_19 B t u z_n p1 0 S2)
set_option maxRecDepth 20000 in
set_option maxHeartbeats 16000000 in
theorem c_X0_sameLeaf {l : Launch} {B : Nat} {t : Nat} {u : Nat} {p1 : Int32} {S : z_S} {q : z_O × z_S} (hst : l.stackTraces = false) (ht : z_is 0 t) (hu : z_is 0 u) (hF : F_X0_sameLeaf B t u p1 S = some q) : z_Met l I_X0_sameLeaf 2 47 B [.ref t, .int p1, .ref u] S q.1 q.2 := by
  refine z_enter (ls := [some (.ref t), some (.int p1), some (.ref u), none]) (n := 1) (by decide) rfl (Nat.le_of_ble_eq_true rfl) hst ?_
  unfold F_X0_sameLeaf at hF
  refine z_aload_n (pc' := 1) dX0_sameLeaf_0 rfl rfl rfl ?_
  refine gf_X0_14 (b := t + 1) (pc' := 4) rfl ht rfl dX0_sameLeaf_1 rfl ?_
  refine z_iload_n (pc' := 5) dX0_sameLeaf_4 rfl rfl rfl ?_
  refine z_aload_n (pc' := 6) dX0_sameLeaf_5 rfl rfl rfl ?_
  refine gf_X0_14 (b := u + 1) (pc' := 9) rfl hu rfl dX0_sameLeaf_6 rfl ?_
  obtain ⟨r1, S2, hc3, hF⟩ := z_bne hF
  refine k_X4_sameItems (F := 2) (L := 47) (pc' := 12) (is_0_f0 ht) (is_0_f0 hu) hc3 hst zw_15 rfl rfl (by decide) (by decide) (by decide) dX0_sameLeaf_9 rfl ?_
  refine z_if_ne (tgt := 17) (pc' := 15) dX0_sameLeaf_12 (by decide) rfl (fun c5 => ?_) (fun c5 => ?_)
  · rw [if_neg c5] at hF
    refine z_iconst (v := 0) (pc' := 18) dX0_sameLeaf_17 (by decide) rfl ?_
    refine z_istore_n (pc' := 19) dX0_sameLeaf_18 rfl (by decide) rfl rfl ?_
    refine z_wk (ls' := [some (.ref t), some (.int p1), some (.ref u), some (.int 0)]) (z_lec rfl (z_lec rfl (z_lec rfl (z_lec rfl z_le0)))) ?_
    exact (ok_X0_sameLeaf_19 hst ht hu z_n) _ _ _ hF
  · rw [if_pos c5] at hF
    refine z_iconst (v := 0) (pc' := 16) dX0_sameLeaf_15 (by decide) rfl ?_
    obtain ⟨g4, hF⟩ := z_gde hF
    exact z_zreturn rfl (z_b01e g4) dX0_sameLeaf_16 (Option.some.inj hF).symm
theorem ok_X0_sameLeaf : z_okV I_X0_sameLeaf 2 := ⟨⟨z_Gin (List.mem_of_getElem? (i := 795) (by decide +kernel)) rfl, z_Gin (List.mem_of_getElem? (i := 33) (by decide +kernel)) rfl, z_Gin (List.mem_of_getElem? (i := 91) (by decide +kernel)) rfl, z_Gin (List.mem_of_getElem? (i := 796) (by decide +kernel)) rfl⟩, by decide, by decide, by decide +kernel⟩
theorem k_X0_sameLeaf {l : Launch} {I : z_I} {R : Room} {B : Nat} {t : Nat} {u : Nat} {p1 : Int32} {q : z_O × z_S} {pc pc' : Nat} {ls : List (Option Value)} {st : List Value} {S S1 : z_S} {idx F L : Nat} {r : Int32} (ht : z_is 0 t) (hu : z_is 0 u) (hF : F_X0_sameLeaf B t u p1 S = some (.inl (some r), S1)) (hst : l.stackTraces = false) (w : Cond.methodLink I.1.cls idx yX0_sameLeaf ∈ z_G) (hRF : R.frames = F) (hRL : R.locals = L) (h1 : 3 ≤ F) (h2 : 70 ≤ L) (hs : (st.map fun v => v.category).sum ≤ 8) (d : decode I.2.1 pc = .ok (.invokevirtual idx, 3)) (hp : pc + 3 = pc') (k : z_W l I R B q pc' ls (.int r :: st) S1) : z_W l I R B q pc ls (.ref u :: .int p1 :: .ref t :: st) S := z_callV (Y := I_X0_sameLeaf) (As := [.int p1, .ref u]) (st := st) (r := (some r)) (S1 := S1) (c_X0_sameLeaf (q := (.inl (some r), S1)) hst ht hu hF) ok_X0_sameLeaf w (ci := 0) rfl ht.1 ht.2 rfl ⟨by rw [hRF]; exact h1, by rw [hRL]; exact h2⟩ hs d hp rfl k

abbrev I_X4_firstKeyBelow : z_I := (yX4_firstKeyBelow, cX4_firstKeyBelow, 4, some .int)
abbrev R_X4_firstKeyBelow (q : z_O × z_S) : Room := { frames := 0, locals := 0, cells := z_mc q.1, slots := 6 * z_mc q.1 }
def F_X4_firstKeyBelow_9 (B : Nat) (t : Nat)  : Nat → Int32 → Int32 → z_S → Option (z_O × z_S)
  | 0, _, _, _ => none
  | n + 1, v2, v3, S => if v3 ≤ 0 then
    z_gd (z_inb (v2 * 14) (14 * B)) (
    z_lt (S.1 (t + 9) (z_ix (v2 * 14))) fun x2 =>
    (some (.inl (some x2), S)))
  else
    z_gd (z_inb (v2 * 6) (6 * B)) (
    z_lt (S.1 (t + 8) (z_ix (v2 * 6))) fun x4 =>
    (F_X4_firstKeyBelow_9 B t n x4 (v3 + (-1)) S))
set_option maxRecDepth 20000 in
set_option maxHeartbeats 16000000 in
theorem ok_X4_firstKeyBelow_9 {l : Launch} {B : Nat} {t : Nat} {q : z_O × z_S} (hst : l.stackTraces = false) (ht : z_is 4 t) : ∀ (n : Nat) (v2 : Int32) (v3 : Int32) (S : z_S), F_X4_firstKeyBelow_9 B t n v2 v3 S = some q → z_W l I_X4_firstKeyBelow (R_X4_firstKeyBelow q) B q 9 [some (.ref t), none, some (.int v2), some (.int v3)] [] S := by
  intro n
  induction n with
  | zero => intro v2 v3 S hF; cases hF
  | succ n ih =>
    intro v2 v3 S hF
    rw [F_X4_firstKeyBelow_9] at hF
    refine z_iload_n (pc' := 10) dX4_firstKeyBelow_9 rfl rfl rfl ?_
    refine z_if_le (tgt := 29) (pc' := 13) dX4_firstKeyBelow_10 (by decide) rfl (fun c5 => ?_) (fun c5 => ?_)
    · rw [if_pos c5] at hF
      refine z_aload_n (pc' := 30) dX4_firstKeyBelow_29 rfl rfl rfl ?_
      refine gf_X4_40 (b := t + 9) (pc' := 33) rfl ht rfl dX4_firstKeyBelow_30 rfl ?_
      refine z_iload_n (pc' := 34) dX4_firstKeyBelow_33 rfl rfl rfl ?_
      refine z_bipush (v := 14) (pc' := 36) dX4_firstKeyBelow_34 (by decide) rfl ?_
      refine z_imul (pc' := 37) dX4_firstKeyBelow_36 rfl ?_
      obtain ⟨g1, hF⟩ := z_gde hF
      refine z_iaload (pc' := 38) (ar_4_f9 ht) (z_inbe g1) dX4_firstKeyBelow_37 rfl ?_
      refine z_topi (fun x2 ex2 => ?_)
      replace hF := z_lte hF x2 ex2
      exact z_ireturn rfl dX4_firstKeyBelow_38 (Option.some.inj hF).symm
    · rw [if_neg c5] at hF
      refine z_aload_n (pc' := 14) dX4_firstKeyBelow_13 rfl rfl rfl ?_
      refine gf_X4_37 (b := t + 8) (pc' := 17) rfl ht rfl dX4_firstKeyBelow_14 rfl ?_
      refine z_iload_n (pc' := 18) dX4_firstKeyBelow_17 rfl rfl rfl ?_
      refine z_bipush (v := 6) (pc' := 20) dX4_firstKeyBelow_18 (by decide) rfl ?_
      refine z_imul (pc' := 21) dX4_firstKeyBelow_20 rfl ?_
      obtain ⟨g3, hF⟩ := z_gde hF
      refine z_iaload (pc' := 22) (ar_4_f8 ht) (z_inbe g3) dX4_firstKeyBelow_21 rfl ?_
      refine z_topi (fun x4 ex4 => ?_)
      replace hF := z_lte hF x4 ex4
      refine z_istore_n (pc' := 23) dX4_firstKeyBelow_22 rfl (by decide) rfl rfl ?_
      refine z_iinc (v := v3 + (-1)) (pc' := 26) dX4_firstKeyBelow_23 rfl rfl (by decide) rfl rfl ?_
      refine z_goto (pc' := 9) dX4_firstKeyBelow_26 (by decide) ?_
      refine z_wk (ls' := [some (.ref t), none, some (.int x4), some (.int (v3 + (-1)))]) (z_lec rfl (z_len1 (z_lec rfl (z_lec rfl z_le0)))) ?_
      exact ih _ _ _ hF
def F_X4_firstKeyBelow (B : Nat) (t : Nat) (p1 : Int32) (S : z_S) : Option (z_O × z_S) :=
  z_gd (z_inb p1 B) (
  z_lt (S.1 (t + 2) (z_ix (p1))) fun x2 =>
  (F_X4_firstKeyBelow_9 B t z_n p1 x2 S))
set_option maxRecDepth 20000 in
set_option maxHeartbeats 16000000 in
theorem c_X4_firstKeyBelow {l : Launch} {B : Nat} {t : Nat} {p1 : Int32} {S : z_S} {q : z_O × z_S} (hst : l.stackTraces = false) (ht : z_is 4 t) (hF : F_X4_firstKeyBelow B t p1 S = some q) : z_Met l I_X4_firstKeyBelow 0 0 B [.ref t, .int p1] S q.1 q.2 := by
  refine z_enter (ls := [some (.ref t), some (.int p1), none, none]) (n := 2) (by decide) rfl (Nat.le_of_ble_eq_true rfl) hst ?_
  unfold F_X4_firstKeyBelow at hF
  refine z_iload_n (pc' := 1) dX4_firstKeyBelow_0 rfl rfl rfl ?_
  refine z_istore_n (pc' := 2) dX4_firstKeyBelow_1 rfl (by decide) rfl rfl ?_
  refine z_aload_n (pc' := 3) dX4_firstKeyBelow_2 rfl rfl rfl ?_
  refine gf_X4_19 (b := t + 2) (pc' := 6) rfl ht rfl dX4_firstKeyBelow_3 rfl ?_
  refine z_iload_n (pc' := 7) dX4_firstKeyBelow_6 rfl rfl rfl ?_
  obtain ⟨g1, hF⟩ := z_gde hF
  refine z_iaload (pc' := 8) (ar_4_f2 ht) (z_inbe g1) dX4_firstKeyBelow_7 rfl ?_
  refine z_topi (fun x2 ex2 => ?_)
  replace hF := z_lte hF x2 ex2
  refine z_istore_n (pc' := 9) dX4_firstKeyBelow_8 rfl (by decide) rfl rfl ?_
  refine z_wk (ls' := [some (.ref t), none, some (.int p1), some (.int x2)]) (z_lec rfl (z_len1 (z_lec rfl (z_lec rfl z_le0)))) ?_
  exact (ok_X4_firstKeyBelow_9 hst ht z_n) _ _ _ hF
theorem ok_X4_firstKeyBelow : z_okV I_X4_firstKeyBelow 1 := ⟨⟨z_Gin (List.mem_of_getElem? (i := 824) (by decide +kernel)) rfl, z_Gin (List.mem_of_getElem? (i := 35) (by decide +kernel)) rfl, z_Gin (List.mem_of_getElem? (i := 92) (by decide +kernel)) rfl, z_Gin (List.mem_of_getElem? (i := 825) (by decide +kernel)) rfl⟩, by decide, by decide, by decide +kernel⟩
theorem k_X4_firstKeyBelow {l : Launch} {I : z_I} {R : Room} {B : Nat} {t : Nat} {p1 : Int32} {q : z_O × z_S} {pc pc' : Nat} {ls : List (Option Value)} {st : List Value} {S S1 : z_S} {idx F L : Nat} {r : Int32} (ht : z_is 4 t) (hF : F_X4_firstKeyBelow B t p1 S = some (.inl (some r), S1)) (hst : l.stackTraces = false) (w : Cond.methodLink I.1.cls idx yX4_firstKeyBelow ∈ z_G) (hRF : R.frames = F) (hRL : R.locals = L) (h1 : 1 ≤ F) (h2 : 23 ≤ L) (hs : (st.map fun v => v.category).sum ≤ 8) (d : decode I.2.1 pc = .ok (.invokevirtual idx, 3)) (hp : pc + 3 = pc') (k : z_W l I R B q pc' ls (.int r :: st) S1) : z_W l I R B q pc ls (.int p1 :: .ref t :: st) S := z_callV (Y := I_X4_firstKeyBelow) (As := [.int p1]) (st := st) (r := (some r)) (S1 := S1) (c_X4_firstKeyBelow (q := (.inl (some r), S1)) hst ht hF) ok_X4_firstKeyBelow w (ci := 4) rfl ht.1 ht.2 rfl ⟨by rw [hRF]; exact h1, by rw [hRL]; exact h2⟩ hs d hp rfl k

abbrev I_X4_sameInner : z_I := (yX4_sameInner, cX4_sameInner, 4, some .boolean)
abbrev R_X4_sameInner (q : z_O × z_S) : Room := { frames := 1, locals := 23, cells := z_mc q.1, slots := 6 * z_mc q.1 }
def F_X4_sameInner_90 (B : Nat) (t : Nat) (u : Nat)   (S : z_S) : Option (z_O × z_S) :=
  z_gd (z_b01 0) (some (.inl (some 0), S))
set_option maxRecDepth 20000 in
set_option maxHeartbeats 16000000 in
theorem ok_X4_sameInner_90 {l : Launch} {B : Nat} {t : Nat} {u : Nat} {q : z_O × z_S} (hst : l.stackTraces = false) (ht : z_is 4 t) (hu : z_is 4 u) : ∀ (S : z_S), F_X4_sameInner_90 B t u S = some q → z_W l I_X4_sameInner (R_X4_sameInner q) B q 90 [none, none, none, none] [] S := by
  intro S hF
  unfold F_X4_sameInner_90 at hF
  refine z_iconst (v := 0) (pc' := 91) dX4_sameInner_90 (by decide) rfl ?_
  obtain ⟨g1, hF⟩ := z_gde hF
  exact z_zreturn rfl (z_b01e g1) dX4_sameInner_91 (Option.some.inj hF).symm
def F_X4_sameInner_37 (B : Nat) (t : Nat) (u : Nat)  : Nat → Int32 → Int32 → z_S → Option (z_O × z_S)
  | 0, _, _, _ => none
  | n + 1, v1, v3, S => z_gd (z_inb v1 B) (
  z_lt (S.1 (t + 3) (z_ix (v1))) fun x2 =>
  (if ((v1 * 6) + x2) ≤ v3 then
    z_gd (z_b01 1) (some (.inl (some 1), S))
  else
    z_gd (z_inb v3 (6 * B)) (
    z_lt (S.1 (t + 8) (z_ix (v3))) fun x5 =>
    (z_gd (z_inb v3 (6 * B)) (
    z_lt (S.1 (u + 8) (z_ix (v3))) fun x7 =>
    (if x5 = x7 then
      z_gd (z_inb v3 (6 * B)) (
      z_lt (S.1 (t + 8) (z_ix (v3))) fun x9 =>
      (z_bn (F_X4_firstKeyBelow B t x9 S) fun r10 S11 =>
      (z_gd (z_inb v3 (6 * B)) (
      z_lt (S11.1 (u + 8) (z_ix (v3))) fun x14 =>
      (z_bn (F_X4_firstKeyBelow B u x14 S11) fun r15 S16 =>
      (if r10 = r15 then
        F_X4_sameInner_37 B t u n v1 (v3 + 1) S16
      else
        F_X4_sameInner_90 B t u S16))))))
    else
      F_X4_sameInner_90 B t u S))))))
set_option maxRecDepth 20000 in
set_option maxHeartbeats 16000000 in
theorem ok_X4_sameInner_37 {l : Launch} {B : Nat} {t : Nat} {u : Nat} {q : z_O × z_S} (hst : l.stackTraces = false) (ht : z_is 4 t) (hu : z_is 4 u) : ∀ (n : Nat) (v1 : Int32) (v3 : Int32) (S : z_S), F_X4_sameInner_37 B t u n v1 v3 S = some q → z_W l I_X4_sameInner (R_X4_sameInner q) B q 37 [some (.ref t), some (.int v1), some (.ref u), some (.int v3)] [] S := by
  intro n
  induction n with
  | zero => intro v1 v3 S hF; cases hF
  | succ n ih =>
    intro v1 v3 S hF
    rw [F_X4_sameInner_37] at hF
    refine z_iload_n (pc' := 38) dX4_sameInner_37 rfl rfl rfl ?_
    refine z_iload_n (pc' := 39) dX4_sameInner_38 rfl rfl rfl ?_
    refine z_bipush (v := 6) (pc' := 41) dX4_sameInner_39 (by decide) rfl ?_
    refine z_imul (pc' := 42) dX4_sameInner_41 rfl ?_
    refine z_aload_n (pc' := 43) dX4_sameInner_42 rfl rfl rfl ?_
    refine gf_X4_22 (b := t + 3) (pc' := 46) rfl ht rfl dX4_sameInner_43 rfl ?_
    refine z_iload_n (pc' := 47) dX4_sameInner_46 rfl rfl rfl ?_
    obtain ⟨g1, hF⟩ := z_gde hF
    refine z_iaload (pc' := 48) (ar_4_f3 ht) (z_inbe g1) dX4_sameInner_47 rfl ?_
    refine z_topi (fun x2 ex2 => ?_)
    replace hF := z_lte hF x2 ex2
    refine z_iadd (pc' := 49) dX4_sameInner_48 rfl ?_
    refine z_icmp_ge (tgt := 98) (pc' := 52) dX4_sameInner_49 (by decide) rfl (fun c20 => ?_) (fun c20 => ?_)
    · rw [if_pos c20] at hF
      refine z_iconst (v := 1) (pc' := 99) dX4_sameInner_98 (by decide) rfl ?_
      obtain ⟨g3, hF⟩ := z_gde hF
      exact z_zreturn rfl (z_b01e g3) dX4_sameInner_99 (Option.some.inj hF).symm
    · rw [if_neg c20] at hF
      refine z_aload_n (pc' := 53) dX4_sameInner_52 rfl rfl rfl ?_
      refine gf_X4_37 (b := t + 8) (pc' := 56) rfl ht rfl dX4_sameInner_53 rfl ?_
      refine z_iload_n (pc' := 57) dX4_sameInner_56 rfl rfl rfl ?_
      obtain ⟨g4, hF⟩ := z_gde hF
      refine z_iaload (pc' := 58) (ar_4_f8 ht) (z_inbe g4) dX4_sameInner_57 rfl ?_
      refine z_topi (fun x5 ex5 => ?_)
      replace hF := z_lte hF x5 ex5
      refine z_aload_n (pc' := 59) dX4_sameInner_58 rfl rfl rfl ?_
      refine gf_X4_37 (b := u + 8) (pc' := 62) rfl hu rfl dX4_sameInner_59 rfl ?_
      refine z_iload_n (pc' := 63) dX4_sameInner_62 rfl rfl rfl ?_
      obtain ⟨g6, hF⟩ := z_gde hF
      refine z_iaload (pc' := 64) (ar_4_f8 hu) (z_inbe g6) dX4_sameInner_63 rfl ?_
      refine z_topi (fun x7 ex7 => ?_)
      replace hF := z_lte hF x7 ex7
      refine z_icmp_ne (tgt := 90) (pc' := 67) dX4_sameInner_64 (by decide) rfl (fun c19 => ?_) (fun c19 => ?_)
      · rw [if_neg c19] at hF
        refine z_wk (ls' := [none, none, none, none]) (z_len1 (z_len1 (z_len1 (z_len1 z_le0)))) ?_
        exact (ok_X4_sameInner_90 hst ht hu) _ hF
      · rw [if_pos c19] at hF
        refine z_aload_n (pc' := 68) dX4_sameInner_67 rfl rfl rfl ?_
        refine z_aload_n (pc' := 69) dX4_sameInner_68 rfl rfl rfl ?_
        refine gf_X4_37 (b := t + 8) (pc' := 72) rfl ht rfl dX4_sameInner_69 rfl ?_
        refine z_iload_n (pc' := 73) dX4_sameInner_72 rfl rfl rfl ?_
        obtain ⟨g8, hF⟩ := z_gde hF
        refine z_iaload (pc' := 74) (ar_4_f8 ht) (z_inbe g8) dX4_sameInner_73 rfl ?_
        refine z_topi (fun x9 ex9 => ?_)
        replace hF := z_lte hF x9 ex9
        obtain ⟨r10, S11, hc12, hF⟩ := z_bne hF
        refine k_X4_firstKeyBelow (F := 1) (L := 23) (pc' := 77) ht hc12 hst zw_17 rfl rfl (by decide) (by decide) (by decide) dX4_sameInner_74 rfl ?_
        refine z_aload_n (pc' := 78) dX4_sameInner_77 rfl rfl rfl ?_
        refine z_aload_n (pc' := 79) dX4_sameInner_78 rfl rfl rfl ?_
        refine gf_X4_37 (b := u + 8) (pc' := 82) rfl hu rfl dX4_sameInner_79 rfl ?_
        refine z_iload_n (pc' := 83) dX4_sameInner_82 rfl rfl rfl ?_
        obtain ⟨g13, hF⟩ := z_gde hF
        refine z_iaload (pc' := 84) (ar_4_f8 hu) (z_inbe g13) dX4_sameInner_83 rfl ?_
        refine z_topi (fun x14 ex14 => ?_)
        replace hF := z_lte hF x14 ex14
        obtain ⟨r15, S16, hc17, hF⟩ := z_bne hF
        refine k_X4_firstKeyBelow (F := 1) (L := 23) (pc' := 87) hu hc17 hst zw_17 rfl rfl (by decide) (by decide) (Nat.le_of_ble_eq_true rfl) dX4_sameInner_84 rfl ?_
        refine z_icmp_eq (tgt := 92) (pc' := 90) dX4_sameInner_87 (by decide) rfl (fun c18 => ?_) (fun c18 => ?_)
        · rw [if_pos c18] at hF
          refine z_iinc (v := v3 + 1) (pc' := 95) dX4_sameInner_92 rfl rfl (by decide) rfl rfl ?_
          refine z_goto (pc' := 37) dX4_sameInner_95 (by decide) ?_
          refine z_wk (ls' := [some (.ref t), some (.int v1), some (.ref u), some (.int (v3 + 1))]) (z_lec rfl (z_lec rfl (z_lec rfl (z_lec rfl z_le0)))) ?_
          exact ih _ _ _ hF
        · rw [if_neg c18] at hF
          refine z_wk (ls' := [none, none, none, none]) (z_len1 (z_len1 (z_len1 (z_len1 z_le0)))) ?_
          exact (ok_X4_sameInner_90 hst ht hu) _ hF
def F_X4_sameInner_30 (B : Nat) (t : Nat) (u : Nat)   (S : z_S) : Option (z_O × z_S) :=
  z_gd (z_b01 0) (some (.inl (some 0), S))
set_option maxRecDepth 20000 in
set_option maxHeartbeats 16000000 in
theorem ok_X4_sameInner_30 {l : Launch} {B : Nat} {t : Nat} {u : Nat} {q : z_O × z_S} (hst : l.stackTraces = false) (ht : z_is 4 t) (hu : z_is 4 u) : ∀ (S : z_S), F_X4_sameInner_30 B t u S = some q → z_W l I_X4_sameInner (R_X4_sameInner q) B q 30 [none, none, none, none] [] S := by
  intro S hF
  unfold F_X4_sameInner_30 at hF
  refine z_iconst (v := 0) (pc' := 31) dX4_sameInner_30 (by decide) rfl ?_
  obtain ⟨g1, hF⟩ := z_gde hF
  exact z_zreturn rfl (z_b01e g1) dX4_sameInner_31 (Option.some.inj hF).symm
def F_X4_sameInner (B : Nat) (t : Nat) (u : Nat) (p1 : Int32) (S : z_S) : Option (z_O × z_S) :=
  z_gd (z_inb p1 B) (
  z_lt (S.1 (t + 2) (z_ix (p1))) fun x2 =>
  (z_gd (z_inb p1 B) (
  z_lt (S.1 (u + 2) (z_ix (p1))) fun x4 =>
  (if x2 = x4 then
    z_gd (z_inb p1 B) (
    z_lt (S.1 (t + 3) (z_ix (p1))) fun x6 =>
    (z_gd (z_inb p1 B) (
    z_lt (S.1 (u + 3) (z_ix (p1))) fun x8 =>
    (if x6 = x8 then
      F_X4_sameInner_37 B t u z_n p1 (p1 * 6) S
    else
      F_X4_sameInner_30 B t u S))))
  else
    F_X4_sameInner_30 B t u S))))
set_option maxRecDepth 20000 in
set_option maxHeartbeats 16000000 in
theorem c_X4_sameInner {l : Launch} {B : Nat} {t : Nat} {u : Nat} {p1 : Int32} {S : z_S} {q : z_O × z_S} (hst : l.stackTraces = false) (ht : z_is 4 t) (hu : z_is 4 u) (hF : F_X4_sameInner B t u p1 S = some q) : z_Met l I_X4_sameInner 1 23 B [.ref t, .int p1, .ref u] S q.1 q.2 := by
  refine z_enter (ls := [some (.ref t), some (.int p1), some (.ref u), none]) (n := 1) (by decide) rfl (Nat.le_of_ble_eq_true rfl) hst ?_
  unfold F_X4_sameInner at hF
  refine z_aload_n (pc' := 1) dX4_sameInner_0 rfl rfl rfl ?_
  refine gf_X4_19 (b := t + 2) (pc' := 4) rfl ht rfl dX4_sameInner_1 rfl ?_
  refine z_iload_n (pc' := 5) dX4_sameInner_4 rfl rfl rfl ?_
  obtain ⟨g1, hF⟩ := z_gde hF
  refine z_iaload (pc' := 6) (ar_4_f2 ht) (z_inbe g1) dX4_sameInner_5 rfl ?_
  refine z_topi (fun x2 ex2 => ?_)
  replace hF := z_lte hF x2 ex2
  refine z_aload_n (pc' := 7) dX4_sameInner_6 rfl rfl rfl ?_
  refine gf_X4_19 (b := u + 2) (pc' := 10) rfl hu rfl dX4_sameInner_7 rfl ?_
  refine z_iload_n (pc' := 11) dX4_sameInner_10 rfl rfl rfl ?_
  obtain ⟨g3, hF⟩ := z_gde hF
  refine z_iaload (pc' := 12) (ar_4_f2 hu) (z_inbe g3) dX4_sameInner_11 rfl ?_
  refine z_topi (fun x4 ex4 => ?_)
  replace hF := z_lte hF x4 ex4
  refine z_icmp_ne (tgt := 30) (pc' := 15) dX4_sameInner_12 (by decide) rfl (fun c10 => ?_) (fun c10 => ?_)
  · rw [if_neg c10] at hF
    refine z_wk (ls' := [none, none, none, none]) (z_len1 (z_len1 (z_len1 (z_len1 z_le0)))) ?_
    exact (ok_X4_sameInner_30 hst ht hu) _ hF
  · rw [if_pos c10] at hF
    refine z_aload_n (pc' := 16) dX4_sameInner_15 rfl rfl rfl ?_
    refine gf_X4_22 (b := t + 3) (pc' := 19) rfl ht rfl dX4_sameInner_16 rfl ?_
    refine z_iload_n (pc' := 20) dX4_sameInner_19 rfl rfl rfl ?_
    obtain ⟨g5, hF⟩ := z_gde hF
    refine z_iaload (pc' := 21) (ar_4_f3 ht) (z_inbe g5) dX4_sameInner_20 rfl ?_
    refine z_topi (fun x6 ex6 => ?_)
    replace hF := z_lte hF x6 ex6
    refine z_aload_n (pc' := 22) dX4_sameInner_21 rfl rfl rfl ?_
    refine gf_X4_22 (b := u + 3) (pc' := 25) rfl hu rfl dX4_sameInner_22 rfl ?_
    refine z_iload_n (pc' := 26) dX4_sameInner_25 rfl rfl rfl ?_
    obtain ⟨g7, hF⟩ := z_gde hF
    refine z_iaload (pc' := 27) (ar_4_f3 hu) (z_inbe g7) dX4_sameInner_26 rfl ?_
    refine z_topi (fun x8 ex8 => ?_)
    replace hF := z_lte hF x8 ex8
    refine z_icmp_eq (tgt := 32) (pc' := 30) dX4_sameInner_27 (by decide) rfl (fun c9 => ?_) (fun c9 => ?_)
    · rw [if_pos c9] at hF
      refine z_iload_n (pc' := 33) dX4_sameInner_32 rfl rfl rfl ?_
      refine z_bipush (v := 6) (pc' := 35) dX4_sameInner_33 (by decide) rfl ?_
      refine z_imul (pc' := 36) dX4_sameInner_35 rfl ?_
      refine z_istore_n (pc' := 37) dX4_sameInner_36 rfl (by decide) rfl rfl ?_
      refine z_wk (ls' := [some (.ref t), some (.int p1), some (.ref u), some (.int (p1 * 6))]) (z_lec rfl (z_lec rfl (z_lec rfl (z_lec rfl z_le0)))) ?_
      exact (ok_X4_sameInner_37 hst ht hu z_n) _ _ _ hF
    · rw [if_neg c9] at hF
      refine z_wk (ls' := [none, none, none, none]) (z_len1 (z_len1 (z_len1 (z_len1 z_le0)))) ?_
      exact (ok_X4_sameInner_30 hst ht hu) _ hF
theorem ok_X4_sameInner : z_okV I_X4_sameInner 2 := ⟨⟨z_Gin (List.mem_of_getElem? (i := 819) (by decide +kernel)) rfl, z_Gin (List.mem_of_getElem? (i := 820) (by decide +kernel)) rfl, z_Gin (List.mem_of_getElem? (i := 92) (by decide +kernel)) rfl, z_Gin (List.mem_of_getElem? (i := 821) (by decide +kernel)) rfl⟩, by decide, by decide, by decide +kernel⟩
theorem k_X4_sameInner {l : Launch} {I : z_I} {R : Room} {B : Nat} {t : Nat} {u : Nat} {p1 : Int32} {q : z_O × z_S} {pc pc' : Nat} {ls : List (Option Value)} {st : List Value} {S S1 : z_S} {idx F L : Nat} {r : Int32} (ht : z_is 4 t) (hu : z_is 4 u) (hF : F_X4_sameInner B t u p1 S = some (.inl (some r), S1)) (hst : l.stackTraces = false) (w : Cond.methodLink I.1.cls idx yX4_sameInner ∈ z_G) (hRF : R.frames = F) (hRL : R.locals = L) (h1 : 2 ≤ F) (h2 : 46 ≤ L) (hs : (st.map fun v => v.category).sum ≤ 8) (d : decode I.2.1 pc = .ok (.invokevirtual idx, 3)) (hp : pc + 3 = pc') (k : z_W l I R B q pc' ls (.int r :: st) S1) : z_W l I R B q pc ls (.ref u :: .int p1 :: .ref t :: st) S := z_callV (Y := I_X4_sameInner) (As := [.int p1, .ref u]) (st := st) (r := (some r)) (S1 := S1) (c_X4_sameInner (q := (.inl (some r), S1)) hst ht hu hF) ok_X4_sameInner w (ci := 4) rfl ht.1 ht.2 rfl ⟨by rw [hRF]; exact h1, by rw [hRL]; exact h2⟩ hs d hp rfl k

abbrev I_X4_sameMap : z_I := (yX4_sameMap, cX4_sameMap, 3, some .boolean)
abbrev R_X4_sameMap (q : z_O × z_S) : Room := { frames := 0, locals := 0, cells := z_mc q.1, slots := 6 * z_mc q.1 }
def F_X4_sameMap_51 (B : Nat) (t : Nat) (u : Nat) (k15 : Int32 → z_S → Option (z_O × z_S)) (v2 : Int32) (s0 : Int32) (s1 : Int32) (S : z_S) : Option (z_O × z_S) :=
  if s1 = s0 then
    k15 (v2 + 1) S
  else
    z_gd (z_b01 0) (some (.inl (some 0), S))
set_option maxRecDepth 20000 in
set_option maxHeartbeats 16000000 in
theorem ok_X4_sameMap_51 {l : Launch} {B : Nat} {t : Nat} {u : Nat} {q : z_O × z_S} (hst : l.stackTraces = false) (ht : z_is 4 t) (hu : z_is 4 u) {k15 : Int32 → z_S → Option (z_O × z_S)} (hk15 : ∀ (v2 : Int32) (S : z_S), k15 v2 S = some q → z_W l I_X4_sameMap (R_X4_sameMap q) B q 15 [some (.ref t), some (.ref u), some (.int v2)] [] S) : ∀ (v2 : Int32) (s0 : Int32) (s1 : Int32) (S : z_S), F_X4_sameMap_51 B t u k15 v2 s0 s1 S = some q → z_W l I_X4_sameMap (R_X4_sameMap q) B q 51 [some (.ref t), some (.ref u), some (.int v2)] [.int s0, .int s1] S := by
  intro v2 s0 s1 S hF
  unfold F_X4_sameMap_51 at hF
  refine z_icmp_eq (tgt := 56) (pc' := 54) dX4_sameMap_51 (by decide) rfl (fun c2 => ?_) (fun c2 => ?_)
  · rw [if_pos c2] at hF
    refine z_iinc (v := v2 + 1) (pc' := 59) dX4_sameMap_56 rfl rfl (by decide) rfl rfl ?_
    refine z_goto (pc' := 15) dX4_sameMap_59 (by decide) ?_
    refine z_wk (ls' := [some (.ref t), some (.ref u), some (.int (v2 + 1))]) (z_lec rfl (z_lec rfl (z_lec rfl z_le0))) ?_
    exact hk15 _ _ hF
  · rw [if_neg c2] at hF
    refine z_iconst (v := 0) (pc' := 55) dX4_sameMap_54 (by decide) rfl ?_
    obtain ⟨g1, hF⟩ := z_gde hF
    exact z_zreturn rfl (z_b01e g1) dX4_sameMap_55 (Option.some.inj hF).symm
def F_X4_sameMap_37 (B : Nat) (t : Nat) (u : Nat) (k15 : Int32 → z_S → Option (z_O × z_S)) (v2 : Int32) (s0 : Int32) (S : z_S) : Option (z_O × z_S) :=
  z_gd (z_inb v2 B) (
  z_lt (S.1 (u + 1) (z_ix (v2))) fun x2 =>
  (if x2 = 0 then
    F_X4_sameMap_51 B t u k15 v2 1 s0 S
  else
    F_X4_sameMap_51 B t u k15 v2 0 s0 S))
set_option maxRecDepth 20000 in
set_option maxHeartbeats 16000000 in
theorem ok_X4_sameMap_37 {l : Launch} {B : Nat} {t : Nat} {u : Nat} {q : z_O × z_S} (hst : l.stackTraces = false) (ht : z_is 4 t) (hu : z_is 4 u) {k15 : Int32 → z_S → Option (z_O × z_S)} (hk15 : ∀ (v2 : Int32) (S : z_S), k15 v2 S = some q → z_W l I_X4_sameMap (R_X4_sameMap q) B q 15 [some (.ref t), some (.ref u), some (.int v2)] [] S) : ∀ (v2 : Int32) (s0 : Int32) (S : z_S), F_X4_sameMap_37 B t u k15 v2 s0 S = some q → z_W l I_X4_sameMap (R_X4_sameMap q) B q 37 [some (.ref t), some (.ref u), some (.int v2)] [.int s0] S := by
  intro v2 s0 S hF
  unfold F_X4_sameMap_37 at hF
  refine z_aload_n (pc' := 38) dX4_sameMap_37 rfl rfl rfl ?_
  refine gf_X4_15 (b := u + 1) (pc' := 41) rfl hu rfl dX4_sameMap_38 rfl ?_
  refine z_iload_n (pc' := 42) dX4_sameMap_41 rfl rfl rfl ?_
  obtain ⟨g1, hF⟩ := z_gde hF
  refine z_iaload (pc' := 43) (ar_4_f1 hu) (z_inbe g1) dX4_sameMap_42 rfl ?_
  refine z_topi (fun x2 ex2 => ?_)
  replace hF := z_lte hF x2 ex2
  refine z_if_ne (tgt := 50) (pc' := 46) dX4_sameMap_43 (by decide) rfl (fun c3 => ?_) (fun c3 => ?_)
  · rw [if_neg c3] at hF
    refine z_iconst (v := 0) (pc' := 51) dX4_sameMap_50 (by decide) rfl ?_
    refine z_wk (ls' := [some (.ref t), some (.ref u), some (.int v2)]) (z_lec rfl (z_lec rfl (z_lec rfl z_le0))) ?_
    exact (ok_X4_sameMap_51 hst ht hu hk15) _ _ _ _ hF
  · rw [if_pos c3] at hF
    refine z_iconst (v := 1) (pc' := 47) dX4_sameMap_46 (by decide) rfl ?_
    refine z_goto (pc' := 51) dX4_sameMap_47 (by decide) ?_
    refine z_wk (ls' := [some (.ref t), some (.ref u), some (.int v2)]) (z_lec rfl (z_lec rfl (z_lec rfl z_le0))) ?_
    exact (ok_X4_sameMap_51 hst ht hu hk15) _ _ _ _ hF
def F_X4_sameMap_15 (B : Nat) (t : Nat) (u : Nat)  : Nat → Int32 → z_S → Option (z_O × z_S)
  | 0, _, _ => none
  | n + 1, v2, S => if (S.2.1 t 0) ≤ v2 then
    z_gd (z_b01 1) (some (.inl (some 1), S))
  else
    z_gd (z_inb v2 B) (
    z_lt (S.1 (t + 1) (z_ix (v2))) fun x3 =>
    (if x3 = 0 then
      F_X4_sameMap_37 B t u (F_X4_sameMap_15 B t u n) v2 1 S
    else
      F_X4_sameMap_37 B t u (F_X4_sameMap_15 B t u n) v2 0 S))
set_option maxRecDepth 20000 in
set_option maxHeartbeats 16000000 in
theorem ok_X4_sameMap_15 {l : Launch} {B : Nat} {t : Nat} {u : Nat} {q : z_O × z_S} (hst : l.stackTraces = false) (ht : z_is 4 t) (hu : z_is 4 u) : ∀ (n : Nat) (v2 : Int32) (S : z_S), F_X4_sameMap_15 B t u n v2 S = some q → z_W l I_X4_sameMap (R_X4_sameMap q) B q 15 [some (.ref t), some (.ref u), some (.int v2)] [] S := by
  intro n
  induction n with
  | zero => intro v2 S hF; cases hF
  | succ n ih =>
    intro v2 S hF
    rw [F_X4_sameMap_15] at hF
    refine z_iload_n (pc' := 16) dX4_sameMap_15 rfl rfl rfl ?_
    refine z_aload_n (pc' := 17) dX4_sameMap_16 rfl rfl rfl ?_
    refine gf_X4_9 (pc' := 20) rfl ht dX4_sameMap_17 rfl ?_
    refine z_icmp_ge (tgt := 62) (pc' := 23) dX4_sameMap_20 (by decide) rfl (fun c5 => ?_) (fun c5 => ?_)
    · rw [if_pos c5] at hF
      refine z_iconst (v := 1) (pc' := 63) dX4_sameMap_62 (by decide) rfl ?_
      obtain ⟨g1, hF⟩ := z_gde hF
      exact z_zreturn rfl (z_b01e g1) dX4_sameMap_63 (Option.some.inj hF).symm
    · rw [if_neg c5] at hF
      refine z_aload_n (pc' := 24) dX4_sameMap_23 rfl rfl rfl ?_
      refine gf_X4_15 (b := t + 1) (pc' := 27) rfl ht rfl dX4_sameMap_24 rfl ?_
      refine z_iload_n (pc' := 28) dX4_sameMap_27 rfl rfl rfl ?_
      obtain ⟨g2, hF⟩ := z_gde hF
      refine z_iaload (pc' := 29) (ar_4_f1 ht) (z_inbe g2) dX4_sameMap_28 rfl ?_
      refine z_topi (fun x3 ex3 => ?_)
      replace hF := z_lte hF x3 ex3
      refine z_if_ne (tgt := 36) (pc' := 32) dX4_sameMap_29 (by decide) rfl (fun c4 => ?_) (fun c4 => ?_)
      · rw [if_neg c4] at hF
        refine z_iconst (v := 0) (pc' := 37) dX4_sameMap_36 (by decide) rfl ?_
        refine z_wk (ls' := [some (.ref t), some (.ref u), some (.int v2)]) (z_lec rfl (z_lec rfl (z_lec rfl z_le0))) ?_
        exact (ok_X4_sameMap_37 hst ht hu ih) _ _ _ hF
      · rw [if_pos c4] at hF
        refine z_iconst (v := 1) (pc' := 33) dX4_sameMap_32 (by decide) rfl ?_
        refine z_goto (pc' := 37) dX4_sameMap_33 (by decide) ?_
        refine z_wk (ls' := [some (.ref t), some (.ref u), some (.int v2)]) (z_lec rfl (z_lec rfl (z_lec rfl z_le0))) ?_
        exact (ok_X4_sameMap_37 hst ht hu ih) _ _ _ hF
def F_X4_sameMap (B : Nat) (t : Nat) (u : Nat)  (S : z_S) : Option (z_O × z_S) :=
  if (S.2.1 t 12) = (S.2.1 u 12) then
    F_X4_sameMap_15 B t u z_n 0 S
  else
    z_gd (z_b01 0) (some (.inl (some 0), S))
set_option maxRecDepth 20000 in
set_option maxHeartbeats 16000000 in
theorem c_X4_sameMap {l : Launch} {B : Nat} {t : Nat} {u : Nat}  {S : z_S} {q : z_O × z_S} (hst : l.stackTraces = false) (ht : z_is 4 t) (hu : z_is 4 u) (hF : F_X4_sameMap B t u S = some q) : z_Met l I_X4_sameMap 0 0 B [.ref t, .ref u] S q.1 q.2 := by
  refine z_enter (ls := [some (.ref t), some (.ref u), none]) (n := 1) (by decide) rfl (Nat.le_of_ble_eq_true rfl) hst ?_
  unfold F_X4_sameMap at hF
  refine z_aload_n (pc' := 1) dX4_sameMap_0 rfl rfl rfl ?_
  refine gf_X4_53 (pc' := 4) rfl ht dX4_sameMap_1 rfl ?_
  refine z_aload_n (pc' := 5) dX4_sameMap_4 rfl rfl rfl ?_
  refine gf_X4_53 (pc' := 8) rfl hu dX4_sameMap_5 rfl ?_
  refine z_icmp_eq (tgt := 13) (pc' := 11) dX4_sameMap_8 (by decide) rfl (fun c2 => ?_) (fun c2 => ?_)
  · rw [if_pos c2] at hF
    refine z_iconst (v := 0) (pc' := 14) dX4_sameMap_13 (by decide) rfl ?_
    refine z_istore_n (pc' := 15) dX4_sameMap_14 rfl (by decide) rfl rfl ?_
    refine z_wk (ls' := [some (.ref t), some (.ref u), some (.int 0)]) (z_lec rfl (z_lec rfl (z_lec rfl z_le0))) ?_
    exact (ok_X4_sameMap_15 hst ht hu z_n) _ _ hF
  · rw [if_neg c2] at hF
    refine z_iconst (v := 0) (pc' := 12) dX4_sameMap_11 (by decide) rfl ?_
    obtain ⟨g1, hF⟩ := z_gde hF
    exact z_zreturn rfl (z_b01e g1) dX4_sameMap_12 (Option.some.inj hF).symm
theorem ok_X4_sameMap : z_okV I_X4_sameMap 1 := ⟨⟨z_Gin (List.mem_of_getElem? (i := 790) (by decide +kernel)) rfl, z_Gin (List.mem_of_getElem? (i := 791) (by decide +kernel)) rfl, z_Gin (List.mem_of_getElem? (i := 92) (by decide +kernel)) rfl, z_Gin (List.mem_of_getElem? (i := 792) (by decide +kernel)) rfl⟩, by decide, by decide, by decide +kernel⟩
theorem k_X4_sameMap {l : Launch} {I : z_I} {R : Room} {B : Nat} {t : Nat} {u : Nat}  {q : z_O × z_S} {pc pc' : Nat} {ls : List (Option Value)} {st : List Value} {S S1 : z_S} {idx F L : Nat} {r : Int32} (ht : z_is 4 t) (hu : z_is 4 u) (hF : F_X4_sameMap B t u S = some (.inl (some r), S1)) (hst : l.stackTraces = false) (w : Cond.methodLink I.1.cls idx yX4_sameMap ∈ z_G) (hRF : R.frames = F) (hRL : R.locals = L) (h1 : 1 ≤ F) (h2 : 22 ≤ L) (hs : (st.map fun v => v.category).sum ≤ 8) (d : decode I.2.1 pc = .ok (.invokevirtual idx, 3)) (hp : pc + 3 = pc') (k : z_W l I R B q pc' ls (.int r :: st) S1) : z_W l I R B q pc ls (.ref u :: .ref t :: st) S := z_callV (Y := I_X4_sameMap) (As := [.ref u]) (st := st) (r := (some r)) (S1 := S1) (c_X4_sameMap (q := (.inl (some r), S1)) hst ht hu hF) ok_X4_sameMap w (ci := 4) rfl ht.1 ht.2 rfl ⟨by rw [hRF]; exact h1, by rw [hRL]; exact h2⟩ hs d hp rfl k

theorem z_out1_3 {x : Int32} (h1 : ¬ x = 1) (h2 : ¬ x = 2) (h3 : ¬ x = 3) : x.toInt < 1 ∨ 3 < x.toInt := by
  have e : ∀ c : Int32, ¬ x = c → x.toInt ≠ c.toInt := fun c h h2 => h (Int32.toInt_inj.mp h2)
  have g1 : x.toInt ≠ 1 := e 1 h1
  have g2 : x.toInt ≠ 2 := e 2 h2
  have g3 : x.toInt ≠ 3 := e 3 h3
  omega
abbrev I_X0_sameBlock : z_I := (yX0_sameBlock, cX0_sameBlock, 3, some .boolean)
abbrev R_X0_sameBlock (q : z_O × z_S) : Room := { frames := 3, locals := 70, cells := z_mc q.1, slots := 6 * z_mc q.1 }
def F_X0_sameBlock (B : Nat) (t : Nat) (u : Nat) (p1 : Int32) (S : z_S) : Option (z_O × z_S) :=
  z_gd (z_inb p1 B) (
  z_lt (S.1 (t + 2) (z_ix (p1))) fun x2 =>
  (z_gd (z_inb p1 B) (
  z_lt (S.1 (u + 2) (z_ix (p1))) fun x4 =>
  (if x2 = x4 then
    z_gd (z_inb p1 B) (
    z_lt (S.1 (t + 2) (z_ix (p1))) fun x6 =>
    (if x6 = 1 then
      z_bn (F_X4_sameMap B (t + 1) (u + 1) S) fun r7 S8 =>
      (z_gd (z_b01 r7) (some (.inl (some r7), S8)))
    else if x6 = 2 then
      z_bn (F_X0_sameLeaf B t u p1 S) fun r11 S12 =>
      (z_gd (z_b01 r11) (some (.inl (some r11), S12)))
    else if x6 = 3 then
      z_bn (F_X4_sameInner B (t + 1) (u + 1) p1 S) fun r15 S16 =>
      (z_gd (z_b01 r15) (some (.inl (some r15), S16)))
    else 
      z_bn (F_X0_sameBytes B (t + 19) (128 * B) (u + 19) (128 * B) (p1 * 128) 128 S) fun r19 S20 =>
      (z_gd (z_b01 r19) (some (.inl (some r19), S20)))))
  else
    z_gd (z_b01 0) (some (.inl (some 0), S))))))
set_option maxRecDepth 20000 in
set_option maxHeartbeats 16000000 in
theorem c_X0_sameBlock {l : Launch} {B : Nat} {t : Nat} {u : Nat} {p1 : Int32} {S : z_S} {q : z_O × z_S} (hst : l.stackTraces = false) (ht : z_is 0 t) (hu : z_is 0 u) (hF : F_X0_sameBlock B t u p1 S = some q) : z_Met l I_X0_sameBlock 3 70 B [.ref t, .int p1, .ref u] S q.1 q.2 := by
  refine z_enter (ls := [some (.ref t), some (.int p1), some (.ref u)]) (n := 0) (by decide) rfl (Nat.le_of_ble_eq_true rfl) hst ?_
  unfold F_X0_sameBlock at hF
  refine z_aload_n (pc' := 1) dX0_sameBlock_0 rfl rfl rfl ?_
  refine gf_X0_14 (b := t + 1) (pc' := 4) rfl ht rfl dX0_sameBlock_1 rfl ?_
  refine gf_X0_64 (b := t + 2) (pc' := 7) rfl (is_0_f0 ht) rfl dX0_sameBlock_4 rfl ?_
  refine z_iload_n (pc' := 8) dX0_sameBlock_7 rfl rfl rfl ?_
  obtain ⟨g1, hF⟩ := z_gde hF
  refine z_iaload (pc' := 9) (ar_4_f1 (is_0_f0 ht)) (z_inbe g1) dX0_sameBlock_8 rfl ?_
  refine z_topi (fun x2 ex2 => ?_)
  replace hF := z_lte hF x2 ex2
  refine z_aload_n (pc' := 10) dX0_sameBlock_9 rfl rfl rfl ?_
  refine gf_X0_14 (b := u + 1) (pc' := 13) rfl hu rfl dX0_sameBlock_10 rfl ?_
  refine gf_X0_64 (b := u + 2) (pc' := 16) rfl (is_0_f0 hu) rfl dX0_sameBlock_13 rfl ?_
  refine z_iload_n (pc' := 17) dX0_sameBlock_16 rfl rfl rfl ?_
  obtain ⟨g3, hF⟩ := z_gde hF
  refine z_iaload (pc' := 18) (ar_4_f1 (is_0_f0 hu)) (z_inbe g3) dX0_sameBlock_17 rfl ?_
  refine z_topi (fun x4 ex4 => ?_)
  replace hF := z_lte hF x4 ex4
  refine z_icmp_eq (tgt := 23) (pc' := 21) dX0_sameBlock_18 (by decide) rfl (fun c27 => ?_) (fun c27 => ?_)
  · rw [if_pos c27] at hF
    refine z_aload_n (pc' := 24) dX0_sameBlock_23 rfl rfl rfl ?_
    refine gf_X0_14 (b := t + 1) (pc' := 27) rfl ht rfl dX0_sameBlock_24 rfl ?_
    refine gf_X0_64 (b := t + 2) (pc' := 30) rfl (is_0_f0 ht) rfl dX0_sameBlock_27 rfl ?_
    refine z_iload_n (pc' := 31) dX0_sameBlock_30 rfl rfl rfl ?_
    obtain ⟨g5, hF⟩ := z_gde hF
    refine z_iaload (pc' := 32) (ar_4_f1 (is_0_f0 ht)) (z_inbe g5) dX0_sameBlock_31 rfl ?_
    refine z_topi (fun x6 ex6 => ?_)
    replace hF := z_lte hF x6 ex6
    by_cases c23 : x6 = 1
    · rw [if_pos c23] at hF
      refine z_tswIn (tgt := 60) dX0_sameBlock_32 (by rw [c23]; decide) (by rw [c23]; decide) (by rw [c23]; rfl) (by decide) ?_
      refine z_aload_n (pc' := 61) dX0_sameBlock_60 rfl rfl rfl ?_
      refine gf_X0_14 (b := t + 1) (pc' := 64) rfl ht rfl dX0_sameBlock_61 rfl ?_
      refine z_aload_n (pc' := 65) dX0_sameBlock_64 rfl rfl rfl ?_
      refine gf_X0_14 (b := u + 1) (pc' := 68) rfl hu rfl dX0_sameBlock_65 rfl ?_
      obtain ⟨r7, S8, hc9, hF⟩ := z_bne hF
      refine k_X4_sameMap (F := 3) (L := 70) (pc' := 71) (is_0_f0 ht) (is_0_f0 hu) hc9 hst zw_18 rfl rfl (by decide) (by decide) (by decide) dX0_sameBlock_68 rfl ?_
      obtain ⟨g10, hF⟩ := z_gde hF
      exact z_zreturn rfl (z_b01e g10) dX0_sameBlock_71 (Option.some.inj hF).symm
    rw [if_neg c23] at hF
    by_cases c24 : x6 = 2
    · rw [if_pos c24] at hF
      refine z_tswIn (tgt := 72) dX0_sameBlock_32 (by rw [c24]; decide) (by rw [c24]; decide) (by rw [c24]; rfl) (by decide) ?_
      refine z_aload_n (pc' := 73) dX0_sameBlock_72 rfl rfl rfl ?_
      refine z_iload_n (pc' := 74) dX0_sameBlock_73 rfl rfl rfl ?_
      refine z_aload_n (pc' := 75) dX0_sameBlock_74 rfl rfl rfl ?_
      obtain ⟨r11, S12, hc13, hF⟩ := z_bne hF
      refine k_X0_sameLeaf (F := 3) (L := 70) (pc' := 78) ht hu hc13 hst zw_19 rfl rfl (by decide) (by decide) (by decide) dX0_sameBlock_75 rfl ?_
      obtain ⟨g14, hF⟩ := z_gde hF
      exact z_zreturn rfl (z_b01e g14) dX0_sameBlock_78 (Option.some.inj hF).symm
    rw [if_neg c24] at hF
    by_cases c25 : x6 = 3
    · rw [if_pos c25] at hF
      refine z_tswIn (tgt := 79) dX0_sameBlock_32 (by rw [c25]; decide) (by rw [c25]; decide) (by rw [c25]; rfl) (by decide) ?_
      refine z_aload_n (pc' := 80) dX0_sameBlock_79 rfl rfl rfl ?_
      refine gf_X0_14 (b := t + 1) (pc' := 83) rfl ht rfl dX0_sameBlock_80 rfl ?_
      refine z_iload_n (pc' := 84) dX0_sameBlock_83 rfl rfl rfl ?_
      refine z_aload_n (pc' := 85) dX0_sameBlock_84 rfl rfl rfl ?_
      refine gf_X0_14 (b := u + 1) (pc' := 88) rfl hu rfl dX0_sameBlock_85 rfl ?_
      obtain ⟨r15, S16, hc17, hF⟩ := z_bne hF
      refine k_X4_sameInner (F := 3) (L := 70) (pc' := 91) (is_0_f0 ht) (is_0_f0 hu) hc17 hst zw_20 rfl rfl (by decide) (by decide) (by decide) dX0_sameBlock_88 rfl ?_
      obtain ⟨g18, hF⟩ := z_gde hF
      exact z_zreturn rfl (z_b01e g18) dX0_sameBlock_91 (Option.some.inj hF).symm
    rw [if_neg c25] at hF
    refine z_tswOut (tgt := 92) dX0_sameBlock_32 (z_out1_3 c23 c24 c25) (by decide) ?_
    refine z_aload_n (pc' := 93) dX0_sameBlock_92 rfl rfl rfl ?_
    refine gf_X0_27 (b := t + 19) (pc' := 96) rfl ht rfl dX0_sameBlock_93 rfl ?_
    refine z_aload_n (pc' := 97) dX0_sameBlock_96 rfl rfl rfl ?_
    refine gf_X0_27 (b := u + 19) (pc' := 100) rfl hu rfl dX0_sameBlock_97 rfl ?_
    refine z_iload_n (pc' := 101) dX0_sameBlock_100 rfl rfl rfl ?_
    refine z_sipush (v := 128) (pc' := 104) dX0_sameBlock_101 (by decide) rfl ?_
    refine z_imul (pc' := 105) dX0_sameBlock_104 rfl ?_
    refine z_sipush (v := 128) (pc' := 108) dX0_sameBlock_105 (by decide) rfl ?_
    obtain ⟨r19, S20, hc21, hF⟩ := z_bne hF
    refine k_X0_sameBytes (F := 3) (L := 70) (pc' := 111) (ar_0_f2 ht) (ar_0_f2 hu) hc21 hst zw_14 rfl rfl (by decide) (by decide) (by decide) dX0_sameBlock_108 rfl ?_
    obtain ⟨g22, hF⟩ := z_gde hF
    exact z_zreturn rfl (z_b01e g22) dX0_sameBlock_111 (Option.some.inj hF).symm
  · rw [if_neg c27] at hF
    refine z_iconst (v := 0) (pc' := 22) dX0_sameBlock_21 (by decide) rfl ?_
    obtain ⟨g26, hF⟩ := z_gde hF
    exact z_zreturn rfl (z_b01e g26) dX0_sameBlock_22 (Option.some.inj hF).symm
theorem ok_X0_sameBlock : z_okV I_X0_sameBlock 2 := ⟨⟨z_Gin (List.mem_of_getElem? (i := 786) (by decide +kernel)) rfl, z_Gin (List.mem_of_getElem? (i := 787) (by decide +kernel)) rfl, z_Gin (List.mem_of_getElem? (i := 91) (by decide +kernel)) rfl, z_Gin (List.mem_of_getElem? (i := 788) (by decide +kernel)) rfl⟩, by decide, by decide, by decide +kernel⟩
theorem k_X0_sameBlock {l : Launch} {I : z_I} {R : Room} {B : Nat} {t : Nat} {u : Nat} {p1 : Int32} {q : z_O × z_S} {pc pc' : Nat} {ls : List (Option Value)} {st : List Value} {S S1 : z_S} {idx F L : Nat} {r : Int32} (ht : z_is 0 t) (hu : z_is 0 u) (hF : F_X0_sameBlock B t u p1 S = some (.inl (some r), S1)) (hst : l.stackTraces = false) (w : Cond.methodLink I.1.cls idx yX0_sameBlock ∈ z_G) (hRF : R.frames = F) (hRL : R.locals = L) (h1 : 4 ≤ F) (h2 : 92 ≤ L) (hs : (st.map fun v => v.category).sum ≤ 8) (d : decode I.2.1 pc = .ok (.invokevirtual idx, 3)) (hp : pc + 3 = pc') (k : z_W l I R B q pc' ls (.int r :: st) S1) : z_W l I R B q pc ls (.ref u :: .int p1 :: .ref t :: st) S := z_callV (Y := I_X0_sameBlock) (As := [.int p1, .ref u]) (st := st) (r := (some r)) (S1 := S1) (c_X0_sameBlock (q := (.inl (some r), S1)) hst ht hu hF) ok_X0_sameBlock w (ci := 0) rfl ht.1 ht.2 rfl ⟨by rw [hRF]; exact h1, by rw [hRL]; exact h2⟩ hs d hp rfl k

abbrev I_X3_writesOne : z_I := (yX3_writesOne, cX3_writesOne, 1, some .boolean)
abbrev R_X3_writesOne (q : z_O × z_S) : Room := { frames := 0, locals := 0, cells := z_mc q.1, slots := 6 * z_mc q.1 }
def F_X3_writesOne_36 (B : Nat)   (S : z_S) : Option (z_O × z_S) :=
  z_lt (z_ui S 57 2 ((S.2.1 57 2) + 1)) fun S1 =>
  (z_gd (z_b01 1) (some (.inl (some 1), S1)))
set_option maxRecDepth 20000 in
set_option maxHeartbeats 16000000 in
theorem ok_X3_writesOne_36 {l : Launch} {B : Nat} {q : z_O × z_S} (hst : l.stackTraces = false) : ∀ (S : z_S), F_X3_writesOne_36 B S = some q → z_W l I_X3_writesOne (R_X3_writesOne q) B q 36 [some (.ref 57)] [] S := by
  intro S hF
  unfold F_X3_writesOne_36 at hF
  refine z_aload_n (pc' := 37) dX3_writesOne_36 rfl rfl rfl ?_
  refine z_dupr (pc' := 38) dX3_writesOne_37 rfl ?_
  refine gf_X3_19 (pc' := 41) rfl is_3_57 dX3_writesOne_38 rfl ?_
  refine z_iconst (v := 1) (pc' := 42) dX3_writesOne_41 (by decide) rfl ?_
  refine z_iadd (pc' := 43) dX3_writesOne_42 rfl ?_
  refine pf_X3_19 (pc' := 46) rfl is_3_57 dX3_writesOne_43 rfl (fun S1 eS1 => ?_)
  replace hF := z_lte hF S1 eS1
  refine z_iconst (v := 1) (pc' := 47) dX3_writesOne_46 (by decide) rfl ?_
  obtain ⟨g2, hF⟩ := z_gde hF
  exact z_zreturn rfl (z_b01e g2) dX3_writesOne_47 (Option.some.inj hF).symm
def F_X3_writesOne (B : Nat)  (S : z_S) : Option (z_O × z_S) :=
  if (S.2.1 57 1) = 0 then
    z_gd (z_b01 1) (
    z_lt (z_ui S 57 0 1) fun S4 =>
    (z_lt (z_ui S4 57 1 (-1)) fun S5 =>
    (z_gd (z_b01 0) (some (.inl (some 0), S5)))))
  else
    if (S.2.1 57 1) ≤ 0 then
      F_X3_writesOne_36 B S
    else
      z_lt (z_ui S 57 1 ((S.2.1 57 1) - 1)) fun S1 =>
      (F_X3_writesOne_36 B S1)
set_option maxRecDepth 20000 in
set_option maxHeartbeats 16000000 in
theorem c_X3_writesOne {l : Launch} {B : Nat}  {S : z_S} {q : z_O × z_S} (hst : l.stackTraces = false) (hF : F_X3_writesOne B S = some q) : z_Met l I_X3_writesOne 0 0 B [.ref 57] S q.1 q.2 := by
  refine z_enter (ls := [some (.ref 57)]) (n := 0) (by decide) rfl (Nat.le_of_ble_eq_true rfl) hst ?_
  unfold F_X3_writesOne at hF
  refine z_aload_n (pc' := 1) dX3_writesOne_0 rfl rfl rfl ?_
  refine gf_X3_15 (pc' := 4) rfl is_3_57 dX3_writesOne_1 rfl ?_
  refine z_if_ne (tgt := 19) (pc' := 7) dX3_writesOne_4 (by decide) rfl (fun c7 => ?_) (fun c7 => ?_)
  · rw [if_neg c7] at hF
    refine z_aload_n (pc' := 20) dX3_writesOne_19 rfl rfl rfl ?_
    refine gf_X3_15 (pc' := 23) rfl is_3_57 dX3_writesOne_20 rfl ?_
    refine z_if_le (tgt := 36) (pc' := 26) dX3_writesOne_23 (by decide) rfl (fun c2 => ?_) (fun c2 => ?_)
    · rw [if_pos c2] at hF
      refine z_wk (ls' := [some (.ref 57)]) (z_lec rfl z_le0) ?_
      exact (ok_X3_writesOne_36 hst) _ hF
    · rw [if_neg c2] at hF
      refine z_aload_n (pc' := 27) dX3_writesOne_26 rfl rfl rfl ?_
      refine z_dupr (pc' := 28) dX3_writesOne_27 rfl ?_
      refine gf_X3_15 (pc' := 31) rfl is_3_57 dX3_writesOne_28 rfl ?_
      refine z_iconst (v := 1) (pc' := 32) dX3_writesOne_31 (by decide) rfl ?_
      refine z_isub (pc' := 33) dX3_writesOne_32 rfl ?_
      refine pf_X3_15 (pc' := 36) rfl is_3_57 dX3_writesOne_33 rfl (fun S1 eS1 => ?_)
      replace hF := z_lte hF S1 eS1
      refine z_wk (ls' := [some (.ref 57)]) (z_lec rfl z_le0) ?_
      exact (ok_X3_writesOne_36 hst) _ hF
  · rw [if_pos c7] at hF
    refine z_aload_n (pc' := 8) dX3_writesOne_7 rfl rfl rfl ?_
    refine z_iconst (v := 1) (pc' := 9) dX3_writesOne_8 (by decide) rfl ?_
    obtain ⟨g3, hF⟩ := z_gde hF
    refine pf_X3_9 (pc' := 12) rfl is_3_57 (z_b01e g3) dX3_writesOne_9 rfl (fun S4 eS4 => ?_)
    replace hF := z_lte hF S4 eS4
    refine z_aload_n (pc' := 13) dX3_writesOne_12 rfl rfl rfl ?_
    refine z_iconst (v := (-1)) (pc' := 14) dX3_writesOne_13 (by decide) rfl ?_
    refine pf_X3_15 (pc' := 17) rfl is_3_57 dX3_writesOne_14 rfl (fun S5 eS5 => ?_)
    replace hF := z_lte hF S5 eS5
    refine z_iconst (v := 0) (pc' := 18) dX3_writesOne_17 (by decide) rfl ?_
    obtain ⟨g6, hF⟩ := z_gde hF
    exact z_zreturn rfl (z_b01e g6) dX3_writesOne_18 (Option.some.inj hF).symm
theorem ok_X3_writesOne : z_okV I_X3_writesOne 0 := ⟨⟨z_Gin (List.mem_of_getElem? (i := 832) (by decide +kernel)) rfl, z_Gin (List.mem_of_getElem? (i := 833) (by decide +kernel)) rfl, z_Gin (List.mem_of_getElem? (i := 97) (by decide +kernel)) rfl, z_Gin (List.mem_of_getElem? (i := 834) (by decide +kernel)) rfl⟩, by decide, by decide, by decide +kernel⟩
theorem k_X3_writesOne {l : Launch} {I : z_I} {R : Room} {B : Nat}  {q : z_O × z_S} {pc pc' : Nat} {ls : List (Option Value)} {st : List Value} {S S1 : z_S} {idx F L : Nat} {r : Int32}  (hF : F_X3_writesOne B S = some (.inl (some r), S1)) (hst : l.stackTraces = false) (w : Cond.methodLink I.1.cls idx yX3_writesOne ∈ z_G) (hRF : R.frames = F) (hRL : R.locals = L) (h1 : 1 ≤ F) (h2 : 20 ≤ L) (hs : (st.map fun v => v.category).sum ≤ 8) (d : decode I.2.1 pc = .ok (.invokevirtual idx, 3)) (hp : pc + 3 = pc') (k : z_W l I R B q pc' ls (.int r :: st) S1) : z_W l I R B q pc ls (.ref 57 :: st) S := z_callV (Y := I_X3_writesOne) (As := []) (st := st) (r := (some r)) (S1 := S1) (c_X3_writesOne (q := (.inl (some r), S1)) hst hF) ok_X3_writesOne w (ci := 3) rfl is_3_57.1 is_3_57.2 rfl ⟨by rw [hRF]; exact h1, by rw [hRL]; exact h2⟩ hs d hp rfl k

abbrev I_X1_empties : z_I := (yX1_empties, cX1_empties, 3, some .boolean)
abbrev R_X1_empties (q : z_O × z_S) : Room := { frames := 1, locals := 20, cells := z_mc q.1, slots := 6 * z_mc q.1 }
def F_X1_empties_55 (B : Nat)  : Nat → Int32 → z_S → Option (z_O × z_S)
  | 0, _, _ => none
  | n + 1, v2, S => if (Int32.ofNat B) ≤ v2 then
    z_lt (z_ui S 55 2 0) fun S1 =>
    (z_gd (z_b01 1) (some (.inl (some 1), S1)))
  else
    z_gd (z_inb v2 B) (
    z_lt (z_ua S 56 (upd (S.1 56) (z_ix (v2)) (vp_nar .boolean 0))) fun S4 =>
    (F_X1_empties_55 B n (v2 + 1) S4))
set_option maxRecDepth 20000 in
set_option maxHeartbeats 16000000 in
theorem ok_X1_empties_55 {l : Launch} {B : Nat} {q : z_O × z_S} (hst : l.stackTraces = false) : ∀ (n : Nat) (v2 : Int32) (S : z_S), F_X1_empties_55 B n v2 S = some q → z_W l I_X1_empties (R_X1_empties q) B q 55 [some (.ref 55), none, some (.int v2)] [] S := by
  intro n
  induction n with
  | zero => intro v2 S hF; cases hF
  | succ n ih =>
    intro v2 S hF
    rw [F_X1_empties_55] at hF
    refine z_iload_n (pc' := 56) dX1_empties_55 rfl rfl rfl ?_
    refine z_aload_n (pc' := 57) dX1_empties_56 rfl rfl rfl ?_
    refine gf_X1_15 (b := 56) (pc' := 60) rfl is_1_55 rfl dX1_empties_57 rfl ?_
    refine z_alen (v := Int32.ofNat B) (pc' := 61) (ar_1_f1 is_1_55) (by decide) rfl dX1_empties_60 rfl ?_
    refine z_icmp_ge (tgt := 77) (pc' := 64) dX1_empties_61 (by decide) rfl (fun c5 => ?_) (fun c5 => ?_)
    · rw [if_pos c5] at hF
      refine z_aload_n (pc' := 78) dX1_empties_77 rfl rfl rfl ?_
      refine z_iconst (v := 0) (pc' := 79) dX1_empties_78 (by decide) rfl ?_
      refine pf_X1_19 (pc' := 82) rfl is_1_55 dX1_empties_79 rfl (fun S1 eS1 => ?_)
      replace hF := z_lte hF S1 eS1
      refine z_iconst (v := 1) (pc' := 83) dX1_empties_82 (by decide) rfl ?_
      obtain ⟨g2, hF⟩ := z_gde hF
      exact z_zreturn rfl (z_b01e g2) dX1_empties_83 (Option.some.inj hF).symm
    · rw [if_neg c5] at hF
      refine z_aload_n (pc' := 65) dX1_empties_64 rfl rfl rfl ?_
      refine gf_X1_15 (b := 56) (pc' := 68) rfl is_1_55 rfl dX1_empties_65 rfl ?_
      refine z_iload_n (pc' := 69) dX1_empties_68 rfl rfl rfl ?_
      refine z_iconst (v := 0) (pc' := 70) dX1_empties_69 (by decide) rfl ?_
      obtain ⟨g3, hF⟩ := z_gde hF
      refine z_zastore (pc' := 71) (ar_1_f1 is_1_55) (z_inbe g3) dX1_empties_70 rfl (fun S4 eS4 => ?_)
      replace hF := z_lte hF S4 eS4
      refine z_iinc (v := v2 + 1) (pc' := 74) dX1_empties_71 rfl rfl (by decide) rfl rfl ?_
      refine z_goto (pc' := 55) dX1_empties_74 (by decide) ?_
      refine z_wk (ls' := [some (.ref 55), none, some (.int (v2 + 1))]) (z_lec rfl (z_len1 (z_lec rfl z_le0))) ?_
      exact ih _ _ hF
def F_X1_empties_38 (B : Nat) (k11 : Int32 → z_S → Option (z_O × z_S)) (v2 : Int32) (S : z_S) : Option (z_O × z_S) :=
  k11 (v2 + 1) S
set_option maxRecDepth 20000 in
set_option maxHeartbeats 16000000 in
theorem ok_X1_empties_38 {l : Launch} {B : Nat} {q : z_O × z_S} (hst : l.stackTraces = false) {k11 : Int32 → z_S → Option (z_O × z_S)} (hk11 : ∀ (v2 : Int32) (S : z_S), k11 v2 S = some q → z_W l I_X1_empties (R_X1_empties q) B q 11 [some (.ref 55), some (.ref 57), some (.int v2)] [] S) : ∀ (v2 : Int32) (S : z_S), F_X1_empties_38 B k11 v2 S = some q → z_W l I_X1_empties (R_X1_empties q) B q 38 [some (.ref 55), some (.ref 57), some (.int v2)] [] S := by
  intro v2 S hF
  unfold F_X1_empties_38 at hF
  refine z_iinc (v := v2 + 1) (pc' := 41) dX1_empties_38 rfl rfl (by decide) rfl rfl ?_
  refine z_goto (pc' := 11) dX1_empties_41 (by decide) ?_
  refine z_wk (ls' := [some (.ref 55), some (.ref 57), some (.int (v2 + 1))]) (z_lec rfl (z_lec rfl (z_lec rfl z_le0))) ?_
  exact hk11 _ _ hF
def F_X1_empties_11 (B : Nat)  : Nat → Int32 → z_S → Option (z_O × z_S)
  | 0, _, _ => none
  | n + 1, v2, S => if (Int32.ofNat B) ≤ v2 then
    z_bn (F_X3_writesOne B S) fun r1 S2 =>
    (if r1 = 0 then
      z_gd (z_b01 0) (some (.inl (some 0), S2))
    else
      F_X1_empties_55 B z_n 0 S2)
  else
    z_gd (z_inb v2 B) (
    z_lt (S.1 56 (z_ix (v2))) fun x7 =>
    (if x7 = 0 then
      F_X1_empties_38 B (F_X1_empties_11 B n) v2 S
    else
      z_bn (F_X3_writesOne B S) fun r8 S9 =>
      (if r8 = 0 then
        z_gd (z_b01 0) (some (.inl (some 0), S9))
      else
        F_X1_empties_38 B (F_X1_empties_11 B n) v2 S9)))
set_option maxRecDepth 20000 in
set_option maxHeartbeats 16000000 in
theorem ok_X1_empties_11 {l : Launch} {B : Nat} {q : z_O × z_S} (hst : l.stackTraces = false) : ∀ (n : Nat) (v2 : Int32) (S : z_S), F_X1_empties_11 B n v2 S = some q → z_W l I_X1_empties (R_X1_empties q) B q 11 [some (.ref 55), some (.ref 57), some (.int v2)] [] S := by
  intro n
  induction n with
  | zero => intro v2 S hF; cases hF
  | succ n ih =>
    intro v2 S hF
    rw [F_X1_empties_11] at hF
    refine z_iload_n (pc' := 12) dX1_empties_11 rfl rfl rfl ?_
    refine z_aload_n (pc' := 13) dX1_empties_12 rfl rfl rfl ?_
    refine gf_X1_15 (b := 56) (pc' := 16) rfl is_1_55 rfl dX1_empties_13 rfl ?_
    refine z_alen (v := Int32.ofNat B) (pc' := 17) (ar_1_f1 is_1_55) (by decide) rfl dX1_empties_16 rfl ?_
    refine z_icmp_ge (tgt := 44) (pc' := 20) dX1_empties_17 (by decide) rfl (fun c14 => ?_) (fun c14 => ?_)
    · rw [if_pos c14] at hF
      refine z_aload_n (pc' := 45) dX1_empties_44 rfl rfl rfl ?_
      obtain ⟨r1, S2, hc3, hF⟩ := z_bne hF
      refine k_X3_writesOne (F := 1) (L := 20) (pc' := 48) hc3 hst zw_21 rfl rfl (by decide) (by decide) (by decide) dX1_empties_45 rfl ?_
      refine z_if_ne (tgt := 53) (pc' := 51) dX1_empties_48 (by decide) rfl (fun c5 => ?_) (fun c5 => ?_)
      · rw [if_neg c5] at hF
        refine z_iconst (v := 0) (pc' := 54) dX1_empties_53 (by decide) rfl ?_
        refine z_istore_n (pc' := 55) dX1_empties_54 rfl (by decide) rfl rfl ?_
        refine z_wk (ls' := [some (.ref 55), none, some (.int 0)]) (z_lec rfl (z_len1 (z_lec rfl z_le0))) ?_
        exact (ok_X1_empties_55 hst z_n) _ _ hF
      · rw [if_pos c5] at hF
        refine z_iconst (v := 0) (pc' := 52) dX1_empties_51 (by decide) rfl ?_
        obtain ⟨g4, hF⟩ := z_gde hF
        exact z_zreturn rfl (z_b01e g4) dX1_empties_52 (Option.some.inj hF).symm
    · rw [if_neg c14] at hF
      refine z_aload_n (pc' := 21) dX1_empties_20 rfl rfl rfl ?_
      refine gf_X1_15 (b := 56) (pc' := 24) rfl is_1_55 rfl dX1_empties_21 rfl ?_
      refine z_iload_n (pc' := 25) dX1_empties_24 rfl rfl rfl ?_
      obtain ⟨g6, hF⟩ := z_gde hF
      refine z_zaload (pc' := 26) (ar_1_f1 is_1_55) (z_inbe g6) dX1_empties_25 rfl ?_
      refine z_topi (fun x7 ex7 => ?_)
      replace hF := z_lte hF x7 ex7
      refine z_if_eq (tgt := 38) (pc' := 29) dX1_empties_26 (by decide) rfl (fun c13 => ?_) (fun c13 => ?_)
      · rw [if_pos c13] at hF
        refine z_wk (ls' := [some (.ref 55), some (.ref 57), some (.int v2)]) (z_lec rfl (z_lec rfl (z_lec rfl z_le0))) ?_
        exact (ok_X1_empties_38 hst ih) _ _ hF
      · rw [if_neg c13] at hF
        refine z_aload_n (pc' := 30) dX1_empties_29 rfl rfl rfl ?_
        obtain ⟨r8, S9, hc10, hF⟩ := z_bne hF
        refine k_X3_writesOne (F := 1) (L := 20) (pc' := 33) hc10 hst zw_21 rfl rfl (by decide) (by decide) (by decide) dX1_empties_30 rfl ?_
        refine z_if_ne (tgt := 38) (pc' := 36) dX1_empties_33 (by decide) rfl (fun c12 => ?_) (fun c12 => ?_)
        · rw [if_neg c12] at hF
          refine z_wk (ls' := [some (.ref 55), some (.ref 57), some (.int v2)]) (z_lec rfl (z_lec rfl (z_lec rfl z_le0))) ?_
          exact (ok_X1_empties_38 hst ih) _ _ hF
        · rw [if_pos c12] at hF
          refine z_iconst (v := 0) (pc' := 37) dX1_empties_36 (by decide) rfl ?_
          obtain ⟨g11, hF⟩ := z_gde hF
          exact z_zreturn rfl (z_b01e g11) dX1_empties_37 (Option.some.inj hF).symm
def F_X1_empties (B : Nat)  (S : z_S) : Option (z_O × z_S) :=
  if (S.2.1 55 2) = 0 then
    z_gd (z_b01 1) (some (.inl (some 1), S))
  else
    F_X1_empties_11 B z_n 0 S
set_option maxRecDepth 20000 in
set_option maxHeartbeats 16000000 in
theorem c_X1_empties {l : Launch} {B : Nat}  {S : z_S} {q : z_O × z_S} (hst : l.stackTraces = false) (hF : F_X1_empties B S = some q) : z_Met l I_X1_empties 1 20 B [.ref 55, .ref 57] S q.1 q.2 := by
  refine z_enter (ls := [some (.ref 55), some (.ref 57), none]) (n := 1) (by decide) rfl (Nat.le_of_ble_eq_true rfl) hst ?_
  unfold F_X1_empties at hF
  refine z_aload_n (pc' := 1) dX1_empties_0 rfl rfl rfl ?_
  refine gf_X1_19 (pc' := 4) rfl is_1_55 dX1_empties_1 rfl ?_
  refine z_if_ne (tgt := 9) (pc' := 7) dX1_empties_4 (by decide) rfl (fun c2 => ?_) (fun c2 => ?_)
  · rw [if_neg c2] at hF
    refine z_iconst (v := 0) (pc' := 10) dX1_empties_9 (by decide) rfl ?_
    refine z_istore_n (pc' := 11) dX1_empties_10 rfl (by decide) rfl rfl ?_
    refine z_wk (ls' := [some (.ref 55), some (.ref 57), some (.int 0)]) (z_lec rfl (z_lec rfl (z_lec rfl z_le0))) ?_
    exact (ok_X1_empties_11 hst z_n) _ _ hF
  · rw [if_pos c2] at hF
    refine z_iconst (v := 1) (pc' := 8) dX1_empties_7 (by decide) rfl ?_
    obtain ⟨g1, hF⟩ := z_gde hF
    exact z_zreturn rfl (z_b01e g1) dX1_empties_8 (Option.some.inj hF).symm
theorem ok_X1_empties : z_okV I_X1_empties 1 := ⟨⟨z_Gin (List.mem_of_getElem? (i := 828) (by decide +kernel)) rfl, z_Gin (List.mem_of_getElem? (i := 829) (by decide +kernel)) rfl, z_Gin (List.mem_of_getElem? (i := 96) (by decide +kernel)) rfl, z_Gin (List.mem_of_getElem? (i := 830) (by decide +kernel)) rfl⟩, by decide, by decide, by decide +kernel⟩
theorem k_X1_empties {l : Launch} {I : z_I} {R : Room} {B : Nat}  {q : z_O × z_S} {pc pc' : Nat} {ls : List (Option Value)} {st : List Value} {S S1 : z_S} {idx F L : Nat} {r : Int32}  (hF : F_X1_empties B S = some (.inl (some r), S1)) (hst : l.stackTraces = false) (w : Cond.methodLink I.1.cls idx yX1_empties ∈ z_G) (hRF : R.frames = F) (hRL : R.locals = L) (h1 : 2 ≤ F) (h2 : 42 ≤ L) (hs : (st.map fun v => v.category).sum ≤ 8) (d : decode I.2.1 pc = .ok (.invokevirtual idx, 3)) (hp : pc + 3 = pc') (k : z_W l I R B q pc' ls (.int r :: st) S1) : z_W l I R B q pc ls (.ref 57 :: .ref 55 :: st) S := z_callV (Y := I_X1_empties) (As := [.ref 57]) (st := st) (r := (some r)) (S1 := S1) (c_X1_empties (q := (.inl (some r), S1)) hst hF) ok_X1_empties w (ci := 1) rfl is_1_55.1 is_1_55.2 rfl ⟨by rw [hRF]; exact h1, by rw [hRL]; exact h2⟩ hs d hp rfl k

abbrev I_X1_takes : z_I := (yX1_takes, cX1_takes, 5, some .boolean)
abbrev R_X1_takes (q : z_O × z_S) : Room := { frames := 1, locals := 20, cells := z_mc q.1, slots := 6 * z_mc q.1 }
def F_X1_takes_110 (B : Nat) (a1 m1 : Nat)  (v3 : Int32) (S : z_S) : Option (z_O × z_S) :=
  z_lt (z_ui S 55 2 ((S.2.1 55 2) + v3)) fun S1 =>
  (z_lt (z_ui S1 55 3 ((S1.2.1 55 3) + 1)) fun S2 =>
  (z_gd (z_b01 1) (some (.inl (some 1), S2))))
set_option maxRecDepth 20000 in
set_option maxHeartbeats 16000000 in
theorem ok_X1_takes_110 {l : Launch} {B : Nat} {a1 : Nat} {m1 : Nat} {q : z_O × z_S} (hst : l.stackTraces = false) (ha1 : z_arr B a1 2 m1) : ∀ (v3 : Int32) (S : z_S), F_X1_takes_110 B a1 m1 v3 S = some q → z_W l I_X1_takes (R_X1_takes q) B q 110 [some (.ref 55), none, none, some (.int v3), none] [] S := by
  intro v3 S hF
  unfold F_X1_takes_110 at hF
  refine z_aload_n (pc' := 111) dX1_takes_110 rfl rfl rfl ?_
  refine z_dupr (pc' := 112) dX1_takes_111 rfl ?_
  refine gf_X1_19 (pc' := 115) rfl is_1_55 dX1_takes_112 rfl ?_
  refine z_iload_n (pc' := 116) dX1_takes_115 rfl rfl rfl ?_
  refine z_iadd (pc' := 117) dX1_takes_116 rfl ?_
  refine pf_X1_19 (pc' := 120) rfl is_1_55 dX1_takes_117 rfl (fun S1 eS1 => ?_)
  replace hF := z_lte hF S1 eS1
  refine z_aload_n (pc' := 121) dX1_takes_120 rfl rfl rfl ?_
  refine z_dupr (pc' := 122) dX1_takes_121 rfl ?_
  refine gf_X1_28 (pc' := 125) rfl is_1_55 dX1_takes_122 rfl ?_
  refine z_iconst (v := 1) (pc' := 126) dX1_takes_125 (by decide) rfl ?_
  refine z_iadd (pc' := 127) dX1_takes_126 rfl ?_
  refine pf_X1_28 (pc' := 130) rfl is_1_55 dX1_takes_127 rfl (fun S2 eS2 => ?_)
  replace hF := z_lte hF S2 eS2
  refine z_iconst (v := 1) (pc' := 131) dX1_takes_130 (by decide) rfl ?_
  obtain ⟨g3, hF⟩ := z_gde hF
  exact z_zreturn rfl (z_b01e g3) dX1_takes_131 (Option.some.inj hF).symm
def F_X1_takes_103 (B : Nat) (a1 m1 : Nat) (k58 : Int32 → Int32 → z_S → Option (z_O × z_S)) (v3 : Int32) (v4 : Int32) (s0 : Int32) (s1 : Int32) (S : z_S) : Option (z_O × z_S) :=
  z_gd (z_inb s1 B) (
  z_lt (z_ua S 56 (upd (S.1 56) (z_ix (s1)) (vp_nar .boolean s0))) fun S2 =>
  (k58 v3 (v4 + 1) S2))
set_option maxRecDepth 20000 in
set_option maxHeartbeats 16000000 in
theorem ok_X1_takes_103 {l : Launch} {B : Nat} {a1 : Nat} {m1 : Nat} {q : z_O × z_S} (hst : l.stackTraces = false) (ha1 : z_arr B a1 2 m1) {k58 : Int32 → Int32 → z_S → Option (z_O × z_S)} (hk58 : ∀ (v3 : Int32) (v4 : Int32) (S : z_S), k58 v3 v4 S = some q → z_W l I_X1_takes (R_X1_takes q) B q 58 [some (.ref 55), some (.ref a1), none, some (.int v3), some (.int v4)] [] S) : ∀ (v3 : Int32) (v4 : Int32) (s0 : Int32) (s1 : Int32) (S : z_S), F_X1_takes_103 B a1 m1 k58 v3 v4 s0 s1 S = some q → z_W l I_X1_takes (R_X1_takes q) B q 103 [some (.ref 55), some (.ref a1), none, some (.int v3), some (.int v4)] [.int s0, .int s1, .ref 56] S := by
  intro v3 v4 s0 s1 S hF
  unfold F_X1_takes_103 at hF
  obtain ⟨g1, hF⟩ := z_gde hF
  refine z_zastore (pc' := 104) (ar_1_f1 is_1_55) (z_inbe g1) dX1_takes_103 rfl (fun S2 eS2 => ?_)
  replace hF := z_lte hF S2 eS2
  refine z_iinc (v := v4 + 1) (pc' := 107) dX1_takes_104 rfl rfl (by decide) rfl rfl ?_
  refine z_goto (pc' := 58) dX1_takes_107 (by decide) ?_
  refine z_wk (ls' := [some (.ref 55), some (.ref a1), none, some (.int v3), some (.int (v4 + 1))]) (z_lec rfl (z_lec rfl (z_len1 (z_lec rfl (z_lec rfl z_le0))))) ?_
  exact hk58 _ _ _ hF
def F_X1_takes_98 (B : Nat) (a1 m1 : Nat) (k103 : Int32 → Int32 → Int32 → Int32 → z_S → Option (z_O × z_S)) (v3 : Int32) (v4 : Int32) (s0 : Int32) (S : z_S) : Option (z_O × z_S) :=
  k103 v3 v4 1 s0 S
set_option maxRecDepth 20000 in
set_option maxHeartbeats 16000000 in
theorem ok_X1_takes_98 {l : Launch} {B : Nat} {a1 : Nat} {m1 : Nat} {q : z_O × z_S} (hst : l.stackTraces = false) (ha1 : z_arr B a1 2 m1) {k103 : Int32 → Int32 → Int32 → Int32 → z_S → Option (z_O × z_S)} (hk103 : ∀ (v3 : Int32) (v4 : Int32) (s0 : Int32) (s1 : Int32) (S : z_S), k103 v3 v4 s0 s1 S = some q → z_W l I_X1_takes (R_X1_takes q) B q 103 [some (.ref 55), some (.ref a1), none, some (.int v3), some (.int v4)] [.int s0, .int s1, .ref 56] S) : ∀ (v3 : Int32) (v4 : Int32) (s0 : Int32) (S : z_S), F_X1_takes_98 B a1 m1 k103 v3 v4 s0 S = some q → z_W l I_X1_takes (R_X1_takes q) B q 98 [some (.ref 55), some (.ref a1), none, some (.int v3), some (.int v4)] [.int s0, .ref 56] S := by
  intro v3 v4 s0 S hF
  unfold F_X1_takes_98 at hF
  refine z_iconst (v := 1) (pc' := 99) dX1_takes_98 (by decide) rfl ?_
  refine z_goto (pc' := 103) dX1_takes_99 (by decide) ?_
  refine z_wk (ls' := [some (.ref 55), some (.ref a1), none, some (.int v3), some (.int v4)]) (z_lec rfl (z_lec rfl (z_len1 (z_lec rfl (z_lec rfl z_le0))))) ?_
  exact hk103 _ _ _ _ _ hF
def F_X1_takes_58 (B : Nat) (a1 m1 : Nat)  : Nat → Int32 → Int32 → z_S → Option (z_O × z_S)
  | 0, _, _, _ => none
  | n + 1, v3, v4, S => if (Int32.ofNat B) ≤ v4 then
    F_X1_takes_110 B a1 m1 v3 S
  else
    if (Int32.ofNat m1) ≤ v4 then
      F_X1_takes_110 B a1 m1 v3 S
    else
      z_gd (z_inb v4 B) (
      z_lt (S.1 56 (z_ix (v4))) fun x2 =>
      (if x2 = 0 then
        z_gd (z_inb v4 m1) (
        z_lt (S.1 a1 (z_ix (v4))) fun x4 =>
        (if x4 = 0 then
          F_X1_takes_103 B a1 m1 (F_X1_takes_58 B a1 m1 n) v3 v4 0 v4 S
        else
          F_X1_takes_98 B a1 m1 (F_X1_takes_103 B a1 m1 (F_X1_takes_58 B a1 m1 n) ) v3 v4 v4 S))
      else
        F_X1_takes_98 B a1 m1 (F_X1_takes_103 B a1 m1 (F_X1_takes_58 B a1 m1 n) ) v3 v4 v4 S))
set_option maxRecDepth 20000 in
set_option maxHeartbeats 16000000 in
theorem ok_X1_takes_58 {l : Launch} {B : Nat} {a1 : Nat} {m1 : Nat} {q : z_O × z_S} (hst : l.stackTraces = false) (ha1 : z_arr B a1 2 m1) : ∀ (n : Nat) (v3 : Int32) (v4 : Int32) (S : z_S), F_X1_takes_58 B a1 m1 n v3 v4 S = some q → z_W l I_X1_takes (R_X1_takes q) B q 58 [some (.ref 55), some (.ref a1), none, some (.int v3), some (.int v4)] [] S := by
  intro n
  induction n with
  | zero => intro v3 v4 S hF; cases hF
  | succ n ih =>
    intro v3 v4 S hF
    rw [F_X1_takes_58] at hF
    refine z_iload (pc' := 60) dX1_takes_58 rfl rfl ?_
    refine z_aload_n (pc' := 61) dX1_takes_60 rfl rfl rfl ?_
    refine gf_X1_15 (b := 56) (pc' := 64) rfl is_1_55 rfl dX1_takes_61 rfl ?_
    refine z_alen (v := Int32.ofNat B) (pc' := 65) (ar_1_f1 is_1_55) (by decide) rfl dX1_takes_64 rfl ?_
    refine z_icmp_ge (tgt := 110) (pc' := 68) dX1_takes_65 (by decide) rfl (fun c8 => ?_) (fun c8 => ?_)
    · rw [if_pos c8] at hF
      refine z_wk (ls' := [some (.ref 55), none, none, some (.int v3), none]) (z_lec rfl (z_len1 (z_len1 (z_lec rfl (z_len1 z_le0))))) ?_
      exact (ok_X1_takes_110 hst ha1) _ _ hF
    · rw [if_neg c8] at hF
      refine z_iload (pc' := 70) dX1_takes_68 rfl rfl ?_
      refine z_aload_n (pc' := 71) dX1_takes_70 rfl rfl rfl ?_
      refine z_alen (v := Int32.ofNat m1) (pc' := 72) ha1 (by decide) rfl dX1_takes_71 rfl ?_
      refine z_icmp_ge (tgt := 110) (pc' := 75) dX1_takes_72 (by decide) rfl (fun c7 => ?_) (fun c7 => ?_)
      · rw [if_pos c7] at hF
        refine z_wk (ls' := [some (.ref 55), none, none, some (.int v3), none]) (z_lec rfl (z_len1 (z_len1 (z_lec rfl (z_len1 z_le0))))) ?_
        exact (ok_X1_takes_110 hst ha1) _ _ hF
      · rw [if_neg c7] at hF
        refine z_aload_n (pc' := 76) dX1_takes_75 rfl rfl rfl ?_
        refine gf_X1_15 (b := 56) (pc' := 79) rfl is_1_55 rfl dX1_takes_76 rfl ?_
        refine z_iload (pc' := 81) dX1_takes_79 rfl rfl ?_
        refine z_aload_n (pc' := 82) dX1_takes_81 rfl rfl rfl ?_
        refine gf_X1_15 (b := 56) (pc' := 85) rfl is_1_55 rfl dX1_takes_82 rfl ?_
        refine z_iload (pc' := 87) dX1_takes_85 rfl rfl ?_
        obtain ⟨g1, hF⟩ := z_gde hF
        refine z_zaload (pc' := 88) (ar_1_f1 is_1_55) (z_inbe g1) dX1_takes_87 rfl ?_
        refine z_topi (fun x2 ex2 => ?_)
        replace hF := z_lte hF x2 ex2
        refine z_if_ne (tgt := 98) (pc' := 91) dX1_takes_88 (by decide) rfl (fun c6 => ?_) (fun c6 => ?_)
        · rw [if_neg c6] at hF
          refine z_wk (ls' := [some (.ref 55), some (.ref a1), none, some (.int v3), some (.int v4)]) (z_lec rfl (z_lec rfl (z_len1 (z_lec rfl (z_lec rfl z_le0))))) ?_
          exact (ok_X1_takes_98 hst ha1 (ok_X1_takes_103 hst ha1 ih)) _ _ _ _ hF
        · rw [if_pos c6] at hF
          refine z_aload_n (pc' := 92) dX1_takes_91 rfl rfl rfl ?_
          refine z_iload (pc' := 94) dX1_takes_92 rfl rfl ?_
          obtain ⟨g3, hF⟩ := z_gde hF
          refine z_zaload (pc' := 95) ha1 (z_inbe g3) dX1_takes_94 rfl ?_
          refine z_topi (fun x4 ex4 => ?_)
          replace hF := z_lte hF x4 ex4
          refine z_if_eq (tgt := 102) (pc' := 98) dX1_takes_95 (by decide) rfl (fun c5 => ?_) (fun c5 => ?_)
          · rw [if_pos c5] at hF
            refine z_iconst (v := 0) (pc' := 103) dX1_takes_102 (by decide) rfl ?_
            refine z_wk (ls' := [some (.ref 55), some (.ref a1), none, some (.int v3), some (.int v4)]) (z_lec rfl (z_lec rfl (z_len1 (z_lec rfl (z_lec rfl z_le0))))) ?_
            exact (ok_X1_takes_103 hst ha1 ih) _ _ _ _ _ hF
          · rw [if_neg c5] at hF
            refine z_wk (ls' := [some (.ref 55), some (.ref a1), none, some (.int v3), some (.int v4)]) (z_lec rfl (z_lec rfl (z_len1 (z_lec rfl (z_lec rfl z_le0))))) ?_
            exact (ok_X1_takes_98 hst ha1 (ok_X1_takes_103 hst ha1 ih)) _ _ _ _ hF
def F_X1_takes_40 (B : Nat) (a1 m1 : Nat) (k14 : Int32 → Int32 → z_S → Option (z_O × z_S)) (v3 : Int32) (v4 : Int32) (S : z_S) : Option (z_O × z_S) :=
  k14 v3 (v4 + 1) S
set_option maxRecDepth 20000 in
set_option maxHeartbeats 16000000 in
theorem ok_X1_takes_40 {l : Launch} {B : Nat} {a1 : Nat} {m1 : Nat} {q : z_O × z_S} (hst : l.stackTraces = false) (ha1 : z_arr B a1 2 m1) {k14 : Int32 → Int32 → z_S → Option (z_O × z_S)} (hk14 : ∀ (v3 : Int32) (v4 : Int32) (S : z_S), k14 v3 v4 S = some q → z_W l I_X1_takes (R_X1_takes q) B q 14 [some (.ref 55), some (.ref a1), some (.ref 57), some (.int v3), some (.int v4)] [] S) : ∀ (v3 : Int32) (v4 : Int32) (S : z_S), F_X1_takes_40 B a1 m1 k14 v3 v4 S = some q → z_W l I_X1_takes (R_X1_takes q) B q 40 [some (.ref 55), some (.ref a1), some (.ref 57), some (.int v3), some (.int v4)] [] S := by
  intro v3 v4 S hF
  unfold F_X1_takes_40 at hF
  refine z_iinc (v := v4 + 1) (pc' := 43) dX1_takes_40 rfl rfl (by decide) rfl rfl ?_
  refine z_goto (pc' := 14) dX1_takes_43 (by decide) ?_
  refine z_wk (ls' := [some (.ref 55), some (.ref a1), some (.ref 57), some (.int v3), some (.int (v4 + 1))]) (z_lec rfl (z_lec rfl (z_lec rfl (z_lec rfl (z_lec rfl z_le0))))) ?_
  exact hk14 _ _ _ hF
def F_X1_takes_14 (B : Nat) (a1 m1 : Nat)  : Nat → Int32 → Int32 → z_S → Option (z_O × z_S)
  | 0, _, _, _ => none
  | n + 1, v3, v4, S => if (Int32.ofNat m1) ≤ v4 then
    z_bn (F_X3_writesOne B S) fun r1 S2 =>
    (if r1 = 0 then
      z_gd (z_b01 0) (some (.inl (some 0), S2))
    else
      F_X1_takes_58 B a1 m1 z_n v3 0 S2)
  else
    z_gd (z_inb v4 m1) (
    z_lt (S.1 a1 (z_ix (v4))) fun x7 =>
    (if x7 = 0 then
      F_X1_takes_40 B a1 m1 (F_X1_takes_14 B a1 m1 n) v3 v4 S
    else
      z_bn (F_X3_writesOne B S) fun r8 S9 =>
      (if r8 = 0 then
        z_gd (z_b01 0) (some (.inl (some 0), S9))
      else
        F_X1_takes_40 B a1 m1 (F_X1_takes_14 B a1 m1 n) (v3 + 1) v4 S9)))
set_option maxRecDepth 20000 in
set_option maxHeartbeats 16000000 in
theorem ok_X1_takes_14 {l : Launch} {B : Nat} {a1 : Nat} {m1 : Nat} {q : z_O × z_S} (hst : l.stackTraces = false) (ha1 : z_arr B a1 2 m1) : ∀ (n : Nat) (v3 : Int32) (v4 : Int32) (S : z_S), F_X1_takes_14 B a1 m1 n v3 v4 S = some q → z_W l I_X1_takes (R_X1_takes q) B q 14 [some (.ref 55), some (.ref a1), some (.ref 57), some (.int v3), some (.int v4)] [] S := by
  intro n
  induction n with
  | zero => intro v3 v4 S hF; cases hF
  | succ n ih =>
    intro v3 v4 S hF
    rw [F_X1_takes_14] at hF
    refine z_iload (pc' := 16) dX1_takes_14 rfl rfl ?_
    refine z_aload_n (pc' := 17) dX1_takes_16 rfl rfl rfl ?_
    refine z_alen (v := Int32.ofNat m1) (pc' := 18) ha1 (by decide) rfl dX1_takes_17 rfl ?_
    refine z_icmp_ge (tgt := 46) (pc' := 21) dX1_takes_18 (by decide) rfl (fun c14 => ?_) (fun c14 => ?_)
    · rw [if_pos c14] at hF
      refine z_aload_n (pc' := 47) dX1_takes_46 rfl rfl rfl ?_
      obtain ⟨r1, S2, hc3, hF⟩ := z_bne hF
      refine k_X3_writesOne (F := 1) (L := 20) (pc' := 50) hc3 hst zw_21 rfl rfl (by decide) (by decide) (by decide) dX1_takes_47 rfl ?_
      refine z_if_ne (tgt := 55) (pc' := 53) dX1_takes_50 (by decide) rfl (fun c5 => ?_) (fun c5 => ?_)
      · rw [if_neg c5] at hF
        refine z_iconst (v := 0) (pc' := 56) dX1_takes_55 (by decide) rfl ?_
        refine z_istore (pc' := 58) dX1_takes_56 (by decide) rfl rfl ?_
        refine z_wk (ls' := [some (.ref 55), some (.ref a1), none, some (.int v3), some (.int 0)]) (z_lec rfl (z_lec rfl (z_len1 (z_lec rfl (z_lec rfl z_le0))))) ?_
        exact (ok_X1_takes_58 hst ha1 z_n) _ _ _ hF
      · rw [if_pos c5] at hF
        refine z_iconst (v := 0) (pc' := 54) dX1_takes_53 (by decide) rfl ?_
        obtain ⟨g4, hF⟩ := z_gde hF
        exact z_zreturn rfl (z_b01e g4) dX1_takes_54 (Option.some.inj hF).symm
    · rw [if_neg c14] at hF
      refine z_aload_n (pc' := 22) dX1_takes_21 rfl rfl rfl ?_
      refine z_iload (pc' := 24) dX1_takes_22 rfl rfl ?_
      obtain ⟨g6, hF⟩ := z_gde hF
      refine z_zaload (pc' := 25) ha1 (z_inbe g6) dX1_takes_24 rfl ?_
      refine z_topi (fun x7 ex7 => ?_)
      replace hF := z_lte hF x7 ex7
      refine z_if_eq (tgt := 40) (pc' := 28) dX1_takes_25 (by decide) rfl (fun c13 => ?_) (fun c13 => ?_)
      · rw [if_pos c13] at hF
        refine z_wk (ls' := [some (.ref 55), some (.ref a1), some (.ref 57), some (.int v3), some (.int v4)]) (z_lec rfl (z_lec rfl (z_lec rfl (z_lec rfl (z_lec rfl z_le0))))) ?_
        exact (ok_X1_takes_40 hst ha1 ih) _ _ _ hF
      · rw [if_neg c13] at hF
        refine z_iinc (v := v3 + 1) (pc' := 31) dX1_takes_28 rfl rfl (by decide) rfl rfl ?_
        refine z_aload_n (pc' := 32) dX1_takes_31 rfl rfl rfl ?_
        obtain ⟨r8, S9, hc10, hF⟩ := z_bne hF
        refine k_X3_writesOne (F := 1) (L := 20) (pc' := 35) hc10 hst zw_21 rfl rfl (by decide) (by decide) (by decide) dX1_takes_32 rfl ?_
        refine z_if_ne (tgt := 40) (pc' := 38) dX1_takes_35 (by decide) rfl (fun c12 => ?_) (fun c12 => ?_)
        · rw [if_neg c12] at hF
          refine z_wk (ls' := [some (.ref 55), some (.ref a1), some (.ref 57), some (.int (v3 + 1)), some (.int v4)]) (z_lec rfl (z_lec rfl (z_lec rfl (z_lec rfl (z_lec rfl z_le0))))) ?_
          exact (ok_X1_takes_40 hst ha1 ih) _ _ _ hF
        · rw [if_pos c12] at hF
          refine z_iconst (v := 0) (pc' := 39) dX1_takes_38 (by decide) rfl ?_
          obtain ⟨g11, hF⟩ := z_gde hF
          exact z_zreturn rfl (z_b01e g11) dX1_takes_39 (Option.some.inj hF).symm
def F_X1_takes (B : Nat) (a1 m1 : Nat)  (S : z_S) : Option (z_O × z_S) :=
  z_bn (F_X3_writesOne B S) fun r1 S2 =>
  (if r1 = 0 then
    z_gd (z_b01 0) (some (.inl (some 0), S2))
  else
    F_X1_takes_14 B a1 m1 z_n 2 0 S2)
set_option maxRecDepth 20000 in
set_option maxHeartbeats 16000000 in
theorem c_X1_takes {l : Launch} {B : Nat} {a1 : Nat} {m1 : Nat}  {S : z_S} {q : z_O × z_S} (hst : l.stackTraces = false) (ha1 : z_arr B a1 2 m1) (hF : F_X1_takes B a1 m1 S = some q) : z_Met l I_X1_takes 1 20 B [.ref 55, .ref a1, .ref 57] S q.1 q.2 := by
  refine z_enter (ls := [some (.ref 55), some (.ref a1), some (.ref 57), none, none]) (n := 2) (by decide) rfl (Nat.le_of_ble_eq_true rfl) hst ?_
  unfold F_X1_takes at hF
  refine z_iconst (v := 2) (pc' := 1) dX1_takes_0 (by decide) rfl ?_
  refine z_istore_n (pc' := 2) dX1_takes_1 rfl (by decide) rfl rfl ?_
  refine z_aload_n (pc' := 3) dX1_takes_2 rfl rfl rfl ?_
  obtain ⟨r1, S2, hc3, hF⟩ := z_bne hF
  refine k_X3_writesOne (F := 1) (L := 20) (pc' := 6) hc3 hst zw_21 rfl rfl (by decide) (by decide) (by decide) dX1_takes_3 rfl ?_
  refine z_if_ne (tgt := 11) (pc' := 9) dX1_takes_6 (by decide) rfl (fun c5 => ?_) (fun c5 => ?_)
  · rw [if_neg c5] at hF
    refine z_iconst (v := 0) (pc' := 12) dX1_takes_11 (by decide) rfl ?_
    refine z_istore (pc' := 14) dX1_takes_12 (by decide) rfl rfl ?_
    refine z_wk (ls' := [some (.ref 55), some (.ref a1), some (.ref 57), some (.int 2), some (.int 0)]) (z_lec rfl (z_lec rfl (z_lec rfl (z_lec rfl (z_lec rfl z_le0))))) ?_
    exact (ok_X1_takes_14 hst ha1 z_n) _ _ _ hF
  · rw [if_pos c5] at hF
    refine z_iconst (v := 0) (pc' := 10) dX1_takes_9 (by decide) rfl ?_
    obtain ⟨g4, hF⟩ := z_gde hF
    exact z_zreturn rfl (z_b01e g4) dX1_takes_10 (Option.some.inj hF).symm
theorem ok_X1_takes : z_okV I_X1_takes 2 := ⟨⟨z_Gin (List.mem_of_getElem? (i := 836) (by decide +kernel)) rfl, z_Gin (List.mem_of_getElem? (i := 837) (by decide +kernel)) rfl, z_Gin (List.mem_of_getElem? (i := 96) (by decide +kernel)) rfl, z_Gin (List.mem_of_getElem? (i := 838) (by decide +kernel)) rfl⟩, by decide, by decide, by decide +kernel⟩
theorem k_X1_takes {l : Launch} {I : z_I} {R : Room} {B : Nat} {a1 : Nat} {m1 : Nat}  {q : z_O × z_S} {pc pc' : Nat} {ls : List (Option Value)} {st : List Value} {S S1 : z_S} {idx F L : Nat} {r : Int32} (ha1 : z_arr B a1 2 m1) (hF : F_X1_takes B a1 m1 S = some (.inl (some r), S1)) (hst : l.stackTraces = false) (w : Cond.methodLink I.1.cls idx yX1_takes ∈ z_G) (hRF : R.frames = F) (hRL : R.locals = L) (h1 : 2 ≤ F) (h2 : 44 ≤ L) (hs : (st.map fun v => v.category).sum ≤ 8) (d : decode I.2.1 pc = .ok (.invokevirtual idx, 3)) (hp : pc + 3 = pc') (k : z_W l I R B q pc' ls (.int r :: st) S1) : z_W l I R B q pc ls (.ref 57 :: .ref a1 :: .ref 55 :: st) S := z_callV (Y := I_X1_takes) (As := [.ref a1, .ref 57]) (st := st) (r := (some r)) (S1 := S1) (c_X1_takes (q := (.inl (some r), S1)) hst ha1 hF) ok_X1_takes w (ci := 1) rfl is_1_55.1 is_1_55.2 rfl ⟨by rw [hRF]; exact h1, by rw [hRL]; exact h2⟩ hs d hp rfl k

abbrev I_X2_begin : z_I := (yX2_begin, cX2_begin, 4, none)
abbrev R_X2_begin (q : z_O × z_S) : Room := { frames := 0, locals := 0, cells := z_mc q.1, slots := 6 * z_mc q.1 }
def F_X2_begin (B : Nat) (t : Nat) (p1 : Int32) (p2 : Int32) (p3 : Int32) (S : z_S) : Option (z_O × z_S) :=
  z_gd (z_inb p1 61) (
  z_lt (z_ua S (t + 1) (upd (S.1 (t + 1)) (z_ix (p1)) p2)) fun S2 =>
  (z_gd (z_inb p1 61) (
  z_lt (z_ua S2 (t + 2) (upd (S2.1 (t + 2)) (z_ix (p1)) 1)) fun S4 =>
  (z_gd (z_inb p1 61) (
  z_lt (z_ua S4 (t + 3) (upd (S4.1 (t + 3)) (z_ix (p1)) 0)) fun S6 =>
  (z_gd (z_inb p1 61) (
  z_lt (z_ua S6 (t + 4) (upd (S6.1 (t + 4)) (z_ix (p1)) p3)) fun S8 =>
  (some (.inl none, S8)))))))))
set_option maxRecDepth 20000 in
set_option maxHeartbeats 16000000 in
theorem c_X2_begin {l : Launch} {B : Nat} {t : Nat} {p1 : Int32} {p2 : Int32} {p3 : Int32} {S : z_S} {q : z_O × z_S} (hst : l.stackTraces = false) (ht : z_is 2 t) (hF : F_X2_begin B t p1 p2 p3 S = some q) : z_Met l I_X2_begin 0 0 B [.ref t, .int p1, .int p2, .int p3] S q.1 q.2 := by
  refine z_enter (ls := [some (.ref t), some (.int p1), some (.int p2), some (.int p3)]) (n := 0) (by decide) rfl (Nat.le_of_ble_eq_true rfl) hst ?_
  unfold F_X2_begin at hF
  refine z_aload_n (pc' := 1) dX2_begin_0 rfl rfl rfl ?_
  refine gf_X2_9 (b := t + 1) (pc' := 4) rfl ht rfl dX2_begin_1 rfl ?_
  refine z_iload_n (pc' := 5) dX2_begin_4 rfl rfl rfl ?_
  refine z_iload_n (pc' := 6) dX2_begin_5 rfl rfl rfl ?_
  obtain ⟨g1, hF⟩ := z_gde hF
  refine z_iastore (pc' := 7) (ar_2_f0 ht) (z_inbe g1) dX2_begin_6 rfl (fun S2 eS2 => ?_)
  replace hF := z_lte hF S2 eS2
  refine z_aload_n (pc' := 8) dX2_begin_7 rfl rfl rfl ?_
  refine gf_X2_15 (b := t + 2) (pc' := 11) rfl ht rfl dX2_begin_8 rfl ?_
  refine z_iload_n (pc' := 12) dX2_begin_11 rfl rfl rfl ?_
  refine z_iconst (v := 1) (pc' := 13) dX2_begin_12 (by decide) rfl ?_
  obtain ⟨g3, hF⟩ := z_gde hF
  refine z_iastore (pc' := 14) (ar_2_f1 ht) (z_inbe g3) dX2_begin_13 rfl (fun S4 eS4 => ?_)
  replace hF := z_lte hF S4 eS4
  refine z_aload_n (pc' := 15) dX2_begin_14 rfl rfl rfl ?_
  refine gf_X2_18 (b := t + 3) (pc' := 18) rfl ht rfl dX2_begin_15 rfl ?_
  refine z_iload_n (pc' := 19) dX2_begin_18 rfl rfl rfl ?_
  refine z_iconst (v := 0) (pc' := 20) dX2_begin_19 (by decide) rfl ?_
  obtain ⟨g5, hF⟩ := z_gde hF
  refine z_iastore (pc' := 21) (ar_2_f2 ht) (z_inbe g5) dX2_begin_20 rfl (fun S6 eS6 => ?_)
  replace hF := z_lte hF S6 eS6
  refine z_aload_n (pc' := 22) dX2_begin_21 rfl rfl rfl ?_
  refine gf_X2_21 (b := t + 4) (pc' := 25) rfl ht rfl dX2_begin_22 rfl ?_
  refine z_iload_n (pc' := 26) dX2_begin_25 rfl rfl rfl ?_
  refine z_iload_n (pc' := 27) dX2_begin_26 rfl rfl rfl ?_
  obtain ⟨g7, hF⟩ := z_gde hF
  refine z_iastore (pc' := 28) (ar_2_f3 ht) (z_inbe g7) dX2_begin_27 rfl (fun S8 eS8 => ?_)
  replace hF := z_lte hF S8 eS8
  exact z_return rfl dX2_begin_28 (Option.some.inj hF).symm
theorem ok_X2_begin : z_okV I_X2_begin 3 := ⟨⟨z_Gin (List.mem_of_getElem? (i := 561) (by decide +kernel)) rfl, z_Gin (List.mem_of_getElem? (i := 562) (by decide +kernel)) rfl, z_Gin (List.mem_of_getElem? (i := 94) (by decide +kernel)) rfl, z_Gin (List.mem_of_getElem? (i := 563) (by decide +kernel)) rfl⟩, by decide, by decide, by decide +kernel⟩
theorem k_X2_begin {l : Launch} {I : z_I} {R : Room} {B : Nat} {t : Nat} {p1 : Int32} {p2 : Int32} {p3 : Int32} {q : z_O × z_S} {pc pc' : Nat} {ls : List (Option Value)} {st : List Value} {S S1 : z_S} {idx F L : Nat} (ht : z_is 2 t) (hF : F_X2_begin B t p1 p2 p3 S = some (.inl none, S1)) (hst : l.stackTraces = false) (w : Cond.methodLink I.1.cls idx yX2_begin ∈ z_G) (hRF : R.frames = F) (hRL : R.locals = L) (h1 : 1 ≤ F) (h2 : 23 ≤ L) (hs : (st.map fun v => v.category).sum ≤ 8) (d : decode I.2.1 pc = .ok (.invokevirtual idx, 3)) (hp : pc + 3 = pc') (k : z_W l I R B q pc' ls st S1) : z_W l I R B q pc ls (.int p3 :: .int p2 :: .int p1 :: .ref t :: st) S := z_callV (Y := I_X2_begin) (As := [.int p1, .int p2, .int p3]) (st := st) (r := none) (S1 := S1) (c_X2_begin (q := (.inl none, S1)) hst ht hF) ok_X2_begin w (ci := 2) rfl ht.1 ht.2 rfl ⟨by rw [hRF]; exact h1, by rw [hRL]; exact h2⟩ hs d hp rfl k

abbrev I_X2_isThere : z_I := (yX2_isThere, cX2_isThere, 2, some .boolean)
abbrev R_X2_isThere (q : z_O × z_S) : Room := { frames := 0, locals := 0, cells := z_mc q.1, slots := 6 * z_mc q.1 }
def F_X2_isThere_26 (B : Nat) (t : Nat)  (s0 : Int32) (S : z_S) : Option (z_O × z_S) :=
  z_gd (z_b01 s0) (some (.inl (some s0), S))
set_option maxRecDepth 20000 in
set_option maxHeartbeats 16000000 in
theorem ok_X2_isThere_26 {l : Launch} {B : Nat} {t : Nat} {q : z_O × z_S} (hst : l.stackTraces = false) (ht : z_is 2 t) : ∀ (s0 : Int32) (S : z_S), F_X2_isThere_26 B t s0 S = some q → z_W l I_X2_isThere (R_X2_isThere q) B q 26 [none, none] [.int s0] S := by
  intro s0 S hF
  unfold F_X2_isThere_26 at hF
  obtain ⟨g1, hF⟩ := z_gde hF
  exact z_zreturn rfl (z_b01e g1) dX2_isThere_26 (Option.some.inj hF).symm
def F_X2_isThere_25 (B : Nat) (t : Nat) (k26 : Int32 → z_S → Option (z_O × z_S))  (S : z_S) : Option (z_O × z_S) :=
  k26 0 S
set_option maxRecDepth 20000 in
set_option maxHeartbeats 16000000 in
theorem ok_X2_isThere_25 {l : Launch} {B : Nat} {t : Nat} {q : z_O × z_S} (hst : l.stackTraces = false) (ht : z_is 2 t) {k26 : Int32 → z_S → Option (z_O × z_S)} (hk26 : ∀ (s0 : Int32) (S : z_S), k26 s0 S = some q → z_W l I_X2_isThere (R_X2_isThere q) B q 26 [none, none] [.int s0] S) : ∀ (S : z_S), F_X2_isThere_25 B t k26 S = some q → z_W l I_X2_isThere (R_X2_isThere q) B q 25 [none, none] [] S := by
  intro S hF
  unfold F_X2_isThere_25 at hF
  refine z_iconst (v := 0) (pc' := 26) dX2_isThere_25 (by decide) rfl ?_
  refine z_wk (ls' := [none, none]) (z_len1 (z_len1 z_le0)) ?_
  exact hk26 _ _ hF
def F_X2_isThere (B : Nat) (t : Nat) (p1 : Int32) (S : z_S) : Option (z_O × z_S) :=
  if p1 < 1 then
    F_X2_isThere_25 B t (F_X2_isThere_26 B t ) S
  else
    if 60 < p1 then
      F_X2_isThere_25 B t (F_X2_isThere_26 B t ) S
    else
      z_gd (z_inb p1 61) (
      z_lt (S.1 (t + 1) (z_ix (p1))) fun x2 =>
      (if x2 = (-1) then
        F_X2_isThere_25 B t (F_X2_isThere_26 B t ) S
      else
        F_X2_isThere_26 B t 1 S))
set_option maxRecDepth 20000 in
set_option maxHeartbeats 16000000 in
theorem c_X2_isThere {l : Launch} {B : Nat} {t : Nat} {p1 : Int32} {S : z_S} {q : z_O × z_S} (hst : l.stackTraces = false) (ht : z_is 2 t) (hF : F_X2_isThere B t p1 S = some q) : z_Met l I_X2_isThere 0 0 B [.ref t, .int p1] S q.1 q.2 := by
  refine z_enter (ls := [some (.ref t), some (.int p1)]) (n := 0) (by decide) rfl (Nat.le_of_ble_eq_true rfl) hst ?_
  unfold F_X2_isThere at hF
  refine z_iload_n (pc' := 1) dX2_isThere_0 rfl rfl rfl ?_
  refine z_iconst (v := 1) (pc' := 2) dX2_isThere_1 (by decide) rfl ?_
  refine z_icmp_lt (tgt := 25) (pc' := 5) dX2_isThere_2 (by decide) rfl (fun c5 => ?_) (fun c5 => ?_)
  · rw [if_pos c5] at hF
    refine z_wk (ls' := [none, none]) (z_len1 (z_len1 z_le0)) ?_
    exact (ok_X2_isThere_25 hst ht (ok_X2_isThere_26 hst ht)) _ hF
  · rw [if_neg c5] at hF
    refine z_iload_n (pc' := 6) dX2_isThere_5 rfl rfl rfl ?_
    refine z_bipush (v := 60) (pc' := 8) dX2_isThere_6 (by decide) rfl ?_
    refine z_icmp_gt (tgt := 25) (pc' := 11) dX2_isThere_8 (by decide) rfl (fun c4 => ?_) (fun c4 => ?_)
    · rw [if_pos c4] at hF
      refine z_wk (ls' := [none, none]) (z_len1 (z_len1 z_le0)) ?_
      exact (ok_X2_isThere_25 hst ht (ok_X2_isThere_26 hst ht)) _ hF
    · rw [if_neg c4] at hF
      refine z_aload_n (pc' := 12) dX2_isThere_11 rfl rfl rfl ?_
      refine gf_X2_9 (b := t + 1) (pc' := 15) rfl ht rfl dX2_isThere_12 rfl ?_
      refine z_iload_n (pc' := 16) dX2_isThere_15 rfl rfl rfl ?_
      obtain ⟨g1, hF⟩ := z_gde hF
      refine z_iaload (pc' := 17) (ar_2_f0 ht) (z_inbe g1) dX2_isThere_16 rfl ?_
      refine z_topi (fun x2 ex2 => ?_)
      replace hF := z_lte hF x2 ex2
      refine z_iconst (v := (-1)) (pc' := 18) dX2_isThere_17 (by decide) rfl ?_
      refine z_icmp_eq (tgt := 25) (pc' := 21) dX2_isThere_18 (by decide) rfl (fun c3 => ?_) (fun c3 => ?_)
      · rw [if_pos c3] at hF
        refine z_wk (ls' := [none, none]) (z_len1 (z_len1 z_le0)) ?_
        exact (ok_X2_isThere_25 hst ht (ok_X2_isThere_26 hst ht)) _ hF
      · rw [if_neg c3] at hF
        refine z_iconst (v := 1) (pc' := 22) dX2_isThere_21 (by decide) rfl ?_
        refine z_goto (pc' := 26) dX2_isThere_22 (by decide) ?_
        refine z_wk (ls' := [none, none]) (z_len1 (z_len1 z_le0)) ?_
        exact (ok_X2_isThere_26 hst ht) _ _ hF
theorem ok_X2_isThere : z_okV I_X2_isThere 1 := ⟨⟨z_Gin (List.mem_of_getElem? (i := 414) (by decide +kernel)) rfl, z_Gin (List.mem_of_getElem? (i := 415) (by decide +kernel)) rfl, z_Gin (List.mem_of_getElem? (i := 94) (by decide +kernel)) rfl, z_Gin (List.mem_of_getElem? (i := 416) (by decide +kernel)) rfl⟩, by decide, by decide, by decide +kernel⟩
theorem k_X2_isThere {l : Launch} {I : z_I} {R : Room} {B : Nat} {t : Nat} {p1 : Int32} {q : z_O × z_S} {pc pc' : Nat} {ls : List (Option Value)} {st : List Value} {S S1 : z_S} {idx F L : Nat} {r : Int32} (ht : z_is 2 t) (hF : F_X2_isThere B t p1 S = some (.inl (some r), S1)) (hst : l.stackTraces = false) (w : Cond.methodLink I.1.cls idx yX2_isThere ∈ z_G) (hRF : R.frames = F) (hRL : R.locals = L) (h1 : 1 ≤ F) (h2 : 21 ≤ L) (hs : (st.map fun v => v.category).sum ≤ 8) (d : decode I.2.1 pc = .ok (.invokevirtual idx, 3)) (hp : pc + 3 = pc') (k : z_W l I R B q pc' ls (.int r :: st) S1) : z_W l I R B q pc ls (.int p1 :: .ref t :: st) S := z_callV (Y := I_X2_isThere) (As := [.int p1]) (st := st) (r := (some r)) (S1 := S1) (c_X2_isThere (q := (.inl (some r), S1)) hst ht hF) ok_X2_isThere w (ci := 2) rfl ht.1 ht.2 rfl ⟨by rw [hRF]; exact h1, by rw [hRL]; exact h2⟩ hs d hp rfl k

abbrev I_X2_leastFree : z_I := (yX2_leastFree, cX2_leastFree, 2, some .int)
abbrev R_X2_leastFree (q : z_O × z_S) : Room := { frames := 0, locals := 0, cells := z_mc q.1, slots := 6 * z_mc q.1 }
def F_X2_leastFree_2 (B : Nat) (t : Nat)  : Nat → Int32 → z_S → Option (z_O × z_S)
  | 0, _, _ => none
  | n + 1, v1, S => if 60 < v1 then
    some (.inl (some (-1)), S)
  else
    z_gd (z_inb v1 61) (
    z_lt (S.1 (t + 1) (z_ix (v1))) fun x2 =>
    (if x2 = (-1) then
      some (.inl (some v1), S)
    else
      F_X2_leastFree_2 B t n (v1 + 1) S))
set_option maxRecDepth 20000 in
set_option maxHeartbeats 16000000 in
theorem ok_X2_leastFree_2 {l : Launch} {B : Nat} {t : Nat} {q : z_O × z_S} (hst : l.stackTraces = false) (ht : z_is 2 t) : ∀ (n : Nat) (v1 : Int32) (S : z_S), F_X2_leastFree_2 B t n v1 S = some q → z_W l I_X2_leastFree (R_X2_leastFree q) B q 2 [some (.ref t), some (.int v1)] [] S := by
  intro n
  induction n with
  | zero => intro v1 S hF; cases hF
  | succ n ih =>
    intro v1 S hF
    rw [F_X2_leastFree_2] at hF
    refine z_iload_n (pc' := 3) dX2_leastFree_2 rfl rfl rfl ?_
    refine z_bipush (v := 60) (pc' := 5) dX2_leastFree_3 (by decide) rfl ?_
    refine z_icmp_gt (tgt := 26) (pc' := 8) dX2_leastFree_5 (by decide) rfl (fun c4 => ?_) (fun c4 => ?_)
    · rw [if_pos c4] at hF
      refine z_iconst (v := (-1)) (pc' := 27) dX2_leastFree_26 (by decide) rfl ?_
      exact z_ireturn rfl dX2_leastFree_27 (Option.some.inj hF).symm
    · rw [if_neg c4] at hF
      refine z_aload_n (pc' := 9) dX2_leastFree_8 rfl rfl rfl ?_
      refine gf_X2_9 (b := t + 1) (pc' := 12) rfl ht rfl dX2_leastFree_9 rfl ?_
      refine z_iload_n (pc' := 13) dX2_leastFree_12 rfl rfl rfl ?_
      obtain ⟨g1, hF⟩ := z_gde hF
      refine z_iaload (pc' := 14) (ar_2_f0 ht) (z_inbe g1) dX2_leastFree_13 rfl ?_
      refine z_topi (fun x2 ex2 => ?_)
      replace hF := z_lte hF x2 ex2
      refine z_iconst (v := (-1)) (pc' := 15) dX2_leastFree_14 (by decide) rfl ?_
      refine z_icmp_ne (tgt := 20) (pc' := 18) dX2_leastFree_15 (by decide) rfl (fun c3 => ?_) (fun c3 => ?_)
      · rw [if_neg c3] at hF
        refine z_iinc (v := v1 + 1) (pc' := 23) dX2_leastFree_20 rfl rfl (by decide) rfl rfl ?_
        refine z_goto (pc' := 2) dX2_leastFree_23 (by decide) ?_
        refine z_wk (ls' := [some (.ref t), some (.int (v1 + 1))]) (z_lec rfl (z_lec rfl z_le0)) ?_
        exact ih _ _ hF
      · rw [if_pos c3] at hF
        refine z_iload_n (pc' := 19) dX2_leastFree_18 rfl rfl rfl ?_
        exact z_ireturn rfl dX2_leastFree_19 (Option.some.inj hF).symm
def F_X2_leastFree (B : Nat) (t : Nat)  (S : z_S) : Option (z_O × z_S) :=
  F_X2_leastFree_2 B t z_n 1 S
set_option maxRecDepth 20000 in
set_option maxHeartbeats 16000000 in
theorem c_X2_leastFree {l : Launch} {B : Nat} {t : Nat}  {S : z_S} {q : z_O × z_S} (hst : l.stackTraces = false) (ht : z_is 2 t) (hF : F_X2_leastFree B t S = some q) : z_Met l I_X2_leastFree 0 0 B [.ref t] S q.1 q.2 := by
  refine z_enter (ls := [some (.ref t), none]) (n := 1) (by decide) rfl (Nat.le_of_ble_eq_true rfl) hst ?_
  unfold F_X2_leastFree at hF
  refine z_iconst (v := 1) (pc' := 1) dX2_leastFree_0 (by decide) rfl ?_
  refine z_istore_n (pc' := 2) dX2_leastFree_1 rfl (by decide) rfl rfl ?_
  refine z_wk (ls' := [some (.ref t), some (.int 1)]) (z_lec rfl (z_lec rfl z_le0)) ?_
  exact (ok_X2_leastFree_2 hst ht z_n) _ _ hF
theorem ok_X2_leastFree : z_okV I_X2_leastFree 0 := ⟨⟨z_Gin (List.mem_of_getElem? (i := 495) (by decide +kernel)) rfl, z_Gin (List.mem_of_getElem? (i := 496) (by decide +kernel)) rfl, z_Gin (List.mem_of_getElem? (i := 94) (by decide +kernel)) rfl, z_Gin (List.mem_of_getElem? (i := 497) (by decide +kernel)) rfl⟩, by decide, by decide, by decide +kernel⟩
theorem k_X2_leastFree {l : Launch} {I : z_I} {R : Room} {B : Nat} {t : Nat}  {q : z_O × z_S} {pc pc' : Nat} {ls : List (Option Value)} {st : List Value} {S S1 : z_S} {idx F L : Nat} {r : Int32} (ht : z_is 2 t) (hF : F_X2_leastFree B t S = some (.inl (some r), S1)) (hst : l.stackTraces = false) (w : Cond.methodLink I.1.cls idx yX2_leastFree ∈ z_G) (hRF : R.frames = F) (hRL : R.locals = L) (h1 : 1 ≤ F) (h2 : 21 ≤ L) (hs : (st.map fun v => v.category).sum ≤ 8) (d : decode I.2.1 pc = .ok (.invokevirtual idx, 3)) (hp : pc + 3 = pc') (k : z_W l I R B q pc' ls (.int r :: st) S1) : z_W l I R B q pc ls (.ref t :: st) S := z_callV (Y := I_X2_leastFree) (As := []) (st := st) (r := (some r)) (S1 := S1) (c_X2_leastFree (q := (.inl (some r), S1)) hst ht hF) ok_X2_leastFree w (ci := 2) rfl ht.1 ht.2 rfl ⟨by rw [hRF]; exact h1, by rw [hRL]; exact h2⟩ hs d hp rfl k

abbrev I_X2_howMany : z_I := (yX2_howMany, cX2_howMany, 3, some .int)
abbrev R_X2_howMany (q : z_O × z_S) : Room := { frames := 0, locals := 0, cells := z_mc q.1, slots := 6 * z_mc q.1 }
def F_X2_howMany_23 (B : Nat) (t : Nat) (k4 : Int32 → Int32 → z_S → Option (z_O × z_S)) (v1 : Int32) (v2 : Int32) (S : z_S) : Option (z_O × z_S) :=
  k4 v1 (v2 + 1) S
set_option maxRecDepth 20000 in
set_option maxHeartbeats 16000000 in
theorem ok_X2_howMany_23 {l : Launch} {B : Nat} {t : Nat} {q : z_O × z_S} (hst : l.stackTraces = false) (ht : z_is 2 t) {k4 : Int32 → Int32 → z_S → Option (z_O × z_S)} (hk4 : ∀ (v1 : Int32) (v2 : Int32) (S : z_S), k4 v1 v2 S = some q → z_W l I_X2_howMany (R_X2_howMany q) B q 4 [some (.ref t), some (.int v1), some (.int v2)] [] S) : ∀ (v1 : Int32) (v2 : Int32) (S : z_S), F_X2_howMany_23 B t k4 v1 v2 S = some q → z_W l I_X2_howMany (R_X2_howMany q) B q 23 [some (.ref t), some (.int v1), some (.int v2)] [] S := by
  intro v1 v2 S hF
  unfold F_X2_howMany_23 at hF
  refine z_iinc (v := v2 + 1) (pc' := 26) dX2_howMany_23 rfl rfl (by decide) rfl rfl ?_
  refine z_goto (pc' := 4) dX2_howMany_26 (by decide) ?_
  refine z_wk (ls' := [some (.ref t), some (.int v1), some (.int (v2 + 1))]) (z_lec rfl (z_lec rfl (z_lec rfl z_le0))) ?_
  exact hk4 _ _ _ hF
def F_X2_howMany_4 (B : Nat) (t : Nat)  : Nat → Int32 → Int32 → z_S → Option (z_O × z_S)
  | 0, _, _, _ => none
  | n + 1, v1, v2, S => if 60 < v2 then
    some (.inl (some v1), S)
  else
    z_gd (z_inb v2 61) (
    z_lt (S.1 (t + 1) (z_ix (v2))) fun x2 =>
    (if x2 = (-1) then
      F_X2_howMany_23 B t (F_X2_howMany_4 B t n) v1 v2 S
    else
      F_X2_howMany_23 B t (F_X2_howMany_4 B t n) (v1 + 1) v2 S))
set_option maxRecDepth 20000 in
set_option maxHeartbeats 16000000 in
theorem ok_X2_howMany_4 {l : Launch} {B : Nat} {t : Nat} {q : z_O × z_S} (hst : l.stackTraces = false) (ht : z_is 2 t) : ∀ (n : Nat) (v1 : Int32) (v2 : Int32) (S : z_S), F_X2_howMany_4 B t n v1 v2 S = some q → z_W l I_X2_howMany (R_X2_howMany q) B q 4 [some (.ref t), some (.int v1), some (.int v2)] [] S := by
  intro n
  induction n with
  | zero => intro v1 v2 S hF; cases hF
  | succ n ih =>
    intro v1 v2 S hF
    rw [F_X2_howMany_4] at hF
    refine z_iload_n (pc' := 5) dX2_howMany_4 rfl rfl rfl ?_
    refine z_bipush (v := 60) (pc' := 7) dX2_howMany_5 (by decide) rfl ?_
    refine z_icmp_gt (tgt := 29) (pc' := 10) dX2_howMany_7 (by decide) rfl (fun c4 => ?_) (fun c4 => ?_)
    · rw [if_pos c4] at hF
      refine z_iload_n (pc' := 30) dX2_howMany_29 rfl rfl rfl ?_
      exact z_ireturn rfl dX2_howMany_30 (Option.some.inj hF).symm
    · rw [if_neg c4] at hF
      refine z_aload_n (pc' := 11) dX2_howMany_10 rfl rfl rfl ?_
      refine gf_X2_9 (b := t + 1) (pc' := 14) rfl ht rfl dX2_howMany_11 rfl ?_
      refine z_iload_n (pc' := 15) dX2_howMany_14 rfl rfl rfl ?_
      obtain ⟨g1, hF⟩ := z_gde hF
      refine z_iaload (pc' := 16) (ar_2_f0 ht) (z_inbe g1) dX2_howMany_15 rfl ?_
      refine z_topi (fun x2 ex2 => ?_)
      replace hF := z_lte hF x2 ex2
      refine z_iconst (v := (-1)) (pc' := 17) dX2_howMany_16 (by decide) rfl ?_
      refine z_icmp_eq (tgt := 23) (pc' := 20) dX2_howMany_17 (by decide) rfl (fun c3 => ?_) (fun c3 => ?_)
      · rw [if_pos c3] at hF
        refine z_wk (ls' := [some (.ref t), some (.int v1), some (.int v2)]) (z_lec rfl (z_lec rfl (z_lec rfl z_le0))) ?_
        exact (ok_X2_howMany_23 hst ht ih) _ _ _ hF
      · rw [if_neg c3] at hF
        refine z_iinc (v := v1 + 1) (pc' := 23) dX2_howMany_20 rfl rfl (by decide) rfl rfl ?_
        refine z_wk (ls' := [some (.ref t), some (.int (v1 + 1)), some (.int v2)]) (z_lec rfl (z_lec rfl (z_lec rfl z_le0))) ?_
        exact (ok_X2_howMany_23 hst ht ih) _ _ _ hF
def F_X2_howMany (B : Nat) (t : Nat)  (S : z_S) : Option (z_O × z_S) :=
  F_X2_howMany_4 B t z_n 0 1 S
set_option maxRecDepth 20000 in
set_option maxHeartbeats 16000000 in
theorem c_X2_howMany {l : Launch} {B : Nat} {t : Nat}  {S : z_S} {q : z_O × z_S} (hst : l.stackTraces = false) (ht : z_is 2 t) (hF : F_X2_howMany B t S = some q) : z_Met l I_X2_howMany 0 0 B [.ref t] S q.1 q.2 := by
  refine z_enter (ls := [some (.ref t), none, none]) (n := 2) (by decide) rfl (Nat.le_of_ble_eq_true rfl) hst ?_
  unfold F_X2_howMany at hF
  refine z_iconst (v := 0) (pc' := 1) dX2_howMany_0 (by decide) rfl ?_
  refine z_istore_n (pc' := 2) dX2_howMany_1 rfl (by decide) rfl rfl ?_
  refine z_iconst (v := 1) (pc' := 3) dX2_howMany_2 (by decide) rfl ?_
  refine z_istore_n (pc' := 4) dX2_howMany_3 rfl (by decide) rfl rfl ?_
  refine z_wk (ls' := [some (.ref t), some (.int 0), some (.int 1)]) (z_lec rfl (z_lec rfl (z_lec rfl z_le0))) ?_
  exact (ok_X2_howMany_4 hst ht z_n) _ _ _ hF
theorem ok_X2_howMany : z_okV I_X2_howMany 0 := ⟨⟨z_Gin (List.mem_of_getElem? (i := 899) (by decide +kernel)) rfl, z_Gin (List.mem_of_getElem? (i := 900) (by decide +kernel)) rfl, z_Gin (List.mem_of_getElem? (i := 94) (by decide +kernel)) rfl, z_Gin (List.mem_of_getElem? (i := 901) (by decide +kernel)) rfl⟩, by decide, by decide, by decide +kernel⟩
theorem k_X2_howMany {l : Launch} {I : z_I} {R : Room} {B : Nat} {t : Nat}  {q : z_O × z_S} {pc pc' : Nat} {ls : List (Option Value)} {st : List Value} {S S1 : z_S} {idx F L : Nat} {r : Int32} (ht : z_is 2 t) (hF : F_X2_howMany B t S = some (.inl (some r), S1)) (hst : l.stackTraces = false) (w : Cond.methodLink I.1.cls idx yX2_howMany ∈ z_G) (hRF : R.frames = F) (hRL : R.locals = L) (h1 : 1 ≤ F) (h2 : 22 ≤ L) (hs : (st.map fun v => v.category).sum ≤ 8) (d : decode I.2.1 pc = .ok (.invokevirtual idx, 3)) (hp : pc + 3 = pc') (k : z_W l I R B q pc' ls (.int r :: st) S1) : z_W l I R B q pc ls (.ref t :: st) S := z_callV (Y := I_X2_howMany) (As := []) (st := st) (r := (some r)) (S1 := S1) (c_X2_howMany (q := (.inl (some r), S1)) hst ht hF) ok_X2_howMany w (ci := 2) rfl ht.1 ht.2 rfl ⟨by rw [hRF]; exact h1, by rw [hRL]; exact h2⟩ hs d hp rfl k

abbrev I_X2_holds : z_I := (yX2_holds, cX2_holds, 5, some .boolean)
abbrev R_X2_holds (q : z_O × z_S) : Room := { frames := 0, locals := 0, cells := z_mc q.1, slots := 6 * z_mc q.1 }
def F_X2_holds_37 (B : Nat) (t : Nat)   (S : z_S) : Option (z_O × z_S) :=
  z_gd (z_b01 0) (some (.inl (some 0), S))
set_option maxRecDepth 20000 in
set_option maxHeartbeats 16000000 in
theorem ok_X2_holds_37 {l : Launch} {B : Nat} {t : Nat} {q : z_O × z_S} (hst : l.stackTraces = false) (ht : z_is 2 t) : ∀ (S : z_S), F_X2_holds_37 B t S = some q → z_W l I_X2_holds (R_X2_holds q) B q 37 [none, none, none, none, none] [] S := by
  intro S hF
  unfold F_X2_holds_37 at hF
  refine z_iconst (v := 0) (pc' := 38) dX2_holds_37 (by decide) rfl ?_
  obtain ⟨g1, hF⟩ := z_gde hF
  exact z_zreturn rfl (z_b01e g1) dX2_holds_38 (Option.some.inj hF).symm
def F_X2_holds_5 (B : Nat) (t : Nat)  : Nat → Int32 → Int32 → Int32 → z_S → Option (z_O × z_S)
  | 0, _, _, _, _ => none
  | n + 1, v1, v3, v4, S => if 60 ≤ v4 then
    F_X2_holds_37 B t S
  else
    if v3 = (-1) then
      F_X2_holds_37 B t S
    else
      if v3 = v1 then
        z_gd (z_b01 1) (some (.inl (some 1), S))
      else
        z_gd (z_inb v3 61) (
        z_lt (S.1 (t + 4) (z_ix (v3))) fun x2 =>
        (F_X2_holds_5 B t n v1 x2 (v4 + 1) S))
set_option maxRecDepth 20000 in
set_option maxHeartbeats 16000000 in
theorem ok_X2_holds_5 {l : Launch} {B : Nat} {t : Nat} {q : z_O × z_S} (hst : l.stackTraces = false) (ht : z_is 2 t) : ∀ (n : Nat) (v1 : Int32) (v3 : Int32) (v4 : Int32) (S : z_S), F_X2_holds_5 B t n v1 v3 v4 S = some q → z_W l I_X2_holds (R_X2_holds q) B q 5 [some (.ref t), some (.int v1), none, some (.int v3), some (.int v4)] [] S := by
  intro n
  induction n with
  | zero => intro v1 v3 v4 S hF; cases hF
  | succ n ih =>
    intro v1 v3 v4 S hF
    rw [F_X2_holds_5] at hF
    refine z_iload (pc' := 7) dX2_holds_5 rfl rfl ?_
    refine z_bipush (v := 60) (pc' := 9) dX2_holds_7 (by decide) rfl ?_
    refine z_icmp_ge (tgt := 37) (pc' := 12) dX2_holds_9 (by decide) rfl (fun c6 => ?_) (fun c6 => ?_)
    · rw [if_pos c6] at hF
      refine z_wk (ls' := [none, none, none, none, none]) (z_len1 (z_len1 (z_len1 (z_len1 (z_len1 z_le0))))) ?_
      exact (ok_X2_holds_37 hst ht) _ hF
    · rw [if_neg c6] at hF
      refine z_iload_n (pc' := 13) dX2_holds_12 rfl rfl rfl ?_
      refine z_iconst (v := (-1)) (pc' := 14) dX2_holds_13 (by decide) rfl ?_
      refine z_icmp_eq (tgt := 37) (pc' := 17) dX2_holds_14 (by decide) rfl (fun c5 => ?_) (fun c5 => ?_)
      · rw [if_pos c5] at hF
        refine z_wk (ls' := [none, none, none, none, none]) (z_len1 (z_len1 (z_len1 (z_len1 (z_len1 z_le0))))) ?_
        exact (ok_X2_holds_37 hst ht) _ hF
      · rw [if_neg c5] at hF
        refine z_iload_n (pc' := 18) dX2_holds_17 rfl rfl rfl ?_
        refine z_iload_n (pc' := 19) dX2_holds_18 rfl rfl rfl ?_
        refine z_icmp_ne (tgt := 24) (pc' := 22) dX2_holds_19 (by decide) rfl (fun c4 => ?_) (fun c4 => ?_)
        · rw [if_neg c4] at hF
          refine z_aload_n (pc' := 25) dX2_holds_24 rfl rfl rfl ?_
          refine gf_X2_21 (b := t + 4) (pc' := 28) rfl ht rfl dX2_holds_25 rfl ?_
          refine z_iload_n (pc' := 29) dX2_holds_28 rfl rfl rfl ?_
          obtain ⟨g1, hF⟩ := z_gde hF
          refine z_iaload (pc' := 30) (ar_2_f3 ht) (z_inbe g1) dX2_holds_29 rfl ?_
          refine z_topi (fun x2 ex2 => ?_)
          replace hF := z_lte hF x2 ex2
          refine z_istore_n (pc' := 31) dX2_holds_30 rfl (by decide) rfl rfl ?_
          refine z_iinc (v := v4 + 1) (pc' := 34) dX2_holds_31 rfl rfl (by decide) rfl rfl ?_
          refine z_goto (pc' := 5) dX2_holds_34 (by decide) ?_
          refine z_wk (ls' := [some (.ref t), some (.int v1), none, some (.int x2), some (.int (v4 + 1))]) (z_lec rfl (z_lec rfl (z_len1 (z_lec rfl (z_lec rfl z_le0))))) ?_
          exact ih _ _ _ _ hF
        · rw [if_pos c4] at hF
          refine z_iconst (v := 1) (pc' := 23) dX2_holds_22 (by decide) rfl ?_
          obtain ⟨g3, hF⟩ := z_gde hF
          exact z_zreturn rfl (z_b01e g3) dX2_holds_23 (Option.some.inj hF).symm
def F_X2_holds (B : Nat) (t : Nat) (p1 : Int32) (p2 : Int32) (S : z_S) : Option (z_O × z_S) :=
  F_X2_holds_5 B t z_n p1 p2 0 S
set_option maxRecDepth 20000 in
set_option maxHeartbeats 16000000 in
theorem c_X2_holds {l : Launch} {B : Nat} {t : Nat} {p1 : Int32} {p2 : Int32} {S : z_S} {q : z_O × z_S} (hst : l.stackTraces = false) (ht : z_is 2 t) (hF : F_X2_holds B t p1 p2 S = some q) : z_Met l I_X2_holds 0 0 B [.ref t, .int p1, .int p2] S q.1 q.2 := by
  refine z_enter (ls := [some (.ref t), some (.int p1), some (.int p2), none, none]) (n := 2) (by decide) rfl (Nat.le_of_ble_eq_true rfl) hst ?_
  unfold F_X2_holds at hF
  refine z_iload_n (pc' := 1) dX2_holds_0 rfl rfl rfl ?_
  refine z_istore_n (pc' := 2) dX2_holds_1 rfl (by decide) rfl rfl ?_
  refine z_iconst (v := 0) (pc' := 3) dX2_holds_2 (by decide) rfl ?_
  refine z_istore (pc' := 5) dX2_holds_3 (by decide) rfl rfl ?_
  refine z_wk (ls' := [some (.ref t), some (.int p1), none, some (.int p2), some (.int 0)]) (z_lec rfl (z_lec rfl (z_len1 (z_lec rfl (z_lec rfl z_le0))))) ?_
  exact (ok_X2_holds_5 hst ht z_n) _ _ _ _ hF
theorem ok_X2_holds : z_okV I_X2_holds 2 := ⟨⟨z_Gin (List.mem_of_getElem? (i := 646) (by decide +kernel)) rfl, z_Gin (List.mem_of_getElem? (i := 647) (by decide +kernel)) rfl, z_Gin (List.mem_of_getElem? (i := 94) (by decide +kernel)) rfl, z_Gin (List.mem_of_getElem? (i := 648) (by decide +kernel)) rfl⟩, by decide, by decide, by decide +kernel⟩
theorem k_X2_holds {l : Launch} {I : z_I} {R : Room} {B : Nat} {t : Nat} {p1 : Int32} {p2 : Int32} {q : z_O × z_S} {pc pc' : Nat} {ls : List (Option Value)} {st : List Value} {S S1 : z_S} {idx F L : Nat} {r : Int32} (ht : z_is 2 t) (hF : F_X2_holds B t p1 p2 S = some (.inl (some r), S1)) (hst : l.stackTraces = false) (w : Cond.methodLink I.1.cls idx yX2_holds ∈ z_G) (hRF : R.frames = F) (hRL : R.locals = L) (h1 : 1 ≤ F) (h2 : 24 ≤ L) (hs : (st.map fun v => v.category).sum ≤ 8) (d : decode I.2.1 pc = .ok (.invokevirtual idx, 3)) (hp : pc + 3 = pc') (k : z_W l I R B q pc' ls (.int r :: st) S1) : z_W l I R B q pc ls (.int p2 :: .int p1 :: .ref t :: st) S := z_callV (Y := I_X2_holds) (As := [.int p1, .int p2]) (st := st) (r := (some r)) (S1 := S1) (c_X2_holds (q := (.inl (some r), S1)) hst ht hF) ok_X2_holds w (ci := 2) rfl ht.1 ht.2 rfl ⟨by rw [hRF]; exact h1, by rw [hRL]; exact h2⟩ hs d hp rfl k

abbrev I_X4_takeBlock : z_I := (yX4_takeBlock, cX4_takeBlock, 3, some .int)
abbrev R_X4_takeBlock (q : z_O × z_S) : Room := { frames := 0, locals := 0, cells := z_mc q.1, slots := 6 * z_mc q.1 }
def F_X4_takeBlock_2 (B : Nat) (t : Nat)  : Nat → Int32 → Int32 → z_S → Option (z_O × z_S)
  | 0, _, _, _ => none
  | n + 1, v1, v2, S => if (S.2.1 t 0) ≤ v2 then
    some (.inl (some (-1)), S)
  else
    z_gd (z_inb v2 B) (
    z_lt (S.1 (t + 1) (z_ix (v2))) fun x2 =>
    (if x2 = 0 then
      z_gd (z_inb v2 B) (
      z_lt (z_ua S (t + 1) (upd (S.1 (t + 1)) (z_ix (v2)) v1)) fun S4 =>
      (z_gd (z_inb v2 B) (
      z_lt (z_ua S4 (t + 2) (upd (S4.1 (t + 2)) (z_ix (v2)) 0)) fun S6 =>
      (z_gd (z_inb v2 B) (
      z_lt (z_ua S6 (t + 3) (upd (S6.1 (t + 3)) (z_ix (v2)) 0)) fun S8 =>
      (z_gd (z_inb v2 B) (
      z_lt (z_ua S8 (t + 4) (upd (S8.1 (t + 4)) (z_ix (v2)) 0)) fun S10 =>
      (z_gd (z_inb v2 B) (
      z_lt (z_ua S10 (t + 5) (upd (S10.1 (t + 5)) (z_ix (v2)) (-1))) fun S12 =>
      (z_gd (z_inb v2 B) (
      z_lt (z_ua S12 (t + 6) (upd (S12.1 (t + 6)) (z_ix (v2)) (-1))) fun S14 =>
      (z_gd (z_inb v2 B) (
      z_lt (z_ua S14 (t + 7) (upd (S14.1 (t + 7)) (z_ix (v2)) (-1))) fun S16 =>
      (some (.inl (some v2), S16)))))))))))))))
    else
      F_X4_takeBlock_2 B t n v1 (v2 + 1) S))
set_option maxRecDepth 20000 in
set_option maxHeartbeats 16000000 in
theorem ok_X4_takeBlock_2 {l : Launch} {B : Nat} {t : Nat} {q : z_O × z_S} (hst : l.stackTraces = false) (ht : z_is 4 t) : ∀ (n : Nat) (v1 : Int32) (v2 : Int32) (S : z_S), F_X4_takeBlock_2 B t n v1 v2 S = some q → z_W l I_X4_takeBlock (R_X4_takeBlock q) B q 2 [some (.ref t), some (.int v1), some (.int v2)] [] S := by
  intro n
  induction n with
  | zero => intro v1 v2 S hF; cases hF
  | succ n ih =>
    intro v1 v2 S hF
    rw [F_X4_takeBlock_2] at hF
    refine z_iload_n (pc' := 3) dX4_takeBlock_2 rfl rfl rfl ?_
    refine z_aload_n (pc' := 4) dX4_takeBlock_3 rfl rfl rfl ?_
    refine gf_X4_9 (pc' := 7) rfl ht dX4_takeBlock_4 rfl ?_
    refine z_icmp_ge (tgt := 76) (pc' := 10) dX4_takeBlock_7 (by decide) rfl (fun c18 => ?_) (fun c18 => ?_)
    · rw [if_pos c18] at hF
      refine z_iconst (v := (-1)) (pc' := 77) dX4_takeBlock_76 (by decide) rfl ?_
      exact z_ireturn rfl dX4_takeBlock_77 (Option.some.inj hF).symm
    · rw [if_neg c18] at hF
      refine z_aload_n (pc' := 11) dX4_takeBlock_10 rfl rfl rfl ?_
      refine gf_X4_15 (b := t + 1) (pc' := 14) rfl ht rfl dX4_takeBlock_11 rfl ?_
      refine z_iload_n (pc' := 15) dX4_takeBlock_14 rfl rfl rfl ?_
      obtain ⟨g1, hF⟩ := z_gde hF
      refine z_iaload (pc' := 16) (ar_4_f1 ht) (z_inbe g1) dX4_takeBlock_15 rfl ?_
      refine z_topi (fun x2 ex2 => ?_)
      replace hF := z_lte hF x2 ex2
      refine z_if_ne (tgt := 70) (pc' := 19) dX4_takeBlock_16 (by decide) rfl (fun c17 => ?_) (fun c17 => ?_)
      · rw [if_neg c17] at hF
        refine z_iinc (v := v2 + 1) (pc' := 73) dX4_takeBlock_70 rfl rfl (by decide) rfl rfl ?_
        refine z_goto (pc' := 2) dX4_takeBlock_73 (by decide) ?_
        refine z_wk (ls' := [some (.ref t), some (.int v1), some (.int (v2 + 1))]) (z_lec rfl (z_lec rfl (z_lec rfl z_le0))) ?_
        exact ih _ _ _ hF
      · rw [if_pos c17] at hF
        refine z_aload_n (pc' := 20) dX4_takeBlock_19 rfl rfl rfl ?_
        refine gf_X4_15 (b := t + 1) (pc' := 23) rfl ht rfl dX4_takeBlock_20 rfl ?_
        refine z_iload_n (pc' := 24) dX4_takeBlock_23 rfl rfl rfl ?_
        refine z_iload_n (pc' := 25) dX4_takeBlock_24 rfl rfl rfl ?_
        obtain ⟨g3, hF⟩ := z_gde hF
        refine z_iastore (pc' := 26) (ar_4_f1 ht) (z_inbe g3) dX4_takeBlock_25 rfl (fun S4 eS4 => ?_)
        replace hF := z_lte hF S4 eS4
        refine z_aload_n (pc' := 27) dX4_takeBlock_26 rfl rfl rfl ?_
        refine gf_X4_19 (b := t + 2) (pc' := 30) rfl ht rfl dX4_takeBlock_27 rfl ?_
        refine z_iload_n (pc' := 31) dX4_takeBlock_30 rfl rfl rfl ?_
        refine z_iconst (v := 0) (pc' := 32) dX4_takeBlock_31 (by decide) rfl ?_
        obtain ⟨g5, hF⟩ := z_gde hF
        refine z_iastore (pc' := 33) (ar_4_f2 ht) (z_inbe g5) dX4_takeBlock_32 rfl (fun S6 eS6 => ?_)
        replace hF := z_lte hF S6 eS6
        refine z_aload_n (pc' := 34) dX4_takeBlock_33 rfl rfl rfl ?_
        refine gf_X4_22 (b := t + 3) (pc' := 37) rfl ht rfl dX4_takeBlock_34 rfl ?_
        refine z_iload_n (pc' := 38) dX4_takeBlock_37 rfl rfl rfl ?_
        refine z_iconst (v := 0) (pc' := 39) dX4_takeBlock_38 (by decide) rfl ?_
        obtain ⟨g7, hF⟩ := z_gde hF
        refine z_iastore (pc' := 40) (ar_4_f3 ht) (z_inbe g7) dX4_takeBlock_39 rfl (fun S8 eS8 => ?_)
        replace hF := z_lte hF S8 eS8
        refine z_aload_n (pc' := 41) dX4_takeBlock_40 rfl rfl rfl ?_
        refine gf_X4_25 (b := t + 4) (pc' := 44) rfl ht rfl dX4_takeBlock_41 rfl ?_
        refine z_iload_n (pc' := 45) dX4_takeBlock_44 rfl rfl rfl ?_
        refine z_iconst (v := 0) (pc' := 46) dX4_takeBlock_45 (by decide) rfl ?_
        obtain ⟨g9, hF⟩ := z_gde hF
        refine z_iastore (pc' := 47) (ar_4_f4 ht) (z_inbe g9) dX4_takeBlock_46 rfl (fun S10 eS10 => ?_)
        replace hF := z_lte hF S10 eS10
        refine z_aload_n (pc' := 48) dX4_takeBlock_47 rfl rfl rfl ?_
        refine gf_X4_28 (b := t + 5) (pc' := 51) rfl ht rfl dX4_takeBlock_48 rfl ?_
        refine z_iload_n (pc' := 52) dX4_takeBlock_51 rfl rfl rfl ?_
        refine z_iconst (v := (-1)) (pc' := 53) dX4_takeBlock_52 (by decide) rfl ?_
        obtain ⟨g11, hF⟩ := z_gde hF
        refine z_iastore (pc' := 54) (ar_4_f5 ht) (z_inbe g11) dX4_takeBlock_53 rfl (fun S12 eS12 => ?_)
        replace hF := z_lte hF S12 eS12
        refine z_aload_n (pc' := 55) dX4_takeBlock_54 rfl rfl rfl ?_
        refine gf_X4_31 (b := t + 6) (pc' := 58) rfl ht rfl dX4_takeBlock_55 rfl ?_
        refine z_iload_n (pc' := 59) dX4_takeBlock_58 rfl rfl rfl ?_
        refine z_iconst (v := (-1)) (pc' := 60) dX4_takeBlock_59 (by decide) rfl ?_
        obtain ⟨g13, hF⟩ := z_gde hF
        refine z_iastore (pc' := 61) (ar_4_f6 ht) (z_inbe g13) dX4_takeBlock_60 rfl (fun S14 eS14 => ?_)
        replace hF := z_lte hF S14 eS14
        refine z_aload_n (pc' := 62) dX4_takeBlock_61 rfl rfl rfl ?_
        refine gf_X4_34 (b := t + 7) (pc' := 65) rfl ht rfl dX4_takeBlock_62 rfl ?_
        refine z_iload_n (pc' := 66) dX4_takeBlock_65 rfl rfl rfl ?_
        refine z_iconst (v := (-1)) (pc' := 67) dX4_takeBlock_66 (by decide) rfl ?_
        obtain ⟨g15, hF⟩ := z_gde hF
        refine z_iastore (pc' := 68) (ar_4_f7 ht) (z_inbe g15) dX4_takeBlock_67 rfl (fun S16 eS16 => ?_)
        replace hF := z_lte hF S16 eS16
        refine z_iload_n (pc' := 69) dX4_takeBlock_68 rfl rfl rfl ?_
        exact z_ireturn rfl dX4_takeBlock_69 (Option.some.inj hF).symm
def F_X4_takeBlock (B : Nat) (t : Nat) (p1 : Int32) (S : z_S) : Option (z_O × z_S) :=
  F_X4_takeBlock_2 B t z_n p1 1 S
set_option maxRecDepth 20000 in
set_option maxHeartbeats 16000000 in
theorem c_X4_takeBlock {l : Launch} {B : Nat} {t : Nat} {p1 : Int32} {S : z_S} {q : z_O × z_S} (hst : l.stackTraces = false) (ht : z_is 4 t) (hF : F_X4_takeBlock B t p1 S = some q) : z_Met l I_X4_takeBlock 0 0 B [.ref t, .int p1] S q.1 q.2 := by
  refine z_enter (ls := [some (.ref t), some (.int p1), none]) (n := 1) (by decide) rfl (Nat.le_of_ble_eq_true rfl) hst ?_
  unfold F_X4_takeBlock at hF
  refine z_iconst (v := 1) (pc' := 1) dX4_takeBlock_0 (by decide) rfl ?_
  refine z_istore_n (pc' := 2) dX4_takeBlock_1 rfl (by decide) rfl rfl ?_
  refine z_wk (ls' := [some (.ref t), some (.int p1), some (.int 1)]) (z_lec rfl (z_lec rfl (z_lec rfl z_le0))) ?_
  exact (ok_X4_takeBlock_2 hst ht z_n) _ _ _ hF
theorem ok_X4_takeBlock : z_okV I_X4_takeBlock 1 := ⟨⟨z_Gin (List.mem_of_getElem? (i := 136) (by decide +kernel)) rfl, z_Gin (List.mem_of_getElem? (i := 137) (by decide +kernel)) rfl, z_Gin (List.mem_of_getElem? (i := 92) (by decide +kernel)) rfl, z_Gin (List.mem_of_getElem? (i := 138) (by decide +kernel)) rfl⟩, by decide, by decide, by decide +kernel⟩
theorem k_X4_takeBlock {l : Launch} {I : z_I} {R : Room} {B : Nat} {t : Nat} {p1 : Int32} {q : z_O × z_S} {pc pc' : Nat} {ls : List (Option Value)} {st : List Value} {S S1 : z_S} {idx F L : Nat} {r : Int32} (ht : z_is 4 t) (hF : F_X4_takeBlock B t p1 S = some (.inl (some r), S1)) (hst : l.stackTraces = false) (w : Cond.methodLink I.1.cls idx yX4_takeBlock ∈ z_G) (hRF : R.frames = F) (hRL : R.locals = L) (h1 : 1 ≤ F) (h2 : 22 ≤ L) (hs : (st.map fun v => v.category).sum ≤ 8) (d : decode I.2.1 pc = .ok (.invokevirtual idx, 3)) (hp : pc + 3 = pc') (k : z_W l I R B q pc' ls (.int r :: st) S1) : z_W l I R B q pc ls (.int p1 :: .ref t :: st) S := z_callV (Y := I_X4_takeBlock) (As := [.int p1]) (st := st) (r := (some r)) (S1 := S1) (c_X4_takeBlock (q := (.inl (some r), S1)) hst ht hF) ok_X4_takeBlock w (ci := 4) rfl ht.1 ht.2 rfl ⟨by rw [hRF]; exact h1, by rw [hRL]; exact h2⟩ hs d hp rfl k

