abbrev I_X2_copyFrom : z_I := (yX2_copyFrom, cX2_copyFrom, 2, none)
abbrev R_X2_copyFrom (q : z_O × z_S) : Room := { frames := 1, locals := 68, cells := z_mc q.1, slots := 6 * z_mc q.1 }
def F_X2_copyFrom (B : Nat) (t : Nat) (u : Nat)  (S : z_S) : Option (z_O × z_S) :=
  z_gd (z_cok 0 0 (Int32.ofNat 61) 61 61) (
  z_lt (z_ua S (t + 1) (va_cpy (S.1 (u + 1)) (S.1 (t + 1)) (z_ix (0)) (z_ix (0)) (z_ix (Int32.ofNat 61)))) fun S2 =>
  (z_gd (z_cok 0 0 (Int32.ofNat 61) 61 61) (
  z_lt (z_ua S2 (t + 2) (va_cpy (S2.1 (u + 2)) (S2.1 (t + 2)) (z_ix (0)) (z_ix (0)) (z_ix (Int32.ofNat 61)))) fun S4 =>
  (z_gd (z_cok 0 0 (Int32.ofNat 61) 61 61) (
  z_lt (z_ua S4 (t + 3) (va_cpy (S4.1 (u + 3)) (S4.1 (t + 3)) (z_ix (0)) (z_ix (0)) (z_ix (Int32.ofNat 61)))) fun S6 =>
  (z_gd (z_cok 0 0 (Int32.ofNat 61) 61 61) (
  z_lt (z_ua S6 (t + 4) (va_cpy (S6.1 (u + 4)) (S6.1 (t + 4)) (z_ix (0)) (z_ix (0)) (z_ix (Int32.ofNat 61)))) fun S8 =>
  (z_gd (z_cok 0 0 (Int32.ofNat 976) 976 976) (
  z_lt (z_ua S8 (t + 5) (va_cpy (S8.1 (u + 5)) (S8.1 (t + 5)) (z_ix (0)) (z_ix (0)) (z_ix (Int32.ofNat 976)))) fun S10 =>
  (some (.inl none, S10)))))))))))
set_option maxRecDepth 20000 in
set_option maxHeartbeats 16000000 in
theorem c_X2_copyFrom {l : Launch} {B : Nat} {t : Nat} {u : Nat}  {S : z_S} {q : z_O × z_S} (hst : l.stackTraces = false) (ht : z_is 2 t) (hu : z_is 2 u) (hF : F_X2_copyFrom B t u S = some q) : z_Met l I_X2_copyFrom 1 68 B [.ref t, .ref u] S q.1 q.2 := by
  refine z_enter (ls := [some (.ref t), some (.ref u)]) (n := 0) (by decide) rfl (Nat.le_of_ble_eq_true rfl) hst ?_
  unfold F_X2_copyFrom at hF
  refine z_aload_n (pc' := 1) dX2_copyFrom_0 rfl rfl rfl ?_
  refine gf_X2_9 (b := u + 1) (pc' := 4) rfl hu rfl dX2_copyFrom_1 rfl ?_
  refine z_iconst (v := 0) (pc' := 5) dX2_copyFrom_4 (by decide) rfl ?_
  refine z_aload_n (pc' := 6) dX2_copyFrom_5 rfl rfl rfl ?_
  refine gf_X2_9 (b := t + 1) (pc' := 9) rfl ht rfl dX2_copyFrom_6 rfl ?_
  refine z_iconst (v := 0) (pc' := 10) dX2_copyFrom_9 (by decide) rfl ?_
  refine z_aload_n (pc' := 11) dX2_copyFrom_10 rfl rfl rfl ?_
  refine gf_X2_9 (b := t + 1) (pc' := 14) rfl ht rfl dX2_copyFrom_11 rfl ?_
  refine z_alen (v := Int32.ofNat 61) (pc' := 15) (ar_2_f0 ht) (by decide) rfl dX2_copyFrom_14 rfl ?_
  obtain ⟨g1, hF⟩ := z_gde hF
  refine z_copy (pc' := 18) (ar_2_f0 hu) (ar_2_f0 ht) (by decide) g1 zw_0 zw_1 zw_2 zw_3 ⟨by show (_ : Nat) ≤ 1; decide, by show (_ : Nat) ≤ 68; decide⟩ dX2_copyFrom_15 rfl (fun S2 eS2 => ?_)
  replace hF := z_lte hF S2 eS2
  refine z_aload_n (pc' := 19) dX2_copyFrom_18 rfl rfl rfl ?_
  refine gf_X2_15 (b := u + 2) (pc' := 22) rfl hu rfl dX2_copyFrom_19 rfl ?_
  refine z_iconst (v := 0) (pc' := 23) dX2_copyFrom_22 (by decide) rfl ?_
  refine z_aload_n (pc' := 24) dX2_copyFrom_23 rfl rfl rfl ?_
  refine gf_X2_15 (b := t + 2) (pc' := 27) rfl ht rfl dX2_copyFrom_24 rfl ?_
  refine z_iconst (v := 0) (pc' := 28) dX2_copyFrom_27 (by decide) rfl ?_
  refine z_aload_n (pc' := 29) dX2_copyFrom_28 rfl rfl rfl ?_
  refine gf_X2_15 (b := t + 2) (pc' := 32) rfl ht rfl dX2_copyFrom_29 rfl ?_
  refine z_alen (v := Int32.ofNat 61) (pc' := 33) (ar_2_f1 ht) (by decide) rfl dX2_copyFrom_32 rfl ?_
  obtain ⟨g3, hF⟩ := z_gde hF
  refine z_copy (pc' := 36) (ar_2_f1 hu) (ar_2_f1 ht) (by decide) g3 zw_0 zw_1 zw_2 zw_3 ⟨by show (_ : Nat) ≤ 1; decide, by show (_ : Nat) ≤ 68; decide⟩ dX2_copyFrom_33 rfl (fun S4 eS4 => ?_)
  replace hF := z_lte hF S4 eS4
  refine z_aload_n (pc' := 37) dX2_copyFrom_36 rfl rfl rfl ?_
  refine gf_X2_18 (b := u + 3) (pc' := 40) rfl hu rfl dX2_copyFrom_37 rfl ?_
  refine z_iconst (v := 0) (pc' := 41) dX2_copyFrom_40 (by decide) rfl ?_
  refine z_aload_n (pc' := 42) dX2_copyFrom_41 rfl rfl rfl ?_
  refine gf_X2_18 (b := t + 3) (pc' := 45) rfl ht rfl dX2_copyFrom_42 rfl ?_
  refine z_iconst (v := 0) (pc' := 46) dX2_copyFrom_45 (by decide) rfl ?_
  refine z_aload_n (pc' := 47) dX2_copyFrom_46 rfl rfl rfl ?_
  refine gf_X2_18 (b := t + 3) (pc' := 50) rfl ht rfl dX2_copyFrom_47 rfl ?_
  refine z_alen (v := Int32.ofNat 61) (pc' := 51) (ar_2_f2 ht) (by decide) rfl dX2_copyFrom_50 rfl ?_
  obtain ⟨g5, hF⟩ := z_gde hF
  refine z_copy (pc' := 54) (ar_2_f2 hu) (ar_2_f2 ht) (by decide) g5 zw_0 zw_1 zw_2 zw_3 ⟨by show (_ : Nat) ≤ 1; decide, by show (_ : Nat) ≤ 68; decide⟩ dX2_copyFrom_51 rfl (fun S6 eS6 => ?_)
  replace hF := z_lte hF S6 eS6
  refine z_aload_n (pc' := 55) dX2_copyFrom_54 rfl rfl rfl ?_
  refine gf_X2_21 (b := u + 4) (pc' := 58) rfl hu rfl dX2_copyFrom_55 rfl ?_
  refine z_iconst (v := 0) (pc' := 59) dX2_copyFrom_58 (by decide) rfl ?_
  refine z_aload_n (pc' := 60) dX2_copyFrom_59 rfl rfl rfl ?_
  refine gf_X2_21 (b := t + 4) (pc' := 63) rfl ht rfl dX2_copyFrom_60 rfl ?_
  refine z_iconst (v := 0) (pc' := 64) dX2_copyFrom_63 (by decide) rfl ?_
  refine z_aload_n (pc' := 65) dX2_copyFrom_64 rfl rfl rfl ?_
  refine gf_X2_21 (b := t + 4) (pc' := 68) rfl ht rfl dX2_copyFrom_65 rfl ?_
  refine z_alen (v := Int32.ofNat 61) (pc' := 69) (ar_2_f3 ht) (by decide) rfl dX2_copyFrom_68 rfl ?_
  obtain ⟨g7, hF⟩ := z_gde hF
  refine z_copy (pc' := 72) (ar_2_f3 hu) (ar_2_f3 ht) (by decide) g7 zw_0 zw_1 zw_2 zw_3 ⟨by show (_ : Nat) ≤ 1; decide, by show (_ : Nat) ≤ 68; decide⟩ dX2_copyFrom_69 rfl (fun S8 eS8 => ?_)
  replace hF := z_lte hF S8 eS8
  refine z_aload_n (pc' := 73) dX2_copyFrom_72 rfl rfl rfl ?_
  refine gf_X2_24 (b := u + 5) (pc' := 76) rfl hu rfl dX2_copyFrom_73 rfl ?_
  refine z_iconst (v := 0) (pc' := 77) dX2_copyFrom_76 (by decide) rfl ?_
  refine z_aload_n (pc' := 78) dX2_copyFrom_77 rfl rfl rfl ?_
  refine gf_X2_24 (b := t + 5) (pc' := 81) rfl ht rfl dX2_copyFrom_78 rfl ?_
  refine z_iconst (v := 0) (pc' := 82) dX2_copyFrom_81 (by decide) rfl ?_
  refine z_aload_n (pc' := 83) dX2_copyFrom_82 rfl rfl rfl ?_
  refine gf_X2_24 (b := t + 5) (pc' := 86) rfl ht rfl dX2_copyFrom_83 rfl ?_
  refine z_alen (v := Int32.ofNat 976) (pc' := 87) (ar_2_f4 ht) (by decide) rfl dX2_copyFrom_86 rfl ?_
  obtain ⟨g9, hF⟩ := z_gde hF
  refine z_copy (pc' := 90) (ar_2_f4 hu) (ar_2_f4 ht) (by decide) g9 zw_0 zw_1 zw_2 zw_3 ⟨by show (_ : Nat) ≤ 1; decide, by show (_ : Nat) ≤ 68; decide⟩ dX2_copyFrom_87 rfl (fun S10 eS10 => ?_)
  replace hF := z_lte hF S10 eS10
  exact z_return rfl dX2_copyFrom_90 (Option.some.inj hF).symm
theorem ok_X2_copyFrom : z_okV I_X2_copyFrom 1 := ⟨⟨z_Gin (List.mem_of_getElem? (i := 845) (by decide +kernel)) rfl, z_Gin (List.mem_of_getElem? (i := 846) (by decide +kernel)) rfl, z_Gin (List.mem_of_getElem? (i := 94) (by decide +kernel)) rfl, z_Gin (List.mem_of_getElem? (i := 847) (by decide +kernel)) rfl⟩, by decide, by decide, by decide +kernel⟩
theorem k_X2_copyFrom {l : Launch} {I : z_I} {R : Room} {B : Nat} {t : Nat} {u : Nat}  {q : z_O × z_S} {pc pc' : Nat} {ls : List (Option Value)} {st : List Value} {S S1 : z_S} {idx F L : Nat} (ht : z_is 2 t) (hu : z_is 2 u) (hF : F_X2_copyFrom B t u S = some (.inl none, S1)) (hst : l.stackTraces = false) (w : Cond.methodLink I.1.cls idx yX2_copyFrom ∈ z_G) (hRF : R.frames = F) (hRL : R.locals = L) (h1 : 2 ≤ F) (h2 : 89 ≤ L) (hs : (st.map fun v => v.category).sum ≤ 8) (d : decode I.2.1 pc = .ok (.invokevirtual idx, 3)) (hp : pc + 3 = pc') (k : z_W l I R B q pc' ls st S1) : z_W l I R B q pc ls (.ref u :: .ref t :: st) S := z_callV (Y := I_X2_copyFrom) (As := [.ref u]) (st := st) (r := none) (S1 := S1) (c_X2_copyFrom (q := (.inl none, S1)) hst ht hu hF) ok_X2_copyFrom w (ci := 2) rfl ht.1 ht.2 rfl ⟨by rw [hRF]; exact h1, by rw [hRL]; exact h2⟩ hs d hp rfl k

abbrev I_X4_copyFrom : z_I := (yX4_copyFrom, cX4_copyFrom, 2, none)
abbrev R_X4_copyFrom (q : z_O × z_S) : Room := { frames := 1, locals := 68, cells := z_mc q.1, slots := 6 * z_mc q.1 }
def F_X4_copyFrom (B : Nat) (t : Nat) (u : Nat)  (S : z_S) : Option (z_O × z_S) :=
  z_gd (z_cok 0 0 (Int32.ofNat B) B B) (
  z_lt (z_ua S (t + 1) (va_cpy (S.1 (u + 1)) (S.1 (t + 1)) (z_ix (0)) (z_ix (0)) (z_ix (Int32.ofNat B)))) fun S2 =>
  (z_gd (z_cok 0 0 (Int32.ofNat B) B B) (
  z_lt (z_ua S2 (t + 2) (va_cpy (S2.1 (u + 2)) (S2.1 (t + 2)) (z_ix (0)) (z_ix (0)) (z_ix (Int32.ofNat B)))) fun S4 =>
  (z_gd (z_cok 0 0 (Int32.ofNat B) B B) (
  z_lt (z_ua S4 (t + 3) (va_cpy (S4.1 (u + 3)) (S4.1 (t + 3)) (z_ix (0)) (z_ix (0)) (z_ix (Int32.ofNat B)))) fun S6 =>
  (z_gd (z_cok 0 0 (Int32.ofNat B) B B) (
  z_lt (z_ua S6 (t + 4) (va_cpy (S6.1 (u + 4)) (S6.1 (t + 4)) (z_ix (0)) (z_ix (0)) (z_ix (Int32.ofNat B)))) fun S8 =>
  (z_gd (z_cok 0 0 (Int32.ofNat B) B B) (
  z_lt (z_ua S8 (t + 5) (va_cpy (S8.1 (u + 5)) (S8.1 (t + 5)) (z_ix (0)) (z_ix (0)) (z_ix (Int32.ofNat B)))) fun S10 =>
  (z_gd (z_cok 0 0 (Int32.ofNat B) B B) (
  z_lt (z_ua S10 (t + 6) (va_cpy (S10.1 (u + 6)) (S10.1 (t + 6)) (z_ix (0)) (z_ix (0)) (z_ix (Int32.ofNat B)))) fun S12 =>
  (z_gd (z_cok 0 0 (Int32.ofNat B) B B) (
  z_lt (z_ua S12 (t + 7) (va_cpy (S12.1 (u + 7)) (S12.1 (t + 7)) (z_ix (0)) (z_ix (0)) (z_ix (Int32.ofNat B)))) fun S14 =>
  (z_gd (z_cok 0 0 (Int32.ofNat (6 * B)) (6 * B) (6 * B)) (
  z_lt (z_ua S14 (t + 8) (va_cpy (S14.1 (u + 8)) (S14.1 (t + 8)) (z_ix (0)) (z_ix (0)) (z_ix (Int32.ofNat (6 * B))))) fun S16 =>
  (z_gd (z_cok 0 0 (Int32.ofNat (14 * B)) (14 * B) (14 * B)) (
  z_lt (z_ua S16 (t + 9) (va_cpy (S16.1 (u + 9)) (S16.1 (t + 9)) (z_ix (0)) (z_ix (0)) (z_ix (Int32.ofNat (14 * B))))) fun S18 =>
  (z_gd (z_cok 0 0 (Int32.ofNat (14 * B)) (14 * B) (14 * B)) (
  z_lt (z_ua S18 (t + 10) (va_cpy (S18.1 (u + 10)) (S18.1 (t + 10)) (z_ix (0)) (z_ix (0)) (z_ix (Int32.ofNat (14 * B))))) fun S20 =>
  (z_gd (z_cok 0 0 (Int32.ofNat (14 * B)) (14 * B) (14 * B)) (
  z_lt (z_ua S20 (t + 11) (va_cpy (S20.1 (u + 11)) (S20.1 (t + 11)) (z_ix (0)) (z_ix (0)) (z_ix (Int32.ofNat (14 * B))))) fun S22 =>
  (z_lt (z_ui S22 t 12 (S22.2.1 u 12)) fun S23 =>
  (some (.inl none, S23))))))))))))))))))))))))
set_option maxRecDepth 20000 in
set_option maxHeartbeats 16000000 in
theorem c_X4_copyFrom {l : Launch} {B : Nat} {t : Nat} {u : Nat}  {S : z_S} {q : z_O × z_S} (hst : l.stackTraces = false) (ht : z_is 4 t) (hu : z_is 4 u) (hF : F_X4_copyFrom B t u S = some q) : z_Met l I_X4_copyFrom 1 68 B [.ref t, .ref u] S q.1 q.2 := by
  refine z_enter (ls := [some (.ref t), some (.ref u)]) (n := 0) (by decide) rfl (Nat.le_of_ble_eq_true rfl) hst ?_
  unfold F_X4_copyFrom at hF
  refine z_aload_n (pc' := 1) dX4_copyFrom_0 rfl rfl rfl ?_
  refine gf_X4_15 (b := u + 1) (pc' := 4) rfl hu rfl dX4_copyFrom_1 rfl ?_
  refine z_iconst (v := 0) (pc' := 5) dX4_copyFrom_4 (by decide) rfl ?_
  refine z_aload_n (pc' := 6) dX4_copyFrom_5 rfl rfl rfl ?_
  refine gf_X4_15 (b := t + 1) (pc' := 9) rfl ht rfl dX4_copyFrom_6 rfl ?_
  refine z_iconst (v := 0) (pc' := 10) dX4_copyFrom_9 (by decide) rfl ?_
  refine z_aload_n (pc' := 11) dX4_copyFrom_10 rfl rfl rfl ?_
  refine gf_X4_15 (b := t + 1) (pc' := 14) rfl ht rfl dX4_copyFrom_11 rfl ?_
  refine z_alen (v := Int32.ofNat B) (pc' := 15) (ar_4_f1 ht) (by decide) rfl dX4_copyFrom_14 rfl ?_
  obtain ⟨g1, hF⟩ := z_gde hF
  refine z_copy (pc' := 18) (ar_4_f1 hu) (ar_4_f1 ht) (by decide) g1 zw_4 zw_1 zw_2 zw_3 ⟨by show (_ : Nat) ≤ 1; decide, by show (_ : Nat) ≤ 68; decide⟩ dX4_copyFrom_15 rfl (fun S2 eS2 => ?_)
  replace hF := z_lte hF S2 eS2
  refine z_aload_n (pc' := 19) dX4_copyFrom_18 rfl rfl rfl ?_
  refine gf_X4_19 (b := u + 2) (pc' := 22) rfl hu rfl dX4_copyFrom_19 rfl ?_
  refine z_iconst (v := 0) (pc' := 23) dX4_copyFrom_22 (by decide) rfl ?_
  refine z_aload_n (pc' := 24) dX4_copyFrom_23 rfl rfl rfl ?_
  refine gf_X4_19 (b := t + 2) (pc' := 27) rfl ht rfl dX4_copyFrom_24 rfl ?_
  refine z_iconst (v := 0) (pc' := 28) dX4_copyFrom_27 (by decide) rfl ?_
  refine z_aload_n (pc' := 29) dX4_copyFrom_28 rfl rfl rfl ?_
  refine gf_X4_19 (b := t + 2) (pc' := 32) rfl ht rfl dX4_copyFrom_29 rfl ?_
  refine z_alen (v := Int32.ofNat B) (pc' := 33) (ar_4_f2 ht) (by decide) rfl dX4_copyFrom_32 rfl ?_
  obtain ⟨g3, hF⟩ := z_gde hF
  refine z_copy (pc' := 36) (ar_4_f2 hu) (ar_4_f2 ht) (by decide) g3 zw_4 zw_1 zw_2 zw_3 ⟨by show (_ : Nat) ≤ 1; decide, by show (_ : Nat) ≤ 68; decide⟩ dX4_copyFrom_33 rfl (fun S4 eS4 => ?_)
  replace hF := z_lte hF S4 eS4
  refine z_aload_n (pc' := 37) dX4_copyFrom_36 rfl rfl rfl ?_
  refine gf_X4_22 (b := u + 3) (pc' := 40) rfl hu rfl dX4_copyFrom_37 rfl ?_
  refine z_iconst (v := 0) (pc' := 41) dX4_copyFrom_40 (by decide) rfl ?_
  refine z_aload_n (pc' := 42) dX4_copyFrom_41 rfl rfl rfl ?_
  refine gf_X4_22 (b := t + 3) (pc' := 45) rfl ht rfl dX4_copyFrom_42 rfl ?_
  refine z_iconst (v := 0) (pc' := 46) dX4_copyFrom_45 (by decide) rfl ?_
  refine z_aload_n (pc' := 47) dX4_copyFrom_46 rfl rfl rfl ?_
  refine gf_X4_22 (b := t + 3) (pc' := 50) rfl ht rfl dX4_copyFrom_47 rfl ?_
  refine z_alen (v := Int32.ofNat B) (pc' := 51) (ar_4_f3 ht) (by decide) rfl dX4_copyFrom_50 rfl ?_
  obtain ⟨g5, hF⟩ := z_gde hF
  refine z_copy (pc' := 54) (ar_4_f3 hu) (ar_4_f3 ht) (by decide) g5 zw_4 zw_1 zw_2 zw_3 ⟨by show (_ : Nat) ≤ 1; decide, by show (_ : Nat) ≤ 68; decide⟩ dX4_copyFrom_51 rfl (fun S6 eS6 => ?_)
  replace hF := z_lte hF S6 eS6
  refine z_aload_n (pc' := 55) dX4_copyFrom_54 rfl rfl rfl ?_
  refine gf_X4_25 (b := u + 4) (pc' := 58) rfl hu rfl dX4_copyFrom_55 rfl ?_
  refine z_iconst (v := 0) (pc' := 59) dX4_copyFrom_58 (by decide) rfl ?_
  refine z_aload_n (pc' := 60) dX4_copyFrom_59 rfl rfl rfl ?_
  refine gf_X4_25 (b := t + 4) (pc' := 63) rfl ht rfl dX4_copyFrom_60 rfl ?_
  refine z_iconst (v := 0) (pc' := 64) dX4_copyFrom_63 (by decide) rfl ?_
  refine z_aload_n (pc' := 65) dX4_copyFrom_64 rfl rfl rfl ?_
  refine gf_X4_25 (b := t + 4) (pc' := 68) rfl ht rfl dX4_copyFrom_65 rfl ?_
  refine z_alen (v := Int32.ofNat B) (pc' := 69) (ar_4_f4 ht) (by decide) rfl dX4_copyFrom_68 rfl ?_
  obtain ⟨g7, hF⟩ := z_gde hF
  refine z_copy (pc' := 72) (ar_4_f4 hu) (ar_4_f4 ht) (by decide) g7 zw_4 zw_1 zw_2 zw_3 ⟨by show (_ : Nat) ≤ 1; decide, by show (_ : Nat) ≤ 68; decide⟩ dX4_copyFrom_69 rfl (fun S8 eS8 => ?_)
  replace hF := z_lte hF S8 eS8
  refine z_aload_n (pc' := 73) dX4_copyFrom_72 rfl rfl rfl ?_
  refine gf_X4_28 (b := u + 5) (pc' := 76) rfl hu rfl dX4_copyFrom_73 rfl ?_
  refine z_iconst (v := 0) (pc' := 77) dX4_copyFrom_76 (by decide) rfl ?_
  refine z_aload_n (pc' := 78) dX4_copyFrom_77 rfl rfl rfl ?_
  refine gf_X4_28 (b := t + 5) (pc' := 81) rfl ht rfl dX4_copyFrom_78 rfl ?_
  refine z_iconst (v := 0) (pc' := 82) dX4_copyFrom_81 (by decide) rfl ?_
  refine z_aload_n (pc' := 83) dX4_copyFrom_82 rfl rfl rfl ?_
  refine gf_X4_28 (b := t + 5) (pc' := 86) rfl ht rfl dX4_copyFrom_83 rfl ?_
  refine z_alen (v := Int32.ofNat B) (pc' := 87) (ar_4_f5 ht) (by decide) rfl dX4_copyFrom_86 rfl ?_
  obtain ⟨g9, hF⟩ := z_gde hF
  refine z_copy (pc' := 90) (ar_4_f5 hu) (ar_4_f5 ht) (by decide) g9 zw_4 zw_1 zw_2 zw_3 ⟨by show (_ : Nat) ≤ 1; decide, by show (_ : Nat) ≤ 68; decide⟩ dX4_copyFrom_87 rfl (fun S10 eS10 => ?_)
  replace hF := z_lte hF S10 eS10
  refine z_aload_n (pc' := 91) dX4_copyFrom_90 rfl rfl rfl ?_
  refine gf_X4_31 (b := u + 6) (pc' := 94) rfl hu rfl dX4_copyFrom_91 rfl ?_
  refine z_iconst (v := 0) (pc' := 95) dX4_copyFrom_94 (by decide) rfl ?_
  refine z_aload_n (pc' := 96) dX4_copyFrom_95 rfl rfl rfl ?_
  refine gf_X4_31 (b := t + 6) (pc' := 99) rfl ht rfl dX4_copyFrom_96 rfl ?_
  refine z_iconst (v := 0) (pc' := 100) dX4_copyFrom_99 (by decide) rfl ?_
  refine z_aload_n (pc' := 101) dX4_copyFrom_100 rfl rfl rfl ?_
  refine gf_X4_31 (b := t + 6) (pc' := 104) rfl ht rfl dX4_copyFrom_101 rfl ?_
  refine z_alen (v := Int32.ofNat B) (pc' := 105) (ar_4_f6 ht) (by decide) rfl dX4_copyFrom_104 rfl ?_
  obtain ⟨g11, hF⟩ := z_gde hF
  refine z_copy (pc' := 108) (ar_4_f6 hu) (ar_4_f6 ht) (by decide) g11 zw_4 zw_1 zw_2 zw_3 ⟨by show (_ : Nat) ≤ 1; decide, by show (_ : Nat) ≤ 68; decide⟩ dX4_copyFrom_105 rfl (fun S12 eS12 => ?_)
  replace hF := z_lte hF S12 eS12
  refine z_aload_n (pc' := 109) dX4_copyFrom_108 rfl rfl rfl ?_
  refine gf_X4_34 (b := u + 7) (pc' := 112) rfl hu rfl dX4_copyFrom_109 rfl ?_
  refine z_iconst (v := 0) (pc' := 113) dX4_copyFrom_112 (by decide) rfl ?_
  refine z_aload_n (pc' := 114) dX4_copyFrom_113 rfl rfl rfl ?_
  refine gf_X4_34 (b := t + 7) (pc' := 117) rfl ht rfl dX4_copyFrom_114 rfl ?_
  refine z_iconst (v := 0) (pc' := 118) dX4_copyFrom_117 (by decide) rfl ?_
  refine z_aload_n (pc' := 119) dX4_copyFrom_118 rfl rfl rfl ?_
  refine gf_X4_34 (b := t + 7) (pc' := 122) rfl ht rfl dX4_copyFrom_119 rfl ?_
  refine z_alen (v := Int32.ofNat B) (pc' := 123) (ar_4_f7 ht) (by decide) rfl dX4_copyFrom_122 rfl ?_
  obtain ⟨g13, hF⟩ := z_gde hF
  refine z_copy (pc' := 126) (ar_4_f7 hu) (ar_4_f7 ht) (by decide) g13 zw_4 zw_1 zw_2 zw_3 ⟨by show (_ : Nat) ≤ 1; decide, by show (_ : Nat) ≤ 68; decide⟩ dX4_copyFrom_123 rfl (fun S14 eS14 => ?_)
  replace hF := z_lte hF S14 eS14
  refine z_aload_n (pc' := 127) dX4_copyFrom_126 rfl rfl rfl ?_
  refine gf_X4_37 (b := u + 8) (pc' := 130) rfl hu rfl dX4_copyFrom_127 rfl ?_
  refine z_iconst (v := 0) (pc' := 131) dX4_copyFrom_130 (by decide) rfl ?_
  refine z_aload_n (pc' := 132) dX4_copyFrom_131 rfl rfl rfl ?_
  refine gf_X4_37 (b := t + 8) (pc' := 135) rfl ht rfl dX4_copyFrom_132 rfl ?_
  refine z_iconst (v := 0) (pc' := 136) dX4_copyFrom_135 (by decide) rfl ?_
  refine z_aload_n (pc' := 137) dX4_copyFrom_136 rfl rfl rfl ?_
  refine gf_X4_37 (b := t + 8) (pc' := 140) rfl ht rfl dX4_copyFrom_137 rfl ?_
  refine z_alen (v := Int32.ofNat (6 * B)) (pc' := 141) (ar_4_f8 ht) (by decide) rfl dX4_copyFrom_140 rfl ?_
  obtain ⟨g15, hF⟩ := z_gde hF
  refine z_copy (pc' := 144) (ar_4_f8 hu) (ar_4_f8 ht) (by decide) g15 zw_4 zw_1 zw_2 zw_3 ⟨by show (_ : Nat) ≤ 1; decide, by show (_ : Nat) ≤ 68; decide⟩ dX4_copyFrom_141 rfl (fun S16 eS16 => ?_)
  replace hF := z_lte hF S16 eS16
  refine z_aload_n (pc' := 145) dX4_copyFrom_144 rfl rfl rfl ?_
  refine gf_X4_40 (b := u + 9) (pc' := 148) rfl hu rfl dX4_copyFrom_145 rfl ?_
  refine z_iconst (v := 0) (pc' := 149) dX4_copyFrom_148 (by decide) rfl ?_
  refine z_aload_n (pc' := 150) dX4_copyFrom_149 rfl rfl rfl ?_
  refine gf_X4_40 (b := t + 9) (pc' := 153) rfl ht rfl dX4_copyFrom_150 rfl ?_
  refine z_iconst (v := 0) (pc' := 154) dX4_copyFrom_153 (by decide) rfl ?_
  refine z_aload_n (pc' := 155) dX4_copyFrom_154 rfl rfl rfl ?_
  refine gf_X4_40 (b := t + 9) (pc' := 158) rfl ht rfl dX4_copyFrom_155 rfl ?_
  refine z_alen (v := Int32.ofNat (14 * B)) (pc' := 159) (ar_4_f9 ht) (by decide) rfl dX4_copyFrom_158 rfl ?_
  obtain ⟨g17, hF⟩ := z_gde hF
  refine z_copy (pc' := 162) (ar_4_f9 hu) (ar_4_f9 ht) (by decide) g17 zw_4 zw_1 zw_2 zw_3 ⟨by show (_ : Nat) ≤ 1; decide, by show (_ : Nat) ≤ 68; decide⟩ dX4_copyFrom_159 rfl (fun S18 eS18 => ?_)
  replace hF := z_lte hF S18 eS18
  refine z_aload_n (pc' := 163) dX4_copyFrom_162 rfl rfl rfl ?_
  refine gf_X4_43 (b := u + 10) (pc' := 166) rfl hu rfl dX4_copyFrom_163 rfl ?_
  refine z_iconst (v := 0) (pc' := 167) dX4_copyFrom_166 (by decide) rfl ?_
  refine z_aload_n (pc' := 168) dX4_copyFrom_167 rfl rfl rfl ?_
  refine gf_X4_43 (b := t + 10) (pc' := 171) rfl ht rfl dX4_copyFrom_168 rfl ?_
  refine z_iconst (v := 0) (pc' := 172) dX4_copyFrom_171 (by decide) rfl ?_
  refine z_aload_n (pc' := 173) dX4_copyFrom_172 rfl rfl rfl ?_
  refine gf_X4_43 (b := t + 10) (pc' := 176) rfl ht rfl dX4_copyFrom_173 rfl ?_
  refine z_alen (v := Int32.ofNat (14 * B)) (pc' := 177) (ar_4_f10 ht) (by decide) rfl dX4_copyFrom_176 rfl ?_
  obtain ⟨g19, hF⟩ := z_gde hF
  refine z_copy (pc' := 180) (ar_4_f10 hu) (ar_4_f10 ht) (by decide) g19 zw_4 zw_1 zw_2 zw_3 ⟨by show (_ : Nat) ≤ 1; decide, by show (_ : Nat) ≤ 68; decide⟩ dX4_copyFrom_177 rfl (fun S20 eS20 => ?_)
  replace hF := z_lte hF S20 eS20
  refine z_aload_n (pc' := 181) dX4_copyFrom_180 rfl rfl rfl ?_
  refine gf_X4_46 (b := u + 11) (pc' := 184) rfl hu rfl dX4_copyFrom_181 rfl ?_
  refine z_iconst (v := 0) (pc' := 185) dX4_copyFrom_184 (by decide) rfl ?_
  refine z_aload_n (pc' := 186) dX4_copyFrom_185 rfl rfl rfl ?_
  refine gf_X4_46 (b := t + 11) (pc' := 189) rfl ht rfl dX4_copyFrom_186 rfl ?_
  refine z_iconst (v := 0) (pc' := 190) dX4_copyFrom_189 (by decide) rfl ?_
  refine z_aload_n (pc' := 191) dX4_copyFrom_190 rfl rfl rfl ?_
  refine gf_X4_46 (b := t + 11) (pc' := 194) rfl ht rfl dX4_copyFrom_191 rfl ?_
  refine z_alen (v := Int32.ofNat (14 * B)) (pc' := 195) (ar_4_f11 ht) (by decide) rfl dX4_copyFrom_194 rfl ?_
  obtain ⟨g21, hF⟩ := z_gde hF
  refine z_copy (pc' := 198) (ar_4_f11 hu) (ar_4_f11 ht) (by decide) g21 zw_4 zw_1 zw_2 zw_3 ⟨by show (_ : Nat) ≤ 1; decide, by show (_ : Nat) ≤ 68; decide⟩ dX4_copyFrom_195 rfl (fun S22 eS22 => ?_)
  replace hF := z_lte hF S22 eS22
  refine z_aload_n (pc' := 199) dX4_copyFrom_198 rfl rfl rfl ?_
  refine z_aload_n (pc' := 200) dX4_copyFrom_199 rfl rfl rfl ?_
  refine gf_X4_53 (pc' := 203) rfl hu dX4_copyFrom_200 rfl ?_
  refine pf_X4_53 (pc' := 206) rfl ht dX4_copyFrom_203 rfl (fun S23 eS23 => ?_)
  replace hF := z_lte hF S23 eS23
  exact z_return rfl dX4_copyFrom_206 (Option.some.inj hF).symm
theorem ok_X4_copyFrom : z_okV I_X4_copyFrom 1 := ⟨⟨z_Gin (List.mem_of_getElem? (i := 504) (by decide +kernel)) rfl, z_Gin (List.mem_of_getElem? (i := 505) (by decide +kernel)) rfl, z_Gin (List.mem_of_getElem? (i := 92) (by decide +kernel)) rfl, z_Gin (List.mem_of_getElem? (i := 506) (by decide +kernel)) rfl⟩, by decide, by decide, by decide +kernel⟩
theorem k_X4_copyFrom {l : Launch} {I : z_I} {R : Room} {B : Nat} {t : Nat} {u : Nat}  {q : z_O × z_S} {pc pc' : Nat} {ls : List (Option Value)} {st : List Value} {S S1 : z_S} {idx F L : Nat} (ht : z_is 4 t) (hu : z_is 4 u) (hF : F_X4_copyFrom B t u S = some (.inl none, S1)) (hst : l.stackTraces = false) (w : Cond.methodLink I.1.cls idx yX4_copyFrom ∈ z_G) (hRF : R.frames = F) (hRL : R.locals = L) (h1 : 2 ≤ F) (h2 : 89 ≤ L) (hs : (st.map fun v => v.category).sum ≤ 8) (d : decode I.2.1 pc = .ok (.invokevirtual idx, 3)) (hp : pc + 3 = pc') (k : z_W l I R B q pc' ls st S1) : z_W l I R B q pc ls (.ref u :: .ref t :: st) S := z_callV (Y := I_X4_copyFrom) (As := [.ref u]) (st := st) (r := none) (S1 := S1) (c_X4_copyFrom (q := (.inl none, S1)) hst ht hu hF) ok_X4_copyFrom w (ci := 4) rfl ht.1 ht.2 rfl ⟨by rw [hRF]; exact h1, by rw [hRL]; exact h2⟩ hs d hp rfl k

abbrev I_X0_copyFrom : z_I := (yX0_copyFrom, cX0_copyFrom, 2, none)
abbrev R_X0_copyFrom (q : z_O × z_S) : Room := { frames := 2, locals := 89, cells := z_mc q.1, slots := 6 * z_mc q.1 }
def F_X0_copyFrom (B : Nat) (t : Nat) (u : Nat)  (S : z_S) : Option (z_O × z_S) :=
  z_bo (F_X4_copyFrom B (t + 1) (u + 1) S) fun S2 =>
  (z_bo (F_X2_copyFrom B (t + 13) (u + 13) S2) fun S5 =>
  (z_gd (z_cok 0 0 (Int32.ofNat (128 * B)) (128 * B) (128 * B)) (
  z_lt (z_ua S5 (t + 19) (va_cpy (S5.1 (u + 19)) (S5.1 (t + 19)) (z_ix (0)) (z_ix (0)) (z_ix (Int32.ofNat (128 * B))))) fun S8 =>
  (z_gd (z_cok 0 0 (Int32.ofNat 2440) 2440 2440) (
  z_lt (z_ua S8 (t + 20) (va_cpy (S8.1 (u + 20)) (S8.1 (t + 20)) (z_ix (0)) (z_ix (0)) (z_ix (Int32.ofNat 2440)))) fun S10 =>
  (some (.inl none, S10)))))))
set_option maxRecDepth 20000 in
set_option maxHeartbeats 16000000 in
theorem c_X0_copyFrom {l : Launch} {B : Nat} {t : Nat} {u : Nat}  {S : z_S} {q : z_O × z_S} (hst : l.stackTraces = false) (ht : z_is 0 t) (hu : z_is 0 u) (hF : F_X0_copyFrom B t u S = some q) : z_Met l I_X0_copyFrom 2 89 B [.ref t, .ref u] S q.1 q.2 := by
  refine z_enter (ls := [some (.ref t), some (.ref u)]) (n := 0) (by decide) rfl (Nat.le_of_ble_eq_true rfl) hst ?_
  unfold F_X0_copyFrom at hF
  refine z_aload_n (pc' := 1) dX0_copyFrom_0 rfl rfl rfl ?_
  refine gf_X0_14 (b := t + 1) (pc' := 4) rfl ht rfl dX0_copyFrom_1 rfl ?_
  refine z_aload_n (pc' := 5) dX0_copyFrom_4 rfl rfl rfl ?_
  refine gf_X0_14 (b := u + 1) (pc' := 8) rfl hu rfl dX0_copyFrom_5 rfl ?_
  obtain ⟨S2, hc3, hF⟩ := z_boe hF
  refine k_X4_copyFrom (F := 2) (L := 89) (pc' := 11) (is_0_f0 ht) (is_0_f0 hu) hc3 hst zw_5 rfl rfl (by decide) (by decide) (by decide) dX0_copyFrom_8 rfl ?_
  refine z_aload_n (pc' := 12) dX0_copyFrom_11 rfl rfl rfl ?_
  refine gf_X0_23 (b := t + 13) (pc' := 15) rfl ht rfl dX0_copyFrom_12 rfl ?_
  refine z_aload_n (pc' := 16) dX0_copyFrom_15 rfl rfl rfl ?_
  refine gf_X0_23 (b := u + 13) (pc' := 19) rfl hu rfl dX0_copyFrom_16 rfl ?_
  obtain ⟨S5, hc6, hF⟩ := z_boe hF
  refine k_X2_copyFrom (F := 2) (L := 89) (pc' := 22) (is_0_f1 ht) (is_0_f1 hu) hc6 hst zw_6 rfl rfl (by decide) (by decide) (by decide) dX0_copyFrom_19 rfl ?_
  refine z_aload_n (pc' := 23) dX0_copyFrom_22 rfl rfl rfl ?_
  refine gf_X0_27 (b := u + 19) (pc' := 26) rfl hu rfl dX0_copyFrom_23 rfl ?_
  refine z_iconst (v := 0) (pc' := 27) dX0_copyFrom_26 (by decide) rfl ?_
  refine z_aload_n (pc' := 28) dX0_copyFrom_27 rfl rfl rfl ?_
  refine gf_X0_27 (b := t + 19) (pc' := 31) rfl ht rfl dX0_copyFrom_28 rfl ?_
  refine z_iconst (v := 0) (pc' := 32) dX0_copyFrom_31 (by decide) rfl ?_
  refine z_aload_n (pc' := 33) dX0_copyFrom_32 rfl rfl rfl ?_
  refine gf_X0_27 (b := t + 19) (pc' := 36) rfl ht rfl dX0_copyFrom_33 rfl ?_
  refine z_alen (v := Int32.ofNat (128 * B)) (pc' := 37) (ar_0_f2 ht) (by decide) rfl dX0_copyFrom_36 rfl ?_
  obtain ⟨g7, hF⟩ := z_gde hF
  refine z_copy (pc' := 40) (ar_0_f2 hu) (ar_0_f2 ht) (by decide) g7 zw_7 zw_1 zw_2 zw_3 ⟨by show (_ : Nat) ≤ 2; decide, by show (_ : Nat) ≤ 89; decide⟩ dX0_copyFrom_37 rfl (fun S8 eS8 => ?_)
  replace hF := z_lte hF S8 eS8
  refine z_aload_n (pc' := 41) dX0_copyFrom_40 rfl rfl rfl ?_
  refine gf_X0_31 (b := u + 20) (pc' := 44) rfl hu rfl dX0_copyFrom_41 rfl ?_
  refine z_iconst (v := 0) (pc' := 45) dX0_copyFrom_44 (by decide) rfl ?_
  refine z_aload_n (pc' := 46) dX0_copyFrom_45 rfl rfl rfl ?_
  refine gf_X0_31 (b := t + 20) (pc' := 49) rfl ht rfl dX0_copyFrom_46 rfl ?_
  refine z_iconst (v := 0) (pc' := 50) dX0_copyFrom_49 (by decide) rfl ?_
  refine z_aload_n (pc' := 51) dX0_copyFrom_50 rfl rfl rfl ?_
  refine gf_X0_31 (b := t + 20) (pc' := 54) rfl ht rfl dX0_copyFrom_51 rfl ?_
  refine z_alen (v := Int32.ofNat 2440) (pc' := 55) (ar_0_f3 ht) (by decide) rfl dX0_copyFrom_54 rfl ?_
  obtain ⟨g9, hF⟩ := z_gde hF
  refine z_copy (pc' := 58) (ar_0_f3 hu) (ar_0_f3 ht) (by decide) g9 zw_7 zw_1 zw_2 zw_3 ⟨by show (_ : Nat) ≤ 2; decide, by show (_ : Nat) ≤ 89; decide⟩ dX0_copyFrom_55 rfl (fun S10 eS10 => ?_)
  replace hF := z_lte hF S10 eS10
  exact z_return rfl dX0_copyFrom_58 (Option.some.inj hF).symm
theorem ok_X0_copyFrom : z_okV I_X0_copyFrom 1 := ⟨⟨z_Gin (List.mem_of_getElem? (i := 840) (by decide +kernel)) rfl, z_Gin (List.mem_of_getElem? (i := 841) (by decide +kernel)) rfl, z_Gin (List.mem_of_getElem? (i := 91) (by decide +kernel)) rfl, z_Gin (List.mem_of_getElem? (i := 842) (by decide +kernel)) rfl⟩, by decide, by decide, by decide +kernel⟩
theorem k_X0_copyFrom {l : Launch} {I : z_I} {R : Room} {B : Nat} {t : Nat} {u : Nat}  {q : z_O × z_S} {pc pc' : Nat} {ls : List (Option Value)} {st : List Value} {S S1 : z_S} {idx F L : Nat} (ht : z_is 0 t) (hu : z_is 0 u) (hF : F_X0_copyFrom B t u S = some (.inl none, S1)) (hst : l.stackTraces = false) (w : Cond.methodLink I.1.cls idx yX0_copyFrom ∈ z_G) (hRF : R.frames = F) (hRL : R.locals = L) (h1 : 3 ≤ F) (h2 : 110 ≤ L) (hs : (st.map fun v => v.category).sum ≤ 8) (d : decode I.2.1 pc = .ok (.invokevirtual idx, 3)) (hp : pc + 3 = pc') (k : z_W l I R B q pc' ls st S1) : z_W l I R B q pc ls (.ref u :: .ref t :: st) S := z_callV (Y := I_X0_copyFrom) (As := [.ref u]) (st := st) (r := none) (S1 := S1) (c_X0_copyFrom (q := (.inl none, S1)) hst ht hu hF) ok_X0_copyFrom w (ci := 0) rfl ht.1 ht.2 rfl ⟨by rw [hRF]; exact h1, by rw [hRL]; exact h2⟩ hs d hp rfl k

abbrev I_X5_tailBytes : z_I := (yX5_tailBytes, cX5_tailBytes, 2, some .int)
abbrev R_X5_tailBytes (q : z_O × z_S) : Room := { frames := 0, locals := 0, cells := z_mc q.1, slots := 6 * z_mc q.1 }
def F_X5_tailBytes_24 (B : Nat)  (s0 : Int32) (S : z_S) : Option (z_O × z_S) :=
  some (.inl (some s0), S)
set_option maxRecDepth 20000 in
set_option maxHeartbeats 16000000 in
theorem ok_X5_tailBytes_24 {l : Launch} {B : Nat} {q : z_O × z_S} (hst : l.stackTraces = false) : ∀ (s0 : Int32) (S : z_S), F_X5_tailBytes_24 B s0 S = some q → z_W l I_X5_tailBytes (R_X5_tailBytes q) B q 24 [none, none] [.int s0] S := by
  intro s0 S hF
  unfold F_X5_tailBytes_24 at hF
  exact z_ireturn rfl dX5_tailBytes_24 (Option.some.inj hF).symm
def F_X5_tailBytes_23 (B : Nat) (k24 : Int32 → z_S → Option (z_O × z_S))  (S : z_S) : Option (z_O × z_S) :=
  k24 0 S
set_option maxRecDepth 20000 in
set_option maxHeartbeats 16000000 in
theorem ok_X5_tailBytes_23 {l : Launch} {B : Nat} {q : z_O × z_S} (hst : l.stackTraces = false) {k24 : Int32 → z_S → Option (z_O × z_S)} (hk24 : ∀ (s0 : Int32) (S : z_S), k24 s0 S = some q → z_W l I_X5_tailBytes (R_X5_tailBytes q) B q 24 [none, none] [.int s0] S) : ∀ (S : z_S), F_X5_tailBytes_23 B k24 S = some q → z_W l I_X5_tailBytes (R_X5_tailBytes q) B q 23 [none, none] [] S := by
  intro S hF
  unfold F_X5_tailBytes_23 at hF
  refine z_iconst (v := 0) (pc' := 24) dX5_tailBytes_23 (by decide) rfl ?_
  refine z_wk (ls' := [none, none]) (z_len1 (z_len1 z_le0)) ?_
  exact hk24 _ _ hF
def F_X5_tailBytes (B : Nat) (p0 : Int32) (S : z_S) : Option (z_O × z_S) :=
  if 40 < (p0 - p0 / 128 * 128) then
    F_X5_tailBytes_23 B (F_X5_tailBytes_24 B ) S
  else
    if 512 < p0 then
      F_X5_tailBytes_23 B (F_X5_tailBytes_24 B ) S
    else
      F_X5_tailBytes_24 B (p0 - p0 / 128 * 128) S
set_option maxRecDepth 20000 in
set_option maxHeartbeats 16000000 in
theorem c_X5_tailBytes {l : Launch} {B : Nat} {p0 : Int32} {S : z_S} {q : z_O × z_S} (hst : l.stackTraces = false) (hF : F_X5_tailBytes B p0 S = some q) : z_Met l I_X5_tailBytes 0 0 B [.int p0] S q.1 q.2 := by
  refine z_enter (ls := [some (.int p0), none]) (n := 1) (by decide) rfl (Nat.le_of_ble_eq_true rfl) hst ?_
  unfold F_X5_tailBytes at hF
  refine z_iload_n (pc' := 1) dX5_tailBytes_0 rfl rfl rfl ?_
  refine z_sipush (v := 128) (pc' := 4) dX5_tailBytes_1 (by decide) rfl ?_
  refine z_irem (pc' := 5) dX5_tailBytes_4 (by decide) rfl ?_
  refine z_istore_n (pc' := 6) dX5_tailBytes_5 rfl (by decide) rfl rfl ?_
  refine z_iload_n (pc' := 7) dX5_tailBytes_6 rfl rfl rfl ?_
  refine z_bipush (v := 40) (pc' := 9) dX5_tailBytes_7 (by decide) rfl ?_
  refine z_icmp_gt (tgt := 23) (pc' := 12) dX5_tailBytes_9 (by decide) rfl (fun c2 => ?_) (fun c2 => ?_)
  · rw [if_pos c2] at hF
    refine z_wk (ls' := [none, none]) (z_len1 (z_len1 z_le0)) ?_
    exact (ok_X5_tailBytes_23 hst (ok_X5_tailBytes_24 hst)) _ hF
  · rw [if_neg c2] at hF
    refine z_iload_n (pc' := 13) dX5_tailBytes_12 rfl rfl rfl ?_
    refine z_sipush (v := 512) (pc' := 16) dX5_tailBytes_13 (by decide) rfl ?_
    refine z_icmp_gt (tgt := 23) (pc' := 19) dX5_tailBytes_16 (by decide) rfl (fun c1 => ?_) (fun c1 => ?_)
    · rw [if_pos c1] at hF
      refine z_wk (ls' := [none, none]) (z_len1 (z_len1 z_le0)) ?_
      exact (ok_X5_tailBytes_23 hst (ok_X5_tailBytes_24 hst)) _ hF
    · rw [if_neg c1] at hF
      refine z_iload_n (pc' := 20) dX5_tailBytes_19 rfl rfl rfl ?_
      refine z_goto (pc' := 24) dX5_tailBytes_20 (by decide) ?_
      refine z_wk (ls' := [none, none]) (z_len1 (z_len1 z_le0)) ?_
      exact (ok_X5_tailBytes_24 hst) _ _ hF
theorem ok_X5_tailBytes : z_okS I_X5_tailBytes 1 := ⟨⟨z_Gin (List.mem_of_getElem? (i := 622) (by decide +kernel)) rfl, z_Gin (List.mem_of_getElem? (i := 89) (by decide +kernel)) rfl, z_Gin (List.mem_of_getElem? (i := 623) (by decide +kernel)) rfl⟩, by decide, by decide, by decide +kernel⟩
theorem k_X5_tailBytes {l : Launch} {I : z_I} {R : Room} {B : Nat} {p0 : Int32} {q : z_O × z_S} {pc pc' : Nat} {ls : List (Option Value)} {st : List Value} {S S1 : z_S} {idx F L : Nat} {r : Int32}  (hF : F_X5_tailBytes B p0 S = some (.inl (some r), S1)) (hst : l.stackTraces = false) (w : Cond.methodLink I.1.cls idx yX5_tailBytes ∈ z_G) (hRF : R.frames = F) (hRL : R.locals = L) (h1 : 1 ≤ F) (h2 : 21 ≤ L) (hs : (st.map fun v => v.category).sum ≤ 8) (d : decode I.2.1 pc = .ok (.invokestatic idx, 3)) (hp : pc + 3 = pc') (k : z_W l I R B q pc' ls (.int r :: st) S1) : z_W l I R B q pc ls (.int p0 :: st) S := z_callS (Y := I_X5_tailBytes) (As := [.int p0]) (st := st) (r := (some r)) (S1 := S1) (c_X5_tailBytes (q := (.inl (some r), S1)) hst hF) ok_X5_tailBytes w rfl ⟨by rw [hRF]; exact h1, by rw [hRL]; exact h2⟩ hs d hp rfl k
theorem kn_X5_tailBytes {l : Launch} {I : z_I} {R : Room} {B : Nat} {p0 : Int32} {q : z_O × z_S} {pc pc' : Nat} {ls : List (Option Value)} {st : List Value} {S S1 : z_S} {idx F L : Nat} {r : Int32}  (hF : F_X5_tailBytes B p0 S = some (.inl (some r), S1)) (hst : l.stackTraces = false) (w : (I.1.cls, idx, yX5_tailBytes, "PackedTree") ∈ z_nest) (hRF : R.frames = F) (hRL : R.locals = L) (h1 : 1 ≤ F) (h2 : 21 ≤ L) (hs : (st.map fun v => v.category).sum ≤ 8) (d : decode I.2.1 pc = .ok (.invokestatic idx, 3)) (hp : pc + 3 = pc') (k : z_W l I R B q pc' ls (.int r :: st) S1) : z_W l I R B q pc ls (.int p0 :: st) S := z_callN (Y := I_X5_tailBytes) (As := [.int p0]) (st := st) (r := (some r)) (S1 := S1) (host := "PackedTree") (c_X5_tailBytes (q := (.inl (some r), S1)) hst hF) ok_X5_tailBytes w rfl ⟨by rw [hRF]; exact h1, by rw [hRL]; exact h2⟩ hs d hp rfl k

abbrev I_X5_dataBlocks : z_I := (yX5_dataBlocks, cX5_dataBlocks, 2, some .int)
abbrev R_X5_dataBlocks (q : z_O × z_S) : Room := { frames := 1, locals := 21, cells := z_mc q.1, slots := 6 * z_mc q.1 }
def F_X5_dataBlocks_27 (B : Nat)  (s0 : Int32) (s1 : Int32) (S : z_S) : Option (z_O × z_S) :=
  some (.inl (some (s1 + s0)), S)
set_option maxRecDepth 20000 in
set_option maxHeartbeats 16000000 in
theorem ok_X5_dataBlocks_27 {l : Launch} {B : Nat} {q : z_O × z_S} (hst : l.stackTraces = false) : ∀ (s0 : Int32) (s1 : Int32) (S : z_S), F_X5_dataBlocks_27 B s0 s1 S = some q → z_W l I_X5_dataBlocks (R_X5_dataBlocks q) B q 27 [none, none] [.int s0, .int s1] S := by
  intro s0 s1 S hF
  unfold F_X5_dataBlocks_27 at hF
  refine z_iadd (pc' := 28) dX5_dataBlocks_27 rfl ?_
  exact z_ireturn rfl dX5_dataBlocks_28 (Option.some.inj hF).symm
def F_X5_dataBlocks_26 (B : Nat) (k27 : Int32 → Int32 → z_S → Option (z_O × z_S)) (s0 : Int32) (S : z_S) : Option (z_O × z_S) :=
  k27 0 s0 S
set_option maxRecDepth 20000 in
set_option maxHeartbeats 16000000 in
theorem ok_X5_dataBlocks_26 {l : Launch} {B : Nat} {q : z_O × z_S} (hst : l.stackTraces = false) {k27 : Int32 → Int32 → z_S → Option (z_O × z_S)} (hk27 : ∀ (s0 : Int32) (s1 : Int32) (S : z_S), k27 s0 s1 S = some q → z_W l I_X5_dataBlocks (R_X5_dataBlocks q) B q 27 [none, none] [.int s0, .int s1] S) : ∀ (s0 : Int32) (S : z_S), F_X5_dataBlocks_26 B k27 s0 S = some q → z_W l I_X5_dataBlocks (R_X5_dataBlocks q) B q 26 [none, none] [.int s0] S := by
  intro s0 S hF
  unfold F_X5_dataBlocks_26 at hF
  refine z_iconst (v := 0) (pc' := 27) dX5_dataBlocks_26 (by decide) rfl ?_
  refine z_wk (ls' := [none, none]) (z_len1 (z_len1 z_le0)) ?_
  exact hk27 _ _ _ hF
def F_X5_dataBlocks (B : Nat) (p0 : Int32) (S : z_S) : Option (z_O × z_S) :=
  if (p0 - p0 / 128 * 128) ≤ 0 then
    F_X5_dataBlocks_26 B (F_X5_dataBlocks_27 B ) (p0 / 128) S
  else
    z_bn (F_X5_tailBytes B p0 S) fun r1 S2 =>
    (if r1 = 0 then
      F_X5_dataBlocks_27 B 1 (p0 / 128) S2
    else
      F_X5_dataBlocks_26 B (F_X5_dataBlocks_27 B ) (p0 / 128) S2)
set_option maxRecDepth 20000 in
set_option maxHeartbeats 16000000 in
theorem c_X5_dataBlocks {l : Launch} {B : Nat} {p0 : Int32} {S : z_S} {q : z_O × z_S} (hst : l.stackTraces = false) (hF : F_X5_dataBlocks B p0 S = some q) : z_Met l I_X5_dataBlocks 1 21 B [.int p0] S q.1 q.2 := by
  refine z_enter (ls := [some (.int p0), none]) (n := 1) (by decide) rfl (Nat.le_of_ble_eq_true rfl) hst ?_
  unfold F_X5_dataBlocks at hF
  refine z_iload_n (pc' := 1) dX5_dataBlocks_0 rfl rfl rfl ?_
  refine z_sipush (v := 128) (pc' := 4) dX5_dataBlocks_1 (by decide) rfl ?_
  refine z_irem (pc' := 5) dX5_dataBlocks_4 (by decide) rfl ?_
  refine z_istore_n (pc' := 6) dX5_dataBlocks_5 rfl (by decide) rfl rfl ?_
  refine z_iload_n (pc' := 7) dX5_dataBlocks_6 rfl rfl rfl ?_
  refine z_sipush (v := 128) (pc' := 10) dX5_dataBlocks_7 (by decide) rfl ?_
  refine z_idiv (pc' := 11) dX5_dataBlocks_10 (by decide) rfl ?_
  refine z_iload_n (pc' := 12) dX5_dataBlocks_11 rfl rfl rfl ?_
  refine z_if_le (tgt := 26) (pc' := 15) dX5_dataBlocks_12 (by decide) rfl (fun c5 => ?_) (fun c5 => ?_)
  · rw [if_pos c5] at hF
    refine z_wk (ls' := [none, none]) (z_len1 (z_len1 z_le0)) ?_
    exact (ok_X5_dataBlocks_26 hst (ok_X5_dataBlocks_27 hst)) _ _ hF
  · rw [if_neg c5] at hF
    refine z_iload_n (pc' := 16) dX5_dataBlocks_15 rfl rfl rfl ?_
    obtain ⟨r1, S2, hc3, hF⟩ := z_bne hF
    refine k_X5_tailBytes (F := 1) (L := 21) (pc' := 19) hc3 hst zw_8 rfl rfl (by decide) (by decide) (Nat.le_of_ble_eq_true rfl) dX5_dataBlocks_16 rfl ?_
    refine z_if_ne (tgt := 26) (pc' := 22) dX5_dataBlocks_19 (by decide) rfl (fun c4 => ?_) (fun c4 => ?_)
    · rw [if_neg c4] at hF
      refine z_wk (ls' := [none, none]) (z_len1 (z_len1 z_le0)) ?_
      exact (ok_X5_dataBlocks_26 hst (ok_X5_dataBlocks_27 hst)) _ _ hF
    · rw [if_pos c4] at hF
      refine z_iconst (v := 1) (pc' := 23) dX5_dataBlocks_22 (by decide) rfl ?_
      refine z_goto (pc' := 27) dX5_dataBlocks_23 (by decide) ?_
      refine z_wk (ls' := [none, none]) (z_len1 (z_len1 z_le0)) ?_
      exact (ok_X5_dataBlocks_27 hst) _ _ _ hF
theorem ok_X5_dataBlocks : z_okS I_X5_dataBlocks 1 := ⟨⟨z_Gin (List.mem_of_getElem? (i := 619) (by decide +kernel)) rfl, z_Gin (List.mem_of_getElem? (i := 89) (by decide +kernel)) rfl, z_Gin (List.mem_of_getElem? (i := 620) (by decide +kernel)) rfl⟩, by decide, by decide, by decide +kernel⟩
theorem k_X5_dataBlocks {l : Launch} {I : z_I} {R : Room} {B : Nat} {p0 : Int32} {q : z_O × z_S} {pc pc' : Nat} {ls : List (Option Value)} {st : List Value} {S S1 : z_S} {idx F L : Nat} {r : Int32}  (hF : F_X5_dataBlocks B p0 S = some (.inl (some r), S1)) (hst : l.stackTraces = false) (w : Cond.methodLink I.1.cls idx yX5_dataBlocks ∈ z_G) (hRF : R.frames = F) (hRL : R.locals = L) (h1 : 2 ≤ F) (h2 : 42 ≤ L) (hs : (st.map fun v => v.category).sum ≤ 8) (d : decode I.2.1 pc = .ok (.invokestatic idx, 3)) (hp : pc + 3 = pc') (k : z_W l I R B q pc' ls (.int r :: st) S1) : z_W l I R B q pc ls (.int p0 :: st) S := z_callS (Y := I_X5_dataBlocks) (As := [.int p0]) (st := st) (r := (some r)) (S1 := S1) (c_X5_dataBlocks (q := (.inl (some r), S1)) hst hF) ok_X5_dataBlocks w rfl ⟨by rw [hRF]; exact h1, by rw [hRL]; exact h2⟩ hs d hp rfl k
theorem kn_X5_dataBlocks {l : Launch} {I : z_I} {R : Room} {B : Nat} {p0 : Int32} {q : z_O × z_S} {pc pc' : Nat} {ls : List (Option Value)} {st : List Value} {S S1 : z_S} {idx F L : Nat} {r : Int32}  (hF : F_X5_dataBlocks B p0 S = some (.inl (some r), S1)) (hst : l.stackTraces = false) (w : (I.1.cls, idx, yX5_dataBlocks, "PackedTree") ∈ z_nest) (hRF : R.frames = F) (hRL : R.locals = L) (h1 : 2 ≤ F) (h2 : 42 ≤ L) (hs : (st.map fun v => v.category).sum ≤ 8) (d : decode I.2.1 pc = .ok (.invokestatic idx, 3)) (hp : pc + 3 = pc') (k : z_W l I R B q pc' ls (.int r :: st) S1) : z_W l I R B q pc ls (.int p0 :: st) S := z_callN (Y := I_X5_dataBlocks) (As := [.int p0]) (st := st) (r := (some r)) (S1 := S1) (host := "PackedTree") (c_X5_dataBlocks (q := (.inl (some r), S1)) hst hF) ok_X5_dataBlocks w rfl ⟨by rw [hRF]; exact h1, by rw [hRL]; exact h2⟩ hs d hp rfl k

abbrev I_X2_dataOf : z_I := (yX2_dataOf, cX2_dataOf, 2, some .int)
abbrev R_X2_dataOf (q : z_O × z_S) : Room := { frames := 2, locals := 42, cells := z_mc q.1, slots := 6 * z_mc q.1 }
def F_X2_dataOf_23 (B : Nat) (t : Nat)  (s0 : Int32) (S : z_S) : Option (z_O × z_S) :=
  some (.inl (some s0), S)
set_option maxRecDepth 20000 in
set_option maxHeartbeats 16000000 in
theorem ok_X2_dataOf_23 {l : Launch} {B : Nat} {t : Nat} {q : z_O × z_S} (hst : l.stackTraces = false) (ht : z_is 2 t) : ∀ (s0 : Int32) (S : z_S), F_X2_dataOf_23 B t s0 S = some q → z_W l I_X2_dataOf (R_X2_dataOf q) B q 23 [none, none] [.int s0] S := by
  intro s0 S hF
  unfold F_X2_dataOf_23 at hF
  exact z_ireturn rfl dX2_dataOf_23 (Option.some.inj hF).symm
def F_X2_dataOf (B : Nat) (t : Nat) (p1 : Int32) (S : z_S) : Option (z_O × z_S) :=
  z_gd (z_inb p1 61) (
  z_lt (S.1 (t + 1) (z_ix (p1))) fun x2 =>
  (if x2 = 1 then
    z_gd (z_inb p1 61) (
    z_lt (S.1 (t + 3) (z_ix (p1))) fun x4 =>
    (z_bn (F_X5_dataBlocks B x4 S) fun r5 S6 =>
    (F_X2_dataOf_23 B t r5 S6)))
  else
    F_X2_dataOf_23 B t 0 S))
set_option maxRecDepth 20000 in
set_option maxHeartbeats 16000000 in
theorem c_X2_dataOf {l : Launch} {B : Nat} {t : Nat} {p1 : Int32} {S : z_S} {q : z_O × z_S} (hst : l.stackTraces = false) (ht : z_is 2 t) (hF : F_X2_dataOf B t p1 S = some q) : z_Met l I_X2_dataOf 2 42 B [.ref t, .int p1] S q.1 q.2 := by
  refine z_enter (ls := [some (.ref t), some (.int p1)]) (n := 0) (by decide) rfl (Nat.le_of_ble_eq_true rfl) hst ?_
  unfold F_X2_dataOf at hF
  refine z_aload_n (pc' := 1) dX2_dataOf_0 rfl rfl rfl ?_
  refine gf_X2_9 (b := t + 1) (pc' := 4) rfl ht rfl dX2_dataOf_1 rfl ?_
  refine z_iload_n (pc' := 5) dX2_dataOf_4 rfl rfl rfl ?_
  obtain ⟨g1, hF⟩ := z_gde hF
  refine z_iaload (pc' := 6) (ar_2_f0 ht) (z_inbe g1) dX2_dataOf_5 rfl ?_
  refine z_topi (fun x2 ex2 => ?_)
  replace hF := z_lte hF x2 ex2
  refine z_iconst (v := 1) (pc' := 7) dX2_dataOf_6 (by decide) rfl ?_
  refine z_icmp_ne (tgt := 22) (pc' := 10) dX2_dataOf_7 (by decide) rfl (fun c8 => ?_) (fun c8 => ?_)
  · rw [if_neg c8] at hF
    refine z_iconst (v := 0) (pc' := 23) dX2_dataOf_22 (by decide) rfl ?_
    refine z_wk (ls' := [none, none]) (z_len1 (z_len1 z_le0)) ?_
    exact (ok_X2_dataOf_23 hst ht) _ _ hF
  · rw [if_pos c8] at hF
    refine z_aload_n (pc' := 11) dX2_dataOf_10 rfl rfl rfl ?_
    refine gf_X2_18 (b := t + 3) (pc' := 14) rfl ht rfl dX2_dataOf_11 rfl ?_
    refine z_iload_n (pc' := 15) dX2_dataOf_14 rfl rfl rfl ?_
    obtain ⟨g3, hF⟩ := z_gde hF
    refine z_iaload (pc' := 16) (ar_2_f2 ht) (z_inbe g3) dX2_dataOf_15 rfl ?_
    refine z_topi (fun x4 ex4 => ?_)
    replace hF := z_lte hF x4 ex4
    obtain ⟨r5, S6, hc7, hF⟩ := z_bne hF
    refine kn_X5_dataBlocks (F := 2) (L := 42) (pc' := 19) hc7 hst (by decide +kernel) rfl rfl (by decide) (by decide) (by decide) dX2_dataOf_16 rfl ?_
    refine z_goto (pc' := 23) dX2_dataOf_19 (by decide) ?_
    refine z_wk (ls' := [none, none]) (z_len1 (z_len1 z_le0)) ?_
    exact (ok_X2_dataOf_23 hst ht) _ _ hF
theorem ok_X2_dataOf : z_okV I_X2_dataOf 1 := ⟨⟨z_Gin (List.mem_of_getElem? (i := 615) (by decide +kernel)) rfl, z_Gin (List.mem_of_getElem? (i := 616) (by decide +kernel)) rfl, z_Gin (List.mem_of_getElem? (i := 94) (by decide +kernel)) rfl, z_Gin (List.mem_of_getElem? (i := 617) (by decide +kernel)) rfl⟩, by decide, by decide, by decide +kernel⟩
theorem k_X2_dataOf {l : Launch} {I : z_I} {R : Room} {B : Nat} {t : Nat} {p1 : Int32} {q : z_O × z_S} {pc pc' : Nat} {ls : List (Option Value)} {st : List Value} {S S1 : z_S} {idx F L : Nat} {r : Int32} (ht : z_is 2 t) (hF : F_X2_dataOf B t p1 S = some (.inl (some r), S1)) (hst : l.stackTraces = false) (w : Cond.methodLink I.1.cls idx yX2_dataOf ∈ z_G) (hRF : R.frames = F) (hRL : R.locals = L) (h1 : 3 ≤ F) (h2 : 63 ≤ L) (hs : (st.map fun v => v.category).sum ≤ 8) (d : decode I.2.1 pc = .ok (.invokevirtual idx, 3)) (hp : pc + 3 = pc') (k : z_W l I R B q pc' ls (.int r :: st) S1) : z_W l I R B q pc ls (.int p1 :: .ref t :: st) S := z_callV (Y := I_X2_dataOf) (As := [.int p1]) (st := st) (r := (some r)) (S1 := S1) (c_X2_dataOf (q := (.inl (some r), S1)) hst ht hF) ok_X2_dataOf w (ci := 2) rfl ht.1 ht.2 rfl ⟨by rw [hRF]; exact h1, by rw [hRL]; exact h2⟩ hs d hp rfl k

abbrev I_X2_tailOf : z_I := (yX2_tailOf, cX2_tailOf, 2, some .int)
abbrev R_X2_tailOf (q : z_O × z_S) : Room := { frames := 1, locals := 21, cells := z_mc q.1, slots := 6 * z_mc q.1 }
def F_X2_tailOf_23 (B : Nat) (t : Nat)  (s0 : Int32) (S : z_S) : Option (z_O × z_S) :=
  some (.inl (some s0), S)
set_option maxRecDepth 20000 in
set_option maxHeartbeats 16000000 in
theorem ok_X2_tailOf_23 {l : Launch} {B : Nat} {t : Nat} {q : z_O × z_S} (hst : l.stackTraces = false) (ht : z_is 2 t) : ∀ (s0 : Int32) (S : z_S), F_X2_tailOf_23 B t s0 S = some q → z_W l I_X2_tailOf (R_X2_tailOf q) B q 23 [none, none] [.int s0] S := by
  intro s0 S hF
  unfold F_X2_tailOf_23 at hF
  exact z_ireturn rfl dX2_tailOf_23 (Option.some.inj hF).symm
def F_X2_tailOf (B : Nat) (t : Nat) (p1 : Int32) (S : z_S) : Option (z_O × z_S) :=
  z_gd (z_inb p1 61) (
  z_lt (S.1 (t + 1) (z_ix (p1))) fun x2 =>
  (if x2 = 1 then
    z_gd (z_inb p1 61) (
    z_lt (S.1 (t + 3) (z_ix (p1))) fun x4 =>
    (z_bn (F_X5_tailBytes B x4 S) fun r5 S6 =>
    (F_X2_tailOf_23 B t r5 S6)))
  else
    F_X2_tailOf_23 B t 0 S))
set_option maxRecDepth 20000 in
set_option maxHeartbeats 16000000 in
theorem c_X2_tailOf {l : Launch} {B : Nat} {t : Nat} {p1 : Int32} {S : z_S} {q : z_O × z_S} (hst : l.stackTraces = false) (ht : z_is 2 t) (hF : F_X2_tailOf B t p1 S = some q) : z_Met l I_X2_tailOf 1 21 B [.ref t, .int p1] S q.1 q.2 := by
  refine z_enter (ls := [some (.ref t), some (.int p1)]) (n := 0) (by decide) rfl (Nat.le_of_ble_eq_true rfl) hst ?_
  unfold F_X2_tailOf at hF
  refine z_aload_n (pc' := 1) dX2_tailOf_0 rfl rfl rfl ?_
  refine gf_X2_9 (b := t + 1) (pc' := 4) rfl ht rfl dX2_tailOf_1 rfl ?_
  refine z_iload_n (pc' := 5) dX2_tailOf_4 rfl rfl rfl ?_
  obtain ⟨g1, hF⟩ := z_gde hF
  refine z_iaload (pc' := 6) (ar_2_f0 ht) (z_inbe g1) dX2_tailOf_5 rfl ?_
  refine z_topi (fun x2 ex2 => ?_)
  replace hF := z_lte hF x2 ex2
  refine z_iconst (v := 1) (pc' := 7) dX2_tailOf_6 (by decide) rfl ?_
  refine z_icmp_ne (tgt := 22) (pc' := 10) dX2_tailOf_7 (by decide) rfl (fun c8 => ?_) (fun c8 => ?_)
  · rw [if_neg c8] at hF
    refine z_iconst (v := 0) (pc' := 23) dX2_tailOf_22 (by decide) rfl ?_
    refine z_wk (ls' := [none, none]) (z_len1 (z_len1 z_le0)) ?_
    exact (ok_X2_tailOf_23 hst ht) _ _ hF
  · rw [if_pos c8] at hF
    refine z_aload_n (pc' := 11) dX2_tailOf_10 rfl rfl rfl ?_
    refine gf_X2_18 (b := t + 3) (pc' := 14) rfl ht rfl dX2_tailOf_11 rfl ?_
    refine z_iload_n (pc' := 15) dX2_tailOf_14 rfl rfl rfl ?_
    obtain ⟨g3, hF⟩ := z_gde hF
    refine z_iaload (pc' := 16) (ar_2_f2 ht) (z_inbe g3) dX2_tailOf_15 rfl ?_
    refine z_topi (fun x4 ex4 => ?_)
    replace hF := z_lte hF x4 ex4
    obtain ⟨r5, S6, hc7, hF⟩ := z_bne hF
    refine kn_X5_tailBytes (F := 1) (L := 21) (pc' := 19) hc7 hst (by decide +kernel) rfl rfl (by decide) (by decide) (by decide) dX2_tailOf_16 rfl ?_
    refine z_goto (pc' := 23) dX2_tailOf_19 (by decide) ?_
    refine z_wk (ls' := [none, none]) (z_len1 (z_len1 z_le0)) ?_
    exact (ok_X2_tailOf_23 hst ht) _ _ hF
theorem ok_X2_tailOf : z_okV I_X2_tailOf 1 := ⟨⟨z_Gin (List.mem_of_getElem? (i := 630) (by decide +kernel)) rfl, z_Gin (List.mem_of_getElem? (i := 631) (by decide +kernel)) rfl, z_Gin (List.mem_of_getElem? (i := 94) (by decide +kernel)) rfl, z_Gin (List.mem_of_getElem? (i := 632) (by decide +kernel)) rfl⟩, by decide, by decide, by decide +kernel⟩
theorem k_X2_tailOf {l : Launch} {I : z_I} {R : Room} {B : Nat} {t : Nat} {p1 : Int32} {q : z_O × z_S} {pc pc' : Nat} {ls : List (Option Value)} {st : List Value} {S S1 : z_S} {idx F L : Nat} {r : Int32} (ht : z_is 2 t) (hF : F_X2_tailOf B t p1 S = some (.inl (some r), S1)) (hst : l.stackTraces = false) (w : Cond.methodLink I.1.cls idx yX2_tailOf ∈ z_G) (hRF : R.frames = F) (hRL : R.locals = L) (h1 : 2 ≤ F) (h2 : 42 ≤ L) (hs : (st.map fun v => v.category).sum ≤ 8) (d : decode I.2.1 pc = .ok (.invokevirtual idx, 3)) (hp : pc + 3 = pc') (k : z_W l I R B q pc' ls (.int r :: st) S1) : z_W l I R B q pc ls (.int p1 :: .ref t :: st) S := z_callV (Y := I_X2_tailOf) (As := [.int p1]) (st := st) (r := (some r)) (S1 := S1) (c_X2_tailOf (q := (.inl (some r), S1)) hst ht hF) ok_X2_tailOf w (ci := 2) rfl ht.1 ht.2 rfl ⟨by rw [hRF]; exact h1, by rw [hRL]; exact h2⟩ hs d hp rfl k

abbrev I_J7_fill_031fb : z_I := (yJ7_fill_031fb, cJ7_fill_031fb, 4, none)
abbrev R_J7_fill_031fb (q : z_O × z_S) : Room := { frames := 0, locals := 0, cells := z_mc q.1, slots := 6 * z_mc q.1 }
def F_J7_fill_031fb_5 (B : Nat) (a1 m1 : Nat)  : Nat → Int32 → Int32 → Int32 → z_S → Option (z_O × z_S)
  | 0, _, _, _, _ => none
  | n + 1, v1, v2, v3, S => if v3 ≤ v2 then
    some (.inl none, S)
  else
    z_gd (z_inb v2 m1) (
    z_lt (z_ua S a1 (upd (S.1 a1) (z_ix (v2)) (vp_nar .byte v1))) fun S2 =>
    (F_J7_fill_031fb_5 B a1 m1 n v1 (v2 + 1) v3 S2))
set_option maxRecDepth 20000 in
set_option maxHeartbeats 16000000 in
theorem ok_J7_fill_031fb_5 {l : Launch} {B : Nat} {a1 : Nat} {m1 : Nat} {q : z_O × z_S} (hst : l.stackTraces = false) (ha1 : z_arr B a1 1 m1) : ∀ (n : Nat) (v1 : Int32) (v2 : Int32) (v3 : Int32) (S : z_S), F_J7_fill_031fb_5 B a1 m1 n v1 v2 v3 S = some q → z_W l I_J7_fill_031fb (R_J7_fill_031fb q) B q 5 [some (.ref a1), some (.int v1), some (.int v2), some (.int v3)] [] S := by
  intro n
  induction n with
  | zero => intro v1 v2 v3 S hF; cases hF
  | succ n ih =>
    intro v1 v2 v3 S hF
    rw [F_J7_fill_031fb_5] at hF
    refine z_iload_n (pc' := 6) dJ7_fill_031fb_5 rfl rfl rfl ?_
    refine z_iload_n (pc' := 7) dJ7_fill_031fb_6 rfl rfl rfl ?_
    refine z_icmp_ge (tgt := 20) (pc' := 10) dJ7_fill_031fb_7 (by decide) rfl (fun c3 => ?_) (fun c3 => ?_)
    · rw [if_pos c3] at hF
      exact z_return rfl dJ7_fill_031fb_20 (Option.some.inj hF).symm
    · rw [if_neg c3] at hF
      refine z_aload_n (pc' := 11) dJ7_fill_031fb_10 rfl rfl rfl ?_
      refine z_iload_n (pc' := 12) dJ7_fill_031fb_11 rfl rfl rfl ?_
      refine z_iload_n (pc' := 13) dJ7_fill_031fb_12 rfl rfl rfl ?_
      obtain ⟨g1, hF⟩ := z_gde hF
      refine z_bastore (pc' := 14) ha1 (z_inbe g1) dJ7_fill_031fb_13 rfl (fun S2 eS2 => ?_)
      replace hF := z_lte hF S2 eS2
      refine z_iinc (v := v2 + 1) (pc' := 17) dJ7_fill_031fb_14 rfl rfl (by decide) rfl rfl ?_
      refine z_goto (pc' := 5) dJ7_fill_031fb_17 (by decide) ?_
      refine z_wk (ls' := [some (.ref a1), some (.int v1), some (.int (v2 + 1)), some (.int v3)]) (z_lec rfl (z_lec rfl (z_lec rfl (z_lec rfl z_le0)))) ?_
      exact ih _ _ _ _ hF
def F_J7_fill_031fb (B : Nat) (a1 m1 : Nat) (p1 : Int32) (S : z_S) : Option (z_O × z_S) :=
  F_J7_fill_031fb_5 B a1 m1 z_n p1 0 (Int32.ofNat m1) S
set_option maxRecDepth 20000 in
set_option maxHeartbeats 16000000 in
theorem c_J7_fill_031fb {l : Launch} {B : Nat} {a1 : Nat} {m1 : Nat} {p1 : Int32} {S : z_S} {q : z_O × z_S} (hst : l.stackTraces = false) (ha1 : z_arr B a1 1 m1) (hF : F_J7_fill_031fb B a1 m1 p1 S = some q) : z_Met l I_J7_fill_031fb 0 0 B [.ref a1, .int p1] S q.1 q.2 := by
  refine z_enter (ls := [some (.ref a1), some (.int p1), none, none]) (n := 2) (by decide) rfl (Nat.le_of_ble_eq_true rfl) hst ?_
  unfold F_J7_fill_031fb at hF
  refine z_iconst (v := 0) (pc' := 1) dJ7_fill_031fb_0 (by decide) rfl ?_
  refine z_istore_n (pc' := 2) dJ7_fill_031fb_1 rfl (by decide) rfl rfl ?_
  refine z_aload_n (pc' := 3) dJ7_fill_031fb_2 rfl rfl rfl ?_
  refine z_alen (v := Int32.ofNat m1) (pc' := 4) ha1 (by decide) rfl dJ7_fill_031fb_3 rfl ?_
  refine z_istore_n (pc' := 5) dJ7_fill_031fb_4 rfl (by decide) rfl rfl ?_
  refine z_wk (ls' := [some (.ref a1), some (.int p1), some (.int 0), some (.int (Int32.ofNat m1))]) (z_lec rfl (z_lec rfl (z_lec rfl (z_lec rfl z_le0)))) ?_
  exact (ok_J7_fill_031fb_5 hst ha1 z_n) _ _ _ _ hF
theorem ok_J7_fill_031fb : z_okS I_J7_fill_031fb 2 := ⟨⟨z_Gin (List.mem_of_getElem? (i := 669) (by decide +kernel)) rfl, z_Gin (List.mem_of_getElem? (i := 95) (by decide +kernel)) rfl, z_Gin (List.mem_of_getElem? (i := 670) (by decide +kernel)) rfl⟩, by decide, by decide, by decide +kernel⟩
theorem k_J7_fill_031fb {l : Launch} {I : z_I} {R : Room} {B : Nat} {a1 : Nat} {m1 : Nat} {p1 : Int32} {q : z_O × z_S} {pc pc' : Nat} {ls : List (Option Value)} {st : List Value} {S S1 : z_S} {idx F L : Nat} (ha1 : z_arr B a1 1 m1) (hF : F_J7_fill_031fb B a1 m1 p1 S = some (.inl none, S1)) (hst : l.stackTraces = false) (w : Cond.methodLink I.1.cls idx yJ7_fill_031fb ∈ z_G) (hRF : R.frames = F) (hRL : R.locals = L) (h1 : 1 ≤ F) (h2 : 23 ≤ L) (hs : (st.map fun v => v.category).sum ≤ 8) (d : decode I.2.1 pc = .ok (.invokestatic idx, 3)) (hp : pc + 3 = pc') (k : z_W l I R B q pc' ls st S1) : z_W l I R B q pc ls (.int p1 :: .ref a1 :: st) S := z_callS (Y := I_J7_fill_031fb) (As := [.ref a1, .int p1]) (st := st) (r := none) (S1 := S1) (c_J7_fill_031fb (q := (.inl none, S1)) hst ha1 hF) ok_J7_fill_031fb w rfl ⟨by rw [hRF]; exact h1, by rw [hRL]; exact h2⟩ hs d hp rfl k

abbrev I_X0_gather : z_I := (yX0_gather, cX0_gather, 6, none)
abbrev R_X0_gather (q : z_O × z_S) : Room := { frames := 3, locals := 68, cells := z_mc q.1, slots := 6 * z_mc q.1 }
def F_X0_gather_17 (B : Nat) (t : Nat) (a1 m1 : Nat)  : Nat → Int32 → Int32 → Int32 → z_S → Option (z_O × z_S)
  | 0, _, _, _, _ => none
  | n + 1, v1, v3, v4, S => if v3 ≤ v4 then
    z_bn (F_X2_tailOf B (t + 13) v1 S) fun r1 S2 =>
    (z_gd (z_cok (v1 * 40) (v3 * 128) r1 2440 m1) (
    z_lt (z_ua S2 a1 (va_cpy (S2.1 (t + 20)) (S2.1 a1) (z_ix (v1 * 40)) (z_ix (v3 * 128)) (z_ix (r1)))) fun S5 =>
    (some (.inl none, S5))))
  else
    z_gd (z_inb ((v1 * 16) + v4) 976) (
    z_lt (S.1 (t + 18) (z_ix ((v1 * 16) + v4))) fun x7 =>
    (z_gd (z_cok (x7 * 128) (v4 * 128) 128 (128 * B) m1) (
    z_lt (z_ua S a1 (va_cpy (S.1 (t + 19)) (S.1 a1) (z_ix (x7 * 128)) (z_ix (v4 * 128)) (z_ix (128)))) fun S9 =>
    (F_X0_gather_17 B t a1 m1 n v1 v3 (v4 + 1) S9))))
set_option maxRecDepth 20000 in
set_option maxHeartbeats 16000000 in
theorem ok_X0_gather_17 {l : Launch} {B : Nat} {t : Nat} {a1 : Nat} {m1 : Nat} {q : z_O × z_S} (hst : l.stackTraces = false) (ht : z_is 0 t) (ha1 : z_arr B a1 1 m1) : ∀ (n : Nat) (v1 : Int32) (v3 : Int32) (v4 : Int32) (S : z_S), F_X0_gather_17 B t a1 m1 n v1 v3 v4 S = some q → z_W l I_X0_gather (R_X0_gather q) B q 17 [some (.ref t), some (.int v1), some (.ref a1), some (.int v3), some (.int v4), none] [] S := by
  intro n
  induction n with
  | zero => intro v1 v3 v4 S hF; cases hF
  | succ n ih =>
    intro v1 v3 v4 S hF
    rw [F_X0_gather_17] at hF
    refine z_iload (pc' := 19) dX0_gather_17 rfl rfl ?_
    refine z_iload_n (pc' := 20) dX0_gather_19 rfl rfl rfl ?_
    refine z_icmp_ge (tgt := 69) (pc' := 23) dX0_gather_20 (by decide) rfl (fun c10 => ?_) (fun c10 => ?_)
    · rw [if_pos c10] at hF
      refine z_aload_n (pc' := 70) dX0_gather_69 rfl rfl rfl ?_
      refine gf_X0_31 (b := t + 20) (pc' := 73) rfl ht rfl dX0_gather_70 rfl ?_
      refine z_iload_n (pc' := 74) dX0_gather_73 rfl rfl rfl ?_
      refine z_bipush (v := 40) (pc' := 76) dX0_gather_74 (by decide) rfl ?_
      refine z_imul (pc' := 77) dX0_gather_76 rfl ?_
      refine z_aload_n (pc' := 78) dX0_gather_77 rfl rfl rfl ?_
      refine z_iload_n (pc' := 79) dX0_gather_78 rfl rfl rfl ?_
      refine z_sipush (v := 128) (pc' := 82) dX0_gather_79 (by decide) rfl ?_
      refine z_imul (pc' := 83) dX0_gather_82 rfl ?_
      refine z_aload_n (pc' := 84) dX0_gather_83 rfl rfl rfl ?_
      refine gf_X0_23 (b := t + 13) (pc' := 87) rfl ht rfl dX0_gather_84 rfl ?_
      refine z_iload_n (pc' := 88) dX0_gather_87 rfl rfl rfl ?_
      obtain ⟨r1, S2, hc3, hF⟩ := z_bne hF
      refine k_X2_tailOf (F := 3) (L := 68) (pc' := 91) (is_0_f1 ht) hc3 hst zw_11 rfl rfl (by decide) (by decide) (Nat.le_of_ble_eq_true rfl) dX0_gather_88 rfl ?_
      obtain ⟨g4, hF⟩ := z_gde hF
      refine z_copy (pc' := 94) (ar_0_f3 ht) ha1 (by decide) g4 zw_7 zw_1 zw_2 zw_3 ⟨by show (_ : Nat) ≤ 3; decide, by show (_ : Nat) ≤ 68; decide⟩ dX0_gather_91 rfl (fun S5 eS5 => ?_)
      replace hF := z_lte hF S5 eS5
      exact z_return rfl dX0_gather_94 (Option.some.inj hF).symm
    · rw [if_neg c10] at hF
      refine z_aload_n (pc' := 24) dX0_gather_23 rfl rfl rfl ?_
      refine gf_X0_23 (b := t + 13) (pc' := 27) rfl ht rfl dX0_gather_24 rfl ?_
      refine gf_X0_57 (b := t + 18) (pc' := 30) rfl (is_0_f1 ht) rfl dX0_gather_27 rfl ?_
      refine z_iload_n (pc' := 31) dX0_gather_30 rfl rfl rfl ?_
      refine z_bipush (v := 16) (pc' := 33) dX0_gather_31 (by decide) rfl ?_
      refine z_imul (pc' := 34) dX0_gather_33 rfl ?_
      refine z_iload (pc' := 36) dX0_gather_34 rfl rfl ?_
      refine z_iadd (pc' := 37) dX0_gather_36 rfl ?_
      obtain ⟨g6, hF⟩ := z_gde hF
      refine z_iaload (pc' := 38) (ar_2_f4 (is_0_f1 ht)) (z_inbe g6) dX0_gather_37 rfl ?_
      refine z_topi (fun x7 ex7 => ?_)
      replace hF := z_lte hF x7 ex7
      refine z_sipush (v := 128) (pc' := 41) dX0_gather_38 (by decide) rfl ?_
      refine z_imul (pc' := 42) dX0_gather_41 rfl ?_
      refine z_istore (pc' := 44) dX0_gather_42 (by decide) rfl rfl ?_
      refine z_aload_n (pc' := 45) dX0_gather_44 rfl rfl rfl ?_
      refine gf_X0_27 (b := t + 19) (pc' := 48) rfl ht rfl dX0_gather_45 rfl ?_
      refine z_iload (pc' := 50) dX0_gather_48 rfl rfl ?_
      refine z_aload_n (pc' := 51) dX0_gather_50 rfl rfl rfl ?_
      refine z_iload (pc' := 53) dX0_gather_51 rfl rfl ?_
      refine z_sipush (v := 128) (pc' := 56) dX0_gather_53 (by decide) rfl ?_
      refine z_imul (pc' := 57) dX0_gather_56 rfl ?_
      refine z_sipush (v := 128) (pc' := 60) dX0_gather_57 (by decide) rfl ?_
      obtain ⟨g8, hF⟩ := z_gde hF
      refine z_copy (pc' := 63) (ar_0_f2 ht) ha1 (by decide) g8 zw_7 zw_1 zw_2 zw_3 ⟨by show (_ : Nat) ≤ 3; decide, by show (_ : Nat) ≤ 68; decide⟩ dX0_gather_60 rfl (fun S9 eS9 => ?_)
      replace hF := z_lte hF S9 eS9
      refine z_iinc (v := v4 + 1) (pc' := 66) dX0_gather_63 rfl rfl (by decide) rfl rfl ?_
      refine z_goto (pc' := 17) dX0_gather_66 (by decide) ?_
      refine z_wk (ls' := [some (.ref t), some (.int v1), some (.ref a1), some (.int v3), some (.int (v4 + 1)), none]) (z_lec rfl (z_lec rfl (z_lec rfl (z_lec rfl (z_lec rfl (z_len1 z_le0)))))) ?_
      exact ih _ _ _ _ hF
def F_X0_gather (B : Nat) (t : Nat) (a1 m1 : Nat) (p1 : Int32) (S : z_S) : Option (z_O × z_S) :=
  z_bn (F_X2_dataOf B (t + 13) p1 S) fun r1 S2 =>
  (z_bo (F_J7_fill_031fb B a1 m1 0 S2) fun S5 =>
  (F_X0_gather_17 B t a1 m1 z_n p1 r1 0 S5))
set_option maxRecDepth 20000 in
set_option maxHeartbeats 16000000 in
theorem c_X0_gather {l : Launch} {B : Nat} {t : Nat} {a1 : Nat} {m1 : Nat} {p1 : Int32} {S : z_S} {q : z_O × z_S} (hst : l.stackTraces = false) (ht : z_is 0 t) (ha1 : z_arr B a1 1 m1) (hF : F_X0_gather B t a1 m1 p1 S = some q) : z_Met l I_X0_gather 3 68 B [.ref t, .int p1, .ref a1] S q.1 q.2 := by
  refine z_enter (ls := [some (.ref t), some (.int p1), some (.ref a1), none, none, none]) (n := 3) (by decide) rfl (Nat.le_of_ble_eq_true rfl) hst ?_
  unfold F_X0_gather at hF
  refine z_aload_n (pc' := 1) dX0_gather_0 rfl rfl rfl ?_
  refine gf_X0_23 (b := t + 13) (pc' := 4) rfl ht rfl dX0_gather_1 rfl ?_
  refine z_iload_n (pc' := 5) dX0_gather_4 rfl rfl rfl ?_
  obtain ⟨r1, S2, hc3, hF⟩ := z_bne hF
  refine k_X2_dataOf (F := 3) (L := 68) (pc' := 8) (is_0_f1 ht) hc3 hst zw_9 rfl rfl (by decide) (by decide) (by decide) dX0_gather_5 rfl ?_
  refine z_istore_n (pc' := 9) dX0_gather_8 rfl (by decide) rfl rfl ?_
  refine z_aload_n (pc' := 10) dX0_gather_9 rfl rfl rfl ?_
  refine z_iconst (v := 0) (pc' := 11) dX0_gather_10 (by decide) rfl ?_
  obtain ⟨S5, hc6, hF⟩ := z_boe hF
  refine k_J7_fill_031fb (F := 3) (L := 68) (pc' := 14) ha1 hc6 hst zw_10 rfl rfl (by decide) (by decide) (by decide) dX0_gather_11 rfl ?_
  refine z_iconst (v := 0) (pc' := 15) dX0_gather_14 (by decide) rfl ?_
  refine z_istore (pc' := 17) dX0_gather_15 (by decide) rfl rfl ?_
  refine z_wk (ls' := [some (.ref t), some (.int p1), some (.ref a1), some (.int r1), some (.int 0), none]) (z_lec rfl (z_lec rfl (z_lec rfl (z_lec rfl (z_lec rfl (z_len1 z_le0)))))) ?_
  exact (ok_X0_gather_17 hst ht ha1 z_n) _ _ _ _ hF
theorem ok_X0_gather : z_okV I_X0_gather 2 := ⟨⟨z_Gin (List.mem_of_getElem? (i := 664) (by decide +kernel)) rfl, z_Gin (List.mem_of_getElem? (i := 665) (by decide +kernel)) rfl, z_Gin (List.mem_of_getElem? (i := 91) (by decide +kernel)) rfl, z_Gin (List.mem_of_getElem? (i := 666) (by decide +kernel)) rfl⟩, by decide, by decide, by decide +kernel⟩
theorem k_X0_gather {l : Launch} {I : z_I} {R : Room} {B : Nat} {t : Nat} {a1 : Nat} {m1 : Nat} {p1 : Int32} {q : z_O × z_S} {pc pc' : Nat} {ls : List (Option Value)} {st : List Value} {S S1 : z_S} {idx F L : Nat} (ht : z_is 0 t) (ha1 : z_arr B a1 1 m1) (hF : F_X0_gather B t a1 m1 p1 S = some (.inl none, S1)) (hst : l.stackTraces = false) (w : Cond.methodLink I.1.cls idx yX0_gather ∈ z_G) (hRF : R.frames = F) (hRL : R.locals = L) (h1 : 4 ≤ F) (h2 : 93 ≤ L) (hs : (st.map fun v => v.category).sum ≤ 8) (d : decode I.2.1 pc = .ok (.invokevirtual idx, 3)) (hp : pc + 3 = pc') (k : z_W l I R B q pc' ls st S1) : z_W l I R B q pc ls (.ref a1 :: .int p1 :: .ref t :: st) S := z_callV (Y := I_X0_gather) (As := [.int p1, .ref a1]) (st := st) (r := none) (S1 := S1) (c_X0_gather (q := (.inl none, S1)) hst ht ha1 hF) ok_X0_gather w (ci := 0) rfl ht.1 ht.2 rfl ⟨by rw [hRF]; exact h1, by rw [hRL]; exact h2⟩ hs d hp rfl k

abbrev I_X0_lay : z_I := (yX0_lay, cX0_lay, 6, none)
abbrev R_X0_lay (q : z_O × z_S) : Room := { frames := 3, locals := 68, cells := z_mc q.1, slots := 6 * z_mc q.1 }
def F_X0_lay_12 (B : Nat) (t : Nat) (a1 m1 : Nat)  : Nat → Int32 → Int32 → Int32 → z_S → Option (z_O × z_S)
  | 0, _, _, _, _ => none
  | n + 1, v1, v3, v4, S => if v3 ≤ v4 then
    z_bn (F_X2_tailOf B (t + 13) v1 S) fun r1 S2 =>
    (z_gd (z_cok (v3 * 128) (v1 * 40) r1 m1 2440) (
    z_lt (z_ua S2 (t + 20) (va_cpy (S2.1 a1) (S2.1 (t + 20)) (z_ix (v3 * 128)) (z_ix (v1 * 40)) (z_ix (r1)))) fun S5 =>
    (some (.inl none, S5))))
  else
    z_gd (z_inb ((v1 * 16) + v4) 976) (
    z_lt (S.1 (t + 18) (z_ix ((v1 * 16) + v4))) fun x7 =>
    (z_gd (z_cok (v4 * 128) (x7 * 128) 128 m1 (128 * B)) (
    z_lt (z_ua S (t + 19) (va_cpy (S.1 a1) (S.1 (t + 19)) (z_ix (v4 * 128)) (z_ix (x7 * 128)) (z_ix (128)))) fun S9 =>
    (F_X0_lay_12 B t a1 m1 n v1 v3 (v4 + 1) S9))))
set_option maxRecDepth 20000 in
set_option maxHeartbeats 16000000 in
theorem ok_X0_lay_12 {l : Launch} {B : Nat} {t : Nat} {a1 : Nat} {m1 : Nat} {q : z_O × z_S} (hst : l.stackTraces = false) (ht : z_is 0 t) (ha1 : z_arr B a1 1 m1) : ∀ (n : Nat) (v1 : Int32) (v3 : Int32) (v4 : Int32) (S : z_S), F_X0_lay_12 B t a1 m1 n v1 v3 v4 S = some q → z_W l I_X0_lay (R_X0_lay q) B q 12 [some (.ref t), some (.int v1), some (.ref a1), some (.int v3), some (.int v4), none] [] S := by
  intro n
  induction n with
  | zero => intro v1 v3 v4 S hF; cases hF
  | succ n ih =>
    intro v1 v3 v4 S hF
    rw [F_X0_lay_12] at hF
    refine z_iload (pc' := 14) dX0_lay_12 rfl rfl ?_
    refine z_iload_n (pc' := 15) dX0_lay_14 rfl rfl rfl ?_
    refine z_icmp_ge (tgt := 64) (pc' := 18) dX0_lay_15 (by decide) rfl (fun c10 => ?_) (fun c10 => ?_)
    · rw [if_pos c10] at hF
      refine z_aload_n (pc' := 65) dX0_lay_64 rfl rfl rfl ?_
      refine z_iload_n (pc' := 66) dX0_lay_65 rfl rfl rfl ?_
      refine z_sipush (v := 128) (pc' := 69) dX0_lay_66 (by decide) rfl ?_
      refine z_imul (pc' := 70) dX0_lay_69 rfl ?_
      refine z_aload_n (pc' := 71) dX0_lay_70 rfl rfl rfl ?_
      refine gf_X0_31 (b := t + 20) (pc' := 74) rfl ht rfl dX0_lay_71 rfl ?_
      refine z_iload_n (pc' := 75) dX0_lay_74 rfl rfl rfl ?_
      refine z_bipush (v := 40) (pc' := 77) dX0_lay_75 (by decide) rfl ?_
      refine z_imul (pc' := 78) dX0_lay_77 rfl ?_
      refine z_aload_n (pc' := 79) dX0_lay_78 rfl rfl rfl ?_
      refine gf_X0_23 (b := t + 13) (pc' := 82) rfl ht rfl dX0_lay_79 rfl ?_
      refine z_iload_n (pc' := 83) dX0_lay_82 rfl rfl rfl ?_
      obtain ⟨r1, S2, hc3, hF⟩ := z_bne hF
      refine k_X2_tailOf (F := 3) (L := 68) (pc' := 86) (is_0_f1 ht) hc3 hst zw_11 rfl rfl (by decide) (by decide) (Nat.le_of_ble_eq_true rfl) dX0_lay_83 rfl ?_
      obtain ⟨g4, hF⟩ := z_gde hF
      refine z_copy (pc' := 89) ha1 (ar_0_f3 ht) (by decide) g4 zw_7 zw_1 zw_2 zw_3 ⟨by show (_ : Nat) ≤ 3; decide, by show (_ : Nat) ≤ 68; decide⟩ dX0_lay_86 rfl (fun S5 eS5 => ?_)
      replace hF := z_lte hF S5 eS5
      exact z_return rfl dX0_lay_89 (Option.some.inj hF).symm
    · rw [if_neg c10] at hF
      refine z_aload_n (pc' := 19) dX0_lay_18 rfl rfl rfl ?_
      refine gf_X0_23 (b := t + 13) (pc' := 22) rfl ht rfl dX0_lay_19 rfl ?_
      refine gf_X0_57 (b := t + 18) (pc' := 25) rfl (is_0_f1 ht) rfl dX0_lay_22 rfl ?_
      refine z_iload_n (pc' := 26) dX0_lay_25 rfl rfl rfl ?_
      refine z_bipush (v := 16) (pc' := 28) dX0_lay_26 (by decide) rfl ?_
      refine z_imul (pc' := 29) dX0_lay_28 rfl ?_
      refine z_iload (pc' := 31) dX0_lay_29 rfl rfl ?_
      refine z_iadd (pc' := 32) dX0_lay_31 rfl ?_
      obtain ⟨g6, hF⟩ := z_gde hF
      refine z_iaload (pc' := 33) (ar_2_f4 (is_0_f1 ht)) (z_inbe g6) dX0_lay_32 rfl ?_
      refine z_topi (fun x7 ex7 => ?_)
      replace hF := z_lte hF x7 ex7
      refine z_sipush (v := 128) (pc' := 36) dX0_lay_33 (by decide) rfl ?_
      refine z_imul (pc' := 37) dX0_lay_36 rfl ?_
      refine z_istore (pc' := 39) dX0_lay_37 (by decide) rfl rfl ?_
      refine z_aload_n (pc' := 40) dX0_lay_39 rfl rfl rfl ?_
      refine z_iload (pc' := 42) dX0_lay_40 rfl rfl ?_
      refine z_sipush (v := 128) (pc' := 45) dX0_lay_42 (by decide) rfl ?_
      refine z_imul (pc' := 46) dX0_lay_45 rfl ?_
      refine z_aload_n (pc' := 47) dX0_lay_46 rfl rfl rfl ?_
      refine gf_X0_27 (b := t + 19) (pc' := 50) rfl ht rfl dX0_lay_47 rfl ?_
      refine z_iload (pc' := 52) dX0_lay_50 rfl rfl ?_
      refine z_sipush (v := 128) (pc' := 55) dX0_lay_52 (by decide) rfl ?_
      obtain ⟨g8, hF⟩ := z_gde hF
      refine z_copy (pc' := 58) ha1 (ar_0_f2 ht) (by decide) g8 zw_7 zw_1 zw_2 zw_3 ⟨by show (_ : Nat) ≤ 3; decide, by show (_ : Nat) ≤ 68; decide⟩ dX0_lay_55 rfl (fun S9 eS9 => ?_)
      replace hF := z_lte hF S9 eS9
      refine z_iinc (v := v4 + 1) (pc' := 61) dX0_lay_58 rfl rfl (by decide) rfl rfl ?_
      refine z_goto (pc' := 12) dX0_lay_61 (by decide) ?_
      refine z_wk (ls' := [some (.ref t), some (.int v1), some (.ref a1), some (.int v3), some (.int (v4 + 1)), none]) (z_lec rfl (z_lec rfl (z_lec rfl (z_lec rfl (z_lec rfl (z_len1 z_le0)))))) ?_
      exact ih _ _ _ _ hF
def F_X0_lay (B : Nat) (t : Nat) (a1 m1 : Nat) (p1 : Int32) (S : z_S) : Option (z_O × z_S) :=
  z_bn (F_X2_dataOf B (t + 13) p1 S) fun r1 S2 =>
  (F_X0_lay_12 B t a1 m1 z_n p1 r1 0 S2)
set_option maxRecDepth 20000 in
set_option maxHeartbeats 16000000 in
theorem c_X0_lay {l : Launch} {B : Nat} {t : Nat} {a1 : Nat} {m1 : Nat} {p1 : Int32} {S : z_S} {q : z_O × z_S} (hst : l.stackTraces = false) (ht : z_is 0 t) (ha1 : z_arr B a1 1 m1) (hF : F_X0_lay B t a1 m1 p1 S = some q) : z_Met l I_X0_lay 3 68 B [.ref t, .int p1, .ref a1] S q.1 q.2 := by
  refine z_enter (ls := [some (.ref t), some (.int p1), some (.ref a1), none, none, none]) (n := 3) (by decide) rfl (Nat.le_of_ble_eq_true rfl) hst ?_
  unfold F_X0_lay at hF
  refine z_aload_n (pc' := 1) dX0_lay_0 rfl rfl rfl ?_
  refine gf_X0_23 (b := t + 13) (pc' := 4) rfl ht rfl dX0_lay_1 rfl ?_
  refine z_iload_n (pc' := 5) dX0_lay_4 rfl rfl rfl ?_
  obtain ⟨r1, S2, hc3, hF⟩ := z_bne hF
  refine k_X2_dataOf (F := 3) (L := 68) (pc' := 8) (is_0_f1 ht) hc3 hst zw_9 rfl rfl (by decide) (by decide) (by decide) dX0_lay_5 rfl ?_
  refine z_istore_n (pc' := 9) dX0_lay_8 rfl (by decide) rfl rfl ?_
  refine z_iconst (v := 0) (pc' := 10) dX0_lay_9 (by decide) rfl ?_
  refine z_istore (pc' := 12) dX0_lay_10 (by decide) rfl rfl ?_
  refine z_wk (ls' := [some (.ref t), some (.int p1), some (.ref a1), some (.int r1), some (.int 0), none]) (z_lec rfl (z_lec rfl (z_lec rfl (z_lec rfl (z_lec rfl (z_len1 z_le0)))))) ?_
  exact (ok_X0_lay_12 hst ht ha1 z_n) _ _ _ _ hF
theorem ok_X0_lay : z_okV I_X0_lay 2 := ⟨⟨z_Gin (List.mem_of_getElem? (i := 679) (by decide +kernel)) rfl, z_Gin (List.mem_of_getElem? (i := 680) (by decide +kernel)) rfl, z_Gin (List.mem_of_getElem? (i := 91) (by decide +kernel)) rfl, z_Gin (List.mem_of_getElem? (i := 681) (by decide +kernel)) rfl⟩, by decide, by decide, by decide +kernel⟩
theorem k_X0_lay {l : Launch} {I : z_I} {R : Room} {B : Nat} {t : Nat} {a1 : Nat} {m1 : Nat} {p1 : Int32} {q : z_O × z_S} {pc pc' : Nat} {ls : List (Option Value)} {st : List Value} {S S1 : z_S} {idx F L : Nat} (ht : z_is 0 t) (ha1 : z_arr B a1 1 m1) (hF : F_X0_lay B t a1 m1 p1 S = some (.inl none, S1)) (hst : l.stackTraces = false) (w : Cond.methodLink I.1.cls idx yX0_lay ∈ z_G) (hRF : R.frames = F) (hRL : R.locals = L) (h1 : 4 ≤ F) (h2 : 93 ≤ L) (hs : (st.map fun v => v.category).sum ≤ 8) (d : decode I.2.1 pc = .ok (.invokevirtual idx, 3)) (hp : pc + 3 = pc') (k : z_W l I R B q pc' ls st S1) : z_W l I R B q pc ls (.ref a1 :: .int p1 :: .ref t :: st) S := z_callV (Y := I_X0_lay) (As := [.int p1, .ref a1]) (st := st) (r := none) (S1 := S1) (c_X0_lay (q := (.inl none, S1)) hst ht ha1 hF) ok_X0_lay w (ci := 0) rfl ht.1 ht.2 rfl ⟨by rw [hRF]; exact h1, by rw [hRL]; exact h2⟩ hs d hp rfl k

abbrev I_X0_byteOf : z_I := (yX0_byteOf, cX0_byteOf, 5, some .int)
abbrev R_X0_byteOf (q : z_O × z_S) : Room := { frames := 3, locals := 63, cells := z_mc q.1, slots := 6 * z_mc q.1 }
def F_X0_byteOf (B : Nat) (t : Nat) (p1 : Int32) (p2 : Int32) (S : z_S) : Option (z_O × z_S) :=
  z_bn (F_X2_dataOf B (t + 13) p1 S) fun r1 S2 =>
  (if r1 ≤ (p2 / 128) then
    z_gd (z_inb ((p1 * 40) + (p2 - p2 / 128 * 128)) 2440) (
    z_lt (S2.1 (t + 20) (z_ix ((p1 * 40) + (p2 - p2 / 128 * 128)))) fun x5 =>
    (some (.inl (some (x5 &&& 255)), S2)))
  else
    z_gd (z_inb ((p1 * 16) + (p2 / 128)) 976) (
    z_lt (S2.1 (t + 18) (z_ix ((p1 * 16) + (p2 / 128)))) fun x7 =>
    (z_gd (z_inb ((x7 * 128) + (p2 - p2 / 128 * 128)) (128 * B)) (
    z_lt (S2.1 (t + 19) (z_ix ((x7 * 128) + (p2 - p2 / 128 * 128)))) fun x9 =>
    (some (.inl (some (x9 &&& 255)), S2))))))
set_option maxRecDepth 20000 in
set_option maxHeartbeats 16000000 in
theorem c_X0_byteOf {l : Launch} {B : Nat} {t : Nat} {p1 : Int32} {p2 : Int32} {S : z_S} {q : z_O × z_S} (hst : l.stackTraces = false) (ht : z_is 0 t) (hF : F_X0_byteOf B t p1 p2 S = some q) : z_Met l I_X0_byteOf 3 63 B [.ref t, .int p1, .int p2] S q.1 q.2 := by
  refine z_enter (ls := [some (.ref t), some (.int p1), some (.int p2), none, none]) (n := 2) (by decide) rfl (Nat.le_of_ble_eq_true rfl) hst ?_
  unfold F_X0_byteOf at hF
  refine z_iload_n (pc' := 1) dX0_byteOf_0 rfl rfl rfl ?_
  refine z_sipush (v := 128) (pc' := 4) dX0_byteOf_1 (by decide) rfl ?_
  refine z_idiv (pc' := 5) dX0_byteOf_4 (by decide) rfl ?_
  refine z_istore_n (pc' := 6) dX0_byteOf_5 rfl (by decide) rfl rfl ?_
  refine z_iload_n (pc' := 7) dX0_byteOf_6 rfl rfl rfl ?_
  refine z_sipush (v := 128) (pc' := 10) dX0_byteOf_7 (by decide) rfl ?_
  refine z_irem (pc' := 11) dX0_byteOf_10 (by decide) rfl ?_
  refine z_istore (pc' := 13) dX0_byteOf_11 (by decide) rfl rfl ?_
  refine z_iload_n (pc' := 14) dX0_byteOf_13 rfl rfl rfl ?_
  refine z_aload_n (pc' := 15) dX0_byteOf_14 rfl rfl rfl ?_
  refine gf_X0_23 (b := t + 13) (pc' := 18) rfl ht rfl dX0_byteOf_15 rfl ?_
  refine z_iload_n (pc' := 19) dX0_byteOf_18 rfl rfl rfl ?_
  obtain ⟨r1, S2, hc3, hF⟩ := z_bne hF
  refine k_X2_dataOf (F := 3) (L := 63) (pc' := 22) (is_0_f1 ht) hc3 hst zw_9 rfl rfl (by decide) (by decide) (Nat.le_of_ble_eq_true rfl) dX0_byteOf_19 rfl ?_
  refine z_icmp_ge (tgt := 56) (pc' := 25) dX0_byteOf_22 (by decide) rfl (fun c10 => ?_) (fun c10 => ?_)
  · rw [if_pos c10] at hF
    refine z_aload_n (pc' := 57) dX0_byteOf_56 rfl rfl rfl ?_
    refine gf_X0_31 (b := t + 20) (pc' := 60) rfl ht rfl dX0_byteOf_57 rfl ?_
    refine z_iload_n (pc' := 61) dX0_byteOf_60 rfl rfl rfl ?_
    refine z_bipush (v := 40) (pc' := 63) dX0_byteOf_61 (by decide) rfl ?_
    refine z_imul (pc' := 64) dX0_byteOf_63 rfl ?_
    refine z_iload (pc' := 66) dX0_byteOf_64 rfl rfl ?_
    refine z_iadd (pc' := 67) dX0_byteOf_66 rfl ?_
    obtain ⟨g4, hF⟩ := z_gde hF
    refine z_baload (pc' := 68) (ar_0_f3 ht) (z_inbe g4) dX0_byteOf_67 rfl ?_
    refine z_topi (fun x5 ex5 => ?_)
    replace hF := z_lte hF x5 ex5
    refine z_sipush (v := 255) (pc' := 71) dX0_byteOf_68 (by decide) rfl ?_
    refine z_iand (pc' := 72) dX0_byteOf_71 rfl ?_
    exact z_ireturn rfl dX0_byteOf_72 (Option.some.inj hF).symm
  · rw [if_neg c10] at hF
    refine z_aload_n (pc' := 26) dX0_byteOf_25 rfl rfl rfl ?_
    refine gf_X0_27 (b := t + 19) (pc' := 29) rfl ht rfl dX0_byteOf_26 rfl ?_
    refine z_aload_n (pc' := 30) dX0_byteOf_29 rfl rfl rfl ?_
    refine gf_X0_23 (b := t + 13) (pc' := 33) rfl ht rfl dX0_byteOf_30 rfl ?_
    refine gf_X0_57 (b := t + 18) (pc' := 36) rfl (is_0_f1 ht) rfl dX0_byteOf_33 rfl ?_
    refine z_iload_n (pc' := 37) dX0_byteOf_36 rfl rfl rfl ?_
    refine z_bipush (v := 16) (pc' := 39) dX0_byteOf_37 (by decide) rfl ?_
    refine z_imul (pc' := 40) dX0_byteOf_39 rfl ?_
    refine z_iload_n (pc' := 41) dX0_byteOf_40 rfl rfl rfl ?_
    refine z_iadd (pc' := 42) dX0_byteOf_41 rfl ?_
    obtain ⟨g6, hF⟩ := z_gde hF
    refine z_iaload (pc' := 43) (ar_2_f4 (is_0_f1 ht)) (z_inbe g6) dX0_byteOf_42 rfl ?_
    refine z_topi (fun x7 ex7 => ?_)
    replace hF := z_lte hF x7 ex7
    refine z_sipush (v := 128) (pc' := 46) dX0_byteOf_43 (by decide) rfl ?_
    refine z_imul (pc' := 47) dX0_byteOf_46 rfl ?_
    refine z_iload (pc' := 49) dX0_byteOf_47 rfl rfl ?_
    refine z_iadd (pc' := 50) dX0_byteOf_49 rfl ?_
    obtain ⟨g8, hF⟩ := z_gde hF
    refine z_baload (pc' := 51) (ar_0_f2 ht) (z_inbe g8) dX0_byteOf_50 rfl ?_
    refine z_topi (fun x9 ex9 => ?_)
    replace hF := z_lte hF x9 ex9
    refine z_sipush (v := 255) (pc' := 54) dX0_byteOf_51 (by decide) rfl ?_
    refine z_iand (pc' := 55) dX0_byteOf_54 rfl ?_
    exact z_ireturn rfl dX0_byteOf_55 (Option.some.inj hF).symm
theorem ok_X0_byteOf : z_okV I_X0_byteOf 2 := ⟨⟨z_Gin (List.mem_of_getElem? (i := 705) (by decide +kernel)) rfl, z_Gin (List.mem_of_getElem? (i := 706) (by decide +kernel)) rfl, z_Gin (List.mem_of_getElem? (i := 91) (by decide +kernel)) rfl, z_Gin (List.mem_of_getElem? (i := 707) (by decide +kernel)) rfl⟩, by decide, by decide, by decide +kernel⟩
theorem k_X0_byteOf {l : Launch} {I : z_I} {R : Room} {B : Nat} {t : Nat} {p1 : Int32} {p2 : Int32} {q : z_O × z_S} {pc pc' : Nat} {ls : List (Option Value)} {st : List Value} {S S1 : z_S} {idx F L : Nat} {r : Int32} (ht : z_is 0 t) (hF : F_X0_byteOf B t p1 p2 S = some (.inl (some r), S1)) (hst : l.stackTraces = false) (w : Cond.methodLink I.1.cls idx yX0_byteOf ∈ z_G) (hRF : R.frames = F) (hRL : R.locals = L) (h1 : 4 ≤ F) (h2 : 87 ≤ L) (hs : (st.map fun v => v.category).sum ≤ 8) (d : decode I.2.1 pc = .ok (.invokevirtual idx, 3)) (hp : pc + 3 = pc') (k : z_W l I R B q pc' ls (.int r :: st) S1) : z_W l I R B q pc ls (.int p2 :: .int p1 :: .ref t :: st) S := z_callV (Y := I_X0_byteOf) (As := [.int p1, .int p2]) (st := st) (r := (some r)) (S1 := S1) (c_X0_byteOf (q := (.inl (some r), S1)) hst ht hF) ok_X0_byteOf w (ci := 0) rfl ht.1 ht.2 rfl ⟨by rw [hRF]; exact h1, by rw [hRL]; exact h2⟩ hs d hp rfl k

abbrev I_X0_sameBytes : z_I := (yX0_sameBytes, cX0_sameBytes, 5, some .boolean)
abbrev R_X0_sameBytes (q : z_O × z_S) : Room := { frames := 0, locals := 0, cells := z_mc q.1, slots := 6 * z_mc q.1 }
def F_X0_sameBytes_3 (B : Nat) (a1 m1 : Nat) (a2 m2 : Nat)  : Nat → Int32 → Int32 → Int32 → z_S → Option (z_O × z_S)
  | 0, _, _, _, _ => none
  | n + 1, v2, v3, v4, S => if (v2 + v3) ≤ v4 then
    z_gd (z_b01 1) (some (.inl (some 1), S))
  else
    z_gd (z_inb v4 m1) (
    z_lt (S.1 a1 (z_ix (v4))) fun x3 =>
    (z_gd (z_inb v4 m2) (
    z_lt (S.1 a2 (z_ix (v4))) fun x5 =>
    (if x3 = x5 then
      F_X0_sameBytes_3 B a1 m1 a2 m2 n v2 v3 (v4 + 1) S
    else
      z_gd (z_b01 0) (some (.inl (some 0), S))))))
set_option maxRecDepth 20000 in
set_option maxHeartbeats 16000000 in
theorem ok_X0_sameBytes_3 {l : Launch} {B : Nat} {a1 : Nat} {m1 : Nat} {a2 : Nat} {m2 : Nat} {q : z_O × z_S} (hst : l.stackTraces = false) (ha1 : z_arr B a1 1 m1) (ha2 : z_arr B a2 1 m2) : ∀ (n : Nat) (v2 : Int32) (v3 : Int32) (v4 : Int32) (S : z_S), F_X0_sameBytes_3 B a1 m1 a2 m2 n v2 v3 v4 S = some q → z_W l I_X0_sameBytes (R_X0_sameBytes q) B q 3 [some (.ref a1), some (.ref a2), some (.int v2), some (.int v3), some (.int v4)] [] S := by
  intro n
  induction n with
  | zero => intro v2 v3 v4 S hF; cases hF
  | succ n ih =>
    intro v2 v3 v4 S hF
    rw [F_X0_sameBytes_3] at hF
    refine z_iload (pc' := 5) dX0_sameBytes_3 rfl rfl ?_
    refine z_iload_n (pc' := 6) dX0_sameBytes_5 rfl rfl rfl ?_
    refine z_iload_n (pc' := 7) dX0_sameBytes_6 rfl rfl rfl ?_
    refine z_iadd (pc' := 8) dX0_sameBytes_7 rfl ?_
    refine z_icmp_ge (tgt := 30) (pc' := 11) dX0_sameBytes_8 (by decide) rfl (fun c8 => ?_) (fun c8 => ?_)
    · rw [if_pos c8] at hF
      refine z_iconst (v := 1) (pc' := 31) dX0_sameBytes_30 (by decide) rfl ?_
      obtain ⟨g1, hF⟩ := z_gde hF
      exact z_zreturn rfl (z_b01e g1) dX0_sameBytes_31 (Option.some.inj hF).symm
    · rw [if_neg c8] at hF
      refine z_aload_n (pc' := 12) dX0_sameBytes_11 rfl rfl rfl ?_
      refine z_iload (pc' := 14) dX0_sameBytes_12 rfl rfl ?_
      obtain ⟨g2, hF⟩ := z_gde hF
      refine z_baload (pc' := 15) ha1 (z_inbe g2) dX0_sameBytes_14 rfl ?_
      refine z_topi (fun x3 ex3 => ?_)
      replace hF := z_lte hF x3 ex3
      refine z_aload_n (pc' := 16) dX0_sameBytes_15 rfl rfl rfl ?_
      refine z_iload (pc' := 18) dX0_sameBytes_16 rfl rfl ?_
      obtain ⟨g4, hF⟩ := z_gde hF
      refine z_baload (pc' := 19) ha2 (z_inbe g4) dX0_sameBytes_18 rfl ?_
      refine z_topi (fun x5 ex5 => ?_)
      replace hF := z_lte hF x5 ex5
      refine z_icmp_eq (tgt := 24) (pc' := 22) dX0_sameBytes_19 (by decide) rfl (fun c7 => ?_) (fun c7 => ?_)
      · rw [if_pos c7] at hF
        refine z_iinc (v := v4 + 1) (pc' := 27) dX0_sameBytes_24 rfl rfl (by decide) rfl rfl ?_
        refine z_goto (pc' := 3) dX0_sameBytes_27 (by decide) ?_
        refine z_wk (ls' := [some (.ref a1), some (.ref a2), some (.int v2), some (.int v3), some (.int (v4 + 1))]) (z_lec rfl (z_lec rfl (z_lec rfl (z_lec rfl (z_lec rfl z_le0))))) ?_
        exact ih _ _ _ _ hF
      · rw [if_neg c7] at hF
        refine z_iconst (v := 0) (pc' := 23) dX0_sameBytes_22 (by decide) rfl ?_
        obtain ⟨g6, hF⟩ := z_gde hF
        exact z_zreturn rfl (z_b01e g6) dX0_sameBytes_23 (Option.some.inj hF).symm
def F_X0_sameBytes (B : Nat) (a1 m1 : Nat) (a2 m2 : Nat) (p2 : Int32) (p3 : Int32) (S : z_S) : Option (z_O × z_S) :=
  F_X0_sameBytes_3 B a1 m1 a2 m2 z_n p2 p3 p2 S
set_option maxRecDepth 20000 in
set_option maxHeartbeats 16000000 in
theorem c_X0_sameBytes {l : Launch} {B : Nat} {a1 : Nat} {m1 : Nat} {a2 : Nat} {m2 : Nat} {p2 : Int32} {p3 : Int32} {S : z_S} {q : z_O × z_S} (hst : l.stackTraces = false) (ha1 : z_arr B a1 1 m1) (ha2 : z_arr B a2 1 m2) (hF : F_X0_sameBytes B a1 m1 a2 m2 p2 p3 S = some q) : z_Met l I_X0_sameBytes 0 0 B [.ref a1, .ref a2, .int p2, .int p3] S q.1 q.2 := by
  refine z_enter (ls := [some (.ref a1), some (.ref a2), some (.int p2), some (.int p3), none]) (n := 1) (by decide) rfl (Nat.le_of_ble_eq_true rfl) hst ?_
  unfold F_X0_sameBytes at hF
  refine z_iload_n (pc' := 1) dX0_sameBytes_0 rfl rfl rfl ?_
  refine z_istore (pc' := 3) dX0_sameBytes_1 (by decide) rfl rfl ?_
  refine z_wk (ls' := [some (.ref a1), some (.ref a2), some (.int p2), some (.int p3), some (.int p2)]) (z_lec rfl (z_lec rfl (z_lec rfl (z_lec rfl (z_lec rfl z_le0))))) ?_
  exact (ok_X0_sameBytes_3 hst ha1 ha2 z_n) _ _ _ _ hF
theorem ok_X0_sameBytes : z_okS I_X0_sameBytes 4 := ⟨⟨z_Gin (List.mem_of_getElem? (i := 816) (by decide +kernel)) rfl, z_Gin (List.mem_of_getElem? (i := 91) (by decide +kernel)) rfl, z_Gin (List.mem_of_getElem? (i := 817) (by decide +kernel)) rfl⟩, by decide, by decide, by decide +kernel⟩
theorem k_X0_sameBytes {l : Launch} {I : z_I} {R : Room} {B : Nat} {a1 : Nat} {m1 : Nat} {a2 : Nat} {m2 : Nat} {p2 : Int32} {p3 : Int32} {q : z_O × z_S} {pc pc' : Nat} {ls : List (Option Value)} {st : List Value} {S S1 : z_S} {idx F L : Nat} {r : Int32} (ha1 : z_arr B a1 1 m1) (ha2 : z_arr B a2 1 m2) (hF : F_X0_sameBytes B a1 m1 a2 m2 p2 p3 S = some (.inl (some r), S1)) (hst : l.stackTraces = false) (w : Cond.methodLink I.1.cls idx yX0_sameBytes ∈ z_G) (hRF : R.frames = F) (hRL : R.locals = L) (h1 : 1 ≤ F) (h2 : 24 ≤ L) (hs : (st.map fun v => v.category).sum ≤ 8) (d : decode I.2.1 pc = .ok (.invokestatic idx, 3)) (hp : pc + 3 = pc') (k : z_W l I R B q pc' ls (.int r :: st) S1) : z_W l I R B q pc ls (.int p3 :: .int p2 :: .ref a2 :: .ref a1 :: st) S := z_callS (Y := I_X0_sameBytes) (As := [.ref a1, .ref a2, .int p2, .int p3]) (st := st) (r := (some r)) (S1 := S1) (c_X0_sameBytes (q := (.inl (some r), S1)) hst ha1 ha2 hF) ok_X0_sameBytes w rfl ⟨by rw [hRF]; exact h1, by rw [hRL]; exact h2⟩ hs d hp rfl k

abbrev I_X5_kindOf : z_I := (yX5_kindOf, cX5_kindOf, 1, some .int)
abbrev R_X5_kindOf (q : z_O × z_S) : Room := { frames := 0, locals := 0, cells := z_mc q.1, slots := 6 * z_mc q.1 }
def F_X5_kindOf (B : Nat) (p0 : Int32) (S : z_S) : Option (z_O × z_S) :=
  some (.inl (some ((p0 / 1000) - (p0 / 1000) / 4 * 4)), S)
set_option maxRecDepth 20000 in
set_option maxHeartbeats 16000000 in
theorem c_X5_kindOf {l : Launch} {B : Nat} {p0 : Int32} {S : z_S} {q : z_O × z_S} (hst : l.stackTraces = false) (hF : F_X5_kindOf B p0 S = some q) : z_Met l I_X5_kindOf 0 0 B [.int p0] S q.1 q.2 := by
  refine z_enter (ls := [some (.int p0)]) (n := 0) (by decide) rfl (Nat.le_of_ble_eq_true rfl) hst ?_
  unfold F_X5_kindOf at hF
  refine z_iload_n (pc' := 1) dX5_kindOf_0 rfl rfl rfl ?_
  refine z_sipush (v := 1000) (pc' := 4) dX5_kindOf_1 (by decide) rfl ?_
  refine z_idiv (pc' := 5) dX5_kindOf_4 (by decide) rfl ?_
  refine z_iconst (v := 4) (pc' := 6) dX5_kindOf_5 (by decide) rfl ?_
  refine z_irem (pc' := 7) dX5_kindOf_6 (by decide) rfl ?_
  exact z_ireturn rfl dX5_kindOf_7 (Option.some.inj hF).symm
theorem ok_X5_kindOf : z_okS I_X5_kindOf 1 := ⟨⟨z_Gin (List.mem_of_getElem? (i := 771) (by decide +kernel)) rfl, z_Gin (List.mem_of_getElem? (i := 89) (by decide +kernel)) rfl, z_Gin (List.mem_of_getElem? (i := 772) (by decide +kernel)) rfl⟩, by decide, by decide, by decide +kernel⟩
theorem k_X5_kindOf {l : Launch} {I : z_I} {R : Room} {B : Nat} {p0 : Int32} {q : z_O × z_S} {pc pc' : Nat} {ls : List (Option Value)} {st : List Value} {S S1 : z_S} {idx F L : Nat} {r : Int32}  (hF : F_X5_kindOf B p0 S = some (.inl (some r), S1)) (hst : l.stackTraces = false) (w : Cond.methodLink I.1.cls idx yX5_kindOf ∈ z_G) (hRF : R.frames = F) (hRL : R.locals = L) (h1 : 1 ≤ F) (h2 : 20 ≤ L) (hs : (st.map fun v => v.category).sum ≤ 8) (d : decode I.2.1 pc = .ok (.invokestatic idx, 3)) (hp : pc + 3 = pc') (k : z_W l I R B q pc' ls (.int r :: st) S1) : z_W l I R B q pc ls (.int p0 :: st) S := z_callS (Y := I_X5_kindOf) (As := [.int p0]) (st := st) (r := (some r)) (S1 := S1) (c_X5_kindOf (q := (.inl (some r), S1)) hst hF) ok_X5_kindOf w rfl ⟨by rw [hRF]; exact h1, by rw [hRL]; exact h2⟩ hs d hp rfl k
theorem kn_X5_kindOf {l : Launch} {I : z_I} {R : Room} {B : Nat} {p0 : Int32} {q : z_O × z_S} {pc pc' : Nat} {ls : List (Option Value)} {st : List Value} {S S1 : z_S} {idx F L : Nat} {r : Int32}  (hF : F_X5_kindOf B p0 S = some (.inl (some r), S1)) (hst : l.stackTraces = false) (w : (I.1.cls, idx, yX5_kindOf, "PackedTree") ∈ z_nest) (hRF : R.frames = F) (hRL : R.locals = L) (h1 : 1 ≤ F) (h2 : 20 ≤ L) (hs : (st.map fun v => v.category).sum ≤ 8) (d : decode I.2.1 pc = .ok (.invokestatic idx, 3)) (hp : pc + 3 = pc') (k : z_W l I R B q pc' ls (.int r :: st) S1) : z_W l I R B q pc ls (.int p0 :: st) S := z_callN (Y := I_X5_kindOf) (As := [.int p0]) (st := st) (r := (some r)) (S1 := S1) (host := "PackedTree") (c_X5_kindOf (q := (.inl (some r), S1)) hst hF) ok_X5_kindOf w rfl ⟨by rw [hRF]; exact h1, by rw [hRL]; exact h2⟩ hs d hp rfl k

abbrev I_X5_objectOf : z_I := (yX5_objectOf, cX5_objectOf, 1, some .int)
abbrev R_X5_objectOf (q : z_O × z_S) : Room := { frames := 0, locals := 0, cells := z_mc q.1, slots := 6 * z_mc q.1 }
def F_X5_objectOf (B : Nat) (p0 : Int32) (S : z_S) : Option (z_O × z_S) :=
  some (.inl (some ((p0 / 1000) / 4)), S)
set_option maxRecDepth 20000 in
set_option maxHeartbeats 16000000 in
theorem c_X5_objectOf {l : Launch} {B : Nat} {p0 : Int32} {S : z_S} {q : z_O × z_S} (hst : l.stackTraces = false) (hF : F_X5_objectOf B p0 S = some q) : z_Met l I_X5_objectOf 0 0 B [.int p0] S q.1 q.2 := by
  refine z_enter (ls := [some (.int p0)]) (n := 0) (by decide) rfl (Nat.le_of_ble_eq_true rfl) hst ?_
  unfold F_X5_objectOf at hF
  refine z_iload_n (pc' := 1) dX5_objectOf_0 rfl rfl rfl ?_
  refine z_sipush (v := 1000) (pc' := 4) dX5_objectOf_1 (by decide) rfl ?_
  refine z_idiv (pc' := 5) dX5_objectOf_4 (by decide) rfl ?_
  refine z_iconst (v := 4) (pc' := 6) dX5_objectOf_5 (by decide) rfl ?_
  refine z_idiv (pc' := 7) dX5_objectOf_6 (by decide) rfl ?_
  exact z_ireturn rfl dX5_objectOf_7 (Option.some.inj hF).symm
theorem ok_X5_objectOf : z_okS I_X5_objectOf 1 := ⟨⟨z_Gin (List.mem_of_getElem? (i := 768) (by decide +kernel)) rfl, z_Gin (List.mem_of_getElem? (i := 89) (by decide +kernel)) rfl, z_Gin (List.mem_of_getElem? (i := 769) (by decide +kernel)) rfl⟩, by decide, by decide, by decide +kernel⟩
theorem k_X5_objectOf {l : Launch} {I : z_I} {R : Room} {B : Nat} {p0 : Int32} {q : z_O × z_S} {pc pc' : Nat} {ls : List (Option Value)} {st : List Value} {S S1 : z_S} {idx F L : Nat} {r : Int32}  (hF : F_X5_objectOf B p0 S = some (.inl (some r), S1)) (hst : l.stackTraces = false) (w : Cond.methodLink I.1.cls idx yX5_objectOf ∈ z_G) (hRF : R.frames = F) (hRL : R.locals = L) (h1 : 1 ≤ F) (h2 : 20 ≤ L) (hs : (st.map fun v => v.category).sum ≤ 8) (d : decode I.2.1 pc = .ok (.invokestatic idx, 3)) (hp : pc + 3 = pc') (k : z_W l I R B q pc' ls (.int r :: st) S1) : z_W l I R B q pc ls (.int p0 :: st) S := z_callS (Y := I_X5_objectOf) (As := [.int p0]) (st := st) (r := (some r)) (S1 := S1) (c_X5_objectOf (q := (.inl (some r), S1)) hst hF) ok_X5_objectOf w rfl ⟨by rw [hRF]; exact h1, by rw [hRL]; exact h2⟩ hs d hp rfl k
theorem kn_X5_objectOf {l : Launch} {I : z_I} {R : Room} {B : Nat} {p0 : Int32} {q : z_O × z_S} {pc pc' : Nat} {ls : List (Option Value)} {st : List Value} {S S1 : z_S} {idx F L : Nat} {r : Int32}  (hF : F_X5_objectOf B p0 S = some (.inl (some r), S1)) (hst : l.stackTraces = false) (w : (I.1.cls, idx, yX5_objectOf, "PackedTree") ∈ z_nest) (hRF : R.frames = F) (hRL : R.locals = L) (h1 : 1 ≤ F) (h2 : 20 ≤ L) (hs : (st.map fun v => v.category).sum ≤ 8) (d : decode I.2.1 pc = .ok (.invokestatic idx, 3)) (hp : pc + 3 = pc') (k : z_W l I R B q pc' ls (.int r :: st) S1) : z_W l I R B q pc ls (.int p0 :: st) S := z_callN (Y := I_X5_objectOf) (As := [.int p0]) (st := st) (r := (some r)) (S1 := S1) (host := "PackedTree") (c_X5_objectOf (q := (.inl (some r), S1)) hst hF) ok_X5_objectOf w rfl ⟨by rw [hRF]; exact h1, by rw [hRL]; exact h2⟩ hs d hp rfl k

abbrev I_X2_samePointers : z_I := (yX2_samePointers, cX2_samePointers, 5, some .boolean)
abbrev R_X2_samePointers (q : z_O × z_S) : Room := { frames := 0, locals := 0, cells := z_mc q.1, slots := 6 * z_mc q.1 }
def F_X2_samePointers_6 (B : Nat) (t : Nat) (u : Nat)  : Nat → Int32 → Int32 → Int32 → z_S → Option (z_O × z_S)
  | 0, _, _, _, _ => none
  | n + 1, v1, v2, v4, S => if ((v1 * 16) + v2) ≤ v4 then
    z_gd (z_b01 1) (some (.inl (some 1), S))
  else
    z_gd (z_inb v4 976) (
    z_lt (S.1 (t + 5) (z_ix (v4))) fun x3 =>
    (z_gd (z_inb v4 976) (
    z_lt (S.1 (u + 5) (z_ix (v4))) fun x5 =>
    (if x3 = x5 then
      F_X2_samePointers_6 B t u n v1 v2 (v4 + 1) S
    else
      z_gd (z_b01 0) (some (.inl (some 0), S))))))
set_option maxRecDepth 20000 in
set_option maxHeartbeats 16000000 in
theorem ok_X2_samePointers_6 {l : Launch} {B : Nat} {t : Nat} {u : Nat} {q : z_O × z_S} (hst : l.stackTraces = false) (ht : z_is 2 t) (hu : z_is 2 u) : ∀ (n : Nat) (v1 : Int32) (v2 : Int32) (v4 : Int32) (S : z_S), F_X2_samePointers_6 B t u n v1 v2 v4 S = some q → z_W l I_X2_samePointers (R_X2_samePointers q) B q 6 [some (.ref t), some (.int v1), some (.int v2), some (.ref u), some (.int v4)] [] S := by
  intro n
  induction n with
  | zero => intro v1 v2 v4 S hF; cases hF
  | succ n ih =>
    intro v1 v2 v4 S hF
    rw [F_X2_samePointers_6] at hF
    refine z_iload (pc' := 8) dX2_samePointers_6 rfl rfl ?_
    refine z_iload_n (pc' := 9) dX2_samePointers_8 rfl rfl rfl ?_
    refine z_bipush (v := 16) (pc' := 11) dX2_samePointers_9 (by decide) rfl ?_
    refine z_imul (pc' := 12) dX2_samePointers_11 rfl ?_
    refine z_iload_n (pc' := 13) dX2_samePointers_12 rfl rfl rfl ?_
    refine z_iadd (pc' := 14) dX2_samePointers_13 rfl ?_
    refine z_icmp_ge (tgt := 42) (pc' := 17) dX2_samePointers_14 (by decide) rfl (fun c8 => ?_) (fun c8 => ?_)
    · rw [if_pos c8] at hF
      refine z_iconst (v := 1) (pc' := 43) dX2_samePointers_42 (by decide) rfl ?_
      obtain ⟨g1, hF⟩ := z_gde hF
      exact z_zreturn rfl (z_b01e g1) dX2_samePointers_43 (Option.some.inj hF).symm
    · rw [if_neg c8] at hF
      refine z_aload_n (pc' := 18) dX2_samePointers_17 rfl rfl rfl ?_
      refine gf_X2_24 (b := t + 5) (pc' := 21) rfl ht rfl dX2_samePointers_18 rfl ?_
      refine z_iload (pc' := 23) dX2_samePointers_21 rfl rfl ?_
      obtain ⟨g2, hF⟩ := z_gde hF
      refine z_iaload (pc' := 24) (ar_2_f4 ht) (z_inbe g2) dX2_samePointers_23 rfl ?_
      refine z_topi (fun x3 ex3 => ?_)
      replace hF := z_lte hF x3 ex3
      refine z_aload_n (pc' := 25) dX2_samePointers_24 rfl rfl rfl ?_
      refine gf_X2_24 (b := u + 5) (pc' := 28) rfl hu rfl dX2_samePointers_25 rfl ?_
      refine z_iload (pc' := 30) dX2_samePointers_28 rfl rfl ?_
      obtain ⟨g4, hF⟩ := z_gde hF
      refine z_iaload (pc' := 31) (ar_2_f4 hu) (z_inbe g4) dX2_samePointers_30 rfl ?_
      refine z_topi (fun x5 ex5 => ?_)
      replace hF := z_lte hF x5 ex5
      refine z_icmp_eq (tgt := 36) (pc' := 34) dX2_samePointers_31 (by decide) rfl (fun c7 => ?_) (fun c7 => ?_)
      · rw [if_pos c7] at hF
        refine z_iinc (v := v4 + 1) (pc' := 39) dX2_samePointers_36 rfl rfl (by decide) rfl rfl ?_
        refine z_goto (pc' := 6) dX2_samePointers_39 (by decide) ?_
        refine z_wk (ls' := [some (.ref t), some (.int v1), some (.int v2), some (.ref u), some (.int (v4 + 1))]) (z_lec rfl (z_lec rfl (z_lec rfl (z_lec rfl (z_lec rfl z_le0))))) ?_
        exact ih _ _ _ _ hF
      · rw [if_neg c7] at hF
        refine z_iconst (v := 0) (pc' := 35) dX2_samePointers_34 (by decide) rfl ?_
        obtain ⟨g6, hF⟩ := z_gde hF
        exact z_zreturn rfl (z_b01e g6) dX2_samePointers_35 (Option.some.inj hF).symm
def F_X2_samePointers (B : Nat) (t : Nat) (u : Nat) (p1 : Int32) (p2 : Int32) (S : z_S) : Option (z_O × z_S) :=
  F_X2_samePointers_6 B t u z_n p1 p2 (p1 * 16) S
set_option maxRecDepth 20000 in
set_option maxHeartbeats 16000000 in
theorem c_X2_samePointers {l : Launch} {B : Nat} {t : Nat} {u : Nat} {p1 : Int32} {p2 : Int32} {S : z_S} {q : z_O × z_S} (hst : l.stackTraces = false) (ht : z_is 2 t) (hu : z_is 2 u) (hF : F_X2_samePointers B t u p1 p2 S = some q) : z_Met l I_X2_samePointers 0 0 B [.ref t, .int p1, .int p2, .ref u] S q.1 q.2 := by
  refine z_enter (ls := [some (.ref t), some (.int p1), some (.int p2), some (.ref u), none]) (n := 1) (by decide) rfl (Nat.le_of_ble_eq_true rfl) hst ?_
  unfold F_X2_samePointers at hF
  refine z_iload_n (pc' := 1) dX2_samePointers_0 rfl rfl rfl ?_
  refine z_bipush (v := 16) (pc' := 3) dX2_samePointers_1 (by decide) rfl ?_
  refine z_imul (pc' := 4) dX2_samePointers_3 rfl ?_
  refine z_istore (pc' := 6) dX2_samePointers_4 (by decide) rfl rfl ?_
  refine z_wk (ls' := [some (.ref t), some (.int p1), some (.int p2), some (.ref u), some (.int (p1 * 16))]) (z_lec rfl (z_lec rfl (z_lec rfl (z_lec rfl (z_lec rfl z_le0))))) ?_
  exact (ok_X2_samePointers_6 hst ht hu z_n) _ _ _ _ hF
theorem ok_X2_samePointers : z_okV I_X2_samePointers 3 := ⟨⟨z_Gin (List.mem_of_getElem? (i := 812) (by decide +kernel)) rfl, z_Gin (List.mem_of_getElem? (i := 813) (by decide +kernel)) rfl, z_Gin (List.mem_of_getElem? (i := 94) (by decide +kernel)) rfl, z_Gin (List.mem_of_getElem? (i := 814) (by decide +kernel)) rfl⟩, by decide, by decide, by decide +kernel⟩
theorem k_X2_samePointers {l : Launch} {I : z_I} {R : Room} {B : Nat} {t : Nat} {u : Nat} {p1 : Int32} {p2 : Int32} {q : z_O × z_S} {pc pc' : Nat} {ls : List (Option Value)} {st : List Value} {S S1 : z_S} {idx F L : Nat} {r : Int32} (ht : z_is 2 t) (hu : z_is 2 u) (hF : F_X2_samePointers B t u p1 p2 S = some (.inl (some r), S1)) (hst : l.stackTraces = false) (w : Cond.methodLink I.1.cls idx yX2_samePointers ∈ z_G) (hRF : R.frames = F) (hRL : R.locals = L) (h1 : 1 ≤ F) (h2 : 24 ≤ L) (hs : (st.map fun v => v.category).sum ≤ 8) (d : decode I.2.1 pc = .ok (.invokevirtual idx, 3)) (hp : pc + 3 = pc') (k : z_W l I R B q pc' ls (.int r :: st) S1) : z_W l I R B q pc ls (.ref u :: .int p2 :: .int p1 :: .ref t :: st) S := z_callV (Y := I_X2_samePointers) (As := [.int p1, .int p2, .ref u]) (st := st) (r := (some r)) (S1 := S1) (c_X2_samePointers (q := (.inl (some r), S1)) hst ht hu hF) ok_X2_samePointers w (ci := 2) rfl ht.1 ht.2 rfl ⟨by rw [hRF]; exact h1, by rw [hRL]; exact h2⟩ hs d hp rfl k

abbrev I_X2_sameStat : z_I := (yX2_sameStat, cX2_sameStat, 3, some .boolean)
abbrev R_X2_sameStat (q : z_O × z_S) : Room := { frames := 0, locals := 0, cells := z_mc q.1, slots := 6 * z_mc q.1 }
def F_X2_sameStat_50 (B : Nat) (t : Nat) (u : Nat)  (s0 : Int32) (S : z_S) : Option (z_O × z_S) :=
  z_gd (z_b01 s0) (some (.inl (some s0), S))
set_option maxRecDepth 20000 in
set_option maxHeartbeats 16000000 in
theorem ok_X2_sameStat_50 {l : Launch} {B : Nat} {t : Nat} {u : Nat} {q : z_O × z_S} (hst : l.stackTraces = false) (ht : z_is 2 t) (hu : z_is 2 u) : ∀ (s0 : Int32) (S : z_S), F_X2_sameStat_50 B t u s0 S = some q → z_W l I_X2_sameStat (R_X2_sameStat q) B q 50 [none, none, none] [.int s0] S := by
  intro s0 S hF
  unfold F_X2_sameStat_50 at hF
  obtain ⟨g1, hF⟩ := z_gde hF
  exact z_zreturn rfl (z_b01e g1) dX2_sameStat_50 (Option.some.inj hF).symm
def F_X2_sameStat_49 (B : Nat) (t : Nat) (u : Nat) (k50 : Int32 → z_S → Option (z_O × z_S))  (S : z_S) : Option (z_O × z_S) :=
  k50 0 S
set_option maxRecDepth 20000 in
set_option maxHeartbeats 16000000 in
theorem ok_X2_sameStat_49 {l : Launch} {B : Nat} {t : Nat} {u : Nat} {q : z_O × z_S} (hst : l.stackTraces = false) (ht : z_is 2 t) (hu : z_is 2 u) {k50 : Int32 → z_S → Option (z_O × z_S)} (hk50 : ∀ (s0 : Int32) (S : z_S), k50 s0 S = some q → z_W l I_X2_sameStat (R_X2_sameStat q) B q 50 [none, none, none] [.int s0] S) : ∀ (S : z_S), F_X2_sameStat_49 B t u k50 S = some q → z_W l I_X2_sameStat (R_X2_sameStat q) B q 49 [none, none, none] [] S := by
  intro S hF
  unfold F_X2_sameStat_49 at hF
  refine z_iconst (v := 0) (pc' := 50) dX2_sameStat_49 (by decide) rfl ?_
  refine z_wk (ls' := [none, none, none]) (z_len1 (z_len1 (z_len1 z_le0))) ?_
  exact hk50 _ _ hF
def F_X2_sameStat (B : Nat) (t : Nat) (u : Nat) (p1 : Int32) (S : z_S) : Option (z_O × z_S) :=
  z_gd (z_inb p1 61) (
  z_lt (S.1 (t + 1) (z_ix (p1))) fun x2 =>
  (z_gd (z_inb p1 61) (
  z_lt (S.1 (u + 1) (z_ix (p1))) fun x4 =>
  (if x2 = x4 then
    z_gd (z_inb p1 61) (
    z_lt (S.1 (t + 2) (z_ix (p1))) fun x6 =>
    (z_gd (z_inb p1 61) (
    z_lt (S.1 (u + 2) (z_ix (p1))) fun x8 =>
    (if x6 = x8 then
      z_gd (z_inb p1 61) (
      z_lt (S.1 (t + 3) (z_ix (p1))) fun x10 =>
      (z_gd (z_inb p1 61) (
      z_lt (S.1 (u + 3) (z_ix (p1))) fun x12 =>
      (if x10 = x12 then
        F_X2_sameStat_50 B t u 1 S
      else
        F_X2_sameStat_49 B t u (F_X2_sameStat_50 B t u ) S))))
    else
      F_X2_sameStat_49 B t u (F_X2_sameStat_50 B t u ) S))))
  else
    F_X2_sameStat_49 B t u (F_X2_sameStat_50 B t u ) S))))
set_option maxRecDepth 20000 in
set_option maxHeartbeats 16000000 in
theorem c_X2_sameStat {l : Launch} {B : Nat} {t : Nat} {u : Nat} {p1 : Int32} {S : z_S} {q : z_O × z_S} (hst : l.stackTraces = false) (ht : z_is 2 t) (hu : z_is 2 u) (hF : F_X2_sameStat B t u p1 S = some q) : z_Met l I_X2_sameStat 0 0 B [.ref t, .int p1, .ref u] S q.1 q.2 := by
  refine z_enter (ls := [some (.ref t), some (.int p1), some (.ref u)]) (n := 0) (by decide) rfl (Nat.le_of_ble_eq_true rfl) hst ?_
  unfold F_X2_sameStat at hF
  refine z_aload_n (pc' := 1) dX2_sameStat_0 rfl rfl rfl ?_
  refine gf_X2_9 (b := t + 1) (pc' := 4) rfl ht rfl dX2_sameStat_1 rfl ?_
  refine z_iload_n (pc' := 5) dX2_sameStat_4 rfl rfl rfl ?_
  obtain ⟨g1, hF⟩ := z_gde hF
  refine z_iaload (pc' := 6) (ar_2_f0 ht) (z_inbe g1) dX2_sameStat_5 rfl ?_
  refine z_topi (fun x2 ex2 => ?_)
  replace hF := z_lte hF x2 ex2
  refine z_aload_n (pc' := 7) dX2_sameStat_6 rfl rfl rfl ?_
  refine gf_X2_9 (b := u + 1) (pc' := 10) rfl hu rfl dX2_sameStat_7 rfl ?_
  refine z_iload_n (pc' := 11) dX2_sameStat_10 rfl rfl rfl ?_
  obtain ⟨g3, hF⟩ := z_gde hF
  refine z_iaload (pc' := 12) (ar_2_f0 hu) (z_inbe g3) dX2_sameStat_11 rfl ?_
  refine z_topi (fun x4 ex4 => ?_)
  replace hF := z_lte hF x4 ex4
  refine z_icmp_ne (tgt := 49) (pc' := 15) dX2_sameStat_12 (by decide) rfl (fun c15 => ?_) (fun c15 => ?_)
  · rw [if_neg c15] at hF
    refine z_wk (ls' := [none, none, none]) (z_len1 (z_len1 (z_len1 z_le0))) ?_
    exact (ok_X2_sameStat_49 hst ht hu (ok_X2_sameStat_50 hst ht hu)) _ hF
  · rw [if_pos c15] at hF
    refine z_aload_n (pc' := 16) dX2_sameStat_15 rfl rfl rfl ?_
    refine gf_X2_15 (b := t + 2) (pc' := 19) rfl ht rfl dX2_sameStat_16 rfl ?_
    refine z_iload_n (pc' := 20) dX2_sameStat_19 rfl rfl rfl ?_
    obtain ⟨g5, hF⟩ := z_gde hF
    refine z_iaload (pc' := 21) (ar_2_f1 ht) (z_inbe g5) dX2_sameStat_20 rfl ?_
    refine z_topi (fun x6 ex6 => ?_)
    replace hF := z_lte hF x6 ex6
    refine z_aload_n (pc' := 22) dX2_sameStat_21 rfl rfl rfl ?_
    refine gf_X2_15 (b := u + 2) (pc' := 25) rfl hu rfl dX2_sameStat_22 rfl ?_
    refine z_iload_n (pc' := 26) dX2_sameStat_25 rfl rfl rfl ?_
    obtain ⟨g7, hF⟩ := z_gde hF
    refine z_iaload (pc' := 27) (ar_2_f1 hu) (z_inbe g7) dX2_sameStat_26 rfl ?_
    refine z_topi (fun x8 ex8 => ?_)
    replace hF := z_lte hF x8 ex8
    refine z_icmp_ne (tgt := 49) (pc' := 30) dX2_sameStat_27 (by decide) rfl (fun c14 => ?_) (fun c14 => ?_)
    · rw [if_neg c14] at hF
      refine z_wk (ls' := [none, none, none]) (z_len1 (z_len1 (z_len1 z_le0))) ?_
      exact (ok_X2_sameStat_49 hst ht hu (ok_X2_sameStat_50 hst ht hu)) _ hF
    · rw [if_pos c14] at hF
      refine z_aload_n (pc' := 31) dX2_sameStat_30 rfl rfl rfl ?_
      refine gf_X2_18 (b := t + 3) (pc' := 34) rfl ht rfl dX2_sameStat_31 rfl ?_
      refine z_iload_n (pc' := 35) dX2_sameStat_34 rfl rfl rfl ?_
      obtain ⟨g9, hF⟩ := z_gde hF
      refine z_iaload (pc' := 36) (ar_2_f2 ht) (z_inbe g9) dX2_sameStat_35 rfl ?_
      refine z_topi (fun x10 ex10 => ?_)
      replace hF := z_lte hF x10 ex10
      refine z_aload_n (pc' := 37) dX2_sameStat_36 rfl rfl rfl ?_
      refine gf_X2_18 (b := u + 3) (pc' := 40) rfl hu rfl dX2_sameStat_37 rfl ?_
      refine z_iload_n (pc' := 41) dX2_sameStat_40 rfl rfl rfl ?_
      obtain ⟨g11, hF⟩ := z_gde hF
      refine z_iaload (pc' := 42) (ar_2_f2 hu) (z_inbe g11) dX2_sameStat_41 rfl ?_
      refine z_topi (fun x12 ex12 => ?_)
      replace hF := z_lte hF x12 ex12
      refine z_icmp_ne (tgt := 49) (pc' := 45) dX2_sameStat_42 (by decide) rfl (fun c13 => ?_) (fun c13 => ?_)
      · rw [if_neg c13] at hF
        refine z_wk (ls' := [none, none, none]) (z_len1 (z_len1 (z_len1 z_le0))) ?_
        exact (ok_X2_sameStat_49 hst ht hu (ok_X2_sameStat_50 hst ht hu)) _ hF
      · rw [if_pos c13] at hF
        refine z_iconst (v := 1) (pc' := 46) dX2_sameStat_45 (by decide) rfl ?_
        refine z_goto (pc' := 50) dX2_sameStat_46 (by decide) ?_
        refine z_wk (ls' := [none, none, none]) (z_len1 (z_len1 (z_len1 z_le0))) ?_
        exact (ok_X2_sameStat_50 hst ht hu) _ _ hF
theorem ok_X2_sameStat : z_okV I_X2_sameStat 2 := ⟨⟨z_Gin (List.mem_of_getElem? (i := 808) (by decide +kernel)) rfl, z_Gin (List.mem_of_getElem? (i := 809) (by decide +kernel)) rfl, z_Gin (List.mem_of_getElem? (i := 94) (by decide +kernel)) rfl, z_Gin (List.mem_of_getElem? (i := 810) (by decide +kernel)) rfl⟩, by decide, by decide, by decide +kernel⟩
theorem k_X2_sameStat {l : Launch} {I : z_I} {R : Room} {B : Nat} {t : Nat} {u : Nat} {p1 : Int32} {q : z_O × z_S} {pc pc' : Nat} {ls : List (Option Value)} {st : List Value} {S S1 : z_S} {idx F L : Nat} {r : Int32} (ht : z_is 2 t) (hu : z_is 2 u) (hF : F_X2_sameStat B t u p1 S = some (.inl (some r), S1)) (hst : l.stackTraces = false) (w : Cond.methodLink I.1.cls idx yX2_sameStat ∈ z_G) (hRF : R.frames = F) (hRL : R.locals = L) (h1 : 1 ≤ F) (h2 : 22 ≤ L) (hs : (st.map fun v => v.category).sum ≤ 8) (d : decode I.2.1 pc = .ok (.invokevirtual idx, 3)) (hp : pc + 3 = pc') (k : z_W l I R B q pc' ls (.int r :: st) S1) : z_W l I R B q pc ls (.ref u :: .int p1 :: .ref t :: st) S := z_callV (Y := I_X2_sameStat) (As := [.int p1, .ref u]) (st := st) (r := (some r)) (S1 := S1) (c_X2_sameStat (q := (.inl (some r), S1)) hst ht hu hF) ok_X2_sameStat w (ci := 2) rfl ht.1 ht.2 rfl ⟨by rw [hRF]; exact h1, by rw [hRL]; exact h2⟩ hs d hp rfl k

abbrev I_X0_sameBody : z_I := (yX0_sameBody, cX0_sameBody, 4, some .boolean)
abbrev R_X0_sameBody (q : z_O × z_S) : Room := { frames := 1, locals := 24, cells := z_mc q.1, slots := 6 * z_mc q.1 }
def F_X0_sameBody (B : Nat) (t : Nat) (u : Nat) (p1 : Int32) (S : z_S) : Option (z_O × z_S) :=
  z_gd (z_inb p1 (14 * B)) (
  z_lt (S.1 (t + 10) (z_ix (p1))) fun x2 =>
  (z_bn (F_X5_objectOf B x2 S) fun r3 S4 =>
  (z_gd (z_inb p1 (14 * B)) (
  z_lt (S4.1 (t + 10) (z_ix (p1))) fun x7 =>
  (z_bn (F_X5_kindOf B x7 S4) fun r8 S9 =>
  (if r8 = 0 then
    z_bn (F_X2_sameStat B (t + 13) (u + 13) r3 S9) fun r11 S12 =>
    (z_gd (z_b01 r11) (some (.inl (some r11), S12)))
  else if r8 = 1 then
    z_gd (z_b01 1) (some (.inl (some 1), S9))
  else if r8 = 2 then
    z_gd (z_inb p1 (14 * B)) (
    z_lt (S9.1 (t + 11) (z_ix (p1))) fun x17 =>
    (z_bn (F_X2_samePointers B (t + 13) (u + 13) r3 (x17 / 2) S9) fun r18 S19 =>
    (z_gd (z_b01 r18) (some (.inl (some r18), S19)))))
  else if r8 = 3 then
    z_gd (z_inb p1 (14 * B)) (
    z_lt (S9.1 (t + 11) (z_ix (p1))) fun x23 =>
    (z_bn (F_X0_sameBytes B (t + 20) 2440 (u + 20) 2440 (r3 * 40) x23 S9) fun r24 S25 =>
    (z_gd (z_b01 r24) (some (.inl (some r24), S25)))))
  else 
    z_gd (z_b01 1) (some (.inl (some 1), S9))))))))
set_option maxRecDepth 20000 in
set_option maxHeartbeats 16000000 in
theorem c_X0_sameBody {l : Launch} {B : Nat} {t : Nat} {u : Nat} {p1 : Int32} {S : z_S} {q : z_O × z_S} (hst : l.stackTraces = false) (ht : z_is 0 t) (hu : z_is 0 u) (hF : F_X0_sameBody B t u p1 S = some q) : z_Met l I_X0_sameBody 1 24 B [.ref t, .int p1, .ref u] S q.1 q.2 := by
  refine z_enter (ls := [some (.ref t), some (.int p1), some (.ref u), none]) (n := 1) (by decide) rfl (Nat.le_of_ble_eq_true rfl) hst ?_
  unfold F_X0_sameBody at hF
  refine z_aload_n (pc' := 1) dX0_sameBody_0 rfl rfl rfl ?_
  refine gf_X0_14 (b := t + 1) (pc' := 4) rfl ht rfl dX0_sameBody_1 rfl ?_
  refine gf_X0_92 (b := t + 10) (pc' := 7) rfl (is_0_f0 ht) rfl dX0_sameBody_4 rfl ?_
  refine z_iload_n (pc' := 8) dX0_sameBody_7 rfl rfl rfl ?_
  obtain ⟨g1, hF⟩ := z_gde hF
  refine z_iaload (pc' := 9) (ar_4_f9 (is_0_f0 ht)) (z_inbe g1) dX0_sameBody_8 rfl ?_
  refine z_topi (fun x2 ex2 => ?_)
  replace hF := z_lte hF x2 ex2
  obtain ⟨r3, S4, hc5, hF⟩ := z_bne hF
  refine kn_X5_objectOf (F := 1) (L := 24) (pc' := 12) hc5 hst (by decide +kernel) rfl rfl (by decide) (by decide) (by decide) dX0_sameBody_9 rfl ?_
  refine z_istore_n (pc' := 13) dX0_sameBody_12 rfl (by decide) rfl rfl ?_
  refine z_aload_n (pc' := 14) dX0_sameBody_13 rfl rfl rfl ?_
  refine gf_X0_14 (b := t + 1) (pc' := 17) rfl ht rfl dX0_sameBody_14 rfl ?_
  refine gf_X0_92 (b := t + 10) (pc' := 20) rfl (is_0_f0 ht) rfl dX0_sameBody_17 rfl ?_
  refine z_iload_n (pc' := 21) dX0_sameBody_20 rfl rfl rfl ?_
  obtain ⟨g6, hF⟩ := z_gde hF
  refine z_iaload (pc' := 22) (ar_4_f9 (is_0_f0 ht)) (z_inbe g6) dX0_sameBody_21 rfl ?_
  refine z_topi (fun x7 ex7 => ?_)
  replace hF := z_lte hF x7 ex7
  obtain ⟨r8, S9, hc10, hF⟩ := z_bne hF
  refine kn_X5_kindOf (F := 1) (L := 24) (pc' := 25) hc10 hst (by decide +kernel) rfl rfl (by decide) (by decide) (by decide) dX0_sameBody_22 rfl ?_
  by_cases c29 : r8 = 0
  · rw [if_pos c29] at hF
    refine z_tswIn (tgt := 56) dX0_sameBody_25 (by rw [c29]; decide) (by rw [c29]; decide) (by rw [c29]; rfl) (by decide) ?_
    refine z_aload_n (pc' := 57) dX0_sameBody_56 rfl rfl rfl ?_
    refine gf_X0_23 (b := t + 13) (pc' := 60) rfl ht rfl dX0_sameBody_57 rfl ?_
    refine z_iload_n (pc' := 61) dX0_sameBody_60 rfl rfl rfl ?_
    refine z_aload_n (pc' := 62) dX0_sameBody_61 rfl rfl rfl ?_
    refine gf_X0_23 (b := u + 13) (pc' := 65) rfl hu rfl dX0_sameBody_62 rfl ?_
    obtain ⟨r11, S12, hc13, hF⟩ := z_bne hF
    refine k_X2_sameStat (F := 1) (L := 24) (pc' := 68) (is_0_f1 ht) (is_0_f1 hu) hc13 hst zw_12 rfl rfl (by decide) (by decide) (by decide) dX0_sameBody_65 rfl ?_
    obtain ⟨g14, hF⟩ := z_gde hF
    exact z_zreturn rfl (z_b01e g14) dX0_sameBody_68 (Option.some.inj hF).symm
  rw [if_neg c29] at hF
  by_cases c30 : r8 = 1
  · rw [if_pos c30] at hF
    refine z_tswIn (tgt := 118) dX0_sameBody_25 (by rw [c30]; decide) (by rw [c30]; decide) (by rw [c30]; rfl) (by decide) ?_
    refine z_iconst (v := 1) (pc' := 119) dX0_sameBody_118 (by decide) rfl ?_
    obtain ⟨g15, hF⟩ := z_gde hF
    exact z_zreturn rfl (z_b01e g15) dX0_sameBody_119 (Option.some.inj hF).symm
  rw [if_neg c30] at hF
  by_cases c31 : r8 = 2
  · rw [if_pos c31] at hF
    refine z_tswIn (tgt := 69) dX0_sameBody_25 (by rw [c31]; decide) (by rw [c31]; decide) (by rw [c31]; rfl) (by decide) ?_
    refine z_aload_n (pc' := 70) dX0_sameBody_69 rfl rfl rfl ?_
    refine gf_X0_23 (b := t + 13) (pc' := 73) rfl ht rfl dX0_sameBody_70 rfl ?_
    refine z_iload_n (pc' := 74) dX0_sameBody_73 rfl rfl rfl ?_
    refine z_aload_n (pc' := 75) dX0_sameBody_74 rfl rfl rfl ?_
    refine gf_X0_14 (b := t + 1) (pc' := 78) rfl ht rfl dX0_sameBody_75 rfl ?_
    refine gf_X0_105 (b := t + 11) (pc' := 81) rfl (is_0_f0 ht) rfl dX0_sameBody_78 rfl ?_
    refine z_iload_n (pc' := 82) dX0_sameBody_81 rfl rfl rfl ?_
    obtain ⟨g16, hF⟩ := z_gde hF
    refine z_iaload (pc' := 83) (ar_4_f10 (is_0_f0 ht)) (z_inbe g16) dX0_sameBody_82 rfl ?_
    refine z_topi (fun x17 ex17 => ?_)
    replace hF := z_lte hF x17 ex17
    refine z_iconst (v := 2) (pc' := 84) dX0_sameBody_83 (by decide) rfl ?_
    refine z_idiv (pc' := 85) dX0_sameBody_84 (by decide) rfl ?_
    refine z_aload_n (pc' := 86) dX0_sameBody_85 rfl rfl rfl ?_
    refine gf_X0_23 (b := u + 13) (pc' := 89) rfl hu rfl dX0_sameBody_86 rfl ?_
    obtain ⟨r18, S19, hc20, hF⟩ := z_bne hF
    refine k_X2_samePointers (F := 1) (L := 24) (pc' := 92) (is_0_f1 ht) (is_0_f1 hu) hc20 hst zw_13 rfl rfl (by decide) (by decide) (by decide) dX0_sameBody_89 rfl ?_
    obtain ⟨g21, hF⟩ := z_gde hF
    exact z_zreturn rfl (z_b01e g21) dX0_sameBody_92 (Option.some.inj hF).symm
  rw [if_neg c31] at hF
  by_cases c32 : r8 = 3
  · rw [if_pos c32] at hF
    refine z_tswIn (tgt := 93) dX0_sameBody_25 (by rw [c32]; decide) (by rw [c32]; decide) (by rw [c32]; rfl) (by decide) ?_
    refine z_aload_n (pc' := 94) dX0_sameBody_93 rfl rfl rfl ?_
    refine gf_X0_31 (b := t + 20) (pc' := 97) rfl ht rfl dX0_sameBody_94 rfl ?_
    refine z_aload_n (pc' := 98) dX0_sameBody_97 rfl rfl rfl ?_
    refine gf_X0_31 (b := u + 20) (pc' := 101) rfl hu rfl dX0_sameBody_98 rfl ?_
    refine z_iload_n (pc' := 102) dX0_sameBody_101 rfl rfl rfl ?_
    refine z_bipush (v := 40) (pc' := 104) dX0_sameBody_102 (by decide) rfl ?_
    refine z_imul (pc' := 105) dX0_sameBody_104 rfl ?_
    refine z_aload_n (pc' := 106) dX0_sameBody_105 rfl rfl rfl ?_
    refine gf_X0_14 (b := t + 1) (pc' := 109) rfl ht rfl dX0_sameBody_106 rfl ?_
    refine gf_X0_105 (b := t + 11) (pc' := 112) rfl (is_0_f0 ht) rfl dX0_sameBody_109 rfl ?_
    refine z_iload_n (pc' := 113) dX0_sameBody_112 rfl rfl rfl ?_
    obtain ⟨g22, hF⟩ := z_gde hF
    refine z_iaload (pc' := 114) (ar_4_f10 (is_0_f0 ht)) (z_inbe g22) dX0_sameBody_113 rfl ?_
    refine z_topi (fun x23 ex23 => ?_)
    replace hF := z_lte hF x23 ex23
    obtain ⟨r24, S25, hc26, hF⟩ := z_bne hF
    refine k_X0_sameBytes (F := 1) (L := 24) (pc' := 117) (ar_0_f3 ht) (ar_0_f3 hu) hc26 hst zw_14 rfl rfl (by decide) (by decide) (by decide) dX0_sameBody_114 rfl ?_
    obtain ⟨g27, hF⟩ := z_gde hF
    exact z_zreturn rfl (z_b01e g27) dX0_sameBody_117 (Option.some.inj hF).symm
  rw [if_neg c32] at hF
  refine z_tswOut (tgt := 118) dX0_sameBody_25 (z_out0_3 c29 c30 c31 c32) (by decide) ?_
  refine z_iconst (v := 1) (pc' := 119) dX0_sameBody_118 (by decide) rfl ?_
  obtain ⟨g28, hF⟩ := z_gde hF
  exact z_zreturn rfl (z_b01e g28) dX0_sameBody_119 (Option.some.inj hF).symm
theorem ok_X0_sameBody : z_okV I_X0_sameBody 2 := ⟨⟨z_Gin (List.mem_of_getElem? (i := 803) (by decide +kernel)) rfl, z_Gin (List.mem_of_getElem? (i := 34) (by decide +kernel)) rfl, z_Gin (List.mem_of_getElem? (i := 91) (by decide +kernel)) rfl, z_Gin (List.mem_of_getElem? (i := 804) (by decide +kernel)) rfl⟩, by decide, by decide, by decide +kernel⟩
theorem k_X0_sameBody {l : Launch} {I : z_I} {R : Room} {B : Nat} {t : Nat} {u : Nat} {p1 : Int32} {q : z_O × z_S} {pc pc' : Nat} {ls : List (Option Value)} {st : List Value} {S S1 : z_S} {idx F L : Nat} {r : Int32} (ht : z_is 0 t) (hu : z_is 0 u) (hF : F_X0_sameBody B t u p1 S = some (.inl (some r), S1)) (hst : l.stackTraces = false) (w : Cond.methodLink I.1.cls idx yX0_sameBody ∈ z_G) (hRF : R.frames = F) (hRL : R.locals = L) (h1 : 2 ≤ F) (h2 : 47 ≤ L) (hs : (st.map fun v => v.category).sum ≤ 8) (d : decode I.2.1 pc = .ok (.invokevirtual idx, 3)) (hp : pc + 3 = pc') (k : z_W l I R B q pc' ls (.int r :: st) S1) : z_W l I R B q pc ls (.ref u :: .int p1 :: .ref t :: st) S := z_callV (Y := I_X0_sameBody) (As := [.int p1, .ref u]) (st := st) (r := (some r)) (S1 := S1) (c_X0_sameBody (q := (.inl (some r), S1)) hst ht hu hF) ok_X0_sameBody w (ci := 0) rfl ht.1 ht.2 rfl ⟨by rw [hRF]; exact h1, by rw [hRL]; exact h2⟩ hs d hp rfl k

abbrev I_X4_sameItems : z_I := (yX4_sameItems, cX4_sameItems, 4, some .boolean)
abbrev R_X4_sameItems (q : z_O × z_S) : Room := { frames := 0, locals := 0, cells := z_mc q.1, slots := 6 * z_mc q.1 }
def F_X4_sameItems_82 (B : Nat) (t : Nat) (u : Nat)   (S : z_S) : Option (z_O × z_S) :=
  z_gd (z_b01 0) (some (.inl (some 0), S))
set_option maxRecDepth 20000 in
set_option maxHeartbeats 16000000 in
theorem ok_X4_sameItems_82 {l : Launch} {B : Nat} {t : Nat} {u : Nat} {q : z_O × z_S} (hst : l.stackTraces = false) (ht : z_is 4 t) (hu : z_is 4 u) : ∀ (S : z_S), F_X4_sameItems_82 B t u S = some q → z_W l I_X4_sameItems (R_X4_sameItems q) B q 82 [none, none, none, none] [] S := by
  intro S hF
  unfold F_X4_sameItems_82 at hF
  refine z_iconst (v := 0) (pc' := 83) dX4_sameItems_82 (by decide) rfl ?_
  obtain ⟨g1, hF⟩ := z_gde hF
  exact z_zreturn rfl (z_b01e g1) dX4_sameItems_83 (Option.some.inj hF).symm
def F_X4_sameItems_22 (B : Nat) (t : Nat) (u : Nat)  : Nat → Int32 → Int32 → z_S → Option (z_O × z_S)
  | 0, _, _, _ => none
  | n + 1, v1, v3, S => z_gd (z_inb v1 B) (
  z_lt (S.1 (t + 3) (z_ix (v1))) fun x2 =>
  (if ((v1 * 14) + x2) ≤ v3 then
    z_gd (z_b01 1) (some (.inl (some 1), S))
  else
    z_gd (z_inb v3 (14 * B)) (
    z_lt (S.1 (t + 9) (z_ix (v3))) fun x5 =>
    (z_gd (z_inb v3 (14 * B)) (
    z_lt (S.1 (u + 9) (z_ix (v3))) fun x7 =>
    (if x5 = x7 then
      z_gd (z_inb v3 (14 * B)) (
      z_lt (S.1 (t + 10) (z_ix (v3))) fun x9 =>
      (z_gd (z_inb v3 (14 * B)) (
      z_lt (S.1 (u + 10) (z_ix (v3))) fun x11 =>
      (if x9 = x11 then
        z_gd (z_inb v3 (14 * B)) (
        z_lt (S.1 (t + 11) (z_ix (v3))) fun x13 =>
        (z_gd (z_inb v3 (14 * B)) (
        z_lt (S.1 (u + 11) (z_ix (v3))) fun x15 =>
        (if x13 = x15 then
          F_X4_sameItems_22 B t u n v1 (v3 + 1) S
        else
          F_X4_sameItems_82 B t u S))))
      else
        F_X4_sameItems_82 B t u S))))
    else
      F_X4_sameItems_82 B t u S))))))
set_option maxRecDepth 20000 in
set_option maxHeartbeats 16000000 in
theorem ok_X4_sameItems_22 {l : Launch} {B : Nat} {t : Nat} {u : Nat} {q : z_O × z_S} (hst : l.stackTraces = false) (ht : z_is 4 t) (hu : z_is 4 u) : ∀ (n : Nat) (v1 : Int32) (v3 : Int32) (S : z_S), F_X4_sameItems_22 B t u n v1 v3 S = some q → z_W l I_X4_sameItems (R_X4_sameItems q) B q 22 [some (.ref t), some (.int v1), some (.ref u), some (.int v3)] [] S := by
  intro n
  induction n with
  | zero => intro v1 v3 S hF; cases hF
  | succ n ih =>
    intro v1 v3 S hF
    rw [F_X4_sameItems_22] at hF
    refine z_iload_n (pc' := 23) dX4_sameItems_22 rfl rfl rfl ?_
    refine z_iload_n (pc' := 24) dX4_sameItems_23 rfl rfl rfl ?_
    refine z_bipush (v := 14) (pc' := 26) dX4_sameItems_24 (by decide) rfl ?_
    refine z_imul (pc' := 27) dX4_sameItems_26 rfl ?_
    refine z_aload_n (pc' := 28) dX4_sameItems_27 rfl rfl rfl ?_
    refine gf_X4_22 (b := t + 3) (pc' := 31) rfl ht rfl dX4_sameItems_28 rfl ?_
    refine z_iload_n (pc' := 32) dX4_sameItems_31 rfl rfl rfl ?_
    obtain ⟨g1, hF⟩ := z_gde hF
    refine z_iaload (pc' := 33) (ar_4_f3 ht) (z_inbe g1) dX4_sameItems_32 rfl ?_
    refine z_topi (fun x2 ex2 => ?_)
    replace hF := z_lte hF x2 ex2
    refine z_iadd (pc' := 34) dX4_sameItems_33 rfl ?_
    refine z_icmp_ge (tgt := 90) (pc' := 37) dX4_sameItems_34 (by decide) rfl (fun c19 => ?_) (fun c19 => ?_)
    · rw [if_pos c19] at hF
      refine z_iconst (v := 1) (pc' := 91) dX4_sameItems_90 (by decide) rfl ?_
      obtain ⟨g3, hF⟩ := z_gde hF
      exact z_zreturn rfl (z_b01e g3) dX4_sameItems_91 (Option.some.inj hF).symm
    · rw [if_neg c19] at hF
      refine z_aload_n (pc' := 38) dX4_sameItems_37 rfl rfl rfl ?_
      refine gf_X4_40 (b := t + 9) (pc' := 41) rfl ht rfl dX4_sameItems_38 rfl ?_
      refine z_iload_n (pc' := 42) dX4_sameItems_41 rfl rfl rfl ?_
      obtain ⟨g4, hF⟩ := z_gde hF
      refine z_iaload (pc' := 43) (ar_4_f9 ht) (z_inbe g4) dX4_sameItems_42 rfl ?_
      refine z_topi (fun x5 ex5 => ?_)
      replace hF := z_lte hF x5 ex5
      refine z_aload_n (pc' := 44) dX4_sameItems_43 rfl rfl rfl ?_
      refine gf_X4_40 (b := u + 9) (pc' := 47) rfl hu rfl dX4_sameItems_44 rfl ?_
      refine z_iload_n (pc' := 48) dX4_sameItems_47 rfl rfl rfl ?_
      obtain ⟨g6, hF⟩ := z_gde hF
      refine z_iaload (pc' := 49) (ar_4_f9 hu) (z_inbe g6) dX4_sameItems_48 rfl ?_
      refine z_topi (fun x7 ex7 => ?_)
      replace hF := z_lte hF x7 ex7
      refine z_icmp_ne (tgt := 82) (pc' := 52) dX4_sameItems_49 (by decide) rfl (fun c18 => ?_) (fun c18 => ?_)
      · rw [if_neg c18] at hF
        refine z_wk (ls' := [none, none, none, none]) (z_len1 (z_len1 (z_len1 (z_len1 z_le0)))) ?_
        exact (ok_X4_sameItems_82 hst ht hu) _ hF
      · rw [if_pos c18] at hF
        refine z_aload_n (pc' := 53) dX4_sameItems_52 rfl rfl rfl ?_
        refine gf_X4_43 (b := t + 10) (pc' := 56) rfl ht rfl dX4_sameItems_53 rfl ?_
        refine z_iload_n (pc' := 57) dX4_sameItems_56 rfl rfl rfl ?_
        obtain ⟨g8, hF⟩ := z_gde hF
        refine z_iaload (pc' := 58) (ar_4_f10 ht) (z_inbe g8) dX4_sameItems_57 rfl ?_
        refine z_topi (fun x9 ex9 => ?_)
        replace hF := z_lte hF x9 ex9
        refine z_aload_n (pc' := 59) dX4_sameItems_58 rfl rfl rfl ?_
        refine gf_X4_43 (b := u + 10) (pc' := 62) rfl hu rfl dX4_sameItems_59 rfl ?_
        refine z_iload_n (pc' := 63) dX4_sameItems_62 rfl rfl rfl ?_
        obtain ⟨g10, hF⟩ := z_gde hF
        refine z_iaload (pc' := 64) (ar_4_f10 hu) (z_inbe g10) dX4_sameItems_63 rfl ?_
        refine z_topi (fun x11 ex11 => ?_)
        replace hF := z_lte hF x11 ex11
        refine z_icmp_ne (tgt := 82) (pc' := 67) dX4_sameItems_64 (by decide) rfl (fun c17 => ?_) (fun c17 => ?_)
        · rw [if_neg c17] at hF
          refine z_wk (ls' := [none, none, none, none]) (z_len1 (z_len1 (z_len1 (z_len1 z_le0)))) ?_
          exact (ok_X4_sameItems_82 hst ht hu) _ hF
        · rw [if_pos c17] at hF
          refine z_aload_n (pc' := 68) dX4_sameItems_67 rfl rfl rfl ?_
          refine gf_X4_46 (b := t + 11) (pc' := 71) rfl ht rfl dX4_sameItems_68 rfl ?_
          refine z_iload_n (pc' := 72) dX4_sameItems_71 rfl rfl rfl ?_
          obtain ⟨g12, hF⟩ := z_gde hF
          refine z_iaload (pc' := 73) (ar_4_f11 ht) (z_inbe g12) dX4_sameItems_72 rfl ?_
          refine z_topi (fun x13 ex13 => ?_)
          replace hF := z_lte hF x13 ex13
          refine z_aload_n (pc' := 74) dX4_sameItems_73 rfl rfl rfl ?_
          refine gf_X4_46 (b := u + 11) (pc' := 77) rfl hu rfl dX4_sameItems_74 rfl ?_
          refine z_iload_n (pc' := 78) dX4_sameItems_77 rfl rfl rfl ?_
          obtain ⟨g14, hF⟩ := z_gde hF
          refine z_iaload (pc' := 79) (ar_4_f11 hu) (z_inbe g14) dX4_sameItems_78 rfl ?_
          refine z_topi (fun x15 ex15 => ?_)
          replace hF := z_lte hF x15 ex15
          refine z_icmp_eq (tgt := 84) (pc' := 82) dX4_sameItems_79 (by decide) rfl (fun c16 => ?_) (fun c16 => ?_)
          · rw [if_pos c16] at hF
            refine z_iinc (v := v3 + 1) (pc' := 87) dX4_sameItems_84 rfl rfl (by decide) rfl rfl ?_
            refine z_goto (pc' := 22) dX4_sameItems_87 (by decide) ?_
            refine z_wk (ls' := [some (.ref t), some (.int v1), some (.ref u), some (.int (v3 + 1))]) (z_lec rfl (z_lec rfl (z_lec rfl (z_lec rfl z_le0)))) ?_
            exact ih _ _ _ hF
          · rw [if_neg c16] at hF
            refine z_wk (ls' := [none, none, none, none]) (z_len1 (z_len1 (z_len1 (z_len1 z_le0)))) ?_
            exact (ok_X4_sameItems_82 hst ht hu) _ hF
def F_X4_sameItems (B : Nat) (t : Nat) (u : Nat) (p1 : Int32) (S : z_S) : Option (z_O × z_S) :=
  z_gd (z_inb p1 B) (
  z_lt (S.1 (t + 3) (z_ix (p1))) fun x2 =>
  (z_gd (z_inb p1 B) (
  z_lt (S.1 (u + 3) (z_ix (p1))) fun x4 =>
  (if x2 = x4 then
    F_X4_sameItems_22 B t u z_n p1 (p1 * 14) S
  else
    z_gd (z_b01 0) (some (.inl (some 0), S))))))
set_option maxRecDepth 20000 in
set_option maxHeartbeats 16000000 in
theorem c_X4_sameItems {l : Launch} {B : Nat} {t : Nat} {u : Nat} {p1 : Int32} {S : z_S} {q : z_O × z_S} (hst : l.stackTraces = false) (ht : z_is 4 t) (hu : z_is 4 u) (hF : F_X4_sameItems B t u p1 S = some q) : z_Met l I_X4_sameItems 0 0 B [.ref t, .int p1, .ref u] S q.1 q.2 := by
  refine z_enter (ls := [some (.ref t), some (.int p1), some (.ref u), none]) (n := 1) (by decide) rfl (Nat.le_of_ble_eq_true rfl) hst ?_
  unfold F_X4_sameItems at hF
  refine z_aload_n (pc' := 1) dX4_sameItems_0 rfl rfl rfl ?_
  refine gf_X4_22 (b := t + 3) (pc' := 4) rfl ht rfl dX4_sameItems_1 rfl ?_
  refine z_iload_n (pc' := 5) dX4_sameItems_4 rfl rfl rfl ?_
  obtain ⟨g1, hF⟩ := z_gde hF
  refine z_iaload (pc' := 6) (ar_4_f3 ht) (z_inbe g1) dX4_sameItems_5 rfl ?_
  refine z_topi (fun x2 ex2 => ?_)
  replace hF := z_lte hF x2 ex2
  refine z_aload_n (pc' := 7) dX4_sameItems_6 rfl rfl rfl ?_
  refine gf_X4_22 (b := u + 3) (pc' := 10) rfl hu rfl dX4_sameItems_7 rfl ?_
  refine z_iload_n (pc' := 11) dX4_sameItems_10 rfl rfl rfl ?_
  obtain ⟨g3, hF⟩ := z_gde hF
  refine z_iaload (pc' := 12) (ar_4_f3 hu) (z_inbe g3) dX4_sameItems_11 rfl ?_
  refine z_topi (fun x4 ex4 => ?_)
  replace hF := z_lte hF x4 ex4
  refine z_icmp_eq (tgt := 17) (pc' := 15) dX4_sameItems_12 (by decide) rfl (fun c6 => ?_) (fun c6 => ?_)
  · rw [if_pos c6] at hF
    refine z_iload_n (pc' := 18) dX4_sameItems_17 rfl rfl rfl ?_
    refine z_bipush (v := 14) (pc' := 20) dX4_sameItems_18 (by decide) rfl ?_
    refine z_imul (pc' := 21) dX4_sameItems_20 rfl ?_
    refine z_istore_n (pc' := 22) dX4_sameItems_21 rfl (by decide) rfl rfl ?_
    refine z_wk (ls' := [some (.ref t), some (.int p1), some (.ref u), some (.int (p1 * 14))]) (z_lec rfl (z_lec rfl (z_lec rfl (z_lec rfl z_le0)))) ?_
    exact (ok_X4_sameItems_22 hst ht hu z_n) _ _ _ hF
  · rw [if_neg c6] at hF
    refine z_iconst (v := 0) (pc' := 16) dX4_sameItems_15 (by decide) rfl ?_
    obtain ⟨g5, hF⟩ := z_gde hF
    exact z_zreturn rfl (z_b01e g5) dX4_sameItems_16 (Option.some.inj hF).symm
theorem ok_X4_sameItems : z_okV I_X4_sameItems 2 := ⟨⟨z_Gin (List.mem_of_getElem? (i := 798) (by decide +kernel)) rfl, z_Gin (List.mem_of_getElem? (i := 799) (by decide +kernel)) rfl, z_Gin (List.mem_of_getElem? (i := 92) (by decide +kernel)) rfl, z_Gin (List.mem_of_getElem? (i := 800) (by decide +kernel)) rfl⟩, by decide, by decide, by decide +kernel⟩
theorem k_X4_sameItems {l : Launch} {I : z_I} {R : Room} {B : Nat} {t : Nat} {u : Nat} {p1 : Int32} {q : z_O × z_S} {pc pc' : Nat} {ls : List (Option Value)} {st : List Value} {S S1 : z_S} {idx F L : Nat} {r : Int32} (ht : z_is 4 t) (hu : z_is 4 u) (hF : F_X4_sameItems B t u p1 S = some (.inl (some r), S1)) (hst : l.stackTraces = false) (w : Cond.methodLink I.1.cls idx yX4_sameItems ∈ z_G) (hRF : R.frames = F) (hRL : R.locals = L) (h1 : 1 ≤ F) (h2 : 23 ≤ L) (hs : (st.map fun v => v.category).sum ≤ 8) (d : decode I.2.1 pc = .ok (.invokevirtual idx, 3)) (hp : pc + 3 = pc') (k : z_W l I R B q pc' ls (.int r :: st) S1) : z_W l I R B q pc ls (.ref u :: .int p1 :: .ref t :: st) S := z_callV (Y := I_X4_sameItems) (As := [.int p1, .ref u]) (st := st) (r := (some r)) (S1 := S1) (c_X4_sameItems (q := (.inl (some r), S1)) hst ht hu hF) ok_X4_sameItems w (ci := 4) rfl ht.1 ht.2 rfl ⟨by rw [hRF]; exact h1, by rw [hRL]; exact h2⟩ hs d hp rfl k

