abbrev I_X6_cut : z_I := (yX6_cut, cX6_cut, 3, some .int)
abbrev R_X6_cut (q : z_O × z_S) : Room := { frames := 8, locals := 200, cells := z_mc q.1, slots := 6 * z_mc q.1 }
def F_X6_cut_96 (B : Nat)  (s0 : Int32) (S : z_S) : Option (z_O × z_S) :=
  some (.inl (some s0), S)
set_option maxRecDepth 20000 in
set_option maxHeartbeats 16000000 in
theorem ok_X6_cut_96 {l : Launch} {B : Nat} {q : z_O × z_S} (hst : l.stackTraces = false) : ∀ (s0 : Int32) (S : z_S), F_X6_cut_96 B s0 S = some q → z_W l I_X6_cut (R_X6_cut q) B q 96 [none, none, none] [.int s0] S := by
  intro s0 S hF
  unfold F_X6_cut_96 at hF
  exact z_ireturn rfl dX6_cut_96 (Option.some.inj hF).symm
def F_X6_cut_47 (B : Nat)  (v1 : Int32) (v2 : Int32) (s0 : Int32) (S : z_S) : Option (z_O × z_S) :=
  z_lt (z_ui S 60 0 s0) fun S1 =>
  (if (S1.2.1 60 0) ≤ 0 then
    z_bo (F_X6_begin B S1) fun S3 =>
    (z_bo (F_X6_gather B v1 S3) fun S6 =>
    (z_bo (F_X6_lay B v1 v2 S6) fun S9 =>
    (z_bn (F_X6_ended B 4 S9) fun r11 S12 =>
    (if r11 = 0 then
      F_X6_cut_96 B 0 S12
    else
      z_gd (z_inb (279 + v1) 25366) (
      z_lt (S12.1 61 (z_ix (279 + v1))) fun x15 =>
      (F_X6_cut_96 B x15 S12))))))
  else
    some (.inl (some 0), S1))
set_option maxRecDepth 20000 in
set_option maxHeartbeats 16000000 in
theorem ok_X6_cut_47 {l : Launch} {B : Nat} {q : z_O × z_S} (hst : l.stackTraces = false) : ∀ (v1 : Int32) (v2 : Int32) (s0 : Int32) (S : z_S), F_X6_cut_47 B v1 v2 s0 S = some q → z_W l I_X6_cut (R_X6_cut q) B q 47 [some (.ref 60), some (.int v1), some (.int v2)] [.int s0, .ref 60] S := by
  intro v1 v2 s0 S hF
  unfold F_X6_cut_47 at hF
  refine pf_X6_40 (pc' := 50) rfl is_6_60 dX6_cut_47 rfl (fun S1 eS1 => ?_)
  replace hF := z_lte hF S1 eS1
  refine z_aload_n (pc' := 51) dX6_cut_50 rfl rfl rfl ?_
  refine gf_X6_40 (pc' := 54) rfl is_6_60 dX6_cut_51 rfl ?_
  refine z_if_le (tgt := 59) (pc' := 57) dX6_cut_54 (by decide) rfl (fun c17 => ?_) (fun c17 => ?_)
  · rw [if_pos c17] at hF
    refine z_aload_n (pc' := 60) dX6_cut_59 rfl rfl rfl ?_
    obtain ⟨S3, hc4, hF⟩ := z_boe hF
    refine k_X6_begin (F := 8) (L := 200) (pc' := 63) hc4 hst zw_139 rfl rfl (by decide) (by decide) (by decide) dX6_cut_60 rfl ?_
    refine z_aload_n (pc' := 64) dX6_cut_63 rfl rfl rfl ?_
    refine z_iload_n (pc' := 65) dX6_cut_64 rfl rfl rfl ?_
    obtain ⟨S6, hc7, hF⟩ := z_boe hF
    refine k_X6_gather (F := 8) (L := 200) (pc' := 68) hc7 hst zw_146 rfl rfl (by decide) (by decide) (by decide) dX6_cut_65 rfl ?_
    refine z_aload_n (pc' := 69) dX6_cut_68 rfl rfl rfl ?_
    refine z_iload_n (pc' := 70) dX6_cut_69 rfl rfl rfl ?_
    refine z_iload_n (pc' := 71) dX6_cut_70 rfl rfl rfl ?_
    obtain ⟨S9, hc10, hF⟩ := z_boe hF
    refine k_X6_lay (F := 8) (L := 200) (pc' := 74) hc10 hst zw_144 rfl rfl (by decide) (by decide) (by decide) dX6_cut_71 rfl ?_
    refine z_aload_n (pc' := 75) dX6_cut_74 rfl rfl rfl ?_
    refine z_iconst (v := 4) (pc' := 76) dX6_cut_75 (by decide) rfl ?_
    obtain ⟨r11, S12, hc13, hF⟩ := z_bne hF
    refine k_X6_ended (F := 8) (L := 200) (pc' := 79) hc13 hst zw_140 rfl rfl (by decide) (by decide) (by decide) dX6_cut_76 rfl ?_
    refine z_if_eq (tgt := 95) (pc' := 82) dX6_cut_79 (by decide) rfl (fun c16 => ?_) (fun c16 => ?_)
    · rw [if_pos c16] at hF
      refine z_iconst (v := 0) (pc' := 96) dX6_cut_95 (by decide) rfl ?_
      refine z_wk (ls' := [none, none, none]) (z_len1 (z_len1 (z_len1 z_le0))) ?_
      exact (ok_X6_cut_96 hst) _ _ hF
    · rw [if_neg c16] at hF
      refine z_aload_n (pc' := 83) dX6_cut_82 rfl rfl rfl ?_
      refine gf_X6_7 (b := 61) (pc' := 86) rfl is_6_60 rfl dX6_cut_83 rfl ?_
      refine z_sipush (v := 279) (pc' := 89) dX6_cut_86 (by decide) rfl ?_
      refine z_iload_n (pc' := 90) dX6_cut_89 rfl rfl rfl ?_
      refine z_iadd (pc' := 91) dX6_cut_90 rfl ?_
      obtain ⟨g14, hF⟩ := z_gde hF
      refine z_iaload (pc' := 92) (ar_6_f3 is_6_60) (z_inbe g14) dX6_cut_91 rfl ?_
      refine z_topi (fun x15 ex15 => ?_)
      replace hF := z_lte hF x15 ex15
      refine z_goto (pc' := 96) dX6_cut_92 (by decide) ?_
      refine z_wk (ls' := [none, none, none]) (z_len1 (z_len1 (z_len1 z_le0))) ?_
      exact (ok_X6_cut_96 hst) _ _ hF
  · rw [if_neg c17] at hF
    refine z_iconst (v := 0) (pc' := 58) dX6_cut_57 (by decide) rfl ?_
    exact z_ireturn rfl dX6_cut_58 (Option.some.inj hF).symm
def F_X6_cut (B : Nat) (p1 : Int32) (p2 : Int32) (S : z_S) : Option (z_O × z_S) :=
  if (S.2.1 60 10) = 0 then
    z_bn (F_X6_isFile B p1 S) fun r1 S2 =>
    (if r1 = 0 then
      F_X6_cut_47 B p1 p2 2 S2
    else
      z_gd (z_inb (218 + p1) 25366) (
      z_lt (S2.1 61 (z_ix (218 + p1))) fun x5 =>
      (z_bn (F_X6_isIn B p2 0 x5 S2) fun r6 S7 =>
      (if r6 = 0 then
        F_X6_cut_47 B p1 p2 3 S7
      else
        F_X6_cut_47 B p1 p2 0 S7))))
  else
    F_X6_cut_47 B p1 p2 1 S
set_option maxRecDepth 20000 in
set_option maxHeartbeats 16000000 in
theorem c_X6_cut {l : Launch} {B : Nat} {p1 : Int32} {p2 : Int32} {S : z_S} {q : z_O × z_S} (hst : l.stackTraces = false) (hF : F_X6_cut B p1 p2 S = some q) : z_Met l I_X6_cut 8 200 B [.ref 60, .int p1, .int p2] S q.1 q.2 := by
  refine z_enter (ls := [some (.ref 60), some (.int p1), some (.int p2)]) (n := 0) (by decide) rfl (Nat.le_of_ble_eq_true rfl) hst ?_
  unfold F_X6_cut at hF
  refine z_aload_n (pc' := 1) dX6_cut_0 rfl rfl rfl ?_
  refine z_aload_n (pc' := 2) dX6_cut_1 rfl rfl rfl ?_
  refine gf_X6_149 (pc' := 5) rfl is_6_60 dX6_cut_2 rfl ?_
  refine z_if_eq (tgt := 12) (pc' := 8) dX6_cut_5 (by decide) rfl (fun c11 => ?_) (fun c11 => ?_)
  · rw [if_pos c11] at hF
    refine z_aload_n (pc' := 13) dX6_cut_12 rfl rfl rfl ?_
    refine z_iload_n (pc' := 14) dX6_cut_13 rfl rfl rfl ?_
    obtain ⟨r1, S2, hc3, hF⟩ := z_bne hF
    refine k_X6_isFile (F := 8) (L := 200) (pc' := 17) hc3 hst zw_141 rfl rfl (by decide) (by decide) (Nat.le_of_ble_eq_true rfl) dX6_cut_14 rfl ?_
    refine z_if_ne (tgt := 24) (pc' := 20) dX6_cut_17 (by decide) rfl (fun c10 => ?_) (fun c10 => ?_)
    · rw [if_neg c10] at hF
      refine z_iload_n (pc' := 25) dX6_cut_24 rfl rfl rfl ?_
      refine z_iconst (v := 0) (pc' := 26) dX6_cut_25 (by decide) rfl ?_
      refine z_aload_n (pc' := 27) dX6_cut_26 rfl rfl rfl ?_
      refine gf_X6_7 (b := 61) (pc' := 30) rfl is_6_60 rfl dX6_cut_27 rfl ?_
      refine z_sipush (v := 218) (pc' := 33) dX6_cut_30 (by decide) rfl ?_
      refine z_iload_n (pc' := 34) dX6_cut_33 rfl rfl rfl ?_
      refine z_iadd (pc' := 35) dX6_cut_34 rfl ?_
      obtain ⟨g4, hF⟩ := z_gde hF
      refine z_iaload (pc' := 36) (ar_6_f3 is_6_60) (z_inbe g4) dX6_cut_35 rfl ?_
      refine z_topi (fun x5 ex5 => ?_)
      replace hF := z_lte hF x5 ex5
      obtain ⟨r6, S7, hc8, hF⟩ := z_bne hF
      refine k_X6_isIn (F := 8) (L := 200) (pc' := 39) hc8 hst zw_104 rfl rfl (by decide) (by decide) (Nat.le_of_ble_eq_true rfl) dX6_cut_36 rfl ?_
      refine z_if_ne (tgt := 46) (pc' := 42) dX6_cut_39 (by decide) rfl (fun c9 => ?_) (fun c9 => ?_)
      · rw [if_neg c9] at hF
        refine z_iconst (v := 0) (pc' := 47) dX6_cut_46 (by decide) rfl ?_
        refine z_wk (ls' := [some (.ref 60), some (.int p1), some (.int p2)]) (z_lec rfl (z_lec rfl (z_lec rfl z_le0))) ?_
        exact (ok_X6_cut_47 hst) _ _ _ _ hF
      · rw [if_pos c9] at hF
        refine z_iconst (v := 3) (pc' := 43) dX6_cut_42 (by decide) rfl ?_
        refine z_goto (pc' := 47) dX6_cut_43 (by decide) ?_
        refine z_wk (ls' := [some (.ref 60), some (.int p1), some (.int p2)]) (z_lec rfl (z_lec rfl (z_lec rfl z_le0))) ?_
        exact (ok_X6_cut_47 hst) _ _ _ _ hF
    · rw [if_pos c10] at hF
      refine z_iconst (v := 2) (pc' := 21) dX6_cut_20 (by decide) rfl ?_
      refine z_goto (pc' := 47) dX6_cut_21 (by decide) ?_
      refine z_wk (ls' := [some (.ref 60), some (.int p1), some (.int p2)]) (z_lec rfl (z_lec rfl (z_lec rfl z_le0))) ?_
      exact (ok_X6_cut_47 hst) _ _ _ _ hF
  · rw [if_neg c11] at hF
    refine z_iconst (v := 1) (pc' := 9) dX6_cut_8 (by decide) rfl ?_
    refine z_goto (pc' := 47) dX6_cut_9 (by decide) ?_
    refine z_wk (ls' := [some (.ref 60), some (.int p1), some (.int p2)]) (z_lec rfl (z_lec rfl (z_lec rfl z_le0))) ?_
    exact (ok_X6_cut_47 hst) _ _ _ _ hF
theorem ok_X6_cut : z_okV I_X6_cut 2 := ⟨⟨z_Gin (List.mem_of_getElem? (i := 1165) (by decide +kernel)) rfl, z_Gin (List.mem_of_getElem? (i := 1166) (by decide +kernel)) rfl, z_Gin (List.mem_of_getElem? (i := 98) (by decide +kernel)) rfl, z_Gin (List.mem_of_getElem? (i := 1167) (by decide +kernel)) rfl⟩, by decide, by decide, by decide +kernel⟩
theorem k_X6_cut {l : Launch} {I : z_I} {R : Room} {B : Nat} {p1 : Int32} {p2 : Int32} {q : z_O × z_S} {pc pc' : Nat} {ls : List (Option Value)} {st : List Value} {S S1 : z_S} {idx F L : Nat} {r : Int32}  (hF : F_X6_cut B p1 p2 S = some (.inl (some r), S1)) (hst : l.stackTraces = false) (w : Cond.methodLink I.1.cls idx yX6_cut ∈ z_G) (hRF : R.frames = F) (hRL : R.locals = L) (h1 : 9 ≤ F) (h2 : 222 ≤ L) (hs : (st.map fun v => v.category).sum ≤ 8) (d : decode I.2.1 pc = .ok (.invokevirtual idx, 3)) (hp : pc + 3 = pc') (k : z_W l I R B q pc' ls (.int r :: st) S1) : z_W l I R B q pc ls (.int p2 :: .int p1 :: .ref 60 :: st) S := z_callV (Y := I_X6_cut) (As := [.int p1, .int p2]) (st := st) (r := (some r)) (S1 := S1) (c_X6_cut (q := (.inl (some r), S1)) hst hF) ok_X6_cut w (ci := 6) rfl is_6_60.1 is_6_60.2 rfl ⟨by rw [hRF]; exact h1, by rw [hRL]; exact h2⟩ hs d hp rfl k

abbrev I_X6_read : z_I := (yX6_read, cX6_read, 3, some .int)
abbrev R_X6_read (q : z_O × z_S) : Room := { frames := 3, locals := 64, cells := z_mc q.1, slots := 6 * z_mc q.1 }
def F_X6_read_65 (B : Nat)  (s0 : Int32) (S : z_S) : Option (z_O × z_S) :=
  some (.inl (some s0), S)
set_option maxRecDepth 20000 in
set_option maxHeartbeats 16000000 in
theorem ok_X6_read_65 {l : Launch} {B : Nat} {q : z_O × z_S} (hst : l.stackTraces = false) : ∀ (s0 : Int32) (S : z_S), F_X6_read_65 B s0 S = some q → z_W l I_X6_read (R_X6_read q) B q 65 [none, none, none] [.int s0] S := by
  intro s0 S hF
  unfold F_X6_read_65 at hF
  exact z_ireturn rfl dX6_read_65 (Option.some.inj hF).symm
def F_X6_read_45 (B : Nat)  (v1 : Int32) (v2 : Int32) (s0 : Int32) (S : z_S) : Option (z_O × z_S) :=
  z_lt (z_ui S 60 0 s0) fun S1 =>
  (if (S1.2.1 60 0) ≤ 0 then
    z_bn (F_X6_byteOf B v1 v2 S1) fun r2 S3 =>
    (F_X6_read_65 B r2 S3)
  else
    F_X6_read_65 B 0 S1)
set_option maxRecDepth 20000 in
set_option maxHeartbeats 16000000 in
theorem ok_X6_read_45 {l : Launch} {B : Nat} {q : z_O × z_S} (hst : l.stackTraces = false) : ∀ (v1 : Int32) (v2 : Int32) (s0 : Int32) (S : z_S), F_X6_read_45 B v1 v2 s0 S = some q → z_W l I_X6_read (R_X6_read q) B q 45 [some (.ref 60), some (.int v1), some (.int v2)] [.int s0, .ref 60] S := by
  intro v1 v2 s0 S hF
  unfold F_X6_read_45 at hF
  refine pf_X6_40 (pc' := 48) rfl is_6_60 dX6_read_45 rfl (fun S1 eS1 => ?_)
  replace hF := z_lte hF S1 eS1
  refine z_aload_n (pc' := 49) dX6_read_48 rfl rfl rfl ?_
  refine gf_X6_40 (pc' := 52) rfl is_6_60 dX6_read_49 rfl ?_
  refine z_if_le (tgt := 59) (pc' := 55) dX6_read_52 (by decide) rfl (fun c5 => ?_) (fun c5 => ?_)
  · rw [if_pos c5] at hF
    refine z_aload_n (pc' := 60) dX6_read_59 rfl rfl rfl ?_
    refine z_iload_n (pc' := 61) dX6_read_60 rfl rfl rfl ?_
    refine z_iload_n (pc' := 62) dX6_read_61 rfl rfl rfl ?_
    obtain ⟨r2, S3, hc4, hF⟩ := z_bne hF
    refine k_X6_byteOf (F := 3) (L := 64) (pc' := 65) hc4 hst zw_131 rfl rfl (by decide) (by decide) (by decide) dX6_read_62 rfl ?_
    refine z_wk (ls' := [none, none, none]) (z_len1 (z_len1 (z_len1 z_le0))) ?_
    exact (ok_X6_read_65 hst) _ _ hF
  · rw [if_neg c5] at hF
    refine z_iconst (v := 0) (pc' := 56) dX6_read_55 (by decide) rfl ?_
    refine z_goto (pc' := 65) dX6_read_56 (by decide) ?_
    refine z_wk (ls' := [none, none, none]) (z_len1 (z_len1 (z_len1 z_le0))) ?_
    exact (ok_X6_read_65 hst) _ _ hF
def F_X6_read_40 (B : Nat) (k45 : Int32 → Int32 → Int32 → z_S → Option (z_O × z_S)) (v1 : Int32) (v2 : Int32) (S : z_S) : Option (z_O × z_S) :=
  k45 v1 v2 2 S
set_option maxRecDepth 20000 in
set_option maxHeartbeats 16000000 in
theorem ok_X6_read_40 {l : Launch} {B : Nat} {q : z_O × z_S} (hst : l.stackTraces = false) {k45 : Int32 → Int32 → Int32 → z_S → Option (z_O × z_S)} (hk45 : ∀ (v1 : Int32) (v2 : Int32) (s0 : Int32) (S : z_S), k45 v1 v2 s0 S = some q → z_W l I_X6_read (R_X6_read q) B q 45 [some (.ref 60), some (.int v1), some (.int v2)] [.int s0, .ref 60] S) : ∀ (v1 : Int32) (v2 : Int32) (S : z_S), F_X6_read_40 B k45 v1 v2 S = some q → z_W l I_X6_read (R_X6_read q) B q 40 [some (.ref 60), some (.int v1), some (.int v2)] [.ref 60] S := by
  intro v1 v2 S hF
  unfold F_X6_read_40 at hF
  refine z_iconst (v := 2) (pc' := 41) dX6_read_40 (by decide) rfl ?_
  refine z_goto (pc' := 45) dX6_read_41 (by decide) ?_
  refine z_wk (ls' := [some (.ref 60), some (.int v1), some (.int v2)]) (z_lec rfl (z_lec rfl (z_lec rfl z_le0))) ?_
  exact hk45 _ _ _ _ hF
def F_X6_read (B : Nat) (p1 : Int32) (p2 : Int32) (S : z_S) : Option (z_O × z_S) :=
  if (S.2.1 60 10) = 0 then
    z_bn (F_X6_isFile B p1 S) fun r1 S2 =>
    (if r1 = 0 then
      F_X6_read_40 B (F_X6_read_45 B ) p1 p2 S2
    else
      z_gd (z_inb (218 + p1) 25366) (
      z_lt (S2.1 61 (z_ix (218 + p1))) fun x5 =>
      (z_bn (F_X6_isIn B p2 0 (x5 - 1) S2) fun r6 S7 =>
      (if r6 = 0 then
        F_X6_read_40 B (F_X6_read_45 B ) p1 p2 S7
      else
        F_X6_read_45 B p1 p2 0 S7))))
  else
    F_X6_read_45 B p1 p2 1 S
set_option maxRecDepth 20000 in
set_option maxHeartbeats 16000000 in
theorem c_X6_read {l : Launch} {B : Nat} {p1 : Int32} {p2 : Int32} {S : z_S} {q : z_O × z_S} (hst : l.stackTraces = false) (hF : F_X6_read B p1 p2 S = some q) : z_Met l I_X6_read 3 64 B [.ref 60, .int p1, .int p2] S q.1 q.2 := by
  refine z_enter (ls := [some (.ref 60), some (.int p1), some (.int p2)]) (n := 0) (by decide) rfl (Nat.le_of_ble_eq_true rfl) hst ?_
  unfold F_X6_read at hF
  refine z_aload_n (pc' := 1) dX6_read_0 rfl rfl rfl ?_
  refine z_aload_n (pc' := 2) dX6_read_1 rfl rfl rfl ?_
  refine gf_X6_149 (pc' := 5) rfl is_6_60 dX6_read_2 rfl ?_
  refine z_if_eq (tgt := 12) (pc' := 8) dX6_read_5 (by decide) rfl (fun c11 => ?_) (fun c11 => ?_)
  · rw [if_pos c11] at hF
    refine z_aload_n (pc' := 13) dX6_read_12 rfl rfl rfl ?_
    refine z_iload_n (pc' := 14) dX6_read_13 rfl rfl rfl ?_
    obtain ⟨r1, S2, hc3, hF⟩ := z_bne hF
    refine k_X6_isFile (F := 3) (L := 64) (pc' := 17) hc3 hst zw_141 rfl rfl (by decide) (by decide) (Nat.le_of_ble_eq_true rfl) dX6_read_14 rfl ?_
    refine z_if_eq (tgt := 40) (pc' := 20) dX6_read_17 (by decide) rfl (fun c10 => ?_) (fun c10 => ?_)
    · rw [if_pos c10] at hF
      refine z_wk (ls' := [some (.ref 60), some (.int p1), some (.int p2)]) (z_lec rfl (z_lec rfl (z_lec rfl z_le0))) ?_
      exact (ok_X6_read_40 hst (ok_X6_read_45 hst)) _ _ _ hF
    · rw [if_neg c10] at hF
      refine z_iload_n (pc' := 21) dX6_read_20 rfl rfl rfl ?_
      refine z_iconst (v := 0) (pc' := 22) dX6_read_21 (by decide) rfl ?_
      refine z_aload_n (pc' := 23) dX6_read_22 rfl rfl rfl ?_
      refine gf_X6_7 (b := 61) (pc' := 26) rfl is_6_60 rfl dX6_read_23 rfl ?_
      refine z_sipush (v := 218) (pc' := 29) dX6_read_26 (by decide) rfl ?_
      refine z_iload_n (pc' := 30) dX6_read_29 rfl rfl rfl ?_
      refine z_iadd (pc' := 31) dX6_read_30 rfl ?_
      obtain ⟨g4, hF⟩ := z_gde hF
      refine z_iaload (pc' := 32) (ar_6_f3 is_6_60) (z_inbe g4) dX6_read_31 rfl ?_
      refine z_topi (fun x5 ex5 => ?_)
      replace hF := z_lte hF x5 ex5
      refine z_iconst (v := 1) (pc' := 33) dX6_read_32 (by decide) rfl ?_
      refine z_isub (pc' := 34) dX6_read_33 rfl ?_
      obtain ⟨r6, S7, hc8, hF⟩ := z_bne hF
      refine k_X6_isIn (F := 3) (L := 64) (pc' := 37) hc8 hst zw_104 rfl rfl (by decide) (by decide) (Nat.le_of_ble_eq_true rfl) dX6_read_34 rfl ?_
      refine z_if_ne (tgt := 44) (pc' := 40) dX6_read_37 (by decide) rfl (fun c9 => ?_) (fun c9 => ?_)
      · rw [if_neg c9] at hF
        refine z_iconst (v := 0) (pc' := 45) dX6_read_44 (by decide) rfl ?_
        refine z_wk (ls' := [some (.ref 60), some (.int p1), some (.int p2)]) (z_lec rfl (z_lec rfl (z_lec rfl z_le0))) ?_
        exact (ok_X6_read_45 hst) _ _ _ _ hF
      · rw [if_pos c9] at hF
        refine z_wk (ls' := [some (.ref 60), some (.int p1), some (.int p2)]) (z_lec rfl (z_lec rfl (z_lec rfl z_le0))) ?_
        exact (ok_X6_read_40 hst (ok_X6_read_45 hst)) _ _ _ hF
  · rw [if_neg c11] at hF
    refine z_iconst (v := 1) (pc' := 9) dX6_read_8 (by decide) rfl ?_
    refine z_goto (pc' := 45) dX6_read_9 (by decide) ?_
    refine z_wk (ls' := [some (.ref 60), some (.int p1), some (.int p2)]) (z_lec rfl (z_lec rfl (z_lec rfl z_le0))) ?_
    exact (ok_X6_read_45 hst) _ _ _ _ hF
theorem ok_X6_read : z_okV I_X6_read 2 := ⟨⟨z_Gin (List.mem_of_getElem? (i := 1169) (by decide +kernel)) rfl, z_Gin (List.mem_of_getElem? (i := 1170) (by decide +kernel)) rfl, z_Gin (List.mem_of_getElem? (i := 98) (by decide +kernel)) rfl, z_Gin (List.mem_of_getElem? (i := 1171) (by decide +kernel)) rfl⟩, by decide, by decide, by decide +kernel⟩
theorem k_X6_read {l : Launch} {I : z_I} {R : Room} {B : Nat} {p1 : Int32} {p2 : Int32} {q : z_O × z_S} {pc pc' : Nat} {ls : List (Option Value)} {st : List Value} {S S1 : z_S} {idx F L : Nat} {r : Int32}  (hF : F_X6_read B p1 p2 S = some (.inl (some r), S1)) (hst : l.stackTraces = false) (w : Cond.methodLink I.1.cls idx yX6_read ∈ z_G) (hRF : R.frames = F) (hRL : R.locals = L) (h1 : 4 ≤ F) (h2 : 86 ≤ L) (hs : (st.map fun v => v.category).sum ≤ 8) (d : decode I.2.1 pc = .ok (.invokevirtual idx, 3)) (hp : pc + 3 = pc') (k : z_W l I R B q pc' ls (.int r :: st) S1) : z_W l I R B q pc ls (.int p2 :: .int p1 :: .ref 60 :: st) S := z_callV (Y := I_X6_read) (As := [.int p1, .int p2]) (st := st) (r := (some r)) (S1 := S1) (c_X6_read (q := (.inl (some r), S1)) hst hF) ok_X6_read w (ci := 6) rfl is_6_60.1 is_6_60.2 rfl ⟨by rw [hRF]; exact h1, by rw [hRL]; exact h2⟩ hs d hp rfl k

abbrev I_X6_look : z_I := (yX6_look, cX6_look, 3, some .int)
abbrev R_X6_look (q : z_O × z_S) : Room := { frames := 4, locals := 100, cells := z_mc q.1, slots := 6 * z_mc q.1 }
def F_X6_look_57 (B : Nat)  (s0 : Int32) (S : z_S) : Option (z_O × z_S) :=
  some (.inl (some s0), S)
set_option maxRecDepth 20000 in
set_option maxHeartbeats 16000000 in
theorem ok_X6_look_57 {l : Launch} {B : Nat} {q : z_O × z_S} (hst : l.stackTraces = false) : ∀ (s0 : Int32) (S : z_S), F_X6_look_57 B s0 S = some q → z_W l I_X6_look (R_X6_look q) B q 57 [none, none, none] [.int s0] S := by
  intro s0 S hF
  unfold F_X6_look_57 at hF
  exact z_ireturn rfl dX6_look_57 (Option.some.inj hF).symm
def F_X6_look_25 (B : Nat)  (v1 : Int32) (v2 : Int32) (s0 : Int32) (S : z_S) : Option (z_O × z_S) :=
  z_lt (z_ui S 60 0 s0) fun S1 =>
  (if (S1.2.1 60 0) ≤ 0 then
    z_bn (F_X6_isName B v2 S1) fun r2 S3 =>
    (if r2 = 0 then
      F_X6_look_57 B (-1) S3
    else
      z_bn (F_X6_entry B v1 v2 S3) fun r5 S6 =>
      (F_X6_look_57 B r5 S6))
  else
    F_X6_look_57 B 0 S1)
set_option maxRecDepth 20000 in
set_option maxHeartbeats 16000000 in
theorem ok_X6_look_25 {l : Launch} {B : Nat} {q : z_O × z_S} (hst : l.stackTraces = false) : ∀ (v1 : Int32) (v2 : Int32) (s0 : Int32) (S : z_S), F_X6_look_25 B v1 v2 s0 S = some q → z_W l I_X6_look (R_X6_look q) B q 25 [some (.ref 60), some (.int v1), some (.int v2)] [.int s0, .ref 60] S := by
  intro v1 v2 s0 S hF
  unfold F_X6_look_25 at hF
  refine pf_X6_40 (pc' := 28) rfl is_6_60 dX6_look_25 rfl (fun S1 eS1 => ?_)
  replace hF := z_lte hF S1 eS1
  refine z_aload_n (pc' := 29) dX6_look_28 rfl rfl rfl ?_
  refine gf_X6_40 (pc' := 32) rfl is_6_60 dX6_look_29 rfl ?_
  refine z_if_le (tgt := 39) (pc' := 35) dX6_look_32 (by decide) rfl (fun c9 => ?_) (fun c9 => ?_)
  · rw [if_pos c9] at hF
    refine z_aload_n (pc' := 40) dX6_look_39 rfl rfl rfl ?_
    refine z_iload_n (pc' := 41) dX6_look_40 rfl rfl rfl ?_
    obtain ⟨r2, S3, hc4, hF⟩ := z_bne hF
    refine k_X6_isName (F := 4) (L := 100) (pc' := 44) hc4 hst zw_136 rfl rfl (by decide) (by decide) (by decide) dX6_look_41 rfl ?_
    refine z_if_eq (tgt := 56) (pc' := 47) dX6_look_44 (by decide) rfl (fun c8 => ?_) (fun c8 => ?_)
    · rw [if_pos c8] at hF
      refine z_iconst (v := (-1)) (pc' := 57) dX6_look_56 (by decide) rfl ?_
      refine z_wk (ls' := [none, none, none]) (z_len1 (z_len1 (z_len1 z_le0))) ?_
      exact (ok_X6_look_57 hst) _ _ hF
    · rw [if_neg c8] at hF
      refine z_aload_n (pc' := 48) dX6_look_47 rfl rfl rfl ?_
      refine z_iload_n (pc' := 49) dX6_look_48 rfl rfl rfl ?_
      refine z_iload_n (pc' := 50) dX6_look_49 rfl rfl rfl ?_
      obtain ⟨r5, S6, hc7, hF⟩ := z_bne hF
      refine k_X6_entry (F := 4) (L := 100) (pc' := 53) hc7 hst zw_137 rfl rfl (by decide) (by decide) (by decide) dX6_look_50 rfl ?_
      refine z_goto (pc' := 57) dX6_look_53 (by decide) ?_
      refine z_wk (ls' := [none, none, none]) (z_len1 (z_len1 (z_len1 z_le0))) ?_
      exact (ok_X6_look_57 hst) _ _ hF
  · rw [if_neg c9] at hF
    refine z_iconst (v := 0) (pc' := 36) dX6_look_35 (by decide) rfl ?_
    refine z_goto (pc' := 57) dX6_look_36 (by decide) ?_
    refine z_wk (ls' := [none, none, none]) (z_len1 (z_len1 (z_len1 z_le0))) ?_
    exact (ok_X6_look_57 hst) _ _ hF
def F_X6_look (B : Nat) (p1 : Int32) (p2 : Int32) (S : z_S) : Option (z_O × z_S) :=
  if (S.2.1 60 10) = 0 then
    z_bn (F_X6_isDirectory B p1 S) fun r1 S2 =>
    (if r1 = 0 then
      F_X6_look_25 B p1 p2 2 S2
    else
      F_X6_look_25 B p1 p2 0 S2)
  else
    F_X6_look_25 B p1 p2 1 S
set_option maxRecDepth 20000 in
set_option maxHeartbeats 16000000 in
theorem c_X6_look {l : Launch} {B : Nat} {p1 : Int32} {p2 : Int32} {S : z_S} {q : z_O × z_S} (hst : l.stackTraces = false) (hF : F_X6_look B p1 p2 S = some q) : z_Met l I_X6_look 4 100 B [.ref 60, .int p1, .int p2] S q.1 q.2 := by
  refine z_enter (ls := [some (.ref 60), some (.int p1), some (.int p2)]) (n := 0) (by decide) rfl (Nat.le_of_ble_eq_true rfl) hst ?_
  unfold F_X6_look at hF
  refine z_aload_n (pc' := 1) dX6_look_0 rfl rfl rfl ?_
  refine z_aload_n (pc' := 2) dX6_look_1 rfl rfl rfl ?_
  refine gf_X6_149 (pc' := 5) rfl is_6_60 dX6_look_2 rfl ?_
  refine z_if_eq (tgt := 12) (pc' := 8) dX6_look_5 (by decide) rfl (fun c5 => ?_) (fun c5 => ?_)
  · rw [if_pos c5] at hF
    refine z_aload_n (pc' := 13) dX6_look_12 rfl rfl rfl ?_
    refine z_iload_n (pc' := 14) dX6_look_13 rfl rfl rfl ?_
    obtain ⟨r1, S2, hc3, hF⟩ := z_bne hF
    refine k_X6_isDirectory (F := 4) (L := 100) (pc' := 17) hc3 hst zw_135 rfl rfl (by decide) (by decide) (Nat.le_of_ble_eq_true rfl) dX6_look_14 rfl ?_
    refine z_if_ne (tgt := 24) (pc' := 20) dX6_look_17 (by decide) rfl (fun c4 => ?_) (fun c4 => ?_)
    · rw [if_neg c4] at hF
      refine z_iconst (v := 0) (pc' := 25) dX6_look_24 (by decide) rfl ?_
      refine z_wk (ls' := [some (.ref 60), some (.int p1), some (.int p2)]) (z_lec rfl (z_lec rfl (z_lec rfl z_le0))) ?_
      exact (ok_X6_look_25 hst) _ _ _ _ hF
    · rw [if_pos c4] at hF
      refine z_iconst (v := 2) (pc' := 21) dX6_look_20 (by decide) rfl ?_
      refine z_goto (pc' := 25) dX6_look_21 (by decide) ?_
      refine z_wk (ls' := [some (.ref 60), some (.int p1), some (.int p2)]) (z_lec rfl (z_lec rfl (z_lec rfl z_le0))) ?_
      exact (ok_X6_look_25 hst) _ _ _ _ hF
  · rw [if_neg c5] at hF
    refine z_iconst (v := 1) (pc' := 9) dX6_look_8 (by decide) rfl ?_
    refine z_goto (pc' := 25) dX6_look_9 (by decide) ?_
    refine z_wk (ls' := [some (.ref 60), some (.int p1), some (.int p2)]) (z_lec rfl (z_lec rfl (z_lec rfl z_le0))) ?_
    exact (ok_X6_look_25 hst) _ _ _ _ hF
theorem ok_X6_look : z_okV I_X6_look 2 := ⟨⟨z_Gin (List.mem_of_getElem? (i := 1173) (by decide +kernel)) rfl, z_Gin (List.mem_of_getElem? (i := 1174) (by decide +kernel)) rfl, z_Gin (List.mem_of_getElem? (i := 98) (by decide +kernel)) rfl, z_Gin (List.mem_of_getElem? (i := 1175) (by decide +kernel)) rfl⟩, by decide, by decide, by decide +kernel⟩
theorem k_X6_look {l : Launch} {I : z_I} {R : Room} {B : Nat} {p1 : Int32} {p2 : Int32} {q : z_O × z_S} {pc pc' : Nat} {ls : List (Option Value)} {st : List Value} {S S1 : z_S} {idx F L : Nat} {r : Int32}  (hF : F_X6_look B p1 p2 S = some (.inl (some r), S1)) (hst : l.stackTraces = false) (w : Cond.methodLink I.1.cls idx yX6_look ∈ z_G) (hRF : R.frames = F) (hRL : R.locals = L) (h1 : 5 ≤ F) (h2 : 122 ≤ L) (hs : (st.map fun v => v.category).sum ≤ 8) (d : decode I.2.1 pc = .ok (.invokevirtual idx, 3)) (hp : pc + 3 = pc') (k : z_W l I R B q pc' ls (.int r :: st) S1) : z_W l I R B q pc ls (.int p2 :: .int p1 :: .ref 60 :: st) S := z_callV (Y := I_X6_look) (As := [.int p1, .int p2]) (st := st) (r := (some r)) (S1 := S1) (c_X6_look (q := (.inl (some r), S1)) hst hF) ok_X6_look w (ci := 6) rfl is_6_60.1 is_6_60.2 rfl ⟨by rw [hRF]; exact h1, by rw [hRL]; exact h2⟩ hs d hp rfl k

abbrev I_X6_name : z_I := (yX6_name, cX6_name, 7, some .int)
abbrev R_X6_name (q : z_O × z_S) : Room := { frames := 3, locals := 64, cells := z_mc q.1, slots := 6 * z_mc q.1 }
def F_X6_name_172 (B : Nat) (k89 : Int32 → Int32 → Int32 → Int32 → Int32 → z_S → Option (z_O × z_S)) (v1 : Int32) (v3 : Int32) (v4 : Int32) (v5 : Int32) (v6 : Int32) (S : z_S) : Option (z_O × z_S) :=
  k89 v1 v3 v4 v5 (v6 + 1) S
set_option maxRecDepth 20000 in
set_option maxHeartbeats 16000000 in
theorem ok_X6_name_172 {l : Launch} {B : Nat} {q : z_O × z_S} (hst : l.stackTraces = false) {k89 : Int32 → Int32 → Int32 → Int32 → Int32 → z_S → Option (z_O × z_S)} (hk89 : ∀ (v1 : Int32) (v3 : Int32) (v4 : Int32) (v5 : Int32) (v6 : Int32) (S : z_S), k89 v1 v3 v4 v5 v6 S = some q → z_W l I_X6_name (R_X6_name q) B q 89 [some (.ref 60), some (.int v1), none, some (.int v3), some (.int v4), some (.int v5), some (.int v6)] [] S) : ∀ (v1 : Int32) (v3 : Int32) (v4 : Int32) (v5 : Int32) (v6 : Int32) (S : z_S), F_X6_name_172 B k89 v1 v3 v4 v5 v6 S = some q → z_W l I_X6_name (R_X6_name q) B q 172 [some (.ref 60), some (.int v1), none, some (.int v3), some (.int v4), some (.int v5), some (.int v6)] [] S := by
  intro v1 v3 v4 v5 v6 S hF
  unfold F_X6_name_172 at hF
  refine z_iinc (v := v6 + 1) (pc' := 175) dX6_name_172 rfl rfl (by decide) rfl rfl ?_
  refine z_goto (pc' := 89) dX6_name_175 (by decide) ?_
  refine z_wk (ls' := [some (.ref 60), some (.int v1), none, some (.int v3), some (.int v4), some (.int v5), some (.int (v6 + 1))]) (z_lec rfl (z_lec rfl (z_len1 (z_lec rfl (z_lec rfl (z_lec rfl (z_lec rfl z_le0))))))) ?_
  exact hk89 _ _ _ _ _ _ hF
def F_X6_name_184 (B : Nat)   (S : z_S) : Option (z_O × z_S) :=
  some (.inl (some 0), S)
set_option maxRecDepth 20000 in
set_option maxHeartbeats 16000000 in
theorem ok_X6_name_184 {l : Launch} {B : Nat} {q : z_O × z_S} (hst : l.stackTraces = false) : ∀ (S : z_S), F_X6_name_184 B S = some q → z_W l I_X6_name (R_X6_name q) B q 184 [none, none, none, none, none, none, none] [] S := by
  intro S hF
  unfold F_X6_name_184 at hF
  refine z_iconst (v := 0) (pc' := 185) dX6_name_184 (by decide) rfl ?_
  exact z_ireturn rfl dX6_name_185 (Option.some.inj hF).symm
def F_X6_name_89 (B : Nat) (k53 : Int32 → Int32 → Int32 → z_S → Option (z_O × z_S)) : Nat → Int32 → Int32 → Int32 → Int32 → Int32 → z_S → Option (z_O × z_S)
  | 0, _, _, _, _, _, _ => none
  | n + 1, v1, v3, v4, v5, v6, S => z_gd (z_inb (3852 + v5) 25366) (
  z_lt (S.1 61 (z_ix (3852 + v5))) fun x2 =>
  (if x2 ≤ v6 then
    k53 v1 v3 (v4 + 1) S
  else
    z_gd (z_inb ((4620 + (16 * v5)) + v6) 25366) (
    z_lt (S.1 61 (z_ix ((4620 + (16 * v5)) + v6))) fun x4 =>
    (if x4 = v1 then
      z_gd (z_inb ((6156 + (16 * v5)) + v6) 25366) (
      z_lt (S.1 61 (z_ix ((6156 + (16 * v5)) + v6))) fun x6 =>
      (if x6 = 1 then
        if v3 = 0 then
          z_gd (z_inb ((7692 + (16 * v5)) + v6) 25366) (
          z_lt (S.1 61 (z_ix ((7692 + (16 * v5)) + v6))) fun x8 =>
          (some (.inl (some x8), S)))
        else
          F_X6_name_172 B (F_X6_name_89 B k53 n) v1 (v3 + (-1)) v4 v5 v6 S
      else
        F_X6_name_172 B (F_X6_name_89 B k53 n) v1 v3 v4 v5 v6 S))
    else
      F_X6_name_172 B (F_X6_name_89 B k53 n) v1 v3 v4 v5 v6 S))))
set_option maxRecDepth 20000 in
set_option maxHeartbeats 16000000 in
theorem ok_X6_name_89 {l : Launch} {B : Nat} {q : z_O × z_S} (hst : l.stackTraces = false) {k53 : Int32 → Int32 → Int32 → z_S → Option (z_O × z_S)} (hk53 : ∀ (v1 : Int32) (v3 : Int32) (v4 : Int32) (S : z_S), k53 v1 v3 v4 S = some q → z_W l I_X6_name (R_X6_name q) B q 53 [some (.ref 60), some (.int v1), none, some (.int v3), some (.int v4), none, none] [] S) : ∀ (n : Nat) (v1 : Int32) (v3 : Int32) (v4 : Int32) (v5 : Int32) (v6 : Int32) (S : z_S), F_X6_name_89 B k53 n v1 v3 v4 v5 v6 S = some q → z_W l I_X6_name (R_X6_name q) B q 89 [some (.ref 60), some (.int v1), none, some (.int v3), some (.int v4), some (.int v5), some (.int v6)] [] S := by
  intro n
  induction n with
  | zero => intro v1 v3 v4 v5 v6 S hF; cases hF
  | succ n ih =>
    intro v1 v3 v4 v5 v6 S hF
    rw [F_X6_name_89] at hF
    refine z_iload (pc' := 91) dX6_name_89 rfl rfl ?_
    refine z_aload_n (pc' := 92) dX6_name_91 rfl rfl rfl ?_
    refine gf_X6_7 (b := 61) (pc' := 95) rfl is_6_60 rfl dX6_name_92 rfl ?_
    refine z_sipush (v := 3852) (pc' := 98) dX6_name_95 (by decide) rfl ?_
    refine z_iload (pc' := 100) dX6_name_98 rfl rfl ?_
    refine z_iadd (pc' := 101) dX6_name_100 rfl ?_
    obtain ⟨g1, hF⟩ := z_gde hF
    refine z_iaload (pc' := 102) (ar_6_f3 is_6_60) (z_inbe g1) dX6_name_101 rfl ?_
    refine z_topi (fun x2 ex2 => ?_)
    replace hF := z_lte hF x2 ex2
    refine z_icmp_ge (tgt := 178) (pc' := 105) dX6_name_102 (by decide) rfl (fun c12 => ?_) (fun c12 => ?_)
    · rw [if_pos c12] at hF
      refine z_iinc (v := v4 + 1) (pc' := 181) dX6_name_178 rfl rfl (by decide) rfl rfl ?_
      refine z_goto (pc' := 53) dX6_name_181 (by decide) ?_
      refine z_wk (ls' := [some (.ref 60), some (.int v1), none, some (.int v3), some (.int (v4 + 1)), none, none]) (z_lec rfl (z_lec rfl (z_len1 (z_lec rfl (z_lec rfl (z_len1 (z_len1 z_le0))))))) ?_
      exact hk53 _ _ _ _ hF
    · rw [if_neg c12] at hF
      refine z_aload_n (pc' := 106) dX6_name_105 rfl rfl rfl ?_
      refine gf_X6_7 (b := 61) (pc' := 109) rfl is_6_60 rfl dX6_name_106 rfl ?_
      refine z_sipush (v := 4620) (pc' := 112) dX6_name_109 (by decide) rfl ?_
      refine z_bipush (v := 16) (pc' := 114) dX6_name_112 (by decide) rfl ?_
      refine z_iload (pc' := 116) dX6_name_114 rfl rfl ?_
      refine z_imul (pc' := 117) dX6_name_116 rfl ?_
      refine z_iadd (pc' := 118) dX6_name_117 rfl ?_
      refine z_iload (pc' := 120) dX6_name_118 rfl rfl ?_
      refine z_iadd (pc' := 121) dX6_name_120 rfl ?_
      obtain ⟨g3, hF⟩ := z_gde hF
      refine z_iaload (pc' := 122) (ar_6_f3 is_6_60) (z_inbe g3) dX6_name_121 rfl ?_
      refine z_topi (fun x4 ex4 => ?_)
      replace hF := z_lte hF x4 ex4
      refine z_iload_n (pc' := 123) dX6_name_122 rfl rfl rfl ?_
      refine z_icmp_ne (tgt := 172) (pc' := 126) dX6_name_123 (by decide) rfl (fun c11 => ?_) (fun c11 => ?_)
      · rw [if_neg c11] at hF
        refine z_wk (ls' := [some (.ref 60), some (.int v1), none, some (.int v3), some (.int v4), some (.int v5), some (.int v6)]) (z_lec rfl (z_lec rfl (z_len1 (z_lec rfl (z_lec rfl (z_lec rfl (z_lec rfl z_le0))))))) ?_
        exact (ok_X6_name_172 hst ih) _ _ _ _ _ _ hF
      · rw [if_pos c11] at hF
        refine z_aload_n (pc' := 127) dX6_name_126 rfl rfl rfl ?_
        refine gf_X6_7 (b := 61) (pc' := 130) rfl is_6_60 rfl dX6_name_127 rfl ?_
        refine z_sipush (v := 6156) (pc' := 133) dX6_name_130 (by decide) rfl ?_
        refine z_bipush (v := 16) (pc' := 135) dX6_name_133 (by decide) rfl ?_
        refine z_iload (pc' := 137) dX6_name_135 rfl rfl ?_
        refine z_imul (pc' := 138) dX6_name_137 rfl ?_
        refine z_iadd (pc' := 139) dX6_name_138 rfl ?_
        refine z_iload (pc' := 141) dX6_name_139 rfl rfl ?_
        refine z_iadd (pc' := 142) dX6_name_141 rfl ?_
        obtain ⟨g5, hF⟩ := z_gde hF
        refine z_iaload (pc' := 143) (ar_6_f3 is_6_60) (z_inbe g5) dX6_name_142 rfl ?_
        refine z_topi (fun x6 ex6 => ?_)
        replace hF := z_lte hF x6 ex6
        refine z_iconst (v := 1) (pc' := 144) dX6_name_143 (by decide) rfl ?_
        refine z_icmp_ne (tgt := 172) (pc' := 147) dX6_name_144 (by decide) rfl (fun c10 => ?_) (fun c10 => ?_)
        · rw [if_neg c10] at hF
          refine z_wk (ls' := [some (.ref 60), some (.int v1), none, some (.int v3), some (.int v4), some (.int v5), some (.int v6)]) (z_lec rfl (z_lec rfl (z_len1 (z_lec rfl (z_lec rfl (z_lec rfl (z_lec rfl z_le0))))))) ?_
          exact (ok_X6_name_172 hst ih) _ _ _ _ _ _ hF
        · rw [if_pos c10] at hF
          refine z_iload_n (pc' := 148) dX6_name_147 rfl rfl rfl ?_
          refine z_if_ne (tgt := 169) (pc' := 151) dX6_name_148 (by decide) rfl (fun c9 => ?_) (fun c9 => ?_)
          · rw [if_neg c9] at hF
            refine z_iinc (v := v3 + (-1)) (pc' := 172) dX6_name_169 rfl rfl (by decide) rfl rfl ?_
            refine z_wk (ls' := [some (.ref 60), some (.int v1), none, some (.int (v3 + (-1))), some (.int v4), some (.int v5), some (.int v6)]) (z_lec rfl (z_lec rfl (z_len1 (z_lec rfl (z_lec rfl (z_lec rfl (z_lec rfl z_le0))))))) ?_
            exact (ok_X6_name_172 hst ih) _ _ _ _ _ _ hF
          · rw [if_pos c9] at hF
            refine z_aload_n (pc' := 152) dX6_name_151 rfl rfl rfl ?_
            refine gf_X6_7 (b := 61) (pc' := 155) rfl is_6_60 rfl dX6_name_152 rfl ?_
            refine z_sipush (v := 7692) (pc' := 158) dX6_name_155 (by decide) rfl ?_
            refine z_bipush (v := 16) (pc' := 160) dX6_name_158 (by decide) rfl ?_
            refine z_iload (pc' := 162) dX6_name_160 rfl rfl ?_
            refine z_imul (pc' := 163) dX6_name_162 rfl ?_
            refine z_iadd (pc' := 164) dX6_name_163 rfl ?_
            refine z_iload (pc' := 166) dX6_name_164 rfl rfl ?_
            refine z_iadd (pc' := 167) dX6_name_166 rfl ?_
            obtain ⟨g7, hF⟩ := z_gde hF
            refine z_iaload (pc' := 168) (ar_6_f3 is_6_60) (z_inbe g7) dX6_name_167 rfl ?_
            refine z_topi (fun x8 ex8 => ?_)
            replace hF := z_lte hF x8 ex8
            exact z_ireturn rfl dX6_name_168 (Option.some.inj hF).symm
def F_X6_name_53 (B : Nat)  : Nat → Int32 → Int32 → Int32 → z_S → Option (z_O × z_S)
  | 0, _, _, _, _ => none
  | n + 1, v1, v3, v4, S => if (S.2.1 60 0) = 0 then
    z_gd (z_inb 13068 25366) (
    z_lt (S.1 61 (z_ix (13068))) fun x2 =>
    (if x2 ≤ v4 then
      F_X6_name_184 B S
    else
      z_gd (z_inb (12300 + v4) 25366) (
      z_lt (S.1 61 (z_ix (12300 + v4))) fun x4 =>
      (F_X6_name_89 B (F_X6_name_53 B n) z_n v1 v3 v4 x4 0 S))))
  else
    F_X6_name_184 B S
set_option maxRecDepth 20000 in
set_option maxHeartbeats 16000000 in
theorem ok_X6_name_53 {l : Launch} {B : Nat} {q : z_O × z_S} (hst : l.stackTraces = false) : ∀ (n : Nat) (v1 : Int32) (v3 : Int32) (v4 : Int32) (S : z_S), F_X6_name_53 B n v1 v3 v4 S = some q → z_W l I_X6_name (R_X6_name q) B q 53 [some (.ref 60), some (.int v1), none, some (.int v3), some (.int v4), none, none] [] S := by
  intro n
  induction n with
  | zero => intro v1 v3 v4 S hF; cases hF
  | succ n ih =>
    intro v1 v3 v4 S hF
    rw [F_X6_name_53] at hF
    refine z_aload_n (pc' := 54) dX6_name_53 rfl rfl rfl ?_
    refine gf_X6_40 (pc' := 57) rfl is_6_60 dX6_name_54 rfl ?_
    refine z_if_ne (tgt := 184) (pc' := 60) dX6_name_57 (by decide) rfl (fun c6 => ?_) (fun c6 => ?_)
    · rw [if_neg c6] at hF
      refine z_wk (ls' := [none, none, none, none, none, none, none]) (z_len1 (z_len1 (z_len1 (z_len1 (z_len1 (z_len1 (z_len1 z_le0))))))) ?_
      exact (ok_X6_name_184 hst) _ hF
    · rw [if_pos c6] at hF
      refine z_iload (pc' := 62) dX6_name_60 rfl rfl ?_
      refine z_aload_n (pc' := 63) dX6_name_62 rfl rfl rfl ?_
      refine gf_X6_7 (b := 61) (pc' := 66) rfl is_6_60 rfl dX6_name_63 rfl ?_
      refine z_sipush (v := 13068) (pc' := 69) dX6_name_66 (by decide) rfl ?_
      obtain ⟨g1, hF⟩ := z_gde hF
      refine z_iaload (pc' := 70) (ar_6_f3 is_6_60) (z_inbe g1) dX6_name_69 rfl ?_
      refine z_topi (fun x2 ex2 => ?_)
      replace hF := z_lte hF x2 ex2
      refine z_icmp_ge (tgt := 184) (pc' := 73) dX6_name_70 (by decide) rfl (fun c5 => ?_) (fun c5 => ?_)
      · rw [if_pos c5] at hF
        refine z_wk (ls' := [none, none, none, none, none, none, none]) (z_len1 (z_len1 (z_len1 (z_len1 (z_len1 (z_len1 (z_len1 z_le0))))))) ?_
        exact (ok_X6_name_184 hst) _ hF
      · rw [if_neg c5] at hF
        refine z_aload_n (pc' := 74) dX6_name_73 rfl rfl rfl ?_
        refine gf_X6_7 (b := 61) (pc' := 77) rfl is_6_60 rfl dX6_name_74 rfl ?_
        refine z_sipush (v := 12300) (pc' := 80) dX6_name_77 (by decide) rfl ?_
        refine z_iload (pc' := 82) dX6_name_80 rfl rfl ?_
        refine z_iadd (pc' := 83) dX6_name_82 rfl ?_
        obtain ⟨g3, hF⟩ := z_gde hF
        refine z_iaload (pc' := 84) (ar_6_f3 is_6_60) (z_inbe g3) dX6_name_83 rfl ?_
        refine z_topi (fun x4 ex4 => ?_)
        replace hF := z_lte hF x4 ex4
        refine z_istore (pc' := 86) dX6_name_84 (by decide) rfl rfl ?_
        refine z_iconst (v := 0) (pc' := 87) dX6_name_86 (by decide) rfl ?_
        refine z_istore (pc' := 89) dX6_name_87 (by decide) rfl rfl ?_
        refine z_wk (ls' := [some (.ref 60), some (.int v1), none, some (.int v3), some (.int v4), some (.int x4), some (.int 0)]) (z_lec rfl (z_lec rfl (z_len1 (z_lec rfl (z_lec rfl (z_lec rfl (z_lec rfl z_le0))))))) ?_
        exact (ok_X6_name_89 hst ih z_n) _ _ _ _ _ _ hF
def F_X6_name_45 (B : Nat)  (v1 : Int32) (v2 : Int32) (s0 : Int32) (S : z_S) : Option (z_O × z_S) :=
  z_lt (z_ui S 60 0 s0) fun S1 =>
  (F_X6_name_53 B z_n v1 v2 0 S1)
set_option maxRecDepth 20000 in
set_option maxHeartbeats 16000000 in
theorem ok_X6_name_45 {l : Launch} {B : Nat} {q : z_O × z_S} (hst : l.stackTraces = false) : ∀ (v1 : Int32) (v2 : Int32) (s0 : Int32) (S : z_S), F_X6_name_45 B v1 v2 s0 S = some q → z_W l I_X6_name (R_X6_name q) B q 45 [some (.ref 60), some (.int v1), some (.int v2), none, none, none, none] [.int s0, .ref 60] S := by
  intro v1 v2 s0 S hF
  unfold F_X6_name_45 at hF
  refine pf_X6_40 (pc' := 48) rfl is_6_60 dX6_name_45 rfl (fun S1 eS1 => ?_)
  replace hF := z_lte hF S1 eS1
  refine z_iload_n (pc' := 49) dX6_name_48 rfl rfl rfl ?_
  refine z_istore_n (pc' := 50) dX6_name_49 rfl (by decide) rfl rfl ?_
  refine z_iconst (v := 0) (pc' := 51) dX6_name_50 (by decide) rfl ?_
  refine z_istore (pc' := 53) dX6_name_51 (by decide) rfl rfl ?_
  refine z_wk (ls' := [some (.ref 60), some (.int v1), none, some (.int v2), some (.int 0), none, none]) (z_lec rfl (z_lec rfl (z_len1 (z_lec rfl (z_lec rfl (z_len1 (z_len1 z_le0))))))) ?_
  exact (ok_X6_name_53 hst z_n) _ _ _ _ hF
def F_X6_name_40 (B : Nat) (k45 : Int32 → Int32 → Int32 → z_S → Option (z_O × z_S)) (v1 : Int32) (v2 : Int32) (S : z_S) : Option (z_O × z_S) :=
  k45 v1 v2 2 S
set_option maxRecDepth 20000 in
set_option maxHeartbeats 16000000 in
theorem ok_X6_name_40 {l : Launch} {B : Nat} {q : z_O × z_S} (hst : l.stackTraces = false) {k45 : Int32 → Int32 → Int32 → z_S → Option (z_O × z_S)} (hk45 : ∀ (v1 : Int32) (v2 : Int32) (s0 : Int32) (S : z_S), k45 v1 v2 s0 S = some q → z_W l I_X6_name (R_X6_name q) B q 45 [some (.ref 60), some (.int v1), some (.int v2), none, none, none, none] [.int s0, .ref 60] S) : ∀ (v1 : Int32) (v2 : Int32) (S : z_S), F_X6_name_40 B k45 v1 v2 S = some q → z_W l I_X6_name (R_X6_name q) B q 40 [some (.ref 60), some (.int v1), some (.int v2), none, none, none, none] [.ref 60] S := by
  intro v1 v2 S hF
  unfold F_X6_name_40 at hF
  refine z_iconst (v := 2) (pc' := 41) dX6_name_40 (by decide) rfl ?_
  refine z_goto (pc' := 45) dX6_name_41 (by decide) ?_
  refine z_wk (ls' := [some (.ref 60), some (.int v1), some (.int v2), none, none, none, none]) (z_lec rfl (z_lec rfl (z_lec rfl (z_len1 (z_len1 (z_len1 (z_len1 z_le0))))))) ?_
  exact hk45 _ _ _ _ hF
def F_X6_name (B : Nat) (p1 : Int32) (p2 : Int32) (S : z_S) : Option (z_O × z_S) :=
  if (S.2.1 60 10) = 0 then
    z_bn (F_X6_isDirectory B p1 S) fun r1 S2 =>
    (if r1 = 0 then
      F_X6_name_40 B (F_X6_name_45 B ) p1 p2 S2
    else
      z_gd (z_inb (218 + p1) 25366) (
      z_lt (S2.1 61 (z_ix (218 + p1))) fun x5 =>
      (z_bn (F_X6_isIn B p2 0 (x5 - 1) S2) fun r6 S7 =>
      (if r6 = 0 then
        F_X6_name_40 B (F_X6_name_45 B ) p1 p2 S7
      else
        F_X6_name_45 B p1 p2 0 S7))))
  else
    F_X6_name_45 B p1 p2 1 S
set_option maxRecDepth 20000 in
set_option maxHeartbeats 16000000 in
theorem c_X6_name {l : Launch} {B : Nat} {p1 : Int32} {p2 : Int32} {S : z_S} {q : z_O × z_S} (hst : l.stackTraces = false) (hF : F_X6_name B p1 p2 S = some q) : z_Met l I_X6_name 3 64 B [.ref 60, .int p1, .int p2] S q.1 q.2 := by
  refine z_enter (ls := [some (.ref 60), some (.int p1), some (.int p2), none, none, none, none]) (n := 4) (by decide) rfl (Nat.le_of_ble_eq_true rfl) hst ?_
  unfold F_X6_name at hF
  refine z_aload_n (pc' := 1) dX6_name_0 rfl rfl rfl ?_
  refine z_aload_n (pc' := 2) dX6_name_1 rfl rfl rfl ?_
  refine gf_X6_149 (pc' := 5) rfl is_6_60 dX6_name_2 rfl ?_
  refine z_if_eq (tgt := 12) (pc' := 8) dX6_name_5 (by decide) rfl (fun c11 => ?_) (fun c11 => ?_)
  · rw [if_pos c11] at hF
    refine z_aload_n (pc' := 13) dX6_name_12 rfl rfl rfl ?_
    refine z_iload_n (pc' := 14) dX6_name_13 rfl rfl rfl ?_
    obtain ⟨r1, S2, hc3, hF⟩ := z_bne hF
    refine k_X6_isDirectory (F := 3) (L := 64) (pc' := 17) hc3 hst zw_135 rfl rfl (by decide) (by decide) (Nat.le_of_ble_eq_true rfl) dX6_name_14 rfl ?_
    refine z_if_eq (tgt := 40) (pc' := 20) dX6_name_17 (by decide) rfl (fun c10 => ?_) (fun c10 => ?_)
    · rw [if_pos c10] at hF
      refine z_wk (ls' := [some (.ref 60), some (.int p1), some (.int p2), none, none, none, none]) (z_lec rfl (z_lec rfl (z_lec rfl (z_len1 (z_len1 (z_len1 (z_len1 z_le0))))))) ?_
      exact (ok_X6_name_40 hst (ok_X6_name_45 hst)) _ _ _ hF
    · rw [if_neg c10] at hF
      refine z_iload_n (pc' := 21) dX6_name_20 rfl rfl rfl ?_
      refine z_iconst (v := 0) (pc' := 22) dX6_name_21 (by decide) rfl ?_
      refine z_aload_n (pc' := 23) dX6_name_22 rfl rfl rfl ?_
      refine gf_X6_7 (b := 61) (pc' := 26) rfl is_6_60 rfl dX6_name_23 rfl ?_
      refine z_sipush (v := 218) (pc' := 29) dX6_name_26 (by decide) rfl ?_
      refine z_iload_n (pc' := 30) dX6_name_29 rfl rfl rfl ?_
      refine z_iadd (pc' := 31) dX6_name_30 rfl ?_
      obtain ⟨g4, hF⟩ := z_gde hF
      refine z_iaload (pc' := 32) (ar_6_f3 is_6_60) (z_inbe g4) dX6_name_31 rfl ?_
      refine z_topi (fun x5 ex5 => ?_)
      replace hF := z_lte hF x5 ex5
      refine z_iconst (v := 1) (pc' := 33) dX6_name_32 (by decide) rfl ?_
      refine z_isub (pc' := 34) dX6_name_33 rfl ?_
      obtain ⟨r6, S7, hc8, hF⟩ := z_bne hF
      refine k_X6_isIn (F := 3) (L := 64) (pc' := 37) hc8 hst zw_104 rfl rfl (by decide) (by decide) (Nat.le_of_ble_eq_true rfl) dX6_name_34 rfl ?_
      refine z_if_ne (tgt := 44) (pc' := 40) dX6_name_37 (by decide) rfl (fun c9 => ?_) (fun c9 => ?_)
      · rw [if_neg c9] at hF
        refine z_iconst (v := 0) (pc' := 45) dX6_name_44 (by decide) rfl ?_
        refine z_wk (ls' := [some (.ref 60), some (.int p1), some (.int p2), none, none, none, none]) (z_lec rfl (z_lec rfl (z_lec rfl (z_len1 (z_len1 (z_len1 (z_len1 z_le0))))))) ?_
        exact (ok_X6_name_45 hst) _ _ _ _ hF
      · rw [if_pos c9] at hF
        refine z_wk (ls' := [some (.ref 60), some (.int p1), some (.int p2), none, none, none, none]) (z_lec rfl (z_lec rfl (z_lec rfl (z_len1 (z_len1 (z_len1 (z_len1 z_le0))))))) ?_
        exact (ok_X6_name_40 hst (ok_X6_name_45 hst)) _ _ _ hF
  · rw [if_neg c11] at hF
    refine z_iconst (v := 1) (pc' := 9) dX6_name_8 (by decide) rfl ?_
    refine z_goto (pc' := 45) dX6_name_9 (by decide) ?_
    refine z_wk (ls' := [some (.ref 60), some (.int p1), some (.int p2), none, none, none, none]) (z_lec rfl (z_lec rfl (z_lec rfl (z_len1 (z_len1 (z_len1 (z_len1 z_le0))))))) ?_
    exact (ok_X6_name_45 hst) _ _ _ _ hF
theorem ok_X6_name : z_okV I_X6_name 2 := ⟨⟨z_Gin (List.mem_of_getElem? (i := 1177) (by decide +kernel)) rfl, z_Gin (List.mem_of_getElem? (i := 1178) (by decide +kernel)) rfl, z_Gin (List.mem_of_getElem? (i := 98) (by decide +kernel)) rfl, z_Gin (List.mem_of_getElem? (i := 1179) (by decide +kernel)) rfl⟩, by decide, by decide, by decide +kernel⟩
theorem k_X6_name {l : Launch} {I : z_I} {R : Room} {B : Nat} {p1 : Int32} {p2 : Int32} {q : z_O × z_S} {pc pc' : Nat} {ls : List (Option Value)} {st : List Value} {S S1 : z_S} {idx F L : Nat} {r : Int32}  (hF : F_X6_name B p1 p2 S = some (.inl (some r), S1)) (hst : l.stackTraces = false) (w : Cond.methodLink I.1.cls idx yX6_name ∈ z_G) (hRF : R.frames = F) (hRL : R.locals = L) (h1 : 4 ≤ F) (h2 : 90 ≤ L) (hs : (st.map fun v => v.category).sum ≤ 8) (d : decode I.2.1 pc = .ok (.invokevirtual idx, 3)) (hp : pc + 3 = pc') (k : z_W l I R B q pc' ls (.int r :: st) S1) : z_W l I R B q pc ls (.int p2 :: .int p1 :: .ref 60 :: st) S := z_callV (Y := I_X6_name) (As := [.int p1, .int p2]) (st := st) (r := (some r)) (S1 := S1) (c_X6_name (q := (.inl (some r), S1)) hst hF) ok_X6_name w (ci := 6) rfl is_6_60.1 is_6_60.2 rfl ⟨by rw [hRF]; exact h1, by rw [hRL]; exact h2⟩ hs d hp rfl k

abbrev I_X6_about : z_I := (yX6_about, cX6_about, 3, some .int)
abbrev R_X6_about (q : z_O × z_S) : Room := { frames := 2, locals := 43, cells := z_mc q.1, slots := 6 * z_mc q.1 }
def F_X6_about_175 (B : Nat)  (s0 : Int32) (S : z_S) : Option (z_O × z_S) :=
  some (.inl (some s0), S)
set_option maxRecDepth 20000 in
set_option maxHeartbeats 16000000 in
theorem ok_X6_about_175 {l : Launch} {B : Nat} {q : z_O × z_S} (hst : l.stackTraces = false) : ∀ (s0 : Int32) (S : z_S), F_X6_about_175 B s0 S = some q → z_W l I_X6_about (R_X6_about q) B q 175 [none, none, none] [.int s0] S := by
  intro s0 S hF
  unfold F_X6_about_175 at hF
  exact z_ireturn rfl dX6_about_175 (Option.some.inj hF).symm
def F_X6_about_54 (B : Nat)  (v1 : Int32) (v2 : Int32) (s0 : Int32) (S : z_S) : Option (z_O × z_S) :=
  z_lt (z_ui S 60 0 s0) fun S1 =>
  (if (S1.2.1 60 0) ≤ 0 then
    if v2 = 0 then
      z_gd (z_inb (96 + v1) 25366) (
      z_lt (S1.1 61 (z_ix (96 + v1))) fun x3 =>
      (some (.inl (some (x3 - 1)), S1)))
    else if v2 = 1 then
      z_gd (z_inb (157 + v1) 25366) (
      z_lt (S1.1 61 (z_ix (157 + v1))) fun x5 =>
      (some (.inl (some x5), S1)))
    else if v2 = 2 then
      z_gd (z_inb (218 + v1) 25366) (
      z_lt (S1.1 61 (z_ix (218 + v1))) fun x7 =>
      (some (.inl (some x7), S1)))
    else if v2 = 3 then
      z_gd (z_inb (279 + v1) 25366) (
      z_lt (S1.1 61 (z_ix (279 + v1))) fun x9 =>
      (some (.inl (some x9), S1)))
    else if v2 = 4 then
      z_gd (z_inb (96 + v1) 25366) (
      z_lt (S1.1 61 (z_ix (96 + v1))) fun x11 =>
      (if x11 = 2 then
        z_gd (z_inb (218 + v1) 25366) (
        z_lt (S1.1 61 (z_ix (218 + v1))) fun x13 =>
        (z_bn (F_X6_tailOf B x13 S1) fun r14 S15 =>
        (F_X6_about_175 B r14 S15)))
      else
        F_X6_about_175 B 0 S1))
    else 
      z_gd (z_inb (((340 + (16 * v1)) + v2) - 5) 25366) (
      z_lt (S1.1 61 (z_ix (((340 + (16 * v1)) + v2) - 5))) fun x19 =>
      (some (.inl (some x19), S1)))
  else
    some (.inl (some 0), S1))
set_option maxRecDepth 20000 in
set_option maxHeartbeats 16000000 in
theorem ok_X6_about_54 {l : Launch} {B : Nat} {q : z_O × z_S} (hst : l.stackTraces = false) : ∀ (v1 : Int32) (v2 : Int32) (s0 : Int32) (S : z_S), F_X6_about_54 B v1 v2 s0 S = some q → z_W l I_X6_about (R_X6_about q) B q 54 [some (.ref 60), some (.int v1), some (.int v2)] [.int s0, .ref 60] S := by
  intro v1 v2 s0 S hF
  unfold F_X6_about_54 at hF
  refine pf_X6_40 (pc' := 57) rfl is_6_60 dX6_about_54 rfl (fun S1 eS1 => ?_)
  replace hF := z_lte hF S1 eS1
  refine z_aload_n (pc' := 58) dX6_about_57 rfl rfl rfl ?_
  refine gf_X6_40 (pc' := 61) rfl is_6_60 dX6_about_58 rfl ?_
  refine z_if_le (tgt := 66) (pc' := 64) dX6_about_61 (by decide) rfl (fun c25 => ?_) (fun c25 => ?_)
  · rw [if_pos c25] at hF
    refine z_iload_n (pc' := 67) dX6_about_66 rfl rfl rfl ?_
    by_cases c20 : v2 = 0
    · rw [if_pos c20] at hF
      refine z_tswIn (tgt := 100) dX6_about_67 (by rw [c20]; decide) (by rw [c20]; decide) (by rw [c20]; rfl) (by decide) ?_
      refine z_aload_n (pc' := 101) dX6_about_100 rfl rfl rfl ?_
      refine gf_X6_7 (b := 61) (pc' := 104) rfl is_6_60 rfl dX6_about_101 rfl ?_
      refine z_bipush (v := 96) (pc' := 106) dX6_about_104 (by decide) rfl ?_
      refine z_iload_n (pc' := 107) dX6_about_106 rfl rfl rfl ?_
      refine z_iadd (pc' := 108) dX6_about_107 rfl ?_
      obtain ⟨g2, hF⟩ := z_gde hF
      refine z_iaload (pc' := 109) (ar_6_f3 is_6_60) (z_inbe g2) dX6_about_108 rfl ?_
      refine z_topi (fun x3 ex3 => ?_)
      replace hF := z_lte hF x3 ex3
      refine z_iconst (v := 1) (pc' := 110) dX6_about_109 (by decide) rfl ?_
      refine z_isub (pc' := 111) dX6_about_110 rfl ?_
      exact z_ireturn rfl dX6_about_111 (Option.some.inj hF).symm
    rw [if_neg c20] at hF
    by_cases c21 : v2 = 1
    · rw [if_pos c21] at hF
      refine z_tswIn (tgt := 112) dX6_about_67 (by rw [c21]; decide) (by rw [c21]; decide) (by rw [c21]; rfl) (by decide) ?_
      refine z_aload_n (pc' := 113) dX6_about_112 rfl rfl rfl ?_
      refine gf_X6_7 (b := 61) (pc' := 116) rfl is_6_60 rfl dX6_about_113 rfl ?_
      refine z_sipush (v := 157) (pc' := 119) dX6_about_116 (by decide) rfl ?_
      refine z_iload_n (pc' := 120) dX6_about_119 rfl rfl rfl ?_
      refine z_iadd (pc' := 121) dX6_about_120 rfl ?_
      obtain ⟨g4, hF⟩ := z_gde hF
      refine z_iaload (pc' := 122) (ar_6_f3 is_6_60) (z_inbe g4) dX6_about_121 rfl ?_
      refine z_topi (fun x5 ex5 => ?_)
      replace hF := z_lte hF x5 ex5
      exact z_ireturn rfl dX6_about_122 (Option.some.inj hF).symm
    rw [if_neg c21] at hF
    by_cases c22 : v2 = 2
    · rw [if_pos c22] at hF
      refine z_tswIn (tgt := 123) dX6_about_67 (by rw [c22]; decide) (by rw [c22]; decide) (by rw [c22]; rfl) (by decide) ?_
      refine z_aload_n (pc' := 124) dX6_about_123 rfl rfl rfl ?_
      refine gf_X6_7 (b := 61) (pc' := 127) rfl is_6_60 rfl dX6_about_124 rfl ?_
      refine z_sipush (v := 218) (pc' := 130) dX6_about_127 (by decide) rfl ?_
      refine z_iload_n (pc' := 131) dX6_about_130 rfl rfl rfl ?_
      refine z_iadd (pc' := 132) dX6_about_131 rfl ?_
      obtain ⟨g6, hF⟩ := z_gde hF
      refine z_iaload (pc' := 133) (ar_6_f3 is_6_60) (z_inbe g6) dX6_about_132 rfl ?_
      refine z_topi (fun x7 ex7 => ?_)
      replace hF := z_lte hF x7 ex7
      exact z_ireturn rfl dX6_about_133 (Option.some.inj hF).symm
    rw [if_neg c22] at hF
    by_cases c23 : v2 = 3
    · rw [if_pos c23] at hF
      refine z_tswIn (tgt := 134) dX6_about_67 (by rw [c23]; decide) (by rw [c23]; decide) (by rw [c23]; rfl) (by decide) ?_
      refine z_aload_n (pc' := 135) dX6_about_134 rfl rfl rfl ?_
      refine gf_X6_7 (b := 61) (pc' := 138) rfl is_6_60 rfl dX6_about_135 rfl ?_
      refine z_sipush (v := 279) (pc' := 141) dX6_about_138 (by decide) rfl ?_
      refine z_iload_n (pc' := 142) dX6_about_141 rfl rfl rfl ?_
      refine z_iadd (pc' := 143) dX6_about_142 rfl ?_
      obtain ⟨g8, hF⟩ := z_gde hF
      refine z_iaload (pc' := 144) (ar_6_f3 is_6_60) (z_inbe g8) dX6_about_143 rfl ?_
      refine z_topi (fun x9 ex9 => ?_)
      replace hF := z_lte hF x9 ex9
      exact z_ireturn rfl dX6_about_144 (Option.some.inj hF).symm
    rw [if_neg c23] at hF
    by_cases c24 : v2 = 4
    · rw [if_pos c24] at hF
      refine z_tswIn (tgt := 145) dX6_about_67 (by rw [c24]; decide) (by rw [c24]; decide) (by rw [c24]; rfl) (by decide) ?_
      refine z_aload_n (pc' := 146) dX6_about_145 rfl rfl rfl ?_
      refine gf_X6_7 (b := 61) (pc' := 149) rfl is_6_60 rfl dX6_about_146 rfl ?_
      refine z_bipush (v := 96) (pc' := 151) dX6_about_149 (by decide) rfl ?_
      refine z_iload_n (pc' := 152) dX6_about_151 rfl rfl rfl ?_
      refine z_iadd (pc' := 153) dX6_about_152 rfl ?_
      obtain ⟨g10, hF⟩ := z_gde hF
      refine z_iaload (pc' := 154) (ar_6_f3 is_6_60) (z_inbe g10) dX6_about_153 rfl ?_
      refine z_topi (fun x11 ex11 => ?_)
      replace hF := z_lte hF x11 ex11
      refine z_iconst (v := 2) (pc' := 155) dX6_about_154 (by decide) rfl ?_
      refine z_icmp_ne (tgt := 174) (pc' := 158) dX6_about_155 (by decide) rfl (fun c17 => ?_) (fun c17 => ?_)
      · rw [if_neg c17] at hF
        refine z_iconst (v := 0) (pc' := 175) dX6_about_174 (by decide) rfl ?_
        refine z_wk (ls' := [none, none, none]) (z_len1 (z_len1 (z_len1 z_le0))) ?_
        exact (ok_X6_about_175 hst) _ _ hF
      · rw [if_pos c17] at hF
        refine z_aload_n (pc' := 159) dX6_about_158 rfl rfl rfl ?_
        refine gf_X6_7 (b := 61) (pc' := 162) rfl is_6_60 rfl dX6_about_159 rfl ?_
        refine z_sipush (v := 218) (pc' := 165) dX6_about_162 (by decide) rfl ?_
        refine z_iload_n (pc' := 166) dX6_about_165 rfl rfl rfl ?_
        refine z_iadd (pc' := 167) dX6_about_166 rfl ?_
        obtain ⟨g12, hF⟩ := z_gde hF
        refine z_iaload (pc' := 168) (ar_6_f3 is_6_60) (z_inbe g12) dX6_about_167 rfl ?_
        refine z_topi (fun x13 ex13 => ?_)
        replace hF := z_lte hF x13 ex13
        obtain ⟨r14, S15, hc16, hF⟩ := z_bne hF
        refine k_X6_tailOf (F := 2) (L := 43) (pc' := 171) hc16 hst zw_130 rfl rfl (by decide) (by decide) (by decide) dX6_about_168 rfl ?_
        refine z_goto (pc' := 175) dX6_about_171 (by decide) ?_
        refine z_wk (ls' := [none, none, none]) (z_len1 (z_len1 (z_len1 z_le0))) ?_
        exact (ok_X6_about_175 hst) _ _ hF
    rw [if_neg c24] at hF
    refine z_tswOut (tgt := 176) dX6_about_67 (z_out0_4 c20 c21 c22 c23 c24) (by decide) ?_
    refine z_aload_n (pc' := 177) dX6_about_176 rfl rfl rfl ?_
    refine gf_X6_7 (b := 61) (pc' := 180) rfl is_6_60 rfl dX6_about_177 rfl ?_
    refine z_sipush (v := 340) (pc' := 183) dX6_about_180 (by decide) rfl ?_
    refine z_bipush (v := 16) (pc' := 185) dX6_about_183 (by decide) rfl ?_
    refine z_iload_n (pc' := 186) dX6_about_185 rfl rfl rfl ?_
    refine z_imul (pc' := 187) dX6_about_186 rfl ?_
    refine z_iadd (pc' := 188) dX6_about_187 rfl ?_
    refine z_iload_n (pc' := 189) dX6_about_188 rfl rfl rfl ?_
    refine z_iadd (pc' := 190) dX6_about_189 rfl ?_
    refine z_iconst (v := 5) (pc' := 191) dX6_about_190 (by decide) rfl ?_
    refine z_isub (pc' := 192) dX6_about_191 rfl ?_
    obtain ⟨g18, hF⟩ := z_gde hF
    refine z_iaload (pc' := 193) (ar_6_f3 is_6_60) (z_inbe g18) dX6_about_192 rfl ?_
    refine z_topi (fun x19 ex19 => ?_)
    replace hF := z_lte hF x19 ex19
    exact z_ireturn rfl dX6_about_193 (Option.some.inj hF).symm
  · rw [if_neg c25] at hF
    refine z_iconst (v := 0) (pc' := 65) dX6_about_64 (by decide) rfl ?_
    exact z_ireturn rfl dX6_about_65 (Option.some.inj hF).symm
def F_X6_about_45 (B : Nat) (k54 : Int32 → Int32 → Int32 → z_S → Option (z_O × z_S)) (v1 : Int32) (v2 : Int32) (S : z_S) : Option (z_O × z_S) :=
  if 0 ≤ v2 then
    k54 v1 v2 0 S
  else
    k54 v1 v2 3 S
set_option maxRecDepth 20000 in
set_option maxHeartbeats 16000000 in
theorem ok_X6_about_45 {l : Launch} {B : Nat} {q : z_O × z_S} (hst : l.stackTraces = false) {k54 : Int32 → Int32 → Int32 → z_S → Option (z_O × z_S)} (hk54 : ∀ (v1 : Int32) (v2 : Int32) (s0 : Int32) (S : z_S), k54 v1 v2 s0 S = some q → z_W l I_X6_about (R_X6_about q) B q 54 [some (.ref 60), some (.int v1), some (.int v2)] [.int s0, .ref 60] S) : ∀ (v1 : Int32) (v2 : Int32) (S : z_S), F_X6_about_45 B k54 v1 v2 S = some q → z_W l I_X6_about (R_X6_about q) B q 45 [some (.ref 60), some (.int v1), some (.int v2)] [.ref 60] S := by
  intro v1 v2 S hF
  unfold F_X6_about_45 at hF
  refine z_iload_n (pc' := 46) dX6_about_45 rfl rfl rfl ?_
  refine z_if_ge (tgt := 53) (pc' := 49) dX6_about_46 (by decide) rfl (fun c1 => ?_) (fun c1 => ?_)
  · rw [if_pos c1] at hF
    refine z_iconst (v := 0) (pc' := 54) dX6_about_53 (by decide) rfl ?_
    refine z_wk (ls' := [some (.ref 60), some (.int v1), some (.int v2)]) (z_lec rfl (z_lec rfl (z_lec rfl z_le0))) ?_
    exact hk54 _ _ _ _ hF
  · rw [if_neg c1] at hF
    refine z_iconst (v := 3) (pc' := 50) dX6_about_49 (by decide) rfl ?_
    refine z_goto (pc' := 54) dX6_about_50 (by decide) ?_
    refine z_wk (ls' := [some (.ref 60), some (.int v1), some (.int v2)]) (z_lec rfl (z_lec rfl (z_lec rfl z_le0))) ?_
    exact hk54 _ _ _ _ hF
def F_X6_about_41 (B : Nat) (k54 : Int32 → Int32 → Int32 → z_S → Option (z_O × z_S)) (v1 : Int32) (v2 : Int32) (S : z_S) : Option (z_O × z_S) :=
  k54 v1 v2 2 S
set_option maxRecDepth 20000 in
set_option maxHeartbeats 16000000 in
theorem ok_X6_about_41 {l : Launch} {B : Nat} {q : z_O × z_S} (hst : l.stackTraces = false) {k54 : Int32 → Int32 → Int32 → z_S → Option (z_O × z_S)} (hk54 : ∀ (v1 : Int32) (v2 : Int32) (s0 : Int32) (S : z_S), k54 v1 v2 s0 S = some q → z_W l I_X6_about (R_X6_about q) B q 54 [some (.ref 60), some (.int v1), some (.int v2)] [.int s0, .ref 60] S) : ∀ (v1 : Int32) (v2 : Int32) (S : z_S), F_X6_about_41 B k54 v1 v2 S = some q → z_W l I_X6_about (R_X6_about q) B q 41 [some (.ref 60), some (.int v1), some (.int v2)] [.ref 60] S := by
  intro v1 v2 S hF
  unfold F_X6_about_41 at hF
  refine z_iconst (v := 2) (pc' := 42) dX6_about_41 (by decide) rfl ?_
  refine z_goto (pc' := 54) dX6_about_42 (by decide) ?_
  refine z_wk (ls' := [some (.ref 60), some (.int v1), some (.int v2)]) (z_lec rfl (z_lec rfl (z_lec rfl z_le0))) ?_
  exact hk54 _ _ _ _ hF
def F_X6_about (B : Nat) (p1 : Int32) (p2 : Int32) (S : z_S) : Option (z_O × z_S) :=
  if (S.2.1 60 10) = 0 then
    z_bn (F_X6_isObject B p1 S) fun r1 S2 =>
    (if r1 = 0 then
      F_X6_about_41 B (F_X6_about_54 B ) p1 p2 S2
    else
      if p2 < 5 then
        F_X6_about_45 B (F_X6_about_54 B ) p1 p2 S2
      else
        z_gd (z_inb (279 + p1) 25366) (
        z_lt (S2.1 61 (z_ix (279 + p1))) fun x5 =>
        (if (p2 - 5) < x5 then
          F_X6_about_45 B (F_X6_about_54 B ) p1 p2 S2
        else
          F_X6_about_41 B (F_X6_about_54 B ) p1 p2 S2)))
  else
    F_X6_about_54 B p1 p2 1 S
set_option maxRecDepth 20000 in
set_option maxHeartbeats 16000000 in
theorem c_X6_about {l : Launch} {B : Nat} {p1 : Int32} {p2 : Int32} {S : z_S} {q : z_O × z_S} (hst : l.stackTraces = false) (hF : F_X6_about B p1 p2 S = some q) : z_Met l I_X6_about 2 43 B [.ref 60, .int p1, .int p2] S q.1 q.2 := by
  refine z_enter (ls := [some (.ref 60), some (.int p1), some (.int p2)]) (n := 0) (by decide) rfl (Nat.le_of_ble_eq_true rfl) hst ?_
  unfold F_X6_about at hF
  refine z_aload_n (pc' := 1) dX6_about_0 rfl rfl rfl ?_
  refine z_aload_n (pc' := 2) dX6_about_1 rfl rfl rfl ?_
  refine gf_X6_149 (pc' := 5) rfl is_6_60 dX6_about_2 rfl ?_
  refine z_if_eq (tgt := 12) (pc' := 8) dX6_about_5 (by decide) rfl (fun c9 => ?_) (fun c9 => ?_)
  · rw [if_pos c9] at hF
    refine z_aload_n (pc' := 13) dX6_about_12 rfl rfl rfl ?_
    refine z_iload_n (pc' := 14) dX6_about_13 rfl rfl rfl ?_
    obtain ⟨r1, S2, hc3, hF⟩ := z_bne hF
    refine k_X6_isObject (F := 2) (L := 43) (pc' := 17) hc3 hst zw_105 rfl rfl (by decide) (by decide) (Nat.le_of_ble_eq_true rfl) dX6_about_14 rfl ?_
    refine z_if_eq (tgt := 41) (pc' := 20) dX6_about_17 (by decide) rfl (fun c8 => ?_) (fun c8 => ?_)
    · rw [if_pos c8] at hF
      refine z_wk (ls' := [some (.ref 60), some (.int p1), some (.int p2)]) (z_lec rfl (z_lec rfl (z_lec rfl z_le0))) ?_
      exact (ok_X6_about_41 hst (ok_X6_about_54 hst)) _ _ _ hF
    · rw [if_neg c8] at hF
      refine z_iload_n (pc' := 21) dX6_about_20 rfl rfl rfl ?_
      refine z_iconst (v := 5) (pc' := 22) dX6_about_21 (by decide) rfl ?_
      refine z_icmp_lt (tgt := 45) (pc' := 25) dX6_about_22 (by decide) rfl (fun c7 => ?_) (fun c7 => ?_)
      · rw [if_pos c7] at hF
        refine z_wk (ls' := [some (.ref 60), some (.int p1), some (.int p2)]) (z_lec rfl (z_lec rfl (z_lec rfl z_le0))) ?_
        exact (ok_X6_about_45 hst (ok_X6_about_54 hst)) _ _ _ hF
      · rw [if_neg c7] at hF
        refine z_iload_n (pc' := 26) dX6_about_25 rfl rfl rfl ?_
        refine z_iconst (v := 5) (pc' := 27) dX6_about_26 (by decide) rfl ?_
        refine z_isub (pc' := 28) dX6_about_27 rfl ?_
        refine z_aload_n (pc' := 29) dX6_about_28 rfl rfl rfl ?_
        refine gf_X6_7 (b := 61) (pc' := 32) rfl is_6_60 rfl dX6_about_29 rfl ?_
        refine z_sipush (v := 279) (pc' := 35) dX6_about_32 (by decide) rfl ?_
        refine z_iload_n (pc' := 36) dX6_about_35 rfl rfl rfl ?_
        refine z_iadd (pc' := 37) dX6_about_36 rfl ?_
        obtain ⟨g4, hF⟩ := z_gde hF
        refine z_iaload (pc' := 38) (ar_6_f3 is_6_60) (z_inbe g4) dX6_about_37 rfl ?_
        refine z_topi (fun x5 ex5 => ?_)
        replace hF := z_lte hF x5 ex5
        refine z_icmp_lt (tgt := 45) (pc' := 41) dX6_about_38 (by decide) rfl (fun c6 => ?_) (fun c6 => ?_)
        · rw [if_pos c6] at hF
          refine z_wk (ls' := [some (.ref 60), some (.int p1), some (.int p2)]) (z_lec rfl (z_lec rfl (z_lec rfl z_le0))) ?_
          exact (ok_X6_about_45 hst (ok_X6_about_54 hst)) _ _ _ hF
        · rw [if_neg c6] at hF
          refine z_wk (ls' := [some (.ref 60), some (.int p1), some (.int p2)]) (z_lec rfl (z_lec rfl (z_lec rfl z_le0))) ?_
          exact (ok_X6_about_41 hst (ok_X6_about_54 hst)) _ _ _ hF
  · rw [if_neg c9] at hF
    refine z_iconst (v := 1) (pc' := 9) dX6_about_8 (by decide) rfl ?_
    refine z_goto (pc' := 54) dX6_about_9 (by decide) ?_
    refine z_wk (ls' := [some (.ref 60), some (.int p1), some (.int p2)]) (z_lec rfl (z_lec rfl (z_lec rfl z_le0))) ?_
    exact (ok_X6_about_54 hst) _ _ _ _ hF
theorem ok_X6_about : z_okV I_X6_about 2 := ⟨⟨z_Gin (List.mem_of_getElem? (i := 1181) (by decide +kernel)) rfl, z_Gin (List.mem_of_getElem? (i := 1182) (by decide +kernel)) rfl, z_Gin (List.mem_of_getElem? (i := 98) (by decide +kernel)) rfl, z_Gin (List.mem_of_getElem? (i := 1183) (by decide +kernel)) rfl⟩, by decide, by decide, by decide +kernel⟩
theorem k_X6_about {l : Launch} {I : z_I} {R : Room} {B : Nat} {p1 : Int32} {p2 : Int32} {q : z_O × z_S} {pc pc' : Nat} {ls : List (Option Value)} {st : List Value} {S S1 : z_S} {idx F L : Nat} {r : Int32}  (hF : F_X6_about B p1 p2 S = some (.inl (some r), S1)) (hst : l.stackTraces = false) (w : Cond.methodLink I.1.cls idx yX6_about ∈ z_G) (hRF : R.frames = F) (hRL : R.locals = L) (h1 : 3 ≤ F) (h2 : 65 ≤ L) (hs : (st.map fun v => v.category).sum ≤ 8) (d : decode I.2.1 pc = .ok (.invokevirtual idx, 3)) (hp : pc + 3 = pc') (k : z_W l I R B q pc' ls (.int r :: st) S1) : z_W l I R B q pc ls (.int p2 :: .int p1 :: .ref 60 :: st) S := z_callV (Y := I_X6_about) (As := [.int p1, .int p2]) (st := st) (r := (some r)) (S1 := S1) (c_X6_about (q := (.inl (some r), S1)) hst hF) ok_X6_about w (ci := 6) rfl is_6_60.1 is_6_60.2 rfl ⟨by rw [hRF]; exact h1, by rw [hRL]; exact h2⟩ hs d hp rfl k

abbrev I_X6_node : z_I := (yX6_node, cX6_node, 5, some .int)
abbrev R_X6_node (q : z_O × z_S) : Room := { frames := 1, locals := 23, cells := z_mc q.1, slots := 6 * z_mc q.1 }
def F_X6_node_158 (B : Nat)  (s0 : Int32) (S : z_S) : Option (z_O × z_S) :=
  some (.inl (some s0), S)
set_option maxRecDepth 20000 in
set_option maxHeartbeats 16000000 in
theorem ok_X6_node_158 {l : Launch} {B : Nat} {q : z_O × z_S} (hst : l.stackTraces = false) : ∀ (s0 : Int32) (S : z_S), F_X6_node_158 B s0 S = some q → z_W l I_X6_node (R_X6_node q) B q 158 [none, none, none, none, none] [.int s0] S := by
  intro s0 S hF
  unfold F_X6_node_158 at hF
  exact z_ireturn rfl dX6_node_158 (Option.some.inj hF).symm
def F_X6_node_68 (B : Nat)  (v1 : Int32) (v2 : Int32) (v3 : Int32) (s0 : Int32) (S : z_S) : Option (z_O × z_S) :=
  z_lt (z_ui S 60 0 s0) fun S1 =>
  (if (S1.2.1 60 0) ≤ 0 then
    z_gd (z_inb ((12300 + (96 * v1)) + v2) 25366) (
    z_lt (S1.1 61 (z_ix ((12300 + (96 * v1)) + v2))) fun x3 =>
    (if v3 = 0 then
      F_X6_node_158 B x3 S1
    else
      if v3 = 1 then
        z_gd (z_inb (3852 + x3) 25366) (
        z_lt (S1.1 61 (z_ix (3852 + x3))) fun x12 =>
        (F_X6_node_158 B x12 S1))
      else
        if v3 = 2 then
          if v1 = 0 then
            z_bn (F_X6_used B x3 S1) fun r6 S7 =>
            (F_X6_node_158 B r6 S7)
          else
            F_X6_node_158 B 0 S1
        else
          z_gd (z_inb (3948 + x3) 25366) (
          z_lt (S1.1 61 (z_ix (3948 + x3))) fun x5 =>
          (F_X6_node_158 B x5 S1))))
  else
    some (.inl (some 0), S1))
set_option maxRecDepth 20000 in
set_option maxHeartbeats 16000000 in
theorem ok_X6_node_68 {l : Launch} {B : Nat} {q : z_O × z_S} (hst : l.stackTraces = false) : ∀ (v1 : Int32) (v2 : Int32) (v3 : Int32) (s0 : Int32) (S : z_S), F_X6_node_68 B v1 v2 v3 s0 S = some q → z_W l I_X6_node (R_X6_node q) B q 68 [some (.ref 60), some (.int v1), some (.int v2), some (.int v3), none] [.int s0, .ref 60] S := by
  intro v1 v2 v3 s0 S hF
  unfold F_X6_node_68 at hF
  refine pf_X6_40 (pc' := 71) rfl is_6_60 dX6_node_68 rfl (fun S1 eS1 => ?_)
  replace hF := z_lte hF S1 eS1
  refine z_aload_n (pc' := 72) dX6_node_71 rfl rfl rfl ?_
  refine gf_X6_40 (pc' := 75) rfl is_6_60 dX6_node_72 rfl ?_
  refine z_if_le (tgt := 80) (pc' := 78) dX6_node_75 (by decide) rfl (fun c15 => ?_) (fun c15 => ?_)
  · rw [if_pos c15] at hF
    refine z_aload_n (pc' := 81) dX6_node_80 rfl rfl rfl ?_
    refine gf_X6_7 (b := 61) (pc' := 84) rfl is_6_60 rfl dX6_node_81 rfl ?_
    refine z_sipush (v := 12300) (pc' := 87) dX6_node_84 (by decide) rfl ?_
    refine z_bipush (v := 96) (pc' := 89) dX6_node_87 (by decide) rfl ?_
    refine z_iload_n (pc' := 90) dX6_node_89 rfl rfl rfl ?_
    refine z_imul (pc' := 91) dX6_node_90 rfl ?_
    refine z_iadd (pc' := 92) dX6_node_91 rfl ?_
    refine z_iload_n (pc' := 93) dX6_node_92 rfl rfl rfl ?_
    refine z_iadd (pc' := 94) dX6_node_93 rfl ?_
    obtain ⟨g2, hF⟩ := z_gde hF
    refine z_iaload (pc' := 95) (ar_6_f3 is_6_60) (z_inbe g2) dX6_node_94 rfl ?_
    refine z_topi (fun x3 ex3 => ?_)
    replace hF := z_lte hF x3 ex3
    refine z_istore (pc' := 97) dX6_node_95 (by decide) rfl rfl ?_
    refine z_iload_n (pc' := 98) dX6_node_97 rfl rfl rfl ?_
    refine z_if_ne (tgt := 106) (pc' := 101) dX6_node_98 (by decide) rfl (fun c14 => ?_) (fun c14 => ?_)
    · rw [if_neg c14] at hF
      refine z_iload_n (pc' := 107) dX6_node_106 rfl rfl rfl ?_
      refine z_iconst (v := 1) (pc' := 108) dX6_node_107 (by decide) rfl ?_
      refine z_icmp_ne (tgt := 125) (pc' := 111) dX6_node_108 (by decide) rfl (fun c13 => ?_) (fun c13 => ?_)
      · rw [if_neg c13] at hF
        refine z_iload_n (pc' := 126) dX6_node_125 rfl rfl rfl ?_
        refine z_iconst (v := 2) (pc' := 127) dX6_node_126 (by decide) rfl ?_
        refine z_icmp_ne (tgt := 147) (pc' := 130) dX6_node_127 (by decide) rfl (fun c10 => ?_) (fun c10 => ?_)
        · rw [if_neg c10] at hF
          refine z_aload_n (pc' := 148) dX6_node_147 rfl rfl rfl ?_
          refine gf_X6_7 (b := 61) (pc' := 151) rfl is_6_60 rfl dX6_node_148 rfl ?_
          refine z_sipush (v := 3948) (pc' := 154) dX6_node_151 (by decide) rfl ?_
          refine z_iload (pc' := 156) dX6_node_154 rfl rfl ?_
          refine z_iadd (pc' := 157) dX6_node_156 rfl ?_
          obtain ⟨g4, hF⟩ := z_gde hF
          refine z_iaload (pc' := 158) (ar_6_f3 is_6_60) (z_inbe g4) dX6_node_157 rfl ?_
          refine z_topi (fun x5 ex5 => ?_)
          replace hF := z_lte hF x5 ex5
          refine z_wk (ls' := [none, none, none, none, none]) (z_len1 (z_len1 (z_len1 (z_len1 (z_len1 z_le0))))) ?_
          exact (ok_X6_node_158 hst) _ _ hF
        · rw [if_pos c10] at hF
          refine z_iload_n (pc' := 131) dX6_node_130 rfl rfl rfl ?_
          refine z_if_ne (tgt := 143) (pc' := 134) dX6_node_131 (by decide) rfl (fun c9 => ?_) (fun c9 => ?_)
          · rw [if_neg c9] at hF
            refine z_iconst (v := 0) (pc' := 144) dX6_node_143 (by decide) rfl ?_
            refine z_goto (pc' := 158) dX6_node_144 (by decide) ?_
            refine z_wk (ls' := [none, none, none, none, none]) (z_len1 (z_len1 (z_len1 (z_len1 (z_len1 z_le0))))) ?_
            exact (ok_X6_node_158 hst) _ _ hF
          · rw [if_pos c9] at hF
            refine z_aload_n (pc' := 135) dX6_node_134 rfl rfl rfl ?_
            refine z_iload (pc' := 137) dX6_node_135 rfl rfl ?_
            obtain ⟨r6, S7, hc8, hF⟩ := z_bne hF
            refine k_X6_used (F := 1) (L := 23) (pc' := 140) hc8 hst zw_118 rfl rfl (by decide) (by decide) (by decide) dX6_node_137 rfl ?_
            refine z_goto (pc' := 158) dX6_node_140 (by decide) ?_
            refine z_wk (ls' := [none, none, none, none, none]) (z_len1 (z_len1 (z_len1 (z_len1 (z_len1 z_le0))))) ?_
            exact (ok_X6_node_158 hst) _ _ hF
      · rw [if_pos c13] at hF
        refine z_aload_n (pc' := 112) dX6_node_111 rfl rfl rfl ?_
        refine gf_X6_7 (b := 61) (pc' := 115) rfl is_6_60 rfl dX6_node_112 rfl ?_
        refine z_sipush (v := 3852) (pc' := 118) dX6_node_115 (by decide) rfl ?_
        refine z_iload (pc' := 120) dX6_node_118 rfl rfl ?_
        refine z_iadd (pc' := 121) dX6_node_120 rfl ?_
        obtain ⟨g11, hF⟩ := z_gde hF
        refine z_iaload (pc' := 122) (ar_6_f3 is_6_60) (z_inbe g11) dX6_node_121 rfl ?_
        refine z_topi (fun x12 ex12 => ?_)
        replace hF := z_lte hF x12 ex12
        refine z_goto (pc' := 158) dX6_node_122 (by decide) ?_
        refine z_wk (ls' := [none, none, none, none, none]) (z_len1 (z_len1 (z_len1 (z_len1 (z_len1 z_le0))))) ?_
        exact (ok_X6_node_158 hst) _ _ hF
    · rw [if_pos c14] at hF
      refine z_iload (pc' := 103) dX6_node_101 rfl rfl ?_
      refine z_goto (pc' := 158) dX6_node_103 (by decide) ?_
      refine z_wk (ls' := [none, none, none, none, none]) (z_len1 (z_len1 (z_len1 (z_len1 (z_len1 z_le0))))) ?_
      exact (ok_X6_node_158 hst) _ _ hF
  · rw [if_neg c15] at hF
    refine z_iconst (v := 0) (pc' := 79) dX6_node_78 (by decide) rfl ?_
    exact z_ireturn rfl dX6_node_79 (Option.some.inj hF).symm
def F_X6_node_50 (B : Nat) (k68 : Int32 → Int32 → Int32 → Int32 → z_S → Option (z_O × z_S)) (v1 : Int32) (v2 : Int32) (v3 : Int32) (S : z_S) : Option (z_O × z_S) :=
  k68 v1 v2 v3 2 S
set_option maxRecDepth 20000 in
set_option maxHeartbeats 16000000 in
theorem ok_X6_node_50 {l : Launch} {B : Nat} {q : z_O × z_S} (hst : l.stackTraces = false) {k68 : Int32 → Int32 → Int32 → Int32 → z_S → Option (z_O × z_S)} (hk68 : ∀ (v1 : Int32) (v2 : Int32) (v3 : Int32) (s0 : Int32) (S : z_S), k68 v1 v2 v3 s0 S = some q → z_W l I_X6_node (R_X6_node q) B q 68 [some (.ref 60), some (.int v1), some (.int v2), some (.int v3), none] [.int s0, .ref 60] S) : ∀ (v1 : Int32) (v2 : Int32) (v3 : Int32) (S : z_S), F_X6_node_50 B k68 v1 v2 v3 S = some q → z_W l I_X6_node (R_X6_node q) B q 50 [some (.ref 60), some (.int v1), some (.int v2), some (.int v3), none] [.ref 60] S := by
  intro v1 v2 v3 S hF
  unfold F_X6_node_50 at hF
  refine z_iconst (v := 2) (pc' := 51) dX6_node_50 (by decide) rfl ?_
  refine z_goto (pc' := 68) dX6_node_51 (by decide) ?_
  refine z_wk (ls' := [some (.ref 60), some (.int v1), some (.int v2), some (.int v3), none]) (z_lec rfl (z_lec rfl (z_lec rfl (z_lec rfl (z_len1 z_le0))))) ?_
  exact hk68 _ _ _ _ _ hF
def F_X6_node (B : Nat) (p1 : Int32) (p2 : Int32) (p3 : Int32) (S : z_S) : Option (z_O × z_S) :=
  if (S.2.1 60 10) = 0 then
    z_gd (z_inb 13077 25366) (
    z_lt (S.1 61 (z_ix (13077))) fun x2 =>
    (z_bn (F_X6_isIn B p1 0 (x2 - 1) S) fun r3 S4 =>
    (if r3 = 0 then
      F_X6_node_50 B (F_X6_node_68 B ) p1 p2 p3 S4
    else
      z_gd (z_inb (13068 + p1) 25366) (
      z_lt (S4.1 61 (z_ix (13068 + p1))) fun x7 =>
      (z_bn (F_X6_isIn B p2 0 (x7 - 1) S4) fun r8 S9 =>
      (if r8 = 0 then
        F_X6_node_50 B (F_X6_node_68 B ) p1 p2 p3 S9
      else
        z_bn (F_X6_isIn B p3 0 3 S9) fun r11 S12 =>
        (if r11 = 0 then
          F_X6_node_68 B p1 p2 p3 3 S12
        else
          F_X6_node_68 B p1 p2 p3 0 S12)))))))
  else
    F_X6_node_68 B p1 p2 p3 1 S
set_option maxRecDepth 20000 in
set_option maxHeartbeats 16000000 in
theorem c_X6_node {l : Launch} {B : Nat} {p1 : Int32} {p2 : Int32} {p3 : Int32} {S : z_S} {q : z_O × z_S} (hst : l.stackTraces = false) (hF : F_X6_node B p1 p2 p3 S = some q) : z_Met l I_X6_node 1 23 B [.ref 60, .int p1, .int p2, .int p3] S q.1 q.2 := by
  refine z_enter (ls := [some (.ref 60), some (.int p1), some (.int p2), some (.int p3), none]) (n := 1) (by decide) rfl (Nat.le_of_ble_eq_true rfl) hst ?_
  unfold F_X6_node at hF
  refine z_aload_n (pc' := 1) dX6_node_0 rfl rfl rfl ?_
  refine z_aload_n (pc' := 2) dX6_node_1 rfl rfl rfl ?_
  refine gf_X6_149 (pc' := 5) rfl is_6_60 dX6_node_2 rfl ?_
  refine z_if_eq (tgt := 12) (pc' := 8) dX6_node_5 (by decide) rfl (fun c17 => ?_) (fun c17 => ?_)
  · rw [if_pos c17] at hF
    refine z_iload_n (pc' := 13) dX6_node_12 rfl rfl rfl ?_
    refine z_iconst (v := 0) (pc' := 14) dX6_node_13 (by decide) rfl ?_
    refine z_aload_n (pc' := 15) dX6_node_14 rfl rfl rfl ?_
    refine gf_X6_7 (b := 61) (pc' := 18) rfl is_6_60 rfl dX6_node_15 rfl ?_
    refine z_sipush (v := 13077) (pc' := 21) dX6_node_18 (by decide) rfl ?_
    obtain ⟨g1, hF⟩ := z_gde hF
    refine z_iaload (pc' := 22) (ar_6_f3 is_6_60) (z_inbe g1) dX6_node_21 rfl ?_
    refine z_topi (fun x2 ex2 => ?_)
    replace hF := z_lte hF x2 ex2
    refine z_iconst (v := 1) (pc' := 23) dX6_node_22 (by decide) rfl ?_
    refine z_isub (pc' := 24) dX6_node_23 rfl ?_
    obtain ⟨r3, S4, hc5, hF⟩ := z_bne hF
    refine k_X6_isIn (F := 1) (L := 23) (pc' := 27) hc5 hst zw_104 rfl rfl (by decide) (by decide) (Nat.le_of_ble_eq_true rfl) dX6_node_24 rfl ?_
    refine z_if_eq (tgt := 50) (pc' := 30) dX6_node_27 (by decide) rfl (fun c16 => ?_) (fun c16 => ?_)
    · rw [if_pos c16] at hF
      refine z_wk (ls' := [some (.ref 60), some (.int p1), some (.int p2), some (.int p3), none]) (z_lec rfl (z_lec rfl (z_lec rfl (z_lec rfl (z_len1 z_le0))))) ?_
      exact (ok_X6_node_50 hst (ok_X6_node_68 hst)) _ _ _ _ hF
    · rw [if_neg c16] at hF
      refine z_iload_n (pc' := 31) dX6_node_30 rfl rfl rfl ?_
      refine z_iconst (v := 0) (pc' := 32) dX6_node_31 (by decide) rfl ?_
      refine z_aload_n (pc' := 33) dX6_node_32 rfl rfl rfl ?_
      refine gf_X6_7 (b := 61) (pc' := 36) rfl is_6_60 rfl dX6_node_33 rfl ?_
      refine z_sipush (v := 13068) (pc' := 39) dX6_node_36 (by decide) rfl ?_
      refine z_iload_n (pc' := 40) dX6_node_39 rfl rfl rfl ?_
      refine z_iadd (pc' := 41) dX6_node_40 rfl ?_
      obtain ⟨g6, hF⟩ := z_gde hF
      refine z_iaload (pc' := 42) (ar_6_f3 is_6_60) (z_inbe g6) dX6_node_41 rfl ?_
      refine z_topi (fun x7 ex7 => ?_)
      replace hF := z_lte hF x7 ex7
      refine z_iconst (v := 1) (pc' := 43) dX6_node_42 (by decide) rfl ?_
      refine z_isub (pc' := 44) dX6_node_43 rfl ?_
      obtain ⟨r8, S9, hc10, hF⟩ := z_bne hF
      refine k_X6_isIn (F := 1) (L := 23) (pc' := 47) hc10 hst zw_104 rfl rfl (by decide) (by decide) (Nat.le_of_ble_eq_true rfl) dX6_node_44 rfl ?_
      refine z_if_ne (tgt := 54) (pc' := 50) dX6_node_47 (by decide) rfl (fun c15 => ?_) (fun c15 => ?_)
      · rw [if_neg c15] at hF
        refine z_iload_n (pc' := 55) dX6_node_54 rfl rfl rfl ?_
        refine z_iconst (v := 0) (pc' := 56) dX6_node_55 (by decide) rfl ?_
        refine z_iconst (v := 3) (pc' := 57) dX6_node_56 (by decide) rfl ?_
        obtain ⟨r11, S12, hc13, hF⟩ := z_bne hF
        refine k_X6_isIn (F := 1) (L := 23) (pc' := 60) hc13 hst zw_104 rfl rfl (by decide) (by decide) (Nat.le_of_ble_eq_true rfl) dX6_node_57 rfl ?_
        refine z_if_ne (tgt := 67) (pc' := 63) dX6_node_60 (by decide) rfl (fun c14 => ?_) (fun c14 => ?_)
        · rw [if_neg c14] at hF
          refine z_iconst (v := 0) (pc' := 68) dX6_node_67 (by decide) rfl ?_
          refine z_wk (ls' := [some (.ref 60), some (.int p1), some (.int p2), some (.int p3), none]) (z_lec rfl (z_lec rfl (z_lec rfl (z_lec rfl (z_len1 z_le0))))) ?_
          exact (ok_X6_node_68 hst) _ _ _ _ _ hF
        · rw [if_pos c14] at hF
          refine z_iconst (v := 3) (pc' := 64) dX6_node_63 (by decide) rfl ?_
          refine z_goto (pc' := 68) dX6_node_64 (by decide) ?_
          refine z_wk (ls' := [some (.ref 60), some (.int p1), some (.int p2), some (.int p3), none]) (z_lec rfl (z_lec rfl (z_lec rfl (z_lec rfl (z_len1 z_le0))))) ?_
          exact (ok_X6_node_68 hst) _ _ _ _ _ hF
      · rw [if_pos c15] at hF
        refine z_wk (ls' := [some (.ref 60), some (.int p1), some (.int p2), some (.int p3), none]) (z_lec rfl (z_lec rfl (z_lec rfl (z_lec rfl (z_len1 z_le0))))) ?_
        exact (ok_X6_node_50 hst (ok_X6_node_68 hst)) _ _ _ _ hF
  · rw [if_neg c17] at hF
    refine z_iconst (v := 1) (pc' := 9) dX6_node_8 (by decide) rfl ?_
    refine z_goto (pc' := 68) dX6_node_9 (by decide) ?_
    refine z_wk (ls' := [some (.ref 60), some (.int p1), some (.int p2), some (.int p3), none]) (z_lec rfl (z_lec rfl (z_lec rfl (z_lec rfl (z_len1 z_le0))))) ?_
    exact (ok_X6_node_68 hst) _ _ _ _ _ hF
theorem ok_X6_node : z_okV I_X6_node 3 := ⟨⟨z_Gin (List.mem_of_getElem? (i := 1185) (by decide +kernel)) rfl, z_Gin (List.mem_of_getElem? (i := 1186) (by decide +kernel)) rfl, z_Gin (List.mem_of_getElem? (i := 98) (by decide +kernel)) rfl, z_Gin (List.mem_of_getElem? (i := 1187) (by decide +kernel)) rfl⟩, by decide, by decide, by decide +kernel⟩
theorem k_X6_node {l : Launch} {I : z_I} {R : Room} {B : Nat} {p1 : Int32} {p2 : Int32} {p3 : Int32} {q : z_O × z_S} {pc pc' : Nat} {ls : List (Option Value)} {st : List Value} {S S1 : z_S} {idx F L : Nat} {r : Int32}  (hF : F_X6_node B p1 p2 p3 S = some (.inl (some r), S1)) (hst : l.stackTraces = false) (w : Cond.methodLink I.1.cls idx yX6_node ∈ z_G) (hRF : R.frames = F) (hRL : R.locals = L) (h1 : 2 ≤ F) (h2 : 47 ≤ L) (hs : (st.map fun v => v.category).sum ≤ 8) (d : decode I.2.1 pc = .ok (.invokevirtual idx, 3)) (hp : pc + 3 = pc') (k : z_W l I R B q pc' ls (.int r :: st) S1) : z_W l I R B q pc ls (.int p3 :: .int p2 :: .int p1 :: .ref 60 :: st) S := z_callV (Y := I_X6_node) (As := [.int p1, .int p2, .int p3]) (st := st) (r := (some r)) (S1 := S1) (c_X6_node (q := (.inl (some r), S1)) hst hF) ok_X6_node w (ci := 6) rfl is_6_60.1 is_6_60.2 rfl ⟨by rw [hRF]; exact h1, by rw [hRL]; exact h2⟩ hs d hp rfl k

abbrev I_X6_items : z_I := (yX6_items, cX6_items, 3, some .int)
abbrev R_X6_items (q : z_O × z_S) : Room := { frames := 0, locals := 0, cells := z_mc q.1, slots := 6 * z_mc q.1 }
def F_X6_items_4 (B : Nat)  : Nat → Int32 → Int32 → z_S → Option (z_O × z_S)
  | 0, _, _, _ => none
  | n + 1, v1, v2, S => z_gd (z_inb 13068 25366) (
  z_lt (S.1 61 (z_ix (13068))) fun x2 =>
  (if x2 ≤ v2 then
    some (.inl (some v1), S)
  else
    z_gd (z_inb (12300 + v2) 25366) (
    z_lt (S.1 61 (z_ix (12300 + v2))) fun x4 =>
    (z_gd (z_inb (3852 + x4) 25366) (
    z_lt (S.1 61 (z_ix (3852 + x4))) fun x6 =>
    (F_X6_items_4 B n (v1 + x6) (v2 + 1) S))))))
set_option maxRecDepth 20000 in
set_option maxHeartbeats 16000000 in
theorem ok_X6_items_4 {l : Launch} {B : Nat} {q : z_O × z_S} (hst : l.stackTraces = false) : ∀ (n : Nat) (v1 : Int32) (v2 : Int32) (S : z_S), F_X6_items_4 B n v1 v2 S = some q → z_W l I_X6_items (R_X6_items q) B q 4 [some (.ref 60), some (.int v1), some (.int v2)] [] S := by
  intro n
  induction n with
  | zero => intro v1 v2 S hF; cases hF
  | succ n ih =>
    intro v1 v2 S hF
    rw [F_X6_items_4] at hF
    refine z_iload_n (pc' := 5) dX6_items_4 rfl rfl rfl ?_
    refine z_aload_n (pc' := 6) dX6_items_5 rfl rfl rfl ?_
    refine gf_X6_7 (b := 61) (pc' := 9) rfl is_6_60 rfl dX6_items_6 rfl ?_
    refine z_sipush (v := 13068) (pc' := 12) dX6_items_9 (by decide) rfl ?_
    obtain ⟨g1, hF⟩ := z_gde hF
    refine z_iaload (pc' := 13) (ar_6_f3 is_6_60) (z_inbe g1) dX6_items_12 rfl ?_
    refine z_topi (fun x2 ex2 => ?_)
    replace hF := z_lte hF x2 ex2
    refine z_icmp_ge (tgt := 44) (pc' := 16) dX6_items_13 (by decide) rfl (fun c7 => ?_) (fun c7 => ?_)
    · rw [if_pos c7] at hF
      refine z_iload_n (pc' := 45) dX6_items_44 rfl rfl rfl ?_
      exact z_ireturn rfl dX6_items_45 (Option.some.inj hF).symm
    · rw [if_neg c7] at hF
      refine z_iload_n (pc' := 17) dX6_items_16 rfl rfl rfl ?_
      refine z_aload_n (pc' := 18) dX6_items_17 rfl rfl rfl ?_
      refine gf_X6_7 (b := 61) (pc' := 21) rfl is_6_60 rfl dX6_items_18 rfl ?_
      refine z_sipush (v := 3852) (pc' := 24) dX6_items_21 (by decide) rfl ?_
      refine z_aload_n (pc' := 25) dX6_items_24 rfl rfl rfl ?_
      refine gf_X6_7 (b := 61) (pc' := 28) rfl is_6_60 rfl dX6_items_25 rfl ?_
      refine z_sipush (v := 12300) (pc' := 31) dX6_items_28 (by decide) rfl ?_
      refine z_iload_n (pc' := 32) dX6_items_31 rfl rfl rfl ?_
      refine z_iadd (pc' := 33) dX6_items_32 rfl ?_
      obtain ⟨g3, hF⟩ := z_gde hF
      refine z_iaload (pc' := 34) (ar_6_f3 is_6_60) (z_inbe g3) dX6_items_33 rfl ?_
      refine z_topi (fun x4 ex4 => ?_)
      replace hF := z_lte hF x4 ex4
      refine z_iadd (pc' := 35) dX6_items_34 rfl ?_
      obtain ⟨g5, hF⟩ := z_gde hF
      refine z_iaload (pc' := 36) (ar_6_f3 is_6_60) (z_inbe g5) dX6_items_35 rfl ?_
      refine z_topi (fun x6 ex6 => ?_)
      replace hF := z_lte hF x6 ex6
      refine z_iadd (pc' := 37) dX6_items_36 rfl ?_
      refine z_istore_n (pc' := 38) dX6_items_37 rfl (by decide) rfl rfl ?_
      refine z_iinc (v := v2 + 1) (pc' := 41) dX6_items_38 rfl rfl (by decide) rfl rfl ?_
      refine z_goto (pc' := 4) dX6_items_41 (by decide) ?_
      refine z_wk (ls' := [some (.ref 60), some (.int (v1 + x6)), some (.int (v2 + 1))]) (z_lec rfl (z_lec rfl (z_lec rfl z_le0))) ?_
      exact ih _ _ _ hF
def F_X6_items (B : Nat)  (S : z_S) : Option (z_O × z_S) :=
  F_X6_items_4 B z_n 0 0 S
set_option maxRecDepth 20000 in
set_option maxHeartbeats 16000000 in
theorem c_X6_items {l : Launch} {B : Nat}  {S : z_S} {q : z_O × z_S} (hst : l.stackTraces = false) (hF : F_X6_items B S = some q) : z_Met l I_X6_items 0 0 B [.ref 60] S q.1 q.2 := by
  refine z_enter (ls := [some (.ref 60), none, none]) (n := 2) (by decide) rfl (Nat.le_of_ble_eq_true rfl) hst ?_
  unfold F_X6_items at hF
  refine z_iconst (v := 0) (pc' := 1) dX6_items_0 (by decide) rfl ?_
  refine z_istore_n (pc' := 2) dX6_items_1 rfl (by decide) rfl rfl ?_
  refine z_iconst (v := 0) (pc' := 3) dX6_items_2 (by decide) rfl ?_
  refine z_istore_n (pc' := 4) dX6_items_3 rfl (by decide) rfl rfl ?_
  refine z_wk (ls' := [some (.ref 60), some (.int 0), some (.int 0)]) (z_lec rfl (z_lec rfl (z_lec rfl z_le0))) ?_
  exact (ok_X6_items_4 hst z_n) _ _ _ hF
theorem ok_X6_items : z_okV I_X6_items 0 := ⟨⟨z_Gin (List.mem_of_getElem? (i := 1194) (by decide +kernel)) rfl, z_Gin (List.mem_of_getElem? (i := 77) (by decide +kernel)) rfl, z_Gin (List.mem_of_getElem? (i := 98) (by decide +kernel)) rfl, z_Gin (List.mem_of_getElem? (i := 1195) (by decide +kernel)) rfl⟩, by decide, by decide, by decide +kernel⟩
theorem k_X6_items {l : Launch} {I : z_I} {R : Room} {B : Nat}  {q : z_O × z_S} {pc pc' : Nat} {ls : List (Option Value)} {st : List Value} {S S1 : z_S} {idx F L : Nat} {r : Int32}  (hF : F_X6_items B S = some (.inl (some r), S1)) (hst : l.stackTraces = false) (w : Cond.methodLink I.1.cls idx yX6_items ∈ z_G) (hRF : R.frames = F) (hRL : R.locals = L) (h1 : 1 ≤ F) (h2 : 22 ≤ L) (hs : (st.map fun v => v.category).sum ≤ 8) (d : decode I.2.1 pc = .ok (.invokevirtual idx, 3)) (hp : pc + 3 = pc') (k : z_W l I R B q pc' ls (.int r :: st) S1) : z_W l I R B q pc ls (.ref 60 :: st) S := z_callV (Y := I_X6_items) (As := []) (st := st) (r := (some r)) (S1 := S1) (c_X6_items (q := (.inl (some r), S1)) hst hF) ok_X6_items w (ci := 6) rfl is_6_60.1 is_6_60.2 rfl ⟨by rw [hRF]; exact h1, by rw [hRL]; exact h2⟩ hs d hp rfl k

abbrev I_X6_item : z_I := (yX6_item, cX6_item, 7, some .int)
abbrev R_X6_item (q : z_O × z_S) : Room := { frames := 1, locals := 22, cells := z_mc q.1, slots := 6 * z_mc q.1 }
def F_X6_item_214 (B : Nat)  (s0 : Int32) (S : z_S) : Option (z_O × z_S) :=
  some (.inl (some s0), S)
set_option maxRecDepth 20000 in
set_option maxHeartbeats 16000000 in
theorem ok_X6_item_214 {l : Launch} {B : Nat} {q : z_O × z_S} (hst : l.stackTraces = false) : ∀ (s0 : Int32) (S : z_S), F_X6_item_214 B s0 S = some q → z_W l I_X6_item (R_X6_item q) B q 214 [none, none, none, none, none, none, none] [.int s0] S := by
  intro s0 S hF
  unfold F_X6_item_214 at hF
  exact z_ireturn rfl dX6_item_214 (Option.some.inj hF).symm
def F_X6_item_61 (B : Nat)  : Nat → Int32 → Int32 → Int32 → z_S → Option (z_O × z_S)
  | 0, _, _, _, _ => none
  | n + 1, v2, v3, v4, S => z_gd (z_inb (12300 + v3) 25366) (
  z_lt (S.1 61 (z_ix (12300 + v3))) fun x2 =>
  (z_gd (z_inb (3852 + x2) 25366) (
  z_lt (S.1 61 (z_ix (3852 + x2))) fun x4 =>
  (if v4 < x4 then
    z_gd (z_inb (12300 + v3) 25366) (
    z_lt (S.1 61 (z_ix (12300 + v3))) fun x6 =>
    (if v2 = 0 then
      z_gd (z_inb (4620 + ((16 * x6) + v4)) 25366) (
      z_lt (S.1 61 (z_ix (4620 + ((16 * x6) + v4)))) fun x17 =>
      (F_X6_item_214 B x17 S))
    else
      if v2 = 1 then
        z_gd (z_inb (6156 + ((16 * x6) + v4)) 25366) (
        z_lt (S.1 61 (z_ix (6156 + ((16 * x6) + v4)))) fun x14 =>
        (F_X6_item_214 B x14 S))
      else
        if v2 = 2 then
          z_gd (z_inb (7692 + ((16 * x6) + v4)) 25366) (
          z_lt (S.1 61 (z_ix (7692 + ((16 * x6) + v4)))) fun x11 =>
          (F_X6_item_214 B x11 S))
        else
          if v2 = 3 then
            z_gd (z_inb (9228 + ((16 * x6) + v4)) 25366) (
            z_lt (S.1 61 (z_ix (9228 + ((16 * x6) + v4)))) fun x8 =>
            (F_X6_item_214 B x8 S))
          else
            F_X6_item_214 B x6 S))
  else
    z_gd (z_inb (12300 + v3) 25366) (
    z_lt (S.1 61 (z_ix (12300 + v3))) fun x20 =>
    (z_gd (z_inb (3852 + x20) 25366) (
    z_lt (S.1 61 (z_ix (3852 + x20))) fun x22 =>
    (F_X6_item_61 B n v2 (v3 + 1) (v4 - x22) S))))))))
set_option maxRecDepth 20000 in
set_option maxHeartbeats 16000000 in
theorem ok_X6_item_61 {l : Launch} {B : Nat} {q : z_O × z_S} (hst : l.stackTraces = false) : ∀ (n : Nat) (v2 : Int32) (v3 : Int32) (v4 : Int32) (S : z_S), F_X6_item_61 B n v2 v3 v4 S = some q → z_W l I_X6_item (R_X6_item q) B q 61 [some (.ref 60), none, some (.int v2), some (.int v3), some (.int v4), none, none] [] S := by
  intro n
  induction n with
  | zero => intro v2 v3 v4 S hF; cases hF
  | succ n ih =>
    intro v2 v3 v4 S hF
    rw [F_X6_item_61] at hF
    refine z_iload (pc' := 63) dX6_item_61 rfl rfl ?_
    refine z_aload_n (pc' := 64) dX6_item_63 rfl rfl rfl ?_
    refine gf_X6_7 (b := 61) (pc' := 67) rfl is_6_60 rfl dX6_item_64 rfl ?_
    refine z_sipush (v := 3852) (pc' := 70) dX6_item_67 (by decide) rfl ?_
    refine z_aload_n (pc' := 71) dX6_item_70 rfl rfl rfl ?_
    refine gf_X6_7 (b := 61) (pc' := 74) rfl is_6_60 rfl dX6_item_71 rfl ?_
    refine z_sipush (v := 12300) (pc' := 77) dX6_item_74 (by decide) rfl ?_
    refine z_iload_n (pc' := 78) dX6_item_77 rfl rfl rfl ?_
    refine z_iadd (pc' := 79) dX6_item_78 rfl ?_
    obtain ⟨g1, hF⟩ := z_gde hF
    refine z_iaload (pc' := 80) (ar_6_f3 is_6_60) (z_inbe g1) dX6_item_79 rfl ?_
    refine z_topi (fun x2 ex2 => ?_)
    replace hF := z_lte hF x2 ex2
    refine z_iadd (pc' := 81) dX6_item_80 rfl ?_
    obtain ⟨g3, hF⟩ := z_gde hF
    refine z_iaload (pc' := 82) (ar_6_f3 is_6_60) (z_inbe g3) dX6_item_81 rfl ?_
    refine z_topi (fun x4 ex4 => ?_)
    replace hF := z_lte hF x4 ex4
    refine z_icmp_lt (tgt := 115) (pc' := 85) dX6_item_82 (by decide) rfl (fun c23 => ?_) (fun c23 => ?_)
    · rw [if_pos c23] at hF
      refine z_aload_n (pc' := 116) dX6_item_115 rfl rfl rfl ?_
      refine gf_X6_7 (b := 61) (pc' := 119) rfl is_6_60 rfl dX6_item_116 rfl ?_
      refine z_sipush (v := 12300) (pc' := 122) dX6_item_119 (by decide) rfl ?_
      refine z_iload_n (pc' := 123) dX6_item_122 rfl rfl rfl ?_
      refine z_iadd (pc' := 124) dX6_item_123 rfl ?_
      obtain ⟨g5, hF⟩ := z_gde hF
      refine z_iaload (pc' := 125) (ar_6_f3 is_6_60) (z_inbe g5) dX6_item_124 rfl ?_
      refine z_topi (fun x6 ex6 => ?_)
      replace hF := z_lte hF x6 ex6
      refine z_istore (pc' := 127) dX6_item_125 (by decide) rfl rfl ?_
      refine z_bipush (v := 16) (pc' := 129) dX6_item_127 (by decide) rfl ?_
      refine z_iload (pc' := 131) dX6_item_129 rfl rfl ?_
      refine z_imul (pc' := 132) dX6_item_131 rfl ?_
      refine z_iload (pc' := 134) dX6_item_132 rfl rfl ?_
      refine z_iadd (pc' := 135) dX6_item_134 rfl ?_
      refine z_istore (pc' := 137) dX6_item_135 (by decide) rfl rfl ?_
      refine z_iload_n (pc' := 138) dX6_item_137 rfl rfl rfl ?_
      refine z_if_ne (tgt := 155) (pc' := 141) dX6_item_138 (by decide) rfl (fun c18 => ?_) (fun c18 => ?_)
      · rw [if_neg c18] at hF
        refine z_iload_n (pc' := 156) dX6_item_155 rfl rfl rfl ?_
        refine z_iconst (v := 1) (pc' := 157) dX6_item_156 (by decide) rfl ?_
        refine z_icmp_ne (tgt := 174) (pc' := 160) dX6_item_157 (by decide) rfl (fun c15 => ?_) (fun c15 => ?_)
        · rw [if_neg c15] at hF
          refine z_iload_n (pc' := 175) dX6_item_174 rfl rfl rfl ?_
          refine z_iconst (v := 2) (pc' := 176) dX6_item_175 (by decide) rfl ?_
          refine z_icmp_ne (tgt := 193) (pc' := 179) dX6_item_176 (by decide) rfl (fun c12 => ?_) (fun c12 => ?_)
          · rw [if_neg c12] at hF
            refine z_iload_n (pc' := 194) dX6_item_193 rfl rfl rfl ?_
            refine z_iconst (v := 3) (pc' := 195) dX6_item_194 (by decide) rfl ?_
            refine z_icmp_ne (tgt := 212) (pc' := 198) dX6_item_195 (by decide) rfl (fun c9 => ?_) (fun c9 => ?_)
            · rw [if_neg c9] at hF
              refine z_iload (pc' := 214) dX6_item_212 rfl rfl ?_
              refine z_wk (ls' := [none, none, none, none, none, none, none]) (z_len1 (z_len1 (z_len1 (z_len1 (z_len1 (z_len1 (z_len1 z_le0))))))) ?_
              exact (ok_X6_item_214 hst) _ _ hF
            · rw [if_pos c9] at hF
              refine z_aload_n (pc' := 199) dX6_item_198 rfl rfl rfl ?_
              refine gf_X6_7 (b := 61) (pc' := 202) rfl is_6_60 rfl dX6_item_199 rfl ?_
              refine z_sipush (v := 9228) (pc' := 205) dX6_item_202 (by decide) rfl ?_
              refine z_iload (pc' := 207) dX6_item_205 rfl rfl ?_
              refine z_iadd (pc' := 208) dX6_item_207 rfl ?_
              obtain ⟨g7, hF⟩ := z_gde hF
              refine z_iaload (pc' := 209) (ar_6_f3 is_6_60) (z_inbe g7) dX6_item_208 rfl ?_
              refine z_topi (fun x8 ex8 => ?_)
              replace hF := z_lte hF x8 ex8
              refine z_goto (pc' := 214) dX6_item_209 (by decide) ?_
              refine z_wk (ls' := [none, none, none, none, none, none, none]) (z_len1 (z_len1 (z_len1 (z_len1 (z_len1 (z_len1 (z_len1 z_le0))))))) ?_
              exact (ok_X6_item_214 hst) _ _ hF
          · rw [if_pos c12] at hF
            refine z_aload_n (pc' := 180) dX6_item_179 rfl rfl rfl ?_
            refine gf_X6_7 (b := 61) (pc' := 183) rfl is_6_60 rfl dX6_item_180 rfl ?_
            refine z_sipush (v := 7692) (pc' := 186) dX6_item_183 (by decide) rfl ?_
            refine z_iload (pc' := 188) dX6_item_186 rfl rfl ?_
            refine z_iadd (pc' := 189) dX6_item_188 rfl ?_
            obtain ⟨g10, hF⟩ := z_gde hF
            refine z_iaload (pc' := 190) (ar_6_f3 is_6_60) (z_inbe g10) dX6_item_189 rfl ?_
            refine z_topi (fun x11 ex11 => ?_)
            replace hF := z_lte hF x11 ex11
            refine z_goto (pc' := 214) dX6_item_190 (by decide) ?_
            refine z_wk (ls' := [none, none, none, none, none, none, none]) (z_len1 (z_len1 (z_len1 (z_len1 (z_len1 (z_len1 (z_len1 z_le0))))))) ?_
            exact (ok_X6_item_214 hst) _ _ hF
        · rw [if_pos c15] at hF
          refine z_aload_n (pc' := 161) dX6_item_160 rfl rfl rfl ?_
          refine gf_X6_7 (b := 61) (pc' := 164) rfl is_6_60 rfl dX6_item_161 rfl ?_
          refine z_sipush (v := 6156) (pc' := 167) dX6_item_164 (by decide) rfl ?_
          refine z_iload (pc' := 169) dX6_item_167 rfl rfl ?_
          refine z_iadd (pc' := 170) dX6_item_169 rfl ?_
          obtain ⟨g13, hF⟩ := z_gde hF
          refine z_iaload (pc' := 171) (ar_6_f3 is_6_60) (z_inbe g13) dX6_item_170 rfl ?_
          refine z_topi (fun x14 ex14 => ?_)
          replace hF := z_lte hF x14 ex14
          refine z_goto (pc' := 214) dX6_item_171 (by decide) ?_
          refine z_wk (ls' := [none, none, none, none, none, none, none]) (z_len1 (z_len1 (z_len1 (z_len1 (z_len1 (z_len1 (z_len1 z_le0))))))) ?_
          exact (ok_X6_item_214 hst) _ _ hF
      · rw [if_pos c18] at hF
        refine z_aload_n (pc' := 142) dX6_item_141 rfl rfl rfl ?_
        refine gf_X6_7 (b := 61) (pc' := 145) rfl is_6_60 rfl dX6_item_142 rfl ?_
        refine z_sipush (v := 4620) (pc' := 148) dX6_item_145 (by decide) rfl ?_
        refine z_iload (pc' := 150) dX6_item_148 rfl rfl ?_
        refine z_iadd (pc' := 151) dX6_item_150 rfl ?_
        obtain ⟨g16, hF⟩ := z_gde hF
        refine z_iaload (pc' := 152) (ar_6_f3 is_6_60) (z_inbe g16) dX6_item_151 rfl ?_
        refine z_topi (fun x17 ex17 => ?_)
        replace hF := z_lte hF x17 ex17
        refine z_goto (pc' := 214) dX6_item_152 (by decide) ?_
        refine z_wk (ls' := [none, none, none, none, none, none, none]) (z_len1 (z_len1 (z_len1 (z_len1 (z_len1 (z_len1 (z_len1 z_le0))))))) ?_
        exact (ok_X6_item_214 hst) _ _ hF
    · rw [if_neg c23] at hF
      refine z_iload (pc' := 87) dX6_item_85 rfl rfl ?_
      refine z_aload_n (pc' := 88) dX6_item_87 rfl rfl rfl ?_
      refine gf_X6_7 (b := 61) (pc' := 91) rfl is_6_60 rfl dX6_item_88 rfl ?_
      refine z_sipush (v := 3852) (pc' := 94) dX6_item_91 (by decide) rfl ?_
      refine z_aload_n (pc' := 95) dX6_item_94 rfl rfl rfl ?_
      refine gf_X6_7 (b := 61) (pc' := 98) rfl is_6_60 rfl dX6_item_95 rfl ?_
      refine z_sipush (v := 12300) (pc' := 101) dX6_item_98 (by decide) rfl ?_
      refine z_iload_n (pc' := 102) dX6_item_101 rfl rfl rfl ?_
      refine z_iadd (pc' := 103) dX6_item_102 rfl ?_
      obtain ⟨g19, hF⟩ := z_gde hF
      refine z_iaload (pc' := 104) (ar_6_f3 is_6_60) (z_inbe g19) dX6_item_103 rfl ?_
      refine z_topi (fun x20 ex20 => ?_)
      replace hF := z_lte hF x20 ex20
      refine z_iadd (pc' := 105) dX6_item_104 rfl ?_
      obtain ⟨g21, hF⟩ := z_gde hF
      refine z_iaload (pc' := 106) (ar_6_f3 is_6_60) (z_inbe g21) dX6_item_105 rfl ?_
      refine z_topi (fun x22 ex22 => ?_)
      replace hF := z_lte hF x22 ex22
      refine z_isub (pc' := 107) dX6_item_106 rfl ?_
      refine z_istore (pc' := 109) dX6_item_107 (by decide) rfl rfl ?_
      refine z_iinc (v := v3 + 1) (pc' := 112) dX6_item_109 rfl rfl (by decide) rfl rfl ?_
      refine z_goto (pc' := 61) dX6_item_112 (by decide) ?_
      refine z_wk (ls' := [some (.ref 60), none, some (.int v2), some (.int (v3 + 1)), some (.int (v4 - x22)), none, none]) (z_lec rfl (z_len1 (z_lec rfl (z_lec rfl (z_lec rfl (z_len1 (z_len1 z_le0))))))) ?_
      exact ih _ _ _ _ hF
def F_X6_item_44 (B : Nat)  (v1 : Int32) (v2 : Int32) (s0 : Int32) (S : z_S) : Option (z_O × z_S) :=
  z_lt (z_ui S 60 0 s0) fun S1 =>
  (if (S1.2.1 60 0) ≤ 0 then
    F_X6_item_61 B z_n v2 0 v1 S1
  else
    some (.inl (some 0), S1))
set_option maxRecDepth 20000 in
set_option maxHeartbeats 16000000 in
theorem ok_X6_item_44 {l : Launch} {B : Nat} {q : z_O × z_S} (hst : l.stackTraces = false) : ∀ (v1 : Int32) (v2 : Int32) (s0 : Int32) (S : z_S), F_X6_item_44 B v1 v2 s0 S = some q → z_W l I_X6_item (R_X6_item q) B q 44 [some (.ref 60), some (.int v1), some (.int v2), none, none, none, none] [.int s0, .ref 60] S := by
  intro v1 v2 s0 S hF
  unfold F_X6_item_44 at hF
  refine pf_X6_40 (pc' := 47) rfl is_6_60 dX6_item_44 rfl (fun S1 eS1 => ?_)
  replace hF := z_lte hF S1 eS1
  refine z_aload_n (pc' := 48) dX6_item_47 rfl rfl rfl ?_
  refine gf_X6_40 (pc' := 51) rfl is_6_60 dX6_item_48 rfl ?_
  refine z_if_le (tgt := 56) (pc' := 54) dX6_item_51 (by decide) rfl (fun c2 => ?_) (fun c2 => ?_)
  · rw [if_pos c2] at hF
    refine z_iconst (v := 0) (pc' := 57) dX6_item_56 (by decide) rfl ?_
    refine z_istore_n (pc' := 58) dX6_item_57 rfl (by decide) rfl rfl ?_
    refine z_iload_n (pc' := 59) dX6_item_58 rfl rfl rfl ?_
    refine z_istore (pc' := 61) dX6_item_59 (by decide) rfl rfl ?_
    refine z_wk (ls' := [some (.ref 60), none, some (.int v2), some (.int 0), some (.int v1), none, none]) (z_lec rfl (z_len1 (z_lec rfl (z_lec rfl (z_lec rfl (z_len1 (z_len1 z_le0))))))) ?_
    exact (ok_X6_item_61 hst z_n) _ _ _ _ hF
  · rw [if_neg c2] at hF
    refine z_iconst (v := 0) (pc' := 55) dX6_item_54 (by decide) rfl ?_
    exact z_ireturn rfl dX6_item_55 (Option.some.inj hF).symm
def F_X6_item (B : Nat) (p1 : Int32) (p2 : Int32) (S : z_S) : Option (z_O × z_S) :=
  if (S.2.1 60 10) = 0 then
    z_bn (F_X6_items B S) fun r1 S2 =>
    (z_bn (F_X6_isIn B p1 0 (r1 - 1) S2) fun r4 S5 =>
    (if r4 = 0 then
      F_X6_item_44 B p1 p2 2 S5
    else
      z_bn (F_X6_isIn B p2 0 4 S5) fun r7 S8 =>
      (if r7 = 0 then
        F_X6_item_44 B p1 p2 3 S8
      else
        F_X6_item_44 B p1 p2 0 S8)))
  else
    F_X6_item_44 B p1 p2 1 S
set_option maxRecDepth 20000 in
set_option maxHeartbeats 16000000 in
theorem c_X6_item {l : Launch} {B : Nat} {p1 : Int32} {p2 : Int32} {S : z_S} {q : z_O × z_S} (hst : l.stackTraces = false) (hF : F_X6_item B p1 p2 S = some q) : z_Met l I_X6_item 1 22 B [.ref 60, .int p1, .int p2] S q.1 q.2 := by
  refine z_enter (ls := [some (.ref 60), some (.int p1), some (.int p2), none, none, none, none]) (n := 4) (by decide) rfl (Nat.le_of_ble_eq_true rfl) hst ?_
  unfold F_X6_item at hF
  refine z_aload_n (pc' := 1) dX6_item_0 rfl rfl rfl ?_
  refine z_aload_n (pc' := 2) dX6_item_1 rfl rfl rfl ?_
  refine gf_X6_149 (pc' := 5) rfl is_6_60 dX6_item_2 rfl ?_
  refine z_if_eq (tgt := 12) (pc' := 8) dX6_item_5 (by decide) rfl (fun c12 => ?_) (fun c12 => ?_)
  · rw [if_pos c12] at hF
    refine z_iload_n (pc' := 13) dX6_item_12 rfl rfl rfl ?_
    refine z_iconst (v := 0) (pc' := 14) dX6_item_13 (by decide) rfl ?_
    refine z_aload_n (pc' := 15) dX6_item_14 rfl rfl rfl ?_
    obtain ⟨r1, S2, hc3, hF⟩ := z_bne hF
    refine k_X6_items (F := 1) (L := 22) (pc' := 18) hc3 hst zw_149 rfl rfl (by decide) (by decide) (Nat.le_of_ble_eq_true rfl) dX6_item_15 rfl ?_
    refine z_iconst (v := 1) (pc' := 19) dX6_item_18 (by decide) rfl ?_
    refine z_isub (pc' := 20) dX6_item_19 rfl ?_
    obtain ⟨r4, S5, hc6, hF⟩ := z_bne hF
    refine k_X6_isIn (F := 1) (L := 22) (pc' := 23) hc6 hst zw_104 rfl rfl (by decide) (by decide) (Nat.le_of_ble_eq_true rfl) dX6_item_20 rfl ?_
    refine z_if_ne (tgt := 30) (pc' := 26) dX6_item_23 (by decide) rfl (fun c11 => ?_) (fun c11 => ?_)
    · rw [if_neg c11] at hF
      refine z_iload_n (pc' := 31) dX6_item_30 rfl rfl rfl ?_
      refine z_iconst (v := 0) (pc' := 32) dX6_item_31 (by decide) rfl ?_
      refine z_iconst (v := 4) (pc' := 33) dX6_item_32 (by decide) rfl ?_
      obtain ⟨r7, S8, hc9, hF⟩ := z_bne hF
      refine k_X6_isIn (F := 1) (L := 22) (pc' := 36) hc9 hst zw_104 rfl rfl (by decide) (by decide) (Nat.le_of_ble_eq_true rfl) dX6_item_33 rfl ?_
      refine z_if_ne (tgt := 43) (pc' := 39) dX6_item_36 (by decide) rfl (fun c10 => ?_) (fun c10 => ?_)
      · rw [if_neg c10] at hF
        refine z_iconst (v := 0) (pc' := 44) dX6_item_43 (by decide) rfl ?_
        refine z_wk (ls' := [some (.ref 60), some (.int p1), some (.int p2), none, none, none, none]) (z_lec rfl (z_lec rfl (z_lec rfl (z_len1 (z_len1 (z_len1 (z_len1 z_le0))))))) ?_
        exact (ok_X6_item_44 hst) _ _ _ _ hF
      · rw [if_pos c10] at hF
        refine z_iconst (v := 3) (pc' := 40) dX6_item_39 (by decide) rfl ?_
        refine z_goto (pc' := 44) dX6_item_40 (by decide) ?_
        refine z_wk (ls' := [some (.ref 60), some (.int p1), some (.int p2), none, none, none, none]) (z_lec rfl (z_lec rfl (z_lec rfl (z_len1 (z_len1 (z_len1 (z_len1 z_le0))))))) ?_
        exact (ok_X6_item_44 hst) _ _ _ _ hF
    · rw [if_pos c11] at hF
      refine z_iconst (v := 2) (pc' := 27) dX6_item_26 (by decide) rfl ?_
      refine z_goto (pc' := 44) dX6_item_27 (by decide) ?_
      refine z_wk (ls' := [some (.ref 60), some (.int p1), some (.int p2), none, none, none, none]) (z_lec rfl (z_lec rfl (z_lec rfl (z_len1 (z_len1 (z_len1 (z_len1 z_le0))))))) ?_
      exact (ok_X6_item_44 hst) _ _ _ _ hF
  · rw [if_neg c12] at hF
    refine z_iconst (v := 1) (pc' := 9) dX6_item_8 (by decide) rfl ?_
    refine z_goto (pc' := 44) dX6_item_9 (by decide) ?_
    refine z_wk (ls' := [some (.ref 60), some (.int p1), some (.int p2), none, none, none, none]) (z_lec rfl (z_lec rfl (z_lec rfl (z_len1 (z_len1 (z_len1 (z_len1 z_le0))))))) ?_
    exact (ok_X6_item_44 hst) _ _ _ _ hF
theorem ok_X6_item : z_okV I_X6_item 2 := ⟨⟨z_Gin (List.mem_of_getElem? (i := 1189) (by decide +kernel)) rfl, z_Gin (List.mem_of_getElem? (i := 1190) (by decide +kernel)) rfl, z_Gin (List.mem_of_getElem? (i := 98) (by decide +kernel)) rfl, z_Gin (List.mem_of_getElem? (i := 1191) (by decide +kernel)) rfl⟩, by decide, by decide, by decide +kernel⟩
theorem k_X6_item {l : Launch} {I : z_I} {R : Room} {B : Nat} {p1 : Int32} {p2 : Int32} {q : z_O × z_S} {pc pc' : Nat} {ls : List (Option Value)} {st : List Value} {S S1 : z_S} {idx F L : Nat} {r : Int32}  (hF : F_X6_item B p1 p2 S = some (.inl (some r), S1)) (hst : l.stackTraces = false) (w : Cond.methodLink I.1.cls idx yX6_item ∈ z_G) (hRF : R.frames = F) (hRL : R.locals = L) (h1 : 2 ≤ F) (h2 : 48 ≤ L) (hs : (st.map fun v => v.category).sum ≤ 8) (d : decode I.2.1 pc = .ok (.invokevirtual idx, 3)) (hp : pc + 3 = pc') (k : z_W l I R B q pc' ls (.int r :: st) S1) : z_W l I R B q pc ls (.int p2 :: .int p1 :: .ref 60 :: st) S := z_callV (Y := I_X6_item) (As := [.int p1, .int p2]) (st := st) (r := (some r)) (S1 := S1) (c_X6_item (q := (.inl (some r), S1)) hst hF) ok_X6_item w (ci := 6) rfl is_6_60.1 is_6_60.2 rfl ⟨by rw [hRF]; exact h1, by rw [hRL]; exact h2⟩ hs d hp rfl k

