abbrev I_X6_tailOf : z_I := (yX6_tailOf, cX6_tailOf, 2, some .int)
abbrev R_X6_tailOf (q : z_O × z_S) : Room := { frames := 0, locals := 0, cells := z_mc q.1, slots := 6 * z_mc q.1 }
def F_X6_tailOf_24 (B : Nat)  (s0 : Int32) (S : z_S) : Option (z_O × z_S) :=
  some (.inl (some s0), S)
set_option maxRecDepth 20000 in
set_option maxHeartbeats 16000000 in
theorem ok_X6_tailOf_24 {l : Launch} {B : Nat} {q : z_O × z_S} (hst : l.stackTraces = false) : ∀ (s0 : Int32) (S : z_S), F_X6_tailOf_24 B s0 S = some q → z_W l I_X6_tailOf (R_X6_tailOf q) B q 24 [none, none] [.int s0] S := by
  intro s0 S hF
  unfold F_X6_tailOf_24 at hF
  exact z_ireturn rfl dX6_tailOf_24 (Option.some.inj hF).symm
def F_X6_tailOf_23 (B : Nat) (k24 : Int32 → z_S → Option (z_O × z_S))  (S : z_S) : Option (z_O × z_S) :=
  k24 0 S
set_option maxRecDepth 20000 in
set_option maxHeartbeats 16000000 in
theorem ok_X6_tailOf_23 {l : Launch} {B : Nat} {q : z_O × z_S} (hst : l.stackTraces = false) {k24 : Int32 → z_S → Option (z_O × z_S)} (hk24 : ∀ (s0 : Int32) (S : z_S), k24 s0 S = some q → z_W l I_X6_tailOf (R_X6_tailOf q) B q 24 [none, none] [.int s0] S) : ∀ (S : z_S), F_X6_tailOf_23 B k24 S = some q → z_W l I_X6_tailOf (R_X6_tailOf q) B q 23 [none, none] [] S := by
  intro S hF
  unfold F_X6_tailOf_23 at hF
  refine z_iconst (v := 0) (pc' := 24) dX6_tailOf_23 (by decide) rfl ?_
  refine z_wk (ls' := [none, none]) (z_len1 (z_len1 z_le0)) ?_
  exact hk24 _ _ hF
def F_X6_tailOf (B : Nat) (p0 : Int32) (S : z_S) : Option (z_O × z_S) :=
  if 40 < (p0 - p0 / 128 * 128) then
    F_X6_tailOf_23 B (F_X6_tailOf_24 B ) S
  else
    if 512 < p0 then
      F_X6_tailOf_23 B (F_X6_tailOf_24 B ) S
    else
      F_X6_tailOf_24 B (p0 - p0 / 128 * 128) S
set_option maxRecDepth 20000 in
set_option maxHeartbeats 16000000 in
theorem c_X6_tailOf {l : Launch} {B : Nat} {p0 : Int32} {S : z_S} {q : z_O × z_S} (hst : l.stackTraces = false) (hF : F_X6_tailOf B p0 S = some q) : z_Met l I_X6_tailOf 0 0 B [.int p0] S q.1 q.2 := by
  refine z_enter (ls := [some (.int p0), none]) (n := 1) (by decide) rfl (Nat.le_of_ble_eq_true rfl) hst ?_
  unfold F_X6_tailOf at hF
  refine z_iload_n (pc' := 1) dX6_tailOf_0 rfl rfl rfl ?_
  refine z_sipush (v := 128) (pc' := 4) dX6_tailOf_1 (by decide) rfl ?_
  refine z_irem (pc' := 5) dX6_tailOf_4 (by decide) rfl ?_
  refine z_istore_n (pc' := 6) dX6_tailOf_5 rfl (by decide) rfl rfl ?_
  refine z_iload_n (pc' := 7) dX6_tailOf_6 rfl rfl rfl ?_
  refine z_bipush (v := 40) (pc' := 9) dX6_tailOf_7 (by decide) rfl ?_
  refine z_icmp_gt (tgt := 23) (pc' := 12) dX6_tailOf_9 (by decide) rfl (fun c2 => ?_) (fun c2 => ?_)
  · rw [if_pos c2] at hF
    refine z_wk (ls' := [none, none]) (z_len1 (z_len1 z_le0)) ?_
    exact (ok_X6_tailOf_23 hst (ok_X6_tailOf_24 hst)) _ hF
  · rw [if_neg c2] at hF
    refine z_iload_n (pc' := 13) dX6_tailOf_12 rfl rfl rfl ?_
    refine z_sipush (v := 512) (pc' := 16) dX6_tailOf_13 (by decide) rfl ?_
    refine z_icmp_gt (tgt := 23) (pc' := 19) dX6_tailOf_16 (by decide) rfl (fun c1 => ?_) (fun c1 => ?_)
    · rw [if_pos c1] at hF
      refine z_wk (ls' := [none, none]) (z_len1 (z_len1 z_le0)) ?_
      exact (ok_X6_tailOf_23 hst (ok_X6_tailOf_24 hst)) _ hF
    · rw [if_neg c1] at hF
      refine z_iload_n (pc' := 20) dX6_tailOf_19 rfl rfl rfl ?_
      refine z_goto (pc' := 24) dX6_tailOf_20 (by decide) ?_
      refine z_wk (ls' := [none, none]) (z_len1 (z_len1 z_le0)) ?_
      exact (ok_X6_tailOf_24 hst) _ _ hF
theorem ok_X6_tailOf : z_okS I_X6_tailOf 1 := ⟨⟨z_Gin (List.mem_of_getElem? (i := 1114) (by decide +kernel)) rfl, z_Gin (List.mem_of_getElem? (i := 98) (by decide +kernel)) rfl, z_Gin (List.mem_of_getElem? (i := 1115) (by decide +kernel)) rfl⟩, by decide, by decide, by decide +kernel⟩
theorem k_X6_tailOf {l : Launch} {I : z_I} {R : Room} {B : Nat} {p0 : Int32} {q : z_O × z_S} {pc pc' : Nat} {ls : List (Option Value)} {st : List Value} {S S1 : z_S} {idx F L : Nat} {r : Int32}  (hF : F_X6_tailOf B p0 S = some (.inl (some r), S1)) (hst : l.stackTraces = false) (w : Cond.methodLink I.1.cls idx yX6_tailOf ∈ z_G) (hRF : R.frames = F) (hRL : R.locals = L) (h1 : 1 ≤ F) (h2 : 21 ≤ L) (hs : (st.map fun v => v.category).sum ≤ 8) (d : decode I.2.1 pc = .ok (.invokestatic idx, 3)) (hp : pc + 3 = pc') (k : z_W l I R B q pc' ls (.int r :: st) S1) : z_W l I R B q pc ls (.int p0 :: st) S := z_callS (Y := I_X6_tailOf) (As := [.int p0]) (st := st) (r := (some r)) (S1 := S1) (c_X6_tailOf (q := (.inl (some r), S1)) hst hF) ok_X6_tailOf w rfl ⟨by rw [hRF]; exact h1, by rw [hRL]; exact h2⟩ hs d hp rfl k

abbrev I_X6_datasOf : z_I := (yX6_datasOf, cX6_datasOf, 1, some .int)
abbrev R_X6_datasOf (q : z_O × z_S) : Room := { frames := 1, locals := 21, cells := z_mc q.1, slots := 6 * z_mc q.1 }
def F_X6_datasOf_25 (B : Nat)  (s0 : Int32) (s1 : Int32) (S : z_S) : Option (z_O × z_S) :=
  some (.inl (some (s1 + s0)), S)
set_option maxRecDepth 20000 in
set_option maxHeartbeats 16000000 in
theorem ok_X6_datasOf_25 {l : Launch} {B : Nat} {q : z_O × z_S} (hst : l.stackTraces = false) : ∀ (s0 : Int32) (s1 : Int32) (S : z_S), F_X6_datasOf_25 B s0 s1 S = some q → z_W l I_X6_datasOf (R_X6_datasOf q) B q 25 [none] [.int s0, .int s1] S := by
  intro s0 s1 S hF
  unfold F_X6_datasOf_25 at hF
  refine z_iadd (pc' := 26) dX6_datasOf_25 rfl ?_
  exact z_ireturn rfl dX6_datasOf_26 (Option.some.inj hF).symm
def F_X6_datasOf_24 (B : Nat) (k25 : Int32 → Int32 → z_S → Option (z_O × z_S)) (s0 : Int32) (S : z_S) : Option (z_O × z_S) :=
  k25 0 s0 S
set_option maxRecDepth 20000 in
set_option maxHeartbeats 16000000 in
theorem ok_X6_datasOf_24 {l : Launch} {B : Nat} {q : z_O × z_S} (hst : l.stackTraces = false) {k25 : Int32 → Int32 → z_S → Option (z_O × z_S)} (hk25 : ∀ (s0 : Int32) (s1 : Int32) (S : z_S), k25 s0 s1 S = some q → z_W l I_X6_datasOf (R_X6_datasOf q) B q 25 [none] [.int s0, .int s1] S) : ∀ (s0 : Int32) (S : z_S), F_X6_datasOf_24 B k25 s0 S = some q → z_W l I_X6_datasOf (R_X6_datasOf q) B q 24 [none] [.int s0] S := by
  intro s0 S hF
  unfold F_X6_datasOf_24 at hF
  refine z_iconst (v := 0) (pc' := 25) dX6_datasOf_24 (by decide) rfl ?_
  refine z_wk (ls' := [none]) (z_len1 z_le0) ?_
  exact hk25 _ _ _ hF
def F_X6_datasOf (B : Nat) (p0 : Int32) (S : z_S) : Option (z_O × z_S) :=
  if (p0 - p0 / 128 * 128) ≤ 0 then
    F_X6_datasOf_24 B (F_X6_datasOf_25 B ) (p0 / 128) S
  else
    z_bn (F_X6_tailOf B p0 S) fun r1 S2 =>
    (if r1 = 0 then
      F_X6_datasOf_25 B 1 (p0 / 128) S2
    else
      F_X6_datasOf_24 B (F_X6_datasOf_25 B ) (p0 / 128) S2)
set_option maxRecDepth 20000 in
set_option maxHeartbeats 16000000 in
theorem c_X6_datasOf {l : Launch} {B : Nat} {p0 : Int32} {S : z_S} {q : z_O × z_S} (hst : l.stackTraces = false) (hF : F_X6_datasOf B p0 S = some q) : z_Met l I_X6_datasOf 1 21 B [.int p0] S q.1 q.2 := by
  refine z_enter (ls := [some (.int p0)]) (n := 0) (by decide) rfl (Nat.le_of_ble_eq_true rfl) hst ?_
  unfold F_X6_datasOf at hF
  refine z_iload_n (pc' := 1) dX6_datasOf_0 rfl rfl rfl ?_
  refine z_sipush (v := 128) (pc' := 4) dX6_datasOf_1 (by decide) rfl ?_
  refine z_idiv (pc' := 5) dX6_datasOf_4 (by decide) rfl ?_
  refine z_iload_n (pc' := 6) dX6_datasOf_5 rfl rfl rfl ?_
  refine z_sipush (v := 128) (pc' := 9) dX6_datasOf_6 (by decide) rfl ?_
  refine z_irem (pc' := 10) dX6_datasOf_9 (by decide) rfl ?_
  refine z_if_le (tgt := 24) (pc' := 13) dX6_datasOf_10 (by decide) rfl (fun c5 => ?_) (fun c5 => ?_)
  · rw [if_pos c5] at hF
    refine z_wk (ls' := [none]) (z_len1 z_le0) ?_
    exact (ok_X6_datasOf_24 hst (ok_X6_datasOf_25 hst)) _ _ hF
  · rw [if_neg c5] at hF
    refine z_iload_n (pc' := 14) dX6_datasOf_13 rfl rfl rfl ?_
    obtain ⟨r1, S2, hc3, hF⟩ := z_bne hF
    refine k_X6_tailOf (F := 1) (L := 21) (pc' := 17) hc3 hst zw_130 rfl rfl (by decide) (by decide) (Nat.le_of_ble_eq_true rfl) dX6_datasOf_14 rfl ?_
    refine z_if_ne (tgt := 24) (pc' := 20) dX6_datasOf_17 (by decide) rfl (fun c4 => ?_) (fun c4 => ?_)
    · rw [if_neg c4] at hF
      refine z_wk (ls' := [none]) (z_len1 z_le0) ?_
      exact (ok_X6_datasOf_24 hst (ok_X6_datasOf_25 hst)) _ _ hF
    · rw [if_pos c4] at hF
      refine z_iconst (v := 1) (pc' := 21) dX6_datasOf_20 (by decide) rfl ?_
      refine z_goto (pc' := 25) dX6_datasOf_21 (by decide) ?_
      refine z_wk (ls' := [none]) (z_len1 z_le0) ?_
      exact (ok_X6_datasOf_25 hst) _ _ _ hF
theorem ok_X6_datasOf : z_okS I_X6_datasOf 1 := ⟨⟨z_Gin (List.mem_of_getElem? (i := 1158) (by decide +kernel)) rfl, z_Gin (List.mem_of_getElem? (i := 98) (by decide +kernel)) rfl, z_Gin (List.mem_of_getElem? (i := 1159) (by decide +kernel)) rfl⟩, by decide, by decide, by decide +kernel⟩
theorem k_X6_datasOf {l : Launch} {I : z_I} {R : Room} {B : Nat} {p0 : Int32} {q : z_O × z_S} {pc pc' : Nat} {ls : List (Option Value)} {st : List Value} {S S1 : z_S} {idx F L : Nat} {r : Int32}  (hF : F_X6_datasOf B p0 S = some (.inl (some r), S1)) (hst : l.stackTraces = false) (w : Cond.methodLink I.1.cls idx yX6_datasOf ∈ z_G) (hRF : R.frames = F) (hRL : R.locals = L) (h1 : 2 ≤ F) (h2 : 41 ≤ L) (hs : (st.map fun v => v.category).sum ≤ 8) (d : decode I.2.1 pc = .ok (.invokestatic idx, 3)) (hp : pc + 3 = pc') (k : z_W l I R B q pc' ls (.int r :: st) S1) : z_W l I R B q pc ls (.int p0 :: st) S := z_callS (Y := I_X6_datasOf) (As := [.int p0]) (st := st) (r := (some r)) (S1 := S1) (c_X6_datasOf (q := (.inl (some r), S1)) hst hF) ok_X6_datasOf w rfl ⟨by rw [hRF]; exact h1, by rw [hRL]; exact h2⟩ hs d hp rfl k

abbrev I_X6_byteOf : z_I := (yX6_byteOf, cX6_byteOf, 3, some .int)
abbrev R_X6_byteOf (q : z_O × z_S) : Room := { frames := 0, locals := 0, cells := z_mc q.1, slots := 6 * z_mc q.1 }
def F_X6_byteOf_78 (B : Nat)  (s0 : Int32) (S : z_S) : Option (z_O × z_S) :=
  some (.inl (some s0), S)
set_option maxRecDepth 20000 in
set_option maxHeartbeats 16000000 in
theorem ok_X6_byteOf_78 {l : Launch} {B : Nat} {q : z_O × z_S} (hst : l.stackTraces = false) : ∀ (s0 : Int32) (S : z_S), F_X6_byteOf_78 B s0 S = some q → z_W l I_X6_byteOf (R_X6_byteOf q) B q 78 [none, none, none] [.int s0] S := by
  intro s0 S hF
  unfold F_X6_byteOf_78 at hF
  exact z_ireturn rfl dX6_byteOf_78 (Option.some.inj hF).symm
def F_X6_byteOf (B : Nat) (p1 : Int32) (p2 : Int32) (S : z_S) : Option (z_O × z_S) :=
  z_gd (z_inb (279 + p1) 25366) (
  z_lt (S.1 61 (z_ix (279 + p1))) fun x2 =>
  (if x2 ≤ (p2 / 128) then
    z_gd (z_inb ((1316 + (40 * p1)) + (p2 - p2 / 128 * 128)) 25366) (
    z_lt (S.1 61 (z_ix ((1316 + (40 * p1)) + (p2 - p2 / 128 * 128)))) fun x4 =>
    (F_X6_byteOf_78 B x4 S))
  else
    z_gd (z_inb ((340 + (16 * p1)) + (p2 / 128)) 25366) (
    z_lt (S.1 61 (z_ix ((340 + (16 * p1)) + (p2 / 128)))) fun x6 =>
    (z_gd (z_inb ((13078 + (128 * x6)) + (p2 - p2 / 128 * 128)) 25366) (
    z_lt (S.1 61 (z_ix ((13078 + (128 * x6)) + (p2 - p2 / 128 * 128)))) fun x8 =>
    (F_X6_byteOf_78 B x8 S))))))
set_option maxRecDepth 20000 in
set_option maxHeartbeats 16000000 in
theorem c_X6_byteOf {l : Launch} {B : Nat} {p1 : Int32} {p2 : Int32} {S : z_S} {q : z_O × z_S} (hst : l.stackTraces = false) (hF : F_X6_byteOf B p1 p2 S = some q) : z_Met l I_X6_byteOf 0 0 B [.ref 60, .int p1, .int p2] S q.1 q.2 := by
  refine z_enter (ls := [some (.ref 60), some (.int p1), some (.int p2)]) (n := 0) (by decide) rfl (Nat.le_of_ble_eq_true rfl) hst ?_
  unfold F_X6_byteOf at hF
  refine z_iload_n (pc' := 1) dX6_byteOf_0 rfl rfl rfl ?_
  refine z_sipush (v := 128) (pc' := 4) dX6_byteOf_1 (by decide) rfl ?_
  refine z_idiv (pc' := 5) dX6_byteOf_4 (by decide) rfl ?_
  refine z_aload_n (pc' := 6) dX6_byteOf_5 rfl rfl rfl ?_
  refine gf_X6_7 (b := 61) (pc' := 9) rfl is_6_60 rfl dX6_byteOf_6 rfl ?_
  refine z_sipush (v := 279) (pc' := 12) dX6_byteOf_9 (by decide) rfl ?_
  refine z_iload_n (pc' := 13) dX6_byteOf_12 rfl rfl rfl ?_
  refine z_iadd (pc' := 14) dX6_byteOf_13 rfl ?_
  obtain ⟨g1, hF⟩ := z_gde hF
  refine z_iaload (pc' := 15) (ar_6_f3 is_6_60) (z_inbe g1) dX6_byteOf_14 rfl ?_
  refine z_topi (fun x2 ex2 => ?_)
  replace hF := z_lte hF x2 ex2
  refine z_icmp_ge (tgt := 59) (pc' := 18) dX6_byteOf_15 (by decide) rfl (fun c9 => ?_) (fun c9 => ?_)
  · rw [if_pos c9] at hF
    refine z_aload_n (pc' := 60) dX6_byteOf_59 rfl rfl rfl ?_
    refine gf_X6_7 (b := 61) (pc' := 63) rfl is_6_60 rfl dX6_byteOf_60 rfl ?_
    refine z_sipush (v := 1316) (pc' := 66) dX6_byteOf_63 (by decide) rfl ?_
    refine z_bipush (v := 40) (pc' := 68) dX6_byteOf_66 (by decide) rfl ?_
    refine z_iload_n (pc' := 69) dX6_byteOf_68 rfl rfl rfl ?_
    refine z_imul (pc' := 70) dX6_byteOf_69 rfl ?_
    refine z_iadd (pc' := 71) dX6_byteOf_70 rfl ?_
    refine z_iload_n (pc' := 72) dX6_byteOf_71 rfl rfl rfl ?_
    refine z_sipush (v := 128) (pc' := 75) dX6_byteOf_72 (by decide) rfl ?_
    refine z_irem (pc' := 76) dX6_byteOf_75 (by decide) rfl ?_
    refine z_iadd (pc' := 77) dX6_byteOf_76 rfl ?_
    obtain ⟨g3, hF⟩ := z_gde hF
    refine z_iaload (pc' := 78) (ar_6_f3 is_6_60) (z_inbe g3) dX6_byteOf_77 rfl ?_
    refine z_topi (fun x4 ex4 => ?_)
    replace hF := z_lte hF x4 ex4
    refine z_wk (ls' := [none, none, none]) (z_len1 (z_len1 (z_len1 z_le0))) ?_
    exact (ok_X6_byteOf_78 hst) _ _ hF
  · rw [if_neg c9] at hF
    refine z_aload_n (pc' := 19) dX6_byteOf_18 rfl rfl rfl ?_
    refine gf_X6_7 (b := 61) (pc' := 22) rfl is_6_60 rfl dX6_byteOf_19 rfl ?_
    refine z_sipush (v := 13078) (pc' := 25) dX6_byteOf_22 (by decide) rfl ?_
    refine z_sipush (v := 128) (pc' := 28) dX6_byteOf_25 (by decide) rfl ?_
    refine z_aload_n (pc' := 29) dX6_byteOf_28 rfl rfl rfl ?_
    refine gf_X6_7 (b := 61) (pc' := 32) rfl is_6_60 rfl dX6_byteOf_29 rfl ?_
    refine z_sipush (v := 340) (pc' := 35) dX6_byteOf_32 (by decide) rfl ?_
    refine z_bipush (v := 16) (pc' := 37) dX6_byteOf_35 (by decide) rfl ?_
    refine z_iload_n (pc' := 38) dX6_byteOf_37 rfl rfl rfl ?_
    refine z_imul (pc' := 39) dX6_byteOf_38 rfl ?_
    refine z_iadd (pc' := 40) dX6_byteOf_39 rfl ?_
    refine z_iload_n (pc' := 41) dX6_byteOf_40 rfl rfl rfl ?_
    refine z_sipush (v := 128) (pc' := 44) dX6_byteOf_41 (by decide) rfl ?_
    refine z_idiv (pc' := 45) dX6_byteOf_44 (by decide) rfl ?_
    refine z_iadd (pc' := 46) dX6_byteOf_45 rfl ?_
    obtain ⟨g5, hF⟩ := z_gde hF
    refine z_iaload (pc' := 47) (ar_6_f3 is_6_60) (z_inbe g5) dX6_byteOf_46 rfl ?_
    refine z_topi (fun x6 ex6 => ?_)
    replace hF := z_lte hF x6 ex6
    refine z_imul (pc' := 48) dX6_byteOf_47 rfl ?_
    refine z_iadd (pc' := 49) dX6_byteOf_48 rfl ?_
    refine z_iload_n (pc' := 50) dX6_byteOf_49 rfl rfl rfl ?_
    refine z_sipush (v := 128) (pc' := 53) dX6_byteOf_50 (by decide) rfl ?_
    refine z_irem (pc' := 54) dX6_byteOf_53 (by decide) rfl ?_
    refine z_iadd (pc' := 55) dX6_byteOf_54 rfl ?_
    obtain ⟨g7, hF⟩ := z_gde hF
    refine z_iaload (pc' := 56) (ar_6_f3 is_6_60) (z_inbe g7) dX6_byteOf_55 rfl ?_
    refine z_topi (fun x8 ex8 => ?_)
    replace hF := z_lte hF x8 ex8
    refine z_goto (pc' := 78) dX6_byteOf_56 (by decide) ?_
    refine z_wk (ls' := [none, none, none]) (z_len1 (z_len1 (z_len1 z_le0))) ?_
    exact (ok_X6_byteOf_78 hst) _ _ hF
theorem ok_X6_byteOf : z_okV I_X6_byteOf 2 := ⟨⟨z_Gin (List.mem_of_getElem? (i := 1146) (by decide +kernel)) rfl, z_Gin (List.mem_of_getElem? (i := 74) (by decide +kernel)) rfl, z_Gin (List.mem_of_getElem? (i := 98) (by decide +kernel)) rfl, z_Gin (List.mem_of_getElem? (i := 1147) (by decide +kernel)) rfl⟩, by decide, by decide, by decide +kernel⟩
theorem k_X6_byteOf {l : Launch} {I : z_I} {R : Room} {B : Nat} {p1 : Int32} {p2 : Int32} {q : z_O × z_S} {pc pc' : Nat} {ls : List (Option Value)} {st : List Value} {S S1 : z_S} {idx F L : Nat} {r : Int32}  (hF : F_X6_byteOf B p1 p2 S = some (.inl (some r), S1)) (hst : l.stackTraces = false) (w : Cond.methodLink I.1.cls idx yX6_byteOf ∈ z_G) (hRF : R.frames = F) (hRL : R.locals = L) (h1 : 1 ≤ F) (h2 : 22 ≤ L) (hs : (st.map fun v => v.category).sum ≤ 8) (d : decode I.2.1 pc = .ok (.invokevirtual idx, 3)) (hp : pc + 3 = pc') (k : z_W l I R B q pc' ls (.int r :: st) S1) : z_W l I R B q pc ls (.int p2 :: .int p1 :: .ref 60 :: st) S := z_callV (Y := I_X6_byteOf) (As := [.int p1, .int p2]) (st := st) (r := (some r)) (S1 := S1) (c_X6_byteOf (q := (.inl (some r), S1)) hst hF) ok_X6_byteOf w (ci := 6) rfl is_6_60.1 is_6_60.2 rfl ⟨by rw [hRF]; exact h1, by rw [hRL]; exact h2⟩ hs d hp rfl k

abbrev I_X6_gather : z_I := (yX6_gather, cX6_gather, 3, none)
abbrev R_X6_gather (q : z_O × z_S) : Room := { frames := 1, locals := 22, cells := z_mc q.1, slots := 6 * z_mc q.1 }
def F_X6_gather_38 (B : Nat) (k2 : Int32 → Int32 → z_S → Option (z_O × z_S)) (v1 : Int32) (v2 : Int32) (s0 : Int32) (s1 : Int32) (S : z_S) : Option (z_O × z_S) :=
  z_gd (z_inb s1 2560) (
  z_lt (z_ua S 64 (upd (S.1 64) (z_ix (s1)) s0)) fun S2 =>
  (k2 v1 (v2 + 1) S2))
set_option maxRecDepth 20000 in
set_option maxHeartbeats 16000000 in
theorem ok_X6_gather_38 {l : Launch} {B : Nat} {q : z_O × z_S} (hst : l.stackTraces = false) {k2 : Int32 → Int32 → z_S → Option (z_O × z_S)} (hk2 : ∀ (v1 : Int32) (v2 : Int32) (S : z_S), k2 v1 v2 S = some q → z_W l I_X6_gather (R_X6_gather q) B q 2 [some (.ref 60), some (.int v1), some (.int v2)] [] S) : ∀ (v1 : Int32) (v2 : Int32) (s0 : Int32) (s1 : Int32) (S : z_S), F_X6_gather_38 B k2 v1 v2 s0 s1 S = some q → z_W l I_X6_gather (R_X6_gather q) B q 38 [some (.ref 60), some (.int v1), some (.int v2)] [.int s0, .int s1, .ref 64] S := by
  intro v1 v2 s0 s1 S hF
  unfold F_X6_gather_38 at hF
  obtain ⟨g1, hF⟩ := z_gde hF
  refine z_iastore (pc' := 39) (ar_6_f6 is_6_60) (z_inbe g1) dX6_gather_38 rfl (fun S2 eS2 => ?_)
  replace hF := z_lte hF S2 eS2
  refine z_iinc (v := v2 + 1) (pc' := 42) dX6_gather_39 rfl rfl (by decide) rfl rfl ?_
  refine z_goto (pc' := 2) dX6_gather_42 (by decide) ?_
  refine z_wk (ls' := [some (.ref 60), some (.int v1), some (.int (v2 + 1))]) (z_lec rfl (z_lec rfl (z_lec rfl z_le0))) ?_
  exact hk2 _ _ _ hF
def F_X6_gather_2 (B : Nat)  : Nat → Int32 → Int32 → z_S → Option (z_O × z_S)
  | 0, _, _, _ => none
  | n + 1, v1, v2, S => if 2560 ≤ v2 then
    some (.inl none, S)
  else
    z_gd (z_inb (218 + v1) 25366) (
    z_lt (S.1 61 (z_ix (218 + v1))) fun x2 =>
    (if x2 ≤ v2 then
      F_X6_gather_38 B (F_X6_gather_2 B n) v1 v2 0 v2 S
    else
      z_bn (F_X6_byteOf B v1 v2 S) fun r3 S4 =>
      (F_X6_gather_38 B (F_X6_gather_2 B n) v1 v2 r3 v2 S4)))
set_option maxRecDepth 20000 in
set_option maxHeartbeats 16000000 in
theorem ok_X6_gather_2 {l : Launch} {B : Nat} {q : z_O × z_S} (hst : l.stackTraces = false) : ∀ (n : Nat) (v1 : Int32) (v2 : Int32) (S : z_S), F_X6_gather_2 B n v1 v2 S = some q → z_W l I_X6_gather (R_X6_gather q) B q 2 [some (.ref 60), some (.int v1), some (.int v2)] [] S := by
  intro n
  induction n with
  | zero => intro v1 v2 S hF; cases hF
  | succ n ih =>
    intro v1 v2 S hF
    rw [F_X6_gather_2] at hF
    refine z_iload_n (pc' := 3) dX6_gather_2 rfl rfl rfl ?_
    refine z_sipush (v := 2560) (pc' := 6) dX6_gather_3 (by decide) rfl ?_
    refine z_icmp_ge (tgt := 45) (pc' := 9) dX6_gather_6 (by decide) rfl (fun c7 => ?_) (fun c7 => ?_)
    · rw [if_pos c7] at hF
      exact z_return rfl dX6_gather_45 (Option.some.inj hF).symm
    · rw [if_neg c7] at hF
      refine z_aload_n (pc' := 10) dX6_gather_9 rfl rfl rfl ?_
      refine gf_X6_19 (b := 64) (pc' := 13) rfl is_6_60 rfl dX6_gather_10 rfl ?_
      refine z_iload_n (pc' := 14) dX6_gather_13 rfl rfl rfl ?_
      refine z_iload_n (pc' := 15) dX6_gather_14 rfl rfl rfl ?_
      refine z_aload_n (pc' := 16) dX6_gather_15 rfl rfl rfl ?_
      refine gf_X6_7 (b := 61) (pc' := 19) rfl is_6_60 rfl dX6_gather_16 rfl ?_
      refine z_sipush (v := 218) (pc' := 22) dX6_gather_19 (by decide) rfl ?_
      refine z_iload_n (pc' := 23) dX6_gather_22 rfl rfl rfl ?_
      refine z_iadd (pc' := 24) dX6_gather_23 rfl ?_
      obtain ⟨g1, hF⟩ := z_gde hF
      refine z_iaload (pc' := 25) (ar_6_f3 is_6_60) (z_inbe g1) dX6_gather_24 rfl ?_
      refine z_topi (fun x2 ex2 => ?_)
      replace hF := z_lte hF x2 ex2
      refine z_icmp_ge (tgt := 37) (pc' := 28) dX6_gather_25 (by decide) rfl (fun c6 => ?_) (fun c6 => ?_)
      · rw [if_pos c6] at hF
        refine z_iconst (v := 0) (pc' := 38) dX6_gather_37 (by decide) rfl ?_
        refine z_wk (ls' := [some (.ref 60), some (.int v1), some (.int v2)]) (z_lec rfl (z_lec rfl (z_lec rfl z_le0))) ?_
        exact (ok_X6_gather_38 hst ih) _ _ _ _ _ hF
      · rw [if_neg c6] at hF
        refine z_aload_n (pc' := 29) dX6_gather_28 rfl rfl rfl ?_
        refine z_iload_n (pc' := 30) dX6_gather_29 rfl rfl rfl ?_
        refine z_iload_n (pc' := 31) dX6_gather_30 rfl rfl rfl ?_
        obtain ⟨r3, S4, hc5, hF⟩ := z_bne hF
        refine k_X6_byteOf (F := 1) (L := 22) (pc' := 34) hc5 hst zw_131 rfl rfl (by decide) (by decide) (Nat.le_of_ble_eq_true rfl) dX6_gather_31 rfl ?_
        refine z_goto (pc' := 38) dX6_gather_34 (by decide) ?_
        refine z_wk (ls' := [some (.ref 60), some (.int v1), some (.int v2)]) (z_lec rfl (z_lec rfl (z_lec rfl z_le0))) ?_
        exact (ok_X6_gather_38 hst ih) _ _ _ _ _ hF
def F_X6_gather (B : Nat) (p1 : Int32) (S : z_S) : Option (z_O × z_S) :=
  F_X6_gather_2 B z_n p1 0 S
set_option maxRecDepth 20000 in
set_option maxHeartbeats 16000000 in
theorem c_X6_gather {l : Launch} {B : Nat} {p1 : Int32} {S : z_S} {q : z_O × z_S} (hst : l.stackTraces = false) (hF : F_X6_gather B p1 S = some q) : z_Met l I_X6_gather 1 22 B [.ref 60, .int p1] S q.1 q.2 := by
  refine z_enter (ls := [some (.ref 60), some (.int p1), none]) (n := 1) (by decide) rfl (Nat.le_of_ble_eq_true rfl) hst ?_
  unfold F_X6_gather at hF
  refine z_iconst (v := 0) (pc' := 1) dX6_gather_0 (by decide) rfl ?_
  refine z_istore_n (pc' := 2) dX6_gather_1 rfl (by decide) rfl rfl ?_
  refine z_wk (ls' := [some (.ref 60), some (.int p1), some (.int 0)]) (z_lec rfl (z_lec rfl (z_lec rfl z_le0))) ?_
  exact (ok_X6_gather_2 hst z_n) _ _ _ hF
theorem ok_X6_gather : z_okV I_X6_gather 1 := ⟨⟨z_Gin (List.mem_of_getElem? (i := 1142) (by decide +kernel)) rfl, z_Gin (List.mem_of_getElem? (i := 73) (by decide +kernel)) rfl, z_Gin (List.mem_of_getElem? (i := 98) (by decide +kernel)) rfl, z_Gin (List.mem_of_getElem? (i := 1143) (by decide +kernel)) rfl⟩, by decide, by decide, by decide +kernel⟩
theorem k_X6_gather {l : Launch} {I : z_I} {R : Room} {B : Nat} {p1 : Int32} {q : z_O × z_S} {pc pc' : Nat} {ls : List (Option Value)} {st : List Value} {S S1 : z_S} {idx F L : Nat}  (hF : F_X6_gather B p1 S = some (.inl none, S1)) (hst : l.stackTraces = false) (w : Cond.methodLink I.1.cls idx yX6_gather ∈ z_G) (hRF : R.frames = F) (hRL : R.locals = L) (h1 : 2 ≤ F) (h2 : 44 ≤ L) (hs : (st.map fun v => v.category).sum ≤ 8) (d : decode I.2.1 pc = .ok (.invokevirtual idx, 3)) (hp : pc + 3 = pc') (k : z_W l I R B q pc' ls st S1) : z_W l I R B q pc ls (.int p1 :: .ref 60 :: st) S := z_callV (Y := I_X6_gather) (As := [.int p1]) (st := st) (r := none) (S1 := S1) (c_X6_gather (q := (.inl none, S1)) hst hF) ok_X6_gather w (ci := 6) rfl is_6_60.1 is_6_60.2 rfl ⟨by rw [hRF]; exact h1, by rw [hRL]; exact h2⟩ hs d hp rfl k

abbrev I_X6_lay : z_I := (yX6_lay, cX6_lay, 7, none)
abbrev R_X6_lay (q : z_O × z_S) : Room := { frames := 7, locals := 174, cells := z_mc q.1, slots := 6 * z_mc q.1 }
def F_X6_lay_311 (B : Nat) (k262 : Int32 → Int32 → Int32 → Int32 → Int32 → Int32 → z_S → Option (z_O × z_S)) (v1 : Int32) (v2 : Int32) (v3 : Int32) (v4 : Int32) (v5 : Int32) (v6 : Int32) (s0 : Int32) (s1 : Int32) (S : z_S) : Option (z_O × z_S) :=
  z_gd (z_inb s1 25366) (
  z_lt (z_ua S 61 (upd (S.1 61) (z_ix (s1)) s0)) fun S2 =>
  (k262 v1 v2 v3 v4 v5 (v6 + 1) S2))
set_option maxRecDepth 20000 in
set_option maxHeartbeats 16000000 in
theorem ok_X6_lay_311 {l : Launch} {B : Nat} {q : z_O × z_S} (hst : l.stackTraces = false) {k262 : Int32 → Int32 → Int32 → Int32 → Int32 → Int32 → z_S → Option (z_O × z_S)} (hk262 : ∀ (v1 : Int32) (v2 : Int32) (v3 : Int32) (v4 : Int32) (v5 : Int32) (v6 : Int32) (S : z_S), k262 v1 v2 v3 v4 v5 v6 S = some q → z_W l I_X6_lay (R_X6_lay q) B q 262 [some (.ref 60), some (.int v1), some (.int v2), some (.int v3), some (.int v4), some (.int v5), some (.int v6)] [] S) : ∀ (v1 : Int32) (v2 : Int32) (v3 : Int32) (v4 : Int32) (v5 : Int32) (v6 : Int32) (s0 : Int32) (s1 : Int32) (S : z_S), F_X6_lay_311 B k262 v1 v2 v3 v4 v5 v6 s0 s1 S = some q → z_W l I_X6_lay (R_X6_lay q) B q 311 [some (.ref 60), some (.int v1), some (.int v2), some (.int v3), some (.int v4), some (.int v5), some (.int v6)] [.int s0, .int s1, .ref 61] S := by
  intro v1 v2 v3 v4 v5 v6 s0 s1 S hF
  unfold F_X6_lay_311 at hF
  obtain ⟨g1, hF⟩ := z_gde hF
  refine z_iastore (pc' := 312) (ar_6_f3 is_6_60) (z_inbe g1) dX6_lay_311 rfl (fun S2 eS2 => ?_)
  replace hF := z_lte hF S2 eS2
  refine z_iinc (v := v6 + 1) (pc' := 315) dX6_lay_312 rfl rfl (by decide) rfl rfl ?_
  refine z_goto (pc' := 262) dX6_lay_315 (by decide) ?_
  refine z_wk (ls' := [some (.ref 60), some (.int v1), some (.int v2), some (.int v3), some (.int v4), some (.int v5), some (.int (v6 + 1))]) (z_lec rfl (z_lec rfl (z_lec rfl (z_lec rfl (z_lec rfl (z_lec rfl (z_lec rfl z_le0))))))) ?_
  exact hk262 _ _ _ _ _ _ _ hF
def F_X6_lay_262 (B : Nat)  : Nat → Int32 → Int32 → Int32 → Int32 → Int32 → Int32 → z_S → Option (z_O × z_S)
  | 0, _, _, _, _, _, _, _ => none
  | n + 1, v1, v2, v3, v4, v5, v6, S => if 40 ≤ v6 then
    z_gd (z_inb (218 + v1) 25366) (
    z_lt (z_ua S 61 (upd (S.1 61) (z_ix (218 + v1)) v2)) fun S2 =>
    (z_bo (F_X6_resize B v1 2 (2 * v3) (2 * v5) S2) fun S4 =>
    (z_bn (F_X6_tailOf B v2 S4) fun r6 S7 =>
    (z_bo (F_X6_resize B v1 3 v4 r6 S7) fun S10 =>
    (some (.inl none, S10))))))
  else
    z_bn (F_X6_tailOf B v2 S) fun r12 S13 =>
    (if r12 ≤ v6 then
      F_X6_lay_311 B (F_X6_lay_262 B n) v1 v2 v3 v4 v5 v6 0 ((1316 + (40 * v1)) + v6) S13
    else
      z_gd (z_inb ((128 * v5) + v6) 2560) (
      z_lt (S13.1 64 (z_ix ((128 * v5) + v6))) fun x16 =>
      (F_X6_lay_311 B (F_X6_lay_262 B n) v1 v2 v3 v4 v5 v6 x16 ((1316 + (40 * v1)) + v6) S13)))
set_option maxRecDepth 20000 in
set_option maxHeartbeats 16000000 in
theorem ok_X6_lay_262 {l : Launch} {B : Nat} {q : z_O × z_S} (hst : l.stackTraces = false) : ∀ (n : Nat) (v1 : Int32) (v2 : Int32) (v3 : Int32) (v4 : Int32) (v5 : Int32) (v6 : Int32) (S : z_S), F_X6_lay_262 B n v1 v2 v3 v4 v5 v6 S = some q → z_W l I_X6_lay (R_X6_lay q) B q 262 [some (.ref 60), some (.int v1), some (.int v2), some (.int v3), some (.int v4), some (.int v5), some (.int v6)] [] S := by
  intro n
  induction n with
  | zero => intro v1 v2 v3 v4 v5 v6 S hF; cases hF
  | succ n ih =>
    intro v1 v2 v3 v4 v5 v6 S hF
    rw [F_X6_lay_262] at hF
    refine z_iload (pc' := 264) dX6_lay_262 rfl rfl ?_
    refine z_bipush (v := 40) (pc' := 266) dX6_lay_264 (by decide) rfl ?_
    refine z_icmp_ge (tgt := 318) (pc' := 269) dX6_lay_266 (by decide) rfl (fun c18 => ?_) (fun c18 => ?_)
    · rw [if_pos c18] at hF
      refine z_aload_n (pc' := 319) dX6_lay_318 rfl rfl rfl ?_
      refine gf_X6_7 (b := 61) (pc' := 322) rfl is_6_60 rfl dX6_lay_319 rfl ?_
      refine z_sipush (v := 218) (pc' := 325) dX6_lay_322 (by decide) rfl ?_
      refine z_iload_n (pc' := 326) dX6_lay_325 rfl rfl rfl ?_
      refine z_iadd (pc' := 327) dX6_lay_326 rfl ?_
      refine z_iload_n (pc' := 328) dX6_lay_327 rfl rfl rfl ?_
      obtain ⟨g1, hF⟩ := z_gde hF
      refine z_iastore (pc' := 329) (ar_6_f3 is_6_60) (z_inbe g1) dX6_lay_328 rfl (fun S2 eS2 => ?_)
      replace hF := z_lte hF S2 eS2
      refine z_aload_n (pc' := 330) dX6_lay_329 rfl rfl rfl ?_
      refine z_iload_n (pc' := 331) dX6_lay_330 rfl rfl rfl ?_
      refine z_iconst (v := 2) (pc' := 332) dX6_lay_331 (by decide) rfl ?_
      refine z_iconst (v := 2) (pc' := 333) dX6_lay_332 (by decide) rfl ?_
      refine z_iload_n (pc' := 334) dX6_lay_333 rfl rfl rfl ?_
      refine z_imul (pc' := 335) dX6_lay_334 rfl ?_
      refine z_iconst (v := 2) (pc' := 336) dX6_lay_335 (by decide) rfl ?_
      refine z_iload (pc' := 338) dX6_lay_336 rfl rfl ?_
      refine z_imul (pc' := 339) dX6_lay_338 rfl ?_
      obtain ⟨S4, hc5, hF⟩ := z_boe hF
      refine k_X6_resize (F := 7) (L := 174) (pc' := 342) hc5 hst zw_133 rfl rfl (by decide) (by decide) (by decide) dX6_lay_339 rfl ?_
      refine z_aload_n (pc' := 343) dX6_lay_342 rfl rfl rfl ?_
      refine z_iload_n (pc' := 344) dX6_lay_343 rfl rfl rfl ?_
      refine z_iconst (v := 3) (pc' := 345) dX6_lay_344 (by decide) rfl ?_
      refine z_iload (pc' := 347) dX6_lay_345 rfl rfl ?_
      refine z_iload_n (pc' := 348) dX6_lay_347 rfl rfl rfl ?_
      obtain ⟨r6, S7, hc8, hF⟩ := z_bne hF
      refine k_X6_tailOf (F := 7) (L := 174) (pc' := 351) hc8 hst zw_130 rfl rfl (by decide) (by decide) (Nat.le_of_ble_eq_true rfl) dX6_lay_348 rfl ?_
      obtain ⟨S10, hc11, hF⟩ := z_boe hF
      refine k_X6_resize (F := 7) (L := 174) (pc' := 354) hc11 hst zw_133 rfl rfl (by decide) (by decide) (by decide) dX6_lay_351 rfl ?_
      exact z_return rfl dX6_lay_354 (Option.some.inj hF).symm
    · rw [if_neg c18] at hF
      refine z_aload_n (pc' := 270) dX6_lay_269 rfl rfl rfl ?_
      refine gf_X6_7 (b := 61) (pc' := 273) rfl is_6_60 rfl dX6_lay_270 rfl ?_
      refine z_sipush (v := 1316) (pc' := 276) dX6_lay_273 (by decide) rfl ?_
      refine z_bipush (v := 40) (pc' := 278) dX6_lay_276 (by decide) rfl ?_
      refine z_iload_n (pc' := 279) dX6_lay_278 rfl rfl rfl ?_
      refine z_imul (pc' := 280) dX6_lay_279 rfl ?_
      refine z_iadd (pc' := 281) dX6_lay_280 rfl ?_
      refine z_iload (pc' := 283) dX6_lay_281 rfl rfl ?_
      refine z_iadd (pc' := 284) dX6_lay_283 rfl ?_
      refine z_iload (pc' := 286) dX6_lay_284 rfl rfl ?_
      refine z_iload_n (pc' := 287) dX6_lay_286 rfl rfl rfl ?_
      obtain ⟨r12, S13, hc14, hF⟩ := z_bne hF
      refine k_X6_tailOf (F := 7) (L := 174) (pc' := 290) hc14 hst zw_130 rfl rfl (by decide) (by decide) (Nat.le_of_ble_eq_true rfl) dX6_lay_287 rfl ?_
      refine z_icmp_ge (tgt := 310) (pc' := 293) dX6_lay_290 (by decide) rfl (fun c17 => ?_) (fun c17 => ?_)
      · rw [if_pos c17] at hF
        refine z_iconst (v := 0) (pc' := 311) dX6_lay_310 (by decide) rfl ?_
        refine z_wk (ls' := [some (.ref 60), some (.int v1), some (.int v2), some (.int v3), some (.int v4), some (.int v5), some (.int v6)]) (z_lec rfl (z_lec rfl (z_lec rfl (z_lec rfl (z_lec rfl (z_lec rfl (z_lec rfl z_le0))))))) ?_
        exact (ok_X6_lay_311 hst ih) _ _ _ _ _ _ _ _ _ hF
      · rw [if_neg c17] at hF
        refine z_aload_n (pc' := 294) dX6_lay_293 rfl rfl rfl ?_
        refine gf_X6_19 (b := 64) (pc' := 297) rfl is_6_60 rfl dX6_lay_294 rfl ?_
        refine z_sipush (v := 128) (pc' := 300) dX6_lay_297 (by decide) rfl ?_
        refine z_iload (pc' := 302) dX6_lay_300 rfl rfl ?_
        refine z_imul (pc' := 303) dX6_lay_302 rfl ?_
        refine z_iload (pc' := 305) dX6_lay_303 rfl rfl ?_
        refine z_iadd (pc' := 306) dX6_lay_305 rfl ?_
        obtain ⟨g15, hF⟩ := z_gde hF
        refine z_iaload (pc' := 307) (ar_6_f6 is_6_60) (z_inbe g15) dX6_lay_306 rfl ?_
        refine z_topi (fun x16 ex16 => ?_)
        replace hF := z_lte hF x16 ex16
        refine z_goto (pc' := 311) dX6_lay_307 (by decide) ?_
        refine z_wk (ls' := [some (.ref 60), some (.int v1), some (.int v2), some (.int v3), some (.int v4), some (.int v5), some (.int v6)]) (z_lec rfl (z_lec rfl (z_lec rfl (z_lec rfl (z_lec rfl (z_lec rfl (z_lec rfl z_le0))))))) ?_
        exact (ok_X6_lay_311 hst ih) _ _ _ _ _ _ _ _ _ hF
def F_X6_lay_252 (B : Nat) (k185 : Int32 → Int32 → Int32 → Int32 → Int32 → Int32 → z_S → Option (z_O × z_S)) (v1 : Int32) (v2 : Int32) (v3 : Int32) (v4 : Int32) (v5 : Int32) (v6 : Int32) (s0 : Int32) (s1 : Int32) (S : z_S) : Option (z_O × z_S) :=
  z_gd (z_inb s1 25366) (
  z_lt (z_ua S 61 (upd (S.1 61) (z_ix (s1)) s0)) fun S2 =>
  (k185 v1 v2 v3 v4 v5 (v6 + 1) S2))
set_option maxRecDepth 20000 in
set_option maxHeartbeats 16000000 in
theorem ok_X6_lay_252 {l : Launch} {B : Nat} {q : z_O × z_S} (hst : l.stackTraces = false) {k185 : Int32 → Int32 → Int32 → Int32 → Int32 → Int32 → z_S → Option (z_O × z_S)} (hk185 : ∀ (v1 : Int32) (v2 : Int32) (v3 : Int32) (v4 : Int32) (v5 : Int32) (v6 : Int32) (S : z_S), k185 v1 v2 v3 v4 v5 v6 S = some q → z_W l I_X6_lay (R_X6_lay q) B q 185 [some (.ref 60), some (.int v1), some (.int v2), some (.int v3), some (.int v4), some (.int v5), some (.int v6)] [] S) : ∀ (v1 : Int32) (v2 : Int32) (v3 : Int32) (v4 : Int32) (v5 : Int32) (v6 : Int32) (s0 : Int32) (s1 : Int32) (S : z_S), F_X6_lay_252 B k185 v1 v2 v3 v4 v5 v6 s0 s1 S = some q → z_W l I_X6_lay (R_X6_lay q) B q 252 [some (.ref 60), some (.int v1), some (.int v2), some (.int v3), some (.int v4), some (.int v5), some (.int v6)] [.int s0, .int s1, .ref 61] S := by
  intro v1 v2 v3 v4 v5 v6 s0 s1 S hF
  unfold F_X6_lay_252 at hF
  obtain ⟨g1, hF⟩ := z_gde hF
  refine z_iastore (pc' := 253) (ar_6_f3 is_6_60) (z_inbe g1) dX6_lay_252 rfl (fun S2 eS2 => ?_)
  replace hF := z_lte hF S2 eS2
  refine z_iinc (v := v6 + 1) (pc' := 256) dX6_lay_253 rfl rfl (by decide) rfl rfl ?_
  refine z_goto (pc' := 185) dX6_lay_256 (by decide) ?_
  refine z_wk (ls' := [some (.ref 60), some (.int v1), some (.int v2), some (.int v3), some (.int v4), some (.int v5), some (.int (v6 + 1))]) (z_lec rfl (z_lec rfl (z_lec rfl (z_lec rfl (z_lec rfl (z_lec rfl (z_lec rfl z_le0))))))) ?_
  exact hk185 _ _ _ _ _ _ _ hF
def F_X6_lay_185 (B : Nat)  : Nat → Int32 → Int32 → Int32 → Int32 → Int32 → Int32 → z_S → Option (z_O × z_S)
  | 0, _, _, _, _, _, _, _ => none
  | n + 1, v1, v2, v3, v4, v5, v6, S => if (128 * v5) ≤ v6 then
    F_X6_lay_262 B z_n v1 v2 v3 v4 v5 0 S
  else
    z_gd (z_inb ((340 + (16 * v1)) + (v6 / 128)) 25366) (
    z_lt (S.1 61 (z_ix ((340 + (16 * v1)) + (v6 / 128)))) fun x2 =>
    (if v2 ≤ v6 then
      F_X6_lay_252 B (F_X6_lay_185 B n) v1 v2 v3 v4 v5 v6 0 ((13078 + (128 * x2)) + (v6 - v6 / 128 * 128)) S
    else
      z_gd (z_inb v6 2560) (
      z_lt (S.1 64 (z_ix (v6))) fun x4 =>
      (F_X6_lay_252 B (F_X6_lay_185 B n) v1 v2 v3 v4 v5 v6 x4 ((13078 + (128 * x2)) + (v6 - v6 / 128 * 128)) S))))
set_option maxRecDepth 20000 in
set_option maxHeartbeats 16000000 in
theorem ok_X6_lay_185 {l : Launch} {B : Nat} {q : z_O × z_S} (hst : l.stackTraces = false) : ∀ (n : Nat) (v1 : Int32) (v2 : Int32) (v3 : Int32) (v4 : Int32) (v5 : Int32) (v6 : Int32) (S : z_S), F_X6_lay_185 B n v1 v2 v3 v4 v5 v6 S = some q → z_W l I_X6_lay (R_X6_lay q) B q 185 [some (.ref 60), some (.int v1), some (.int v2), some (.int v3), some (.int v4), some (.int v5), some (.int v6)] [] S := by
  intro n
  induction n with
  | zero => intro v1 v2 v3 v4 v5 v6 S hF; cases hF
  | succ n ih =>
    intro v1 v2 v3 v4 v5 v6 S hF
    rw [F_X6_lay_185] at hF
    refine z_iload (pc' := 187) dX6_lay_185 rfl rfl ?_
    refine z_sipush (v := 128) (pc' := 190) dX6_lay_187 (by decide) rfl ?_
    refine z_iload (pc' := 192) dX6_lay_190 rfl rfl ?_
    refine z_imul (pc' := 193) dX6_lay_192 rfl ?_
    refine z_icmp_ge (tgt := 259) (pc' := 196) dX6_lay_193 (by decide) rfl (fun c6 => ?_) (fun c6 => ?_)
    · rw [if_pos c6] at hF
      refine z_iconst (v := 0) (pc' := 260) dX6_lay_259 (by decide) rfl ?_
      refine z_istore (pc' := 262) dX6_lay_260 (by decide) rfl rfl ?_
      refine z_wk (ls' := [some (.ref 60), some (.int v1), some (.int v2), some (.int v3), some (.int v4), some (.int v5), some (.int 0)]) (z_lec rfl (z_lec rfl (z_lec rfl (z_lec rfl (z_lec rfl (z_lec rfl (z_lec rfl z_le0))))))) ?_
      exact (ok_X6_lay_262 hst z_n) _ _ _ _ _ _ _ hF
    · rw [if_neg c6] at hF
      refine z_aload_n (pc' := 197) dX6_lay_196 rfl rfl rfl ?_
      refine gf_X6_7 (b := 61) (pc' := 200) rfl is_6_60 rfl dX6_lay_197 rfl ?_
      refine z_sipush (v := 13078) (pc' := 203) dX6_lay_200 (by decide) rfl ?_
      refine z_sipush (v := 128) (pc' := 206) dX6_lay_203 (by decide) rfl ?_
      refine z_aload_n (pc' := 207) dX6_lay_206 rfl rfl rfl ?_
      refine gf_X6_7 (b := 61) (pc' := 210) rfl is_6_60 rfl dX6_lay_207 rfl ?_
      refine z_sipush (v := 340) (pc' := 213) dX6_lay_210 (by decide) rfl ?_
      refine z_bipush (v := 16) (pc' := 215) dX6_lay_213 (by decide) rfl ?_
      refine z_iload_n (pc' := 216) dX6_lay_215 rfl rfl rfl ?_
      refine z_imul (pc' := 217) dX6_lay_216 rfl ?_
      refine z_iadd (pc' := 218) dX6_lay_217 rfl ?_
      refine z_iload (pc' := 220) dX6_lay_218 rfl rfl ?_
      refine z_sipush (v := 128) (pc' := 223) dX6_lay_220 (by decide) rfl ?_
      refine z_idiv (pc' := 224) dX6_lay_223 (by decide) rfl ?_
      refine z_iadd (pc' := 225) dX6_lay_224 rfl ?_
      obtain ⟨g1, hF⟩ := z_gde hF
      refine z_iaload (pc' := 226) (ar_6_f3 is_6_60) (z_inbe g1) dX6_lay_225 rfl ?_
      refine z_topi (fun x2 ex2 => ?_)
      replace hF := z_lte hF x2 ex2
      refine z_imul (pc' := 227) dX6_lay_226 rfl ?_
      refine z_iadd (pc' := 228) dX6_lay_227 rfl ?_
      refine z_iload (pc' := 230) dX6_lay_228 rfl rfl ?_
      refine z_sipush (v := 128) (pc' := 233) dX6_lay_230 (by decide) rfl ?_
      refine z_irem (pc' := 234) dX6_lay_233 (by decide) rfl ?_
      refine z_iadd (pc' := 235) dX6_lay_234 rfl ?_
      refine z_iload (pc' := 237) dX6_lay_235 rfl rfl ?_
      refine z_iload_n (pc' := 238) dX6_lay_237 rfl rfl rfl ?_
      refine z_icmp_ge (tgt := 251) (pc' := 241) dX6_lay_238 (by decide) rfl (fun c5 => ?_) (fun c5 => ?_)
      · rw [if_pos c5] at hF
        refine z_iconst (v := 0) (pc' := 252) dX6_lay_251 (by decide) rfl ?_
        refine z_wk (ls' := [some (.ref 60), some (.int v1), some (.int v2), some (.int v3), some (.int v4), some (.int v5), some (.int v6)]) (z_lec rfl (z_lec rfl (z_lec rfl (z_lec rfl (z_lec rfl (z_lec rfl (z_lec rfl z_le0))))))) ?_
        exact (ok_X6_lay_252 hst ih) _ _ _ _ _ _ _ _ _ hF
      · rw [if_neg c5] at hF
        refine z_aload_n (pc' := 242) dX6_lay_241 rfl rfl rfl ?_
        refine gf_X6_19 (b := 64) (pc' := 245) rfl is_6_60 rfl dX6_lay_242 rfl ?_
        refine z_iload (pc' := 247) dX6_lay_245 rfl rfl ?_
        obtain ⟨g3, hF⟩ := z_gde hF
        refine z_iaload (pc' := 248) (ar_6_f6 is_6_60) (z_inbe g3) dX6_lay_247 rfl ?_
        refine z_topi (fun x4 ex4 => ?_)
        replace hF := z_lte hF x4 ex4
        refine z_goto (pc' := 252) dX6_lay_248 (by decide) ?_
        refine z_wk (ls' := [some (.ref 60), some (.int v1), some (.int v2), some (.int v3), some (.int v4), some (.int v5), some (.int v6)]) (z_lec rfl (z_lec rfl (z_lec rfl (z_lec rfl (z_lec rfl (z_lec rfl (z_lec rfl z_le0))))))) ?_
        exact (ok_X6_lay_252 hst ih) _ _ _ _ _ _ _ _ _ hF
def F_X6_lay_122 (B : Nat)  : Nat → Int32 → Int32 → Int32 → Int32 → Int32 → z_S → Option (z_O × z_S)
  | 0, _, _, _, _, _, _ => none
  | n + 1, v1, v2, v3, v4, v5, S => z_gd (z_inb (279 + v1) 25366) (
  z_lt (S.1 61 (z_ix (279 + v1))) fun x2 =>
  (if x2 ≤ v5 then
    F_X6_lay_185 B z_n v1 v2 v3 v4 v5 0 S
  else
    z_gd (z_inb (279 + v1) 25366) (
    z_lt (S.1 61 (z_ix (279 + v1))) fun x4 =>
    (z_gd (z_inb (279 + v1) 25366) (
    z_lt (z_ua S 61 (upd (S.1 61) (z_ix (279 + v1)) (x4 - 1))) fun S6 =>
    (z_gd (z_inb (279 + v1) 25366) (
    z_lt (S6.1 61 (z_ix (279 + v1))) fun x8 =>
    (z_gd (z_inb ((340 + (16 * v1)) + x8) 25366) (
    z_lt (S6.1 61 (z_ix ((340 + (16 * v1)) + x8))) fun x10 =>
    (z_bo (F_X6_free B x10 S6) fun S12 =>
    (F_X6_lay_122 B n v1 v2 v3 v4 v5 S12)))))))))))
set_option maxRecDepth 20000 in
set_option maxHeartbeats 16000000 in
theorem ok_X6_lay_122 {l : Launch} {B : Nat} {q : z_O × z_S} (hst : l.stackTraces = false) : ∀ (n : Nat) (v1 : Int32) (v2 : Int32) (v3 : Int32) (v4 : Int32) (v5 : Int32) (S : z_S), F_X6_lay_122 B n v1 v2 v3 v4 v5 S = some q → z_W l I_X6_lay (R_X6_lay q) B q 122 [some (.ref 60), some (.int v1), some (.int v2), some (.int v3), some (.int v4), some (.int v5), none] [] S := by
  intro n
  induction n with
  | zero => intro v1 v2 v3 v4 v5 S hF; cases hF
  | succ n ih =>
    intro v1 v2 v3 v4 v5 S hF
    rw [F_X6_lay_122] at hF
    refine z_aload_n (pc' := 123) dX6_lay_122 rfl rfl rfl ?_
    refine gf_X6_7 (b := 61) (pc' := 126) rfl is_6_60 rfl dX6_lay_123 rfl ?_
    refine z_sipush (v := 279) (pc' := 129) dX6_lay_126 (by decide) rfl ?_
    refine z_iload_n (pc' := 130) dX6_lay_129 rfl rfl rfl ?_
    refine z_iadd (pc' := 131) dX6_lay_130 rfl ?_
    obtain ⟨g1, hF⟩ := z_gde hF
    refine z_iaload (pc' := 132) (ar_6_f3 is_6_60) (z_inbe g1) dX6_lay_131 rfl ?_
    refine z_topi (fun x2 ex2 => ?_)
    replace hF := z_lte hF x2 ex2
    refine z_iload (pc' := 134) dX6_lay_132 rfl rfl ?_
    refine z_icmp_le (tgt := 182) (pc' := 137) dX6_lay_134 (by decide) rfl (fun c14 => ?_) (fun c14 => ?_)
    · rw [if_pos c14] at hF
      refine z_iconst (v := 0) (pc' := 183) dX6_lay_182 (by decide) rfl ?_
      refine z_istore (pc' := 185) dX6_lay_183 (by decide) rfl rfl ?_
      refine z_wk (ls' := [some (.ref 60), some (.int v1), some (.int v2), some (.int v3), some (.int v4), some (.int v5), some (.int 0)]) (z_lec rfl (z_lec rfl (z_lec rfl (z_lec rfl (z_lec rfl (z_lec rfl (z_lec rfl z_le0))))))) ?_
      exact (ok_X6_lay_185 hst z_n) _ _ _ _ _ _ _ hF
    · rw [if_neg c14] at hF
      refine z_aload_n (pc' := 138) dX6_lay_137 rfl rfl rfl ?_
      refine gf_X6_7 (b := 61) (pc' := 141) rfl is_6_60 rfl dX6_lay_138 rfl ?_
      refine z_sipush (v := 279) (pc' := 144) dX6_lay_141 (by decide) rfl ?_
      refine z_iload_n (pc' := 145) dX6_lay_144 rfl rfl rfl ?_
      refine z_iadd (pc' := 146) dX6_lay_145 rfl ?_
      refine z_dup2 (pc' := 147) dX6_lay_146 rfl ?_
      obtain ⟨g3, hF⟩ := z_gde hF
      refine z_iaload (pc' := 148) (ar_6_f3 is_6_60) (z_inbe g3) dX6_lay_147 rfl ?_
      refine z_topi (fun x4 ex4 => ?_)
      replace hF := z_lte hF x4 ex4
      refine z_iconst (v := 1) (pc' := 149) dX6_lay_148 (by decide) rfl ?_
      refine z_isub (pc' := 150) dX6_lay_149 rfl ?_
      obtain ⟨g5, hF⟩ := z_gde hF
      refine z_iastore (pc' := 151) (ar_6_f3 is_6_60) (z_inbe g5) dX6_lay_150 rfl (fun S6 eS6 => ?_)
      replace hF := z_lte hF S6 eS6
      refine z_aload_n (pc' := 152) dX6_lay_151 rfl rfl rfl ?_
      refine z_aload_n (pc' := 153) dX6_lay_152 rfl rfl rfl ?_
      refine gf_X6_7 (b := 61) (pc' := 156) rfl is_6_60 rfl dX6_lay_153 rfl ?_
      refine z_sipush (v := 340) (pc' := 159) dX6_lay_156 (by decide) rfl ?_
      refine z_bipush (v := 16) (pc' := 161) dX6_lay_159 (by decide) rfl ?_
      refine z_iload_n (pc' := 162) dX6_lay_161 rfl rfl rfl ?_
      refine z_imul (pc' := 163) dX6_lay_162 rfl ?_
      refine z_iadd (pc' := 164) dX6_lay_163 rfl ?_
      refine z_aload_n (pc' := 165) dX6_lay_164 rfl rfl rfl ?_
      refine gf_X6_7 (b := 61) (pc' := 168) rfl is_6_60 rfl dX6_lay_165 rfl ?_
      refine z_sipush (v := 279) (pc' := 171) dX6_lay_168 (by decide) rfl ?_
      refine z_iload_n (pc' := 172) dX6_lay_171 rfl rfl rfl ?_
      refine z_iadd (pc' := 173) dX6_lay_172 rfl ?_
      obtain ⟨g7, hF⟩ := z_gde hF
      refine z_iaload (pc' := 174) (ar_6_f3 is_6_60) (z_inbe g7) dX6_lay_173 rfl ?_
      refine z_topi (fun x8 ex8 => ?_)
      replace hF := z_lte hF x8 ex8
      refine z_iadd (pc' := 175) dX6_lay_174 rfl ?_
      obtain ⟨g9, hF⟩ := z_gde hF
      refine z_iaload (pc' := 176) (ar_6_f3 is_6_60) (z_inbe g9) dX6_lay_175 rfl ?_
      refine z_topi (fun x10 ex10 => ?_)
      replace hF := z_lte hF x10 ex10
      obtain ⟨S12, hc13, hF⟩ := z_boe hF
      refine k_X6_free (F := 7) (L := 174) (pc' := 179) hc13 hst zw_114 rfl rfl (by decide) (by decide) (by decide) dX6_lay_176 rfl ?_
      refine z_goto (pc' := 122) dX6_lay_179 (by decide) ?_
      refine z_wk (ls' := [some (.ref 60), some (.int v1), some (.int v2), some (.int v3), some (.int v4), some (.int v5), none]) (z_lec rfl (z_lec rfl (z_lec rfl (z_lec rfl (z_lec rfl (z_lec rfl (z_len1 z_le0))))))) ?_
      exact ih _ _ _ _ _ _ hF
def F_X6_lay_114 (B : Nat)  (v1 : Int32) (v2 : Int32) (v3 : Int32) (v4 : Int32) (v5 : Int32) (S : z_S) : Option (z_O × z_S) :=
  if (S.2.1 60 7) = 0 then
    F_X6_lay_122 B z_n v1 v2 v3 v4 v5 S
  else
    some (.inl none, S)
set_option maxRecDepth 20000 in
set_option maxHeartbeats 16000000 in
theorem ok_X6_lay_114 {l : Launch} {B : Nat} {q : z_O × z_S} (hst : l.stackTraces = false) : ∀ (v1 : Int32) (v2 : Int32) (v3 : Int32) (v4 : Int32) (v5 : Int32) (S : z_S), F_X6_lay_114 B v1 v2 v3 v4 v5 S = some q → z_W l I_X6_lay (R_X6_lay q) B q 114 [some (.ref 60), some (.int v1), some (.int v2), some (.int v3), some (.int v4), some (.int v5), none] [] S := by
  intro v1 v2 v3 v4 v5 S hF
  unfold F_X6_lay_114 at hF
  refine z_aload_n (pc' := 115) dX6_lay_114 rfl rfl rfl ?_
  refine gf_X6_51 (pc' := 118) rfl is_6_60 dX6_lay_115 rfl ?_
  refine z_if_eq (tgt := 122) (pc' := 121) dX6_lay_118 (by decide) rfl (fun c1 => ?_) (fun c1 => ?_)
  · rw [if_pos c1] at hF
    refine z_wk (ls' := [some (.ref 60), some (.int v1), some (.int v2), some (.int v3), some (.int v4), some (.int v5), none]) (z_lec rfl (z_lec rfl (z_lec rfl (z_lec rfl (z_lec rfl (z_lec rfl (z_len1 z_le0))))))) ?_
    exact (ok_X6_lay_122 hst z_n) _ _ _ _ _ _ hF
  · rw [if_neg c1] at hF
    exact z_return rfl dX6_lay_121 (Option.some.inj hF).symm
def F_X6_lay_109 (B : Nat) (k32 : Int32 → Int32 → Int32 → Int32 → Int32 → z_S → Option (z_O × z_S)) (v1 : Int32) (v2 : Int32) (v3 : Int32) (v4 : Int32) (v5 : Int32) (s0 : Int32) (s1 : Int32) (s2 : Int32) (S : z_S) : Option (z_O × z_S) :=
  z_gd (z_inb s2 25366) (
  z_lt (z_ua S 61 (upd (S.1 61) (z_ix (s2)) (s1 + s0))) fun S2 =>
  (k32 v1 v2 v3 v4 v5 S2))
set_option maxRecDepth 20000 in
set_option maxHeartbeats 16000000 in
theorem ok_X6_lay_109 {l : Launch} {B : Nat} {q : z_O × z_S} (hst : l.stackTraces = false) {k32 : Int32 → Int32 → Int32 → Int32 → Int32 → z_S → Option (z_O × z_S)} (hk32 : ∀ (v1 : Int32) (v2 : Int32) (v3 : Int32) (v4 : Int32) (v5 : Int32) (S : z_S), k32 v1 v2 v3 v4 v5 S = some q → z_W l I_X6_lay (R_X6_lay q) B q 32 [some (.ref 60), some (.int v1), some (.int v2), some (.int v3), some (.int v4), some (.int v5), none] [] S) : ∀ (v1 : Int32) (v2 : Int32) (v3 : Int32) (v4 : Int32) (v5 : Int32) (s0 : Int32) (s1 : Int32) (s2 : Int32) (S : z_S), F_X6_lay_109 B k32 v1 v2 v3 v4 v5 s0 s1 s2 S = some q → z_W l I_X6_lay (R_X6_lay q) B q 109 [some (.ref 60), some (.int v1), some (.int v2), some (.int v3), some (.int v4), some (.int v5), none] [.int s0, .int s1, .int s2, .ref 61] S := by
  intro v1 v2 v3 v4 v5 s0 s1 s2 S hF
  unfold F_X6_lay_109 at hF
  refine z_iadd (pc' := 110) dX6_lay_109 rfl ?_
  obtain ⟨g1, hF⟩ := z_gde hF
  refine z_iastore (pc' := 111) (ar_6_f3 is_6_60) (z_inbe g1) dX6_lay_110 rfl (fun S2 eS2 => ?_)
  replace hF := z_lte hF S2 eS2
  refine z_goto (pc' := 32) dX6_lay_111 (by decide) ?_
  refine z_wk (ls' := [some (.ref 60), some (.int v1), some (.int v2), some (.int v3), some (.int v4), some (.int v5), none]) (z_lec rfl (z_lec rfl (z_lec rfl (z_lec rfl (z_lec rfl (z_lec rfl (z_len1 z_le0))))))) ?_
  exact hk32 _ _ _ _ _ _ hF
def F_X6_lay_32 (B : Nat)  : Nat → Int32 → Int32 → Int32 → Int32 → Int32 → z_S → Option (z_O × z_S)
  | 0, _, _, _, _, _, _ => none
  | n + 1, v1, v2, v3, v4, v5, S => z_gd (z_inb (279 + v1) 25366) (
  z_lt (S.1 61 (z_ix (279 + v1))) fun x2 =>
  (if v5 ≤ x2 then
    F_X6_lay_114 B v1 v2 v3 v4 v5 S
  else
    if (S.2.1 60 7) = 0 then
      z_bn (F_X6_take B S) fun r3 S4 =>
      (z_gd (z_inb (279 + v1) 25366) (
      z_lt (S4.1 61 (z_ix (279 + v1))) fun x7 =>
      (z_gd (z_inb ((340 + (16 * v1)) + x7) 25366) (
      z_lt (z_ua S4 61 (upd (S4.1 61) (z_ix ((340 + (16 * v1)) + x7)) r3)) fun S9 =>
      (z_gd (z_inb (279 + v1) 25366) (
      z_lt (S9.1 61 (z_ix (279 + v1))) fun x11 =>
      (if (S9.2.1 60 7) = 0 then
        F_X6_lay_109 B (F_X6_lay_32 B n) v1 v2 v3 v4 v5 1 x11 (279 + v1) S9
      else
        F_X6_lay_109 B (F_X6_lay_32 B n) v1 v2 v3 v4 v5 0 x11 (279 + v1) S9)))))))
    else
      F_X6_lay_114 B v1 v2 v3 v4 v5 S))
set_option maxRecDepth 20000 in
set_option maxHeartbeats 16000000 in
theorem ok_X6_lay_32 {l : Launch} {B : Nat} {q : z_O × z_S} (hst : l.stackTraces = false) : ∀ (n : Nat) (v1 : Int32) (v2 : Int32) (v3 : Int32) (v4 : Int32) (v5 : Int32) (S : z_S), F_X6_lay_32 B n v1 v2 v3 v4 v5 S = some q → z_W l I_X6_lay (R_X6_lay q) B q 32 [some (.ref 60), some (.int v1), some (.int v2), some (.int v3), some (.int v4), some (.int v5), none] [] S := by
  intro n
  induction n with
  | zero => intro v1 v2 v3 v4 v5 S hF; cases hF
  | succ n ih =>
    intro v1 v2 v3 v4 v5 S hF
    rw [F_X6_lay_32] at hF
    refine z_aload_n (pc' := 33) dX6_lay_32 rfl rfl rfl ?_
    refine gf_X6_7 (b := 61) (pc' := 36) rfl is_6_60 rfl dX6_lay_33 rfl ?_
    refine z_sipush (v := 279) (pc' := 39) dX6_lay_36 (by decide) rfl ?_
    refine z_iload_n (pc' := 40) dX6_lay_39 rfl rfl rfl ?_
    refine z_iadd (pc' := 41) dX6_lay_40 rfl ?_
    obtain ⟨g1, hF⟩ := z_gde hF
    refine z_iaload (pc' := 42) (ar_6_f3 is_6_60) (z_inbe g1) dX6_lay_41 rfl ?_
    refine z_topi (fun x2 ex2 => ?_)
    replace hF := z_lte hF x2 ex2
    refine z_iload (pc' := 44) dX6_lay_42 rfl rfl ?_
    refine z_icmp_ge (tgt := 114) (pc' := 47) dX6_lay_44 (by decide) rfl (fun c14 => ?_) (fun c14 => ?_)
    · rw [if_pos c14] at hF
      refine z_wk (ls' := [some (.ref 60), some (.int v1), some (.int v2), some (.int v3), some (.int v4), some (.int v5), none]) (z_lec rfl (z_lec rfl (z_lec rfl (z_lec rfl (z_lec rfl (z_lec rfl (z_len1 z_le0))))))) ?_
      exact (ok_X6_lay_114 hst) _ _ _ _ _ _ hF
    · rw [if_neg c14] at hF
      refine z_aload_n (pc' := 48) dX6_lay_47 rfl rfl rfl ?_
      refine gf_X6_51 (pc' := 51) rfl is_6_60 dX6_lay_48 rfl ?_
      refine z_if_ne (tgt := 114) (pc' := 54) dX6_lay_51 (by decide) rfl (fun c13 => ?_) (fun c13 => ?_)
      · rw [if_neg c13] at hF
        refine z_wk (ls' := [some (.ref 60), some (.int v1), some (.int v2), some (.int v3), some (.int v4), some (.int v5), none]) (z_lec rfl (z_lec rfl (z_lec rfl (z_lec rfl (z_lec rfl (z_lec rfl (z_len1 z_le0))))))) ?_
        exact (ok_X6_lay_114 hst) _ _ _ _ _ _ hF
      · rw [if_pos c13] at hF
        refine z_aload_n (pc' := 55) dX6_lay_54 rfl rfl rfl ?_
        obtain ⟨r3, S4, hc5, hF⟩ := z_bne hF
        refine k_X6_take (F := 7) (L := 174) (pc' := 58) hc5 hst zw_110 rfl rfl (by decide) (by decide) (by decide) dX6_lay_55 rfl ?_
        refine z_istore (pc' := 60) dX6_lay_58 (by decide) rfl rfl ?_
        refine z_aload_n (pc' := 61) dX6_lay_60 rfl rfl rfl ?_
        refine gf_X6_7 (b := 61) (pc' := 64) rfl is_6_60 rfl dX6_lay_61 rfl ?_
        refine z_sipush (v := 340) (pc' := 67) dX6_lay_64 (by decide) rfl ?_
        refine z_bipush (v := 16) (pc' := 69) dX6_lay_67 (by decide) rfl ?_
        refine z_iload_n (pc' := 70) dX6_lay_69 rfl rfl rfl ?_
        refine z_imul (pc' := 71) dX6_lay_70 rfl ?_
        refine z_iadd (pc' := 72) dX6_lay_71 rfl ?_
        refine z_aload_n (pc' := 73) dX6_lay_72 rfl rfl rfl ?_
        refine gf_X6_7 (b := 61) (pc' := 76) rfl is_6_60 rfl dX6_lay_73 rfl ?_
        refine z_sipush (v := 279) (pc' := 79) dX6_lay_76 (by decide) rfl ?_
        refine z_iload_n (pc' := 80) dX6_lay_79 rfl rfl rfl ?_
        refine z_iadd (pc' := 81) dX6_lay_80 rfl ?_
        obtain ⟨g6, hF⟩ := z_gde hF
        refine z_iaload (pc' := 82) (ar_6_f3 is_6_60) (z_inbe g6) dX6_lay_81 rfl ?_
        refine z_topi (fun x7 ex7 => ?_)
        replace hF := z_lte hF x7 ex7
        refine z_iadd (pc' := 83) dX6_lay_82 rfl ?_
        refine z_iload (pc' := 85) dX6_lay_83 rfl rfl ?_
        obtain ⟨g8, hF⟩ := z_gde hF
        refine z_iastore (pc' := 86) (ar_6_f3 is_6_60) (z_inbe g8) dX6_lay_85 rfl (fun S9 eS9 => ?_)
        replace hF := z_lte hF S9 eS9
        refine z_aload_n (pc' := 87) dX6_lay_86 rfl rfl rfl ?_
        refine gf_X6_7 (b := 61) (pc' := 90) rfl is_6_60 rfl dX6_lay_87 rfl ?_
        refine z_sipush (v := 279) (pc' := 93) dX6_lay_90 (by decide) rfl ?_
        refine z_iload_n (pc' := 94) dX6_lay_93 rfl rfl rfl ?_
        refine z_iadd (pc' := 95) dX6_lay_94 rfl ?_
        refine z_dup2 (pc' := 96) dX6_lay_95 rfl ?_
        obtain ⟨g10, hF⟩ := z_gde hF
        refine z_iaload (pc' := 97) (ar_6_f3 is_6_60) (z_inbe g10) dX6_lay_96 rfl ?_
        refine z_topi (fun x11 ex11 => ?_)
        replace hF := z_lte hF x11 ex11
        refine z_aload_n (pc' := 98) dX6_lay_97 rfl rfl rfl ?_
        refine gf_X6_51 (pc' := 101) rfl is_6_60 dX6_lay_98 rfl ?_
        refine z_if_eq (tgt := 108) (pc' := 104) dX6_lay_101 (by decide) rfl (fun c12 => ?_) (fun c12 => ?_)
        · rw [if_pos c12] at hF
          refine z_iconst (v := 1) (pc' := 109) dX6_lay_108 (by decide) rfl ?_
          refine z_wk (ls' := [some (.ref 60), some (.int v1), some (.int v2), some (.int v3), some (.int v4), some (.int v5), none]) (z_lec rfl (z_lec rfl (z_lec rfl (z_lec rfl (z_lec rfl (z_lec rfl (z_len1 z_le0))))))) ?_
          exact (ok_X6_lay_109 hst ih) _ _ _ _ _ _ _ _ _ hF
        · rw [if_neg c12] at hF
          refine z_iconst (v := 0) (pc' := 105) dX6_lay_104 (by decide) rfl ?_
          refine z_goto (pc' := 109) dX6_lay_105 (by decide) ?_
          refine z_wk (ls' := [some (.ref 60), some (.int v1), some (.int v2), some (.int v3), some (.int v4), some (.int v5), none]) (z_lec rfl (z_lec rfl (z_lec rfl (z_lec rfl (z_lec rfl (z_lec rfl (z_len1 z_le0))))))) ?_
          exact (ok_X6_lay_109 hst ih) _ _ _ _ _ _ _ _ _ hF
def F_X6_lay (B : Nat) (p1 : Int32) (p2 : Int32) (S : z_S) : Option (z_O × z_S) :=
  z_gd (z_inb (279 + p1) 25366) (
  z_lt (S.1 61 (z_ix (279 + p1))) fun x2 =>
  (z_gd (z_inb (218 + p1) 25366) (
  z_lt (S.1 61 (z_ix (218 + p1))) fun x4 =>
  (z_bn (F_X6_tailOf B x4 S) fun r5 S6 =>
  (z_bn (F_X6_datasOf B p2 S6) fun r8 S9 =>
  (F_X6_lay_32 B z_n p1 p2 x2 r5 r8 S9))))))
set_option maxRecDepth 20000 in
set_option maxHeartbeats 16000000 in
theorem c_X6_lay {l : Launch} {B : Nat} {p1 : Int32} {p2 : Int32} {S : z_S} {q : z_O × z_S} (hst : l.stackTraces = false) (hF : F_X6_lay B p1 p2 S = some q) : z_Met l I_X6_lay 7 174 B [.ref 60, .int p1, .int p2] S q.1 q.2 := by
  refine z_enter (ls := [some (.ref 60), some (.int p1), some (.int p2), none, none, none, none]) (n := 4) (by decide) rfl (Nat.le_of_ble_eq_true rfl) hst ?_
  unfold F_X6_lay at hF
  refine z_aload_n (pc' := 1) dX6_lay_0 rfl rfl rfl ?_
  refine gf_X6_7 (b := 61) (pc' := 4) rfl is_6_60 rfl dX6_lay_1 rfl ?_
  refine z_sipush (v := 279) (pc' := 7) dX6_lay_4 (by decide) rfl ?_
  refine z_iload_n (pc' := 8) dX6_lay_7 rfl rfl rfl ?_
  refine z_iadd (pc' := 9) dX6_lay_8 rfl ?_
  obtain ⟨g1, hF⟩ := z_gde hF
  refine z_iaload (pc' := 10) (ar_6_f3 is_6_60) (z_inbe g1) dX6_lay_9 rfl ?_
  refine z_topi (fun x2 ex2 => ?_)
  replace hF := z_lte hF x2 ex2
  refine z_istore_n (pc' := 11) dX6_lay_10 rfl (by decide) rfl rfl ?_
  refine z_aload_n (pc' := 12) dX6_lay_11 rfl rfl rfl ?_
  refine gf_X6_7 (b := 61) (pc' := 15) rfl is_6_60 rfl dX6_lay_12 rfl ?_
  refine z_sipush (v := 218) (pc' := 18) dX6_lay_15 (by decide) rfl ?_
  refine z_iload_n (pc' := 19) dX6_lay_18 rfl rfl rfl ?_
  refine z_iadd (pc' := 20) dX6_lay_19 rfl ?_
  obtain ⟨g3, hF⟩ := z_gde hF
  refine z_iaload (pc' := 21) (ar_6_f3 is_6_60) (z_inbe g3) dX6_lay_20 rfl ?_
  refine z_topi (fun x4 ex4 => ?_)
  replace hF := z_lte hF x4 ex4
  obtain ⟨r5, S6, hc7, hF⟩ := z_bne hF
  refine k_X6_tailOf (F := 7) (L := 174) (pc' := 24) hc7 hst zw_130 rfl rfl (by decide) (by decide) (by decide) dX6_lay_21 rfl ?_
  refine z_istore (pc' := 26) dX6_lay_24 (by decide) rfl rfl ?_
  refine z_iload_n (pc' := 27) dX6_lay_26 rfl rfl rfl ?_
  obtain ⟨r8, S9, hc10, hF⟩ := z_bne hF
  refine k_X6_datasOf (F := 7) (L := 174) (pc' := 30) hc10 hst zw_132 rfl rfl (by decide) (by decide) (by decide) dX6_lay_27 rfl ?_
  refine z_istore (pc' := 32) dX6_lay_30 (by decide) rfl rfl ?_
  refine z_wk (ls' := [some (.ref 60), some (.int p1), some (.int p2), some (.int x2), some (.int r5), some (.int r8), none]) (z_lec rfl (z_lec rfl (z_lec rfl (z_lec rfl (z_lec rfl (z_lec rfl (z_len1 z_le0))))))) ?_
  exact (ok_X6_lay_32 hst z_n) _ _ _ _ _ _ hF
theorem ok_X6_lay : z_okV I_X6_lay 2 := ⟨⟨z_Gin (List.mem_of_getElem? (i := 1155) (by decide +kernel)) rfl, z_Gin (List.mem_of_getElem? (i := 76) (by decide +kernel)) rfl, z_Gin (List.mem_of_getElem? (i := 98) (by decide +kernel)) rfl, z_Gin (List.mem_of_getElem? (i := 1156) (by decide +kernel)) rfl⟩, by decide, by decide, by decide +kernel⟩
theorem k_X6_lay {l : Launch} {I : z_I} {R : Room} {B : Nat} {p1 : Int32} {p2 : Int32} {q : z_O × z_S} {pc pc' : Nat} {ls : List (Option Value)} {st : List Value} {S S1 : z_S} {idx F L : Nat}  (hF : F_X6_lay B p1 p2 S = some (.inl none, S1)) (hst : l.stackTraces = false) (w : Cond.methodLink I.1.cls idx yX6_lay ∈ z_G) (hRF : R.frames = F) (hRL : R.locals = L) (h1 : 8 ≤ F) (h2 : 200 ≤ L) (hs : (st.map fun v => v.category).sum ≤ 8) (d : decode I.2.1 pc = .ok (.invokevirtual idx, 3)) (hp : pc + 3 = pc') (k : z_W l I R B q pc' ls st S1) : z_W l I R B q pc ls (.int p2 :: .int p1 :: .ref 60 :: st) S := z_callV (Y := I_X6_lay) (As := [.int p1, .int p2]) (st := st) (r := none) (S1 := S1) (c_X6_lay (q := (.inl none, S1)) hst hF) ok_X6_lay w (ci := 6) rfl is_6_60.1 is_6_60.2 rfl ⟨by rw [hRF]; exact h1, by rw [hRL]; exact h2⟩ hs d hp rfl k

abbrev I_X6_begin : z_I := (yX6_begin, cX6_begin, 1, none)
abbrev R_X6_begin (q : z_O × z_S) : Room := { frames := 1, locals := 22, cells := z_mc q.1, slots := 6 * z_mc q.1 }
def F_X6_begin (B : Nat)  (S : z_S) : Option (z_O × z_S) :=
  z_gd (z_b01 0) (
  z_lt (z_ui S 60 7 0) fun S2 =>
  (z_bo (F_X6_keep B 61 25366 62 25366 S2) fun S4 =>
  (some (.inl none, S4))))
set_option maxRecDepth 20000 in
set_option maxHeartbeats 16000000 in
theorem c_X6_begin {l : Launch} {B : Nat}  {S : z_S} {q : z_O × z_S} (hst : l.stackTraces = false) (hF : F_X6_begin B S = some q) : z_Met l I_X6_begin 1 22 B [.ref 60] S q.1 q.2 := by
  refine z_enter (ls := [some (.ref 60)]) (n := 0) (by decide) rfl (Nat.le_of_ble_eq_true rfl) hst ?_
  unfold F_X6_begin at hF
  refine z_aload_n (pc' := 1) dX6_begin_0 rfl rfl rfl ?_
  refine z_iconst (v := 0) (pc' := 2) dX6_begin_1 (by decide) rfl ?_
  obtain ⟨g1, hF⟩ := z_gde hF
  refine pf_X6_51 (pc' := 5) rfl is_6_60 (z_b01e g1) dX6_begin_2 rfl (fun S2 eS2 => ?_)
  replace hF := z_lte hF S2 eS2
  refine z_aload_n (pc' := 6) dX6_begin_5 rfl rfl rfl ?_
  refine gf_X6_7 (b := 61) (pc' := 9) rfl is_6_60 rfl dX6_begin_6 rfl ?_
  refine z_aload_n (pc' := 10) dX6_begin_9 rfl rfl rfl ?_
  refine gf_X6_13 (b := 62) (pc' := 13) rfl is_6_60 rfl dX6_begin_10 rfl ?_
  obtain ⟨S4, hc5, hF⟩ := z_boe hF
  refine k_X6_keep (F := 1) (L := 22) (pc' := 16) (ar_6_f3 is_6_60) (ar_6_f4 is_6_60) hc5 hst zw_134 rfl rfl (by decide) (by decide) (by decide) dX6_begin_13 rfl ?_
  exact z_return rfl dX6_begin_16 (Option.some.inj hF).symm
theorem ok_X6_begin : z_okV I_X6_begin 0 := ⟨⟨z_Gin (List.mem_of_getElem? (i := 1011) (by decide +kernel)) rfl, z_Gin (List.mem_of_getElem? (i := 45) (by decide +kernel)) rfl, z_Gin (List.mem_of_getElem? (i := 98) (by decide +kernel)) rfl, z_Gin (List.mem_of_getElem? (i := 1012) (by decide +kernel)) rfl⟩, by decide, by decide, by decide +kernel⟩
theorem k_X6_begin {l : Launch} {I : z_I} {R : Room} {B : Nat}  {q : z_O × z_S} {pc pc' : Nat} {ls : List (Option Value)} {st : List Value} {S S1 : z_S} {idx F L : Nat}  (hF : F_X6_begin B S = some (.inl none, S1)) (hst : l.stackTraces = false) (w : Cond.methodLink I.1.cls idx yX6_begin ∈ z_G) (hRF : R.frames = F) (hRL : R.locals = L) (h1 : 2 ≤ F) (h2 : 42 ≤ L) (hs : (st.map fun v => v.category).sum ≤ 8) (d : decode I.2.1 pc = .ok (.invokevirtual idx, 3)) (hp : pc + 3 = pc') (k : z_W l I R B q pc' ls st S1) : z_W l I R B q pc ls (.ref 60 :: st) S := z_callV (Y := I_X6_begin) (As := []) (st := st) (r := none) (S1 := S1) (c_X6_begin (q := (.inl none, S1)) hst hF) ok_X6_begin w (ci := 6) rfl is_6_60.1 is_6_60.2 rfl ⟨by rw [hRF]; exact h1, by rw [hRL]; exact h2⟩ hs d hp rfl k

abbrev I_X6_ended : z_I := (yX6_ended, cX6_ended, 2, some .boolean)
abbrev R_X6_ended (q : z_O × z_S) : Room := { frames := 1, locals := 22, cells := z_mc q.1, slots := 6 * z_mc q.1 }
def F_X6_ended_35 (B : Nat)  (s0 : Int32) (S : z_S) : Option (z_O × z_S) :=
  z_gd (z_b01 s0) (some (.inl (some s0), S))
set_option maxRecDepth 20000 in
set_option maxHeartbeats 16000000 in
theorem ok_X6_ended_35 {l : Launch} {B : Nat} {q : z_O × z_S} (hst : l.stackTraces = false) : ∀ (s0 : Int32) (S : z_S), F_X6_ended_35 B s0 S = some q → z_W l I_X6_ended (R_X6_ended q) B q 35 [none, none] [.int s0] S := by
  intro s0 S hF
  unfold F_X6_ended_35 at hF
  obtain ⟨g1, hF⟩ := z_gde hF
  exact z_zreturn rfl (z_b01e g1) dX6_ended_35 (Option.some.inj hF).symm
def F_X6_ended_23 (B : Nat)   (S : z_S) : Option (z_O × z_S) :=
  if (S.2.1 60 7) = 0 then
    F_X6_ended_35 B 1 S
  else
    F_X6_ended_35 B 0 S
set_option maxRecDepth 20000 in
set_option maxHeartbeats 16000000 in
theorem ok_X6_ended_23 {l : Launch} {B : Nat} {q : z_O × z_S} (hst : l.stackTraces = false) : ∀ (S : z_S), F_X6_ended_23 B S = some q → z_W l I_X6_ended (R_X6_ended q) B q 23 [some (.ref 60), none] [] S := by
  intro S hF
  unfold F_X6_ended_23 at hF
  refine z_aload_n (pc' := 24) dX6_ended_23 rfl rfl rfl ?_
  refine gf_X6_51 (pc' := 27) rfl is_6_60 dX6_ended_24 rfl ?_
  refine z_if_ne (tgt := 34) (pc' := 30) dX6_ended_27 (by decide) rfl (fun c1 => ?_) (fun c1 => ?_)
  · rw [if_neg c1] at hF
    refine z_iconst (v := 0) (pc' := 35) dX6_ended_34 (by decide) rfl ?_
    refine z_wk (ls' := [none, none]) (z_len1 (z_len1 z_le0)) ?_
    exact (ok_X6_ended_35 hst) _ _ hF
  · rw [if_pos c1] at hF
    refine z_iconst (v := 1) (pc' := 31) dX6_ended_30 (by decide) rfl ?_
    refine z_goto (pc' := 35) dX6_ended_31 (by decide) ?_
    refine z_wk (ls' := [none, none]) (z_len1 (z_len1 z_le0)) ?_
    exact (ok_X6_ended_35 hst) _ _ hF
def F_X6_ended (B : Nat) (p1 : Int32) (S : z_S) : Option (z_O × z_S) :=
  if (S.2.1 60 7) = 0 then
    F_X6_ended_23 B S
  else
    z_bo (F_X6_keep B 62 25366 61 25366 S) fun S2 =>
    (z_lt (z_ui S2 60 0 p1) fun S4 =>
    (F_X6_ended_23 B S4))
set_option maxRecDepth 20000 in
set_option maxHeartbeats 16000000 in
theorem c_X6_ended {l : Launch} {B : Nat} {p1 : Int32} {S : z_S} {q : z_O × z_S} (hst : l.stackTraces = false) (hF : F_X6_ended B p1 S = some q) : z_Met l I_X6_ended 1 22 B [.ref 60, .int p1] S q.1 q.2 := by
  refine z_enter (ls := [some (.ref 60), some (.int p1)]) (n := 0) (by decide) rfl (Nat.le_of_ble_eq_true rfl) hst ?_
  unfold F_X6_ended at hF
  refine z_aload_n (pc' := 1) dX6_ended_0 rfl rfl rfl ?_
  refine gf_X6_51 (pc' := 4) rfl is_6_60 dX6_ended_1 rfl ?_
  refine z_if_eq (tgt := 23) (pc' := 7) dX6_ended_4 (by decide) rfl (fun c5 => ?_) (fun c5 => ?_)
  · rw [if_pos c5] at hF
    refine z_wk (ls' := [some (.ref 60), none]) (z_lec rfl (z_len1 z_le0)) ?_
    exact (ok_X6_ended_23 hst) _ hF
  · rw [if_neg c5] at hF
    refine z_aload_n (pc' := 8) dX6_ended_7 rfl rfl rfl ?_
    refine gf_X6_13 (b := 62) (pc' := 11) rfl is_6_60 rfl dX6_ended_8 rfl ?_
    refine z_aload_n (pc' := 12) dX6_ended_11 rfl rfl rfl ?_
    refine gf_X6_7 (b := 61) (pc' := 15) rfl is_6_60 rfl dX6_ended_12 rfl ?_
    obtain ⟨S2, hc3, hF⟩ := z_boe hF
    refine k_X6_keep (F := 1) (L := 22) (pc' := 18) (ar_6_f4 is_6_60) (ar_6_f3 is_6_60) hc3 hst zw_134 rfl rfl (by decide) (by decide) (by decide) dX6_ended_15 rfl ?_
    refine z_aload_n (pc' := 19) dX6_ended_18 rfl rfl rfl ?_
    refine z_iload_n (pc' := 20) dX6_ended_19 rfl rfl rfl ?_
    refine pf_X6_40 (pc' := 23) rfl is_6_60 dX6_ended_20 rfl (fun S4 eS4 => ?_)
    replace hF := z_lte hF S4 eS4
    refine z_wk (ls' := [some (.ref 60), none]) (z_lec rfl (z_len1 z_le0)) ?_
    exact (ok_X6_ended_23 hst) _ hF
theorem ok_X6_ended : z_okV I_X6_ended 1 := ⟨⟨z_Gin (List.mem_of_getElem? (i := 1079) (by decide +kernel)) rfl, z_Gin (List.mem_of_getElem? (i := 62) (by decide +kernel)) rfl, z_Gin (List.mem_of_getElem? (i := 98) (by decide +kernel)) rfl, z_Gin (List.mem_of_getElem? (i := 1080) (by decide +kernel)) rfl⟩, by decide, by decide, by decide +kernel⟩
theorem k_X6_ended {l : Launch} {I : z_I} {R : Room} {B : Nat} {p1 : Int32} {q : z_O × z_S} {pc pc' : Nat} {ls : List (Option Value)} {st : List Value} {S S1 : z_S} {idx F L : Nat} {r : Int32}  (hF : F_X6_ended B p1 S = some (.inl (some r), S1)) (hst : l.stackTraces = false) (w : Cond.methodLink I.1.cls idx yX6_ended ∈ z_G) (hRF : R.frames = F) (hRL : R.locals = L) (h1 : 2 ≤ F) (h2 : 43 ≤ L) (hs : (st.map fun v => v.category).sum ≤ 8) (d : decode I.2.1 pc = .ok (.invokevirtual idx, 3)) (hp : pc + 3 = pc') (k : z_W l I R B q pc' ls (.int r :: st) S1) : z_W l I R B q pc ls (.int p1 :: .ref 60 :: st) S := z_callV (Y := I_X6_ended) (As := [.int p1]) (st := st) (r := (some r)) (S1 := S1) (c_X6_ended (q := (.inl (some r), S1)) hst hF) ok_X6_ended w (ci := 6) rfl is_6_60.1 is_6_60.2 rfl ⟨by rw [hRF]; exact h1, by rw [hRL]; exact h2⟩ hs d hp rfl k

abbrev I_X6_objects : z_I := (yX6_objects, cX6_objects, 3, some .int)
abbrev R_X6_objects (q : z_O × z_S) : Room := { frames := 0, locals := 0, cells := z_mc q.1, slots := 6 * z_mc q.1 }
def F_X6_objects_28 (B : Nat) (k4 : Int32 → Int32 → z_S → Option (z_O × z_S)) (v2 : Int32) (s0 : Int32) (s1 : Int32) (S : z_S) : Option (z_O × z_S) :=
  k4 (s1 + s0) (v2 + 1) S
set_option maxRecDepth 20000 in
set_option maxHeartbeats 16000000 in
theorem ok_X6_objects_28 {l : Launch} {B : Nat} {q : z_O × z_S} (hst : l.stackTraces = false) {k4 : Int32 → Int32 → z_S → Option (z_O × z_S)} (hk4 : ∀ (v1 : Int32) (v2 : Int32) (S : z_S), k4 v1 v2 S = some q → z_W l I_X6_objects (R_X6_objects q) B q 4 [some (.ref 60), some (.int v1), some (.int v2)] [] S) : ∀ (v2 : Int32) (s0 : Int32) (s1 : Int32) (S : z_S), F_X6_objects_28 B k4 v2 s0 s1 S = some q → z_W l I_X6_objects (R_X6_objects q) B q 28 [some (.ref 60), none, some (.int v2)] [.int s0, .int s1] S := by
  intro v2 s0 s1 S hF
  unfold F_X6_objects_28 at hF
  refine z_iadd (pc' := 29) dX6_objects_28 rfl ?_
  refine z_istore_n (pc' := 30) dX6_objects_29 rfl (by decide) rfl rfl ?_
  refine z_iinc (v := v2 + 1) (pc' := 33) dX6_objects_30 rfl rfl (by decide) rfl rfl ?_
  refine z_goto (pc' := 4) dX6_objects_33 (by decide) ?_
  refine z_wk (ls' := [some (.ref 60), some (.int (s1 + s0)), some (.int (v2 + 1))]) (z_lec rfl (z_lec rfl (z_lec rfl z_le0))) ?_
  exact hk4 _ _ _ hF
def F_X6_objects_4 (B : Nat)  : Nat → Int32 → Int32 → z_S → Option (z_O × z_S)
  | 0, _, _, _ => none
  | n + 1, v1, v2, S => if 61 ≤ v2 then
    some (.inl (some v1), S)
  else
    z_gd (z_inb (96 + v2) 25366) (
    z_lt (S.1 61 (z_ix (96 + v2))) fun x2 =>
    (if x2 ≤ 0 then
      F_X6_objects_28 B (F_X6_objects_4 B n) v2 0 v1 S
    else
      F_X6_objects_28 B (F_X6_objects_4 B n) v2 1 v1 S))
set_option maxRecDepth 20000 in
set_option maxHeartbeats 16000000 in
theorem ok_X6_objects_4 {l : Launch} {B : Nat} {q : z_O × z_S} (hst : l.stackTraces = false) : ∀ (n : Nat) (v1 : Int32) (v2 : Int32) (S : z_S), F_X6_objects_4 B n v1 v2 S = some q → z_W l I_X6_objects (R_X6_objects q) B q 4 [some (.ref 60), some (.int v1), some (.int v2)] [] S := by
  intro n
  induction n with
  | zero => intro v1 v2 S hF; cases hF
  | succ n ih =>
    intro v1 v2 S hF
    rw [F_X6_objects_4] at hF
    refine z_iload_n (pc' := 5) dX6_objects_4 rfl rfl rfl ?_
    refine z_bipush (v := 61) (pc' := 7) dX6_objects_5 (by decide) rfl ?_
    refine z_icmp_ge (tgt := 36) (pc' := 10) dX6_objects_7 (by decide) rfl (fun c4 => ?_) (fun c4 => ?_)
    · rw [if_pos c4] at hF
      refine z_iload_n (pc' := 37) dX6_objects_36 rfl rfl rfl ?_
      exact z_ireturn rfl dX6_objects_37 (Option.some.inj hF).symm
    · rw [if_neg c4] at hF
      refine z_iload_n (pc' := 11) dX6_objects_10 rfl rfl rfl ?_
      refine z_aload_n (pc' := 12) dX6_objects_11 rfl rfl rfl ?_
      refine gf_X6_7 (b := 61) (pc' := 15) rfl is_6_60 rfl dX6_objects_12 rfl ?_
      refine z_bipush (v := 96) (pc' := 17) dX6_objects_15 (by decide) rfl ?_
      refine z_iload_n (pc' := 18) dX6_objects_17 rfl rfl rfl ?_
      refine z_iadd (pc' := 19) dX6_objects_18 rfl ?_
      obtain ⟨g1, hF⟩ := z_gde hF
      refine z_iaload (pc' := 20) (ar_6_f3 is_6_60) (z_inbe g1) dX6_objects_19 rfl ?_
      refine z_topi (fun x2 ex2 => ?_)
      replace hF := z_lte hF x2 ex2
      refine z_if_le (tgt := 27) (pc' := 23) dX6_objects_20 (by decide) rfl (fun c3 => ?_) (fun c3 => ?_)
      · rw [if_pos c3] at hF
        refine z_iconst (v := 0) (pc' := 28) dX6_objects_27 (by decide) rfl ?_
        refine z_wk (ls' := [some (.ref 60), none, some (.int v2)]) (z_lec rfl (z_len1 (z_lec rfl z_le0))) ?_
        exact (ok_X6_objects_28 hst ih) _ _ _ _ hF
      · rw [if_neg c3] at hF
        refine z_iconst (v := 1) (pc' := 24) dX6_objects_23 (by decide) rfl ?_
        refine z_goto (pc' := 28) dX6_objects_24 (by decide) ?_
        refine z_wk (ls' := [some (.ref 60), none, some (.int v2)]) (z_lec rfl (z_len1 (z_lec rfl z_le0))) ?_
        exact (ok_X6_objects_28 hst ih) _ _ _ _ hF
def F_X6_objects (B : Nat)  (S : z_S) : Option (z_O × z_S) :=
  F_X6_objects_4 B z_n 0 1 S
set_option maxRecDepth 20000 in
set_option maxHeartbeats 16000000 in
theorem c_X6_objects {l : Launch} {B : Nat}  {S : z_S} {q : z_O × z_S} (hst : l.stackTraces = false) (hF : F_X6_objects B S = some q) : z_Met l I_X6_objects 0 0 B [.ref 60] S q.1 q.2 := by
  refine z_enter (ls := [some (.ref 60), none, none]) (n := 2) (by decide) rfl (Nat.le_of_ble_eq_true rfl) hst ?_
  unfold F_X6_objects at hF
  refine z_iconst (v := 0) (pc' := 1) dX6_objects_0 (by decide) rfl ?_
  refine z_istore_n (pc' := 2) dX6_objects_1 rfl (by decide) rfl rfl ?_
  refine z_iconst (v := 1) (pc' := 3) dX6_objects_2 (by decide) rfl ?_
  refine z_istore_n (pc' := 4) dX6_objects_3 rfl (by decide) rfl rfl ?_
  refine z_wk (ls' := [some (.ref 60), some (.int 0), some (.int 1)]) (z_lec rfl (z_lec rfl (z_lec rfl z_le0))) ?_
  exact (ok_X6_objects_4 hst z_n) _ _ _ hF
theorem ok_X6_objects : z_okV I_X6_objects 0 := ⟨⟨z_Gin (List.mem_of_getElem? (i := 1007) (by decide +kernel)) rfl, z_Gin (List.mem_of_getElem? (i := 44) (by decide +kernel)) rfl, z_Gin (List.mem_of_getElem? (i := 98) (by decide +kernel)) rfl, z_Gin (List.mem_of_getElem? (i := 1008) (by decide +kernel)) rfl⟩, by decide, by decide, by decide +kernel⟩
theorem k_X6_objects {l : Launch} {I : z_I} {R : Room} {B : Nat}  {q : z_O × z_S} {pc pc' : Nat} {ls : List (Option Value)} {st : List Value} {S S1 : z_S} {idx F L : Nat} {r : Int32}  (hF : F_X6_objects B S = some (.inl (some r), S1)) (hst : l.stackTraces = false) (w : Cond.methodLink I.1.cls idx yX6_objects ∈ z_G) (hRF : R.frames = F) (hRL : R.locals = L) (h1 : 1 ≤ F) (h2 : 22 ≤ L) (hs : (st.map fun v => v.category).sum ≤ 8) (d : decode I.2.1 pc = .ok (.invokevirtual idx, 3)) (hp : pc + 3 = pc') (k : z_W l I R B q pc' ls (.int r :: st) S1) : z_W l I R B q pc ls (.ref 60 :: st) S := z_callV (Y := I_X6_objects) (As := []) (st := st) (r := (some r)) (S1 := S1) (c_X6_objects (q := (.inl (some r), S1)) hst hF) ok_X6_objects w (ci := 6) rfl is_6_60.1 is_6_60.2 rfl ⟨by rw [hRF]; exact h1, by rw [hRL]; exact h2⟩ hs d hp rfl k

abbrev I_X6_entry : z_I := (yX6_entry, cX6_entry, 4, some .int)
abbrev R_X6_entry (q : z_O × z_S) : Room := { frames := 3, locals := 77, cells := z_mc q.1, slots := 6 * z_mc q.1 }
def F_X6_entry_37 (B : Nat)  (s0 : Int32) (S : z_S) : Option (z_O × z_S) :=
  some (.inl (some s0), S)
set_option maxRecDepth 20000 in
set_option maxHeartbeats 16000000 in
theorem ok_X6_entry_37 {l : Launch} {B : Nat} {q : z_O × z_S} (hst : l.stackTraces = false) : ∀ (s0 : Int32) (S : z_S), F_X6_entry_37 B s0 S = some q → z_W l I_X6_entry (R_X6_entry q) B q 37 [none, none, none, none] [.int s0] S := by
  intro s0 S hF
  unfold F_X6_entry_37 at hF
  exact z_ireturn rfl dX6_entry_37 (Option.some.inj hF).symm
def F_X6_entry (B : Nat) (p1 : Int32) (p2 : Int32) (S : z_S) : Option (z_O × z_S) :=
  z_bn (F_X6_find B p1 1 p2 S) fun r1 S2 =>
  (if 0 ≤ r1 then
    z_bn (F_X6_leafOf B p1 1 p2 S2) fun r4 S5 =>
    (z_gd (z_inb ((10764 + (16 * r4)) + r1) 25366) (
    z_lt (S5.1 61 (z_ix ((10764 + (16 * r4)) + r1))) fun x8 =>
    (F_X6_entry_37 B x8 S5)))
  else
    F_X6_entry_37 B (-1) S2)
set_option maxRecDepth 20000 in
set_option maxHeartbeats 16000000 in
theorem c_X6_entry {l : Launch} {B : Nat} {p1 : Int32} {p2 : Int32} {S : z_S} {q : z_O × z_S} (hst : l.stackTraces = false) (hF : F_X6_entry B p1 p2 S = some q) : z_Met l I_X6_entry 3 77 B [.ref 60, .int p1, .int p2] S q.1 q.2 := by
  refine z_enter (ls := [some (.ref 60), some (.int p1), some (.int p2), none]) (n := 1) (by decide) rfl (Nat.le_of_ble_eq_true rfl) hst ?_
  unfold F_X6_entry at hF
  refine z_aload_n (pc' := 1) dX6_entry_0 rfl rfl rfl ?_
  refine z_iload_n (pc' := 2) dX6_entry_1 rfl rfl rfl ?_
  refine z_iconst (v := 1) (pc' := 3) dX6_entry_2 (by decide) rfl ?_
  refine z_iload_n (pc' := 4) dX6_entry_3 rfl rfl rfl ?_
  obtain ⟨r1, S2, hc3, hF⟩ := z_bne hF
  refine k_X6_find (F := 3) (L := 77) (pc' := 7) hc3 hst zw_126 rfl rfl (by decide) (by decide) (by decide) dX6_entry_4 rfl ?_
  refine z_istore_n (pc' := 8) dX6_entry_7 rfl (by decide) rfl rfl ?_
  refine z_iload_n (pc' := 9) dX6_entry_8 rfl rfl rfl ?_
  refine z_if_ge (tgt := 16) (pc' := 12) dX6_entry_9 (by decide) rfl (fun c9 => ?_) (fun c9 => ?_)
  · rw [if_pos c9] at hF
    refine z_aload_n (pc' := 17) dX6_entry_16 rfl rfl rfl ?_
    refine gf_X6_7 (b := 61) (pc' := 20) rfl is_6_60 rfl dX6_entry_17 rfl ?_
    refine z_sipush (v := 10764) (pc' := 23) dX6_entry_20 (by decide) rfl ?_
    refine z_bipush (v := 16) (pc' := 25) dX6_entry_23 (by decide) rfl ?_
    refine z_aload_n (pc' := 26) dX6_entry_25 rfl rfl rfl ?_
    refine z_iload_n (pc' := 27) dX6_entry_26 rfl rfl rfl ?_
    refine z_iconst (v := 1) (pc' := 28) dX6_entry_27 (by decide) rfl ?_
    refine z_iload_n (pc' := 29) dX6_entry_28 rfl rfl rfl ?_
    obtain ⟨r4, S5, hc6, hF⟩ := z_bne hF
    refine k_X6_leafOf (F := 3) (L := 77) (pc' := 32) hc6 hst zw_124 rfl rfl (by decide) (by decide) (Nat.le_of_ble_eq_true rfl) dX6_entry_29 rfl ?_
    refine z_imul (pc' := 33) dX6_entry_32 rfl ?_
    refine z_iadd (pc' := 34) dX6_entry_33 rfl ?_
    refine z_iload_n (pc' := 35) dX6_entry_34 rfl rfl rfl ?_
    refine z_iadd (pc' := 36) dX6_entry_35 rfl ?_
    obtain ⟨g7, hF⟩ := z_gde hF
    refine z_iaload (pc' := 37) (ar_6_f3 is_6_60) (z_inbe g7) dX6_entry_36 rfl ?_
    refine z_topi (fun x8 ex8 => ?_)
    replace hF := z_lte hF x8 ex8
    refine z_wk (ls' := [none, none, none, none]) (z_len1 (z_len1 (z_len1 (z_len1 z_le0)))) ?_
    exact (ok_X6_entry_37 hst) _ _ hF
  · rw [if_neg c9] at hF
    refine z_iconst (v := (-1)) (pc' := 13) dX6_entry_12 (by decide) rfl ?_
    refine z_goto (pc' := 37) dX6_entry_13 (by decide) ?_
    refine z_wk (ls' := [none, none, none, none]) (z_len1 (z_len1 (z_len1 (z_len1 z_le0)))) ?_
    exact (ok_X6_entry_37 hst) _ _ hF
theorem ok_X6_entry : z_okV I_X6_entry 2 := ⟨⟨z_Gin (List.mem_of_getElem? (i := 991) (by decide +kernel)) rfl, z_Gin (List.mem_of_getElem? (i := 40) (by decide +kernel)) rfl, z_Gin (List.mem_of_getElem? (i := 98) (by decide +kernel)) rfl, z_Gin (List.mem_of_getElem? (i := 992) (by decide +kernel)) rfl⟩, by decide, by decide, by decide +kernel⟩
theorem k_X6_entry {l : Launch} {I : z_I} {R : Room} {B : Nat} {p1 : Int32} {p2 : Int32} {q : z_O × z_S} {pc pc' : Nat} {ls : List (Option Value)} {st : List Value} {S S1 : z_S} {idx F L : Nat} {r : Int32}  (hF : F_X6_entry B p1 p2 S = some (.inl (some r), S1)) (hst : l.stackTraces = false) (w : Cond.methodLink I.1.cls idx yX6_entry ∈ z_G) (hRF : R.frames = F) (hRL : R.locals = L) (h1 : 4 ≤ F) (h2 : 100 ≤ L) (hs : (st.map fun v => v.category).sum ≤ 8) (d : decode I.2.1 pc = .ok (.invokevirtual idx, 3)) (hp : pc + 3 = pc') (k : z_W l I R B q pc' ls (.int r :: st) S1) : z_W l I R B q pc ls (.int p2 :: .int p1 :: .ref 60 :: st) S := z_callV (Y := I_X6_entry) (As := [.int p1, .int p2]) (st := st) (r := (some r)) (S1 := S1) (c_X6_entry (q := (.inl (some r), S1)) hst hF) ok_X6_entry w (ci := 6) rfl is_6_60.1 is_6_60.2 rfl ⟨by rw [hRF]; exact h1, by rw [hRL]; exact h2⟩ hs d hp rfl k

abbrev I_X6_isName : z_I := (yX6_isName, cX6_isName, 2, some .boolean)
abbrev R_X6_isName (q : z_O × z_S) : Room := { frames := 1, locals := 22, cells := z_mc q.1, slots := 6 * z_mc q.1 }
def F_X6_isName (B : Nat) (p1 : Int32) (S : z_S) : Option (z_O × z_S) :=
  z_bn (F_X6_isIn B p1 0 999 S) fun r1 S2 =>
  (z_gd (z_b01 r1) (some (.inl (some r1), S2)))
set_option maxRecDepth 20000 in
set_option maxHeartbeats 16000000 in
theorem c_X6_isName {l : Launch} {B : Nat} {p1 : Int32} {S : z_S} {q : z_O × z_S} (hst : l.stackTraces = false) (hF : F_X6_isName B p1 S = some q) : z_Met l I_X6_isName 1 22 B [.ref 60, .int p1] S q.1 q.2 := by
  refine z_enter (ls := [some (.ref 60), some (.int p1)]) (n := 0) (by decide) rfl (Nat.le_of_ble_eq_true rfl) hst ?_
  unfold F_X6_isName at hF
  refine z_iload_n (pc' := 1) dX6_isName_0 rfl rfl rfl ?_
  refine z_iconst (v := 0) (pc' := 2) dX6_isName_1 (by decide) rfl ?_
  refine z_sipush (v := 999) (pc' := 5) dX6_isName_2 (by decide) rfl ?_
  obtain ⟨r1, S2, hc3, hF⟩ := z_bne hF
  refine k_X6_isIn (F := 1) (L := 22) (pc' := 8) hc3 hst zw_104 rfl rfl (by decide) (by decide) (by decide) dX6_isName_5 rfl ?_
  obtain ⟨g4, hF⟩ := z_gde hF
  exact z_zreturn rfl (z_b01e g4) dX6_isName_8 (Option.some.inj hF).symm
theorem ok_X6_isName : z_okV I_X6_isName 1 := ⟨⟨z_Gin (List.mem_of_getElem? (i := 987) (by decide +kernel)) rfl, z_Gin (List.mem_of_getElem? (i := 39) (by decide +kernel)) rfl, z_Gin (List.mem_of_getElem? (i := 98) (by decide +kernel)) rfl, z_Gin (List.mem_of_getElem? (i := 988) (by decide +kernel)) rfl⟩, by decide, by decide, by decide +kernel⟩
theorem k_X6_isName {l : Launch} {I : z_I} {R : Room} {B : Nat} {p1 : Int32} {q : z_O × z_S} {pc pc' : Nat} {ls : List (Option Value)} {st : List Value} {S S1 : z_S} {idx F L : Nat} {r : Int32}  (hF : F_X6_isName B p1 S = some (.inl (some r), S1)) (hst : l.stackTraces = false) (w : Cond.methodLink I.1.cls idx yX6_isName ∈ z_G) (hRF : R.frames = F) (hRL : R.locals = L) (h1 : 2 ≤ F) (h2 : 43 ≤ L) (hs : (st.map fun v => v.category).sum ≤ 8) (d : decode I.2.1 pc = .ok (.invokevirtual idx, 3)) (hp : pc + 3 = pc') (k : z_W l I R B q pc' ls (.int r :: st) S1) : z_W l I R B q pc ls (.int p1 :: .ref 60 :: st) S := z_callV (Y := I_X6_isName) (As := [.int p1]) (st := st) (r := (some r)) (S1 := S1) (c_X6_isName (q := (.inl (some r), S1)) hst hF) ok_X6_isName w (ci := 6) rfl is_6_60.1 is_6_60.2 rfl ⟨by rw [hRF]; exact h1, by rw [hRL]; exact h2⟩ hs d hp rfl k

abbrev I_X6_make : z_I := (yX6_make, cX6_make, 5, some .int)
abbrev R_X6_make (q : z_O × z_S) : Room := { frames := 6, locals := 149, cells := z_mc q.1, slots := 6 * z_mc q.1 }
def F_X6_make_208 (B : Nat)  (s0 : Int32) (S : z_S) : Option (z_O × z_S) :=
  some (.inl (some s0), S)
set_option maxRecDepth 20000 in
set_option maxHeartbeats 16000000 in
theorem ok_X6_make_208 {l : Launch} {B : Nat} {q : z_O × z_S} (hst : l.stackTraces = false) : ∀ (s0 : Int32) (S : z_S), F_X6_make_208 B s0 S = some q → z_W l I_X6_make (R_X6_make q) B q 208 [none, none, none, none, none] [.int s0] S := by
  intro s0 S hF
  unfold F_X6_make_208 at hF
  exact z_ireturn rfl dX6_make_208 (Option.some.inj hF).symm
def F_X6_make_180 (B : Nat)  (v1 : Int32) (v4 : Int32) (S : z_S) : Option (z_O × z_S) :=
  z_gd (z_inb (218 + v1) 25366) (
  z_lt (S.1 61 (z_ix (218 + v1))) fun x2 =>
  (z_gd (z_inb (218 + v1) 25366) (
  z_lt (z_ua S 61 (upd (S.1 61) (z_ix (218 + v1)) (x2 + 1))) fun S4 =>
  (z_bn (F_X6_ended B 4 S4) fun r5 S6 =>
  (if r5 = 0 then
    F_X6_make_208 B 0 S6
  else
    F_X6_make_208 B v4 S6)))))
set_option maxRecDepth 20000 in
set_option maxHeartbeats 16000000 in
theorem ok_X6_make_180 {l : Launch} {B : Nat} {q : z_O × z_S} (hst : l.stackTraces = false) : ∀ (v1 : Int32) (v4 : Int32) (S : z_S), F_X6_make_180 B v1 v4 S = some q → z_W l I_X6_make (R_X6_make q) B q 180 [some (.ref 60), some (.int v1), none, none, some (.int v4)] [] S := by
  intro v1 v4 S hF
  unfold F_X6_make_180 at hF
  refine z_aload_n (pc' := 181) dX6_make_180 rfl rfl rfl ?_
  refine gf_X6_7 (b := 61) (pc' := 184) rfl is_6_60 rfl dX6_make_181 rfl ?_
  refine z_sipush (v := 218) (pc' := 187) dX6_make_184 (by decide) rfl ?_
  refine z_iload_n (pc' := 188) dX6_make_187 rfl rfl rfl ?_
  refine z_iadd (pc' := 189) dX6_make_188 rfl ?_
  refine z_dup2 (pc' := 190) dX6_make_189 rfl ?_
  obtain ⟨g1, hF⟩ := z_gde hF
  refine z_iaload (pc' := 191) (ar_6_f3 is_6_60) (z_inbe g1) dX6_make_190 rfl ?_
  refine z_topi (fun x2 ex2 => ?_)
  replace hF := z_lte hF x2 ex2
  refine z_iconst (v := 1) (pc' := 192) dX6_make_191 (by decide) rfl ?_
  refine z_iadd (pc' := 193) dX6_make_192 rfl ?_
  obtain ⟨g3, hF⟩ := z_gde hF
  refine z_iastore (pc' := 194) (ar_6_f3 is_6_60) (z_inbe g3) dX6_make_193 rfl (fun S4 eS4 => ?_)
  replace hF := z_lte hF S4 eS4
  refine z_aload_n (pc' := 195) dX6_make_194 rfl rfl rfl ?_
  refine z_iconst (v := 4) (pc' := 196) dX6_make_195 (by decide) rfl ?_
  obtain ⟨r5, S6, hc7, hF⟩ := z_bne hF
  refine k_X6_ended (F := 6) (L := 149) (pc' := 199) hc7 hst zw_140 rfl rfl (by decide) (by decide) (by decide) dX6_make_196 rfl ?_
  refine z_if_eq (tgt := 207) (pc' := 202) dX6_make_199 (by decide) rfl (fun c8 => ?_) (fun c8 => ?_)
  · rw [if_pos c8] at hF
    refine z_iconst (v := 0) (pc' := 208) dX6_make_207 (by decide) rfl ?_
    refine z_wk (ls' := [none, none, none, none, none]) (z_len1 (z_len1 (z_len1 (z_len1 (z_len1 z_le0))))) ?_
    exact (ok_X6_make_208 hst) _ _ hF
  · rw [if_neg c8] at hF
    refine z_iload (pc' := 204) dX6_make_202 rfl rfl ?_
    refine z_goto (pc' := 208) dX6_make_204 (by decide) ?_
    refine z_wk (ls' := [none, none, none, none, none]) (z_len1 (z_len1 (z_len1 (z_len1 (z_len1 z_le0))))) ?_
    exact (ok_X6_make_208 hst) _ _ hF
def F_X6_make_115 (B : Nat)  (v1 : Int32) (v2 : Int32) (v4 : Int32) (s0 : Int32) (s1 : Int32) (S : z_S) : Option (z_O × z_S) :=
  z_gd (z_inb s1 25366) (
  z_lt (z_ua S 61 (upd (S.1 61) (z_ix (s1)) s0)) fun S2 =>
  (z_gd (z_inb (157 + v4) 25366) (
  z_lt (z_ua S2 61 (upd (S2.1 61) (z_ix (157 + v4)) 1)) fun S4 =>
  (z_gd (z_inb (218 + v4) 25366) (
  z_lt (z_ua S4 61 (upd (S4.1 61) (z_ix (218 + v4)) 0)) fun S6 =>
  (z_gd (z_inb (279 + v4) 25366) (
  z_lt (z_ua S6 61 (upd (S6.1 61) (z_ix (279 + v4)) 0)) fun S8 =>
  (z_bo (F_X6_put B v4 0 0 6 0 S8) fun S10 =>
  (if (S10.2.1 60 7) = 0 then
    z_bo (F_X6_put B v1 1 v2 3 v4 S10) fun S13 =>
    (F_X6_make_180 B v1 v4 S13)
  else
    F_X6_make_180 B v1 v4 S10)))))))))
set_option maxRecDepth 20000 in
set_option maxHeartbeats 16000000 in
theorem ok_X6_make_115 {l : Launch} {B : Nat} {q : z_O × z_S} (hst : l.stackTraces = false) : ∀ (v1 : Int32) (v2 : Int32) (v4 : Int32) (s0 : Int32) (s1 : Int32) (S : z_S), F_X6_make_115 B v1 v2 v4 s0 s1 S = some q → z_W l I_X6_make (R_X6_make q) B q 115 [some (.ref 60), some (.int v1), some (.int v2), none, some (.int v4)] [.int s0, .int s1, .ref 61] S := by
  intro v1 v2 v4 s0 s1 S hF
  unfold F_X6_make_115 at hF
  obtain ⟨g1, hF⟩ := z_gde hF
  refine z_iastore (pc' := 116) (ar_6_f3 is_6_60) (z_inbe g1) dX6_make_115 rfl (fun S2 eS2 => ?_)
  replace hF := z_lte hF S2 eS2
  refine z_aload_n (pc' := 117) dX6_make_116 rfl rfl rfl ?_
  refine gf_X6_7 (b := 61) (pc' := 120) rfl is_6_60 rfl dX6_make_117 rfl ?_
  refine z_sipush (v := 157) (pc' := 123) dX6_make_120 (by decide) rfl ?_
  refine z_iload (pc' := 125) dX6_make_123 rfl rfl ?_
  refine z_iadd (pc' := 126) dX6_make_125 rfl ?_
  refine z_iconst (v := 1) (pc' := 127) dX6_make_126 (by decide) rfl ?_
  obtain ⟨g3, hF⟩ := z_gde hF
  refine z_iastore (pc' := 128) (ar_6_f3 is_6_60) (z_inbe g3) dX6_make_127 rfl (fun S4 eS4 => ?_)
  replace hF := z_lte hF S4 eS4
  refine z_aload_n (pc' := 129) dX6_make_128 rfl rfl rfl ?_
  refine gf_X6_7 (b := 61) (pc' := 132) rfl is_6_60 rfl dX6_make_129 rfl ?_
  refine z_sipush (v := 218) (pc' := 135) dX6_make_132 (by decide) rfl ?_
  refine z_iload (pc' := 137) dX6_make_135 rfl rfl ?_
  refine z_iadd (pc' := 138) dX6_make_137 rfl ?_
  refine z_iconst (v := 0) (pc' := 139) dX6_make_138 (by decide) rfl ?_
  obtain ⟨g5, hF⟩ := z_gde hF
  refine z_iastore (pc' := 140) (ar_6_f3 is_6_60) (z_inbe g5) dX6_make_139 rfl (fun S6 eS6 => ?_)
  replace hF := z_lte hF S6 eS6
  refine z_aload_n (pc' := 141) dX6_make_140 rfl rfl rfl ?_
  refine gf_X6_7 (b := 61) (pc' := 144) rfl is_6_60 rfl dX6_make_141 rfl ?_
  refine z_sipush (v := 279) (pc' := 147) dX6_make_144 (by decide) rfl ?_
  refine z_iload (pc' := 149) dX6_make_147 rfl rfl ?_
  refine z_iadd (pc' := 150) dX6_make_149 rfl ?_
  refine z_iconst (v := 0) (pc' := 151) dX6_make_150 (by decide) rfl ?_
  obtain ⟨g7, hF⟩ := z_gde hF
  refine z_iastore (pc' := 152) (ar_6_f3 is_6_60) (z_inbe g7) dX6_make_151 rfl (fun S8 eS8 => ?_)
  replace hF := z_lte hF S8 eS8
  refine z_aload_n (pc' := 153) dX6_make_152 rfl rfl rfl ?_
  refine z_iload (pc' := 155) dX6_make_153 rfl rfl ?_
  refine z_iconst (v := 0) (pc' := 156) dX6_make_155 (by decide) rfl ?_
  refine z_iconst (v := 0) (pc' := 157) dX6_make_156 (by decide) rfl ?_
  refine z_bipush (v := 6) (pc' := 159) dX6_make_157 (by decide) rfl ?_
  refine z_iconst (v := 0) (pc' := 160) dX6_make_159 (by decide) rfl ?_
  obtain ⟨S10, hc11, hF⟩ := z_boe hF
  refine k_X6_put (F := 6) (L := 149) (pc' := 163) hc11 hst zw_129 rfl rfl (by decide) (by decide) (by decide) dX6_make_160 rfl ?_
  refine z_aload_n (pc' := 164) dX6_make_163 rfl rfl rfl ?_
  refine gf_X6_51 (pc' := 167) rfl is_6_60 dX6_make_164 rfl ?_
  refine z_if_ne (tgt := 180) (pc' := 170) dX6_make_167 (by decide) rfl (fun c15 => ?_) (fun c15 => ?_)
  · rw [if_neg c15] at hF
    refine z_wk (ls' := [some (.ref 60), some (.int v1), none, none, some (.int v4)]) (z_lec rfl (z_lec rfl (z_len1 (z_len1 (z_lec rfl z_le0))))) ?_
    exact (ok_X6_make_180 hst) _ _ _ hF
  · rw [if_pos c15] at hF
    refine z_aload_n (pc' := 171) dX6_make_170 rfl rfl rfl ?_
    refine z_iload_n (pc' := 172) dX6_make_171 rfl rfl rfl ?_
    refine z_iconst (v := 1) (pc' := 173) dX6_make_172 (by decide) rfl ?_
    refine z_iload_n (pc' := 174) dX6_make_173 rfl rfl rfl ?_
    refine z_iconst (v := 3) (pc' := 175) dX6_make_174 (by decide) rfl ?_
    refine z_iload (pc' := 177) dX6_make_175 rfl rfl ?_
    obtain ⟨S13, hc14, hF⟩ := z_boe hF
    refine k_X6_put (F := 6) (L := 149) (pc' := 180) hc14 hst zw_129 rfl rfl (by decide) (by decide) (by decide) dX6_make_177 rfl ?_
    refine z_wk (ls' := [some (.ref 60), some (.int v1), none, none, some (.int v4)]) (z_lec rfl (z_lec rfl (z_len1 (z_len1 (z_lec rfl z_le0))))) ?_
    exact (ok_X6_make_180 hst) _ _ _ hF
def F_X6_make_78 (B : Nat)  : Nat → Int32 → Int32 → Int32 → Int32 → z_S → Option (z_O × z_S)
  | 0, _, _, _, _, _ => none
  | n + 1, v1, v2, v3, v4, S => z_gd (z_inb (96 + v4) 25366) (
  z_lt (S.1 61 (z_ix (96 + v4))) fun x2 =>
  (if x2 ≤ 0 then
    if v3 = 0 then
      F_X6_make_115 B v1 v2 v4 2 (96 + v4) S
    else
      F_X6_make_115 B v1 v2 v4 1 (96 + v4) S
  else
    F_X6_make_78 B n v1 v2 v3 (v4 + 1) S))
set_option maxRecDepth 20000 in
set_option maxHeartbeats 16000000 in
theorem ok_X6_make_78 {l : Launch} {B : Nat} {q : z_O × z_S} (hst : l.stackTraces = false) : ∀ (n : Nat) (v1 : Int32) (v2 : Int32) (v3 : Int32) (v4 : Int32) (S : z_S), F_X6_make_78 B n v1 v2 v3 v4 S = some q → z_W l I_X6_make (R_X6_make q) B q 78 [some (.ref 60), some (.int v1), some (.int v2), some (.int v3), some (.int v4)] [] S := by
  intro n
  induction n with
  | zero => intro v1 v2 v3 v4 S hF; cases hF
  | succ n ih =>
    intro v1 v2 v3 v4 S hF
    rw [F_X6_make_78] at hF
    refine z_aload_n (pc' := 79) dX6_make_78 rfl rfl rfl ?_
    refine gf_X6_7 (b := 61) (pc' := 82) rfl is_6_60 rfl dX6_make_79 rfl ?_
    refine z_bipush (v := 96) (pc' := 84) dX6_make_82 (by decide) rfl ?_
    refine z_iload (pc' := 86) dX6_make_84 rfl rfl ?_
    refine z_iadd (pc' := 87) dX6_make_86 rfl ?_
    obtain ⟨g1, hF⟩ := z_gde hF
    refine z_iaload (pc' := 88) (ar_6_f3 is_6_60) (z_inbe g1) dX6_make_87 rfl ?_
    refine z_topi (fun x2 ex2 => ?_)
    replace hF := z_lte hF x2 ex2
    refine z_if_le (tgt := 97) (pc' := 91) dX6_make_88 (by decide) rfl (fun c4 => ?_) (fun c4 => ?_)
    · rw [if_pos c4] at hF
      refine z_aload_n (pc' := 98) dX6_make_97 rfl rfl rfl ?_
      refine gf_X6_7 (b := 61) (pc' := 101) rfl is_6_60 rfl dX6_make_98 rfl ?_
      refine z_bipush (v := 96) (pc' := 103) dX6_make_101 (by decide) rfl ?_
      refine z_iload (pc' := 105) dX6_make_103 rfl rfl ?_
      refine z_iadd (pc' := 106) dX6_make_105 rfl ?_
      refine z_iload_n (pc' := 107) dX6_make_106 rfl rfl rfl ?_
      refine z_if_eq (tgt := 114) (pc' := 110) dX6_make_107 (by decide) rfl (fun c3 => ?_) (fun c3 => ?_)
      · rw [if_pos c3] at hF
        refine z_iconst (v := 2) (pc' := 115) dX6_make_114 (by decide) rfl ?_
        refine z_wk (ls' := [some (.ref 60), some (.int v1), some (.int v2), none, some (.int v4)]) (z_lec rfl (z_lec rfl (z_lec rfl (z_len1 (z_lec rfl z_le0))))) ?_
        exact (ok_X6_make_115 hst) _ _ _ _ _ _ hF
      · rw [if_neg c3] at hF
        refine z_iconst (v := 1) (pc' := 111) dX6_make_110 (by decide) rfl ?_
        refine z_goto (pc' := 115) dX6_make_111 (by decide) ?_
        refine z_wk (ls' := [some (.ref 60), some (.int v1), some (.int v2), none, some (.int v4)]) (z_lec rfl (z_lec rfl (z_lec rfl (z_len1 (z_lec rfl z_le0))))) ?_
        exact (ok_X6_make_115 hst) _ _ _ _ _ _ hF
    · rw [if_neg c4] at hF
      refine z_iinc (v := v4 + 1) (pc' := 94) dX6_make_91 rfl rfl (by decide) rfl rfl ?_
      refine z_goto (pc' := 78) dX6_make_94 (by decide) ?_
      refine z_wk (ls' := [some (.ref 60), some (.int v1), some (.int v2), some (.int v3), some (.int (v4 + 1))]) (z_lec rfl (z_lec rfl (z_lec rfl (z_lec rfl (z_lec rfl z_le0))))) ?_
      exact ih _ _ _ _ _ hF
def F_X6_make_59 (B : Nat)  (v1 : Int32) (v2 : Int32) (v3 : Int32) (s0 : Int32) (S : z_S) : Option (z_O × z_S) :=
  z_lt (z_ui S 60 0 s0) fun S1 =>
  (if (S1.2.1 60 0) ≤ 0 then
    z_bo (F_X6_begin B S1) fun S3 =>
    (F_X6_make_78 B z_n v1 v2 v3 1 S3)
  else
    some (.inl (some 0), S1))
set_option maxRecDepth 20000 in
set_option maxHeartbeats 16000000 in
theorem ok_X6_make_59 {l : Launch} {B : Nat} {q : z_O × z_S} (hst : l.stackTraces = false) : ∀ (v1 : Int32) (v2 : Int32) (v3 : Int32) (s0 : Int32) (S : z_S), F_X6_make_59 B v1 v2 v3 s0 S = some q → z_W l I_X6_make (R_X6_make q) B q 59 [some (.ref 60), some (.int v1), some (.int v2), some (.int v3), none] [.int s0, .ref 60] S := by
  intro v1 v2 v3 s0 S hF
  unfold F_X6_make_59 at hF
  refine pf_X6_40 (pc' := 62) rfl is_6_60 dX6_make_59 rfl (fun S1 eS1 => ?_)
  replace hF := z_lte hF S1 eS1
  refine z_aload_n (pc' := 63) dX6_make_62 rfl rfl rfl ?_
  refine gf_X6_40 (pc' := 66) rfl is_6_60 dX6_make_63 rfl ?_
  refine z_if_le (tgt := 71) (pc' := 69) dX6_make_66 (by decide) rfl (fun c5 => ?_) (fun c5 => ?_)
  · rw [if_pos c5] at hF
    refine z_aload_n (pc' := 72) dX6_make_71 rfl rfl rfl ?_
    obtain ⟨S3, hc4, hF⟩ := z_boe hF
    refine k_X6_begin (F := 6) (L := 149) (pc' := 75) hc4 hst zw_139 rfl rfl (by decide) (by decide) (by decide) dX6_make_72 rfl ?_
    refine z_iconst (v := 1) (pc' := 76) dX6_make_75 (by decide) rfl ?_
    refine z_istore (pc' := 78) dX6_make_76 (by decide) rfl rfl ?_
    refine z_wk (ls' := [some (.ref 60), some (.int v1), some (.int v2), some (.int v3), some (.int 1)]) (z_lec rfl (z_lec rfl (z_lec rfl (z_lec rfl (z_lec rfl z_le0))))) ?_
    exact (ok_X6_make_78 hst z_n) _ _ _ _ _ hF
  · rw [if_neg c5] at hF
    refine z_iconst (v := 0) (pc' := 70) dX6_make_69 (by decide) rfl ?_
    exact z_ireturn rfl dX6_make_70 (Option.some.inj hF).symm
def F_X6_make_54 (B : Nat) (k59 : Int32 → Int32 → Int32 → Int32 → z_S → Option (z_O × z_S)) (v1 : Int32) (v2 : Int32) (v3 : Int32) (S : z_S) : Option (z_O × z_S) :=
  k59 v1 v2 v3 4 S
set_option maxRecDepth 20000 in
set_option maxHeartbeats 16000000 in
theorem ok_X6_make_54 {l : Launch} {B : Nat} {q : z_O × z_S} (hst : l.stackTraces = false) {k59 : Int32 → Int32 → Int32 → Int32 → z_S → Option (z_O × z_S)} (hk59 : ∀ (v1 : Int32) (v2 : Int32) (v3 : Int32) (s0 : Int32) (S : z_S), k59 v1 v2 v3 s0 S = some q → z_W l I_X6_make (R_X6_make q) B q 59 [some (.ref 60), some (.int v1), some (.int v2), some (.int v3), none] [.int s0, .ref 60] S) : ∀ (v1 : Int32) (v2 : Int32) (v3 : Int32) (S : z_S), F_X6_make_54 B k59 v1 v2 v3 S = some q → z_W l I_X6_make (R_X6_make q) B q 54 [some (.ref 60), some (.int v1), some (.int v2), some (.int v3), none] [.ref 60] S := by
  intro v1 v2 v3 S hF
  unfold F_X6_make_54 at hF
  refine z_iconst (v := 4) (pc' := 55) dX6_make_54 (by decide) rfl ?_
  refine z_goto (pc' := 59) dX6_make_55 (by decide) ?_
  refine z_wk (ls' := [some (.ref 60), some (.int v1), some (.int v2), some (.int v3), none]) (z_lec rfl (z_lec rfl (z_lec rfl (z_lec rfl (z_len1 z_le0))))) ?_
  exact hk59 _ _ _ _ _ hF
def F_X6_make (B : Nat) (p1 : Int32) (p2 : Int32) (p3 : Int32) (S : z_S) : Option (z_O × z_S) :=
  if (S.2.1 60 10) = 0 then
    z_bn (F_X6_isDirectory B p1 S) fun r1 S2 =>
    (if r1 = 0 then
      F_X6_make_59 B p1 p2 p3 2 S2
    else
      z_bn (F_X6_isName B p2 S2) fun r4 S5 =>
      (if r4 = 0 then
        F_X6_make_59 B p1 p2 p3 3 S5
      else
        z_bn (F_X6_entry B p1 p2 S5) fun r7 S8 =>
        (if 0 ≤ r7 then
          F_X6_make_54 B (F_X6_make_59 B ) p1 p2 p3 S8
        else
          z_bn (F_X6_objects B S8) fun r10 S11 =>
          (if r10 = 60 then
            F_X6_make_54 B (F_X6_make_59 B ) p1 p2 p3 S11
          else
            F_X6_make_59 B p1 p2 p3 0 S11))))
  else
    F_X6_make_59 B p1 p2 p3 1 S
set_option maxRecDepth 20000 in
set_option maxHeartbeats 16000000 in
theorem c_X6_make {l : Launch} {B : Nat} {p1 : Int32} {p2 : Int32} {p3 : Int32} {S : z_S} {q : z_O × z_S} (hst : l.stackTraces = false) (hF : F_X6_make B p1 p2 p3 S = some q) : z_Met l I_X6_make 6 149 B [.ref 60, .int p1, .int p2, .int p3] S q.1 q.2 := by
  refine z_enter (ls := [some (.ref 60), some (.int p1), some (.int p2), some (.int p3), none]) (n := 1) (by decide) rfl (Nat.le_of_ble_eq_true rfl) hst ?_
  unfold F_X6_make at hF
  refine z_aload_n (pc' := 1) dX6_make_0 rfl rfl rfl ?_
  refine z_aload_n (pc' := 2) dX6_make_1 rfl rfl rfl ?_
  refine gf_X6_149 (pc' := 5) rfl is_6_60 dX6_make_2 rfl ?_
  refine z_if_eq (tgt := 12) (pc' := 8) dX6_make_5 (by decide) rfl (fun c17 => ?_) (fun c17 => ?_)
  · rw [if_pos c17] at hF
    refine z_aload_n (pc' := 13) dX6_make_12 rfl rfl rfl ?_
    refine z_iload_n (pc' := 14) dX6_make_13 rfl rfl rfl ?_
    obtain ⟨r1, S2, hc3, hF⟩ := z_bne hF
    refine k_X6_isDirectory (F := 6) (L := 149) (pc' := 17) hc3 hst zw_135 rfl rfl (by decide) (by decide) (Nat.le_of_ble_eq_true rfl) dX6_make_14 rfl ?_
    refine z_if_ne (tgt := 24) (pc' := 20) dX6_make_17 (by decide) rfl (fun c16 => ?_) (fun c16 => ?_)
    · rw [if_neg c16] at hF
      refine z_aload_n (pc' := 25) dX6_make_24 rfl rfl rfl ?_
      refine z_iload_n (pc' := 26) dX6_make_25 rfl rfl rfl ?_
      obtain ⟨r4, S5, hc6, hF⟩ := z_bne hF
      refine k_X6_isName (F := 6) (L := 149) (pc' := 29) hc6 hst zw_136 rfl rfl (by decide) (by decide) (Nat.le_of_ble_eq_true rfl) dX6_make_26 rfl ?_
      refine z_if_ne (tgt := 36) (pc' := 32) dX6_make_29 (by decide) rfl (fun c15 => ?_) (fun c15 => ?_)
      · rw [if_neg c15] at hF
        refine z_aload_n (pc' := 37) dX6_make_36 rfl rfl rfl ?_
        refine z_iload_n (pc' := 38) dX6_make_37 rfl rfl rfl ?_
        refine z_iload_n (pc' := 39) dX6_make_38 rfl rfl rfl ?_
        obtain ⟨r7, S8, hc9, hF⟩ := z_bne hF
        refine k_X6_entry (F := 6) (L := 149) (pc' := 42) hc9 hst zw_137 rfl rfl (by decide) (by decide) (Nat.le_of_ble_eq_true rfl) dX6_make_39 rfl ?_
        refine z_if_ge (tgt := 54) (pc' := 45) dX6_make_42 (by decide) rfl (fun c14 => ?_) (fun c14 => ?_)
        · rw [if_pos c14] at hF
          refine z_wk (ls' := [some (.ref 60), some (.int p1), some (.int p2), some (.int p3), none]) (z_lec rfl (z_lec rfl (z_lec rfl (z_lec rfl (z_len1 z_le0))))) ?_
          exact (ok_X6_make_54 hst (ok_X6_make_59 hst)) _ _ _ _ hF
        · rw [if_neg c14] at hF
          refine z_aload_n (pc' := 46) dX6_make_45 rfl rfl rfl ?_
          obtain ⟨r10, S11, hc12, hF⟩ := z_bne hF
          refine k_X6_objects (F := 6) (L := 149) (pc' := 49) hc12 hst zw_138 rfl rfl (by decide) (by decide) (Nat.le_of_ble_eq_true rfl) dX6_make_46 rfl ?_
          refine z_bipush (v := 60) (pc' := 51) dX6_make_49 (by decide) rfl ?_
          refine z_icmp_ne (tgt := 58) (pc' := 54) dX6_make_51 (by decide) rfl (fun c13 => ?_) (fun c13 => ?_)
          · rw [if_neg c13] at hF
            refine z_iconst (v := 0) (pc' := 59) dX6_make_58 (by decide) rfl ?_
            refine z_wk (ls' := [some (.ref 60), some (.int p1), some (.int p2), some (.int p3), none]) (z_lec rfl (z_lec rfl (z_lec rfl (z_lec rfl (z_len1 z_le0))))) ?_
            exact (ok_X6_make_59 hst) _ _ _ _ _ hF
          · rw [if_pos c13] at hF
            refine z_wk (ls' := [some (.ref 60), some (.int p1), some (.int p2), some (.int p3), none]) (z_lec rfl (z_lec rfl (z_lec rfl (z_lec rfl (z_len1 z_le0))))) ?_
            exact (ok_X6_make_54 hst (ok_X6_make_59 hst)) _ _ _ _ hF
      · rw [if_pos c15] at hF
        refine z_iconst (v := 3) (pc' := 33) dX6_make_32 (by decide) rfl ?_
        refine z_goto (pc' := 59) dX6_make_33 (by decide) ?_
        refine z_wk (ls' := [some (.ref 60), some (.int p1), some (.int p2), some (.int p3), none]) (z_lec rfl (z_lec rfl (z_lec rfl (z_lec rfl (z_len1 z_le0))))) ?_
        exact (ok_X6_make_59 hst) _ _ _ _ _ hF
    · rw [if_pos c16] at hF
      refine z_iconst (v := 2) (pc' := 21) dX6_make_20 (by decide) rfl ?_
      refine z_goto (pc' := 59) dX6_make_21 (by decide) ?_
      refine z_wk (ls' := [some (.ref 60), some (.int p1), some (.int p2), some (.int p3), none]) (z_lec rfl (z_lec rfl (z_lec rfl (z_lec rfl (z_len1 z_le0))))) ?_
      exact (ok_X6_make_59 hst) _ _ _ _ _ hF
  · rw [if_neg c17] at hF
    refine z_iconst (v := 1) (pc' := 9) dX6_make_8 (by decide) rfl ?_
    refine z_goto (pc' := 59) dX6_make_9 (by decide) ?_
    refine z_wk (ls' := [some (.ref 60), some (.int p1), some (.int p2), some (.int p3), none]) (z_lec rfl (z_lec rfl (z_lec rfl (z_lec rfl (z_len1 z_le0))))) ?_
    exact (ok_X6_make_59 hst) _ _ _ _ _ hF
theorem ok_X6_make : z_okV I_X6_make 3 := ⟨⟨z_Gin (List.mem_of_getElem? (i := 971) (by decide +kernel)) rfl, z_Gin (List.mem_of_getElem? (i := 972) (by decide +kernel)) rfl, z_Gin (List.mem_of_getElem? (i := 98) (by decide +kernel)) rfl, z_Gin (List.mem_of_getElem? (i := 973) (by decide +kernel)) rfl⟩, by decide, by decide, by decide +kernel⟩
theorem k_X6_make {l : Launch} {I : z_I} {R : Room} {B : Nat} {p1 : Int32} {p2 : Int32} {p3 : Int32} {q : z_O × z_S} {pc pc' : Nat} {ls : List (Option Value)} {st : List Value} {S S1 : z_S} {idx F L : Nat} {r : Int32}  (hF : F_X6_make B p1 p2 p3 S = some (.inl (some r), S1)) (hst : l.stackTraces = false) (w : Cond.methodLink I.1.cls idx yX6_make ∈ z_G) (hRF : R.frames = F) (hRL : R.locals = L) (h1 : 7 ≤ F) (h2 : 173 ≤ L) (hs : (st.map fun v => v.category).sum ≤ 8) (d : decode I.2.1 pc = .ok (.invokevirtual idx, 3)) (hp : pc + 3 = pc') (k : z_W l I R B q pc' ls (.int r :: st) S1) : z_W l I R B q pc ls (.int p3 :: .int p2 :: .int p1 :: .ref 60 :: st) S := z_callV (Y := I_X6_make) (As := [.int p1, .int p2, .int p3]) (st := st) (r := (some r)) (S1 := S1) (c_X6_make (q := (.inl (some r), S1)) hst hF) ok_X6_make w (ci := 6) rfl is_6_60.1 is_6_60.2 rfl ⟨by rw [hRF]; exact h1, by rw [hRL]; exact h2⟩ hs d hp rfl k

abbrev I_X6_link : z_I := (yX6_link, cX6_link, 4, some .int)
abbrev R_X6_link (q : z_O × z_S) : Room := { frames := 6, locals := 149, cells := z_mc q.1, slots := 6 * z_mc q.1 }
def F_X6_link_133 (B : Nat)  (s0 : Int32) (S : z_S) : Option (z_O × z_S) :=
  some (.inl (some s0), S)
set_option maxRecDepth 20000 in
set_option maxHeartbeats 16000000 in
theorem ok_X6_link_133 {l : Launch} {B : Nat} {q : z_O × z_S} (hst : l.stackTraces = false) : ∀ (s0 : Int32) (S : z_S), F_X6_link_133 B s0 S = some q → z_W l I_X6_link (R_X6_link q) B q 133 [none, none, none, none] [.int s0] S := by
  intro s0 S hF
  unfold F_X6_link_133 at hF
  exact z_ireturn rfl dX6_link_133 (Option.some.inj hF).symm
def F_X6_link_58 (B : Nat)  (v1 : Int32) (v2 : Int32) (v3 : Int32) (s0 : Int32) (S : z_S) : Option (z_O × z_S) :=
  z_lt (z_ui S 60 0 s0) fun S1 =>
  (if (S1.2.1 60 0) ≤ 0 then
    z_bo (F_X6_begin B S1) fun S3 =>
    (z_bo (F_X6_put B v1 1 v2 3 v3 S3) fun S6 =>
    (z_gd (z_inb (218 + v1) 25366) (
    z_lt (S6.1 61 (z_ix (218 + v1))) fun x9 =>
    (z_gd (z_inb (218 + v1) 25366) (
    z_lt (z_ua S6 61 (upd (S6.1 61) (z_ix (218 + v1)) (x9 + 1))) fun S11 =>
    (z_gd (z_inb (157 + v3) 25366) (
    z_lt (S11.1 61 (z_ix (157 + v3))) fun x13 =>
    (z_gd (z_inb (157 + v3) 25366) (
    z_lt (z_ua S11 61 (upd (S11.1 61) (z_ix (157 + v3)) (x13 + 1))) fun S15 =>
    (z_bn (F_X6_ended B 4 S15) fun r16 S17 =>
    (if r16 = 0 then
      F_X6_link_133 B 0 S17
    else
      z_gd (z_inb (157 + v3) 25366) (
      z_lt (S17.1 61 (z_ix (157 + v3))) fun x20 =>
      (F_X6_link_133 B x20 S17)))))))))))))
  else
    some (.inl (some 0), S1))
set_option maxRecDepth 20000 in
set_option maxHeartbeats 16000000 in
theorem ok_X6_link_58 {l : Launch} {B : Nat} {q : z_O × z_S} (hst : l.stackTraces = false) : ∀ (v1 : Int32) (v2 : Int32) (v3 : Int32) (s0 : Int32) (S : z_S), F_X6_link_58 B v1 v2 v3 s0 S = some q → z_W l I_X6_link (R_X6_link q) B q 58 [some (.ref 60), some (.int v1), some (.int v2), some (.int v3)] [.int s0, .ref 60] S := by
  intro v1 v2 v3 s0 S hF
  unfold F_X6_link_58 at hF
  refine pf_X6_40 (pc' := 61) rfl is_6_60 dX6_link_58 rfl (fun S1 eS1 => ?_)
  replace hF := z_lte hF S1 eS1
  refine z_aload_n (pc' := 62) dX6_link_61 rfl rfl rfl ?_
  refine gf_X6_40 (pc' := 65) rfl is_6_60 dX6_link_62 rfl ?_
  refine z_if_le (tgt := 70) (pc' := 68) dX6_link_65 (by decide) rfl (fun c22 => ?_) (fun c22 => ?_)
  · rw [if_pos c22] at hF
    refine z_aload_n (pc' := 71) dX6_link_70 rfl rfl rfl ?_
    obtain ⟨S3, hc4, hF⟩ := z_boe hF
    refine k_X6_begin (F := 6) (L := 149) (pc' := 74) hc4 hst zw_139 rfl rfl (by decide) (by decide) (by decide) dX6_link_71 rfl ?_
    refine z_aload_n (pc' := 75) dX6_link_74 rfl rfl rfl ?_
    refine z_iload_n (pc' := 76) dX6_link_75 rfl rfl rfl ?_
    refine z_iconst (v := 1) (pc' := 77) dX6_link_76 (by decide) rfl ?_
    refine z_iload_n (pc' := 78) dX6_link_77 rfl rfl rfl ?_
    refine z_iconst (v := 3) (pc' := 79) dX6_link_78 (by decide) rfl ?_
    refine z_iload_n (pc' := 80) dX6_link_79 rfl rfl rfl ?_
    obtain ⟨S6, hc7, hF⟩ := z_boe hF
    refine k_X6_put (F := 6) (L := 149) (pc' := 83) hc7 hst zw_129 rfl rfl (by decide) (by decide) (by decide) dX6_link_80 rfl ?_
    refine z_aload_n (pc' := 84) dX6_link_83 rfl rfl rfl ?_
    refine gf_X6_7 (b := 61) (pc' := 87) rfl is_6_60 rfl dX6_link_84 rfl ?_
    refine z_sipush (v := 218) (pc' := 90) dX6_link_87 (by decide) rfl ?_
    refine z_iload_n (pc' := 91) dX6_link_90 rfl rfl rfl ?_
    refine z_iadd (pc' := 92) dX6_link_91 rfl ?_
    refine z_dup2 (pc' := 93) dX6_link_92 rfl ?_
    obtain ⟨g8, hF⟩ := z_gde hF
    refine z_iaload (pc' := 94) (ar_6_f3 is_6_60) (z_inbe g8) dX6_link_93 rfl ?_
    refine z_topi (fun x9 ex9 => ?_)
    replace hF := z_lte hF x9 ex9
    refine z_iconst (v := 1) (pc' := 95) dX6_link_94 (by decide) rfl ?_
    refine z_iadd (pc' := 96) dX6_link_95 rfl ?_
    obtain ⟨g10, hF⟩ := z_gde hF
    refine z_iastore (pc' := 97) (ar_6_f3 is_6_60) (z_inbe g10) dX6_link_96 rfl (fun S11 eS11 => ?_)
    replace hF := z_lte hF S11 eS11
    refine z_aload_n (pc' := 98) dX6_link_97 rfl rfl rfl ?_
    refine gf_X6_7 (b := 61) (pc' := 101) rfl is_6_60 rfl dX6_link_98 rfl ?_
    refine z_sipush (v := 157) (pc' := 104) dX6_link_101 (by decide) rfl ?_
    refine z_iload_n (pc' := 105) dX6_link_104 rfl rfl rfl ?_
    refine z_iadd (pc' := 106) dX6_link_105 rfl ?_
    refine z_dup2 (pc' := 107) dX6_link_106 rfl ?_
    obtain ⟨g12, hF⟩ := z_gde hF
    refine z_iaload (pc' := 108) (ar_6_f3 is_6_60) (z_inbe g12) dX6_link_107 rfl ?_
    refine z_topi (fun x13 ex13 => ?_)
    replace hF := z_lte hF x13 ex13
    refine z_iconst (v := 1) (pc' := 109) dX6_link_108 (by decide) rfl ?_
    refine z_iadd (pc' := 110) dX6_link_109 rfl ?_
    obtain ⟨g14, hF⟩ := z_gde hF
    refine z_iastore (pc' := 111) (ar_6_f3 is_6_60) (z_inbe g14) dX6_link_110 rfl (fun S15 eS15 => ?_)
    replace hF := z_lte hF S15 eS15
    refine z_aload_n (pc' := 112) dX6_link_111 rfl rfl rfl ?_
    refine z_iconst (v := 4) (pc' := 113) dX6_link_112 (by decide) rfl ?_
    obtain ⟨r16, S17, hc18, hF⟩ := z_bne hF
    refine k_X6_ended (F := 6) (L := 149) (pc' := 116) hc18 hst zw_140 rfl rfl (by decide) (by decide) (by decide) dX6_link_113 rfl ?_
    refine z_if_eq (tgt := 132) (pc' := 119) dX6_link_116 (by decide) rfl (fun c21 => ?_) (fun c21 => ?_)
    · rw [if_pos c21] at hF
      refine z_iconst (v := 0) (pc' := 133) dX6_link_132 (by decide) rfl ?_
      refine z_wk (ls' := [none, none, none, none]) (z_len1 (z_len1 (z_len1 (z_len1 z_le0)))) ?_
      exact (ok_X6_link_133 hst) _ _ hF
    · rw [if_neg c21] at hF
      refine z_aload_n (pc' := 120) dX6_link_119 rfl rfl rfl ?_
      refine gf_X6_7 (b := 61) (pc' := 123) rfl is_6_60 rfl dX6_link_120 rfl ?_
      refine z_sipush (v := 157) (pc' := 126) dX6_link_123 (by decide) rfl ?_
      refine z_iload_n (pc' := 127) dX6_link_126 rfl rfl rfl ?_
      refine z_iadd (pc' := 128) dX6_link_127 rfl ?_
      obtain ⟨g19, hF⟩ := z_gde hF
      refine z_iaload (pc' := 129) (ar_6_f3 is_6_60) (z_inbe g19) dX6_link_128 rfl ?_
      refine z_topi (fun x20 ex20 => ?_)
      replace hF := z_lte hF x20 ex20
      refine z_goto (pc' := 133) dX6_link_129 (by decide) ?_
      refine z_wk (ls' := [none, none, none, none]) (z_len1 (z_len1 (z_len1 (z_len1 z_le0)))) ?_
      exact (ok_X6_link_133 hst) _ _ hF
  · rw [if_neg c22] at hF
    refine z_iconst (v := 0) (pc' := 69) dX6_link_68 (by decide) rfl ?_
    exact z_ireturn rfl dX6_link_69 (Option.some.inj hF).symm
def F_X6_link_28 (B : Nat) (k58 : Int32 → Int32 → Int32 → Int32 → z_S → Option (z_O × z_S)) (v1 : Int32) (v2 : Int32) (v3 : Int32) (S : z_S) : Option (z_O × z_S) :=
  k58 v1 v2 v3 2 S
set_option maxRecDepth 20000 in
set_option maxHeartbeats 16000000 in
theorem ok_X6_link_28 {l : Launch} {B : Nat} {q : z_O × z_S} (hst : l.stackTraces = false) {k58 : Int32 → Int32 → Int32 → Int32 → z_S → Option (z_O × z_S)} (hk58 : ∀ (v1 : Int32) (v2 : Int32) (v3 : Int32) (s0 : Int32) (S : z_S), k58 v1 v2 v3 s0 S = some q → z_W l I_X6_link (R_X6_link q) B q 58 [some (.ref 60), some (.int v1), some (.int v2), some (.int v3)] [.int s0, .ref 60] S) : ∀ (v1 : Int32) (v2 : Int32) (v3 : Int32) (S : z_S), F_X6_link_28 B k58 v1 v2 v3 S = some q → z_W l I_X6_link (R_X6_link q) B q 28 [some (.ref 60), some (.int v1), some (.int v2), some (.int v3)] [.ref 60] S := by
  intro v1 v2 v3 S hF
  unfold F_X6_link_28 at hF
  refine z_iconst (v := 2) (pc' := 29) dX6_link_28 (by decide) rfl ?_
  refine z_goto (pc' := 58) dX6_link_29 (by decide) ?_
  refine z_wk (ls' := [some (.ref 60), some (.int v1), some (.int v2), some (.int v3)]) (z_lec rfl (z_lec rfl (z_lec rfl (z_lec rfl z_le0)))) ?_
  exact hk58 _ _ _ _ _ hF
def F_X6_link (B : Nat) (p1 : Int32) (p2 : Int32) (p3 : Int32) (S : z_S) : Option (z_O × z_S) :=
  if (S.2.1 60 10) = 0 then
    z_bn (F_X6_isDirectory B p1 S) fun r1 S2 =>
    (if r1 = 0 then
      F_X6_link_28 B (F_X6_link_58 B ) p1 p2 p3 S2
    else
      z_bn (F_X6_isFile B p3 S2) fun r4 S5 =>
      (if r4 = 0 then
        F_X6_link_28 B (F_X6_link_58 B ) p1 p2 p3 S5
      else
        z_bn (F_X6_isName B p2 S5) fun r7 S8 =>
        (if r7 = 0 then
          F_X6_link_58 B p1 p2 p3 3 S8
        else
          z_bn (F_X6_entry B p1 p2 S8) fun r10 S11 =>
          (if r10 < 0 then
            F_X6_link_58 B p1 p2 p3 0 S11
          else
            F_X6_link_58 B p1 p2 p3 4 S11))))
  else
    F_X6_link_58 B p1 p2 p3 1 S
set_option maxRecDepth 20000 in
set_option maxHeartbeats 16000000 in
theorem c_X6_link {l : Launch} {B : Nat} {p1 : Int32} {p2 : Int32} {p3 : Int32} {S : z_S} {q : z_O × z_S} (hst : l.stackTraces = false) (hF : F_X6_link B p1 p2 p3 S = some q) : z_Met l I_X6_link 6 149 B [.ref 60, .int p1, .int p2, .int p3] S q.1 q.2 := by
  refine z_enter (ls := [some (.ref 60), some (.int p1), some (.int p2), some (.int p3)]) (n := 0) (by decide) rfl (Nat.le_of_ble_eq_true rfl) hst ?_
  unfold F_X6_link at hF
  refine z_aload_n (pc' := 1) dX6_link_0 rfl rfl rfl ?_
  refine z_aload_n (pc' := 2) dX6_link_1 rfl rfl rfl ?_
  refine gf_X6_149 (pc' := 5) rfl is_6_60 dX6_link_2 rfl ?_
  refine z_if_eq (tgt := 12) (pc' := 8) dX6_link_5 (by decide) rfl (fun c17 => ?_) (fun c17 => ?_)
  · rw [if_pos c17] at hF
    refine z_aload_n (pc' := 13) dX6_link_12 rfl rfl rfl ?_
    refine z_iload_n (pc' := 14) dX6_link_13 rfl rfl rfl ?_
    obtain ⟨r1, S2, hc3, hF⟩ := z_bne hF
    refine k_X6_isDirectory (F := 6) (L := 149) (pc' := 17) hc3 hst zw_135 rfl rfl (by decide) (by decide) (Nat.le_of_ble_eq_true rfl) dX6_link_14 rfl ?_
    refine z_if_eq (tgt := 28) (pc' := 20) dX6_link_17 (by decide) rfl (fun c16 => ?_) (fun c16 => ?_)
    · rw [if_pos c16] at hF
      refine z_wk (ls' := [some (.ref 60), some (.int p1), some (.int p2), some (.int p3)]) (z_lec rfl (z_lec rfl (z_lec rfl (z_lec rfl z_le0)))) ?_
      exact (ok_X6_link_28 hst (ok_X6_link_58 hst)) _ _ _ _ hF
    · rw [if_neg c16] at hF
      refine z_aload_n (pc' := 21) dX6_link_20 rfl rfl rfl ?_
      refine z_iload_n (pc' := 22) dX6_link_21 rfl rfl rfl ?_
      obtain ⟨r4, S5, hc6, hF⟩ := z_bne hF
      refine k_X6_isFile (F := 6) (L := 149) (pc' := 25) hc6 hst zw_141 rfl rfl (by decide) (by decide) (Nat.le_of_ble_eq_true rfl) dX6_link_22 rfl ?_
      refine z_if_ne (tgt := 32) (pc' := 28) dX6_link_25 (by decide) rfl (fun c15 => ?_) (fun c15 => ?_)
      · rw [if_neg c15] at hF
        refine z_aload_n (pc' := 33) dX6_link_32 rfl rfl rfl ?_
        refine z_iload_n (pc' := 34) dX6_link_33 rfl rfl rfl ?_
        obtain ⟨r7, S8, hc9, hF⟩ := z_bne hF
        refine k_X6_isName (F := 6) (L := 149) (pc' := 37) hc9 hst zw_136 rfl rfl (by decide) (by decide) (Nat.le_of_ble_eq_true rfl) dX6_link_34 rfl ?_
        refine z_if_ne (tgt := 44) (pc' := 40) dX6_link_37 (by decide) rfl (fun c14 => ?_) (fun c14 => ?_)
        · rw [if_neg c14] at hF
          refine z_aload_n (pc' := 45) dX6_link_44 rfl rfl rfl ?_
          refine z_iload_n (pc' := 46) dX6_link_45 rfl rfl rfl ?_
          refine z_iload_n (pc' := 47) dX6_link_46 rfl rfl rfl ?_
          obtain ⟨r10, S11, hc12, hF⟩ := z_bne hF
          refine k_X6_entry (F := 6) (L := 149) (pc' := 50) hc12 hst zw_137 rfl rfl (by decide) (by decide) (Nat.le_of_ble_eq_true rfl) dX6_link_47 rfl ?_
          refine z_if_lt (tgt := 57) (pc' := 53) dX6_link_50 (by decide) rfl (fun c13 => ?_) (fun c13 => ?_)
          · rw [if_pos c13] at hF
            refine z_iconst (v := 0) (pc' := 58) dX6_link_57 (by decide) rfl ?_
            refine z_wk (ls' := [some (.ref 60), some (.int p1), some (.int p2), some (.int p3)]) (z_lec rfl (z_lec rfl (z_lec rfl (z_lec rfl z_le0)))) ?_
            exact (ok_X6_link_58 hst) _ _ _ _ _ hF
          · rw [if_neg c13] at hF
            refine z_iconst (v := 4) (pc' := 54) dX6_link_53 (by decide) rfl ?_
            refine z_goto (pc' := 58) dX6_link_54 (by decide) ?_
            refine z_wk (ls' := [some (.ref 60), some (.int p1), some (.int p2), some (.int p3)]) (z_lec rfl (z_lec rfl (z_lec rfl (z_lec rfl z_le0)))) ?_
            exact (ok_X6_link_58 hst) _ _ _ _ _ hF
        · rw [if_pos c14] at hF
          refine z_iconst (v := 3) (pc' := 41) dX6_link_40 (by decide) rfl ?_
          refine z_goto (pc' := 58) dX6_link_41 (by decide) ?_
          refine z_wk (ls' := [some (.ref 60), some (.int p1), some (.int p2), some (.int p3)]) (z_lec rfl (z_lec rfl (z_lec rfl (z_lec rfl z_le0)))) ?_
          exact (ok_X6_link_58 hst) _ _ _ _ _ hF
      · rw [if_pos c15] at hF
        refine z_wk (ls' := [some (.ref 60), some (.int p1), some (.int p2), some (.int p3)]) (z_lec rfl (z_lec rfl (z_lec rfl (z_lec rfl z_le0)))) ?_
        exact (ok_X6_link_28 hst (ok_X6_link_58 hst)) _ _ _ _ hF
  · rw [if_neg c17] at hF
    refine z_iconst (v := 1) (pc' := 9) dX6_link_8 (by decide) rfl ?_
    refine z_goto (pc' := 58) dX6_link_9 (by decide) ?_
    refine z_wk (ls' := [some (.ref 60), some (.int p1), some (.int p2), some (.int p3)]) (z_lec rfl (z_lec rfl (z_lec rfl (z_lec rfl z_le0)))) ?_
    exact (ok_X6_link_58 hst) _ _ _ _ _ hF
theorem ok_X6_link : z_okV I_X6_link 3 := ⟨⟨z_Gin (List.mem_of_getElem? (i := 1082) (by decide +kernel)) rfl, z_Gin (List.mem_of_getElem? (i := 1083) (by decide +kernel)) rfl, z_Gin (List.mem_of_getElem? (i := 98) (by decide +kernel)) rfl, z_Gin (List.mem_of_getElem? (i := 1084) (by decide +kernel)) rfl⟩, by decide, by decide, by decide +kernel⟩
theorem k_X6_link {l : Launch} {I : z_I} {R : Room} {B : Nat} {p1 : Int32} {p2 : Int32} {p3 : Int32} {q : z_O × z_S} {pc pc' : Nat} {ls : List (Option Value)} {st : List Value} {S S1 : z_S} {idx F L : Nat} {r : Int32}  (hF : F_X6_link B p1 p2 p3 S = some (.inl (some r), S1)) (hst : l.stackTraces = false) (w : Cond.methodLink I.1.cls idx yX6_link ∈ z_G) (hRF : R.frames = F) (hRL : R.locals = L) (h1 : 7 ≤ F) (h2 : 172 ≤ L) (hs : (st.map fun v => v.category).sum ≤ 8) (d : decode I.2.1 pc = .ok (.invokevirtual idx, 3)) (hp : pc + 3 = pc') (k : z_W l I R B q pc' ls (.int r :: st) S1) : z_W l I R B q pc ls (.int p3 :: .int p2 :: .int p1 :: .ref 60 :: st) S := z_callV (Y := I_X6_link) (As := [.int p1, .int p2, .int p3]) (st := st) (r := (some r)) (S1 := S1) (c_X6_link (q := (.inl (some r), S1)) hst hF) ok_X6_link w (ci := 6) rfl is_6_60.1 is_6_60.2 rfl ⟨by rw [hRF]; exact h1, by rw [hRL]; exact h2⟩ hs d hp rfl k

