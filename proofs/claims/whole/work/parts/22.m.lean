abbrev I_X6_isAlike : z_I := (yX6_isAlike, cX6_isAlike, 5, some .boolean)
abbrev R_X6_isAlike (q : z_O × z_S) : Room := { frames := 0, locals := 0, cells := z_mc q.1, slots := 6 * z_mc q.1 }
def F_X6_isAlike_39 (B : Nat) (k5 : Int32 → Int32 → Int32 → Int32 → z_S → Option (z_O × z_S)) (v1 : Int32) (v2 : Int32) (v4 : Int32) (s0 : Int32) (S : z_S) : Option (z_O × z_S) :=
  k5 v1 v2 s0 (v4 + 1) S
set_option maxRecDepth 20000 in
set_option maxHeartbeats 16000000 in
theorem ok_X6_isAlike_39 {l : Launch} {B : Nat} {q : z_O × z_S} (hst : l.stackTraces = false) {k5 : Int32 → Int32 → Int32 → Int32 → z_S → Option (z_O × z_S)} (hk5 : ∀ (v1 : Int32) (v2 : Int32) (v3 : Int32) (v4 : Int32) (S : z_S), k5 v1 v2 v3 v4 S = some q → z_W l I_X6_isAlike (R_X6_isAlike q) B q 5 [some (.ref 60), some (.int v1), some (.int v2), some (.int v3), some (.int v4)] [] S) : ∀ (v1 : Int32) (v2 : Int32) (v4 : Int32) (s0 : Int32) (S : z_S), F_X6_isAlike_39 B k5 v1 v2 v4 s0 S = some q → z_W l I_X6_isAlike (R_X6_isAlike q) B q 39 [some (.ref 60), some (.int v1), some (.int v2), none, some (.int v4)] [.int s0] S := by
  intro v1 v2 v4 s0 S hF
  unfold F_X6_isAlike_39 at hF
  refine z_istore_n (pc' := 40) dX6_isAlike_39 rfl (by decide) rfl rfl ?_
  refine z_iinc (v := v4 + 1) (pc' := 43) dX6_isAlike_40 rfl rfl (by decide) rfl rfl ?_
  refine z_goto (pc' := 5) dX6_isAlike_43 (by decide) ?_
  refine z_wk (ls' := [some (.ref 60), some (.int v1), some (.int v2), some (.int s0), some (.int (v4 + 1))]) (z_lec rfl (z_lec rfl (z_lec rfl (z_lec rfl (z_lec rfl z_le0))))) ?_
  exact hk5 _ _ _ _ _ hF
def F_X6_isAlike_38 (B : Nat) (k39 : Int32 → Int32 → Int32 → Int32 → z_S → Option (z_O × z_S)) (v1 : Int32) (v2 : Int32) (v4 : Int32) (S : z_S) : Option (z_O × z_S) :=
  k39 v1 v2 v4 0 S
set_option maxRecDepth 20000 in
set_option maxHeartbeats 16000000 in
theorem ok_X6_isAlike_38 {l : Launch} {B : Nat} {q : z_O × z_S} (hst : l.stackTraces = false) {k39 : Int32 → Int32 → Int32 → Int32 → z_S → Option (z_O × z_S)} (hk39 : ∀ (v1 : Int32) (v2 : Int32) (v4 : Int32) (s0 : Int32) (S : z_S), k39 v1 v2 v4 s0 S = some q → z_W l I_X6_isAlike (R_X6_isAlike q) B q 39 [some (.ref 60), some (.int v1), some (.int v2), none, some (.int v4)] [.int s0] S) : ∀ (v1 : Int32) (v2 : Int32) (v4 : Int32) (S : z_S), F_X6_isAlike_38 B k39 v1 v2 v4 S = some q → z_W l I_X6_isAlike (R_X6_isAlike q) B q 38 [some (.ref 60), some (.int v1), some (.int v2), none, some (.int v4)] [] S := by
  intro v1 v2 v4 S hF
  unfold F_X6_isAlike_38 at hF
  refine z_iconst (v := 0) (pc' := 39) dX6_isAlike_38 (by decide) rfl ?_
  refine z_wk (ls' := [some (.ref 60), some (.int v1), some (.int v2), none, some (.int v4)]) (z_lec rfl (z_lec rfl (z_lec rfl (z_len1 (z_lec rfl z_le0))))) ?_
  exact hk39 _ _ _ _ _ hF
def F_X6_isAlike_5 (B : Nat)  : Nat → Int32 → Int32 → Int32 → Int32 → z_S → Option (z_O × z_S)
  | 0, _, _, _, _, _ => none
  | n + 1, v1, v2, v3, v4, S => if (v1 + v2) ≤ v4 then
    z_gd (z_b01 v3) (some (.inl (some v3), S))
  else
    if v3 = 0 then
      F_X6_isAlike_38 B (F_X6_isAlike_39 B (F_X6_isAlike_5 B n) ) v1 v2 v4 S
    else
      z_gd (z_inb v4 25366) (
      z_lt (S.1 61 (z_ix (v4))) fun x3 =>
      (z_gd (z_inb v4 25366) (
      z_lt (S.1 63 (z_ix (v4))) fun x5 =>
      (if x3 = x5 then
        F_X6_isAlike_39 B (F_X6_isAlike_5 B n) v1 v2 v4 1 S
      else
        F_X6_isAlike_38 B (F_X6_isAlike_39 B (F_X6_isAlike_5 B n) ) v1 v2 v4 S))))
set_option maxRecDepth 20000 in
set_option maxHeartbeats 16000000 in
theorem ok_X6_isAlike_5 {l : Launch} {B : Nat} {q : z_O × z_S} (hst : l.stackTraces = false) : ∀ (n : Nat) (v1 : Int32) (v2 : Int32) (v3 : Int32) (v4 : Int32) (S : z_S), F_X6_isAlike_5 B n v1 v2 v3 v4 S = some q → z_W l I_X6_isAlike (R_X6_isAlike q) B q 5 [some (.ref 60), some (.int v1), some (.int v2), some (.int v3), some (.int v4)] [] S := by
  intro n
  induction n with
  | zero => intro v1 v2 v3 v4 S hF; cases hF
  | succ n ih =>
    intro v1 v2 v3 v4 S hF
    rw [F_X6_isAlike_5] at hF
    refine z_iload (pc' := 7) dX6_isAlike_5 rfl rfl ?_
    refine z_iload_n (pc' := 8) dX6_isAlike_7 rfl rfl rfl ?_
    refine z_iload_n (pc' := 9) dX6_isAlike_8 rfl rfl rfl ?_
    refine z_iadd (pc' := 10) dX6_isAlike_9 rfl ?_
    refine z_icmp_ge (tgt := 46) (pc' := 13) dX6_isAlike_10 (by decide) rfl (fun c8 => ?_) (fun c8 => ?_)
    · rw [if_pos c8] at hF
      refine z_iload_n (pc' := 47) dX6_isAlike_46 rfl rfl rfl ?_
      obtain ⟨g1, hF⟩ := z_gde hF
      exact z_zreturn rfl (z_b01e g1) dX6_isAlike_47 (Option.some.inj hF).symm
    · rw [if_neg c8] at hF
      refine z_iload_n (pc' := 14) dX6_isAlike_13 rfl rfl rfl ?_
      refine z_if_eq (tgt := 38) (pc' := 17) dX6_isAlike_14 (by decide) rfl (fun c7 => ?_) (fun c7 => ?_)
      · rw [if_pos c7] at hF
        refine z_wk (ls' := [some (.ref 60), some (.int v1), some (.int v2), none, some (.int v4)]) (z_lec rfl (z_lec rfl (z_lec rfl (z_len1 (z_lec rfl z_le0))))) ?_
        exact (ok_X6_isAlike_38 hst (ok_X6_isAlike_39 hst ih)) _ _ _ _ hF
      · rw [if_neg c7] at hF
        refine z_aload_n (pc' := 18) dX6_isAlike_17 rfl rfl rfl ?_
        refine gf_X6_7 (b := 61) (pc' := 21) rfl is_6_60 rfl dX6_isAlike_18 rfl ?_
        refine z_iload (pc' := 23) dX6_isAlike_21 rfl rfl ?_
        obtain ⟨g2, hF⟩ := z_gde hF
        refine z_iaload (pc' := 24) (ar_6_f3 is_6_60) (z_inbe g2) dX6_isAlike_23 rfl ?_
        refine z_topi (fun x3 ex3 => ?_)
        replace hF := z_lte hF x3 ex3
        refine z_aload_n (pc' := 25) dX6_isAlike_24 rfl rfl rfl ?_
        refine gf_X6_16 (b := 63) (pc' := 28) rfl is_6_60 rfl dX6_isAlike_25 rfl ?_
        refine z_iload (pc' := 30) dX6_isAlike_28 rfl rfl ?_
        obtain ⟨g4, hF⟩ := z_gde hF
        refine z_iaload (pc' := 31) (ar_6_f5 is_6_60) (z_inbe g4) dX6_isAlike_30 rfl ?_
        refine z_topi (fun x5 ex5 => ?_)
        replace hF := z_lte hF x5 ex5
        refine z_icmp_ne (tgt := 38) (pc' := 34) dX6_isAlike_31 (by decide) rfl (fun c6 => ?_) (fun c6 => ?_)
        · rw [if_neg c6] at hF
          refine z_wk (ls' := [some (.ref 60), some (.int v1), some (.int v2), none, some (.int v4)]) (z_lec rfl (z_lec rfl (z_lec rfl (z_len1 (z_lec rfl z_le0))))) ?_
          exact (ok_X6_isAlike_38 hst (ok_X6_isAlike_39 hst ih)) _ _ _ _ hF
        · rw [if_pos c6] at hF
          refine z_iconst (v := 1) (pc' := 35) dX6_isAlike_34 (by decide) rfl ?_
          refine z_goto (pc' := 39) dX6_isAlike_35 (by decide) ?_
          refine z_wk (ls' := [some (.ref 60), some (.int v1), some (.int v2), none, some (.int v4)]) (z_lec rfl (z_lec rfl (z_lec rfl (z_len1 (z_lec rfl z_le0))))) ?_
          exact (ok_X6_isAlike_39 hst ih) _ _ _ _ _ hF
def F_X6_isAlike (B : Nat) (p1 : Int32) (p2 : Int32) (S : z_S) : Option (z_O × z_S) :=
  F_X6_isAlike_5 B z_n p1 p2 1 p1 S
set_option maxRecDepth 20000 in
set_option maxHeartbeats 16000000 in
theorem c_X6_isAlike {l : Launch} {B : Nat} {p1 : Int32} {p2 : Int32} {S : z_S} {q : z_O × z_S} (hst : l.stackTraces = false) (hF : F_X6_isAlike B p1 p2 S = some q) : z_Met l I_X6_isAlike 0 0 B [.ref 60, .int p1, .int p2] S q.1 q.2 := by
  refine z_enter (ls := [some (.ref 60), some (.int p1), some (.int p2), none, none]) (n := 2) (by decide) rfl (Nat.le_of_ble_eq_true rfl) hst ?_
  unfold F_X6_isAlike at hF
  refine z_iconst (v := 1) (pc' := 1) dX6_isAlike_0 (by decide) rfl ?_
  refine z_istore_n (pc' := 2) dX6_isAlike_1 rfl (by decide) rfl rfl ?_
  refine z_iload_n (pc' := 3) dX6_isAlike_2 rfl rfl rfl ?_
  refine z_istore (pc' := 5) dX6_isAlike_3 (by decide) rfl rfl ?_
  refine z_wk (ls' := [some (.ref 60), some (.int p1), some (.int p2), some (.int 1), some (.int p1)]) (z_lec rfl (z_lec rfl (z_lec rfl (z_lec rfl (z_lec rfl z_le0))))) ?_
  exact (ok_X6_isAlike_5 hst z_n) _ _ _ _ _ hF
theorem ok_X6_isAlike : z_okV I_X6_isAlike 2 := ⟨⟨z_Gin (List.mem_of_getElem? (i := 1210) (by decide +kernel)) rfl, z_Gin (List.mem_of_getElem? (i := 80) (by decide +kernel)) rfl, z_Gin (List.mem_of_getElem? (i := 98) (by decide +kernel)) rfl, z_Gin (List.mem_of_getElem? (i := 1211) (by decide +kernel)) rfl⟩, by decide, by decide, by decide +kernel⟩
theorem k_X6_isAlike {l : Launch} {I : z_I} {R : Room} {B : Nat} {p1 : Int32} {p2 : Int32} {q : z_O × z_S} {pc pc' : Nat} {ls : List (Option Value)} {st : List Value} {S S1 : z_S} {idx F L : Nat} {r : Int32}  (hF : F_X6_isAlike B p1 p2 S = some (.inl (some r), S1)) (hst : l.stackTraces = false) (w : Cond.methodLink I.1.cls idx yX6_isAlike ∈ z_G) (hRF : R.frames = F) (hRL : R.locals = L) (h1 : 1 ≤ F) (h2 : 24 ≤ L) (hs : (st.map fun v => v.category).sum ≤ 8) (d : decode I.2.1 pc = .ok (.invokevirtual idx, 3)) (hp : pc + 3 = pc') (k : z_W l I R B q pc' ls (.int r :: st) S1) : z_W l I R B q pc ls (.int p2 :: .int p1 :: .ref 60 :: st) S := z_callV (Y := I_X6_isAlike) (As := [.int p1, .int p2]) (st := st) (r := (some r)) (S1 := S1) (c_X6_isAlike (q := (.inl (some r), S1)) hst hF) ok_X6_isAlike w (ci := 6) rfl is_6_60.1 is_6_60.2 rfl ⟨by rw [hRF]; exact h1, by rw [hRL]; exact h2⟩ hs d hp rfl k

abbrev I_X6_isBodyAlike : z_I := (yX6_isBodyAlike, cX6_isBodyAlike, 3, some .boolean)
abbrev R_X6_isBodyAlike (q : z_O × z_S) : Room := { frames := 1, locals := 24, cells := z_mc q.1, slots := 6 * z_mc q.1 }
def F_X6_isBodyAlike_126 (B : Nat)  (s0 : Int32) (S : z_S) : Option (z_O × z_S) :=
  z_gd (z_b01 s0) (some (.inl (some s0), S))
set_option maxRecDepth 20000 in
set_option maxHeartbeats 16000000 in
theorem ok_X6_isBodyAlike_126 {l : Launch} {B : Nat} {q : z_O × z_S} (hst : l.stackTraces = false) : ∀ (s0 : Int32) (S : z_S), F_X6_isBodyAlike_126 B s0 S = some q → z_W l I_X6_isBodyAlike (R_X6_isBodyAlike q) B q 126 [none, none, none] [.int s0] S := by
  intro s0 S hF
  unfold F_X6_isBodyAlike_126 at hF
  obtain ⟨g1, hF⟩ := z_gde hF
  exact z_zreturn rfl (z_b01e g1) dX6_isBodyAlike_126 (Option.some.inj hF).symm
def F_X6_isBodyAlike_121 (B : Nat) (k126 : Int32 → z_S → Option (z_O × z_S))  (S : z_S) : Option (z_O × z_S) :=
  k126 1 S
set_option maxRecDepth 20000 in
set_option maxHeartbeats 16000000 in
theorem ok_X6_isBodyAlike_121 {l : Launch} {B : Nat} {q : z_O × z_S} (hst : l.stackTraces = false) {k126 : Int32 → z_S → Option (z_O × z_S)} (hk126 : ∀ (s0 : Int32) (S : z_S), k126 s0 S = some q → z_W l I_X6_isBodyAlike (R_X6_isBodyAlike q) B q 126 [none, none, none] [.int s0] S) : ∀ (S : z_S), F_X6_isBodyAlike_121 B k126 S = some q → z_W l I_X6_isBodyAlike (R_X6_isBodyAlike q) B q 121 [none, none, none] [] S := by
  intro S hF
  unfold F_X6_isBodyAlike_121 at hF
  refine z_iconst (v := 1) (pc' := 122) dX6_isBodyAlike_121 (by decide) rfl ?_
  refine z_goto (pc' := 126) dX6_isBodyAlike_122 (by decide) ?_
  refine z_wk (ls' := [none, none, none]) (z_len1 (z_len1 (z_len1 z_le0))) ?_
  exact hk126 _ _ hF
def F_X6_isBodyAlike_95 (B : Nat) (k126 : Int32 → z_S → Option (z_O × z_S))  (S : z_S) : Option (z_O × z_S) :=
  k126 0 S
set_option maxRecDepth 20000 in
set_option maxHeartbeats 16000000 in
theorem ok_X6_isBodyAlike_95 {l : Launch} {B : Nat} {q : z_O × z_S} (hst : l.stackTraces = false) {k126 : Int32 → z_S → Option (z_O × z_S)} (hk126 : ∀ (s0 : Int32) (S : z_S), k126 s0 S = some q → z_W l I_X6_isBodyAlike (R_X6_isBodyAlike q) B q 126 [none, none, none] [.int s0] S) : ∀ (S : z_S), F_X6_isBodyAlike_95 B k126 S = some q → z_W l I_X6_isBodyAlike (R_X6_isBodyAlike q) B q 95 [none, none, none] [] S := by
  intro S hF
  unfold F_X6_isBodyAlike_95 at hF
  refine z_iconst (v := 0) (pc' := 96) dX6_isBodyAlike_95 (by decide) rfl ?_
  refine z_goto (pc' := 126) dX6_isBodyAlike_96 (by decide) ?_
  refine z_wk (ls' := [none, none, none]) (z_len1 (z_len1 (z_len1 z_le0))) ?_
  exact hk126 _ _ hF
def F_X6_isBodyAlike_47 (B : Nat)  (s0 : Int32) (S : z_S) : Option (z_O × z_S) :=
  z_gd (z_b01 s0) (some (.inl (some s0), S))
set_option maxRecDepth 20000 in
set_option maxHeartbeats 16000000 in
theorem ok_X6_isBodyAlike_47 {l : Launch} {B : Nat} {q : z_O × z_S} (hst : l.stackTraces = false) : ∀ (s0 : Int32) (S : z_S), F_X6_isBodyAlike_47 B s0 S = some q → z_W l I_X6_isBodyAlike (R_X6_isBodyAlike q) B q 47 [none, none, none] [.int s0] S := by
  intro s0 S hF
  unfold F_X6_isBodyAlike_47 at hF
  obtain ⟨g1, hF⟩ := z_gde hF
  exact z_zreturn rfl (z_b01e g1) dX6_isBodyAlike_47 (Option.some.inj hF).symm
def F_X6_isBodyAlike_46 (B : Nat) (k47 : Int32 → z_S → Option (z_O × z_S))  (S : z_S) : Option (z_O × z_S) :=
  k47 0 S
set_option maxRecDepth 20000 in
set_option maxHeartbeats 16000000 in
theorem ok_X6_isBodyAlike_46 {l : Launch} {B : Nat} {q : z_O × z_S} (hst : l.stackTraces = false) {k47 : Int32 → z_S → Option (z_O × z_S)} (hk47 : ∀ (s0 : Int32) (S : z_S), k47 s0 S = some q → z_W l I_X6_isBodyAlike (R_X6_isBodyAlike q) B q 47 [none, none, none] [.int s0] S) : ∀ (S : z_S), F_X6_isBodyAlike_46 B k47 S = some q → z_W l I_X6_isBodyAlike (R_X6_isBodyAlike q) B q 46 [none, none, none] [] S := by
  intro S hF
  unfold F_X6_isBodyAlike_46 at hF
  refine z_iconst (v := 0) (pc' := 47) dX6_isBodyAlike_46 (by decide) rfl ?_
  refine z_wk (ls' := [none, none, none]) (z_len1 (z_len1 (z_len1 z_le0))) ?_
  exact hk47 _ _ hF
def F_X6_isBodyAlike (B : Nat) (p1 : Int32) (p2 : Int32) (S : z_S) : Option (z_O × z_S) :=
  if p2 = 0 then
    z_bn (F_X6_isAlike B (96 + p1) 1 S) fun r17 S18 =>
    (if r17 = 0 then
      F_X6_isBodyAlike_46 B (F_X6_isBodyAlike_47 B ) S18
    else
      z_bn (F_X6_isAlike B (157 + p1) 1 S18) fun r20 S21 =>
      (if r20 = 0 then
        F_X6_isBodyAlike_46 B (F_X6_isBodyAlike_47 B ) S21
      else
        z_bn (F_X6_isAlike B (218 + p1) 1 S21) fun r23 S24 =>
        (if r23 = 0 then
          F_X6_isBodyAlike_46 B (F_X6_isBodyAlike_47 B ) S24
        else
          F_X6_isBodyAlike_47 B 1 S24)))
  else
    if p2 = 2 then
      z_bn (F_X6_isAlike B (279 + p1) 1 S) fun r6 S7 =>
      (if r6 = 0 then
        F_X6_isBodyAlike_95 B (F_X6_isBodyAlike_126 B ) S7
      else
        z_gd (z_inb (279 + p1) 25366) (
        z_lt (S7.1 61 (z_ix (279 + p1))) fun x10 =>
        (z_bn (F_X6_isAlike B (340 + (16 * p1)) x10 S7) fun r11 S12 =>
        (if r11 = 0 then
          F_X6_isBodyAlike_95 B (F_X6_isBodyAlike_126 B ) S12
        else
          F_X6_isBodyAlike_126 B 1 S12))))
    else
      if p2 = 1 then
        F_X6_isBodyAlike_121 B (F_X6_isBodyAlike_126 B ) S
      else
        z_bn (F_X6_isAlike B (1316 + (40 * p1)) 40 S) fun r1 S2 =>
        (if r1 = 0 then
          F_X6_isBodyAlike_126 B 0 S2
        else
          F_X6_isBodyAlike_121 B (F_X6_isBodyAlike_126 B ) S2)
set_option maxRecDepth 20000 in
set_option maxHeartbeats 16000000 in
theorem c_X6_isBodyAlike {l : Launch} {B : Nat} {p1 : Int32} {p2 : Int32} {S : z_S} {q : z_O × z_S} (hst : l.stackTraces = false) (hF : F_X6_isBodyAlike B p1 p2 S = some q) : z_Met l I_X6_isBodyAlike 1 24 B [.ref 60, .int p1, .int p2] S q.1 q.2 := by
  refine z_enter (ls := [some (.ref 60), some (.int p1), some (.int p2)]) (n := 0) (by decide) rfl (Nat.le_of_ble_eq_true rfl) hst ?_
  unfold F_X6_isBodyAlike at hF
  refine z_iload_n (pc' := 1) dX6_isBodyAlike_0 rfl rfl rfl ?_
  refine z_if_ne (tgt := 48) (pc' := 4) dX6_isBodyAlike_1 (by decide) rfl (fun c29 => ?_) (fun c29 => ?_)
  · rw [if_neg c29] at hF
    refine z_iload_n (pc' := 49) dX6_isBodyAlike_48 rfl rfl rfl ?_
    refine z_iconst (v := 2) (pc' := 50) dX6_isBodyAlike_49 (by decide) rfl ?_
    refine z_icmp_ne (tgt := 99) (pc' := 53) dX6_isBodyAlike_50 (by decide) rfl (fun c16 => ?_) (fun c16 => ?_)
    · rw [if_neg c16] at hF
      refine z_iload_n (pc' := 100) dX6_isBodyAlike_99 rfl rfl rfl ?_
      refine z_iconst (v := 1) (pc' := 101) dX6_isBodyAlike_100 (by decide) rfl ?_
      refine z_icmp_eq (tgt := 121) (pc' := 104) dX6_isBodyAlike_101 (by decide) rfl (fun c5 => ?_) (fun c5 => ?_)
      · rw [if_pos c5] at hF
        refine z_wk (ls' := [none, none, none]) (z_len1 (z_len1 (z_len1 z_le0))) ?_
        exact (ok_X6_isBodyAlike_121 hst (ok_X6_isBodyAlike_126 hst)) _ hF
      · rw [if_neg c5] at hF
        refine z_aload_n (pc' := 105) dX6_isBodyAlike_104 rfl rfl rfl ?_
        refine z_sipush (v := 1316) (pc' := 108) dX6_isBodyAlike_105 (by decide) rfl ?_
        refine z_bipush (v := 40) (pc' := 110) dX6_isBodyAlike_108 (by decide) rfl ?_
        refine z_iload_n (pc' := 111) dX6_isBodyAlike_110 rfl rfl rfl ?_
        refine z_imul (pc' := 112) dX6_isBodyAlike_111 rfl ?_
        refine z_iadd (pc' := 113) dX6_isBodyAlike_112 rfl ?_
        refine z_bipush (v := 40) (pc' := 115) dX6_isBodyAlike_113 (by decide) rfl ?_
        obtain ⟨r1, S2, hc3, hF⟩ := z_bne hF
        refine k_X6_isAlike (F := 1) (L := 24) (pc' := 118) hc3 hst zw_150 rfl rfl (by decide) (by decide) (by decide) dX6_isBodyAlike_115 rfl ?_
        refine z_if_eq (tgt := 125) (pc' := 121) dX6_isBodyAlike_118 (by decide) rfl (fun c4 => ?_) (fun c4 => ?_)
        · rw [if_pos c4] at hF
          refine z_iconst (v := 0) (pc' := 126) dX6_isBodyAlike_125 (by decide) rfl ?_
          refine z_wk (ls' := [none, none, none]) (z_len1 (z_len1 (z_len1 z_le0))) ?_
          exact (ok_X6_isBodyAlike_126 hst) _ _ hF
        · rw [if_neg c4] at hF
          refine z_wk (ls' := [none, none, none]) (z_len1 (z_len1 (z_len1 z_le0))) ?_
          exact (ok_X6_isBodyAlike_121 hst (ok_X6_isBodyAlike_126 hst)) _ hF
    · rw [if_pos c16] at hF
      refine z_aload_n (pc' := 54) dX6_isBodyAlike_53 rfl rfl rfl ?_
      refine z_sipush (v := 279) (pc' := 57) dX6_isBodyAlike_54 (by decide) rfl ?_
      refine z_iload_n (pc' := 58) dX6_isBodyAlike_57 rfl rfl rfl ?_
      refine z_iadd (pc' := 59) dX6_isBodyAlike_58 rfl ?_
      refine z_iconst (v := 1) (pc' := 60) dX6_isBodyAlike_59 (by decide) rfl ?_
      obtain ⟨r6, S7, hc8, hF⟩ := z_bne hF
      refine k_X6_isAlike (F := 1) (L := 24) (pc' := 63) hc8 hst zw_150 rfl rfl (by decide) (by decide) (by decide) dX6_isBodyAlike_60 rfl ?_
      refine z_if_eq (tgt := 95) (pc' := 66) dX6_isBodyAlike_63 (by decide) rfl (fun c15 => ?_) (fun c15 => ?_)
      · rw [if_pos c15] at hF
        refine z_wk (ls' := [none, none, none]) (z_len1 (z_len1 (z_len1 z_le0))) ?_
        exact (ok_X6_isBodyAlike_95 hst (ok_X6_isBodyAlike_126 hst)) _ hF
      · rw [if_neg c15] at hF
        refine z_aload_n (pc' := 67) dX6_isBodyAlike_66 rfl rfl rfl ?_
        refine z_sipush (v := 340) (pc' := 70) dX6_isBodyAlike_67 (by decide) rfl ?_
        refine z_bipush (v := 16) (pc' := 72) dX6_isBodyAlike_70 (by decide) rfl ?_
        refine z_iload_n (pc' := 73) dX6_isBodyAlike_72 rfl rfl rfl ?_
        refine z_imul (pc' := 74) dX6_isBodyAlike_73 rfl ?_
        refine z_iadd (pc' := 75) dX6_isBodyAlike_74 rfl ?_
        refine z_aload_n (pc' := 76) dX6_isBodyAlike_75 rfl rfl rfl ?_
        refine gf_X6_7 (b := 61) (pc' := 79) rfl is_6_60 rfl dX6_isBodyAlike_76 rfl ?_
        refine z_sipush (v := 279) (pc' := 82) dX6_isBodyAlike_79 (by decide) rfl ?_
        refine z_iload_n (pc' := 83) dX6_isBodyAlike_82 rfl rfl rfl ?_
        refine z_iadd (pc' := 84) dX6_isBodyAlike_83 rfl ?_
        obtain ⟨g9, hF⟩ := z_gde hF
        refine z_iaload (pc' := 85) (ar_6_f3 is_6_60) (z_inbe g9) dX6_isBodyAlike_84 rfl ?_
        refine z_topi (fun x10 ex10 => ?_)
        replace hF := z_lte hF x10 ex10
        obtain ⟨r11, S12, hc13, hF⟩ := z_bne hF
        refine k_X6_isAlike (F := 1) (L := 24) (pc' := 88) hc13 hst zw_150 rfl rfl (by decide) (by decide) (by decide) dX6_isBodyAlike_85 rfl ?_
        refine z_if_eq (tgt := 95) (pc' := 91) dX6_isBodyAlike_88 (by decide) rfl (fun c14 => ?_) (fun c14 => ?_)
        · rw [if_pos c14] at hF
          refine z_wk (ls' := [none, none, none]) (z_len1 (z_len1 (z_len1 z_le0))) ?_
          exact (ok_X6_isBodyAlike_95 hst (ok_X6_isBodyAlike_126 hst)) _ hF
        · rw [if_neg c14] at hF
          refine z_iconst (v := 1) (pc' := 92) dX6_isBodyAlike_91 (by decide) rfl ?_
          refine z_goto (pc' := 126) dX6_isBodyAlike_92 (by decide) ?_
          refine z_wk (ls' := [none, none, none]) (z_len1 (z_len1 (z_len1 z_le0))) ?_
          exact (ok_X6_isBodyAlike_126 hst) _ _ hF
  · rw [if_pos c29] at hF
    refine z_aload_n (pc' := 5) dX6_isBodyAlike_4 rfl rfl rfl ?_
    refine z_bipush (v := 96) (pc' := 7) dX6_isBodyAlike_5 (by decide) rfl ?_
    refine z_iload_n (pc' := 8) dX6_isBodyAlike_7 rfl rfl rfl ?_
    refine z_iadd (pc' := 9) dX6_isBodyAlike_8 rfl ?_
    refine z_iconst (v := 1) (pc' := 10) dX6_isBodyAlike_9 (by decide) rfl ?_
    obtain ⟨r17, S18, hc19, hF⟩ := z_bne hF
    refine k_X6_isAlike (F := 1) (L := 24) (pc' := 13) hc19 hst zw_150 rfl rfl (by decide) (by decide) (by decide) dX6_isBodyAlike_10 rfl ?_
    refine z_if_eq (tgt := 46) (pc' := 16) dX6_isBodyAlike_13 (by decide) rfl (fun c28 => ?_) (fun c28 => ?_)
    · rw [if_pos c28] at hF
      refine z_wk (ls' := [none, none, none]) (z_len1 (z_len1 (z_len1 z_le0))) ?_
      exact (ok_X6_isBodyAlike_46 hst (ok_X6_isBodyAlike_47 hst)) _ hF
    · rw [if_neg c28] at hF
      refine z_aload_n (pc' := 17) dX6_isBodyAlike_16 rfl rfl rfl ?_
      refine z_sipush (v := 157) (pc' := 20) dX6_isBodyAlike_17 (by decide) rfl ?_
      refine z_iload_n (pc' := 21) dX6_isBodyAlike_20 rfl rfl rfl ?_
      refine z_iadd (pc' := 22) dX6_isBodyAlike_21 rfl ?_
      refine z_iconst (v := 1) (pc' := 23) dX6_isBodyAlike_22 (by decide) rfl ?_
      obtain ⟨r20, S21, hc22, hF⟩ := z_bne hF
      refine k_X6_isAlike (F := 1) (L := 24) (pc' := 26) hc22 hst zw_150 rfl rfl (by decide) (by decide) (by decide) dX6_isBodyAlike_23 rfl ?_
      refine z_if_eq (tgt := 46) (pc' := 29) dX6_isBodyAlike_26 (by decide) rfl (fun c27 => ?_) (fun c27 => ?_)
      · rw [if_pos c27] at hF
        refine z_wk (ls' := [none, none, none]) (z_len1 (z_len1 (z_len1 z_le0))) ?_
        exact (ok_X6_isBodyAlike_46 hst (ok_X6_isBodyAlike_47 hst)) _ hF
      · rw [if_neg c27] at hF
        refine z_aload_n (pc' := 30) dX6_isBodyAlike_29 rfl rfl rfl ?_
        refine z_sipush (v := 218) (pc' := 33) dX6_isBodyAlike_30 (by decide) rfl ?_
        refine z_iload_n (pc' := 34) dX6_isBodyAlike_33 rfl rfl rfl ?_
        refine z_iadd (pc' := 35) dX6_isBodyAlike_34 rfl ?_
        refine z_iconst (v := 1) (pc' := 36) dX6_isBodyAlike_35 (by decide) rfl ?_
        obtain ⟨r23, S24, hc25, hF⟩ := z_bne hF
        refine k_X6_isAlike (F := 1) (L := 24) (pc' := 39) hc25 hst zw_150 rfl rfl (by decide) (by decide) (by decide) dX6_isBodyAlike_36 rfl ?_
        refine z_if_eq (tgt := 46) (pc' := 42) dX6_isBodyAlike_39 (by decide) rfl (fun c26 => ?_) (fun c26 => ?_)
        · rw [if_pos c26] at hF
          refine z_wk (ls' := [none, none, none]) (z_len1 (z_len1 (z_len1 z_le0))) ?_
          exact (ok_X6_isBodyAlike_46 hst (ok_X6_isBodyAlike_47 hst)) _ hF
        · rw [if_neg c26] at hF
          refine z_iconst (v := 1) (pc' := 43) dX6_isBodyAlike_42 (by decide) rfl ?_
          refine z_goto (pc' := 47) dX6_isBodyAlike_43 (by decide) ?_
          refine z_wk (ls' := [none, none, none]) (z_len1 (z_len1 (z_len1 z_le0))) ?_
          exact (ok_X6_isBodyAlike_47 hst) _ _ hF
theorem ok_X6_isBodyAlike : z_okV I_X6_isBodyAlike 2 := ⟨⟨z_Gin (List.mem_of_getElem? (i := 1218) (by decide +kernel)) rfl, z_Gin (List.mem_of_getElem? (i := 82) (by decide +kernel)) rfl, z_Gin (List.mem_of_getElem? (i := 98) (by decide +kernel)) rfl, z_Gin (List.mem_of_getElem? (i := 1219) (by decide +kernel)) rfl⟩, by decide, by decide, by decide +kernel⟩
theorem k_X6_isBodyAlike {l : Launch} {I : z_I} {R : Room} {B : Nat} {p1 : Int32} {p2 : Int32} {q : z_O × z_S} {pc pc' : Nat} {ls : List (Option Value)} {st : List Value} {S S1 : z_S} {idx F L : Nat} {r : Int32}  (hF : F_X6_isBodyAlike B p1 p2 S = some (.inl (some r), S1)) (hst : l.stackTraces = false) (w : Cond.methodLink I.1.cls idx yX6_isBodyAlike ∈ z_G) (hRF : R.frames = F) (hRL : R.locals = L) (h1 : 2 ≤ F) (h2 : 46 ≤ L) (hs : (st.map fun v => v.category).sum ≤ 8) (d : decode I.2.1 pc = .ok (.invokevirtual idx, 3)) (hp : pc + 3 = pc') (k : z_W l I R B q pc' ls (.int r :: st) S1) : z_W l I R B q pc ls (.int p2 :: .int p1 :: .ref 60 :: st) S := z_callV (Y := I_X6_isBodyAlike) (As := [.int p1, .int p2]) (st := st) (r := (some r)) (S1 := S1) (c_X6_isBodyAlike (q := (.inl (some r), S1)) hst hF) ok_X6_isBodyAlike w (ci := 6) rfl is_6_60.1 is_6_60.2 rfl ⟨by rw [hRF]; exact h1, by rw [hRL]; exact h2⟩ hs d hp rfl k

abbrev I_X6_isLeafAlike : z_I := (yX6_isLeafAlike, cX6_isLeafAlike, 6, some .boolean)
abbrev R_X6_isLeafAlike (q : z_O × z_S) : Room := { frames := 2, locals := 46, cells := z_mc q.1, slots := 6 * z_mc q.1 }
def F_X6_isLeafAlike_168 (B : Nat)  (v4 : Int32) (S : z_S) : Option (z_O × z_S) :=
  z_gd (z_b01 v4) (some (.inl (some v4), S))
set_option maxRecDepth 20000 in
set_option maxHeartbeats 16000000 in
theorem ok_X6_isLeafAlike_168 {l : Launch} {B : Nat} {q : z_O × z_S} (hst : l.stackTraces = false) : ∀ (v4 : Int32) (S : z_S), F_X6_isLeafAlike_168 B v4 S = some q → z_W l I_X6_isLeafAlike (R_X6_isLeafAlike q) B q 168 [none, none, none, none, some (.int v4), none] [] S := by
  intro v4 S hF
  unfold F_X6_isLeafAlike_168 at hF
  refine z_iload (pc' := 170) dX6_isLeafAlike_168 rfl rfl ?_
  obtain ⟨g1, hF⟩ := z_gde hF
  exact z_zreturn rfl (z_b01e g1) dX6_isLeafAlike_170 (Option.some.inj hF).symm
def F_X6_isLeafAlike_160 (B : Nat) (k78 : Int32 → Int32 → Int32 → Int32 → z_S → Option (z_O × z_S)) (v2 : Int32) (v3 : Int32) (v5 : Int32) (s0 : Int32) (S : z_S) : Option (z_O × z_S) :=
  k78 v2 v3 s0 (v5 + 1) S
set_option maxRecDepth 20000 in
set_option maxHeartbeats 16000000 in
theorem ok_X6_isLeafAlike_160 {l : Launch} {B : Nat} {q : z_O × z_S} (hst : l.stackTraces = false) {k78 : Int32 → Int32 → Int32 → Int32 → z_S → Option (z_O × z_S)} (hk78 : ∀ (v2 : Int32) (v3 : Int32) (v4 : Int32) (v5 : Int32) (S : z_S), k78 v2 v3 v4 v5 S = some q → z_W l I_X6_isLeafAlike (R_X6_isLeafAlike q) B q 78 [some (.ref 60), none, some (.int v2), some (.int v3), some (.int v4), some (.int v5)] [] S) : ∀ (v2 : Int32) (v3 : Int32) (v5 : Int32) (s0 : Int32) (S : z_S), F_X6_isLeafAlike_160 B k78 v2 v3 v5 s0 S = some q → z_W l I_X6_isLeafAlike (R_X6_isLeafAlike q) B q 160 [some (.ref 60), none, some (.int v2), some (.int v3), none, some (.int v5)] [.int s0] S := by
  intro v2 v3 v5 s0 S hF
  unfold F_X6_isLeafAlike_160 at hF
  refine z_istore (pc' := 162) dX6_isLeafAlike_160 (by decide) rfl rfl ?_
  refine z_iinc (v := v5 + 1) (pc' := 165) dX6_isLeafAlike_162 rfl rfl (by decide) rfl rfl ?_
  refine z_goto (pc' := 78) dX6_isLeafAlike_165 (by decide) ?_
  refine z_wk (ls' := [some (.ref 60), none, some (.int v2), some (.int v3), some (.int s0), some (.int (v5 + 1))]) (z_lec rfl (z_len1 (z_lec rfl (z_lec rfl (z_lec rfl (z_lec rfl z_le0)))))) ?_
  exact hk78 _ _ _ _ _ hF
def F_X6_isLeafAlike_159 (B : Nat) (k160 : Int32 → Int32 → Int32 → Int32 → z_S → Option (z_O × z_S)) (v2 : Int32) (v3 : Int32) (v5 : Int32) (S : z_S) : Option (z_O × z_S) :=
  k160 v2 v3 v5 0 S
set_option maxRecDepth 20000 in
set_option maxHeartbeats 16000000 in
theorem ok_X6_isLeafAlike_159 {l : Launch} {B : Nat} {q : z_O × z_S} (hst : l.stackTraces = false) {k160 : Int32 → Int32 → Int32 → Int32 → z_S → Option (z_O × z_S)} (hk160 : ∀ (v2 : Int32) (v3 : Int32) (v5 : Int32) (s0 : Int32) (S : z_S), k160 v2 v3 v5 s0 S = some q → z_W l I_X6_isLeafAlike (R_X6_isLeafAlike q) B q 160 [some (.ref 60), none, some (.int v2), some (.int v3), none, some (.int v5)] [.int s0] S) : ∀ (v2 : Int32) (v3 : Int32) (v5 : Int32) (S : z_S), F_X6_isLeafAlike_159 B k160 v2 v3 v5 S = some q → z_W l I_X6_isLeafAlike (R_X6_isLeafAlike q) B q 159 [some (.ref 60), none, some (.int v2), some (.int v3), none, some (.int v5)] [] S := by
  intro v2 v3 v5 S hF
  unfold F_X6_isLeafAlike_159 at hF
  refine z_iconst (v := 0) (pc' := 160) dX6_isLeafAlike_159 (by decide) rfl ?_
  refine z_wk (ls' := [some (.ref 60), none, some (.int v2), some (.int v3), none, some (.int v5)]) (z_lec rfl (z_len1 (z_lec rfl (z_lec rfl (z_len1 (z_lec rfl z_le0)))))) ?_
  exact hk160 _ _ _ _ _ hF
def F_X6_isLeafAlike_122 (B : Nat) (k159 : Int32 → Int32 → Int32 → z_S → Option (z_O × z_S)) (k160 : Int32 → Int32 → Int32 → Int32 → z_S → Option (z_O × z_S)) (v2 : Int32) (v3 : Int32) (v5 : Int32) (S : z_S) : Option (z_O × z_S) :=
  z_gd (z_inb ((4620 + v2) + v5) 25366) (
  z_lt (S.1 61 (z_ix ((4620 + v2) + v5))) fun x2 =>
  (z_gd (z_inb ((6156 + v2) + v5) 25366) (
  z_lt (S.1 61 (z_ix ((6156 + v2) + v5))) fun x4 =>
  (z_bn (F_X6_isBodyAlike B x2 x4 S) fun r5 S6 =>
  (if r5 = 0 then
    k159 v2 v3 v5 S6
  else
    k160 v2 v3 v5 1 S6)))))
set_option maxRecDepth 20000 in
set_option maxHeartbeats 16000000 in
theorem ok_X6_isLeafAlike_122 {l : Launch} {B : Nat} {q : z_O × z_S} (hst : l.stackTraces = false) {k159 : Int32 → Int32 → Int32 → z_S → Option (z_O × z_S)} (hk159 : ∀ (v2 : Int32) (v3 : Int32) (v5 : Int32) (S : z_S), k159 v2 v3 v5 S = some q → z_W l I_X6_isLeafAlike (R_X6_isLeafAlike q) B q 159 [some (.ref 60), none, some (.int v2), some (.int v3), none, some (.int v5)] [] S) {k160 : Int32 → Int32 → Int32 → Int32 → z_S → Option (z_O × z_S)} (hk160 : ∀ (v2 : Int32) (v3 : Int32) (v5 : Int32) (s0 : Int32) (S : z_S), k160 v2 v3 v5 s0 S = some q → z_W l I_X6_isLeafAlike (R_X6_isLeafAlike q) B q 160 [some (.ref 60), none, some (.int v2), some (.int v3), none, some (.int v5)] [.int s0] S) : ∀ (v2 : Int32) (v3 : Int32) (v5 : Int32) (S : z_S), F_X6_isLeafAlike_122 B k159 k160 v2 v3 v5 S = some q → z_W l I_X6_isLeafAlike (R_X6_isLeafAlike q) B q 122 [some (.ref 60), none, some (.int v2), some (.int v3), none, some (.int v5)] [] S := by
  intro v2 v3 v5 S hF
  unfold F_X6_isLeafAlike_122 at hF
  refine z_aload_n (pc' := 123) dX6_isLeafAlike_122 rfl rfl rfl ?_
  refine z_aload_n (pc' := 124) dX6_isLeafAlike_123 rfl rfl rfl ?_
  refine gf_X6_7 (b := 61) (pc' := 127) rfl is_6_60 rfl dX6_isLeafAlike_124 rfl ?_
  refine z_sipush (v := 4620) (pc' := 130) dX6_isLeafAlike_127 (by decide) rfl ?_
  refine z_iload_n (pc' := 131) dX6_isLeafAlike_130 rfl rfl rfl ?_
  refine z_iadd (pc' := 132) dX6_isLeafAlike_131 rfl ?_
  refine z_iload (pc' := 134) dX6_isLeafAlike_132 rfl rfl ?_
  refine z_iadd (pc' := 135) dX6_isLeafAlike_134 rfl ?_
  obtain ⟨g1, hF⟩ := z_gde hF
  refine z_iaload (pc' := 136) (ar_6_f3 is_6_60) (z_inbe g1) dX6_isLeafAlike_135 rfl ?_
  refine z_topi (fun x2 ex2 => ?_)
  replace hF := z_lte hF x2 ex2
  refine z_aload_n (pc' := 137) dX6_isLeafAlike_136 rfl rfl rfl ?_
  refine gf_X6_7 (b := 61) (pc' := 140) rfl is_6_60 rfl dX6_isLeafAlike_137 rfl ?_
  refine z_sipush (v := 6156) (pc' := 143) dX6_isLeafAlike_140 (by decide) rfl ?_
  refine z_iload_n (pc' := 144) dX6_isLeafAlike_143 rfl rfl rfl ?_
  refine z_iadd (pc' := 145) dX6_isLeafAlike_144 rfl ?_
  refine z_iload (pc' := 147) dX6_isLeafAlike_145 rfl rfl ?_
  refine z_iadd (pc' := 148) dX6_isLeafAlike_147 rfl ?_
  obtain ⟨g3, hF⟩ := z_gde hF
  refine z_iaload (pc' := 149) (ar_6_f3 is_6_60) (z_inbe g3) dX6_isLeafAlike_148 rfl ?_
  refine z_topi (fun x4 ex4 => ?_)
  replace hF := z_lte hF x4 ex4
  obtain ⟨r5, S6, hc7, hF⟩ := z_bne hF
  refine k_X6_isBodyAlike (F := 2) (L := 46) (pc' := 152) hc7 hst zw_151 rfl rfl (by decide) (by decide) (by decide) dX6_isLeafAlike_149 rfl ?_
  refine z_if_eq (tgt := 159) (pc' := 155) dX6_isLeafAlike_152 (by decide) rfl (fun c8 => ?_) (fun c8 => ?_)
  · rw [if_pos c8] at hF
    refine z_wk (ls' := [some (.ref 60), none, some (.int v2), some (.int v3), none, some (.int v5)]) (z_lec rfl (z_len1 (z_lec rfl (z_lec rfl (z_len1 (z_lec rfl z_le0)))))) ?_
    exact hk159 _ _ _ _ hF
  · rw [if_neg c8] at hF
    refine z_iconst (v := 1) (pc' := 156) dX6_isLeafAlike_155 (by decide) rfl ?_
    refine z_goto (pc' := 160) dX6_isLeafAlike_156 (by decide) ?_
    refine z_wk (ls' := [some (.ref 60), none, some (.int v2), some (.int v3), none, some (.int v5)]) (z_lec rfl (z_len1 (z_lec rfl (z_lec rfl (z_len1 (z_lec rfl z_le0)))))) ?_
    exact hk160 _ _ _ _ _ hF
def F_X6_isLeafAlike_78 (B : Nat)  : Nat → Int32 → Int32 → Int32 → Int32 → z_S → Option (z_O × z_S)
  | 0, _, _, _, _, _ => none
  | n + 1, v2, v3, v4, v5, S => if v3 ≤ v5 then
    F_X6_isLeafAlike_168 B v4 S
  else
    if v4 = 0 then
      F_X6_isLeafAlike_168 B v4 S
    else
      z_gd (z_inb ((6156 + v2) + v5) 25366) (
      z_lt (S.1 61 (z_ix ((6156 + v2) + v5))) fun x2 =>
      (if x2 = 1 then
        z_bn (F_X6_isAlike B ((10764 + v2) + v5) 1 S) fun r3 S4 =>
        (if r3 = 0 then
          F_X6_isLeafAlike_159 B (F_X6_isLeafAlike_160 B (F_X6_isLeafAlike_78 B n) ) v2 v3 v5 S4
        else
          F_X6_isLeafAlike_122 B (F_X6_isLeafAlike_159 B (F_X6_isLeafAlike_160 B (F_X6_isLeafAlike_78 B n) ) ) (F_X6_isLeafAlike_160 B (F_X6_isLeafAlike_78 B n) ) v2 v3 v5 S4)
      else
        F_X6_isLeafAlike_122 B (F_X6_isLeafAlike_159 B (F_X6_isLeafAlike_160 B (F_X6_isLeafAlike_78 B n) ) ) (F_X6_isLeafAlike_160 B (F_X6_isLeafAlike_78 B n) ) v2 v3 v5 S))
set_option maxRecDepth 20000 in
set_option maxHeartbeats 16000000 in
theorem ok_X6_isLeafAlike_78 {l : Launch} {B : Nat} {q : z_O × z_S} (hst : l.stackTraces = false) : ∀ (n : Nat) (v2 : Int32) (v3 : Int32) (v4 : Int32) (v5 : Int32) (S : z_S), F_X6_isLeafAlike_78 B n v2 v3 v4 v5 S = some q → z_W l I_X6_isLeafAlike (R_X6_isLeafAlike q) B q 78 [some (.ref 60), none, some (.int v2), some (.int v3), some (.int v4), some (.int v5)] [] S := by
  intro n
  induction n with
  | zero => intro v2 v3 v4 v5 S hF; cases hF
  | succ n ih =>
    intro v2 v3 v4 v5 S hF
    rw [F_X6_isLeafAlike_78] at hF
    refine z_iload (pc' := 80) dX6_isLeafAlike_78 rfl rfl ?_
    refine z_iload_n (pc' := 81) dX6_isLeafAlike_80 rfl rfl rfl ?_
    refine z_icmp_ge (tgt := 168) (pc' := 84) dX6_isLeafAlike_81 (by decide) rfl (fun c9 => ?_) (fun c9 => ?_)
    · rw [if_pos c9] at hF
      refine z_wk (ls' := [none, none, none, none, some (.int v4), none]) (z_len1 (z_len1 (z_len1 (z_len1 (z_lec rfl (z_len1 z_le0)))))) ?_
      exact (ok_X6_isLeafAlike_168 hst) _ _ hF
    · rw [if_neg c9] at hF
      refine z_iload (pc' := 86) dX6_isLeafAlike_84 rfl rfl ?_
      refine z_if_eq (tgt := 168) (pc' := 89) dX6_isLeafAlike_86 (by decide) rfl (fun c8 => ?_) (fun c8 => ?_)
      · rw [if_pos c8] at hF
        refine z_wk (ls' := [none, none, none, none, some (.int v4), none]) (z_len1 (z_len1 (z_len1 (z_len1 (z_lec rfl (z_len1 z_le0)))))) ?_
        exact (ok_X6_isLeafAlike_168 hst) _ _ hF
      · rw [if_neg c8] at hF
        refine z_aload_n (pc' := 90) dX6_isLeafAlike_89 rfl rfl rfl ?_
        refine gf_X6_7 (b := 61) (pc' := 93) rfl is_6_60 rfl dX6_isLeafAlike_90 rfl ?_
        refine z_sipush (v := 6156) (pc' := 96) dX6_isLeafAlike_93 (by decide) rfl ?_
        refine z_iload_n (pc' := 97) dX6_isLeafAlike_96 rfl rfl rfl ?_
        refine z_iadd (pc' := 98) dX6_isLeafAlike_97 rfl ?_
        refine z_iload (pc' := 100) dX6_isLeafAlike_98 rfl rfl ?_
        refine z_iadd (pc' := 101) dX6_isLeafAlike_100 rfl ?_
        obtain ⟨g1, hF⟩ := z_gde hF
        refine z_iaload (pc' := 102) (ar_6_f3 is_6_60) (z_inbe g1) dX6_isLeafAlike_101 rfl ?_
        refine z_topi (fun x2 ex2 => ?_)
        replace hF := z_lte hF x2 ex2
        refine z_iconst (v := 1) (pc' := 103) dX6_isLeafAlike_102 (by decide) rfl ?_
        refine z_icmp_ne (tgt := 122) (pc' := 106) dX6_isLeafAlike_103 (by decide) rfl (fun c7 => ?_) (fun c7 => ?_)
        · rw [if_neg c7] at hF
          refine z_wk (ls' := [some (.ref 60), none, some (.int v2), some (.int v3), none, some (.int v5)]) (z_lec rfl (z_len1 (z_lec rfl (z_lec rfl (z_len1 (z_lec rfl z_le0)))))) ?_
          exact (ok_X6_isLeafAlike_122 hst (ok_X6_isLeafAlike_159 hst (ok_X6_isLeafAlike_160 hst ih)) (ok_X6_isLeafAlike_160 hst ih)) _ _ _ _ hF
        · rw [if_pos c7] at hF
          refine z_aload_n (pc' := 107) dX6_isLeafAlike_106 rfl rfl rfl ?_
          refine z_sipush (v := 10764) (pc' := 110) dX6_isLeafAlike_107 (by decide) rfl ?_
          refine z_iload_n (pc' := 111) dX6_isLeafAlike_110 rfl rfl rfl ?_
          refine z_iadd (pc' := 112) dX6_isLeafAlike_111 rfl ?_
          refine z_iload (pc' := 114) dX6_isLeafAlike_112 rfl rfl ?_
          refine z_iadd (pc' := 115) dX6_isLeafAlike_114 rfl ?_
          refine z_iconst (v := 1) (pc' := 116) dX6_isLeafAlike_115 (by decide) rfl ?_
          obtain ⟨r3, S4, hc5, hF⟩ := z_bne hF
          refine k_X6_isAlike (F := 2) (L := 46) (pc' := 119) hc5 hst zw_150 rfl rfl (by decide) (by decide) (by decide) dX6_isLeafAlike_116 rfl ?_
          refine z_if_eq (tgt := 159) (pc' := 122) dX6_isLeafAlike_119 (by decide) rfl (fun c6 => ?_) (fun c6 => ?_)
          · rw [if_pos c6] at hF
            refine z_wk (ls' := [some (.ref 60), none, some (.int v2), some (.int v3), none, some (.int v5)]) (z_lec rfl (z_len1 (z_lec rfl (z_lec rfl (z_len1 (z_lec rfl z_le0)))))) ?_
            exact (ok_X6_isLeafAlike_159 hst (ok_X6_isLeafAlike_160 hst ih)) _ _ _ _ hF
          · rw [if_neg c6] at hF
            refine z_wk (ls' := [some (.ref 60), none, some (.int v2), some (.int v3), none, some (.int v5)]) (z_lec rfl (z_len1 (z_lec rfl (z_lec rfl (z_len1 (z_lec rfl z_le0)))))) ?_
            exact (ok_X6_isLeafAlike_122 hst (ok_X6_isLeafAlike_159 hst (ok_X6_isLeafAlike_160 hst ih)) (ok_X6_isLeafAlike_160 hst ih)) _ _ _ _ hF
def F_X6_isLeafAlike_73 (B : Nat)  (v2 : Int32) (v3 : Int32) (s0 : Int32) (S : z_S) : Option (z_O × z_S) :=
  F_X6_isLeafAlike_78 B z_n v2 v3 s0 0 S
set_option maxRecDepth 20000 in
set_option maxHeartbeats 16000000 in
theorem ok_X6_isLeafAlike_73 {l : Launch} {B : Nat} {q : z_O × z_S} (hst : l.stackTraces = false) : ∀ (v2 : Int32) (v3 : Int32) (s0 : Int32) (S : z_S), F_X6_isLeafAlike_73 B v2 v3 s0 S = some q → z_W l I_X6_isLeafAlike (R_X6_isLeafAlike q) B q 73 [some (.ref 60), none, some (.int v2), some (.int v3), none, none] [.int s0] S := by
  intro v2 v3 s0 S hF
  unfold F_X6_isLeafAlike_73 at hF
  refine z_istore (pc' := 75) dX6_isLeafAlike_73 (by decide) rfl rfl ?_
  refine z_iconst (v := 0) (pc' := 76) dX6_isLeafAlike_75 (by decide) rfl ?_
  refine z_istore (pc' := 78) dX6_isLeafAlike_76 (by decide) rfl rfl ?_
  refine z_wk (ls' := [some (.ref 60), none, some (.int v2), some (.int v3), some (.int s0), some (.int 0)]) (z_lec rfl (z_len1 (z_lec rfl (z_lec rfl (z_lec rfl (z_lec rfl z_le0)))))) ?_
  exact (ok_X6_isLeafAlike_78 hst z_n) _ _ _ _ _ hF
def F_X6_isLeafAlike_72 (B : Nat) (k73 : Int32 → Int32 → Int32 → z_S → Option (z_O × z_S)) (v2 : Int32) (v3 : Int32) (S : z_S) : Option (z_O × z_S) :=
  k73 v2 v3 0 S
set_option maxRecDepth 20000 in
set_option maxHeartbeats 16000000 in
theorem ok_X6_isLeafAlike_72 {l : Launch} {B : Nat} {q : z_O × z_S} (hst : l.stackTraces = false) {k73 : Int32 → Int32 → Int32 → z_S → Option (z_O × z_S)} (hk73 : ∀ (v2 : Int32) (v3 : Int32) (s0 : Int32) (S : z_S), k73 v2 v3 s0 S = some q → z_W l I_X6_isLeafAlike (R_X6_isLeafAlike q) B q 73 [some (.ref 60), none, some (.int v2), some (.int v3), none, none] [.int s0] S) : ∀ (v2 : Int32) (v3 : Int32) (S : z_S), F_X6_isLeafAlike_72 B k73 v2 v3 S = some q → z_W l I_X6_isLeafAlike (R_X6_isLeafAlike q) B q 72 [some (.ref 60), none, some (.int v2), some (.int v3), none, none] [] S := by
  intro v2 v3 S hF
  unfold F_X6_isLeafAlike_72 at hF
  refine z_iconst (v := 0) (pc' := 73) dX6_isLeafAlike_72 (by decide) rfl ?_
  refine z_wk (ls' := [some (.ref 60), none, some (.int v2), some (.int v3), none, none]) (z_lec rfl (z_len1 (z_lec rfl (z_lec rfl (z_len1 (z_len1 z_le0)))))) ?_
  exact hk73 _ _ _ _ hF
def F_X6_isLeafAlike (B : Nat) (p1 : Int32) (S : z_S) : Option (z_O × z_S) :=
  z_gd (z_inb (3852 + p1) 25366) (
  z_lt (S.1 61 (z_ix (3852 + p1))) fun x2 =>
  (z_bn (F_X6_isAlike B (4620 + (16 * p1)) x2 S) fun r3 S4 =>
  (if r3 = 0 then
    F_X6_isLeafAlike_72 B (F_X6_isLeafAlike_73 B ) (16 * p1) x2 S4
  else
    z_bn (F_X6_isAlike B (6156 + (16 * p1)) x2 S4) fun r6 S7 =>
    (if r6 = 0 then
      F_X6_isLeafAlike_72 B (F_X6_isLeafAlike_73 B ) (16 * p1) x2 S7
    else
      z_bn (F_X6_isAlike B (7692 + (16 * p1)) x2 S7) fun r9 S10 =>
      (if r9 = 0 then
        F_X6_isLeafAlike_72 B (F_X6_isLeafAlike_73 B ) (16 * p1) x2 S10
      else
        z_bn (F_X6_isAlike B (9228 + (16 * p1)) x2 S10) fun r12 S13 =>
        (if r12 = 0 then
          F_X6_isLeafAlike_72 B (F_X6_isLeafAlike_73 B ) (16 * p1) x2 S13
        else
          F_X6_isLeafAlike_73 B (16 * p1) x2 1 S13))))))
set_option maxRecDepth 20000 in
set_option maxHeartbeats 16000000 in
theorem c_X6_isLeafAlike {l : Launch} {B : Nat} {p1 : Int32} {S : z_S} {q : z_O × z_S} (hst : l.stackTraces = false) (hF : F_X6_isLeafAlike B p1 S = some q) : z_Met l I_X6_isLeafAlike 2 46 B [.ref 60, .int p1] S q.1 q.2 := by
  refine z_enter (ls := [some (.ref 60), some (.int p1), none, none, none, none]) (n := 4) (by decide) rfl (Nat.le_of_ble_eq_true rfl) hst ?_
  unfold F_X6_isLeafAlike at hF
  refine z_bipush (v := 16) (pc' := 2) dX6_isLeafAlike_0 (by decide) rfl ?_
  refine z_iload_n (pc' := 3) dX6_isLeafAlike_2 rfl rfl rfl ?_
  refine z_imul (pc' := 4) dX6_isLeafAlike_3 rfl ?_
  refine z_istore_n (pc' := 5) dX6_isLeafAlike_4 rfl (by decide) rfl rfl ?_
  refine z_aload_n (pc' := 6) dX6_isLeafAlike_5 rfl rfl rfl ?_
  refine gf_X6_7 (b := 61) (pc' := 9) rfl is_6_60 rfl dX6_isLeafAlike_6 rfl ?_
  refine z_sipush (v := 3852) (pc' := 12) dX6_isLeafAlike_9 (by decide) rfl ?_
  refine z_iload_n (pc' := 13) dX6_isLeafAlike_12 rfl rfl rfl ?_
  refine z_iadd (pc' := 14) dX6_isLeafAlike_13 rfl ?_
  obtain ⟨g1, hF⟩ := z_gde hF
  refine z_iaload (pc' := 15) (ar_6_f3 is_6_60) (z_inbe g1) dX6_isLeafAlike_14 rfl ?_
  refine z_topi (fun x2 ex2 => ?_)
  replace hF := z_lte hF x2 ex2
  refine z_istore_n (pc' := 16) dX6_isLeafAlike_15 rfl (by decide) rfl rfl ?_
  refine z_aload_n (pc' := 17) dX6_isLeafAlike_16 rfl rfl rfl ?_
  refine z_sipush (v := 4620) (pc' := 20) dX6_isLeafAlike_17 (by decide) rfl ?_
  refine z_iload_n (pc' := 21) dX6_isLeafAlike_20 rfl rfl rfl ?_
  refine z_iadd (pc' := 22) dX6_isLeafAlike_21 rfl ?_
  refine z_iload_n (pc' := 23) dX6_isLeafAlike_22 rfl rfl rfl ?_
  obtain ⟨r3, S4, hc5, hF⟩ := z_bne hF
  refine k_X6_isAlike (F := 2) (L := 46) (pc' := 26) hc5 hst zw_150 rfl rfl (by decide) (by decide) (by decide) dX6_isLeafAlike_23 rfl ?_
  refine z_if_eq (tgt := 72) (pc' := 29) dX6_isLeafAlike_26 (by decide) rfl (fun c18 => ?_) (fun c18 => ?_)
  · rw [if_pos c18] at hF
    refine z_wk (ls' := [some (.ref 60), none, some (.int (16 * p1)), some (.int x2), none, none]) (z_lec rfl (z_len1 (z_lec rfl (z_lec rfl (z_len1 (z_len1 z_le0)))))) ?_
    exact (ok_X6_isLeafAlike_72 hst (ok_X6_isLeafAlike_73 hst)) _ _ _ hF
  · rw [if_neg c18] at hF
    refine z_aload_n (pc' := 30) dX6_isLeafAlike_29 rfl rfl rfl ?_
    refine z_sipush (v := 6156) (pc' := 33) dX6_isLeafAlike_30 (by decide) rfl ?_
    refine z_iload_n (pc' := 34) dX6_isLeafAlike_33 rfl rfl rfl ?_
    refine z_iadd (pc' := 35) dX6_isLeafAlike_34 rfl ?_
    refine z_iload_n (pc' := 36) dX6_isLeafAlike_35 rfl rfl rfl ?_
    obtain ⟨r6, S7, hc8, hF⟩ := z_bne hF
    refine k_X6_isAlike (F := 2) (L := 46) (pc' := 39) hc8 hst zw_150 rfl rfl (by decide) (by decide) (by decide) dX6_isLeafAlike_36 rfl ?_
    refine z_if_eq (tgt := 72) (pc' := 42) dX6_isLeafAlike_39 (by decide) rfl (fun c17 => ?_) (fun c17 => ?_)
    · rw [if_pos c17] at hF
      refine z_wk (ls' := [some (.ref 60), none, some (.int (16 * p1)), some (.int x2), none, none]) (z_lec rfl (z_len1 (z_lec rfl (z_lec rfl (z_len1 (z_len1 z_le0)))))) ?_
      exact (ok_X6_isLeafAlike_72 hst (ok_X6_isLeafAlike_73 hst)) _ _ _ hF
    · rw [if_neg c17] at hF
      refine z_aload_n (pc' := 43) dX6_isLeafAlike_42 rfl rfl rfl ?_
      refine z_sipush (v := 7692) (pc' := 46) dX6_isLeafAlike_43 (by decide) rfl ?_
      refine z_iload_n (pc' := 47) dX6_isLeafAlike_46 rfl rfl rfl ?_
      refine z_iadd (pc' := 48) dX6_isLeafAlike_47 rfl ?_
      refine z_iload_n (pc' := 49) dX6_isLeafAlike_48 rfl rfl rfl ?_
      obtain ⟨r9, S10, hc11, hF⟩ := z_bne hF
      refine k_X6_isAlike (F := 2) (L := 46) (pc' := 52) hc11 hst zw_150 rfl rfl (by decide) (by decide) (by decide) dX6_isLeafAlike_49 rfl ?_
      refine z_if_eq (tgt := 72) (pc' := 55) dX6_isLeafAlike_52 (by decide) rfl (fun c16 => ?_) (fun c16 => ?_)
      · rw [if_pos c16] at hF
        refine z_wk (ls' := [some (.ref 60), none, some (.int (16 * p1)), some (.int x2), none, none]) (z_lec rfl (z_len1 (z_lec rfl (z_lec rfl (z_len1 (z_len1 z_le0)))))) ?_
        exact (ok_X6_isLeafAlike_72 hst (ok_X6_isLeafAlike_73 hst)) _ _ _ hF
      · rw [if_neg c16] at hF
        refine z_aload_n (pc' := 56) dX6_isLeafAlike_55 rfl rfl rfl ?_
        refine z_sipush (v := 9228) (pc' := 59) dX6_isLeafAlike_56 (by decide) rfl ?_
        refine z_iload_n (pc' := 60) dX6_isLeafAlike_59 rfl rfl rfl ?_
        refine z_iadd (pc' := 61) dX6_isLeafAlike_60 rfl ?_
        refine z_iload_n (pc' := 62) dX6_isLeafAlike_61 rfl rfl rfl ?_
        obtain ⟨r12, S13, hc14, hF⟩ := z_bne hF
        refine k_X6_isAlike (F := 2) (L := 46) (pc' := 65) hc14 hst zw_150 rfl rfl (by decide) (by decide) (by decide) dX6_isLeafAlike_62 rfl ?_
        refine z_if_eq (tgt := 72) (pc' := 68) dX6_isLeafAlike_65 (by decide) rfl (fun c15 => ?_) (fun c15 => ?_)
        · rw [if_pos c15] at hF
          refine z_wk (ls' := [some (.ref 60), none, some (.int (16 * p1)), some (.int x2), none, none]) (z_lec rfl (z_len1 (z_lec rfl (z_lec rfl (z_len1 (z_len1 z_le0)))))) ?_
          exact (ok_X6_isLeafAlike_72 hst (ok_X6_isLeafAlike_73 hst)) _ _ _ hF
        · rw [if_neg c15] at hF
          refine z_iconst (v := 1) (pc' := 69) dX6_isLeafAlike_68 (by decide) rfl ?_
          refine z_goto (pc' := 73) dX6_isLeafAlike_69 (by decide) ?_
          refine z_wk (ls' := [some (.ref 60), none, some (.int (16 * p1)), some (.int x2), none, none]) (z_lec rfl (z_len1 (z_lec rfl (z_lec rfl (z_len1 (z_len1 z_le0)))))) ?_
          exact (ok_X6_isLeafAlike_73 hst) _ _ _ _ hF
theorem ok_X6_isLeafAlike : z_okV I_X6_isLeafAlike 1 := ⟨⟨z_Gin (List.mem_of_getElem? (i := 1214) (by decide +kernel)) rfl, z_Gin (List.mem_of_getElem? (i := 81) (by decide +kernel)) rfl, z_Gin (List.mem_of_getElem? (i := 98) (by decide +kernel)) rfl, z_Gin (List.mem_of_getElem? (i := 1215) (by decide +kernel)) rfl⟩, by decide, by decide, by decide +kernel⟩
theorem k_X6_isLeafAlike {l : Launch} {I : z_I} {R : Room} {B : Nat} {p1 : Int32} {q : z_O × z_S} {pc pc' : Nat} {ls : List (Option Value)} {st : List Value} {S S1 : z_S} {idx F L : Nat} {r : Int32}  (hF : F_X6_isLeafAlike B p1 S = some (.inl (some r), S1)) (hst : l.stackTraces = false) (w : Cond.methodLink I.1.cls idx yX6_isLeafAlike ∈ z_G) (hRF : R.frames = F) (hRL : R.locals = L) (h1 : 3 ≤ F) (h2 : 71 ≤ L) (hs : (st.map fun v => v.category).sum ≤ 8) (d : decode I.2.1 pc = .ok (.invokevirtual idx, 3)) (hp : pc + 3 = pc') (k : z_W l I R B q pc' ls (.int r :: st) S1) : z_W l I R B q pc ls (.int p1 :: .ref 60 :: st) S := z_callV (Y := I_X6_isLeafAlike) (As := [.int p1]) (st := st) (r := (some r)) (S1 := S1) (c_X6_isLeafAlike (q := (.inl (some r), S1)) hst hF) ok_X6_isLeafAlike w (ci := 6) rfl is_6_60.1 is_6_60.2 rfl ⟨by rw [hRF]; exact h1, by rw [hRL]; exact h2⟩ hs d hp rfl k

abbrev I_X6_firstBelow : z_I := (yX6_firstBelow, cX6_firstBelow, 3, some .int)
abbrev R_X6_firstBelow (q : z_O × z_S) : Room := { frames := 0, locals := 0, cells := z_mc q.1, slots := 6 * z_mc q.1 }
def F_X6_firstBelow_2 (B : Nat) (a1 m1 : Nat)  : Nat → Int32 → z_S → Option (z_O × z_S)
  | 0, _, _ => none
  | n + 1, v2, S => z_gd (z_inb (3756 + v2) m1) (
  z_lt (S.1 a1 (z_ix (3756 + v2))) fun x2 =>
  (if x2 ≤ 1 then
    some (.inl (some (16 * v2)), S)
  else
    z_gd (z_inb (4044 + (6 * v2)) m1) (
    z_lt (S.1 a1 (z_ix (4044 + (6 * v2)))) fun x4 =>
    (F_X6_firstBelow_2 B a1 m1 n x4 S))))
set_option maxRecDepth 20000 in
set_option maxHeartbeats 16000000 in
theorem ok_X6_firstBelow_2 {l : Launch} {B : Nat} {a1 : Nat} {m1 : Nat} {q : z_O × z_S} (hst : l.stackTraces = false) (ha1 : z_arr B a1 0 m1) : ∀ (n : Nat) (v2 : Int32) (S : z_S), F_X6_firstBelow_2 B a1 m1 n v2 S = some q → z_W l I_X6_firstBelow (R_X6_firstBelow q) B q 2 [some (.ref a1), none, some (.int v2)] [] S := by
  intro n
  induction n with
  | zero => intro v2 S hF; cases hF
  | succ n ih =>
    intro v2 S hF
    rw [F_X6_firstBelow_2] at hF
    refine z_aload_n (pc' := 3) dX6_firstBelow_2 rfl rfl rfl ?_
    refine z_sipush (v := 3756) (pc' := 6) dX6_firstBelow_3 (by decide) rfl ?_
    refine z_iload_n (pc' := 7) dX6_firstBelow_6 rfl rfl rfl ?_
    refine z_iadd (pc' := 8) dX6_firstBelow_7 rfl ?_
    obtain ⟨g1, hF⟩ := z_gde hF
    refine z_iaload (pc' := 9) ha1 (z_inbe g1) dX6_firstBelow_8 rfl ?_
    refine z_topi (fun x2 ex2 => ?_)
    replace hF := z_lte hF x2 ex2
    refine z_iconst (v := 1) (pc' := 10) dX6_firstBelow_9 (by decide) rfl ?_
    refine z_icmp_le (tgt := 27) (pc' := 13) dX6_firstBelow_10 (by decide) rfl (fun c5 => ?_) (fun c5 => ?_)
    · rw [if_pos c5] at hF
      refine z_bipush (v := 16) (pc' := 29) dX6_firstBelow_27 (by decide) rfl ?_
      refine z_iload_n (pc' := 30) dX6_firstBelow_29 rfl rfl rfl ?_
      refine z_imul (pc' := 31) dX6_firstBelow_30 rfl ?_
      exact z_ireturn rfl dX6_firstBelow_31 (Option.some.inj hF).symm
    · rw [if_neg c5] at hF
      refine z_aload_n (pc' := 14) dX6_firstBelow_13 rfl rfl rfl ?_
      refine z_sipush (v := 4044) (pc' := 17) dX6_firstBelow_14 (by decide) rfl ?_
      refine z_bipush (v := 6) (pc' := 19) dX6_firstBelow_17 (by decide) rfl ?_
      refine z_iload_n (pc' := 20) dX6_firstBelow_19 rfl rfl rfl ?_
      refine z_imul (pc' := 21) dX6_firstBelow_20 rfl ?_
      refine z_iadd (pc' := 22) dX6_firstBelow_21 rfl ?_
      obtain ⟨g3, hF⟩ := z_gde hF
      refine z_iaload (pc' := 23) ha1 (z_inbe g3) dX6_firstBelow_22 rfl ?_
      refine z_topi (fun x4 ex4 => ?_)
      replace hF := z_lte hF x4 ex4
      refine z_istore_n (pc' := 24) dX6_firstBelow_23 rfl (by decide) rfl rfl ?_
      refine z_goto (pc' := 2) dX6_firstBelow_24 (by decide) ?_
      refine z_wk (ls' := [some (.ref a1), none, some (.int x4)]) (z_lec rfl (z_len1 (z_lec rfl z_le0))) ?_
      exact ih _ _ hF
def F_X6_firstBelow (B : Nat) (a1 m1 : Nat) (p1 : Int32) (S : z_S) : Option (z_O × z_S) :=
  F_X6_firstBelow_2 B a1 m1 z_n p1 S
set_option maxRecDepth 20000 in
set_option maxHeartbeats 16000000 in
theorem c_X6_firstBelow {l : Launch} {B : Nat} {a1 : Nat} {m1 : Nat} {p1 : Int32} {S : z_S} {q : z_O × z_S} (hst : l.stackTraces = false) (ha1 : z_arr B a1 0 m1) (hF : F_X6_firstBelow B a1 m1 p1 S = some q) : z_Met l I_X6_firstBelow 0 0 B [.ref a1, .int p1] S q.1 q.2 := by
  refine z_enter (ls := [some (.ref a1), some (.int p1), none]) (n := 1) (by decide) rfl (Nat.le_of_ble_eq_true rfl) hst ?_
  unfold F_X6_firstBelow at hF
  refine z_iload_n (pc' := 1) dX6_firstBelow_0 rfl rfl rfl ?_
  refine z_istore_n (pc' := 2) dX6_firstBelow_1 rfl (by decide) rfl rfl ?_
  refine z_wk (ls' := [some (.ref a1), none, some (.int p1)]) (z_lec rfl (z_len1 (z_lec rfl z_le0))) ?_
  exact (ok_X6_firstBelow_2 hst ha1 z_n) _ _ hF
theorem ok_X6_firstBelow : z_okS I_X6_firstBelow 2 := ⟨⟨z_Gin (List.mem_of_getElem? (i := 1225) (by decide +kernel)) rfl, z_Gin (List.mem_of_getElem? (i := 98) (by decide +kernel)) rfl, z_Gin (List.mem_of_getElem? (i := 1226) (by decide +kernel)) rfl⟩, by decide, by decide, by decide +kernel⟩
theorem k_X6_firstBelow {l : Launch} {I : z_I} {R : Room} {B : Nat} {a1 : Nat} {m1 : Nat} {p1 : Int32} {q : z_O × z_S} {pc pc' : Nat} {ls : List (Option Value)} {st : List Value} {S S1 : z_S} {idx F L : Nat} {r : Int32} (ha1 : z_arr B a1 0 m1) (hF : F_X6_firstBelow B a1 m1 p1 S = some (.inl (some r), S1)) (hst : l.stackTraces = false) (w : Cond.methodLink I.1.cls idx yX6_firstBelow ∈ z_G) (hRF : R.frames = F) (hRL : R.locals = L) (h1 : 1 ≤ F) (h2 : 22 ≤ L) (hs : (st.map fun v => v.category).sum ≤ 8) (d : decode I.2.1 pc = .ok (.invokestatic idx, 3)) (hp : pc + 3 = pc') (k : z_W l I R B q pc' ls (.int r :: st) S1) : z_W l I R B q pc ls (.int p1 :: .ref a1 :: st) S := z_callS (Y := I_X6_firstBelow) (As := [.ref a1, .int p1]) (st := st) (r := (some r)) (S1 := S1) (c_X6_firstBelow (q := (.inl (some r), S1)) hst ha1 hF) ok_X6_firstBelow w rfl ⟨by rw [hRF]; exact h1, by rw [hRL]; exact h2⟩ hs d hp rfl k

abbrev I_X6_isInnerAlike : z_I := (yX6_isInnerAlike, cX6_isInnerAlike, 7, some .boolean)
abbrev R_X6_isInnerAlike (q : z_O × z_S) : Room := { frames := 1, locals := 24, cells := z_mc q.1, slots := 6 * z_mc q.1 }
def F_X6_isInnerAlike_175 (B : Nat)  (v3 : Int32) (S : z_S) : Option (z_O × z_S) :=
  z_gd (z_b01 v3) (some (.inl (some v3), S))
set_option maxRecDepth 20000 in
set_option maxHeartbeats 16000000 in
theorem ok_X6_isInnerAlike_175 {l : Launch} {B : Nat} {q : z_O × z_S} (hst : l.stackTraces = false) : ∀ (v3 : Int32) (S : z_S), F_X6_isInnerAlike_175 B v3 S = some q → z_W l I_X6_isInnerAlike (R_X6_isInnerAlike q) B q 175 [none, none, none, some (.int v3), none, none, none] [] S := by
  intro v3 S hF
  unfold F_X6_isInnerAlike_175 at hF
  refine z_iload_n (pc' := 176) dX6_isInnerAlike_175 rfl rfl rfl ?_
  obtain ⟨g1, hF⟩ := z_gde hF
  exact z_zreturn rfl (z_b01e g1) dX6_isInnerAlike_176 (Option.some.inj hF).symm
def F_X6_isInnerAlike_168 (B : Nat) (k28 : Int32 → Int32 → Int32 → Int32 → z_S → Option (z_O × z_S)) (v1 : Int32) (v2 : Int32) (v4 : Int32) (s0 : Int32) (S : z_S) : Option (z_O × z_S) :=
  k28 v1 v2 s0 (v4 + 1) S
set_option maxRecDepth 20000 in
set_option maxHeartbeats 16000000 in
theorem ok_X6_isInnerAlike_168 {l : Launch} {B : Nat} {q : z_O × z_S} (hst : l.stackTraces = false) {k28 : Int32 → Int32 → Int32 → Int32 → z_S → Option (z_O × z_S)} (hk28 : ∀ (v1 : Int32) (v2 : Int32) (v3 : Int32) (v4 : Int32) (S : z_S), k28 v1 v2 v3 v4 S = some q → z_W l I_X6_isInnerAlike (R_X6_isInnerAlike q) B q 28 [some (.ref 60), some (.int v1), some (.int v2), some (.int v3), some (.int v4), none, none] [] S) : ∀ (v1 : Int32) (v2 : Int32) (v4 : Int32) (s0 : Int32) (S : z_S), F_X6_isInnerAlike_168 B k28 v1 v2 v4 s0 S = some q → z_W l I_X6_isInnerAlike (R_X6_isInnerAlike q) B q 168 [some (.ref 60), some (.int v1), some (.int v2), none, some (.int v4), none, none] [.int s0] S := by
  intro v1 v2 v4 s0 S hF
  unfold F_X6_isInnerAlike_168 at hF
  refine z_istore_n (pc' := 169) dX6_isInnerAlike_168 rfl (by decide) rfl rfl ?_
  refine z_iinc (v := v4 + 1) (pc' := 172) dX6_isInnerAlike_169 rfl rfl (by decide) rfl rfl ?_
  refine z_goto (pc' := 28) dX6_isInnerAlike_172 (by decide) ?_
  refine z_wk (ls' := [some (.ref 60), some (.int v1), some (.int v2), some (.int s0), some (.int (v4 + 1)), none, none]) (z_lec rfl (z_lec rfl (z_lec rfl (z_lec rfl (z_lec rfl (z_len1 (z_len1 z_le0))))))) ?_
  exact hk28 _ _ _ _ _ hF
def F_X6_isInnerAlike_167 (B : Nat) (k168 : Int32 → Int32 → Int32 → Int32 → z_S → Option (z_O × z_S)) (v1 : Int32) (v2 : Int32) (v4 : Int32) (S : z_S) : Option (z_O × z_S) :=
  k168 v1 v2 v4 0 S
set_option maxRecDepth 20000 in
set_option maxHeartbeats 16000000 in
theorem ok_X6_isInnerAlike_167 {l : Launch} {B : Nat} {q : z_O × z_S} (hst : l.stackTraces = false) {k168 : Int32 → Int32 → Int32 → Int32 → z_S → Option (z_O × z_S)} (hk168 : ∀ (v1 : Int32) (v2 : Int32) (v4 : Int32) (s0 : Int32) (S : z_S), k168 v1 v2 v4 s0 S = some q → z_W l I_X6_isInnerAlike (R_X6_isInnerAlike q) B q 168 [some (.ref 60), some (.int v1), some (.int v2), none, some (.int v4), none, none] [.int s0] S) : ∀ (v1 : Int32) (v2 : Int32) (v4 : Int32) (S : z_S), F_X6_isInnerAlike_167 B k168 v1 v2 v4 S = some q → z_W l I_X6_isInnerAlike (R_X6_isInnerAlike q) B q 167 [some (.ref 60), some (.int v1), some (.int v2), none, some (.int v4), none, none] [] S := by
  intro v1 v2 v4 S hF
  unfold F_X6_isInnerAlike_167 at hF
  refine z_iconst (v := 0) (pc' := 168) dX6_isInnerAlike_167 (by decide) rfl ?_
  refine z_wk (ls' := [some (.ref 60), some (.int v1), some (.int v2), none, some (.int v4), none, none]) (z_lec rfl (z_lec rfl (z_lec rfl (z_len1 (z_lec rfl (z_len1 (z_len1 z_le0))))))) ?_
  exact hk168 _ _ _ _ _ hF
def F_X6_isInnerAlike_28 (B : Nat)  : Nat → Int32 → Int32 → Int32 → Int32 → z_S → Option (z_O × z_S)
  | 0, _, _, _, _, _ => none
  | n + 1, v1, v2, v3, v4, S => if v2 ≤ v4 then
    F_X6_isInnerAlike_175 B v3 S
  else
    if v3 = 0 then
      F_X6_isInnerAlike_175 B v3 S
    else
      z_gd (z_inb ((4044 + (6 * v1)) + v4) 25366) (
      z_lt (S.1 61 (z_ix ((4044 + (6 * v1)) + v4))) fun x2 =>
      (z_bn (F_X6_firstBelow B 61 25366 x2 S) fun r3 S4 =>
      (z_gd (z_inb ((4044 + (6 * v1)) + v4) 25366) (
      z_lt (S4.1 63 (z_ix ((4044 + (6 * v1)) + v4))) fun x7 =>
      (z_bn (F_X6_firstBelow B 63 25366 x7 S4) fun r8 S9 =>
      (z_gd (z_inb (4620 + r3) 25366) (
      z_lt (S9.1 61 (z_ix (4620 + r3))) fun x12 =>
      (z_gd (z_inb (4620 + r8) 25366) (
      z_lt (S9.1 63 (z_ix (4620 + r8))) fun x14 =>
      (if x12 = x14 then
        z_gd (z_inb (6156 + r3) 25366) (
        z_lt (S9.1 61 (z_ix (6156 + r3))) fun x16 =>
        (z_gd (z_inb (6156 + r8) 25366) (
        z_lt (S9.1 63 (z_ix (6156 + r8))) fun x18 =>
        (if x16 = x18 then
          z_gd (z_inb (7692 + r3) 25366) (
          z_lt (S9.1 61 (z_ix (7692 + r3))) fun x20 =>
          (z_gd (z_inb (7692 + r8) 25366) (
          z_lt (S9.1 63 (z_ix (7692 + r8))) fun x22 =>
          (if x20 = x22 then
            F_X6_isInnerAlike_168 B (F_X6_isInnerAlike_28 B n) v1 v2 v4 1 S9
          else
            F_X6_isInnerAlike_167 B (F_X6_isInnerAlike_168 B (F_X6_isInnerAlike_28 B n) ) v1 v2 v4 S9))))
        else
          F_X6_isInnerAlike_167 B (F_X6_isInnerAlike_168 B (F_X6_isInnerAlike_28 B n) ) v1 v2 v4 S9))))
      else
        F_X6_isInnerAlike_167 B (F_X6_isInnerAlike_168 B (F_X6_isInnerAlike_28 B n) ) v1 v2 v4 S9))))))))))
set_option maxRecDepth 20000 in
set_option maxHeartbeats 16000000 in
theorem ok_X6_isInnerAlike_28 {l : Launch} {B : Nat} {q : z_O × z_S} (hst : l.stackTraces = false) : ∀ (n : Nat) (v1 : Int32) (v2 : Int32) (v3 : Int32) (v4 : Int32) (S : z_S), F_X6_isInnerAlike_28 B n v1 v2 v3 v4 S = some q → z_W l I_X6_isInnerAlike (R_X6_isInnerAlike q) B q 28 [some (.ref 60), some (.int v1), some (.int v2), some (.int v3), some (.int v4), none, none] [] S := by
  intro n
  induction n with
  | zero => intro v1 v2 v3 v4 S hF; cases hF
  | succ n ih =>
    intro v1 v2 v3 v4 S hF
    rw [F_X6_isInnerAlike_28] at hF
    refine z_iload (pc' := 30) dX6_isInnerAlike_28 rfl rfl ?_
    refine z_iload_n (pc' := 31) dX6_isInnerAlike_30 rfl rfl rfl ?_
    refine z_icmp_ge (tgt := 175) (pc' := 34) dX6_isInnerAlike_31 (by decide) rfl (fun c27 => ?_) (fun c27 => ?_)
    · rw [if_pos c27] at hF
      refine z_wk (ls' := [none, none, none, some (.int v3), none, none, none]) (z_len1 (z_len1 (z_len1 (z_lec rfl (z_len1 (z_len1 (z_len1 z_le0))))))) ?_
      exact (ok_X6_isInnerAlike_175 hst) _ _ hF
    · rw [if_neg c27] at hF
      refine z_iload_n (pc' := 35) dX6_isInnerAlike_34 rfl rfl rfl ?_
      refine z_if_eq (tgt := 175) (pc' := 38) dX6_isInnerAlike_35 (by decide) rfl (fun c26 => ?_) (fun c26 => ?_)
      · rw [if_pos c26] at hF
        refine z_wk (ls' := [none, none, none, some (.int v3), none, none, none]) (z_len1 (z_len1 (z_len1 (z_lec rfl (z_len1 (z_len1 (z_len1 z_le0))))))) ?_
        exact (ok_X6_isInnerAlike_175 hst) _ _ hF
      · rw [if_neg c26] at hF
        refine z_aload_n (pc' := 39) dX6_isInnerAlike_38 rfl rfl rfl ?_
        refine gf_X6_7 (b := 61) (pc' := 42) rfl is_6_60 rfl dX6_isInnerAlike_39 rfl ?_
        refine z_aload_n (pc' := 43) dX6_isInnerAlike_42 rfl rfl rfl ?_
        refine gf_X6_7 (b := 61) (pc' := 46) rfl is_6_60 rfl dX6_isInnerAlike_43 rfl ?_
        refine z_sipush (v := 4044) (pc' := 49) dX6_isInnerAlike_46 (by decide) rfl ?_
        refine z_bipush (v := 6) (pc' := 51) dX6_isInnerAlike_49 (by decide) rfl ?_
        refine z_iload_n (pc' := 52) dX6_isInnerAlike_51 rfl rfl rfl ?_
        refine z_imul (pc' := 53) dX6_isInnerAlike_52 rfl ?_
        refine z_iadd (pc' := 54) dX6_isInnerAlike_53 rfl ?_
        refine z_iload (pc' := 56) dX6_isInnerAlike_54 rfl rfl ?_
        refine z_iadd (pc' := 57) dX6_isInnerAlike_56 rfl ?_
        obtain ⟨g1, hF⟩ := z_gde hF
        refine z_iaload (pc' := 58) (ar_6_f3 is_6_60) (z_inbe g1) dX6_isInnerAlike_57 rfl ?_
        refine z_topi (fun x2 ex2 => ?_)
        replace hF := z_lte hF x2 ex2
        obtain ⟨r3, S4, hc5, hF⟩ := z_bne hF
        refine k_X6_firstBelow (F := 1) (L := 24) (pc' := 61) (ar_6_f3 is_6_60) hc5 hst zw_152 rfl rfl (by decide) (by decide) (by decide) dX6_isInnerAlike_58 rfl ?_
        refine z_istore (pc' := 63) dX6_isInnerAlike_61 (by decide) rfl rfl ?_
        refine z_aload_n (pc' := 64) dX6_isInnerAlike_63 rfl rfl rfl ?_
        refine gf_X6_16 (b := 63) (pc' := 67) rfl is_6_60 rfl dX6_isInnerAlike_64 rfl ?_
        refine z_aload_n (pc' := 68) dX6_isInnerAlike_67 rfl rfl rfl ?_
        refine gf_X6_16 (b := 63) (pc' := 71) rfl is_6_60 rfl dX6_isInnerAlike_68 rfl ?_
        refine z_sipush (v := 4044) (pc' := 74) dX6_isInnerAlike_71 (by decide) rfl ?_
        refine z_bipush (v := 6) (pc' := 76) dX6_isInnerAlike_74 (by decide) rfl ?_
        refine z_iload_n (pc' := 77) dX6_isInnerAlike_76 rfl rfl rfl ?_
        refine z_imul (pc' := 78) dX6_isInnerAlike_77 rfl ?_
        refine z_iadd (pc' := 79) dX6_isInnerAlike_78 rfl ?_
        refine z_iload (pc' := 81) dX6_isInnerAlike_79 rfl rfl ?_
        refine z_iadd (pc' := 82) dX6_isInnerAlike_81 rfl ?_
        obtain ⟨g6, hF⟩ := z_gde hF
        refine z_iaload (pc' := 83) (ar_6_f5 is_6_60) (z_inbe g6) dX6_isInnerAlike_82 rfl ?_
        refine z_topi (fun x7 ex7 => ?_)
        replace hF := z_lte hF x7 ex7
        obtain ⟨r8, S9, hc10, hF⟩ := z_bne hF
        refine k_X6_firstBelow (F := 1) (L := 24) (pc' := 86) (ar_6_f5 is_6_60) hc10 hst zw_152 rfl rfl (by decide) (by decide) (by decide) dX6_isInnerAlike_83 rfl ?_
        refine z_istore (pc' := 88) dX6_isInnerAlike_86 (by decide) rfl rfl ?_
        refine z_aload_n (pc' := 89) dX6_isInnerAlike_88 rfl rfl rfl ?_
        refine gf_X6_7 (b := 61) (pc' := 92) rfl is_6_60 rfl dX6_isInnerAlike_89 rfl ?_
        refine z_sipush (v := 4620) (pc' := 95) dX6_isInnerAlike_92 (by decide) rfl ?_
        refine z_iload (pc' := 97) dX6_isInnerAlike_95 rfl rfl ?_
        refine z_iadd (pc' := 98) dX6_isInnerAlike_97 rfl ?_
        obtain ⟨g11, hF⟩ := z_gde hF
        refine z_iaload (pc' := 99) (ar_6_f3 is_6_60) (z_inbe g11) dX6_isInnerAlike_98 rfl ?_
        refine z_topi (fun x12 ex12 => ?_)
        replace hF := z_lte hF x12 ex12
        refine z_aload_n (pc' := 100) dX6_isInnerAlike_99 rfl rfl rfl ?_
        refine gf_X6_16 (b := 63) (pc' := 103) rfl is_6_60 rfl dX6_isInnerAlike_100 rfl ?_
        refine z_sipush (v := 4620) (pc' := 106) dX6_isInnerAlike_103 (by decide) rfl ?_
        refine z_iload (pc' := 108) dX6_isInnerAlike_106 rfl rfl ?_
        refine z_iadd (pc' := 109) dX6_isInnerAlike_108 rfl ?_
        obtain ⟨g13, hF⟩ := z_gde hF
        refine z_iaload (pc' := 110) (ar_6_f5 is_6_60) (z_inbe g13) dX6_isInnerAlike_109 rfl ?_
        refine z_topi (fun x14 ex14 => ?_)
        replace hF := z_lte hF x14 ex14
        refine z_icmp_ne (tgt := 167) (pc' := 113) dX6_isInnerAlike_110 (by decide) rfl (fun c25 => ?_) (fun c25 => ?_)
        · rw [if_neg c25] at hF
          refine z_wk (ls' := [some (.ref 60), some (.int v1), some (.int v2), none, some (.int v4), none, none]) (z_lec rfl (z_lec rfl (z_lec rfl (z_len1 (z_lec rfl (z_len1 (z_len1 z_le0))))))) ?_
          exact (ok_X6_isInnerAlike_167 hst (ok_X6_isInnerAlike_168 hst ih)) _ _ _ _ hF
        · rw [if_pos c25] at hF
          refine z_aload_n (pc' := 114) dX6_isInnerAlike_113 rfl rfl rfl ?_
          refine gf_X6_7 (b := 61) (pc' := 117) rfl is_6_60 rfl dX6_isInnerAlike_114 rfl ?_
          refine z_sipush (v := 6156) (pc' := 120) dX6_isInnerAlike_117 (by decide) rfl ?_
          refine z_iload (pc' := 122) dX6_isInnerAlike_120 rfl rfl ?_
          refine z_iadd (pc' := 123) dX6_isInnerAlike_122 rfl ?_
          obtain ⟨g15, hF⟩ := z_gde hF
          refine z_iaload (pc' := 124) (ar_6_f3 is_6_60) (z_inbe g15) dX6_isInnerAlike_123 rfl ?_
          refine z_topi (fun x16 ex16 => ?_)
          replace hF := z_lte hF x16 ex16
          refine z_aload_n (pc' := 125) dX6_isInnerAlike_124 rfl rfl rfl ?_
          refine gf_X6_16 (b := 63) (pc' := 128) rfl is_6_60 rfl dX6_isInnerAlike_125 rfl ?_
          refine z_sipush (v := 6156) (pc' := 131) dX6_isInnerAlike_128 (by decide) rfl ?_
          refine z_iload (pc' := 133) dX6_isInnerAlike_131 rfl rfl ?_
          refine z_iadd (pc' := 134) dX6_isInnerAlike_133 rfl ?_
          obtain ⟨g17, hF⟩ := z_gde hF
          refine z_iaload (pc' := 135) (ar_6_f5 is_6_60) (z_inbe g17) dX6_isInnerAlike_134 rfl ?_
          refine z_topi (fun x18 ex18 => ?_)
          replace hF := z_lte hF x18 ex18
          refine z_icmp_ne (tgt := 167) (pc' := 138) dX6_isInnerAlike_135 (by decide) rfl (fun c24 => ?_) (fun c24 => ?_)
          · rw [if_neg c24] at hF
            refine z_wk (ls' := [some (.ref 60), some (.int v1), some (.int v2), none, some (.int v4), none, none]) (z_lec rfl (z_lec rfl (z_lec rfl (z_len1 (z_lec rfl (z_len1 (z_len1 z_le0))))))) ?_
            exact (ok_X6_isInnerAlike_167 hst (ok_X6_isInnerAlike_168 hst ih)) _ _ _ _ hF
          · rw [if_pos c24] at hF
            refine z_aload_n (pc' := 139) dX6_isInnerAlike_138 rfl rfl rfl ?_
            refine gf_X6_7 (b := 61) (pc' := 142) rfl is_6_60 rfl dX6_isInnerAlike_139 rfl ?_
            refine z_sipush (v := 7692) (pc' := 145) dX6_isInnerAlike_142 (by decide) rfl ?_
            refine z_iload (pc' := 147) dX6_isInnerAlike_145 rfl rfl ?_
            refine z_iadd (pc' := 148) dX6_isInnerAlike_147 rfl ?_
            obtain ⟨g19, hF⟩ := z_gde hF
            refine z_iaload (pc' := 149) (ar_6_f3 is_6_60) (z_inbe g19) dX6_isInnerAlike_148 rfl ?_
            refine z_topi (fun x20 ex20 => ?_)
            replace hF := z_lte hF x20 ex20
            refine z_aload_n (pc' := 150) dX6_isInnerAlike_149 rfl rfl rfl ?_
            refine gf_X6_16 (b := 63) (pc' := 153) rfl is_6_60 rfl dX6_isInnerAlike_150 rfl ?_
            refine z_sipush (v := 7692) (pc' := 156) dX6_isInnerAlike_153 (by decide) rfl ?_
            refine z_iload (pc' := 158) dX6_isInnerAlike_156 rfl rfl ?_
            refine z_iadd (pc' := 159) dX6_isInnerAlike_158 rfl ?_
            obtain ⟨g21, hF⟩ := z_gde hF
            refine z_iaload (pc' := 160) (ar_6_f5 is_6_60) (z_inbe g21) dX6_isInnerAlike_159 rfl ?_
            refine z_topi (fun x22 ex22 => ?_)
            replace hF := z_lte hF x22 ex22
            refine z_icmp_ne (tgt := 167) (pc' := 163) dX6_isInnerAlike_160 (by decide) rfl (fun c23 => ?_) (fun c23 => ?_)
            · rw [if_neg c23] at hF
              refine z_wk (ls' := [some (.ref 60), some (.int v1), some (.int v2), none, some (.int v4), none, none]) (z_lec rfl (z_lec rfl (z_lec rfl (z_len1 (z_lec rfl (z_len1 (z_len1 z_le0))))))) ?_
              exact (ok_X6_isInnerAlike_167 hst (ok_X6_isInnerAlike_168 hst ih)) _ _ _ _ hF
            · rw [if_pos c23] at hF
              refine z_iconst (v := 1) (pc' := 164) dX6_isInnerAlike_163 (by decide) rfl ?_
              refine z_goto (pc' := 168) dX6_isInnerAlike_164 (by decide) ?_
              refine z_wk (ls' := [some (.ref 60), some (.int v1), some (.int v2), none, some (.int v4), none, none]) (z_lec rfl (z_lec rfl (z_lec rfl (z_len1 (z_lec rfl (z_len1 (z_len1 z_le0))))))) ?_
              exact (ok_X6_isInnerAlike_168 hst ih) _ _ _ _ _ hF
def F_X6_isInnerAlike (B : Nat) (p1 : Int32) (S : z_S) : Option (z_O × z_S) :=
  z_gd (z_inb (3852 + p1) 25366) (
  z_lt (S.1 61 (z_ix (3852 + p1))) fun x2 =>
  (z_bn (F_X6_isAlike B (4044 + (6 * p1)) x2 S) fun r3 S4 =>
  (F_X6_isInnerAlike_28 B z_n p1 x2 r3 0 S4)))
set_option maxRecDepth 20000 in
set_option maxHeartbeats 16000000 in
theorem c_X6_isInnerAlike {l : Launch} {B : Nat} {p1 : Int32} {S : z_S} {q : z_O × z_S} (hst : l.stackTraces = false) (hF : F_X6_isInnerAlike B p1 S = some q) : z_Met l I_X6_isInnerAlike 1 24 B [.ref 60, .int p1] S q.1 q.2 := by
  refine z_enter (ls := [some (.ref 60), some (.int p1), none, none, none, none, none]) (n := 5) (by decide) rfl (Nat.le_of_ble_eq_true rfl) hst ?_
  unfold F_X6_isInnerAlike at hF
  refine z_aload_n (pc' := 1) dX6_isInnerAlike_0 rfl rfl rfl ?_
  refine gf_X6_7 (b := 61) (pc' := 4) rfl is_6_60 rfl dX6_isInnerAlike_1 rfl ?_
  refine z_sipush (v := 3852) (pc' := 7) dX6_isInnerAlike_4 (by decide) rfl ?_
  refine z_iload_n (pc' := 8) dX6_isInnerAlike_7 rfl rfl rfl ?_
  refine z_iadd (pc' := 9) dX6_isInnerAlike_8 rfl ?_
  obtain ⟨g1, hF⟩ := z_gde hF
  refine z_iaload (pc' := 10) (ar_6_f3 is_6_60) (z_inbe g1) dX6_isInnerAlike_9 rfl ?_
  refine z_topi (fun x2 ex2 => ?_)
  replace hF := z_lte hF x2 ex2
  refine z_istore_n (pc' := 11) dX6_isInnerAlike_10 rfl (by decide) rfl rfl ?_
  refine z_aload_n (pc' := 12) dX6_isInnerAlike_11 rfl rfl rfl ?_
  refine z_sipush (v := 4044) (pc' := 15) dX6_isInnerAlike_12 (by decide) rfl ?_
  refine z_bipush (v := 6) (pc' := 17) dX6_isInnerAlike_15 (by decide) rfl ?_
  refine z_iload_n (pc' := 18) dX6_isInnerAlike_17 rfl rfl rfl ?_
  refine z_imul (pc' := 19) dX6_isInnerAlike_18 rfl ?_
  refine z_iadd (pc' := 20) dX6_isInnerAlike_19 rfl ?_
  refine z_iload_n (pc' := 21) dX6_isInnerAlike_20 rfl rfl rfl ?_
  obtain ⟨r3, S4, hc5, hF⟩ := z_bne hF
  refine k_X6_isAlike (F := 1) (L := 24) (pc' := 24) hc5 hst zw_150 rfl rfl (by decide) (by decide) (by decide) dX6_isInnerAlike_21 rfl ?_
  refine z_istore_n (pc' := 25) dX6_isInnerAlike_24 rfl (by decide) rfl rfl ?_
  refine z_iconst (v := 0) (pc' := 26) dX6_isInnerAlike_25 (by decide) rfl ?_
  refine z_istore (pc' := 28) dX6_isInnerAlike_26 (by decide) rfl rfl ?_
  refine z_wk (ls' := [some (.ref 60), some (.int p1), some (.int x2), some (.int r3), some (.int 0), none, none]) (z_lec rfl (z_lec rfl (z_lec rfl (z_lec rfl (z_lec rfl (z_len1 (z_len1 z_le0))))))) ?_
  exact (ok_X6_isInnerAlike_28 hst z_n) _ _ _ _ _ hF
theorem ok_X6_isInnerAlike : z_okV I_X6_isInnerAlike 1 := ⟨⟨z_Gin (List.mem_of_getElem? (i := 1222) (by decide +kernel)) rfl, z_Gin (List.mem_of_getElem? (i := 83) (by decide +kernel)) rfl, z_Gin (List.mem_of_getElem? (i := 98) (by decide +kernel)) rfl, z_Gin (List.mem_of_getElem? (i := 1223) (by decide +kernel)) rfl⟩, by decide, by decide, by decide +kernel⟩
theorem k_X6_isInnerAlike {l : Launch} {I : z_I} {R : Room} {B : Nat} {p1 : Int32} {q : z_O × z_S} {pc pc' : Nat} {ls : List (Option Value)} {st : List Value} {S S1 : z_S} {idx F L : Nat} {r : Int32}  (hF : F_X6_isInnerAlike B p1 S = some (.inl (some r), S1)) (hst : l.stackTraces = false) (w : Cond.methodLink I.1.cls idx yX6_isInnerAlike ∈ z_G) (hRF : R.frames = F) (hRL : R.locals = L) (h1 : 2 ≤ F) (h2 : 50 ≤ L) (hs : (st.map fun v => v.category).sum ≤ 8) (d : decode I.2.1 pc = .ok (.invokevirtual idx, 3)) (hp : pc + 3 = pc') (k : z_W l I R B q pc' ls (.int r :: st) S1) : z_W l I R B q pc ls (.int p1 :: .ref 60 :: st) S := z_callV (Y := I_X6_isInnerAlike) (As := [.int p1]) (st := st) (r := (some r)) (S1 := S1) (c_X6_isInnerAlike (q := (.inl (some r), S1)) hst hF) ok_X6_isInnerAlike w (ci := 6) rfl is_6_60.1 is_6_60.2 rfl ⟨by rw [hRF]; exact h1, by rw [hRL]; exact h2⟩ hs d hp rfl k

abbrev I_X6_isChanged : z_I := (yX6_isChanged, cX6_isChanged, 2, some .boolean)
abbrev R_X6_isChanged (q : z_O × z_S) : Room := { frames := 3, locals := 71, cells := z_mc q.1, slots := 6 * z_mc q.1 }
def F_X6_isChanged_159 (B : Nat)  (s0 : Int32) (S : z_S) : Option (z_O × z_S) :=
  z_gd (z_b01 s0) (some (.inl (some s0), S))
set_option maxRecDepth 20000 in
set_option maxHeartbeats 16000000 in
theorem ok_X6_isChanged_159 {l : Launch} {B : Nat} {q : z_O × z_S} (hst : l.stackTraces = false) : ∀ (s0 : Int32) (S : z_S), F_X6_isChanged_159 B s0 S = some q → z_W l I_X6_isChanged (R_X6_isChanged q) B q 159 [none, none] [.int s0] S := by
  intro s0 S hF
  unfold F_X6_isChanged_159 at hF
  obtain ⟨g1, hF⟩ := z_gde hF
  exact z_zreturn rfl (z_b01e g1) dX6_isChanged_159 (Option.some.inj hF).symm
def F_X6_isChanged_158 (B : Nat) (k159 : Int32 → z_S → Option (z_O × z_S))  (S : z_S) : Option (z_O × z_S) :=
  k159 0 S
set_option maxRecDepth 20000 in
set_option maxHeartbeats 16000000 in
theorem ok_X6_isChanged_158 {l : Launch} {B : Nat} {q : z_O × z_S} (hst : l.stackTraces = false) {k159 : Int32 → z_S → Option (z_O × z_S)} (hk159 : ∀ (s0 : Int32) (S : z_S), k159 s0 S = some q → z_W l I_X6_isChanged (R_X6_isChanged q) B q 159 [none, none] [.int s0] S) : ∀ (S : z_S), F_X6_isChanged_158 B k159 S = some q → z_W l I_X6_isChanged (R_X6_isChanged q) B q 158 [none, none] [] S := by
  intro S hF
  unfold F_X6_isChanged_158 at hF
  refine z_iconst (v := 0) (pc' := 159) dX6_isChanged_158 (by decide) rfl ?_
  refine z_wk (ls' := [none, none]) (z_len1 (z_len1 z_le0)) ?_
  exact hk159 _ _ hF
def F_X6_isChanged_154 (B : Nat) (k159 : Int32 → z_S → Option (z_O × z_S))  (S : z_S) : Option (z_O × z_S) :=
  k159 1 S
set_option maxRecDepth 20000 in
set_option maxHeartbeats 16000000 in
theorem ok_X6_isChanged_154 {l : Launch} {B : Nat} {q : z_O × z_S} (hst : l.stackTraces = false) {k159 : Int32 → z_S → Option (z_O × z_S)} (hk159 : ∀ (s0 : Int32) (S : z_S), k159 s0 S = some q → z_W l I_X6_isChanged (R_X6_isChanged q) B q 159 [none, none] [.int s0] S) : ∀ (S : z_S), F_X6_isChanged_154 B k159 S = some q → z_W l I_X6_isChanged (R_X6_isChanged q) B q 154 [none, none] [] S := by
  intro S hF
  unfold F_X6_isChanged_154 at hF
  refine z_iconst (v := 1) (pc' := 155) dX6_isChanged_154 (by decide) rfl ?_
  refine z_goto (pc' := 159) dX6_isChanged_155 (by decide) ?_
  refine z_wk (ls' := [none, none]) (z_len1 (z_len1 z_le0)) ?_
  exact hk159 _ _ hF
def F_X6_isChanged_107 (B : Nat)  (s0 : Int32) (S : z_S) : Option (z_O × z_S) :=
  z_gd (z_b01 s0) (some (.inl (some s0), S))
set_option maxRecDepth 20000 in
set_option maxHeartbeats 16000000 in
theorem ok_X6_isChanged_107 {l : Launch} {B : Nat} {q : z_O × z_S} (hst : l.stackTraces = false) : ∀ (s0 : Int32) (S : z_S), F_X6_isChanged_107 B s0 S = some q → z_W l I_X6_isChanged (R_X6_isChanged q) B q 107 [none, none] [.int s0] S := by
  intro s0 S hF
  unfold F_X6_isChanged_107 at hF
  obtain ⟨g1, hF⟩ := z_gde hF
  exact z_zreturn rfl (z_b01e g1) dX6_isChanged_107 (Option.some.inj hF).symm
def F_X6_isChanged_68 (B : Nat)   (S : z_S) : Option (z_O × z_S) :=
  z_gd (z_b01 1) (some (.inl (some 1), S))
set_option maxRecDepth 20000 in
set_option maxHeartbeats 16000000 in
theorem ok_X6_isChanged_68 {l : Launch} {B : Nat} {q : z_O × z_S} (hst : l.stackTraces = false) : ∀ (S : z_S), F_X6_isChanged_68 B S = some q → z_W l I_X6_isChanged (R_X6_isChanged q) B q 68 [none, none] [] S := by
  intro S hF
  unfold F_X6_isChanged_68 at hF
  refine z_iconst (v := 1) (pc' := 69) dX6_isChanged_68 (by decide) rfl ?_
  obtain ⟨g1, hF⟩ := z_gde hF
  exact z_zreturn rfl (z_b01e g1) dX6_isChanged_69 (Option.some.inj hF).symm
def F_X6_isChanged_43 (B : Nat)  (s0 : Int32) (S : z_S) : Option (z_O × z_S) :=
  z_gd (z_b01 s0) (some (.inl (some s0), S))
set_option maxRecDepth 20000 in
set_option maxHeartbeats 16000000 in
theorem ok_X6_isChanged_43 {l : Launch} {B : Nat} {q : z_O × z_S} (hst : l.stackTraces = false) : ∀ (s0 : Int32) (S : z_S), F_X6_isChanged_43 B s0 S = some q → z_W l I_X6_isChanged (R_X6_isChanged q) B q 43 [none, none] [.int s0] S := by
  intro s0 S hF
  unfold F_X6_isChanged_43 at hF
  obtain ⟨g1, hF⟩ := z_gde hF
  exact z_zreturn rfl (z_b01e g1) dX6_isChanged_43 (Option.some.inj hF).symm
def F_X6_isChanged_38 (B : Nat) (k43 : Int32 → z_S → Option (z_O × z_S))  (S : z_S) : Option (z_O × z_S) :=
  k43 1 S
set_option maxRecDepth 20000 in
set_option maxHeartbeats 16000000 in
theorem ok_X6_isChanged_38 {l : Launch} {B : Nat} {q : z_O × z_S} (hst : l.stackTraces = false) {k43 : Int32 → z_S → Option (z_O × z_S)} (hk43 : ∀ (s0 : Int32) (S : z_S), k43 s0 S = some q → z_W l I_X6_isChanged (R_X6_isChanged q) B q 43 [none, none] [.int s0] S) : ∀ (S : z_S), F_X6_isChanged_38 B k43 S = some q → z_W l I_X6_isChanged (R_X6_isChanged q) B q 38 [none, none] [] S := by
  intro S hF
  unfold F_X6_isChanged_38 at hF
  refine z_iconst (v := 1) (pc' := 39) dX6_isChanged_38 (by decide) rfl ?_
  refine z_goto (pc' := 43) dX6_isChanged_39 (by decide) ?_
  refine z_wk (ls' := [none, none]) (z_len1 (z_len1 z_le0)) ?_
  exact hk43 _ _ hF
def F_X6_isChanged (B : Nat) (p1 : Int32) (S : z_S) : Option (z_O × z_S) :=
  z_gd (z_inb (0 + p1) 25366) (
  z_lt (S.1 61 (z_ix (0 + p1))) fun x2 =>
  (if x2 = 0 then
    z_gd (z_b01 0) (some (.inl (some 0), S))
  else
    if p1 = 0 then
      z_bn (F_X6_isAlike B 0 96 S) fun r32 S33 =>
      (if r32 = 0 then
        F_X6_isChanged_38 B (F_X6_isChanged_43 B ) S33
      else
        z_bn (F_X6_isAlike B 13076 1 S33) fun r35 S36 =>
        (if r35 = 0 then
          F_X6_isChanged_38 B (F_X6_isChanged_43 B ) S36
        else
          F_X6_isChanged_43 B 0 S36))
    else
      z_gd (z_inb (0 + p1) 25366) (
      z_lt (S.1 63 (z_ix (0 + p1))) fun x4 =>
      (if x4 = 0 then
        F_X6_isChanged_68 B S
      else
        z_bn (F_X6_isAlike B (3756 + p1) 1 S) fun r5 S6 =>
        (if r5 = 0 then
          F_X6_isChanged_68 B S6
        else
          z_gd (z_inb (3756 + p1) 25366) (
          z_lt (S6.1 61 (z_ix (3756 + p1))) fun x9 =>
          (if x9 = 0 then
            z_bn (F_X6_isAlike B (13078 + (128 * p1)) 128 S6) fun r25 S26 =>
            (if r25 = 0 then
              F_X6_isChanged_107 B 1 S26
            else
              F_X6_isChanged_107 B 0 S26)
          else
            z_bn (F_X6_isAlike B (3852 + p1) 1 S6) fun r10 S11 =>
            (if r10 = 0 then
              F_X6_isChanged_154 B (F_X6_isChanged_159 B ) S11
            else
              z_gd (z_inb (3756 + p1) 25366) (
              z_lt (S11.1 61 (z_ix (3756 + p1))) fun x14 =>
              (if x14 = 1 then
                z_bn (F_X6_isLeafAlike B p1 S11) fun r19 S20 =>
                (if r19 = 0 then
                  F_X6_isChanged_154 B (F_X6_isChanged_159 B ) S20
                else
                  F_X6_isChanged_158 B (F_X6_isChanged_159 B ) S20)
              else
                z_bn (F_X6_isInnerAlike B p1 S11) fun r15 S16 =>
                (if r15 = 0 then
                  F_X6_isChanged_154 B (F_X6_isChanged_159 B ) S16
                else
                  F_X6_isChanged_158 B (F_X6_isChanged_159 B ) S16)))))))))))
set_option maxRecDepth 20000 in
set_option maxHeartbeats 16000000 in
theorem c_X6_isChanged {l : Launch} {B : Nat} {p1 : Int32} {S : z_S} {q : z_O × z_S} (hst : l.stackTraces = false) (hF : F_X6_isChanged B p1 S = some q) : z_Met l I_X6_isChanged 3 71 B [.ref 60, .int p1] S q.1 q.2 := by
  refine z_enter (ls := [some (.ref 60), some (.int p1)]) (n := 0) (by decide) rfl (Nat.le_of_ble_eq_true rfl) hst ?_
  unfold F_X6_isChanged at hF
  refine z_aload_n (pc' := 1) dX6_isChanged_0 rfl rfl rfl ?_
  refine gf_X6_7 (b := 61) (pc' := 4) rfl is_6_60 rfl dX6_isChanged_1 rfl ?_
  refine z_iconst (v := 0) (pc' := 5) dX6_isChanged_4 (by decide) rfl ?_
  refine z_iload_n (pc' := 6) dX6_isChanged_5 rfl rfl rfl ?_
  refine z_iadd (pc' := 7) dX6_isChanged_6 rfl ?_
  obtain ⟨g1, hF⟩ := z_gde hF
  refine z_iaload (pc' := 8) (ar_6_f3 is_6_60) (z_inbe g1) dX6_isChanged_7 rfl ?_
  refine z_topi (fun x2 ex2 => ?_)
  replace hF := z_lte hF x2 ex2
  refine z_if_ne (tgt := 13) (pc' := 11) dX6_isChanged_8 (by decide) rfl (fun c42 => ?_) (fun c42 => ?_)
  · rw [if_neg c42] at hF
    refine z_iload_n (pc' := 14) dX6_isChanged_13 rfl rfl rfl ?_
    refine z_if_ne (tgt := 44) (pc' := 17) dX6_isChanged_14 (by decide) rfl (fun c40 => ?_) (fun c40 => ?_)
    · rw [if_neg c40] at hF
      refine z_aload_n (pc' := 45) dX6_isChanged_44 rfl rfl rfl ?_
      refine gf_X6_16 (b := 63) (pc' := 48) rfl is_6_60 rfl dX6_isChanged_45 rfl ?_
      refine z_iconst (v := 0) (pc' := 49) dX6_isChanged_48 (by decide) rfl ?_
      refine z_iload_n (pc' := 50) dX6_isChanged_49 rfl rfl rfl ?_
      refine z_iadd (pc' := 51) dX6_isChanged_50 rfl ?_
      obtain ⟨g3, hF⟩ := z_gde hF
      refine z_iaload (pc' := 52) (ar_6_f5 is_6_60) (z_inbe g3) dX6_isChanged_51 rfl ?_
      refine z_topi (fun x4 ex4 => ?_)
      replace hF := z_lte hF x4 ex4
      refine z_if_eq (tgt := 68) (pc' := 55) dX6_isChanged_52 (by decide) rfl (fun c31 => ?_) (fun c31 => ?_)
      · rw [if_pos c31] at hF
        refine z_wk (ls' := [none, none]) (z_len1 (z_len1 z_le0)) ?_
        exact (ok_X6_isChanged_68 hst) _ hF
      · rw [if_neg c31] at hF
        refine z_aload_n (pc' := 56) dX6_isChanged_55 rfl rfl rfl ?_
        refine z_sipush (v := 3756) (pc' := 59) dX6_isChanged_56 (by decide) rfl ?_
        refine z_iload_n (pc' := 60) dX6_isChanged_59 rfl rfl rfl ?_
        refine z_iadd (pc' := 61) dX6_isChanged_60 rfl ?_
        refine z_iconst (v := 1) (pc' := 62) dX6_isChanged_61 (by decide) rfl ?_
        obtain ⟨r5, S6, hc7, hF⟩ := z_bne hF
        refine k_X6_isAlike (F := 3) (L := 71) (pc' := 65) hc7 hst zw_150 rfl rfl (by decide) (by decide) (by decide) dX6_isChanged_62 rfl ?_
        refine z_if_ne (tgt := 70) (pc' := 68) dX6_isChanged_65 (by decide) rfl (fun c30 => ?_) (fun c30 => ?_)
        · rw [if_neg c30] at hF
          refine z_aload_n (pc' := 71) dX6_isChanged_70 rfl rfl rfl ?_
          refine gf_X6_7 (b := 61) (pc' := 74) rfl is_6_60 rfl dX6_isChanged_71 rfl ?_
          refine z_sipush (v := 3756) (pc' := 77) dX6_isChanged_74 (by decide) rfl ?_
          refine z_iload_n (pc' := 78) dX6_isChanged_77 rfl rfl rfl ?_
          refine z_iadd (pc' := 79) dX6_isChanged_78 rfl ?_
          obtain ⟨g8, hF⟩ := z_gde hF
          refine z_iaload (pc' := 80) (ar_6_f3 is_6_60) (z_inbe g8) dX6_isChanged_79 rfl ?_
          refine z_topi (fun x9 ex9 => ?_)
          replace hF := z_lte hF x9 ex9
          refine z_if_ne (tgt := 108) (pc' := 83) dX6_isChanged_80 (by decide) rfl (fun c29 => ?_) (fun c29 => ?_)
          · rw [if_neg c29] at hF
            refine z_aload_n (pc' := 109) dX6_isChanged_108 rfl rfl rfl ?_
            refine z_sipush (v := 3852) (pc' := 112) dX6_isChanged_109 (by decide) rfl ?_
            refine z_iload_n (pc' := 113) dX6_isChanged_112 rfl rfl rfl ?_
            refine z_iadd (pc' := 114) dX6_isChanged_113 rfl ?_
            refine z_iconst (v := 1) (pc' := 115) dX6_isChanged_114 (by decide) rfl ?_
            obtain ⟨r10, S11, hc12, hF⟩ := z_bne hF
            refine k_X6_isAlike (F := 3) (L := 71) (pc' := 118) hc12 hst zw_150 rfl rfl (by decide) (by decide) (by decide) dX6_isChanged_115 rfl ?_
            refine z_if_eq (tgt := 154) (pc' := 121) dX6_isChanged_118 (by decide) rfl (fun c24 => ?_) (fun c24 => ?_)
            · rw [if_pos c24] at hF
              refine z_wk (ls' := [none, none]) (z_len1 (z_len1 z_le0)) ?_
              exact (ok_X6_isChanged_154 hst (ok_X6_isChanged_159 hst)) _ hF
            · rw [if_neg c24] at hF
              refine z_aload_n (pc' := 122) dX6_isChanged_121 rfl rfl rfl ?_
              refine gf_X6_7 (b := 61) (pc' := 125) rfl is_6_60 rfl dX6_isChanged_122 rfl ?_
              refine z_sipush (v := 3756) (pc' := 128) dX6_isChanged_125 (by decide) rfl ?_
              refine z_iload_n (pc' := 129) dX6_isChanged_128 rfl rfl rfl ?_
              refine z_iadd (pc' := 130) dX6_isChanged_129 rfl ?_
              obtain ⟨g13, hF⟩ := z_gde hF
              refine z_iaload (pc' := 131) (ar_6_f3 is_6_60) (z_inbe g13) dX6_isChanged_130 rfl ?_
              refine z_topi (fun x14 ex14 => ?_)
              replace hF := z_lte hF x14 ex14
              refine z_iconst (v := 1) (pc' := 132) dX6_isChanged_131 (by decide) rfl ?_
              refine z_icmp_ne (tgt := 146) (pc' := 135) dX6_isChanged_132 (by decide) rfl (fun c23 => ?_) (fun c23 => ?_)
              · rw [if_neg c23] at hF
                refine z_aload_n (pc' := 147) dX6_isChanged_146 rfl rfl rfl ?_
                refine z_iload_n (pc' := 148) dX6_isChanged_147 rfl rfl rfl ?_
                obtain ⟨r15, S16, hc17, hF⟩ := z_bne hF
                refine k_X6_isInnerAlike (F := 3) (L := 71) (pc' := 151) hc17 hst zw_153 rfl rfl (by decide) (by decide) (by decide) dX6_isChanged_148 rfl ?_
                refine z_if_ne (tgt := 158) (pc' := 154) dX6_isChanged_151 (by decide) rfl (fun c18 => ?_) (fun c18 => ?_)
                · rw [if_neg c18] at hF
                  refine z_wk (ls' := [none, none]) (z_len1 (z_len1 z_le0)) ?_
                  exact (ok_X6_isChanged_158 hst (ok_X6_isChanged_159 hst)) _ hF
                · rw [if_pos c18] at hF
                  refine z_wk (ls' := [none, none]) (z_len1 (z_len1 z_le0)) ?_
                  exact (ok_X6_isChanged_154 hst (ok_X6_isChanged_159 hst)) _ hF
              · rw [if_pos c23] at hF
                refine z_aload_n (pc' := 136) dX6_isChanged_135 rfl rfl rfl ?_
                refine z_iload_n (pc' := 137) dX6_isChanged_136 rfl rfl rfl ?_
                obtain ⟨r19, S20, hc21, hF⟩ := z_bne hF
                refine k_X6_isLeafAlike (F := 3) (L := 71) (pc' := 140) hc21 hst zw_154 rfl rfl (by decide) (by decide) (by decide) dX6_isChanged_137 rfl ?_
                refine z_if_eq (tgt := 154) (pc' := 143) dX6_isChanged_140 (by decide) rfl (fun c22 => ?_) (fun c22 => ?_)
                · rw [if_pos c22] at hF
                  refine z_wk (ls' := [none, none]) (z_len1 (z_len1 z_le0)) ?_
                  exact (ok_X6_isChanged_154 hst (ok_X6_isChanged_159 hst)) _ hF
                · rw [if_neg c22] at hF
                  refine z_goto (pc' := 158) dX6_isChanged_143 (by decide) ?_
                  refine z_wk (ls' := [none, none]) (z_len1 (z_len1 z_le0)) ?_
                  exact (ok_X6_isChanged_158 hst (ok_X6_isChanged_159 hst)) _ hF
          · rw [if_pos c29] at hF
            refine z_aload_n (pc' := 84) dX6_isChanged_83 rfl rfl rfl ?_
            refine z_sipush (v := 13078) (pc' := 87) dX6_isChanged_84 (by decide) rfl ?_
            refine z_sipush (v := 128) (pc' := 90) dX6_isChanged_87 (by decide) rfl ?_
            refine z_iload_n (pc' := 91) dX6_isChanged_90 rfl rfl rfl ?_
            refine z_imul (pc' := 92) dX6_isChanged_91 rfl ?_
            refine z_iadd (pc' := 93) dX6_isChanged_92 rfl ?_
            refine z_sipush (v := 128) (pc' := 96) dX6_isChanged_93 (by decide) rfl ?_
            obtain ⟨r25, S26, hc27, hF⟩ := z_bne hF
            refine k_X6_isAlike (F := 3) (L := 71) (pc' := 99) hc27 hst zw_150 rfl rfl (by decide) (by decide) (by decide) dX6_isChanged_96 rfl ?_
            refine z_if_ne (tgt := 106) (pc' := 102) dX6_isChanged_99 (by decide) rfl (fun c28 => ?_) (fun c28 => ?_)
            · rw [if_neg c28] at hF
              refine z_iconst (v := 0) (pc' := 107) dX6_isChanged_106 (by decide) rfl ?_
              refine z_wk (ls' := [none, none]) (z_len1 (z_len1 z_le0)) ?_
              exact (ok_X6_isChanged_107 hst) _ _ hF
            · rw [if_pos c28] at hF
              refine z_iconst (v := 1) (pc' := 103) dX6_isChanged_102 (by decide) rfl ?_
              refine z_goto (pc' := 107) dX6_isChanged_103 (by decide) ?_
              refine z_wk (ls' := [none, none]) (z_len1 (z_len1 z_le0)) ?_
              exact (ok_X6_isChanged_107 hst) _ _ hF
        · rw [if_pos c30] at hF
          refine z_wk (ls' := [none, none]) (z_len1 (z_len1 z_le0)) ?_
          exact (ok_X6_isChanged_68 hst) _ hF
    · rw [if_pos c40] at hF
      refine z_aload_n (pc' := 18) dX6_isChanged_17 rfl rfl rfl ?_
      refine z_iconst (v := 0) (pc' := 19) dX6_isChanged_18 (by decide) rfl ?_
      refine z_bipush (v := 96) (pc' := 21) dX6_isChanged_19 (by decide) rfl ?_
      obtain ⟨r32, S33, hc34, hF⟩ := z_bne hF
      refine k_X6_isAlike (F := 3) (L := 71) (pc' := 24) hc34 hst zw_150 rfl rfl (by decide) (by decide) (by decide) dX6_isChanged_21 rfl ?_
      refine z_if_eq (tgt := 38) (pc' := 27) dX6_isChanged_24 (by decide) rfl (fun c39 => ?_) (fun c39 => ?_)
      · rw [if_pos c39] at hF
        refine z_wk (ls' := [none, none]) (z_len1 (z_len1 z_le0)) ?_
        exact (ok_X6_isChanged_38 hst (ok_X6_isChanged_43 hst)) _ hF
      · rw [if_neg c39] at hF
        refine z_aload_n (pc' := 28) dX6_isChanged_27 rfl rfl rfl ?_
        refine z_sipush (v := 13076) (pc' := 31) dX6_isChanged_28 (by decide) rfl ?_
        refine z_iconst (v := 1) (pc' := 32) dX6_isChanged_31 (by decide) rfl ?_
        obtain ⟨r35, S36, hc37, hF⟩ := z_bne hF
        refine k_X6_isAlike (F := 3) (L := 71) (pc' := 35) hc37 hst zw_150 rfl rfl (by decide) (by decide) (by decide) dX6_isChanged_32 rfl ?_
        refine z_if_ne (tgt := 42) (pc' := 38) dX6_isChanged_35 (by decide) rfl (fun c38 => ?_) (fun c38 => ?_)
        · rw [if_neg c38] at hF
          refine z_iconst (v := 0) (pc' := 43) dX6_isChanged_42 (by decide) rfl ?_
          refine z_wk (ls' := [none, none]) (z_len1 (z_len1 z_le0)) ?_
          exact (ok_X6_isChanged_43 hst) _ _ hF
        · rw [if_pos c38] at hF
          refine z_wk (ls' := [none, none]) (z_len1 (z_len1 z_le0)) ?_
          exact (ok_X6_isChanged_38 hst (ok_X6_isChanged_43 hst)) _ hF
  · rw [if_pos c42] at hF
    refine z_iconst (v := 0) (pc' := 12) dX6_isChanged_11 (by decide) rfl ?_
    obtain ⟨g41, hF⟩ := z_gde hF
    exact z_zreturn rfl (z_b01e g41) dX6_isChanged_12 (Option.some.inj hF).symm
theorem ok_X6_isChanged : z_okV I_X6_isChanged 1 := ⟨⟨z_Gin (List.mem_of_getElem? (i := 1206) (by decide +kernel)) rfl, z_Gin (List.mem_of_getElem? (i := 79) (by decide +kernel)) rfl, z_Gin (List.mem_of_getElem? (i := 98) (by decide +kernel)) rfl, z_Gin (List.mem_of_getElem? (i := 1207) (by decide +kernel)) rfl⟩, by decide, by decide, by decide +kernel⟩
theorem k_X6_isChanged {l : Launch} {I : z_I} {R : Room} {B : Nat} {p1 : Int32} {q : z_O × z_S} {pc pc' : Nat} {ls : List (Option Value)} {st : List Value} {S S1 : z_S} {idx F L : Nat} {r : Int32}  (hF : F_X6_isChanged B p1 S = some (.inl (some r), S1)) (hst : l.stackTraces = false) (w : Cond.methodLink I.1.cls idx yX6_isChanged ∈ z_G) (hRF : R.frames = F) (hRL : R.locals = L) (h1 : 4 ≤ F) (h2 : 92 ≤ L) (hs : (st.map fun v => v.category).sum ≤ 8) (d : decode I.2.1 pc = .ok (.invokevirtual idx, 3)) (hp : pc + 3 = pc') (k : z_W l I R B q pc' ls (.int r :: st) S1) : z_W l I R B q pc ls (.int p1 :: .ref 60 :: st) S := z_callV (Y := I_X6_isChanged) (As := [.int p1]) (st := st) (r := (some r)) (S1 := S1) (c_X6_isChanged (q := (.inl (some r), S1)) hst hF) ok_X6_isChanged w (ci := 6) rfl is_6_60.1 is_6_60.2 rfl ⟨by rw [hRF]; exact h1, by rw [hRL]; exact h2⟩ hs d hp rfl k

abbrev I_X6_changed : z_I := (yX6_changed, cX6_changed, 3, some .int)
abbrev R_X6_changed (q : z_O × z_S) : Room := { frames := 4, locals := 92, cells := z_mc q.1, slots := 6 * z_mc q.1 }
def F_X6_changed_26 (B : Nat) (k4 : Int32 → Int32 → z_S → Option (z_O × z_S)) (v2 : Int32) (s0 : Int32) (s1 : Int32) (S : z_S) : Option (z_O × z_S) :=
  k4 (s1 + s0) (v2 + 1) S
set_option maxRecDepth 20000 in
set_option maxHeartbeats 16000000 in
theorem ok_X6_changed_26 {l : Launch} {B : Nat} {q : z_O × z_S} (hst : l.stackTraces = false) {k4 : Int32 → Int32 → z_S → Option (z_O × z_S)} (hk4 : ∀ (v1 : Int32) (v2 : Int32) (S : z_S), k4 v1 v2 S = some q → z_W l I_X6_changed (R_X6_changed q) B q 4 [some (.ref 60), some (.int v1), some (.int v2)] [] S) : ∀ (v2 : Int32) (s0 : Int32) (s1 : Int32) (S : z_S), F_X6_changed_26 B k4 v2 s0 s1 S = some q → z_W l I_X6_changed (R_X6_changed q) B q 26 [some (.ref 60), none, some (.int v2)] [.int s0, .int s1] S := by
  intro v2 s0 s1 S hF
  unfold F_X6_changed_26 at hF
  refine z_iadd (pc' := 27) dX6_changed_26 rfl ?_
  refine z_istore_n (pc' := 28) dX6_changed_27 rfl (by decide) rfl rfl ?_
  refine z_iinc (v := v2 + 1) (pc' := 31) dX6_changed_28 rfl rfl (by decide) rfl rfl ?_
  refine z_goto (pc' := 4) dX6_changed_31 (by decide) ?_
  refine z_wk (ls' := [some (.ref 60), some (.int (s1 + s0)), some (.int (v2 + 1))]) (z_lec rfl (z_lec rfl (z_lec rfl z_le0))) ?_
  exact hk4 _ _ _ hF
def F_X6_changed_4 (B : Nat)  : Nat → Int32 → Int32 → z_S → Option (z_O × z_S)
  | 0, _, _, _ => none
  | n + 1, v1, v2, S => if (S.2.1 60 1) ≤ v2 then
    some (.inl (some v1), S)
  else
    z_bn (F_X6_isChanged B v2 S) fun r1 S2 =>
    (if r1 = 0 then
      F_X6_changed_26 B (F_X6_changed_4 B n) v2 0 v1 S2
    else
      F_X6_changed_26 B (F_X6_changed_4 B n) v2 1 v1 S2)
set_option maxRecDepth 20000 in
set_option maxHeartbeats 16000000 in
theorem ok_X6_changed_4 {l : Launch} {B : Nat} {q : z_O × z_S} (hst : l.stackTraces = false) : ∀ (n : Nat) (v1 : Int32) (v2 : Int32) (S : z_S), F_X6_changed_4 B n v1 v2 S = some q → z_W l I_X6_changed (R_X6_changed q) B q 4 [some (.ref 60), some (.int v1), some (.int v2)] [] S := by
  intro n
  induction n with
  | zero => intro v1 v2 S hF; cases hF
  | succ n ih =>
    intro v1 v2 S hF
    rw [F_X6_changed_4] at hF
    refine z_iload_n (pc' := 5) dX6_changed_4 rfl rfl rfl ?_
    refine z_aload_n (pc' := 6) dX6_changed_5 rfl rfl rfl ?_
    refine gf_X6_30 (pc' := 9) rfl is_6_60 dX6_changed_6 rfl ?_
    refine z_icmp_ge (tgt := 34) (pc' := 12) dX6_changed_9 (by decide) rfl (fun c5 => ?_) (fun c5 => ?_)
    · rw [if_pos c5] at hF
      refine z_iload_n (pc' := 35) dX6_changed_34 rfl rfl rfl ?_
      exact z_ireturn rfl dX6_changed_35 (Option.some.inj hF).symm
    · rw [if_neg c5] at hF
      refine z_iload_n (pc' := 13) dX6_changed_12 rfl rfl rfl ?_
      refine z_aload_n (pc' := 14) dX6_changed_13 rfl rfl rfl ?_
      refine z_iload_n (pc' := 15) dX6_changed_14 rfl rfl rfl ?_
      obtain ⟨r1, S2, hc3, hF⟩ := z_bne hF
      refine k_X6_isChanged (F := 4) (L := 92) (pc' := 18) hc3 hst zw_155 rfl rfl (by decide) (by decide) (Nat.le_of_ble_eq_true rfl) dX6_changed_15 rfl ?_
      refine z_if_eq (tgt := 25) (pc' := 21) dX6_changed_18 (by decide) rfl (fun c4 => ?_) (fun c4 => ?_)
      · rw [if_pos c4] at hF
        refine z_iconst (v := 0) (pc' := 26) dX6_changed_25 (by decide) rfl ?_
        refine z_wk (ls' := [some (.ref 60), none, some (.int v2)]) (z_lec rfl (z_len1 (z_lec rfl z_le0))) ?_
        exact (ok_X6_changed_26 hst ih) _ _ _ _ hF
      · rw [if_neg c4] at hF
        refine z_iconst (v := 1) (pc' := 22) dX6_changed_21 (by decide) rfl ?_
        refine z_goto (pc' := 26) dX6_changed_22 (by decide) ?_
        refine z_wk (ls' := [some (.ref 60), none, some (.int v2)]) (z_lec rfl (z_len1 (z_lec rfl z_le0))) ?_
        exact (ok_X6_changed_26 hst ih) _ _ _ _ hF
def F_X6_changed (B : Nat)  (S : z_S) : Option (z_O × z_S) :=
  F_X6_changed_4 B z_n 0 0 S
set_option maxRecDepth 20000 in
set_option maxHeartbeats 16000000 in
theorem c_X6_changed {l : Launch} {B : Nat}  {S : z_S} {q : z_O × z_S} (hst : l.stackTraces = false) (hF : F_X6_changed B S = some q) : z_Met l I_X6_changed 4 92 B [.ref 60] S q.1 q.2 := by
  refine z_enter (ls := [some (.ref 60), none, none]) (n := 2) (by decide) rfl (Nat.le_of_ble_eq_true rfl) hst ?_
  unfold F_X6_changed at hF
  refine z_iconst (v := 0) (pc' := 1) dX6_changed_0 (by decide) rfl ?_
  refine z_istore_n (pc' := 2) dX6_changed_1 rfl (by decide) rfl rfl ?_
  refine z_iconst (v := 0) (pc' := 3) dX6_changed_2 (by decide) rfl ?_
  refine z_istore_n (pc' := 4) dX6_changed_3 rfl (by decide) rfl rfl ?_
  refine z_wk (ls' := [some (.ref 60), some (.int 0), some (.int 0)]) (z_lec rfl (z_lec rfl (z_lec rfl z_le0))) ?_
  exact (ok_X6_changed_4 hst z_n) _ _ _ hF
theorem ok_X6_changed : z_okV I_X6_changed 0 := ⟨⟨z_Gin (List.mem_of_getElem? (i := 1202) (by decide +kernel)) rfl, z_Gin (List.mem_of_getElem? (i := 78) (by decide +kernel)) rfl, z_Gin (List.mem_of_getElem? (i := 98) (by decide +kernel)) rfl, z_Gin (List.mem_of_getElem? (i := 1203) (by decide +kernel)) rfl⟩, by decide, by decide, by decide +kernel⟩
theorem k_X6_changed {l : Launch} {I : z_I} {R : Room} {B : Nat}  {q : z_O × z_S} {pc pc' : Nat} {ls : List (Option Value)} {st : List Value} {S S1 : z_S} {idx F L : Nat} {r : Int32}  (hF : F_X6_changed B S = some (.inl (some r), S1)) (hst : l.stackTraces = false) (w : Cond.methodLink I.1.cls idx yX6_changed ∈ z_G) (hRF : R.frames = F) (hRL : R.locals = L) (h1 : 5 ≤ F) (h2 : 114 ≤ L) (hs : (st.map fun v => v.category).sum ≤ 8) (d : decode I.2.1 pc = .ok (.invokevirtual idx, 3)) (hp : pc + 3 = pc') (k : z_W l I R B q pc' ls (.int r :: st) S1) : z_W l I R B q pc ls (.ref 60 :: st) S := z_callV (Y := I_X6_changed) (As := []) (st := st) (r := (some r)) (S1 := S1) (c_X6_changed (q := (.inl (some r), S1)) hst hF) ok_X6_changed w (ci := 6) rfl is_6_60.1 is_6_60.2 rfl ⟨by rw [hRF]; exact h1, by rw [hRL]; exact h2⟩ hs d hp rfl k

abbrev I_X6_goes : z_I := (yX6_goes, cX6_goes, 1, some .boolean)
abbrev R_X6_goes (q : z_O × z_S) : Room := { frames := 0, locals := 0, cells := z_mc q.1, slots := 6 * z_mc q.1 }
def F_X6_goes_36 (B : Nat)  (s0 : Int32) (s1 : Int32) (S : z_S) : Option (z_O × z_S) :=
  z_lt (z_ui S 60 11 (s1 - s0)) fun S1 =>
  (z_lt (z_ui S1 60 12 ((S1.2.1 60 12) + 1)) fun S2 =>
  (z_lt (z_ui S2 60 13 ((S2.2.1 60 13) + 1)) fun S3 =>
  (z_gd (z_b01 1) (some (.inl (some 1), S3)))))
set_option maxRecDepth 20000 in
set_option maxHeartbeats 16000000 in
theorem ok_X6_goes_36 {l : Launch} {B : Nat} {q : z_O × z_S} (hst : l.stackTraces = false) : ∀ (s0 : Int32) (s1 : Int32) (S : z_S), F_X6_goes_36 B s0 s1 S = some q → z_W l I_X6_goes (R_X6_goes q) B q 36 [some (.ref 60)] [.int s0, .int s1, .ref 60] S := by
  intro s0 s1 S hF
  unfold F_X6_goes_36 at hF
  refine z_isub (pc' := 37) dX6_goes_36 rfl ?_
  refine pf_X6_26 (pc' := 40) rfl is_6_60 dX6_goes_37 rfl (fun S1 eS1 => ?_)
  replace hF := z_lte hF S1 eS1
  refine z_aload_n (pc' := 41) dX6_goes_40 rfl rfl rfl ?_
  refine z_dupr (pc' := 42) dX6_goes_41 rfl ?_
  refine gf_X6_217 (pc' := 45) rfl is_6_60 dX6_goes_42 rfl ?_
  refine z_iconst (v := 1) (pc' := 46) dX6_goes_45 (by decide) rfl ?_
  refine z_iadd (pc' := 47) dX6_goes_46 rfl ?_
  refine pf_X6_217 (pc' := 50) rfl is_6_60 dX6_goes_47 rfl (fun S2 eS2 => ?_)
  replace hF := z_lte hF S2 eS2
  refine z_aload_n (pc' := 51) dX6_goes_50 rfl rfl rfl ?_
  refine z_dupr (pc' := 52) dX6_goes_51 rfl ?_
  refine gf_X6_220 (pc' := 55) rfl is_6_60 dX6_goes_52 rfl ?_
  refine z_iconst (v := 1) (pc' := 56) dX6_goes_55 (by decide) rfl ?_
  refine z_iadd (pc' := 57) dX6_goes_56 rfl ?_
  refine pf_X6_220 (pc' := 60) rfl is_6_60 dX6_goes_57 rfl (fun S3 eS3 => ?_)
  replace hF := z_lte hF S3 eS3
  refine z_iconst (v := 1) (pc' := 61) dX6_goes_60 (by decide) rfl ?_
  obtain ⟨g4, hF⟩ := z_gde hF
  exact z_zreturn rfl (z_b01e g4) dX6_goes_61 (Option.some.inj hF).symm
def F_X6_goes (B : Nat)  (S : z_S) : Option (z_O × z_S) :=
  if (S.2.1 60 11) = 0 then
    z_gd (z_b01 1) (
    z_lt (z_ui S 60 10 1) fun S3 =>
    (z_lt (z_ui S3 60 11 (-1)) fun S4 =>
    (z_gd (z_b01 0) (some (.inl (some 0), S4)))))
  else
    if (S.2.1 60 11) ≤ 0 then
      F_X6_goes_36 B 0 (S.2.1 60 11) S
    else
      F_X6_goes_36 B 1 (S.2.1 60 11) S
set_option maxRecDepth 20000 in
set_option maxHeartbeats 16000000 in
theorem c_X6_goes {l : Launch} {B : Nat}  {S : z_S} {q : z_O × z_S} (hst : l.stackTraces = false) (hF : F_X6_goes B S = some q) : z_Met l I_X6_goes 0 0 B [.ref 60] S q.1 q.2 := by
  refine z_enter (ls := [some (.ref 60)]) (n := 0) (by decide) rfl (Nat.le_of_ble_eq_true rfl) hst ?_
  unfold F_X6_goes at hF
  refine z_aload_n (pc' := 1) dX6_goes_0 rfl rfl rfl ?_
  refine gf_X6_26 (pc' := 4) rfl is_6_60 dX6_goes_1 rfl ?_
  refine z_if_ne (tgt := 19) (pc' := 7) dX6_goes_4 (by decide) rfl (fun c6 => ?_) (fun c6 => ?_)
  · rw [if_neg c6] at hF
    refine z_aload_n (pc' := 20) dX6_goes_19 rfl rfl rfl ?_
    refine z_dupr (pc' := 21) dX6_goes_20 rfl ?_
    refine gf_X6_26 (pc' := 24) rfl is_6_60 dX6_goes_21 rfl ?_
    refine z_aload_n (pc' := 25) dX6_goes_24 rfl rfl rfl ?_
    refine gf_X6_26 (pc' := 28) rfl is_6_60 dX6_goes_25 rfl ?_
    refine z_if_le (tgt := 35) (pc' := 31) dX6_goes_28 (by decide) rfl (fun c1 => ?_) (fun c1 => ?_)
    · rw [if_pos c1] at hF
      refine z_iconst (v := 0) (pc' := 36) dX6_goes_35 (by decide) rfl ?_
      refine z_wk (ls' := [some (.ref 60)]) (z_lec rfl z_le0) ?_
      exact (ok_X6_goes_36 hst) _ _ _ hF
    · rw [if_neg c1] at hF
      refine z_iconst (v := 1) (pc' := 32) dX6_goes_31 (by decide) rfl ?_
      refine z_goto (pc' := 36) dX6_goes_32 (by decide) ?_
      refine z_wk (ls' := [some (.ref 60)]) (z_lec rfl z_le0) ?_
      exact (ok_X6_goes_36 hst) _ _ _ hF
  · rw [if_pos c6] at hF
    refine z_aload_n (pc' := 8) dX6_goes_7 rfl rfl rfl ?_
    refine z_iconst (v := 1) (pc' := 9) dX6_goes_8 (by decide) rfl ?_
    obtain ⟨g2, hF⟩ := z_gde hF
    refine pf_X6_149 (pc' := 12) rfl is_6_60 (z_b01e g2) dX6_goes_9 rfl (fun S3 eS3 => ?_)
    replace hF := z_lte hF S3 eS3
    refine z_aload_n (pc' := 13) dX6_goes_12 rfl rfl rfl ?_
    refine z_iconst (v := (-1)) (pc' := 14) dX6_goes_13 (by decide) rfl ?_
    refine pf_X6_26 (pc' := 17) rfl is_6_60 dX6_goes_14 rfl (fun S4 eS4 => ?_)
    replace hF := z_lte hF S4 eS4
    refine z_iconst (v := 0) (pc' := 18) dX6_goes_17 (by decide) rfl ?_
    obtain ⟨g5, hF⟩ := z_gde hF
    exact z_zreturn rfl (z_b01e g5) dX6_goes_18 (Option.some.inj hF).symm
theorem ok_X6_goes : z_okV I_X6_goes 0 := ⟨⟨z_Gin (List.mem_of_getElem? (i := 1233) (by decide +kernel)) rfl, z_Gin (List.mem_of_getElem? (i := 85) (by decide +kernel)) rfl, z_Gin (List.mem_of_getElem? (i := 98) (by decide +kernel)) rfl, z_Gin (List.mem_of_getElem? (i := 1234) (by decide +kernel)) rfl⟩, by decide, by decide, by decide +kernel⟩
theorem k_X6_goes {l : Launch} {I : z_I} {R : Room} {B : Nat}  {q : z_O × z_S} {pc pc' : Nat} {ls : List (Option Value)} {st : List Value} {S S1 : z_S} {idx F L : Nat} {r : Int32}  (hF : F_X6_goes B S = some (.inl (some r), S1)) (hst : l.stackTraces = false) (w : Cond.methodLink I.1.cls idx yX6_goes ∈ z_G) (hRF : R.frames = F) (hRL : R.locals = L) (h1 : 1 ≤ F) (h2 : 20 ≤ L) (hs : (st.map fun v => v.category).sum ≤ 8) (d : decode I.2.1 pc = .ok (.invokevirtual idx, 3)) (hp : pc + 3 = pc') (k : z_W l I R B q pc' ls (.int r :: st) S1) : z_W l I R B q pc ls (.ref 60 :: st) S := z_callV (Y := I_X6_goes) (As := []) (st := st) (r := (some r)) (S1 := S1) (c_X6_goes (q := (.inl (some r), S1)) hst hF) ok_X6_goes w (ci := 6) rfl is_6_60.1 is_6_60.2 rfl ⟨by rw [hRF]; exact h1, by rw [hRL]; exact h2⟩ hs d hp rfl k

