abbrev I_X6_home : z_I := (yX6_home, cX6_home, 2, some .boolean)
abbrev R_X6_home (q : z_O × z_S) : Room := { frames := 1, locals := 20, cells := z_mc q.1, slots := 6 * z_mc q.1 }
def F_X6_home_52 (B : Nat)  : Nat → Int32 → z_S → Option (z_O × z_S)
  | 0, _, _ => none
  | n + 1, v1, S => if 96 ≤ v1 then
    z_lt (z_ui S 60 9 0) fun S1 =>
    (z_gd (z_b01 1) (some (.inl (some 1), S1)))
  else
    z_gd (z_inb v1 96) (
    z_lt (z_ua S 65 (upd (S.1 65) (z_ix (v1)) (vp_nar .boolean 0))) fun S4 =>
    (F_X6_home_52 B n (v1 + 1) S4))
set_option maxRecDepth 20000 in
set_option maxHeartbeats 16000000 in
theorem ok_X6_home_52 {l : Launch} {B : Nat} {q : z_O × z_S} (hst : l.stackTraces = false) : ∀ (n : Nat) (v1 : Int32) (S : z_S), F_X6_home_52 B n v1 S = some q → z_W l I_X6_home (R_X6_home q) B q 52 [some (.ref 60), some (.int v1)] [] S := by
  intro n
  induction n with
  | zero => intro v1 S hF; cases hF
  | succ n ih =>
    intro v1 S hF
    rw [F_X6_home_52] at hF
    refine z_iload_n (pc' := 53) dX6_home_52 rfl rfl rfl ?_
    refine z_bipush (v := 96) (pc' := 55) dX6_home_53 (by decide) rfl ?_
    refine z_icmp_ge (tgt := 71) (pc' := 58) dX6_home_55 (by decide) rfl (fun c5 => ?_) (fun c5 => ?_)
    · rw [if_pos c5] at hF
      refine z_aload_n (pc' := 72) dX6_home_71 rfl rfl rfl ?_
      refine z_iconst (v := 0) (pc' := 73) dX6_home_72 (by decide) rfl ?_
      refine pf_X6_223 (pc' := 76) rfl is_6_60 dX6_home_73 rfl (fun S1 eS1 => ?_)
      replace hF := z_lte hF S1 eS1
      refine z_iconst (v := 1) (pc' := 77) dX6_home_76 (by decide) rfl ?_
      obtain ⟨g2, hF⟩ := z_gde hF
      exact z_zreturn rfl (z_b01e g2) dX6_home_77 (Option.some.inj hF).symm
    · rw [if_neg c5] at hF
      refine z_aload_n (pc' := 59) dX6_home_58 rfl rfl rfl ?_
      refine gf_X6_22 (b := 65) (pc' := 62) rfl is_6_60 rfl dX6_home_59 rfl ?_
      refine z_iload_n (pc' := 63) dX6_home_62 rfl rfl rfl ?_
      refine z_iconst (v := 0) (pc' := 64) dX6_home_63 (by decide) rfl ?_
      obtain ⟨g3, hF⟩ := z_gde hF
      refine z_zastore (pc' := 65) (ar_6_f8 is_6_60) (z_inbe g3) dX6_home_64 rfl (fun S4 eS4 => ?_)
      replace hF := z_lte hF S4 eS4
      refine z_iinc (v := v1 + 1) (pc' := 68) dX6_home_65 rfl rfl (by decide) rfl rfl ?_
      refine z_goto (pc' := 52) dX6_home_68 (by decide) ?_
      refine z_wk (ls' := [some (.ref 60), some (.int (v1 + 1))]) (z_lec rfl (z_lec rfl z_le0)) ?_
      exact ih _ _ hF
def F_X6_home_35 (B : Nat) (k11 : Int32 → z_S → Option (z_O × z_S)) (v1 : Int32) (S : z_S) : Option (z_O × z_S) :=
  k11 (v1 + 1) S
set_option maxRecDepth 20000 in
set_option maxHeartbeats 16000000 in
theorem ok_X6_home_35 {l : Launch} {B : Nat} {q : z_O × z_S} (hst : l.stackTraces = false) {k11 : Int32 → z_S → Option (z_O × z_S)} (hk11 : ∀ (v1 : Int32) (S : z_S), k11 v1 S = some q → z_W l I_X6_home (R_X6_home q) B q 11 [some (.ref 60), some (.int v1)] [] S) : ∀ (v1 : Int32) (S : z_S), F_X6_home_35 B k11 v1 S = some q → z_W l I_X6_home (R_X6_home q) B q 35 [some (.ref 60), some (.int v1)] [] S := by
  intro v1 S hF
  unfold F_X6_home_35 at hF
  refine z_iinc (v := v1 + 1) (pc' := 38) dX6_home_35 rfl rfl (by decide) rfl rfl ?_
  refine z_goto (pc' := 11) dX6_home_38 (by decide) ?_
  refine z_wk (ls' := [some (.ref 60), some (.int (v1 + 1))]) (z_lec rfl (z_lec rfl z_le0)) ?_
  exact hk11 _ _ hF
def F_X6_home_11 (B : Nat)  : Nat → Int32 → z_S → Option (z_O × z_S)
  | 0, _, _ => none
  | n + 1, v1, S => if 96 ≤ v1 then
    z_bn (F_X6_goes B S) fun r1 S2 =>
    (if r1 = 0 then
      z_gd (z_b01 0) (some (.inl (some 0), S2))
    else
      F_X6_home_52 B z_n 0 S2)
  else
    z_gd (z_inb v1 96) (
    z_lt (S.1 65 (z_ix (v1))) fun x7 =>
    (if x7 = 0 then
      F_X6_home_35 B (F_X6_home_11 B n) v1 S
    else
      z_bn (F_X6_goes B S) fun r8 S9 =>
      (if r8 = 0 then
        z_gd (z_b01 0) (some (.inl (some 0), S9))
      else
        F_X6_home_35 B (F_X6_home_11 B n) v1 S9)))
set_option maxRecDepth 20000 in
set_option maxHeartbeats 16000000 in
theorem ok_X6_home_11 {l : Launch} {B : Nat} {q : z_O × z_S} (hst : l.stackTraces = false) : ∀ (n : Nat) (v1 : Int32) (S : z_S), F_X6_home_11 B n v1 S = some q → z_W l I_X6_home (R_X6_home q) B q 11 [some (.ref 60), some (.int v1)] [] S := by
  intro n
  induction n with
  | zero => intro v1 S hF; cases hF
  | succ n ih =>
    intro v1 S hF
    rw [F_X6_home_11] at hF
    refine z_iload_n (pc' := 12) dX6_home_11 rfl rfl rfl ?_
    refine z_bipush (v := 96) (pc' := 14) dX6_home_12 (by decide) rfl ?_
    refine z_icmp_ge (tgt := 41) (pc' := 17) dX6_home_14 (by decide) rfl (fun c14 => ?_) (fun c14 => ?_)
    · rw [if_pos c14] at hF
      refine z_aload_n (pc' := 42) dX6_home_41 rfl rfl rfl ?_
      obtain ⟨r1, S2, hc3, hF⟩ := z_bne hF
      refine k_X6_goes (F := 1) (L := 20) (pc' := 45) hc3 hst zw_156 rfl rfl (by decide) (by decide) (by decide) dX6_home_42 rfl ?_
      refine z_if_ne (tgt := 50) (pc' := 48) dX6_home_45 (by decide) rfl (fun c5 => ?_) (fun c5 => ?_)
      · rw [if_neg c5] at hF
        refine z_iconst (v := 0) (pc' := 51) dX6_home_50 (by decide) rfl ?_
        refine z_istore_n (pc' := 52) dX6_home_51 rfl (by decide) rfl rfl ?_
        refine z_wk (ls' := [some (.ref 60), some (.int 0)]) (z_lec rfl (z_lec rfl z_le0)) ?_
        exact (ok_X6_home_52 hst z_n) _ _ hF
      · rw [if_pos c5] at hF
        refine z_iconst (v := 0) (pc' := 49) dX6_home_48 (by decide) rfl ?_
        obtain ⟨g4, hF⟩ := z_gde hF
        exact z_zreturn rfl (z_b01e g4) dX6_home_49 (Option.some.inj hF).symm
    · rw [if_neg c14] at hF
      refine z_aload_n (pc' := 18) dX6_home_17 rfl rfl rfl ?_
      refine gf_X6_22 (b := 65) (pc' := 21) rfl is_6_60 rfl dX6_home_18 rfl ?_
      refine z_iload_n (pc' := 22) dX6_home_21 rfl rfl rfl ?_
      obtain ⟨g6, hF⟩ := z_gde hF
      refine z_zaload (pc' := 23) (ar_6_f8 is_6_60) (z_inbe g6) dX6_home_22 rfl ?_
      refine z_topi (fun x7 ex7 => ?_)
      replace hF := z_lte hF x7 ex7
      refine z_if_eq (tgt := 35) (pc' := 26) dX6_home_23 (by decide) rfl (fun c13 => ?_) (fun c13 => ?_)
      · rw [if_pos c13] at hF
        refine z_wk (ls' := [some (.ref 60), some (.int v1)]) (z_lec rfl (z_lec rfl z_le0)) ?_
        exact (ok_X6_home_35 hst ih) _ _ hF
      · rw [if_neg c13] at hF
        refine z_aload_n (pc' := 27) dX6_home_26 rfl rfl rfl ?_
        obtain ⟨r8, S9, hc10, hF⟩ := z_bne hF
        refine k_X6_goes (F := 1) (L := 20) (pc' := 30) hc10 hst zw_156 rfl rfl (by decide) (by decide) (by decide) dX6_home_27 rfl ?_
        refine z_if_ne (tgt := 35) (pc' := 33) dX6_home_30 (by decide) rfl (fun c12 => ?_) (fun c12 => ?_)
        · rw [if_neg c12] at hF
          refine z_wk (ls' := [some (.ref 60), some (.int v1)]) (z_lec rfl (z_lec rfl z_le0)) ?_
          exact (ok_X6_home_35 hst ih) _ _ hF
        · rw [if_pos c12] at hF
          refine z_iconst (v := 0) (pc' := 34) dX6_home_33 (by decide) rfl ?_
          obtain ⟨g11, hF⟩ := z_gde hF
          exact z_zreturn rfl (z_b01e g11) dX6_home_34 (Option.some.inj hF).symm
def F_X6_home (B : Nat)  (S : z_S) : Option (z_O × z_S) :=
  if (S.2.1 60 9) = 0 then
    z_gd (z_b01 1) (some (.inl (some 1), S))
  else
    F_X6_home_11 B z_n 0 S
set_option maxRecDepth 20000 in
set_option maxHeartbeats 16000000 in
theorem c_X6_home {l : Launch} {B : Nat}  {S : z_S} {q : z_O × z_S} (hst : l.stackTraces = false) (hF : F_X6_home B S = some q) : z_Met l I_X6_home 1 20 B [.ref 60] S q.1 q.2 := by
  refine z_enter (ls := [some (.ref 60), none]) (n := 1) (by decide) rfl (Nat.le_of_ble_eq_true rfl) hst ?_
  unfold F_X6_home at hF
  refine z_aload_n (pc' := 1) dX6_home_0 rfl rfl rfl ?_
  refine gf_X6_223 (pc' := 4) rfl is_6_60 dX6_home_1 rfl ?_
  refine z_if_ne (tgt := 9) (pc' := 7) dX6_home_4 (by decide) rfl (fun c2 => ?_) (fun c2 => ?_)
  · rw [if_neg c2] at hF
    refine z_iconst (v := 0) (pc' := 10) dX6_home_9 (by decide) rfl ?_
    refine z_istore_n (pc' := 11) dX6_home_10 rfl (by decide) rfl rfl ?_
    refine z_wk (ls' := [some (.ref 60), some (.int 0)]) (z_lec rfl (z_lec rfl z_le0)) ?_
    exact (ok_X6_home_11 hst z_n) _ _ hF
  · rw [if_pos c2] at hF
    refine z_iconst (v := 1) (pc' := 8) dX6_home_7 (by decide) rfl ?_
    obtain ⟨g1, hF⟩ := z_gde hF
    exact z_zreturn rfl (z_b01e g1) dX6_home_8 (Option.some.inj hF).symm
theorem ok_X6_home : z_okV I_X6_home 0 := ⟨⟨z_Gin (List.mem_of_getElem? (i := 1229) (by decide +kernel)) rfl, z_Gin (List.mem_of_getElem? (i := 84) (by decide +kernel)) rfl, z_Gin (List.mem_of_getElem? (i := 98) (by decide +kernel)) rfl, z_Gin (List.mem_of_getElem? (i := 1230) (by decide +kernel)) rfl⟩, by decide, by decide, by decide +kernel⟩
theorem k_X6_home {l : Launch} {I : z_I} {R : Room} {B : Nat}  {q : z_O × z_S} {pc pc' : Nat} {ls : List (Option Value)} {st : List Value} {S S1 : z_S} {idx F L : Nat} {r : Int32}  (hF : F_X6_home B S = some (.inl (some r), S1)) (hst : l.stackTraces = false) (w : Cond.methodLink I.1.cls idx yX6_home ∈ z_G) (hRF : R.frames = F) (hRL : R.locals = L) (h1 : 2 ≤ F) (h2 : 41 ≤ L) (hs : (st.map fun v => v.category).sum ≤ 8) (d : decode I.2.1 pc = .ok (.invokevirtual idx, 3)) (hp : pc + 3 = pc') (k : z_W l I R B q pc' ls (.int r :: st) S1) : z_W l I R B q pc ls (.ref 60 :: st) S := z_callV (Y := I_X6_home) (As := []) (st := st) (r := (some r)) (S1 := S1) (c_X6_home (q := (.inl (some r), S1)) hst hF) ok_X6_home w (ci := 6) rfl is_6_60.1 is_6_60.2 rfl ⟨by rw [hRF]; exact h1, by rw [hRL]; exact h2⟩ hs d hp rfl k

abbrev I_X6_commit : z_I := (yX6_commit, cX6_commit, 3, some .int)
abbrev R_X6_commit (q : z_O × z_S) : Room := { frames := 5, locals := 114, cells := z_mc q.1, slots := 6 * z_mc q.1 }
def F_X6_commit_159 (B : Nat) (k124 : Int32 → Int32 → z_S → Option (z_O × z_S)) (v1 : Int32) (v2 : Int32) (s0 : Int32) (s1 : Int32) (S : z_S) : Option (z_O × z_S) :=
  z_gd (z_inb s1 96) (
  z_lt (z_ua S 65 (upd (S.1 65) (z_ix (s1)) (vp_nar .boolean s0))) fun S2 =>
  (k124 v1 (v2 + 1) S2))
set_option maxRecDepth 20000 in
set_option maxHeartbeats 16000000 in
theorem ok_X6_commit_159 {l : Launch} {B : Nat} {q : z_O × z_S} (hst : l.stackTraces = false) {k124 : Int32 → Int32 → z_S → Option (z_O × z_S)} (hk124 : ∀ (v1 : Int32) (v2 : Int32) (S : z_S), k124 v1 v2 S = some q → z_W l I_X6_commit (R_X6_commit q) B q 124 [some (.ref 60), some (.int v1), some (.int v2)] [] S) : ∀ (v1 : Int32) (v2 : Int32) (s0 : Int32) (s1 : Int32) (S : z_S), F_X6_commit_159 B k124 v1 v2 s0 s1 S = some q → z_W l I_X6_commit (R_X6_commit q) B q 159 [some (.ref 60), some (.int v1), some (.int v2)] [.int s0, .int s1, .ref 65] S := by
  intro v1 v2 s0 s1 S hF
  unfold F_X6_commit_159 at hF
  obtain ⟨g1, hF⟩ := z_gde hF
  refine z_zastore (pc' := 160) (ar_6_f8 is_6_60) (z_inbe g1) dX6_commit_159 rfl (fun S2 eS2 => ?_)
  replace hF := z_lte hF S2 eS2
  refine z_iinc (v := v2 + 1) (pc' := 163) dX6_commit_160 rfl rfl (by decide) rfl rfl ?_
  refine z_goto (pc' := 124) dX6_commit_163 (by decide) ?_
  refine z_wk (ls' := [some (.ref 60), some (.int v1), some (.int (v2 + 1))]) (z_lec rfl (z_lec rfl (z_lec rfl z_le0))) ?_
  exact hk124 _ _ _ hF
def F_X6_commit_154 (B : Nat) (k159 : Int32 → Int32 → Int32 → Int32 → z_S → Option (z_O × z_S)) (v1 : Int32) (v2 : Int32) (s0 : Int32) (S : z_S) : Option (z_O × z_S) :=
  k159 v1 v2 1 s0 S
set_option maxRecDepth 20000 in
set_option maxHeartbeats 16000000 in
theorem ok_X6_commit_154 {l : Launch} {B : Nat} {q : z_O × z_S} (hst : l.stackTraces = false) {k159 : Int32 → Int32 → Int32 → Int32 → z_S → Option (z_O × z_S)} (hk159 : ∀ (v1 : Int32) (v2 : Int32) (s0 : Int32) (s1 : Int32) (S : z_S), k159 v1 v2 s0 s1 S = some q → z_W l I_X6_commit (R_X6_commit q) B q 159 [some (.ref 60), some (.int v1), some (.int v2)] [.int s0, .int s1, .ref 65] S) : ∀ (v1 : Int32) (v2 : Int32) (s0 : Int32) (S : z_S), F_X6_commit_154 B k159 v1 v2 s0 S = some q → z_W l I_X6_commit (R_X6_commit q) B q 154 [some (.ref 60), some (.int v1), some (.int v2)] [.int s0, .ref 65] S := by
  intro v1 v2 s0 S hF
  unfold F_X6_commit_154 at hF
  refine z_iconst (v := 1) (pc' := 155) dX6_commit_154 (by decide) rfl ?_
  refine z_goto (pc' := 159) dX6_commit_155 (by decide) ?_
  refine z_wk (ls' := [some (.ref 60), some (.int v1), some (.int v2)]) (z_lec rfl (z_lec rfl (z_lec rfl z_le0))) ?_
  exact hk159 _ _ _ _ _ hF
def F_X6_commit_124 (B : Nat)  : Nat → Int32 → Int32 → z_S → Option (z_O × z_S)
  | 0, _, _, _ => none
  | n + 1, v1, v2, S => if (S.2.1 60 1) ≤ v2 then
    z_lt (z_ui S 60 9 ((S.2.1 60 9) + (v1 + 2))) fun S1 =>
    (z_lt (z_ui S1 60 14 ((S1.2.1 60 14) + 1)) fun S2 =>
    (z_bo (F_X6_keep B 61 25366 63 25366 S2) fun S4 =>
    (some (.inl (some (S4.2.1 60 12)), S4))))
  else
    z_gd (z_inb v2 96) (
    z_lt (S.1 65 (z_ix (v2))) fun x7 =>
    (if x7 = 0 then
      z_bn (F_X6_isChanged B v2 S) fun r8 S9 =>
      (if r8 = 0 then
        F_X6_commit_159 B (F_X6_commit_124 B n) v1 v2 0 v2 S9
      else
        F_X6_commit_154 B (F_X6_commit_159 B (F_X6_commit_124 B n) ) v1 v2 v2 S9)
    else
      F_X6_commit_154 B (F_X6_commit_159 B (F_X6_commit_124 B n) ) v1 v2 v2 S))
set_option maxRecDepth 20000 in
set_option maxHeartbeats 16000000 in
theorem ok_X6_commit_124 {l : Launch} {B : Nat} {q : z_O × z_S} (hst : l.stackTraces = false) : ∀ (n : Nat) (v1 : Int32) (v2 : Int32) (S : z_S), F_X6_commit_124 B n v1 v2 S = some q → z_W l I_X6_commit (R_X6_commit q) B q 124 [some (.ref 60), some (.int v1), some (.int v2)] [] S := by
  intro n
  induction n with
  | zero => intro v1 v2 S hF; cases hF
  | succ n ih =>
    intro v1 v2 S hF
    rw [F_X6_commit_124] at hF
    refine z_iload_n (pc' := 125) dX6_commit_124 rfl rfl rfl ?_
    refine z_aload_n (pc' := 126) dX6_commit_125 rfl rfl rfl ?_
    refine gf_X6_30 (pc' := 129) rfl is_6_60 dX6_commit_126 rfl ?_
    refine z_icmp_ge (tgt := 166) (pc' := 132) dX6_commit_129 (by decide) rfl (fun c13 => ?_) (fun c13 => ?_)
    · rw [if_pos c13] at hF
      refine z_aload_n (pc' := 167) dX6_commit_166 rfl rfl rfl ?_
      refine z_dupr (pc' := 168) dX6_commit_167 rfl ?_
      refine gf_X6_223 (pc' := 171) rfl is_6_60 dX6_commit_168 rfl ?_
      refine z_iload_n (pc' := 172) dX6_commit_171 rfl rfl rfl ?_
      refine z_iconst (v := 2) (pc' := 173) dX6_commit_172 (by decide) rfl ?_
      refine z_iadd (pc' := 174) dX6_commit_173 rfl ?_
      refine z_iadd (pc' := 175) dX6_commit_174 rfl ?_
      refine pf_X6_223 (pc' := 178) rfl is_6_60 dX6_commit_175 rfl (fun S1 eS1 => ?_)
      replace hF := z_lte hF S1 eS1
      refine z_aload_n (pc' := 179) dX6_commit_178 rfl rfl rfl ?_
      refine z_dupr (pc' := 180) dX6_commit_179 rfl ?_
      refine gf_X6_236 (pc' := 183) rfl is_6_60 dX6_commit_180 rfl ?_
      refine z_iconst (v := 1) (pc' := 184) dX6_commit_183 (by decide) rfl ?_
      refine z_iadd (pc' := 185) dX6_commit_184 rfl ?_
      refine pf_X6_236 (pc' := 188) rfl is_6_60 dX6_commit_185 rfl (fun S2 eS2 => ?_)
      replace hF := z_lte hF S2 eS2
      refine z_aload_n (pc' := 189) dX6_commit_188 rfl rfl rfl ?_
      refine gf_X6_7 (b := 61) (pc' := 192) rfl is_6_60 rfl dX6_commit_189 rfl ?_
      refine z_aload_n (pc' := 193) dX6_commit_192 rfl rfl rfl ?_
      refine gf_X6_16 (b := 63) (pc' := 196) rfl is_6_60 rfl dX6_commit_193 rfl ?_
      obtain ⟨S4, hc5, hF⟩ := z_boe hF
      refine k_X6_keep (F := 5) (L := 114) (pc' := 199) (ar_6_f3 is_6_60) (ar_6_f5 is_6_60) hc5 hst zw_134 rfl rfl (by decide) (by decide) (by decide) dX6_commit_196 rfl ?_
      refine z_aload_n (pc' := 200) dX6_commit_199 rfl rfl rfl ?_
      refine gf_X6_217 (pc' := 203) rfl is_6_60 dX6_commit_200 rfl ?_
      exact z_ireturn rfl dX6_commit_203 (Option.some.inj hF).symm
    · rw [if_neg c13] at hF
      refine z_aload_n (pc' := 133) dX6_commit_132 rfl rfl rfl ?_
      refine gf_X6_22 (b := 65) (pc' := 136) rfl is_6_60 rfl dX6_commit_133 rfl ?_
      refine z_iload_n (pc' := 137) dX6_commit_136 rfl rfl rfl ?_
      refine z_aload_n (pc' := 138) dX6_commit_137 rfl rfl rfl ?_
      refine gf_X6_22 (b := 65) (pc' := 141) rfl is_6_60 rfl dX6_commit_138 rfl ?_
      refine z_iload_n (pc' := 142) dX6_commit_141 rfl rfl rfl ?_
      obtain ⟨g6, hF⟩ := z_gde hF
      refine z_zaload (pc' := 143) (ar_6_f8 is_6_60) (z_inbe g6) dX6_commit_142 rfl ?_
      refine z_topi (fun x7 ex7 => ?_)
      replace hF := z_lte hF x7 ex7
      refine z_if_ne (tgt := 154) (pc' := 146) dX6_commit_143 (by decide) rfl (fun c12 => ?_) (fun c12 => ?_)
      · rw [if_neg c12] at hF
        refine z_wk (ls' := [some (.ref 60), some (.int v1), some (.int v2)]) (z_lec rfl (z_lec rfl (z_lec rfl z_le0))) ?_
        exact (ok_X6_commit_154 hst (ok_X6_commit_159 hst ih)) _ _ _ _ hF
      · rw [if_pos c12] at hF
        refine z_aload_n (pc' := 147) dX6_commit_146 rfl rfl rfl ?_
        refine z_iload_n (pc' := 148) dX6_commit_147 rfl rfl rfl ?_
        obtain ⟨r8, S9, hc10, hF⟩ := z_bne hF
        refine k_X6_isChanged (F := 5) (L := 114) (pc' := 151) hc10 hst zw_155 rfl rfl (by decide) (by decide) (Nat.le_of_ble_eq_true rfl) dX6_commit_148 rfl ?_
        refine z_if_eq (tgt := 158) (pc' := 154) dX6_commit_151 (by decide) rfl (fun c11 => ?_) (fun c11 => ?_)
        · rw [if_pos c11] at hF
          refine z_iconst (v := 0) (pc' := 159) dX6_commit_158 (by decide) rfl ?_
          refine z_wk (ls' := [some (.ref 60), some (.int v1), some (.int v2)]) (z_lec rfl (z_lec rfl (z_lec rfl z_le0))) ?_
          exact (ok_X6_commit_159 hst ih) _ _ _ _ _ hF
        · rw [if_neg c11] at hF
          refine z_wk (ls' := [some (.ref 60), some (.int v1), some (.int v2)]) (z_lec rfl (z_lec rfl (z_lec rfl z_le0))) ?_
          exact (ok_X6_commit_154 hst (ok_X6_commit_159 hst ih)) _ _ _ _ hF
def F_X6_commit_97 (B : Nat)  : Nat → Int32 → Int32 → z_S → Option (z_O × z_S)
  | 0, _, _, _ => none
  | n + 1, v1, v2, S => if (v1 + 2) ≤ v2 then
    F_X6_commit_124 B z_n v1 0 S
  else
    z_bn (F_X6_goes B S) fun r1 S2 =>
    (if r1 = 0 then
      some (.inl (some (S2.2.1 60 12)), S2)
    else
      F_X6_commit_97 B n v1 (v2 + 1) S2)
set_option maxRecDepth 20000 in
set_option maxHeartbeats 16000000 in
theorem ok_X6_commit_97 {l : Launch} {B : Nat} {q : z_O × z_S} (hst : l.stackTraces = false) : ∀ (n : Nat) (v1 : Int32) (v2 : Int32) (S : z_S), F_X6_commit_97 B n v1 v2 S = some q → z_W l I_X6_commit (R_X6_commit q) B q 97 [some (.ref 60), some (.int v1), some (.int v2)] [] S := by
  intro n
  induction n with
  | zero => intro v1 v2 S hF; cases hF
  | succ n ih =>
    intro v1 v2 S hF
    rw [F_X6_commit_97] at hF
    refine z_iload_n (pc' := 98) dX6_commit_97 rfl rfl rfl ?_
    refine z_iload_n (pc' := 99) dX6_commit_98 rfl rfl rfl ?_
    refine z_iconst (v := 2) (pc' := 100) dX6_commit_99 (by decide) rfl ?_
    refine z_iadd (pc' := 101) dX6_commit_100 rfl ?_
    refine z_icmp_ge (tgt := 122) (pc' := 104) dX6_commit_101 (by decide) rfl (fun c5 => ?_) (fun c5 => ?_)
    · rw [if_pos c5] at hF
      refine z_iconst (v := 0) (pc' := 123) dX6_commit_122 (by decide) rfl ?_
      refine z_istore_n (pc' := 124) dX6_commit_123 rfl (by decide) rfl rfl ?_
      refine z_wk (ls' := [some (.ref 60), some (.int v1), some (.int 0)]) (z_lec rfl (z_lec rfl (z_lec rfl z_le0))) ?_
      exact (ok_X6_commit_124 hst z_n) _ _ _ hF
    · rw [if_neg c5] at hF
      refine z_aload_n (pc' := 105) dX6_commit_104 rfl rfl rfl ?_
      obtain ⟨r1, S2, hc3, hF⟩ := z_bne hF
      refine k_X6_goes (F := 5) (L := 114) (pc' := 108) hc3 hst zw_156 rfl rfl (by decide) (by decide) (by decide) dX6_commit_105 rfl ?_
      refine z_if_ne (tgt := 116) (pc' := 111) dX6_commit_108 (by decide) rfl (fun c4 => ?_) (fun c4 => ?_)
      · rw [if_neg c4] at hF
        refine z_iinc (v := v2 + 1) (pc' := 119) dX6_commit_116 rfl rfl (by decide) rfl rfl ?_
        refine z_goto (pc' := 97) dX6_commit_119 (by decide) ?_
        refine z_wk (ls' := [some (.ref 60), some (.int v1), some (.int (v2 + 1))]) (z_lec rfl (z_lec rfl (z_lec rfl z_le0))) ?_
        exact ih _ _ _ hF
      · rw [if_pos c4] at hF
        refine z_aload_n (pc' := 112) dX6_commit_111 rfl rfl rfl ?_
        refine gf_X6_217 (pc' := 115) rfl is_6_60 dX6_commit_112 rfl ?_
        exact z_ireturn rfl dX6_commit_115 (Option.some.inj hF).symm
def F_X6_commit_95 (B : Nat)  (v1 : Int32) (S : z_S) : Option (z_O × z_S) :=
  F_X6_commit_97 B z_n v1 0 S
set_option maxRecDepth 20000 in
set_option maxHeartbeats 16000000 in
theorem ok_X6_commit_95 {l : Launch} {B : Nat} {q : z_O × z_S} (hst : l.stackTraces = false) : ∀ (v1 : Int32) (S : z_S), F_X6_commit_95 B v1 S = some q → z_W l I_X6_commit (R_X6_commit q) B q 95 [some (.ref 60), some (.int v1), none] [] S := by
  intro v1 S hF
  unfold F_X6_commit_95 at hF
  refine z_iconst (v := 0) (pc' := 96) dX6_commit_95 (by decide) rfl ?_
  refine z_istore_n (pc' := 97) dX6_commit_96 rfl (by decide) rfl rfl ?_
  refine z_wk (ls' := [some (.ref 60), some (.int v1), some (.int 0)]) (z_lec rfl (z_lec rfl (z_lec rfl z_le0))) ?_
  exact (ok_X6_commit_97 hst z_n) _ _ _ hF
def F_X6_commit_61 (B : Nat)   (S : z_S) : Option (z_O × z_S) :=
  some (.inl (some 0), S)
set_option maxRecDepth 20000 in
set_option maxHeartbeats 16000000 in
theorem ok_X6_commit_61 {l : Launch} {B : Nat} {q : z_O × z_S} (hst : l.stackTraces = false) : ∀ (S : z_S), F_X6_commit_61 B S = some q → z_W l I_X6_commit (R_X6_commit q) B q 61 [none, none, none] [] S := by
  intro S hF
  unfold F_X6_commit_61 at hF
  refine z_iconst (v := 0) (pc' := 62) dX6_commit_61 (by decide) rfl ?_
  exact z_ireturn rfl dX6_commit_62 (Option.some.inj hF).symm
def F_X6_commit_47 (B : Nat)  (v1 : Int32) (s0 : Int32) (S : z_S) : Option (z_O × z_S) :=
  z_lt (z_ui S 60 0 s0) fun S1 =>
  (if 0 < (S1.2.1 60 0) then
    F_X6_commit_61 B S1
  else
    if v1 = 0 then
      F_X6_commit_61 B S1
    else
      z_lt (z_ui S1 60 12 0) fun S2 =>
      (if (((S2.2.1 60 9) + v1) + 2) ≤ (S2.2.1 60 2) then
        F_X6_commit_95 B v1 S2
      else
        z_bn (F_X6_home B S2) fun r3 S4 =>
        (if r3 = 0 then
          some (.inl (some (S4.2.1 60 12)), S4)
        else
          F_X6_commit_95 B v1 S4)))
set_option maxRecDepth 20000 in
set_option maxHeartbeats 16000000 in
theorem ok_X6_commit_47 {l : Launch} {B : Nat} {q : z_O × z_S} (hst : l.stackTraces = false) : ∀ (v1 : Int32) (s0 : Int32) (S : z_S), F_X6_commit_47 B v1 s0 S = some q → z_W l I_X6_commit (R_X6_commit q) B q 47 [some (.ref 60), some (.int v1), none] [.int s0, .ref 60] S := by
  intro v1 s0 S hF
  unfold F_X6_commit_47 at hF
  refine pf_X6_40 (pc' := 50) rfl is_6_60 dX6_commit_47 rfl (fun S1 eS1 => ?_)
  replace hF := z_lte hF S1 eS1
  refine z_aload_n (pc' := 51) dX6_commit_50 rfl rfl rfl ?_
  refine gf_X6_40 (pc' := 54) rfl is_6_60 dX6_commit_51 rfl ?_
  refine z_if_gt (tgt := 61) (pc' := 57) dX6_commit_54 (by decide) rfl (fun c9 => ?_) (fun c9 => ?_)
  · rw [if_pos c9] at hF
    refine z_wk (ls' := [none, none, none]) (z_len1 (z_len1 (z_len1 z_le0))) ?_
    exact (ok_X6_commit_61 hst) _ hF
  · rw [if_neg c9] at hF
    refine z_iload_n (pc' := 58) dX6_commit_57 rfl rfl rfl ?_
    refine z_if_ne (tgt := 63) (pc' := 61) dX6_commit_58 (by decide) rfl (fun c8 => ?_) (fun c8 => ?_)
    · rw [if_neg c8] at hF
      refine z_aload_n (pc' := 64) dX6_commit_63 rfl rfl rfl ?_
      refine z_iconst (v := 0) (pc' := 65) dX6_commit_64 (by decide) rfl ?_
      refine pf_X6_217 (pc' := 68) rfl is_6_60 dX6_commit_65 rfl (fun S2 eS2 => ?_)
      replace hF := z_lte hF S2 eS2
      refine z_aload_n (pc' := 69) dX6_commit_68 rfl rfl rfl ?_
      refine gf_X6_223 (pc' := 72) rfl is_6_60 dX6_commit_69 rfl ?_
      refine z_iload_n (pc' := 73) dX6_commit_72 rfl rfl rfl ?_
      refine z_iadd (pc' := 74) dX6_commit_73 rfl ?_
      refine z_iconst (v := 2) (pc' := 75) dX6_commit_74 (by decide) rfl ?_
      refine z_iadd (pc' := 76) dX6_commit_75 rfl ?_
      refine z_aload_n (pc' := 77) dX6_commit_76 rfl rfl rfl ?_
      refine gf_X6_33 (pc' := 80) rfl is_6_60 dX6_commit_77 rfl ?_
      refine z_icmp_le (tgt := 95) (pc' := 83) dX6_commit_80 (by decide) rfl (fun c7 => ?_) (fun c7 => ?_)
      · rw [if_pos c7] at hF
        refine z_wk (ls' := [some (.ref 60), some (.int v1), none]) (z_lec rfl (z_lec rfl (z_len1 z_le0))) ?_
        exact (ok_X6_commit_95 hst) _ _ hF
      · rw [if_neg c7] at hF
        refine z_aload_n (pc' := 84) dX6_commit_83 rfl rfl rfl ?_
        obtain ⟨r3, S4, hc5, hF⟩ := z_bne hF
        refine k_X6_home (F := 5) (L := 114) (pc' := 87) hc5 hst zw_158 rfl rfl (by decide) (by decide) (by decide) dX6_commit_84 rfl ?_
        refine z_if_ne (tgt := 95) (pc' := 90) dX6_commit_87 (by decide) rfl (fun c6 => ?_) (fun c6 => ?_)
        · rw [if_neg c6] at hF
          refine z_wk (ls' := [some (.ref 60), some (.int v1), none]) (z_lec rfl (z_lec rfl (z_len1 z_le0))) ?_
          exact (ok_X6_commit_95 hst) _ _ hF
        · rw [if_pos c6] at hF
          refine z_aload_n (pc' := 91) dX6_commit_90 rfl rfl rfl ?_
          refine gf_X6_217 (pc' := 94) rfl is_6_60 dX6_commit_91 rfl ?_
          exact z_ireturn rfl dX6_commit_94 (Option.some.inj hF).symm
    · rw [if_pos c8] at hF
      refine z_wk (ls' := [none, none, none]) (z_len1 (z_len1 (z_len1 z_le0))) ?_
      exact (ok_X6_commit_61 hst) _ hF
def F_X6_commit_46 (B : Nat) (k47 : Int32 → Int32 → z_S → Option (z_O × z_S)) (v1 : Int32) (S : z_S) : Option (z_O × z_S) :=
  k47 v1 0 S
set_option maxRecDepth 20000 in
set_option maxHeartbeats 16000000 in
theorem ok_X6_commit_46 {l : Launch} {B : Nat} {q : z_O × z_S} (hst : l.stackTraces = false) {k47 : Int32 → Int32 → z_S → Option (z_O × z_S)} (hk47 : ∀ (v1 : Int32) (s0 : Int32) (S : z_S), k47 v1 s0 S = some q → z_W l I_X6_commit (R_X6_commit q) B q 47 [some (.ref 60), some (.int v1), none] [.int s0, .ref 60] S) : ∀ (v1 : Int32) (S : z_S), F_X6_commit_46 B k47 v1 S = some q → z_W l I_X6_commit (R_X6_commit q) B q 46 [some (.ref 60), some (.int v1), none] [.ref 60] S := by
  intro v1 S hF
  unfold F_X6_commit_46 at hF
  refine z_iconst (v := 0) (pc' := 47) dX6_commit_46 (by decide) rfl ?_
  refine z_wk (ls' := [some (.ref 60), some (.int v1), none]) (z_lec rfl (z_lec rfl (z_len1 z_le0))) ?_
  exact hk47 _ _ _ hF
def F_X6_commit_15 (B : Nat)  (s0 : Int32) (S : z_S) : Option (z_O × z_S) :=
  if (S.2.1 60 10) = 0 then
    if s0 ≤ 0 then
      F_X6_commit_46 B (F_X6_commit_47 B ) s0 S
    else
      if (s0 + 2) ≤ (S.2.1 60 2) then
        F_X6_commit_46 B (F_X6_commit_47 B ) s0 S
      else
        F_X6_commit_47 B s0 2 S
  else
    F_X6_commit_47 B s0 1 S
set_option maxRecDepth 20000 in
set_option maxHeartbeats 16000000 in
theorem ok_X6_commit_15 {l : Launch} {B : Nat} {q : z_O × z_S} (hst : l.stackTraces = false) : ∀ (s0 : Int32) (S : z_S), F_X6_commit_15 B s0 S = some q → z_W l I_X6_commit (R_X6_commit q) B q 15 [some (.ref 60), none, none] [.int s0] S := by
  intro s0 S hF
  unfold F_X6_commit_15 at hF
  refine z_istore_n (pc' := 16) dX6_commit_15 rfl (by decide) rfl rfl ?_
  refine z_aload_n (pc' := 17) dX6_commit_16 rfl rfl rfl ?_
  refine z_aload_n (pc' := 18) dX6_commit_17 rfl rfl rfl ?_
  refine gf_X6_149 (pc' := 21) rfl is_6_60 dX6_commit_18 rfl ?_
  refine z_if_eq (tgt := 28) (pc' := 24) dX6_commit_21 (by decide) rfl (fun c3 => ?_) (fun c3 => ?_)
  · rw [if_pos c3] at hF
    refine z_iload_n (pc' := 29) dX6_commit_28 rfl rfl rfl ?_
    refine z_if_le (tgt := 46) (pc' := 32) dX6_commit_29 (by decide) rfl (fun c2 => ?_) (fun c2 => ?_)
    · rw [if_pos c2] at hF
      refine z_wk (ls' := [some (.ref 60), some (.int s0), none]) (z_lec rfl (z_lec rfl (z_len1 z_le0))) ?_
      exact (ok_X6_commit_46 hst (ok_X6_commit_47 hst)) _ _ hF
    · rw [if_neg c2] at hF
      refine z_iload_n (pc' := 33) dX6_commit_32 rfl rfl rfl ?_
      refine z_iconst (v := 2) (pc' := 34) dX6_commit_33 (by decide) rfl ?_
      refine z_iadd (pc' := 35) dX6_commit_34 rfl ?_
      refine z_aload_n (pc' := 36) dX6_commit_35 rfl rfl rfl ?_
      refine gf_X6_33 (pc' := 39) rfl is_6_60 dX6_commit_36 rfl ?_
      refine z_icmp_le (tgt := 46) (pc' := 42) dX6_commit_39 (by decide) rfl (fun c1 => ?_) (fun c1 => ?_)
      · rw [if_pos c1] at hF
        refine z_wk (ls' := [some (.ref 60), some (.int s0), none]) (z_lec rfl (z_lec rfl (z_len1 z_le0))) ?_
        exact (ok_X6_commit_46 hst (ok_X6_commit_47 hst)) _ _ hF
      · rw [if_neg c1] at hF
        refine z_iconst (v := 2) (pc' := 43) dX6_commit_42 (by decide) rfl ?_
        refine z_goto (pc' := 47) dX6_commit_43 (by decide) ?_
        refine z_wk (ls' := [some (.ref 60), some (.int s0), none]) (z_lec rfl (z_lec rfl (z_len1 z_le0))) ?_
        exact (ok_X6_commit_47 hst) _ _ _ hF
  · rw [if_neg c3] at hF
    refine z_iconst (v := 1) (pc' := 25) dX6_commit_24 (by decide) rfl ?_
    refine z_goto (pc' := 47) dX6_commit_25 (by decide) ?_
    refine z_wk (ls' := [some (.ref 60), some (.int s0), none]) (z_lec rfl (z_lec rfl (z_len1 z_le0))) ?_
    exact (ok_X6_commit_47 hst) _ _ _ hF
def F_X6_commit (B : Nat)  (S : z_S) : Option (z_O × z_S) :=
  if (S.2.1 60 10) = 0 then
    z_bn (F_X6_changed B S) fun r1 S2 =>
    (F_X6_commit_15 B r1 S2)
  else
    F_X6_commit_15 B 0 S
set_option maxRecDepth 20000 in
set_option maxHeartbeats 16000000 in
theorem c_X6_commit {l : Launch} {B : Nat}  {S : z_S} {q : z_O × z_S} (hst : l.stackTraces = false) (hF : F_X6_commit B S = some q) : z_Met l I_X6_commit 5 114 B [.ref 60] S q.1 q.2 := by
  refine z_enter (ls := [some (.ref 60), none, none]) (n := 2) (by decide) rfl (Nat.le_of_ble_eq_true rfl) hst ?_
  unfold F_X6_commit at hF
  refine z_aload_n (pc' := 1) dX6_commit_0 rfl rfl rfl ?_
  refine gf_X6_149 (pc' := 4) rfl is_6_60 dX6_commit_1 rfl ?_
  refine z_if_eq (tgt := 11) (pc' := 7) dX6_commit_4 (by decide) rfl (fun c4 => ?_) (fun c4 => ?_)
  · rw [if_pos c4] at hF
    refine z_aload_n (pc' := 12) dX6_commit_11 rfl rfl rfl ?_
    obtain ⟨r1, S2, hc3, hF⟩ := z_bne hF
    refine k_X6_changed (F := 5) (L := 114) (pc' := 15) hc3 hst zw_157 rfl rfl (by decide) (by decide) (by decide) dX6_commit_12 rfl ?_
    refine z_wk (ls' := [some (.ref 60), none, none]) (z_lec rfl (z_len1 (z_len1 z_le0))) ?_
    exact (ok_X6_commit_15 hst) _ _ hF
  · rw [if_neg c4] at hF
    refine z_iconst (v := 0) (pc' := 8) dX6_commit_7 (by decide) rfl ?_
    refine z_goto (pc' := 15) dX6_commit_8 (by decide) ?_
    refine z_wk (ls' := [some (.ref 60), none, none]) (z_lec rfl (z_len1 (z_len1 z_le0))) ?_
    exact (ok_X6_commit_15 hst) _ _ hF
theorem ok_X6_commit : z_okV I_X6_commit 0 := ⟨⟨z_Gin (List.mem_of_getElem? (i := 1197) (by decide +kernel)) rfl, z_Gin (List.mem_of_getElem? (i := 1198) (by decide +kernel)) rfl, z_Gin (List.mem_of_getElem? (i := 98) (by decide +kernel)) rfl, z_Gin (List.mem_of_getElem? (i := 1199) (by decide +kernel)) rfl⟩, by decide, by decide, by decide +kernel⟩
theorem k_X6_commit {l : Launch} {I : z_I} {R : Room} {B : Nat}  {q : z_O × z_S} {pc pc' : Nat} {ls : List (Option Value)} {st : List Value} {S S1 : z_S} {idx F L : Nat} {r : Int32}  (hF : F_X6_commit B S = some (.inl (some r), S1)) (hst : l.stackTraces = false) (w : Cond.methodLink I.1.cls idx yX6_commit ∈ z_G) (hRF : R.frames = F) (hRL : R.locals = L) (h1 : 6 ≤ F) (h2 : 136 ≤ L) (hs : (st.map fun v => v.category).sum ≤ 8) (d : decode I.2.1 pc = .ok (.invokevirtual idx, 3)) (hp : pc + 3 = pc') (k : z_W l I R B q pc' ls (.int r :: st) S1) : z_W l I R B q pc ls (.ref 60 :: st) S := z_callV (Y := I_X6_commit) (As := []) (st := st) (r := (some r)) (S1 := S1) (c_X6_commit (q := (.inl (some r), S1)) hst hF) ok_X6_commit w (ci := 6) rfl is_6_60.1 is_6_60.2 rfl ⟨by rw [hRF]; exact h1, by rw [hRL]; exact h2⟩ hs d hp rfl k

abbrev I_X6_checkpoint : z_I := (yX6_checkpoint, cX6_checkpoint, 2, some .int)
abbrev R_X6_checkpoint (q : z_O × z_S) : Room := { frames := 2, locals := 41, cells := z_mc q.1, slots := 6 * z_mc q.1 }
def F_X6_checkpoint_13 (B : Nat)  (s0 : Int32) (S : z_S) : Option (z_O × z_S) :=
  z_lt (z_ui S 60 0 s0) fun S1 =>
  (if (S1.2.1 60 0) ≤ 0 then
    z_lt (z_ui S1 60 12 0) fun S2 =>
    (z_bn (F_X6_home B S2) fun r3 S4 =>
    (some (.inl (some (S4.2.1 60 12)), S4)))
  else
    some (.inl (some 0), S1))
set_option maxRecDepth 20000 in
set_option maxHeartbeats 16000000 in
theorem ok_X6_checkpoint_13 {l : Launch} {B : Nat} {q : z_O × z_S} (hst : l.stackTraces = false) : ∀ (s0 : Int32) (S : z_S), F_X6_checkpoint_13 B s0 S = some q → z_W l I_X6_checkpoint (R_X6_checkpoint q) B q 13 [some (.ref 60), none] [.int s0, .ref 60] S := by
  intro s0 S hF
  unfold F_X6_checkpoint_13 at hF
  refine pf_X6_40 (pc' := 16) rfl is_6_60 dX6_checkpoint_13 rfl (fun S1 eS1 => ?_)
  replace hF := z_lte hF S1 eS1
  refine z_aload_n (pc' := 17) dX6_checkpoint_16 rfl rfl rfl ?_
  refine gf_X6_40 (pc' := 20) rfl is_6_60 dX6_checkpoint_17 rfl ?_
  refine z_if_le (tgt := 25) (pc' := 23) dX6_checkpoint_20 (by decide) rfl (fun c6 => ?_) (fun c6 => ?_)
  · rw [if_pos c6] at hF
    refine z_aload_n (pc' := 26) dX6_checkpoint_25 rfl rfl rfl ?_
    refine z_iconst (v := 0) (pc' := 27) dX6_checkpoint_26 (by decide) rfl ?_
    refine pf_X6_217 (pc' := 30) rfl is_6_60 dX6_checkpoint_27 rfl (fun S2 eS2 => ?_)
    replace hF := z_lte hF S2 eS2
    refine z_aload_n (pc' := 31) dX6_checkpoint_30 rfl rfl rfl ?_
    obtain ⟨r3, S4, hc5, hF⟩ := z_bne hF
    refine k_X6_home (F := 2) (L := 41) (pc' := 34) hc5 hst zw_158 rfl rfl (by decide) (by decide) (by decide) dX6_checkpoint_31 rfl ?_
    refine z_istore_n (pc' := 35) dX6_checkpoint_34 rfl (by decide) rfl rfl ?_
    refine z_aload_n (pc' := 36) dX6_checkpoint_35 rfl rfl rfl ?_
    refine gf_X6_217 (pc' := 39) rfl is_6_60 dX6_checkpoint_36 rfl ?_
    exact z_ireturn rfl dX6_checkpoint_39 (Option.some.inj hF).symm
  · rw [if_neg c6] at hF
    refine z_iconst (v := 0) (pc' := 24) dX6_checkpoint_23 (by decide) rfl ?_
    exact z_ireturn rfl dX6_checkpoint_24 (Option.some.inj hF).symm
def F_X6_checkpoint (B : Nat)  (S : z_S) : Option (z_O × z_S) :=
  if (S.2.1 60 10) = 0 then
    F_X6_checkpoint_13 B 0 S
  else
    F_X6_checkpoint_13 B 1 S
set_option maxRecDepth 20000 in
set_option maxHeartbeats 16000000 in
theorem c_X6_checkpoint {l : Launch} {B : Nat}  {S : z_S} {q : z_O × z_S} (hst : l.stackTraces = false) (hF : F_X6_checkpoint B S = some q) : z_Met l I_X6_checkpoint 2 41 B [.ref 60] S q.1 q.2 := by
  refine z_enter (ls := [some (.ref 60), none]) (n := 1) (by decide) rfl (Nat.le_of_ble_eq_true rfl) hst ?_
  unfold F_X6_checkpoint at hF
  refine z_aload_n (pc' := 1) dX6_checkpoint_0 rfl rfl rfl ?_
  refine z_aload_n (pc' := 2) dX6_checkpoint_1 rfl rfl rfl ?_
  refine gf_X6_149 (pc' := 5) rfl is_6_60 dX6_checkpoint_2 rfl ?_
  refine z_if_eq (tgt := 12) (pc' := 8) dX6_checkpoint_5 (by decide) rfl (fun c1 => ?_) (fun c1 => ?_)
  · rw [if_pos c1] at hF
    refine z_iconst (v := 0) (pc' := 13) dX6_checkpoint_12 (by decide) rfl ?_
    refine z_wk (ls' := [some (.ref 60), none]) (z_lec rfl (z_len1 z_le0)) ?_
    exact (ok_X6_checkpoint_13 hst) _ _ hF
  · rw [if_neg c1] at hF
    refine z_iconst (v := 1) (pc' := 9) dX6_checkpoint_8 (by decide) rfl ?_
    refine z_goto (pc' := 13) dX6_checkpoint_9 (by decide) ?_
    refine z_wk (ls' := [some (.ref 60), none]) (z_lec rfl (z_len1 z_le0)) ?_
    exact (ok_X6_checkpoint_13 hst) _ _ hF
theorem ok_X6_checkpoint : z_okV I_X6_checkpoint 0 := ⟨⟨z_Gin (List.mem_of_getElem? (i := 1236) (by decide +kernel)) rfl, z_Gin (List.mem_of_getElem? (i := 1237) (by decide +kernel)) rfl, z_Gin (List.mem_of_getElem? (i := 98) (by decide +kernel)) rfl, z_Gin (List.mem_of_getElem? (i := 1238) (by decide +kernel)) rfl⟩, by decide, by decide, by decide +kernel⟩
theorem k_X6_checkpoint {l : Launch} {I : z_I} {R : Room} {B : Nat}  {q : z_O × z_S} {pc pc' : Nat} {ls : List (Option Value)} {st : List Value} {S S1 : z_S} {idx F L : Nat} {r : Int32}  (hF : F_X6_checkpoint B S = some (.inl (some r), S1)) (hst : l.stackTraces = false) (w : Cond.methodLink I.1.cls idx yX6_checkpoint ∈ z_G) (hRF : R.frames = F) (hRL : R.locals = L) (h1 : 3 ≤ F) (h2 : 62 ≤ L) (hs : (st.map fun v => v.category).sum ≤ 8) (d : decode I.2.1 pc = .ok (.invokevirtual idx, 3)) (hp : pc + 3 = pc') (k : z_W l I R B q pc' ls (.int r :: st) S1) : z_W l I R B q pc ls (.ref 60 :: st) S := z_callV (Y := I_X6_checkpoint) (As := []) (st := st) (r := (some r)) (S1 := S1) (c_X6_checkpoint (q := (.inl (some r), S1)) hst hF) ok_X6_checkpoint w (ci := 6) rfl is_6_60.1 is_6_60.2 rfl ⟨by rw [hRF]; exact h1, by rw [hRL]; exact h2⟩ hs d hp rfl k

abbrev I_X6_back : z_I := (yX6_back, cX6_back, 2, some .int)
abbrev R_X6_back (q : z_O × z_S) : Room := { frames := 5, locals := 114, cells := z_mc q.1, slots := 6 * z_mc q.1 }
def F_X6_back_13 (B : Nat)  (s0 : Int32) (S : z_S) : Option (z_O × z_S) :=
  z_lt (z_ui S 60 0 s0) fun S1 =>
  (if (S1.2.1 60 0) ≤ 0 then
    z_bn (F_X6_changed B S1) fun r2 S3 =>
    (z_bo (F_X6_keep B 63 25366 61 25366 S3) fun S6 =>
    (some (.inl (some r2), S6)))
  else
    some (.inl (some 0), S1))
set_option maxRecDepth 20000 in
set_option maxHeartbeats 16000000 in
theorem ok_X6_back_13 {l : Launch} {B : Nat} {q : z_O × z_S} (hst : l.stackTraces = false) : ∀ (s0 : Int32) (S : z_S), F_X6_back_13 B s0 S = some q → z_W l I_X6_back (R_X6_back q) B q 13 [some (.ref 60), none] [.int s0, .ref 60] S := by
  intro s0 S hF
  unfold F_X6_back_13 at hF
  refine pf_X6_40 (pc' := 16) rfl is_6_60 dX6_back_13 rfl (fun S1 eS1 => ?_)
  replace hF := z_lte hF S1 eS1
  refine z_aload_n (pc' := 17) dX6_back_16 rfl rfl rfl ?_
  refine gf_X6_40 (pc' := 20) rfl is_6_60 dX6_back_17 rfl ?_
  refine z_if_le (tgt := 25) (pc' := 23) dX6_back_20 (by decide) rfl (fun c8 => ?_) (fun c8 => ?_)
  · rw [if_pos c8] at hF
    refine z_aload_n (pc' := 26) dX6_back_25 rfl rfl rfl ?_
    obtain ⟨r2, S3, hc4, hF⟩ := z_bne hF
    refine k_X6_changed (F := 5) (L := 114) (pc' := 29) hc4 hst zw_157 rfl rfl (by decide) (by decide) (by decide) dX6_back_26 rfl ?_
    refine z_istore_n (pc' := 30) dX6_back_29 rfl (by decide) rfl rfl ?_
    refine z_aload_n (pc' := 31) dX6_back_30 rfl rfl rfl ?_
    refine gf_X6_16 (b := 63) (pc' := 34) rfl is_6_60 rfl dX6_back_31 rfl ?_
    refine z_aload_n (pc' := 35) dX6_back_34 rfl rfl rfl ?_
    refine gf_X6_7 (b := 61) (pc' := 38) rfl is_6_60 rfl dX6_back_35 rfl ?_
    obtain ⟨S6, hc7, hF⟩ := z_boe hF
    refine k_X6_keep (F := 5) (L := 114) (pc' := 41) (ar_6_f5 is_6_60) (ar_6_f3 is_6_60) hc7 hst zw_134 rfl rfl (by decide) (by decide) (by decide) dX6_back_38 rfl ?_
    refine z_iload_n (pc' := 42) dX6_back_41 rfl rfl rfl ?_
    exact z_ireturn rfl dX6_back_42 (Option.some.inj hF).symm
  · rw [if_neg c8] at hF
    refine z_iconst (v := 0) (pc' := 24) dX6_back_23 (by decide) rfl ?_
    exact z_ireturn rfl dX6_back_24 (Option.some.inj hF).symm
def F_X6_back (B : Nat)  (S : z_S) : Option (z_O × z_S) :=
  if (S.2.1 60 10) = 0 then
    F_X6_back_13 B 0 S
  else
    F_X6_back_13 B 1 S
set_option maxRecDepth 20000 in
set_option maxHeartbeats 16000000 in
theorem c_X6_back {l : Launch} {B : Nat}  {S : z_S} {q : z_O × z_S} (hst : l.stackTraces = false) (hF : F_X6_back B S = some q) : z_Met l I_X6_back 5 114 B [.ref 60] S q.1 q.2 := by
  refine z_enter (ls := [some (.ref 60), none]) (n := 1) (by decide) rfl (Nat.le_of_ble_eq_true rfl) hst ?_
  unfold F_X6_back at hF
  refine z_aload_n (pc' := 1) dX6_back_0 rfl rfl rfl ?_
  refine z_aload_n (pc' := 2) dX6_back_1 rfl rfl rfl ?_
  refine gf_X6_149 (pc' := 5) rfl is_6_60 dX6_back_2 rfl ?_
  refine z_if_eq (tgt := 12) (pc' := 8) dX6_back_5 (by decide) rfl (fun c1 => ?_) (fun c1 => ?_)
  · rw [if_pos c1] at hF
    refine z_iconst (v := 0) (pc' := 13) dX6_back_12 (by decide) rfl ?_
    refine z_wk (ls' := [some (.ref 60), none]) (z_lec rfl (z_len1 z_le0)) ?_
    exact (ok_X6_back_13 hst) _ _ hF
  · rw [if_neg c1] at hF
    refine z_iconst (v := 1) (pc' := 9) dX6_back_8 (by decide) rfl ?_
    refine z_goto (pc' := 13) dX6_back_9 (by decide) ?_
    refine z_wk (ls' := [some (.ref 60), none]) (z_lec rfl (z_len1 z_le0)) ?_
    exact (ok_X6_back_13 hst) _ _ hF
theorem ok_X6_back : z_okV I_X6_back 0 := ⟨⟨z_Gin (List.mem_of_getElem? (i := 1240) (by decide +kernel)) rfl, z_Gin (List.mem_of_getElem? (i := 1241) (by decide +kernel)) rfl, z_Gin (List.mem_of_getElem? (i := 98) (by decide +kernel)) rfl, z_Gin (List.mem_of_getElem? (i := 1242) (by decide +kernel)) rfl⟩, by decide, by decide, by decide +kernel⟩
theorem k_X6_back {l : Launch} {I : z_I} {R : Room} {B : Nat}  {q : z_O × z_S} {pc pc' : Nat} {ls : List (Option Value)} {st : List Value} {S S1 : z_S} {idx F L : Nat} {r : Int32}  (hF : F_X6_back B S = some (.inl (some r), S1)) (hst : l.stackTraces = false) (w : Cond.methodLink I.1.cls idx yX6_back ∈ z_G) (hRF : R.frames = F) (hRL : R.locals = L) (h1 : 6 ≤ F) (h2 : 135 ≤ L) (hs : (st.map fun v => v.category).sum ≤ 8) (d : decode I.2.1 pc = .ok (.invokevirtual idx, 3)) (hp : pc + 3 = pc') (k : z_W l I R B q pc' ls (.int r :: st) S1) : z_W l I R B q pc ls (.ref 60 :: st) S := z_callV (Y := I_X6_back) (As := []) (st := st) (r := (some r)) (S1 := S1) (c_X6_back (q := (.inl (some r), S1)) hst hF) ok_X6_back w (ci := 6) rfl is_6_60.1 is_6_60.2 rfl ⟨by rw [hRF]; exact h1, by rw [hRL]; exact h2⟩ hs d hp rfl k

abbrev I_X6_fail : z_I := (yX6_fail, cX6_fail, 2, none)
abbrev R_X6_fail (q : z_O × z_S) : Room := { frames := 0, locals := 0, cells := z_mc q.1, slots := 6 * z_mc q.1 }
def F_X6_fail_30 (B : Nat)  (s0 : Int32) (S : z_S) : Option (z_O × z_S) :=
  z_lt (z_ui S 60 11 s0) fun S1 =>
  (some (.inl none, S1))
set_option maxRecDepth 20000 in
set_option maxHeartbeats 16000000 in
theorem ok_X6_fail_30 {l : Launch} {B : Nat} {q : z_O × z_S} (hst : l.stackTraces = false) : ∀ (s0 : Int32) (S : z_S), F_X6_fail_30 B s0 S = some q → z_W l I_X6_fail (R_X6_fail q) B q 30 [none, none] [.int s0, .ref 60] S := by
  intro s0 S hF
  unfold F_X6_fail_30 at hF
  refine pf_X6_26 (pc' := 33) rfl is_6_60 dX6_fail_30 rfl (fun S1 eS1 => ?_)
  replace hF := z_lte hF S1 eS1
  exact z_return rfl dX6_fail_33 (Option.some.inj hF).symm
def F_X6_fail_11 (B : Nat)  (v1 : Int32) (s0 : Int32) (S : z_S) : Option (z_O × z_S) :=
  z_lt (z_ui S 60 0 s0) fun S1 =>
  (if (S1.2.1 60 0) ≤ 0 then
    F_X6_fail_30 B v1 S1
  else
    F_X6_fail_30 B (S1.2.1 60 11) S1)
set_option maxRecDepth 20000 in
set_option maxHeartbeats 16000000 in
theorem ok_X6_fail_11 {l : Launch} {B : Nat} {q : z_O × z_S} (hst : l.stackTraces = false) : ∀ (v1 : Int32) (s0 : Int32) (S : z_S), F_X6_fail_11 B v1 s0 S = some q → z_W l I_X6_fail (R_X6_fail q) B q 11 [some (.ref 60), some (.int v1)] [.int s0, .ref 60] S := by
  intro v1 s0 S hF
  unfold F_X6_fail_11 at hF
  refine pf_X6_40 (pc' := 14) rfl is_6_60 dX6_fail_11 rfl (fun S1 eS1 => ?_)
  replace hF := z_lte hF S1 eS1
  refine z_aload_n (pc' := 15) dX6_fail_14 rfl rfl rfl ?_
  refine z_aload_n (pc' := 16) dX6_fail_15 rfl rfl rfl ?_
  refine gf_X6_40 (pc' := 19) rfl is_6_60 dX6_fail_16 rfl ?_
  refine z_if_le (tgt := 29) (pc' := 22) dX6_fail_19 (by decide) rfl (fun c2 => ?_) (fun c2 => ?_)
  · rw [if_pos c2] at hF
    refine z_iload_n (pc' := 30) dX6_fail_29 rfl rfl rfl ?_
    refine z_wk (ls' := [none, none]) (z_len1 (z_len1 z_le0)) ?_
    exact (ok_X6_fail_30 hst) _ _ hF
  · rw [if_neg c2] at hF
    refine z_aload_n (pc' := 23) dX6_fail_22 rfl rfl rfl ?_
    refine gf_X6_26 (pc' := 26) rfl is_6_60 dX6_fail_23 rfl ?_
    refine z_goto (pc' := 30) dX6_fail_26 (by decide) ?_
    refine z_wk (ls' := [none, none]) (z_len1 (z_len1 z_le0)) ?_
    exact (ok_X6_fail_30 hst) _ _ hF
def F_X6_fail (B : Nat) (p1 : Int32) (S : z_S) : Option (z_O × z_S) :=
  if (-1) ≤ p1 then
    F_X6_fail_11 B p1 0 S
  else
    F_X6_fail_11 B p1 1 S
set_option maxRecDepth 20000 in
set_option maxHeartbeats 16000000 in
theorem c_X6_fail {l : Launch} {B : Nat} {p1 : Int32} {S : z_S} {q : z_O × z_S} (hst : l.stackTraces = false) (hF : F_X6_fail B p1 S = some q) : z_Met l I_X6_fail 0 0 B [.ref 60, .int p1] S q.1 q.2 := by
  refine z_enter (ls := [some (.ref 60), some (.int p1)]) (n := 0) (by decide) rfl (Nat.le_of_ble_eq_true rfl) hst ?_
  unfold F_X6_fail at hF
  refine z_aload_n (pc' := 1) dX6_fail_0 rfl rfl rfl ?_
  refine z_iload_n (pc' := 2) dX6_fail_1 rfl rfl rfl ?_
  refine z_iconst (v := (-1)) (pc' := 3) dX6_fail_2 (by decide) rfl ?_
  refine z_icmp_ge (tgt := 10) (pc' := 6) dX6_fail_3 (by decide) rfl (fun c1 => ?_) (fun c1 => ?_)
  · rw [if_pos c1] at hF
    refine z_iconst (v := 0) (pc' := 11) dX6_fail_10 (by decide) rfl ?_
    refine z_wk (ls' := [some (.ref 60), some (.int p1)]) (z_lec rfl (z_lec rfl z_le0)) ?_
    exact (ok_X6_fail_11 hst) _ _ _ hF
  · rw [if_neg c1] at hF
    refine z_iconst (v := 1) (pc' := 7) dX6_fail_6 (by decide) rfl ?_
    refine z_goto (pc' := 11) dX6_fail_7 (by decide) ?_
    refine z_wk (ls' := [some (.ref 60), some (.int p1)]) (z_lec rfl (z_lec rfl z_le0)) ?_
    exact (ok_X6_fail_11 hst) _ _ _ hF
theorem ok_X6_fail : z_okV I_X6_fail 1 := ⟨⟨z_Gin (List.mem_of_getElem? (i := 1244) (by decide +kernel)) rfl, z_Gin (List.mem_of_getElem? (i := 1245) (by decide +kernel)) rfl, z_Gin (List.mem_of_getElem? (i := 98) (by decide +kernel)) rfl, z_Gin (List.mem_of_getElem? (i := 1246) (by decide +kernel)) rfl⟩, by decide, by decide, by decide +kernel⟩
theorem k_X6_fail {l : Launch} {I : z_I} {R : Room} {B : Nat} {p1 : Int32} {q : z_O × z_S} {pc pc' : Nat} {ls : List (Option Value)} {st : List Value} {S S1 : z_S} {idx F L : Nat}  (hF : F_X6_fail B p1 S = some (.inl none, S1)) (hst : l.stackTraces = false) (w : Cond.methodLink I.1.cls idx yX6_fail ∈ z_G) (hRF : R.frames = F) (hRL : R.locals = L) (h1 : 1 ≤ F) (h2 : 21 ≤ L) (hs : (st.map fun v => v.category).sum ≤ 8) (d : decode I.2.1 pc = .ok (.invokevirtual idx, 3)) (hp : pc + 3 = pc') (k : z_W l I R B q pc' ls st S1) : z_W l I R B q pc ls (.int p1 :: .ref 60 :: st) S := z_callV (Y := I_X6_fail) (As := [.int p1]) (st := st) (r := none) (S1 := S1) (c_X6_fail (q := (.inl none, S1)) hst hF) ok_X6_fail w (ci := 6) rfl is_6_60.1 is_6_60.2 rfl ⟨by rw [hRF]; exact h1, by rw [hRL]; exact h2⟩ hs d hp rfl k

abbrev I_X6_off : z_I := (yX6_off, cX6_off, 1, some .boolean)
abbrev R_X6_off (q : z_O × z_S) : Room := { frames := 0, locals := 0, cells := z_mc q.1, slots := 6 * z_mc q.1 }
def F_X6_off (B : Nat)  (S : z_S) : Option (z_O × z_S) :=
  z_lt (z_ui S 60 0 0) fun S1 =>
  (z_gd (z_b01 (S1.2.1 60 10)) (some (.inl (some (S1.2.1 60 10)), S1)))
set_option maxRecDepth 20000 in
set_option maxHeartbeats 16000000 in
theorem c_X6_off {l : Launch} {B : Nat}  {S : z_S} {q : z_O × z_S} (hst : l.stackTraces = false) (hF : F_X6_off B S = some q) : z_Met l I_X6_off 0 0 B [.ref 60] S q.1 q.2 := by
  refine z_enter (ls := [some (.ref 60)]) (n := 0) (by decide) rfl (Nat.le_of_ble_eq_true rfl) hst ?_
  unfold F_X6_off at hF
  refine z_aload_n (pc' := 1) dX6_off_0 rfl rfl rfl ?_
  refine z_iconst (v := 0) (pc' := 2) dX6_off_1 (by decide) rfl ?_
  refine pf_X6_40 (pc' := 5) rfl is_6_60 dX6_off_2 rfl (fun S1 eS1 => ?_)
  replace hF := z_lte hF S1 eS1
  refine z_aload_n (pc' := 6) dX6_off_5 rfl rfl rfl ?_
  refine gf_X6_149 (pc' := 9) rfl is_6_60 dX6_off_6 rfl ?_
  obtain ⟨g2, hF⟩ := z_gde hF
  exact z_zreturn rfl (z_b01e g2) dX6_off_9 (Option.some.inj hF).symm
theorem ok_X6_off : z_okV I_X6_off 0 := ⟨⟨z_Gin (List.mem_of_getElem? (i := 1248) (by decide +kernel)) rfl, z_Gin (List.mem_of_getElem? (i := 1249) (by decide +kernel)) rfl, z_Gin (List.mem_of_getElem? (i := 98) (by decide +kernel)) rfl, z_Gin (List.mem_of_getElem? (i := 1250) (by decide +kernel)) rfl⟩, by decide, by decide, by decide +kernel⟩
theorem k_X6_off {l : Launch} {I : z_I} {R : Room} {B : Nat}  {q : z_O × z_S} {pc pc' : Nat} {ls : List (Option Value)} {st : List Value} {S S1 : z_S} {idx F L : Nat} {r : Int32}  (hF : F_X6_off B S = some (.inl (some r), S1)) (hst : l.stackTraces = false) (w : Cond.methodLink I.1.cls idx yX6_off ∈ z_G) (hRF : R.frames = F) (hRL : R.locals = L) (h1 : 1 ≤ F) (h2 : 20 ≤ L) (hs : (st.map fun v => v.category).sum ≤ 8) (d : decode I.2.1 pc = .ok (.invokevirtual idx, 3)) (hp : pc + 3 = pc') (k : z_W l I R B q pc' ls (.int r :: st) S1) : z_W l I R B q pc ls (.ref 60 :: st) S := z_callV (Y := I_X6_off) (As := []) (st := st) (r := (some r)) (S1 := S1) (c_X6_off (q := (.inl (some r), S1)) hst hF) ok_X6_off w (ci := 6) rfl is_6_60.1 is_6_60.2 rfl ⟨by rw [hRF]; exact h1, by rw [hRL]; exact h2⟩ hs d hp rfl k

abbrev I_X6_recover : z_I := (yX6_recover, cX6_recover, 2, some .int)
abbrev R_X6_recover (q : z_O × z_S) : Room := { frames := 2, locals := 41, cells := z_mc q.1, slots := 6 * z_mc q.1 }
def F_X6_recover_13 (B : Nat)  (s0 : Int32) (S : z_S) : Option (z_O × z_S) :=
  z_lt (z_ui S 60 0 s0) fun S1 =>
  (if (S1.2.1 60 0) ≤ 0 then
    z_gd (z_b01 0) (
    z_lt (z_ui S1 60 10 0) fun S3 =>
    (z_bo (F_X6_keep B 63 25366 61 25366 S3) fun S5 =>
    (z_lt (z_ui S5 60 12 0) fun S7 =>
    (z_bn (F_X6_home B S7) fun r8 S9 =>
    (some (.inl (some (S9.2.1 60 12)), S9))))))
  else
    some (.inl (some 0), S1))
set_option maxRecDepth 20000 in
set_option maxHeartbeats 16000000 in
theorem ok_X6_recover_13 {l : Launch} {B : Nat} {q : z_O × z_S} (hst : l.stackTraces = false) : ∀ (s0 : Int32) (S : z_S), F_X6_recover_13 B s0 S = some q → z_W l I_X6_recover (R_X6_recover q) B q 13 [some (.ref 60), none] [.int s0, .ref 60] S := by
  intro s0 S hF
  unfold F_X6_recover_13 at hF
  refine pf_X6_40 (pc' := 16) rfl is_6_60 dX6_recover_13 rfl (fun S1 eS1 => ?_)
  replace hF := z_lte hF S1 eS1
  refine z_aload_n (pc' := 17) dX6_recover_16 rfl rfl rfl ?_
  refine gf_X6_40 (pc' := 20) rfl is_6_60 dX6_recover_17 rfl ?_
  refine z_if_le (tgt := 25) (pc' := 23) dX6_recover_20 (by decide) rfl (fun c11 => ?_) (fun c11 => ?_)
  · rw [if_pos c11] at hF
    refine z_aload_n (pc' := 26) dX6_recover_25 rfl rfl rfl ?_
    refine z_iconst (v := 0) (pc' := 27) dX6_recover_26 (by decide) rfl ?_
    obtain ⟨g2, hF⟩ := z_gde hF
    refine pf_X6_149 (pc' := 30) rfl is_6_60 (z_b01e g2) dX6_recover_27 rfl (fun S3 eS3 => ?_)
    replace hF := z_lte hF S3 eS3
    refine z_aload_n (pc' := 31) dX6_recover_30 rfl rfl rfl ?_
    refine gf_X6_16 (b := 63) (pc' := 34) rfl is_6_60 rfl dX6_recover_31 rfl ?_
    refine z_aload_n (pc' := 35) dX6_recover_34 rfl rfl rfl ?_
    refine gf_X6_7 (b := 61) (pc' := 38) rfl is_6_60 rfl dX6_recover_35 rfl ?_
    obtain ⟨S5, hc6, hF⟩ := z_boe hF
    refine k_X6_keep (F := 2) (L := 41) (pc' := 41) (ar_6_f5 is_6_60) (ar_6_f3 is_6_60) hc6 hst zw_134 rfl rfl (by decide) (by decide) (by decide) dX6_recover_38 rfl ?_
    refine z_aload_n (pc' := 42) dX6_recover_41 rfl rfl rfl ?_
    refine z_iconst (v := 0) (pc' := 43) dX6_recover_42 (by decide) rfl ?_
    refine pf_X6_217 (pc' := 46) rfl is_6_60 dX6_recover_43 rfl (fun S7 eS7 => ?_)
    replace hF := z_lte hF S7 eS7
    refine z_aload_n (pc' := 47) dX6_recover_46 rfl rfl rfl ?_
    obtain ⟨r8, S9, hc10, hF⟩ := z_bne hF
    refine k_X6_home (F := 2) (L := 41) (pc' := 50) hc10 hst zw_158 rfl rfl (by decide) (by decide) (by decide) dX6_recover_47 rfl ?_
    refine z_istore_n (pc' := 51) dX6_recover_50 rfl (by decide) rfl rfl ?_
    refine z_aload_n (pc' := 52) dX6_recover_51 rfl rfl rfl ?_
    refine gf_X6_217 (pc' := 55) rfl is_6_60 dX6_recover_52 rfl ?_
    exact z_ireturn rfl dX6_recover_55 (Option.some.inj hF).symm
  · rw [if_neg c11] at hF
    refine z_iconst (v := 0) (pc' := 24) dX6_recover_23 (by decide) rfl ?_
    exact z_ireturn rfl dX6_recover_24 (Option.some.inj hF).symm
def F_X6_recover (B : Nat)  (S : z_S) : Option (z_O × z_S) :=
  if (S.2.1 60 10) = 0 then
    F_X6_recover_13 B 1 S
  else
    F_X6_recover_13 B 0 S
set_option maxRecDepth 20000 in
set_option maxHeartbeats 16000000 in
theorem c_X6_recover {l : Launch} {B : Nat}  {S : z_S} {q : z_O × z_S} (hst : l.stackTraces = false) (hF : F_X6_recover B S = some q) : z_Met l I_X6_recover 2 41 B [.ref 60] S q.1 q.2 := by
  refine z_enter (ls := [some (.ref 60), none]) (n := 1) (by decide) rfl (Nat.le_of_ble_eq_true rfl) hst ?_
  unfold F_X6_recover at hF
  refine z_aload_n (pc' := 1) dX6_recover_0 rfl rfl rfl ?_
  refine z_aload_n (pc' := 2) dX6_recover_1 rfl rfl rfl ?_
  refine gf_X6_149 (pc' := 5) rfl is_6_60 dX6_recover_2 rfl ?_
  refine z_if_eq (tgt := 12) (pc' := 8) dX6_recover_5 (by decide) rfl (fun c1 => ?_) (fun c1 => ?_)
  · rw [if_pos c1] at hF
    refine z_iconst (v := 1) (pc' := 13) dX6_recover_12 (by decide) rfl ?_
    refine z_wk (ls' := [some (.ref 60), none]) (z_lec rfl (z_len1 z_le0)) ?_
    exact (ok_X6_recover_13 hst) _ _ hF
  · rw [if_neg c1] at hF
    refine z_iconst (v := 0) (pc' := 9) dX6_recover_8 (by decide) rfl ?_
    refine z_goto (pc' := 13) dX6_recover_9 (by decide) ?_
    refine z_wk (ls' := [some (.ref 60), none]) (z_lec rfl (z_len1 z_le0)) ?_
    exact (ok_X6_recover_13 hst) _ _ hF
theorem ok_X6_recover : z_okV I_X6_recover 0 := ⟨⟨z_Gin (List.mem_of_getElem? (i := 1252) (by decide +kernel)) rfl, z_Gin (List.mem_of_getElem? (i := 1253) (by decide +kernel)) rfl, z_Gin (List.mem_of_getElem? (i := 98) (by decide +kernel)) rfl, z_Gin (List.mem_of_getElem? (i := 1254) (by decide +kernel)) rfl⟩, by decide, by decide, by decide +kernel⟩
theorem k_X6_recover {l : Launch} {I : z_I} {R : Room} {B : Nat}  {q : z_O × z_S} {pc pc' : Nat} {ls : List (Option Value)} {st : List Value} {S S1 : z_S} {idx F L : Nat} {r : Int32}  (hF : F_X6_recover B S = some (.inl (some r), S1)) (hst : l.stackTraces = false) (w : Cond.methodLink I.1.cls idx yX6_recover ∈ z_G) (hRF : R.frames = F) (hRL : R.locals = L) (h1 : 3 ≤ F) (h2 : 62 ≤ L) (hs : (st.map fun v => v.category).sum ≤ 8) (d : decode I.2.1 pc = .ok (.invokevirtual idx, 3)) (hp : pc + 3 = pc') (k : z_W l I R B q pc' ls (.int r :: st) S1) : z_W l I R B q pc ls (.ref 60 :: st) S := z_callV (Y := I_X6_recover) (As := []) (st := st) (r := (some r)) (S1 := S1) (c_X6_recover (q := (.inl (some r), S1)) hst hF) ok_X6_recover w (ci := 6) rfl is_6_60.1 is_6_60.2 rfl ⟨by rw [hRF]; exact h1, by rw [hRL]; exact h2⟩ hs d hp rfl k

abbrev I_X6_usedOfAll : z_I := (yX6_usedOfAll, cX6_usedOfAll, 3, some .int)
abbrev R_X6_usedOfAll (q : z_O × z_S) : Room := { frames := 1, locals := 23, cells := z_mc q.1, slots := 6 * z_mc q.1 }
def F_X6_usedOfAll_4 (B : Nat)  : Nat → Int32 → Int32 → z_S → Option (z_O × z_S)
  | 0, _, _, _ => none
  | n + 1, v1, v2, S => z_gd (z_inb 13068 25366) (
  z_lt (S.1 61 (z_ix (13068))) fun x2 =>
  (if x2 ≤ v2 then
    some (.inl (some v1), S)
  else
    z_gd (z_inb (12300 + v2) 25366) (
    z_lt (S.1 61 (z_ix (12300 + v2))) fun x4 =>
    (z_bn (F_X6_used B x4 S) fun r5 S6 =>
    (F_X6_usedOfAll_4 B n (v1 + r5) (v2 + 1) S6)))))
set_option maxRecDepth 20000 in
set_option maxHeartbeats 16000000 in
theorem ok_X6_usedOfAll_4 {l : Launch} {B : Nat} {q : z_O × z_S} (hst : l.stackTraces = false) : ∀ (n : Nat) (v1 : Int32) (v2 : Int32) (S : z_S), F_X6_usedOfAll_4 B n v1 v2 S = some q → z_W l I_X6_usedOfAll (R_X6_usedOfAll q) B q 4 [some (.ref 60), some (.int v1), some (.int v2)] [] S := by
  intro n
  induction n with
  | zero => intro v1 v2 S hF; cases hF
  | succ n ih =>
    intro v1 v2 S hF
    rw [F_X6_usedOfAll_4] at hF
    refine z_iload_n (pc' := 5) dX6_usedOfAll_4 rfl rfl rfl ?_
    refine z_aload_n (pc' := 6) dX6_usedOfAll_5 rfl rfl rfl ?_
    refine gf_X6_7 (b := 61) (pc' := 9) rfl is_6_60 rfl dX6_usedOfAll_6 rfl ?_
    refine z_sipush (v := 13068) (pc' := 12) dX6_usedOfAll_9 (by decide) rfl ?_
    obtain ⟨g1, hF⟩ := z_gde hF
    refine z_iaload (pc' := 13) (ar_6_f3 is_6_60) (z_inbe g1) dX6_usedOfAll_12 rfl ?_
    refine z_topi (fun x2 ex2 => ?_)
    replace hF := z_lte hF x2 ex2
    refine z_icmp_ge (tgt := 39) (pc' := 16) dX6_usedOfAll_13 (by decide) rfl (fun c8 => ?_) (fun c8 => ?_)
    · rw [if_pos c8] at hF
      refine z_iload_n (pc' := 40) dX6_usedOfAll_39 rfl rfl rfl ?_
      exact z_ireturn rfl dX6_usedOfAll_40 (Option.some.inj hF).symm
    · rw [if_neg c8] at hF
      refine z_iload_n (pc' := 17) dX6_usedOfAll_16 rfl rfl rfl ?_
      refine z_aload_n (pc' := 18) dX6_usedOfAll_17 rfl rfl rfl ?_
      refine z_aload_n (pc' := 19) dX6_usedOfAll_18 rfl rfl rfl ?_
      refine gf_X6_7 (b := 61) (pc' := 22) rfl is_6_60 rfl dX6_usedOfAll_19 rfl ?_
      refine z_sipush (v := 12300) (pc' := 25) dX6_usedOfAll_22 (by decide) rfl ?_
      refine z_iload_n (pc' := 26) dX6_usedOfAll_25 rfl rfl rfl ?_
      refine z_iadd (pc' := 27) dX6_usedOfAll_26 rfl ?_
      obtain ⟨g3, hF⟩ := z_gde hF
      refine z_iaload (pc' := 28) (ar_6_f3 is_6_60) (z_inbe g3) dX6_usedOfAll_27 rfl ?_
      refine z_topi (fun x4 ex4 => ?_)
      replace hF := z_lte hF x4 ex4
      obtain ⟨r5, S6, hc7, hF⟩ := z_bne hF
      refine k_X6_used (F := 1) (L := 23) (pc' := 31) hc7 hst zw_118 rfl rfl (by decide) (by decide) (Nat.le_of_ble_eq_true rfl) dX6_usedOfAll_28 rfl ?_
      refine z_iadd (pc' := 32) dX6_usedOfAll_31 rfl ?_
      refine z_istore_n (pc' := 33) dX6_usedOfAll_32 rfl (by decide) rfl rfl ?_
      refine z_iinc (v := v2 + 1) (pc' := 36) dX6_usedOfAll_33 rfl rfl (by decide) rfl rfl ?_
      refine z_goto (pc' := 4) dX6_usedOfAll_36 (by decide) ?_
      refine z_wk (ls' := [some (.ref 60), some (.int (v1 + r5)), some (.int (v2 + 1))]) (z_lec rfl (z_lec rfl (z_lec rfl z_le0))) ?_
      exact ih _ _ _ hF
def F_X6_usedOfAll (B : Nat)  (S : z_S) : Option (z_O × z_S) :=
  F_X6_usedOfAll_4 B z_n 0 0 S
set_option maxRecDepth 20000 in
set_option maxHeartbeats 16000000 in
theorem c_X6_usedOfAll {l : Launch} {B : Nat}  {S : z_S} {q : z_O × z_S} (hst : l.stackTraces = false) (hF : F_X6_usedOfAll B S = some q) : z_Met l I_X6_usedOfAll 1 23 B [.ref 60] S q.1 q.2 := by
  refine z_enter (ls := [some (.ref 60), none, none]) (n := 2) (by decide) rfl (Nat.le_of_ble_eq_true rfl) hst ?_
  unfold F_X6_usedOfAll at hF
  refine z_iconst (v := 0) (pc' := 1) dX6_usedOfAll_0 (by decide) rfl ?_
  refine z_istore_n (pc' := 2) dX6_usedOfAll_1 rfl (by decide) rfl rfl ?_
  refine z_iconst (v := 0) (pc' := 3) dX6_usedOfAll_2 (by decide) rfl ?_
  refine z_istore_n (pc' := 4) dX6_usedOfAll_3 rfl (by decide) rfl rfl ?_
  refine z_wk (ls' := [some (.ref 60), some (.int 0), some (.int 0)]) (z_lec rfl (z_lec rfl (z_lec rfl z_le0))) ?_
  exact (ok_X6_usedOfAll_4 hst z_n) _ _ _ hF
theorem ok_X6_usedOfAll : z_okV I_X6_usedOfAll 0 := ⟨⟨z_Gin (List.mem_of_getElem? (i := 1265) (by decide +kernel)) rfl, z_Gin (List.mem_of_getElem? (i := 87) (by decide +kernel)) rfl, z_Gin (List.mem_of_getElem? (i := 98) (by decide +kernel)) rfl, z_Gin (List.mem_of_getElem? (i := 1266) (by decide +kernel)) rfl⟩, by decide, by decide, by decide +kernel⟩
theorem k_X6_usedOfAll {l : Launch} {I : z_I} {R : Room} {B : Nat}  {q : z_O × z_S} {pc pc' : Nat} {ls : List (Option Value)} {st : List Value} {S S1 : z_S} {idx F L : Nat} {r : Int32}  (hF : F_X6_usedOfAll B S = some (.inl (some r), S1)) (hst : l.stackTraces = false) (w : Cond.methodLink I.1.cls idx yX6_usedOfAll ∈ z_G) (hRF : R.frames = F) (hRL : R.locals = L) (h1 : 2 ≤ F) (h2 : 45 ≤ L) (hs : (st.map fun v => v.category).sum ≤ 8) (d : decode I.2.1 pc = .ok (.invokevirtual idx, 3)) (hp : pc + 3 = pc') (k : z_W l I R B q pc' ls (.int r :: st) S1) : z_W l I R B q pc ls (.ref 60 :: st) S := z_callV (Y := I_X6_usedOfAll) (As := []) (st := st) (r := (some r)) (S1 := S1) (c_X6_usedOfAll (q := (.inl (some r), S1)) hst hF) ok_X6_usedOfAll w (ci := 6) rfl is_6_60.1 is_6_60.2 rfl ⟨by rw [hRF]; exact h1, by rw [hRL]; exact h2⟩ hs d hp rfl k

abbrev I_X6_inUse : z_I := (yX6_inUse, cX6_inUse, 3, some .int)
abbrev R_X6_inUse (q : z_O × z_S) : Room := { frames := 0, locals := 0, cells := z_mc q.1, slots := 6 * z_mc q.1 }
def F_X6_inUse_4 (B : Nat)  : Nat → Int32 → Int32 → z_S → Option (z_O × z_S)
  | 0, _, _, _ => none
  | n + 1, v1, v2, S => if (S.2.1 60 1) ≤ v2 then
    some (.inl (some v1), S)
  else
    z_gd (z_inb (0 + v2) 25366) (
    z_lt (S.1 61 (z_ix (0 + v2))) fun x2 =>
    (F_X6_inUse_4 B n (v1 + x2) (v2 + 1) S))
set_option maxRecDepth 20000 in
set_option maxHeartbeats 16000000 in
theorem ok_X6_inUse_4 {l : Launch} {B : Nat} {q : z_O × z_S} (hst : l.stackTraces = false) : ∀ (n : Nat) (v1 : Int32) (v2 : Int32) (S : z_S), F_X6_inUse_4 B n v1 v2 S = some q → z_W l I_X6_inUse (R_X6_inUse q) B q 4 [some (.ref 60), some (.int v1), some (.int v2)] [] S := by
  intro n
  induction n with
  | zero => intro v1 v2 S hF; cases hF
  | succ n ih =>
    intro v1 v2 S hF
    rw [F_X6_inUse_4] at hF
    refine z_iload_n (pc' := 5) dX6_inUse_4 rfl rfl rfl ?_
    refine z_aload_n (pc' := 6) dX6_inUse_5 rfl rfl rfl ?_
    refine gf_X6_30 (pc' := 9) rfl is_6_60 dX6_inUse_6 rfl ?_
    refine z_icmp_ge (tgt := 29) (pc' := 12) dX6_inUse_9 (by decide) rfl (fun c3 => ?_) (fun c3 => ?_)
    · rw [if_pos c3] at hF
      refine z_iload_n (pc' := 30) dX6_inUse_29 rfl rfl rfl ?_
      exact z_ireturn rfl dX6_inUse_30 (Option.some.inj hF).symm
    · rw [if_neg c3] at hF
      refine z_iload_n (pc' := 13) dX6_inUse_12 rfl rfl rfl ?_
      refine z_aload_n (pc' := 14) dX6_inUse_13 rfl rfl rfl ?_
      refine gf_X6_7 (b := 61) (pc' := 17) rfl is_6_60 rfl dX6_inUse_14 rfl ?_
      refine z_iconst (v := 0) (pc' := 18) dX6_inUse_17 (by decide) rfl ?_
      refine z_iload_n (pc' := 19) dX6_inUse_18 rfl rfl rfl ?_
      refine z_iadd (pc' := 20) dX6_inUse_19 rfl ?_
      obtain ⟨g1, hF⟩ := z_gde hF
      refine z_iaload (pc' := 21) (ar_6_f3 is_6_60) (z_inbe g1) dX6_inUse_20 rfl ?_
      refine z_topi (fun x2 ex2 => ?_)
      replace hF := z_lte hF x2 ex2
      refine z_iadd (pc' := 22) dX6_inUse_21 rfl ?_
      refine z_istore_n (pc' := 23) dX6_inUse_22 rfl (by decide) rfl rfl ?_
      refine z_iinc (v := v2 + 1) (pc' := 26) dX6_inUse_23 rfl rfl (by decide) rfl rfl ?_
      refine z_goto (pc' := 4) dX6_inUse_26 (by decide) ?_
      refine z_wk (ls' := [some (.ref 60), some (.int (v1 + x2)), some (.int (v2 + 1))]) (z_lec rfl (z_lec rfl (z_lec rfl z_le0))) ?_
      exact ih _ _ _ hF
def F_X6_inUse (B : Nat)  (S : z_S) : Option (z_O × z_S) :=
  F_X6_inUse_4 B z_n 0 0 S
set_option maxRecDepth 20000 in
set_option maxHeartbeats 16000000 in
theorem c_X6_inUse {l : Launch} {B : Nat}  {S : z_S} {q : z_O × z_S} (hst : l.stackTraces = false) (hF : F_X6_inUse B S = some q) : z_Met l I_X6_inUse 0 0 B [.ref 60] S q.1 q.2 := by
  refine z_enter (ls := [some (.ref 60), none, none]) (n := 2) (by decide) rfl (Nat.le_of_ble_eq_true rfl) hst ?_
  unfold F_X6_inUse at hF
  refine z_iconst (v := 0) (pc' := 1) dX6_inUse_0 (by decide) rfl ?_
  refine z_istore_n (pc' := 2) dX6_inUse_1 rfl (by decide) rfl rfl ?_
  refine z_iconst (v := 0) (pc' := 3) dX6_inUse_2 (by decide) rfl ?_
  refine z_istore_n (pc' := 4) dX6_inUse_3 rfl (by decide) rfl rfl ?_
  refine z_wk (ls' := [some (.ref 60), some (.int 0), some (.int 0)]) (z_lec rfl (z_lec rfl (z_lec rfl z_le0))) ?_
  exact (ok_X6_inUse_4 hst z_n) _ _ _ hF
theorem ok_X6_inUse : z_okV I_X6_inUse 0 := ⟨⟨z_Gin (List.mem_of_getElem? (i := 1261) (by decide +kernel)) rfl, z_Gin (List.mem_of_getElem? (i := 86) (by decide +kernel)) rfl, z_Gin (List.mem_of_getElem? (i := 98) (by decide +kernel)) rfl, z_Gin (List.mem_of_getElem? (i := 1262) (by decide +kernel)) rfl⟩, by decide, by decide, by decide +kernel⟩
theorem k_X6_inUse {l : Launch} {I : z_I} {R : Room} {B : Nat}  {q : z_O × z_S} {pc pc' : Nat} {ls : List (Option Value)} {st : List Value} {S S1 : z_S} {idx F L : Nat} {r : Int32}  (hF : F_X6_inUse B S = some (.inl (some r), S1)) (hst : l.stackTraces = false) (w : Cond.methodLink I.1.cls idx yX6_inUse ∈ z_G) (hRF : R.frames = F) (hRL : R.locals = L) (h1 : 1 ≤ F) (h2 : 22 ≤ L) (hs : (st.map fun v => v.category).sum ≤ 8) (d : decode I.2.1 pc = .ok (.invokevirtual idx, 3)) (hp : pc + 3 = pc') (k : z_W l I R B q pc' ls (.int r :: st) S1) : z_W l I R B q pc ls (.ref 60 :: st) S := z_callV (Y := I_X6_inUse) (As := []) (st := st) (r := (some r)) (S1 := S1) (c_X6_inUse (q := (.inl (some r), S1)) hst hF) ok_X6_inUse w (ci := 6) rfl is_6_60.1 is_6_60.2 rfl ⟨by rw [hRF]; exact h1, by rw [hRL]; exact h2⟩ hs d hp rfl k

theorem z_out0_8 {x : Int32} (h0 : ¬ x = 0) (h1 : ¬ x = 1) (h2 : ¬ x = 2) (h3 : ¬ x = 3) (h4 : ¬ x = 4) (h5 : ¬ x = 5) (h6 : ¬ x = 6) (h7 : ¬ x = 7) (h8 : ¬ x = 8) : x.toInt < 0 ∨ 8 < x.toInt := by
  have e : ∀ c : Int32, ¬ x = c → x.toInt ≠ c.toInt := fun c h h2 => h (Int32.toInt_inj.mp h2)
  have g0 : x.toInt ≠ 0 := e 0 h0
  have g1 : x.toInt ≠ 1 := e 1 h1
  have g2 : x.toInt ≠ 2 := e 2 h2
  have g3 : x.toInt ≠ 3 := e 3 h3
  have g4 : x.toInt ≠ 4 := e 4 h4
  have g5 : x.toInt ≠ 5 := e 5 h5
  have g6 : x.toInt ≠ 6 := e 6 h6
  have g7 : x.toInt ≠ 7 := e 7 h7
  have g8 : x.toInt ≠ 8 := e 8 h8
  omega
abbrev I_X6_count : z_I := (yX6_count, cX6_count, 2, some .int)
abbrev R_X6_count (q : z_O × z_S) : Room := { frames := 5, locals := 114, cells := z_mc q.1, slots := 6 * z_mc q.1 }
def F_X6_count_27 (B : Nat)  (v1 : Int32) (s0 : Int32) (S : z_S) : Option (z_O × z_S) :=
  z_lt (z_ui S 60 0 s0) fun S1 =>
  (if (S1.2.1 60 0) ≤ 0 then
    if v1 = 0 then
      z_bn (F_X6_inUse B S1) fun r2 S3 =>
      (some (.inl (some r2), S3))
    else if v1 = 1 then
      z_gd (z_inb 13068 25366) (
      z_lt (S1.1 61 (z_ix (13068))) fun x6 =>
      (some (.inl (some x6), S1)))
    else if v1 = 2 then
      z_gd (z_inb 13077 25366) (
      z_lt (S1.1 61 (z_ix (13077))) fun x8 =>
      (some (.inl (some x8), S1)))
    else if v1 = 3 then
      z_bn (F_X6_objects B S1) fun r9 S10 =>
      (some (.inl (some r9), S10))
    else if v1 = 4 then
      z_bn (F_X6_items B S1) fun r12 S13 =>
      (some (.inl (some r12), S13))
    else if v1 = 5 then
      z_bn (F_X6_usedOfAll B S1) fun r15 S16 =>
      (some (.inl (some r15), S16))
    else if v1 = 6 then
      z_bn (F_X6_changed B S1) fun r18 S19 =>
      (some (.inl (some r18), S19))
    else if v1 = 7 then
      some (.inl (some (S1.2.1 60 9)), S1)
    else if v1 = 8 then
      some (.inl (some (S1.2.1 60 13)), S1)
    else 
      some (.inl (some (S1.2.1 60 14)), S1)
  else
    some (.inl (some 0), S1))
set_option maxRecDepth 20000 in
set_option maxHeartbeats 16000000 in
theorem ok_X6_count_27 {l : Launch} {B : Nat} {q : z_O × z_S} (hst : l.stackTraces = false) : ∀ (v1 : Int32) (s0 : Int32) (S : z_S), F_X6_count_27 B v1 s0 S = some q → z_W l I_X6_count (R_X6_count q) B q 27 [some (.ref 60), some (.int v1)] [.int s0, .ref 60] S := by
  intro v1 s0 S hF
  unfold F_X6_count_27 at hF
  refine pf_X6_40 (pc' := 30) rfl is_6_60 dX6_count_27 rfl (fun S1 eS1 => ?_)
  replace hF := z_lte hF S1 eS1
  refine z_aload_n (pc' := 31) dX6_count_30 rfl rfl rfl ?_
  refine gf_X6_40 (pc' := 34) rfl is_6_60 dX6_count_31 rfl ?_
  refine z_if_le (tgt := 39) (pc' := 37) dX6_count_34 (by decide) rfl (fun c30 => ?_) (fun c30 => ?_)
  · rw [if_pos c30] at hF
    refine z_iload_n (pc' := 40) dX6_count_39 rfl rfl rfl ?_
    by_cases c21 : v1 = 0
    · rw [if_pos c21] at hF
      refine z_tswIn (tgt := 92) dX6_count_40 (by rw [c21]; decide) (by rw [c21]; decide) (by rw [c21]; rfl) (by decide) ?_
      refine z_aload_n (pc' := 93) dX6_count_92 rfl rfl rfl ?_
      obtain ⟨r2, S3, hc4, hF⟩ := z_bne hF
      refine k_X6_inUse (F := 5) (L := 114) (pc' := 96) hc4 hst zw_159 rfl rfl (by decide) (by decide) (by decide) dX6_count_93 rfl ?_
      exact z_ireturn rfl dX6_count_96 (Option.some.inj hF).symm
    rw [if_neg c21] at hF
    by_cases c22 : v1 = 1
    · rw [if_pos c22] at hF
      refine z_tswIn (tgt := 97) dX6_count_40 (by rw [c22]; decide) (by rw [c22]; decide) (by rw [c22]; rfl) (by decide) ?_
      refine z_aload_n (pc' := 98) dX6_count_97 rfl rfl rfl ?_
      refine gf_X6_7 (b := 61) (pc' := 101) rfl is_6_60 rfl dX6_count_98 rfl ?_
      refine z_sipush (v := 13068) (pc' := 104) dX6_count_101 (by decide) rfl ?_
      obtain ⟨g5, hF⟩ := z_gde hF
      refine z_iaload (pc' := 105) (ar_6_f3 is_6_60) (z_inbe g5) dX6_count_104 rfl ?_
      refine z_topi (fun x6 ex6 => ?_)
      replace hF := z_lte hF x6 ex6
      exact z_ireturn rfl dX6_count_105 (Option.some.inj hF).symm
    rw [if_neg c22] at hF
    by_cases c23 : v1 = 2
    · rw [if_pos c23] at hF
      refine z_tswIn (tgt := 106) dX6_count_40 (by rw [c23]; decide) (by rw [c23]; decide) (by rw [c23]; rfl) (by decide) ?_
      refine z_aload_n (pc' := 107) dX6_count_106 rfl rfl rfl ?_
      refine gf_X6_7 (b := 61) (pc' := 110) rfl is_6_60 rfl dX6_count_107 rfl ?_
      refine z_sipush (v := 13077) (pc' := 113) dX6_count_110 (by decide) rfl ?_
      obtain ⟨g7, hF⟩ := z_gde hF
      refine z_iaload (pc' := 114) (ar_6_f3 is_6_60) (z_inbe g7) dX6_count_113 rfl ?_
      refine z_topi (fun x8 ex8 => ?_)
      replace hF := z_lte hF x8 ex8
      exact z_ireturn rfl dX6_count_114 (Option.some.inj hF).symm
    rw [if_neg c23] at hF
    by_cases c24 : v1 = 3
    · rw [if_pos c24] at hF
      refine z_tswIn (tgt := 115) dX6_count_40 (by rw [c24]; decide) (by rw [c24]; decide) (by rw [c24]; rfl) (by decide) ?_
      refine z_aload_n (pc' := 116) dX6_count_115 rfl rfl rfl ?_
      obtain ⟨r9, S10, hc11, hF⟩ := z_bne hF
      refine k_X6_objects (F := 5) (L := 114) (pc' := 119) hc11 hst zw_138 rfl rfl (by decide) (by decide) (by decide) dX6_count_116 rfl ?_
      exact z_ireturn rfl dX6_count_119 (Option.some.inj hF).symm
    rw [if_neg c24] at hF
    by_cases c25 : v1 = 4
    · rw [if_pos c25] at hF
      refine z_tswIn (tgt := 120) dX6_count_40 (by rw [c25]; decide) (by rw [c25]; decide) (by rw [c25]; rfl) (by decide) ?_
      refine z_aload_n (pc' := 121) dX6_count_120 rfl rfl rfl ?_
      obtain ⟨r12, S13, hc14, hF⟩ := z_bne hF
      refine k_X6_items (F := 5) (L := 114) (pc' := 124) hc14 hst zw_149 rfl rfl (by decide) (by decide) (by decide) dX6_count_121 rfl ?_
      exact z_ireturn rfl dX6_count_124 (Option.some.inj hF).symm
    rw [if_neg c25] at hF
    by_cases c26 : v1 = 5
    · rw [if_pos c26] at hF
      refine z_tswIn (tgt := 125) dX6_count_40 (by rw [c26]; decide) (by rw [c26]; decide) (by rw [c26]; rfl) (by decide) ?_
      refine z_aload_n (pc' := 126) dX6_count_125 rfl rfl rfl ?_
      obtain ⟨r15, S16, hc17, hF⟩ := z_bne hF
      refine k_X6_usedOfAll (F := 5) (L := 114) (pc' := 129) hc17 hst zw_160 rfl rfl (by decide) (by decide) (by decide) dX6_count_126 rfl ?_
      exact z_ireturn rfl dX6_count_129 (Option.some.inj hF).symm
    rw [if_neg c26] at hF
    by_cases c27 : v1 = 6
    · rw [if_pos c27] at hF
      refine z_tswIn (tgt := 130) dX6_count_40 (by rw [c27]; decide) (by rw [c27]; decide) (by rw [c27]; rfl) (by decide) ?_
      refine z_aload_n (pc' := 131) dX6_count_130 rfl rfl rfl ?_
      obtain ⟨r18, S19, hc20, hF⟩ := z_bne hF
      refine k_X6_changed (F := 5) (L := 114) (pc' := 134) hc20 hst zw_157 rfl rfl (by decide) (by decide) (by decide) dX6_count_131 rfl ?_
      exact z_ireturn rfl dX6_count_134 (Option.some.inj hF).symm
    rw [if_neg c27] at hF
    by_cases c28 : v1 = 7
    · rw [if_pos c28] at hF
      refine z_tswIn (tgt := 135) dX6_count_40 (by rw [c28]; decide) (by rw [c28]; decide) (by rw [c28]; rfl) (by decide) ?_
      refine z_aload_n (pc' := 136) dX6_count_135 rfl rfl rfl ?_
      refine gf_X6_223 (pc' := 139) rfl is_6_60 dX6_count_136 rfl ?_
      exact z_ireturn rfl dX6_count_139 (Option.some.inj hF).symm
    rw [if_neg c28] at hF
    by_cases c29 : v1 = 8
    · rw [if_pos c29] at hF
      refine z_tswIn (tgt := 140) dX6_count_40 (by rw [c29]; decide) (by rw [c29]; decide) (by rw [c29]; rfl) (by decide) ?_
      refine z_aload_n (pc' := 141) dX6_count_140 rfl rfl rfl ?_
      refine gf_X6_220 (pc' := 144) rfl is_6_60 dX6_count_141 rfl ?_
      exact z_ireturn rfl dX6_count_144 (Option.some.inj hF).symm
    rw [if_neg c29] at hF
    refine z_tswOut (tgt := 145) dX6_count_40 (z_out0_8 c21 c22 c23 c24 c25 c26 c27 c28 c29) (by decide) ?_
    refine z_aload_n (pc' := 146) dX6_count_145 rfl rfl rfl ?_
    refine gf_X6_236 (pc' := 149) rfl is_6_60 dX6_count_146 rfl ?_
    exact z_ireturn rfl dX6_count_149 (Option.some.inj hF).symm
  · rw [if_neg c30] at hF
    refine z_iconst (v := 0) (pc' := 38) dX6_count_37 (by decide) rfl ?_
    exact z_ireturn rfl dX6_count_38 (Option.some.inj hF).symm
def F_X6_count (B : Nat) (p1 : Int32) (S : z_S) : Option (z_O × z_S) :=
  if (S.2.1 60 10) = 0 then
    z_bn (F_X6_isIn B p1 0 9 S) fun r1 S2 =>
    (if r1 = 0 then
      F_X6_count_27 B p1 2 S2
    else
      F_X6_count_27 B p1 0 S2)
  else
    F_X6_count_27 B p1 1 S
set_option maxRecDepth 20000 in
set_option maxHeartbeats 16000000 in
theorem c_X6_count {l : Launch} {B : Nat} {p1 : Int32} {S : z_S} {q : z_O × z_S} (hst : l.stackTraces = false) (hF : F_X6_count B p1 S = some q) : z_Met l I_X6_count 5 114 B [.ref 60, .int p1] S q.1 q.2 := by
  refine z_enter (ls := [some (.ref 60), some (.int p1)]) (n := 0) (by decide) rfl (Nat.le_of_ble_eq_true rfl) hst ?_
  unfold F_X6_count at hF
  refine z_aload_n (pc' := 1) dX6_count_0 rfl rfl rfl ?_
  refine z_aload_n (pc' := 2) dX6_count_1 rfl rfl rfl ?_
  refine gf_X6_149 (pc' := 5) rfl is_6_60 dX6_count_2 rfl ?_
  refine z_if_eq (tgt := 12) (pc' := 8) dX6_count_5 (by decide) rfl (fun c5 => ?_) (fun c5 => ?_)
  · rw [if_pos c5] at hF
    refine z_iload_n (pc' := 13) dX6_count_12 rfl rfl rfl ?_
    refine z_iconst (v := 0) (pc' := 14) dX6_count_13 (by decide) rfl ?_
    refine z_bipush (v := 9) (pc' := 16) dX6_count_14 (by decide) rfl ?_
    obtain ⟨r1, S2, hc3, hF⟩ := z_bne hF
    refine k_X6_isIn (F := 5) (L := 114) (pc' := 19) hc3 hst zw_104 rfl rfl (by decide) (by decide) (Nat.le_of_ble_eq_true rfl) dX6_count_16 rfl ?_
    refine z_if_ne (tgt := 26) (pc' := 22) dX6_count_19 (by decide) rfl (fun c4 => ?_) (fun c4 => ?_)
    · rw [if_neg c4] at hF
      refine z_iconst (v := 0) (pc' := 27) dX6_count_26 (by decide) rfl ?_
      refine z_wk (ls' := [some (.ref 60), some (.int p1)]) (z_lec rfl (z_lec rfl z_le0)) ?_
      exact (ok_X6_count_27 hst) _ _ _ hF
    · rw [if_pos c4] at hF
      refine z_iconst (v := 2) (pc' := 23) dX6_count_22 (by decide) rfl ?_
      refine z_goto (pc' := 27) dX6_count_23 (by decide) ?_
      refine z_wk (ls' := [some (.ref 60), some (.int p1)]) (z_lec rfl (z_lec rfl z_le0)) ?_
      exact (ok_X6_count_27 hst) _ _ _ hF
  · rw [if_neg c5] at hF
    refine z_iconst (v := 1) (pc' := 9) dX6_count_8 (by decide) rfl ?_
    refine z_goto (pc' := 27) dX6_count_9 (by decide) ?_
    refine z_wk (ls' := [some (.ref 60), some (.int p1)]) (z_lec rfl (z_lec rfl z_le0)) ?_
    exact (ok_X6_count_27 hst) _ _ _ hF
theorem ok_X6_count : z_okV I_X6_count 1 := ⟨⟨z_Gin (List.mem_of_getElem? (i := 1256) (by decide +kernel)) rfl, z_Gin (List.mem_of_getElem? (i := 1257) (by decide +kernel)) rfl, z_Gin (List.mem_of_getElem? (i := 98) (by decide +kernel)) rfl, z_Gin (List.mem_of_getElem? (i := 1258) (by decide +kernel)) rfl⟩, by decide, by decide, by decide +kernel⟩
theorem k_X6_count {l : Launch} {I : z_I} {R : Room} {B : Nat} {p1 : Int32} {q : z_O × z_S} {pc pc' : Nat} {ls : List (Option Value)} {st : List Value} {S S1 : z_S} {idx F L : Nat} {r : Int32}  (hF : F_X6_count B p1 S = some (.inl (some r), S1)) (hst : l.stackTraces = false) (w : Cond.methodLink I.1.cls idx yX6_count ∈ z_G) (hRF : R.frames = F) (hRL : R.locals = L) (h1 : 6 ≤ F) (h2 : 135 ≤ L) (hs : (st.map fun v => v.category).sum ≤ 8) (d : decode I.2.1 pc = .ok (.invokevirtual idx, 3)) (hp : pc + 3 = pc') (k : z_W l I R B q pc' ls (.int r :: st) S1) : z_W l I R B q pc ls (.int p1 :: .ref 60 :: st) S := z_callV (Y := I_X6_count) (As := [.int p1]) (st := st) (r := (some r)) (S1 := S1) (c_X6_count (q := (.inl (some r), S1)) hst hF) ok_X6_count w (ci := 6) rfl is_6_60.1 is_6_60.2 rfl ⟨by rw [hRF]; exact h1, by rw [hRL]; exact h2⟩ hs d hp rfl k

abbrev I_J7_fill_53178 : z_I := (yJ7_fill_53178, cJ7_fill_53178, 4, none)
abbrev R_J7_fill_53178 (q : z_O × z_S) : Room := { frames := 0, locals := 0, cells := z_mc q.1, slots := 6 * z_mc q.1 }
def F_J7_fill_53178_5 (B : Nat) (a1 m1 : Nat)  : Nat → Int32 → Int32 → Int32 → z_S → Option (z_O × z_S)
  | 0, _, _, _, _ => none
  | n + 1, v1, v2, v3, S => if v3 ≤ v2 then
    some (.inl none, S)
  else
    z_gd (z_inb v2 m1) (
    z_lt (z_ua S a1 (upd (S.1 a1) (z_ix (v2)) v1)) fun S2 =>
    (F_J7_fill_53178_5 B a1 m1 n v1 (v2 + 1) v3 S2))
set_option maxRecDepth 20000 in
set_option maxHeartbeats 16000000 in
theorem ok_J7_fill_53178_5 {l : Launch} {B : Nat} {a1 : Nat} {m1 : Nat} {q : z_O × z_S} (hst : l.stackTraces = false) (ha1 : z_arr B a1 0 m1) : ∀ (n : Nat) (v1 : Int32) (v2 : Int32) (v3 : Int32) (S : z_S), F_J7_fill_53178_5 B a1 m1 n v1 v2 v3 S = some q → z_W l I_J7_fill_53178 (R_J7_fill_53178 q) B q 5 [some (.ref a1), some (.int v1), some (.int v2), some (.int v3)] [] S := by
  intro n
  induction n with
  | zero => intro v1 v2 v3 S hF; cases hF
  | succ n ih =>
    intro v1 v2 v3 S hF
    rw [F_J7_fill_53178_5] at hF
    refine z_iload_n (pc' := 6) dJ7_fill_53178_5 rfl rfl rfl ?_
    refine z_iload_n (pc' := 7) dJ7_fill_53178_6 rfl rfl rfl ?_
    refine z_icmp_ge (tgt := 20) (pc' := 10) dJ7_fill_53178_7 (by decide) rfl (fun c3 => ?_) (fun c3 => ?_)
    · rw [if_pos c3] at hF
      exact z_return rfl dJ7_fill_53178_20 (Option.some.inj hF).symm
    · rw [if_neg c3] at hF
      refine z_aload_n (pc' := 11) dJ7_fill_53178_10 rfl rfl rfl ?_
      refine z_iload_n (pc' := 12) dJ7_fill_53178_11 rfl rfl rfl ?_
      refine z_iload_n (pc' := 13) dJ7_fill_53178_12 rfl rfl rfl ?_
      obtain ⟨g1, hF⟩ := z_gde hF
      refine z_iastore (pc' := 14) ha1 (z_inbe g1) dJ7_fill_53178_13 rfl (fun S2 eS2 => ?_)
      replace hF := z_lte hF S2 eS2
      refine z_iinc (v := v2 + 1) (pc' := 17) dJ7_fill_53178_14 rfl rfl (by decide) rfl rfl ?_
      refine z_goto (pc' := 5) dJ7_fill_53178_17 (by decide) ?_
      refine z_wk (ls' := [some (.ref a1), some (.int v1), some (.int (v2 + 1)), some (.int v3)]) (z_lec rfl (z_lec rfl (z_lec rfl (z_lec rfl z_le0)))) ?_
      exact ih _ _ _ _ hF
def F_J7_fill_53178 (B : Nat) (a1 m1 : Nat) (p1 : Int32) (S : z_S) : Option (z_O × z_S) :=
  F_J7_fill_53178_5 B a1 m1 z_n p1 0 (Int32.ofNat m1) S
set_option maxRecDepth 20000 in
set_option maxHeartbeats 16000000 in
theorem c_J7_fill_53178 {l : Launch} {B : Nat} {a1 : Nat} {m1 : Nat} {p1 : Int32} {S : z_S} {q : z_O × z_S} (hst : l.stackTraces = false) (ha1 : z_arr B a1 0 m1) (hF : F_J7_fill_53178 B a1 m1 p1 S = some q) : z_Met l I_J7_fill_53178 0 0 B [.ref a1, .int p1] S q.1 q.2 := by
  refine z_enter (ls := [some (.ref a1), some (.int p1), none, none]) (n := 2) (by decide) rfl (Nat.le_of_ble_eq_true rfl) hst ?_
  unfold F_J7_fill_53178 at hF
  refine z_iconst (v := 0) (pc' := 1) dJ7_fill_53178_0 (by decide) rfl ?_
  refine z_istore_n (pc' := 2) dJ7_fill_53178_1 rfl (by decide) rfl rfl ?_
  refine z_aload_n (pc' := 3) dJ7_fill_53178_2 rfl rfl rfl ?_
  refine z_alen (v := Int32.ofNat m1) (pc' := 4) ha1 (by decide) rfl dJ7_fill_53178_3 rfl ?_
  refine z_istore_n (pc' := 5) dJ7_fill_53178_4 rfl (by decide) rfl rfl ?_
  refine z_wk (ls' := [some (.ref a1), some (.int p1), some (.int 0), some (.int (Int32.ofNat m1))]) (z_lec rfl (z_lec rfl (z_lec rfl (z_lec rfl z_le0)))) ?_
  exact (ok_J7_fill_53178_5 hst ha1 z_n) _ _ _ _ hF
theorem ok_J7_fill_53178 : z_okS I_J7_fill_53178 2 := ⟨⟨z_Gin (List.mem_of_getElem? (i := 210) (by decide +kernel)) rfl, z_Gin (List.mem_of_getElem? (i := 95) (by decide +kernel)) rfl, z_Gin (List.mem_of_getElem? (i := 211) (by decide +kernel)) rfl⟩, by decide, by decide, by decide +kernel⟩
theorem k_J7_fill_53178 {l : Launch} {I : z_I} {R : Room} {B : Nat} {a1 : Nat} {m1 : Nat} {p1 : Int32} {q : z_O × z_S} {pc pc' : Nat} {ls : List (Option Value)} {st : List Value} {S S1 : z_S} {idx F L : Nat} (ha1 : z_arr B a1 0 m1) (hF : F_J7_fill_53178 B a1 m1 p1 S = some (.inl none, S1)) (hst : l.stackTraces = false) (w : Cond.methodLink I.1.cls idx yJ7_fill_53178 ∈ z_G) (hRF : R.frames = F) (hRL : R.locals = L) (h1 : 1 ≤ F) (h2 : 23 ≤ L) (hs : (st.map fun v => v.category).sum ≤ 8) (d : decode I.2.1 pc = .ok (.invokestatic idx, 3)) (hp : pc + 3 = pc') (k : z_W l I R B q pc' ls st S1) : z_W l I R B q pc ls (.int p1 :: .ref a1 :: st) S := z_callS (Y := I_J7_fill_53178) (As := [.ref a1, .int p1]) (st := st) (r := none) (S1 := S1) (c_J7_fill_53178 (q := (.inl none, S1)) hst ha1 hF) ok_J7_fill_53178 w rfl ⟨by rw [hRF]; exact h1, by rw [hRL]; exact h2⟩ hs d hp rfl k

