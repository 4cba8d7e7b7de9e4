abbrev I_X6_isName : z_I := (yX6_isName, cX6_isName, 2, some .boolean)
abbrev R_X6_isName (q : z_O × z_S) : Room := { frames := 1, locals := 22, cells := z_mc q.1, slots := 6 * z_mc q.1 }
def F_X6_isName (B : Nat) (p1 : Int32) (S : z_S) : Option (z_O × z_S) :=
  z_bn (F_X6_isIn B p1 0 999 S) fun r1 S2 =>
  (z_gd (z_b01 r1) (some (.inl (some r1), S2)))
set_option maxRecDepth 20000 in
theorem c_X6_isName {l : Launch} {B : Nat} {p1 : Int32} {S : z_S} {q : z_O × z_S} (hst : l.stackTraces = false) (hF : F_X6_isName B p1 S = some q) : z_Met l I_X6_isName 1 22 B [.ref 60, .int p1] S q.1 q.2 := by
  refine z_enter (ls := [some (.ref 60), some (.int p1)]) (n := 0) (by decide) rfl (Nat.le_of_ble_eq_true rfl) hst ?_
  unfold F_X6_isName at hF
  refine z_iload_n (pc' := 1) dX6_isName_0 rfl rfl rfl ?_
  refine z_iconst (v := 0) (pc' := 2) dX6_isName_1 (by decide) rfl ?_
  refine z_sipush (v := 999) (pc' := 5) dX6_isName_2 (by decide) rfl ?_
  obtain ⟨r1, S2, hc3, hF⟩ := z_bne hF
  have hm9 := c_X6_isIn hst hc3
  refine z_callS (As := [.int p1, .int 0, .int 999]) (st := []) (pc' := 8) hm9 ok_X6_isIn zw_104 rfl ⟨Nat.le_of_ble_eq_true rfl, Nat.le_of_ble_eq_true rfl⟩ (Nat.le_of_ble_eq_true rfl) dX6_isName_5 rfl rfl ?_
  obtain ⟨g4, hF⟩ := z_gde hF
  exact z_zreturn rfl (z_b01e g4) dX6_isName_8 (Option.some.inj hF).symm
theorem ok_X6_isName : z_okV I_X6_isName 1 := ⟨⟨z_Gin (List.mem_of_getElem? (i := 987) (by decide +kernel)) rfl, z_Gin (List.mem_of_getElem? (i := 39) (by decide +kernel)) rfl, z_Gin (List.mem_of_getElem? (i := 98) (by decide +kernel)) rfl, z_Gin (List.mem_of_getElem? (i := 988) (by decide +kernel)) rfl⟩, by decide, by decide, by decide +kernel⟩
abbrev I_X6_make : z_I := (yX6_make, cX6_make, 5, some .int)
abbrev R_X6_make (q : z_O × z_S) : Room := { frames := 6, locals := 149, cells := z_mc q.1, slots := 6 * z_mc q.1 }
def F_X6_make_208 (B : Nat)  (s0 : Int32) (S : z_S) : Option (z_O × z_S) :=
  some (.inl (some s0), S)
set_option maxRecDepth 20000 in
theorem ok_X6_make_208 {l : Launch} {B : Nat} {q : z_O × z_S} (hst : l.stackTraces = false) : ∀ (s0 : Int32) (S : z_S), F_X6_make_208 B s0 S = some q → z_W l I_X6_make (R_X6_make q) B q 208 [none, none, none, none, none] [.int s0] S := by
  intro s0 S hF
  unfold F_X6_make_208 at hF
  exact z_ireturn rfl dX6_make_208 (Option.some.inj hF).symm
def F_X6_make_180 (B : Nat)  (v1 : Int32) (v4 : Int32) (S : z_S) : Option (z_O × z_S) :=
  z_gd (z_inb (218 + v1) 25366) (
  z_lt (S.1 61 (z_ix (218 + v1))) fun x2 =>
  (z_gd (z_inb (218 + v1) 25366) (
  z_lt (z_ua S 61 (upd (S.1 61) (z_ix (218 + v1)) (x2 + 1))) fun S4 =>
  (z_bn (F_X6_ended B 4 S4) fun r5 S6 =>
  (if r5 = 0 then
    F_X6_make_208 B 0 S6
  else
    F_X6_make_208 B v4 S6)))))
set_option maxRecDepth 20000 in
theorem ok_X6_make_180 {l : Launch} {B : Nat} {q : z_O × z_S} (hst : l.stackTraces = false) : ∀ (v1 : Int32) (v4 : Int32) (S : z_S), F_X6_make_180 B v1 v4 S = some q → z_W l I_X6_make (R_X6_make q) B q 180 [some (.ref 60), some (.int v1), none, none, some (.int v4)] [] S := by
  intro v1 v4 S hF
  unfold F_X6_make_180 at hF
  refine z_aload_n (pc' := 181) dX6_make_180 rfl rfl rfl ?_
  refine gf_X6_7 (b := 61) (pc' := 184) rfl is_6_60 rfl dX6_make_181 rfl ?_
  refine z_sipush (v := 218) (pc' := 187) dX6_make_184 (by decide) rfl ?_
  refine z_iload_n (pc' := 188) dX6_make_187 rfl rfl rfl ?_
  refine z_iadd (pc' := 189) dX6_make_188 rfl ?_
  refine z_dup2 (pc' := 190) dX6_make_189 rfl ?_
  obtain ⟨g1, hF⟩ := z_gde hF
  refine z_iaload (pc' := 191) (ar_6_f3 is_6_60) (z_inbe g1) dX6_make_190 rfl ?_
  refine z_topi (fun x2 ex2 => ?_)
  replace hF := z_lte hF x2 ex2
  refine z_iconst (v := 1) (pc' := 192) dX6_make_191 (by decide) rfl ?_
  refine z_iadd (pc' := 193) dX6_make_192 rfl ?_
  obtain ⟨g3, hF⟩ := z_gde hF
  refine z_iastore (pc' := 194) (ar_6_f3 is_6_60) (z_inbe g3) dX6_make_193 rfl (fun S4 eS4 => ?_)
  replace hF := z_lte hF S4 eS4
  refine z_aload_n (pc' := 195) dX6_make_194 rfl rfl rfl ?_
  refine z_iconst (v := 4) (pc' := 196) dX6_make_195 (by decide) rfl ?_
  obtain ⟨r5, S6, hc7, hF⟩ := z_bne hF
  have hm9 := c_X6_ended hst hc7
  refine z_callV (As := [.int 4]) (st := []) (pc' := 199) hm9 ok_X6_ended zw_140 (ci := 6) rfl is_6_60.1 is_6_60.2 rfl ⟨Nat.le_of_ble_eq_true rfl, Nat.le_of_ble_eq_true rfl⟩ (Nat.le_of_ble_eq_true rfl) dX6_make_196 rfl rfl ?_
  refine z_if_eq (tgt := 207) (pc' := 202) dX6_make_199 (by decide) rfl (fun c8 => ?_) (fun c8 => ?_)
  · rw [if_pos c8] at hF
    refine z_iconst (v := 0) (pc' := 208) dX6_make_207 (by decide) rfl ?_
    refine z_wk (ls' := [none, none, none, none, none]) (z_len1 (z_len1 (z_len1 (z_len1 (z_len1 z_le0))))) ?_
    exact (ok_X6_make_208 hst) _ _ hF
  · rw [if_neg c8] at hF
    refine z_iload (pc' := 204) dX6_make_202 rfl rfl ?_
    refine z_goto (pc' := 208) dX6_make_204 (by decide) ?_
    refine z_wk (ls' := [none, none, none, none, none]) (z_len1 (z_len1 (z_len1 (z_len1 (z_len1 z_le0))))) ?_
    exact (ok_X6_make_208 hst) _ _ hF
def F_X6_make_115 (B : Nat)  (v1 : Int32) (v2 : Int32) (v4 : Int32) (s0 : Int32) (s1 : Int32) (S : z_S) : Option (z_O × z_S) :=
  z_gd (z_inb s1 25366) (
  z_lt (z_ua S 61 (upd (S.1 61) (z_ix (s1)) s0)) fun S2 =>
  (z_gd (z_inb (157 + v4) 25366) (
  z_lt (z_ua S2 61 (upd (S2.1 61) (z_ix (157 + v4)) 1)) fun S4 =>
  (z_gd (z_inb (218 + v4) 25366) (
  z_lt (z_ua S4 61 (upd (S4.1 61) (z_ix (218 + v4)) 0)) fun S6 =>
  (z_gd (z_inb (279 + v4) 25366) (
  z_lt (z_ua S6 61 (upd (S6.1 61) (z_ix (279 + v4)) 0)) fun S8 =>
  (z_bo (F_X6_put B v4 0 0 6 0 S8) fun S10 =>
  (if (S10.2.1 60 7) = 0 then
    z_bo (F_X6_put B v1 1 v2 3 v4 S10) fun S13 =>
    (F_X6_make_180 B v1 v4 S13)
  else
    F_X6_make_180 B v1 v4 S10)))))))))
set_option maxRecDepth 20000 in
theorem ok_X6_make_115 {l : Launch} {B : Nat} {q : z_O × z_S} (hst : l.stackTraces = false) : ∀ (v1 : Int32) (v2 : Int32) (v4 : Int32) (s0 : Int32) (s1 : Int32) (S : z_S), F_X6_make_115 B v1 v2 v4 s0 s1 S = some q → z_W l I_X6_make (R_X6_make q) B q 115 [some (.ref 60), some (.int v1), some (.int v2), none, some (.int v4)] [.int s0, .int s1, .ref 61] S := by
  intro v1 v2 v4 s0 s1 S hF
  unfold F_X6_make_115 at hF
  obtain ⟨g1, hF⟩ := z_gde hF
  refine z_iastore (pc' := 116) (ar_6_f3 is_6_60) (z_inbe g1) dX6_make_115 rfl (fun S2 eS2 => ?_)
  replace hF := z_lte hF S2 eS2
  refine z_aload_n (pc' := 117) dX6_make_116 rfl rfl rfl ?_
  refine gf_X6_7 (b := 61) (pc' := 120) rfl is_6_60 rfl dX6_make_117 rfl ?_
  refine z_sipush (v := 157) (pc' := 123) dX6_make_120 (by decide) rfl ?_
  refine z_iload (pc' := 125) dX6_make_123 rfl rfl ?_
  refine z_iadd (pc' := 126) dX6_make_125 rfl ?_
  refine z_iconst (v := 1) (pc' := 127) dX6_make_126 (by decide) rfl ?_
  obtain ⟨g3, hF⟩ := z_gde hF
  refine z_iastore (pc' := 128) (ar_6_f3 is_6_60) (z_inbe g3) dX6_make_127 rfl (fun S4 eS4 => ?_)
  replace hF := z_lte hF S4 eS4
  refine z_aload_n (pc' := 129) dX6_make_128 rfl rfl rfl ?_
  refine gf_X6_7 (b := 61) (pc' := 132) rfl is_6_60 rfl dX6_make_129 rfl ?_
  refine z_sipush (v := 218) (pc' := 135) dX6_make_132 (by decide) rfl ?_
  refine z_iload (pc' := 137) dX6_make_135 rfl rfl ?_
  refine z_iadd (pc' := 138) dX6_make_137 rfl ?_
  refine z_iconst (v := 0) (pc' := 139) dX6_make_138 (by decide) rfl ?_
  obtain ⟨g5, hF⟩ := z_gde hF
  refine z_iastore (pc' := 140) (ar_6_f3 is_6_60) (z_inbe g5) dX6_make_139 rfl (fun S6 eS6 => ?_)
  replace hF := z_lte hF S6 eS6
  refine z_aload_n (pc' := 141) dX6_make_140 rfl rfl rfl ?_
  refine gf_X6_7 (b := 61) (pc' := 144) rfl is_6_60 rfl dX6_make_141 rfl ?_
  refine z_sipush (v := 279) (pc' := 147) dX6_make_144 (by decide) rfl ?_
  refine z_iload (pc' := 149) dX6_make_147 rfl rfl ?_
  refine z_iadd (pc' := 150) dX6_make_149 rfl ?_
  refine z_iconst (v := 0) (pc' := 151) dX6_make_150 (by decide) rfl ?_
  obtain ⟨g7, hF⟩ := z_gde hF
  refine z_iastore (pc' := 152) (ar_6_f3 is_6_60) (z_inbe g7) dX6_make_151 rfl (fun S8 eS8 => ?_)
  replace hF := z_lte hF S8 eS8
  refine z_aload_n (pc' := 153) dX6_make_152 rfl rfl rfl ?_
  refine z_iload (pc' := 155) dX6_make_153 rfl rfl ?_
  refine z_iconst (v := 0) (pc' := 156) dX6_make_155 (by decide) rfl ?_
  refine z_iconst (v := 0) (pc' := 157) dX6_make_156 (by decide) rfl ?_
  refine z_bipush (v := 6) (pc' := 159) dX6_make_157 (by decide) rfl ?_
  refine z_iconst (v := 0) (pc' := 160) dX6_make_159 (by decide) rfl ?_
  obtain ⟨S10, hc11, hF⟩ := z_boe hF
  have hm9 := c_X6_put hst hc11
  refine z_callV (As := [.int v4, .int 0, .int 0, .int 6, .int 0]) (st := []) (pc' := 163) hm9 ok_X6_put zw_129 (ci := 6) rfl is_6_60.1 is_6_60.2 rfl ⟨Nat.le_of_ble_eq_true rfl, Nat.le_of_ble_eq_true rfl⟩ (Nat.le_of_ble_eq_true rfl) dX6_make_160 rfl rfl ?_
  refine z_aload_n (pc' := 164) dX6_make_163 rfl rfl rfl ?_
  refine gf_X6_51 (pc' := 167) rfl is_6_60 dX6_make_164 rfl ?_
  refine z_if_ne (tgt := 180) (pc' := 170) dX6_make_167 (by decide) rfl (fun c15 => ?_) (fun c15 => ?_)
  · rw [if_neg c15] at hF
    refine z_wk (ls' := [some (.ref 60), some (.int v1), none, none, some (.int v4)]) (z_lec rfl (z_lec rfl (z_len1 (z_len1 (z_lec rfl z_le0))))) ?_
    exact (ok_X6_make_180 hst) _ _ _ hF
  · rw [if_pos c15] at hF
    refine z_aload_n (pc' := 171) dX6_make_170 rfl rfl rfl ?_
    refine z_iload_n (pc' := 172) dX6_make_171 rfl rfl rfl ?_
    refine z_iconst (v := 1) (pc' := 173) dX6_make_172 (by decide) rfl ?_
    refine z_iload_n (pc' := 174) dX6_make_173 rfl rfl rfl ?_
    refine z_iconst (v := 3) (pc' := 175) dX6_make_174 (by decide) rfl ?_
    refine z_iload (pc' := 177) dX6_make_175 rfl rfl ?_
    obtain ⟨S13, hc14, hF⟩ := z_boe hF
    have hm9 := c_X6_put hst hc14
    refine z_callV (As := [.int v1, .int 1, .int v2, .int 3, .int v4]) (st := []) (pc' := 180) hm9 ok_X6_put zw_129 (ci := 6) rfl is_6_60.1 is_6_60.2 rfl ⟨Nat.le_of_ble_eq_true rfl, Nat.le_of_ble_eq_true rfl⟩ (Nat.le_of_ble_eq_true rfl) dX6_make_177 rfl rfl ?_
    refine z_wk (ls' := [some (.ref 60), some (.int v1), none, none, some (.int v4)]) (z_lec rfl (z_lec rfl (z_len1 (z_len1 (z_lec rfl z_le0))))) ?_
    exact (ok_X6_make_180 hst) _ _ _ hF
def F_X6_make_78 (B : Nat)  : Nat → Int32 → Int32 → Int32 → Int32 → z_S → Option (z_O × z_S)
  | 0, _, _, _, _, _ => none
  | n + 1, v1, v2, v3, v4, S => z_gd (z_inb (96 + v4) 25366) (
  z_lt (S.1 61 (z_ix (96 + v4))) fun x2 =>
  (if x2 ≤ 0 then
    if v3 = 0 then
      F_X6_make_115 B v1 v2 v4 2 (96 + v4) S
    else
      F_X6_make_115 B v1 v2 v4 1 (96 + v4) S
  else
    F_X6_make_78 B n v1 v2 v3 (v4 + 1) S))
set_option maxRecDepth 20000 in
theorem ok_X6_make_78 {l : Launch} {B : Nat} {q : z_O × z_S} (hst : l.stackTraces = false) : ∀ (n : Nat) (v1 : Int32) (v2 : Int32) (v3 : Int32) (v4 : Int32) (S : z_S), F_X6_make_78 B n v1 v2 v3 v4 S = some q → z_W l I_X6_make (R_X6_make q) B q 78 [some (.ref 60), some (.int v1), some (.int v2), some (.int v3), some (.int v4)] [] S := by
  intro n
  induction n with
  | zero => intro v1 v2 v3 v4 S hF; cases hF
  | succ n ih =>
    intro v1 v2 v3 v4 S hF
    rw [F_X6_make_78] at hF
    refine z_aload_n (pc' := 79) dX6_make_78 rfl rfl rfl ?_
    refine gf_X6_7 (b := 61) (pc' := 82) rfl is_6_60 rfl dX6_make_79 rfl ?_
    refine z_bipush (v := 96) (pc' := 84) dX6_make_82 (by decide) rfl ?_
    refine z_iload (pc' := 86) dX6_make_84 rfl rfl ?_
    refine z_iadd (pc' := 87) dX6_make_86 rfl ?_
    obtain ⟨g1, hF⟩ := z_gde hF
    refine z_iaload (pc' := 88) (ar_6_f3 is_6_60) (z_inbe g1) dX6_make_87 rfl ?_
    refine z_topi (fun x2 ex2 => ?_)
    replace hF := z_lte hF x2 ex2
    refine z_if_le (tgt := 97) (pc' := 91) dX6_make_88 (by decide) rfl (fun c4 => ?_) (fun c4 => ?_)
    · rw [if_pos c4] at hF
      refine z_aload_n (pc' := 98) dX6_make_97 rfl rfl rfl ?_
      refine gf_X6_7 (b := 61) (pc' := 101) rfl is_6_60 rfl dX6_make_98 rfl ?_
      refine z_bipush (v := 96) (pc' := 103) dX6_make_101 (by decide) rfl ?_
      refine z_iload (pc' := 105) dX6_make_103 rfl rfl ?_
      refine z_iadd (pc' := 106) dX6_make_105 rfl ?_
      refine z_iload_n (pc' := 107) dX6_make_106 rfl rfl rfl ?_
      refine z_if_eq (tgt := 114) (pc' := 110) dX6_make_107 (by decide) rfl (fun c3 => ?_) (fun c3 => ?_)
      · rw [if_pos c3] at hF
        refine z_iconst (v := 2) (pc' := 115) dX6_make_114 (by decide) rfl ?_
        refine z_wk (ls' := [some (.ref 60), some (.int v1), some (.int v2), none, some (.int v4)]) (z_lec rfl (z_lec rfl (z_lec rfl (z_len1 (z_lec rfl z_le0))))) ?_
        exact (ok_X6_make_115 hst) _ _ _ _ _ _ hF
      · rw [if_neg c3] at hF
        refine z_iconst (v := 1) (pc' := 111) dX6_make_110 (by decide) rfl ?_
        refine z_goto (pc' := 115) dX6_make_111 (by decide) ?_
        refine z_wk (ls' := [some (.ref 60), some (.int v1), some (.int v2), none, some (.int v4)]) (z_lec rfl (z_lec rfl (z_lec rfl (z_len1 (z_lec rfl z_le0))))) ?_
        exact (ok_X6_make_115 hst) _ _ _ _ _ _ hF
    · rw [if_neg c4] at hF
      refine z_iinc (v := v4 + 1) (pc' := 94) dX6_make_91 rfl rfl (by decide) rfl rfl ?_
      refine z_goto (pc' := 78) dX6_make_94 (by decide) ?_
      refine z_wk (ls' := [some (.ref 60), some (.int v1), some (.int v2), some (.int v3), some (.int (v4 + 1))]) (z_lec rfl (z_lec rfl (z_lec rfl (z_lec rfl (z_lec rfl z_le0))))) ?_
      exact ih _ _ _ _ _ hF
def F_X6_make_59 (B : Nat)  (v1 : Int32) (v2 : Int32) (v3 : Int32) (s0 : Int32) (S : z_S) : Option (z_O × z_S) :=
  z_lt (z_ui S 60 0 s0) fun S1 =>
  (if (S1.2.1 60 0) ≤ 0 then
    z_bo (F_X6_begin B S1) fun S3 =>
    (F_X6_make_78 B z_n v1 v2 v3 1 S3)
  else
    some (.inl (some 0), S1))
set_option maxRecDepth 20000 in
theorem ok_X6_make_59 {l : Launch} {B : Nat} {q : z_O × z_S} (hst : l.stackTraces = false) : ∀ (v1 : Int32) (v2 : Int32) (v3 : Int32) (s0 : Int32) (S : z_S), F_X6_make_59 B v1 v2 v3 s0 S = some q → z_W l I_X6_make (R_X6_make q) B q 59 [some (.ref 60), some (.int v1), some (.int v2), some (.int v3), none] [.int s0, .ref 60] S := by
  intro v1 v2 v3 s0 S hF
  unfold F_X6_make_59 at hF
  refine pf_X6_40 (pc' := 62) rfl is_6_60 dX6_make_59 rfl (fun S1 eS1 => ?_)
  replace hF := z_lte hF S1 eS1
  refine z_aload_n (pc' := 63) dX6_make_62 rfl rfl rfl ?_
  refine gf_X6_40 (pc' := 66) rfl is_6_60 dX6_make_63 rfl ?_
  refine z_if_le (tgt := 71) (pc' := 69) dX6_make_66 (by decide) rfl (fun c5 => ?_) (fun c5 => ?_)
  · rw [if_pos c5] at hF
    refine z_aload_n (pc' := 72) dX6_make_71 rfl rfl rfl ?_
    obtain ⟨S3, hc4, hF⟩ := z_boe hF
    have hm9 := c_X6_begin hst hc4
    refine z_callV (As := []) (st := []) (pc' := 75) hm9 ok_X6_begin zw_139 (ci := 6) rfl is_6_60.1 is_6_60.2 rfl ⟨Nat.le_of_ble_eq_true rfl, Nat.le_of_ble_eq_true rfl⟩ (Nat.le_of_ble_eq_true rfl) dX6_make_72 rfl rfl ?_
    refine z_iconst (v := 1) (pc' := 76) dX6_make_75 (by decide) rfl ?_
    refine z_istore (pc' := 78) dX6_make_76 (by decide) rfl rfl ?_
    refine z_wk (ls' := [some (.ref 60), some (.int v1), some (.int v2), some (.int v3), some (.int 1)]) (z_lec rfl (z_lec rfl (z_lec rfl (z_lec rfl (z_lec rfl z_le0))))) ?_
    exact (ok_X6_make_78 hst z_n) _ _ _ _ _ hF
  · rw [if_neg c5] at hF
    refine z_iconst (v := 0) (pc' := 70) dX6_make_69 (by decide) rfl ?_
    exact z_ireturn rfl dX6_make_70 (Option.some.inj hF).symm
def F_X6_make_54 (B : Nat) (k59 : Int32 → Int32 → Int32 → Int32 → z_S → Option (z_O × z_S)) (v1 : Int32) (v2 : Int32) (v3 : Int32) (S : z_S) : Option (z_O × z_S) :=
  k59 v1 v2 v3 4 S
set_option maxRecDepth 20000 in
theorem ok_X6_make_54 {l : Launch} {B : Nat} {q : z_O × z_S} (hst : l.stackTraces = false) {k59 : Int32 → Int32 → Int32 → Int32 → z_S → Option (z_O × z_S)} (hk59 : ∀ (v1 : Int32) (v2 : Int32) (v3 : Int32) (s0 : Int32) (S : z_S), k59 v1 v2 v3 s0 S = some q → z_W l I_X6_make (R_X6_make q) B q 59 [some (.ref 60), some (.int v1), some (.int v2), some (.int v3), none] [.int s0, .ref 60] S) : ∀ (v1 : Int32) (v2 : Int32) (v3 : Int32) (S : z_S), F_X6_make_54 B k59 v1 v2 v3 S = some q → z_W l I_X6_make (R_X6_make q) B q 54 [some (.ref 60), some (.int v1), some (.int v2), some (.int v3), none] [.ref 60] S := by
  intro v1 v2 v3 S hF
  unfold F_X6_make_54 at hF
  refine z_iconst (v := 4) (pc' := 55) dX6_make_54 (by decide) rfl ?_
  refine z_goto (pc' := 59) dX6_make_55 (by decide) ?_
  refine z_wk (ls' := [some (.ref 60), some (.int v1), some (.int v2), some (.int v3), none]) (z_lec rfl (z_lec rfl (z_lec rfl (z_lec rfl (z_len1 z_le0))))) ?_
  exact hk59 _ _ _ _ _ hF
def F_X6_make (B : Nat) (p1 : Int32) (p2 : Int32) (p3 : Int32) (S : z_S) : Option (z_O × z_S) :=
  if (S.2.1 60 10) = 0 then
    z_bn (F_X6_isDirectory B p1 S) fun r1 S2 =>
    (if r1 = 0 then
      F_X6_make_59 B p1 p2 p3 2 S2
    else
      z_bn (F_X6_isName B p2 S2) fun r4 S5 =>
      (if r4 = 0 then
        F_X6_make_59 B p1 p2 p3 3 S5
      else
        z_bn (F_X6_entry B p1 p2 S5) fun r7 S8 =>
        (if 0 ≤ r7 then
          F_X6_make_54 B (F_X6_make_59 B ) p1 p2 p3 S8
        else
          z_bn (F_X6_objects B S8) fun r10 S11 =>
          (if r10 = 60 then
            F_X6_make_54 B (F_X6_make_59 B ) p1 p2 p3 S11
          else
            F_X6_make_59 B p1 p2 p3 0 S11))))
  else
    F_X6_make_59 B p1 p2 p3 1 S
set_option maxRecDepth 20000 in
theorem c_X6_make {l : Launch} {B : Nat} {p1 : Int32} {p2 : Int32} {p3 : Int32} {S : z_S} {q : z_O × z_S} (hst : l.stackTraces = false) (hF : F_X6_make B p1 p2 p3 S = some q) : z_Met l I_X6_make 6 149 B [.ref 60, .int p1, .int p2, .int p3] S q.1 q.2 := by
  refine z_enter (ls := [some (.ref 60), some (.int p1), some (.int p2), some (.int p3), none]) (n := 1) (by decide) rfl (Nat.le_of_ble_eq_true rfl) hst ?_
  unfold F_X6_make at hF
  refine z_aload_n (pc' := 1) dX6_make_0 rfl rfl rfl ?_
  refine z_aload_n (pc' := 2) dX6_make_1 rfl rfl rfl ?_
  refine gf_X6_149 (pc' := 5) rfl is_6_60 dX6_make_2 rfl ?_
  refine z_if_eq (tgt := 12) (pc' := 8) dX6_make_5 (by decide) rfl (fun c17 => ?_) (fun c17 => ?_)
  · rw [if_pos c17] at hF
    refine z_aload_n (pc' := 13) dX6_make_12 rfl rfl rfl ?_
    refine z_iload_n (pc' := 14) dX6_make_13 rfl rfl rfl ?_
    obtain ⟨r1, S2, hc3, hF⟩ := z_bne hF
    have hm9 := c_X6_isDirectory hst hc3
    refine z_callV (As := [.int p1]) (st := [.ref 60]) (pc' := 17) hm9 ok_X6_isDirectory zw_135 (ci := 6) rfl is_6_60.1 is_6_60.2 rfl ⟨Nat.le_of_ble_eq_true rfl, Nat.le_of_ble_eq_true rfl⟩ (Nat.le_of_ble_eq_true rfl) dX6_make_14 rfl rfl ?_
    refine z_if_ne (tgt := 24) (pc' := 20) dX6_make_17 (by decide) rfl (fun c16 => ?_) (fun c16 => ?_)
    · rw [if_neg c16] at hF
      refine z_aload_n (pc' := 25) dX6_make_24 rfl rfl rfl ?_
      refine z_iload_n (pc' := 26) dX6_make_25 rfl rfl rfl ?_
      obtain ⟨r4, S5, hc6, hF⟩ := z_bne hF
      have hm9 := c_X6_isName hst hc6
      refine z_callV (As := [.int p2]) (st := [.ref 60]) (pc' := 29) hm9 ok_X6_isName zw_136 (ci := 6) rfl is_6_60.1 is_6_60.2 rfl ⟨Nat.le_of_ble_eq_true rfl, Nat.le_of_ble_eq_true rfl⟩ (Nat.le_of_ble_eq_true rfl) dX6_make_26 rfl rfl ?_
      refine z_if_ne (tgt := 36) (pc' := 32) dX6_make_29 (by decide) rfl (fun c15 => ?_) (fun c15 => ?_)
      · rw [if_neg c15] at hF
        refine z_aload_n (pc' := 37) dX6_make_36 rfl rfl rfl ?_
        refine z_iload_n (pc' := 38) dX6_make_37 rfl rfl rfl ?_
        refine z_iload_n (pc' := 39) dX6_make_38 rfl rfl rfl ?_
        obtain ⟨r7, S8, hc9, hF⟩ := z_bne hF
        have hm9 := c_X6_entry hst hc9
        refine z_callV (As := [.int p1, .int p2]) (st := [.ref 60]) (pc' := 42) hm9 ok_X6_entry zw_137 (ci := 6) rfl is_6_60.1 is_6_60.2 rfl ⟨Nat.le_of_ble_eq_true rfl, Nat.le_of_ble_eq_true rfl⟩ (Nat.le_of_ble_eq_true rfl) dX6_make_39 rfl rfl ?_
        refine z_if_ge (tgt := 54) (pc' := 45) dX6_make_42 (by decide) rfl (fun c14 => ?_) (fun c14 => ?_)
        · rw [if_pos c14] at hF
          refine z_wk (ls' := [some (.ref 60), some (.int p1), some (.int p2), some (.int p3), none]) (z_lec rfl (z_lec rfl (z_lec rfl (z_lec rfl (z_len1 z_le0))))) ?_
          exact (ok_X6_make_54 hst (ok_X6_make_59 hst)) _ _ _ _ hF
        · rw [if_neg c14] at hF
          refine z_aload_n (pc' := 46) dX6_make_45 rfl rfl rfl ?_
          obtain ⟨r10, S11, hc12, hF⟩ := z_bne hF
          have hm9 := c_X6_objects hst hc12
          refine z_callV (As := []) (st := [.ref 60]) (pc' := 49) hm9 ok_X6_objects zw_138 (ci := 6) rfl is_6_60.1 is_6_60.2 rfl ⟨Nat.le_of_ble_eq_true rfl, Nat.le_of_ble_eq_true rfl⟩ (Nat.le_of_ble_eq_true rfl) dX6_make_46 rfl rfl ?_
          refine z_bipush (v := 60) (pc' := 51) dX6_make_49 (by decide) rfl ?_
          refine z_icmp_ne (tgt := 58) (pc' := 54) dX6_make_51 (by decide) rfl (fun c13 => ?_) (fun c13 => ?_)
          · rw [if_neg c13] at hF
            refine z_iconst (v := 0) (pc' := 59) dX6_make_58 (by decide) rfl ?_
            refine z_wk (ls' := [some (.ref 60), some (.int p1), some (.int p2), some (.int p3), none]) (z_lec rfl (z_lec rfl (z_lec rfl (z_lec rfl (z_len1 z_le0))))) ?_
            exact (ok_X6_make_59 hst) _ _ _ _ _ hF
          · rw [if_pos c13] at hF
            refine z_wk (ls' := [some (.ref 60), some (.int p1), some (.int p2), some (.int p3), none]) (z_lec rfl (z_lec rfl (z_lec rfl (z_lec rfl (z_len1 z_le0))))) ?_
            exact (ok_X6_make_54 hst (ok_X6_make_59 hst)) _ _ _ _ hF
      · rw [if_pos c15] at hF
        refine z_iconst (v := 3) (pc' := 33) dX6_make_32 (by decide) rfl ?_
        refine z_goto (pc' := 59) dX6_make_33 (by decide) ?_
        refine z_wk (ls' := [some (.ref 60), some (.int p1), some (.int p2), some (.int p3), none]) (z_lec rfl (z_lec rfl (z_lec rfl (z_lec rfl (z_len1 z_le0))))) ?_
        exact (ok_X6_make_59 hst) _ _ _ _ _ hF
    · rw [if_pos c16] at hF
      refine z_iconst (v := 2) (pc' := 21) dX6_make_20 (by decide) rfl ?_
      refine z_goto (pc' := 59) dX6_make_21 (by decide) ?_
      refine z_wk (ls' := [some (.ref 60), some (.int p1), some (.int p2), some (.int p3), none]) (z_lec rfl (z_lec rfl (z_lec rfl (z_lec rfl (z_len1 z_le0))))) ?_
      exact (ok_X6_make_59 hst) _ _ _ _ _ hF
  · rw [if_neg c17] at hF
    refine z_iconst (v := 1) (pc' := 9) dX6_make_8 (by decide) rfl ?_
    refine z_goto (pc' := 59) dX6_make_9 (by decide) ?_
    refine z_wk (ls' := [some (.ref 60), some (.int p1), some (.int p2), some (.int p3), none]) (z_lec rfl (z_lec rfl (z_lec rfl (z_lec rfl (z_len1 z_le0))))) ?_
    exact (ok_X6_make_59 hst) _ _ _ _ _ hF
theorem ok_X6_make : z_okV I_X6_make 3 := ⟨⟨z_Gin (List.mem_of_getElem? (i := 971) (by decide +kernel)) rfl, z_Gin (List.mem_of_getElem? (i := 972) (by decide +kernel)) rfl, z_Gin (List.mem_of_getElem? (i := 98) (by decide +kernel)) rfl, z_Gin (List.mem_of_getElem? (i := 973) (by decide +kernel)) rfl⟩, by decide, by decide, by decide +kernel⟩
abbrev I_X6_link : z_I := (yX6_link, cX6_link, 4, some .int)
abbrev R_X6_link (q : z_O × z_S) : Room := { frames := 6, locals := 149, cells := z_mc q.1, slots := 6 * z_mc q.1 }
def F_X6_link_133 (B : Nat)  (s0 : Int32) (S : z_S) : Option (z_O × z_S) :=
  some (.inl (some s0), S)
set_option maxRecDepth 20000 in
theorem ok_X6_link_133 {l : Launch} {B : Nat} {q : z_O × z_S} (hst : l.stackTraces = false) : ∀ (s0 : Int32) (S : z_S), F_X6_link_133 B s0 S = some q → z_W l I_X6_link (R_X6_link q) B q 133 [none, none, none, none] [.int s0] S := by
  intro s0 S hF
  unfold F_X6_link_133 at hF
  exact z_ireturn rfl dX6_link_133 (Option.some.inj hF).symm
def F_X6_link_58 (B : Nat)  (v1 : Int32) (v2 : Int32) (v3 : Int32) (s0 : Int32) (S : z_S) : Option (z_O × z_S) :=
  z_lt (z_ui S 60 0 s0) fun S1 =>
  (if (S1.2.1 60 0) ≤ 0 then
    z_bo (F_X6_begin B S1) fun S3 =>
    (z_bo (F_X6_put B v1 1 v2 3 v3 S3) fun S6 =>
    (z_gd (z_inb (218 + v1) 25366) (
    z_lt (S6.1 61 (z_ix (218 + v1))) fun x9 =>
    (z_gd (z_inb (218 + v1) 25366) (
    z_lt (z_ua S6 61 (upd (S6.1 61) (z_ix (218 + v1)) (x9 + 1))) fun S11 =>
    (z_gd (z_inb (157 + v3) 25366) (
    z_lt (S11.1 61 (z_ix (157 + v3))) fun x13 =>
    (z_gd (z_inb (157 + v3) 25366) (
    z_lt (z_ua S11 61 (upd (S11.1 61) (z_ix (157 + v3)) (x13 + 1))) fun S15 =>
    (z_bn (F_X6_ended B 4 S15) fun r16 S17 =>
    (if r16 = 0 then
      F_X6_link_133 B 0 S17
    else
      z_gd (z_inb (157 + v3) 25366) (
      z_lt (S17.1 61 (z_ix (157 + v3))) fun x20 =>
      (F_X6_link_133 B x20 S17)))))))))))))
  else
    some (.inl (some 0), S1))
set_option maxRecDepth 20000 in
theorem ok_X6_link_58 {l : Launch} {B : Nat} {q : z_O × z_S} (hst : l.stackTraces = false) : ∀ (v1 : Int32) (v2 : Int32) (v3 : Int32) (s0 : Int32) (S : z_S), F_X6_link_58 B v1 v2 v3 s0 S = some q → z_W l I_X6_link (R_X6_link q) B q 58 [some (.ref 60), some (.int v1), some (.int v2), some (.int v3)] [.int s0, .ref 60] S := by
  intro v1 v2 v3 s0 S hF
  unfold F_X6_link_58 at hF
  refine pf_X6_40 (pc' := 61) rfl is_6_60 dX6_link_58 rfl (fun S1 eS1 => ?_)
  replace hF := z_lte hF S1 eS1
  refine z_aload_n (pc' := 62) dX6_link_61 rfl rfl rfl ?_
  refine gf_X6_40 (pc' := 65) rfl is_6_60 dX6_link_62 rfl ?_
  refine z_if_le (tgt := 70) (pc' := 68) dX6_link_65 (by decide) rfl (fun c22 => ?_) (fun c22 => ?_)
  · rw [if_pos c22] at hF
    refine z_aload_n (pc' := 71) dX6_link_70 rfl rfl rfl ?_
    obtain ⟨S3, hc4, hF⟩ := z_boe hF
    have hm9 := c_X6_begin hst hc4
    refine z_callV (As := []) (st := []) (pc' := 74) hm9 ok_X6_begin zw_139 (ci := 6) rfl is_6_60.1 is_6_60.2 rfl ⟨Nat.le_of_ble_eq_true rfl, Nat.le_of_ble_eq_true rfl⟩ (Nat.le_of_ble_eq_true rfl) dX6_link_71 rfl rfl ?_
    refine z_aload_n (pc' := 75) dX6_link_74 rfl rfl rfl ?_
    refine z_iload_n (pc' := 76) dX6_link_75 rfl rfl rfl ?_
    refine z_iconst (v := 1) (pc' := 77) dX6_link_76 (by decide) rfl ?_
    refine z_iload_n (pc' := 78) dX6_link_77 rfl rfl rfl ?_
    refine z_iconst (v := 3) (pc' := 79) dX6_link_78 (by decide) rfl ?_
    refine z_iload_n (pc' := 80) dX6_link_79 rfl rfl rfl ?_
    obtain ⟨S6, hc7, hF⟩ := z_boe hF
    have hm9 := c_X6_put hst hc7
    refine z_callV (As := [.int v1, .int 1, .int v2, .int 3, .int v3]) (st := []) (pc' := 83) hm9 ok_X6_put zw_129 (ci := 6) rfl is_6_60.1 is_6_60.2 rfl ⟨Nat.le_of_ble_eq_true rfl, Nat.le_of_ble_eq_true rfl⟩ (Nat.le_of_ble_eq_true rfl) dX6_link_80 rfl rfl ?_
    refine z_aload_n (pc' := 84) dX6_link_83 rfl rfl rfl ?_
    refine gf_X6_7 (b := 61) (pc' := 87) rfl is_6_60 rfl dX6_link_84 rfl ?_
    refine z_sipush (v := 218) (pc' := 90) dX6_link_87 (by decide) rfl ?_
    refine z_iload_n (pc' := 91) dX6_link_90 rfl rfl rfl ?_
    refine z_iadd (pc' := 92) dX6_link_91 rfl ?_
    refine z_dup2 (pc' := 93) dX6_link_92 rfl ?_
    obtain ⟨g8, hF⟩ := z_gde hF
    refine z_iaload (pc' := 94) (ar_6_f3 is_6_60) (z_inbe g8) dX6_link_93 rfl ?_
    refine z_topi (fun x9 ex9 => ?_)
    replace hF := z_lte hF x9 ex9
    refine z_iconst (v := 1) (pc' := 95) dX6_link_94 (by decide) rfl ?_
    refine z_iadd (pc' := 96) dX6_link_95 rfl ?_
    obtain ⟨g10, hF⟩ := z_gde hF
    refine z_iastore (pc' := 97) (ar_6_f3 is_6_60) (z_inbe g10) dX6_link_96 rfl (fun S11 eS11 => ?_)
    replace hF := z_lte hF S11 eS11
    refine z_aload_n (pc' := 98) dX6_link_97 rfl rfl rfl ?_
    refine gf_X6_7 (b := 61) (pc' := 101) rfl is_6_60 rfl dX6_link_98 rfl ?_
    refine z_sipush (v := 157) (pc' := 104) dX6_link_101 (by decide) rfl ?_
    refine z_iload_n (pc' := 105) dX6_link_104 rfl rfl rfl ?_
    refine z_iadd (pc' := 106) dX6_link_105 rfl ?_
    refine z_dup2 (pc' := 107) dX6_link_106 rfl ?_
    obtain ⟨g12, hF⟩ := z_gde hF
    refine z_iaload (pc' := 108) (ar_6_f3 is_6_60) (z_inbe g12) dX6_link_107 rfl ?_
    refine z_topi (fun x13 ex13 => ?_)
    replace hF := z_lte hF x13 ex13
    refine z_iconst (v := 1) (pc' := 109) dX6_link_108 (by decide) rfl ?_
    refine z_iadd (pc' := 110) dX6_link_109 rfl ?_
    obtain ⟨g14, hF⟩ := z_gde hF
    refine z_iastore (pc' := 111) (ar_6_f3 is_6_60) (z_inbe g14) dX6_link_110 rfl (fun S15 eS15 => ?_)
    replace hF := z_lte hF S15 eS15
    refine z_aload_n (pc' := 112) dX6_link_111 rfl rfl rfl ?_
    refine z_iconst (v := 4) (pc' := 113) dX6_link_112 (by decide) rfl ?_
    obtain ⟨r16, S17, hc18, hF⟩ := z_bne hF
    have hm9 := c_X6_ended hst hc18
    refine z_callV (As := [.int 4]) (st := []) (pc' := 116) hm9 ok_X6_ended zw_140 (ci := 6) rfl is_6_60.1 is_6_60.2 rfl ⟨Nat.le_of_ble_eq_true rfl, Nat.le_of_ble_eq_true rfl⟩ (Nat.le_of_ble_eq_true rfl) dX6_link_113 rfl rfl ?_
    refine z_if_eq (tgt := 132) (pc' := 119) dX6_link_116 (by decide) rfl (fun c21 => ?_) (fun c21 => ?_)
    · rw [if_pos c21] at hF
      refine z_iconst (v := 0) (pc' := 133) dX6_link_132 (by decide) rfl ?_
      refine z_wk (ls' := [none, none, none, none]) (z_len1 (z_len1 (z_len1 (z_len1 z_le0)))) ?_
      exact (ok_X6_link_133 hst) _ _ hF
    · rw [if_neg c21] at hF
      refine z_aload_n (pc' := 120) dX6_link_119 rfl rfl rfl ?_
      refine gf_X6_7 (b := 61) (pc' := 123) rfl is_6_60 rfl dX6_link_120 rfl ?_
      refine z_sipush (v := 157) (pc' := 126) dX6_link_123 (by decide) rfl ?_
      refine z_iload_n (pc' := 127) dX6_link_126 rfl rfl rfl ?_
      refine z_iadd (pc' := 128) dX6_link_127 rfl ?_
      obtain ⟨g19, hF⟩ := z_gde hF
      refine z_iaload (pc' := 129) (ar_6_f3 is_6_60) (z_inbe g19) dX6_link_128 rfl ?_
      refine z_topi (fun x20 ex20 => ?_)
      replace hF := z_lte hF x20 ex20
      refine z_goto (pc' := 133) dX6_link_129 (by decide) ?_
      refine z_wk (ls' := [none, none, none, none]) (z_len1 (z_len1 (z_len1 (z_len1 z_le0)))) ?_
      exact (ok_X6_link_133 hst) _ _ hF
  · rw [if_neg c22] at hF
    refine z_iconst (v := 0) (pc' := 69) dX6_link_68 (by decide) rfl ?_
    exact z_ireturn rfl dX6_link_69 (Option.some.inj hF).symm
def F_X6_link_28 (B : Nat) (k58 : Int32 → Int32 → Int32 → Int32 → z_S → Option (z_O × z_S)) (v1 : Int32) (v2 : Int32) (v3 : Int32) (S : z_S) : Option (z_O × z_S) :=
  k58 v1 v2 v3 2 S
set_option maxRecDepth 20000 in
theorem ok_X6_link_28 {l : Launch} {B : Nat} {q : z_O × z_S} (hst : l.stackTraces = false) {k58 : Int32 → Int32 → Int32 → Int32 → z_S → Option (z_O × z_S)} (hk58 : ∀ (v1 : Int32) (v2 : Int32) (v3 : Int32) (s0 : Int32) (S : z_S), k58 v1 v2 v3 s0 S = some q → z_W l I_X6_link (R_X6_link q) B q 58 [some (.ref 60), some (.int v1), some (.int v2), some (.int v3)] [.int s0, .ref 60] S) : ∀ (v1 : Int32) (v2 : Int32) (v3 : Int32) (S : z_S), F_X6_link_28 B k58 v1 v2 v3 S = some q → z_W l I_X6_link (R_X6_link q) B q 28 [some (.ref 60), some (.int v1), some (.int v2), some (.int v3)] [.ref 60] S := by
  intro v1 v2 v3 S hF
  unfold F_X6_link_28 at hF
  refine z_iconst (v := 2) (pc' := 29) dX6_link_28 (by decide) rfl ?_
  refine z_goto (pc' := 58) dX6_link_29 (by decide) ?_
  refine z_wk (ls' := [some (.ref 60), some (.int v1), some (.int v2), some (.int v3)]) (z_lec rfl (z_lec rfl (z_lec rfl (z_lec rfl z_le0)))) ?_
  exact hk58 _ _ _ _ _ hF
def F_X6_link (B : Nat) (p1 : Int32) (p2 : Int32) (p3 : Int32) (S : z_S) : Option (z_O × z_S) :=
  if (S.2.1 60 10) = 0 then
    z_bn (F_X6_isDirectory B p1 S) fun r1 S2 =>
    (if r1 = 0 then
      F_X6_link_28 B (F_X6_link_58 B ) p1 p2 p3 S2
    else
      z_bn (F_X6_isFile B p3 S2) fun r4 S5 =>
      (if r4 = 0 then
        F_X6_link_28 B (F_X6_link_58 B ) p1 p2 p3 S5
      else
        z_bn (F_X6_isName B p2 S5) fun r7 S8 =>
        (if r7 = 0 then
          F_X6_link_58 B p1 p2 p3 3 S8
        else
          z_bn (F_X6_entry B p1 p2 S8) fun r10 S11 =>
          (if r10 < 0 then
            F_X6_link_58 B p1 p2 p3 0 S11
          else
            F_X6_link_58 B p1 p2 p3 4 S11))))
  else
    F_X6_link_58 B p1 p2 p3 1 S
set_option maxRecDepth 20000 in
theorem c_X6_link {l : Launch} {B : Nat} {p1 : Int32} {p2 : Int32} {p3 : Int32} {S : z_S} {q : z_O × z_S} (hst : l.stackTraces = false) (hF : F_X6_link B p1 p2 p3 S = some q) : z_Met l I_X6_link 6 149 B [.ref 60, .int p1, .int p2, .int p3] S q.1 q.2 := by
  refine z_enter (ls := [some (.ref 60), some (.int p1), some (.int p2), some (.int p3)]) (n := 0) (by decide) rfl (Nat.le_of_ble_eq_true rfl) hst ?_
  unfold F_X6_link at hF
  refine z_aload_n (pc' := 1) dX6_link_0 rfl rfl rfl ?_
  refine z_aload_n (pc' := 2) dX6_link_1 rfl rfl rfl ?_
  refine gf_X6_149 (pc' := 5) rfl is_6_60 dX6_link_2 rfl ?_
  refine z_if_eq (tgt := 12) (pc' := 8) dX6_link_5 (by decide) rfl (fun c17 => ?_) (fun c17 => ?_)
  · rw [if_pos c17] at hF
    refine z_aload_n (pc' := 13) dX6_link_12 rfl rfl rfl ?_
    refine z_iload_n (pc' := 14) dX6_link_13 rfl rfl rfl ?_
    obtain ⟨r1, S2, hc3, hF⟩ := z_bne hF
    have hm9 := c_X6_isDirectory hst hc3
    refine z_callV (As := [.int p1]) (st := [.ref 60]) (pc' := 17) hm9 ok_X6_isDirectory zw_135 (ci := 6) rfl is_6_60.1 is_6_60.2 rfl ⟨Nat.le_of_ble_eq_true rfl, Nat.le_of_ble_eq_true rfl⟩ (Nat.le_of_ble_eq_true rfl) dX6_link_14 rfl rfl ?_
    refine z_if_eq (tgt := 28) (pc' := 20) dX6_link_17 (by decide) rfl (fun c16 => ?_) (fun c16 => ?_)
    · rw [if_pos c16] at hF
      refine z_wk (ls' := [some (.ref 60), some (.int p1), some (.int p2), some (.int p3)]) (z_lec rfl (z_lec rfl (z_lec rfl (z_lec rfl z_le0)))) ?_
      exact (ok_X6_link_28 hst (ok_X6_link_58 hst)) _ _ _ _ hF
    · rw [if_neg c16] at hF
      refine z_aload_n (pc' := 21) dX6_link_20 rfl rfl rfl ?_
      refine z_iload_n (pc' := 22) dX6_link_21 rfl rfl rfl ?_
      obtain ⟨r4, S5, hc6, hF⟩ := z_bne hF
      have hm9 := c_X6_isFile hst hc6
      refine z_callV (As := [.int p3]) (st := [.ref 60]) (pc' := 25) hm9 ok_X6_isFile zw_141 (ci := 6) rfl is_6_60.1 is_6_60.2 rfl ⟨Nat.le_of_ble_eq_true rfl, Nat.le_of_ble_eq_true rfl⟩ (Nat.le_of_ble_eq_true rfl) dX6_link_22 rfl rfl ?_
      refine z_if_ne (tgt := 32) (pc' := 28) dX6_link_25 (by decide) rfl (fun c15 => ?_) (fun c15 => ?_)
      · rw [if_neg c15] at hF
        refine z_aload_n (pc' := 33) dX6_link_32 rfl rfl rfl ?_
        refine z_iload_n (pc' := 34) dX6_link_33 rfl rfl rfl ?_
        obtain ⟨r7, S8, hc9, hF⟩ := z_bne hF
        have hm9 := c_X6_isName hst hc9
        refine z_callV (As := [.int p2]) (st := [.ref 60]) (pc' := 37) hm9 ok_X6_isName zw_136 (ci := 6) rfl is_6_60.1 is_6_60.2 rfl ⟨Nat.le_of_ble_eq_true rfl, Nat.le_of_ble_eq_true rfl⟩ (Nat.le_of_ble_eq_true rfl) dX6_link_34 rfl rfl ?_
        refine z_if_ne (tgt := 44) (pc' := 40) dX6_link_37 (by decide) rfl (fun c14 => ?_) (fun c14 => ?_)
        · rw [if_neg c14] at hF
          refine z_aload_n (pc' := 45) dX6_link_44 rfl rfl rfl ?_
          refine z_iload_n (pc' := 46) dX6_link_45 rfl rfl rfl ?_
          refine z_iload_n (pc' := 47) dX6_link_46 rfl rfl rfl ?_
          obtain ⟨r10, S11, hc12, hF⟩ := z_bne hF
          have hm9 := c_X6_entry hst hc12
          refine z_callV (As := [.int p1, .int p2]) (st := [.ref 60]) (pc' := 50) hm9 ok_X6_entry zw_137 (ci := 6) rfl is_6_60.1 is_6_60.2 rfl ⟨Nat.le_of_ble_eq_true rfl, Nat.le_of_ble_eq_true rfl⟩ (Nat.le_of_ble_eq_true rfl) dX6_link_47 rfl rfl ?_
          refine z_if_lt (tgt := 57) (pc' := 53) dX6_link_50 (by decide) rfl (fun c13 => ?_) (fun c13 => ?_)
          · rw [if_pos c13] at hF
            refine z_iconst (v := 0) (pc' := 58) dX6_link_57 (by decide) rfl ?_
            refine z_wk (ls' := [some (.ref 60), some (.int p1), some (.int p2), some (.int p3)]) (z_lec rfl (z_lec rfl (z_lec rfl (z_lec rfl z_le0)))) ?_
            exact (ok_X6_link_58 hst) _ _ _ _ _ hF
          · rw [if_neg c13] at hF
            refine z_iconst (v := 4) (pc' := 54) dX6_link_53 (by decide) rfl ?_
            refine z_goto (pc' := 58) dX6_link_54 (by decide) ?_
            refine z_wk (ls' := [some (.ref 60), some (.int p1), some (.int p2), some (.int p3)]) (z_lec rfl (z_lec rfl (z_lec rfl (z_lec rfl z_le0)))) ?_
            exact (ok_X6_link_58 hst) _ _ _ _ _ hF
        · rw [if_pos c14] at hF
          refine z_iconst (v := 3) (pc' := 41) dX6_link_40 (by decide) rfl ?_
          refine z_goto (pc' := 58) dX6_link_41 (by decide) ?_
          refine z_wk (ls' := [some (.ref 60), some (.int p1), some (.int p2), some (.int p3)]) (z_lec rfl (z_lec rfl (z_lec rfl (z_lec rfl z_le0)))) ?_
          exact (ok_X6_link_58 hst) _ _ _ _ _ hF
      · rw [if_pos c15] at hF
        refine z_wk (ls' := [some (.ref 60), some (.int p1), some (.int p2), some (.int p3)]) (z_lec rfl (z_lec rfl (z_lec rfl (z_lec rfl z_le0)))) ?_
        exact (ok_X6_link_28 hst (ok_X6_link_58 hst)) _ _ _ _ hF
  · rw [if_neg c17] at hF
    refine z_iconst (v := 1) (pc' := 9) dX6_link_8 (by decide) rfl ?_
    refine z_goto (pc' := 58) dX6_link_9 (by decide) ?_
    refine z_wk (ls' := [some (.ref 60), some (.int p1), some (.int p2), some (.int p3)]) (z_lec rfl (z_lec rfl (z_lec rfl (z_lec rfl z_le0)))) ?_
    exact (ok_X6_link_58 hst) _ _ _ _ _ hF
theorem ok_X6_link : z_okV I_X6_link 3 := ⟨⟨z_Gin (List.mem_of_getElem? (i := 1082) (by decide +kernel)) rfl, z_Gin (List.mem_of_getElem? (i := 1083) (by decide +kernel)) rfl, z_Gin (List.mem_of_getElem? (i := 98) (by decide +kernel)) rfl, z_Gin (List.mem_of_getElem? (i := 1084) (by decide +kernel)) rfl⟩, by decide, by decide, by decide +kernel⟩
abbrev I_X6_unlink : z_I := (yX6_unlink, cX6_unlink, 7, some .int)
abbrev R_X6_unlink (q : z_O × z_S) : Room := { frames := 7, locals := 174, cells := z_mc q.1, slots := 6 * z_mc q.1 }
def F_X6_unlink_202 (B : Nat)  : Nat → Int32 → Int32 → Int32 → Int32 → z_S → Option (z_O × z_S)
  | 0, _, _, _, _, _ => none
  | n + 1, v3, v4, v5, v6, S => if v6 < 0 then
    z_bo (F_X6_resize B v3 3 v4 0 S) fun S2 =>
    (z_bo (F_X6_resize B v3 2 (2 * v5) 0 S2) fun S5 =>
    (z_bo (F_X6_remove B v3 0 0 S5) fun S8 =>
    (z_gd (z_inb (96 + v3) 25366) (
    z_lt (z_ua S8 61 (upd (S8.1 61) (z_ix (96 + v3)) 0)) fun S11 =>
    (z_gd (z_inb (279 + v3) 25366) (
    z_lt (z_ua S11 61 (upd (S11.1 61) (z_ix (279 + v3)) 0)) fun S13 =>
    (z_gd (z_inb (218 + v3) 25366) (
    z_lt (z_ua S13 61 (upd (S13.1 61) (z_ix (218 + v3)) 0)) fun S15 =>
    (some (.inl (some 0), S15))))))))))
  else
    z_gd (z_inb ((340 + (16 * v3)) + v6) 25366) (
    z_lt (S.1 61 (z_ix ((340 + (16 * v3)) + v6))) fun x17 =>
    (z_bo (F_X6_free B x17 S) fun S19 =>
    (F_X6_unlink_202 B n v3 v4 v5 (v6 + (-1)) S19)))
set_option maxRecDepth 20000 in
theorem ok_X6_unlink_202 {l : Launch} {B : Nat} {q : z_O × z_S} (hst : l.stackTraces = false) : ∀ (n : Nat) (v3 : Int32) (v4 : Int32) (v5 : Int32) (v6 : Int32) (S : z_S), F_X6_unlink_202 B n v3 v4 v5 v6 S = some q → z_W l I_X6_unlink (R_X6_unlink q) B q 202 [some (.ref 60), none, none, some (.int v3), some (.int v4), some (.int v5), some (.int v6)] [] S := by
  intro n
  induction n with
  | zero => intro v3 v4 v5 v6 S hF; cases hF
  | succ n ih =>
    intro v3 v4 v5 v6 S hF
    rw [F_X6_unlink_202] at hF
    refine z_iload (pc' := 204) dX6_unlink_202 rfl rfl ?_
    refine z_if_lt (tgt := 233) (pc' := 207) dX6_unlink_204 (by decide) rfl (fun c21 => ?_) (fun c21 => ?_)
    · rw [if_pos c21] at hF
      refine z_aload_n (pc' := 234) dX6_unlink_233 rfl rfl rfl ?_
      refine z_iload_n (pc' := 235) dX6_unlink_234 rfl rfl rfl ?_
      refine z_iconst (v := 3) (pc' := 236) dX6_unlink_235 (by decide) rfl ?_
      refine z_iload (pc' := 238) dX6_unlink_236 rfl rfl ?_
      refine z_iconst (v := 0) (pc' := 239) dX6_unlink_238 (by decide) rfl ?_
      obtain ⟨S2, hc3, hF⟩ := z_boe hF
      have hm9 := c_X6_resize hst hc3
      refine z_callV (As := [.int v3, .int 3, .int v4, .int 0]) (st := []) (pc' := 242) hm9 ok_X6_resize zw_133 (ci := 6) rfl is_6_60.1 is_6_60.2 rfl ⟨Nat.le_of_ble_eq_true rfl, Nat.le_of_ble_eq_true rfl⟩ (Nat.le_of_ble_eq_true rfl) dX6_unlink_239 rfl rfl ?_
      refine z_aload_n (pc' := 243) dX6_unlink_242 rfl rfl rfl ?_
      refine z_iload_n (pc' := 244) dX6_unlink_243 rfl rfl rfl ?_
      refine z_iconst (v := 2) (pc' := 245) dX6_unlink_244 (by decide) rfl ?_
      refine z_iconst (v := 2) (pc' := 246) dX6_unlink_245 (by decide) rfl ?_
      refine z_iload (pc' := 248) dX6_unlink_246 rfl rfl ?_
      refine z_imul (pc' := 249) dX6_unlink_248 rfl ?_
      refine z_iconst (v := 0) (pc' := 250) dX6_unlink_249 (by decide) rfl ?_
      obtain ⟨S5, hc6, hF⟩ := z_boe hF
      have hm9 := c_X6_resize hst hc6
      refine z_callV (As := [.int v3, .int 2, .int (2 * v5), .int 0]) (st := []) (pc' := 253) hm9 ok_X6_resize zw_133 (ci := 6) rfl is_6_60.1 is_6_60.2 rfl ⟨Nat.le_of_ble_eq_true rfl, Nat.le_of_ble_eq_true rfl⟩ (Nat.le_of_ble_eq_true rfl) dX6_unlink_250 rfl rfl ?_
      refine z_aload_n (pc' := 254) dX6_unlink_253 rfl rfl rfl ?_
      refine z_iload_n (pc' := 255) dX6_unlink_254 rfl rfl rfl ?_
      refine z_iconst (v := 0) (pc' := 256) dX6_unlink_255 (by decide) rfl ?_
      refine z_iconst (v := 0) (pc' := 257) dX6_unlink_256 (by decide) rfl ?_
      obtain ⟨S8, hc9, hF⟩ := z_boe hF
      have hm9 := c_X6_remove hst hc9
      refine z_callV (As := [.int v3, .int 0, .int 0]) (st := []) (pc' := 260) hm9 ok_X6_remove zw_128 (ci := 6) rfl is_6_60.1 is_6_60.2 rfl ⟨Nat.le_of_ble_eq_true rfl, Nat.le_of_ble_eq_true rfl⟩ (Nat.le_of_ble_eq_true rfl) dX6_unlink_257 rfl rfl ?_
      refine z_aload_n (pc' := 261) dX6_unlink_260 rfl rfl rfl ?_
      refine gf_X6_7 (b := 61) (pc' := 264) rfl is_6_60 rfl dX6_unlink_261 rfl ?_
      refine z_bipush (v := 96) (pc' := 266) dX6_unlink_264 (by decide) rfl ?_
      refine z_iload_n (pc' := 267) dX6_unlink_266 rfl rfl rfl ?_
      refine z_iadd (pc' := 268) dX6_unlink_267 rfl ?_
      refine z_iconst (v := 0) (pc' := 269) dX6_unlink_268 (by decide) rfl ?_
      obtain ⟨g10, hF⟩ := z_gde hF
      refine z_iastore (pc' := 270) (ar_6_f3 is_6_60) (z_inbe g10) dX6_unlink_269 rfl (fun S11 eS11 => ?_)
      replace hF := z_lte hF S11 eS11
      refine z_aload_n (pc' := 271) dX6_unlink_270 rfl rfl rfl ?_
      refine gf_X6_7 (b := 61) (pc' := 274) rfl is_6_60 rfl dX6_unlink_271 rfl ?_
      refine z_sipush (v := 279) (pc' := 277) dX6_unlink_274 (by decide) rfl ?_
      refine z_iload_n (pc' := 278) dX6_unlink_277 rfl rfl rfl ?_
      refine z_iadd (pc' := 279) dX6_unlink_278 rfl ?_
      refine z_iconst (v := 0) (pc' := 280) dX6_unlink_279 (by decide) rfl ?_
      obtain ⟨g12, hF⟩ := z_gde hF
      refine z_iastore (pc' := 281) (ar_6_f3 is_6_60) (z_inbe g12) dX6_unlink_280 rfl (fun S13 eS13 => ?_)
      replace hF := z_lte hF S13 eS13
      refine z_aload_n (pc' := 282) dX6_unlink_281 rfl rfl rfl ?_
      refine gf_X6_7 (b := 61) (pc' := 285) rfl is_6_60 rfl dX6_unlink_282 rfl ?_
      refine z_sipush (v := 218) (pc' := 288) dX6_unlink_285 (by decide) rfl ?_
      refine z_iload_n (pc' := 289) dX6_unlink_288 rfl rfl rfl ?_
      refine z_iadd (pc' := 290) dX6_unlink_289 rfl ?_
      refine z_iconst (v := 0) (pc' := 291) dX6_unlink_290 (by decide) rfl ?_
      obtain ⟨g14, hF⟩ := z_gde hF
      refine z_iastore (pc' := 292) (ar_6_f3 is_6_60) (z_inbe g14) dX6_unlink_291 rfl (fun S15 eS15 => ?_)
      replace hF := z_lte hF S15 eS15
      refine z_iconst (v := 0) (pc' := 293) dX6_unlink_292 (by decide) rfl ?_
      exact z_ireturn rfl dX6_unlink_293 (Option.some.inj hF).symm
    · rw [if_neg c21] at hF
      refine z_aload_n (pc' := 208) dX6_unlink_207 rfl rfl rfl ?_
      refine z_aload_n (pc' := 209) dX6_unlink_208 rfl rfl rfl ?_
      refine gf_X6_7 (b := 61) (pc' := 212) rfl is_6_60 rfl dX6_unlink_209 rfl ?_
      refine z_sipush (v := 340) (pc' := 215) dX6_unlink_212 (by decide) rfl ?_
      refine z_bipush (v := 16) (pc' := 217) dX6_unlink_215 (by decide) rfl ?_
      refine z_iload_n (pc' := 218) dX6_unlink_217 rfl rfl rfl ?_
      refine z_imul (pc' := 219) dX6_unlink_218 rfl ?_
      refine z_iadd (pc' := 220) dX6_unlink_219 rfl ?_
      refine z_iload (pc' := 222) dX6_unlink_220 rfl rfl ?_
      refine z_iadd (pc' := 223) dX6_unlink_222 rfl ?_
      obtain ⟨g16, hF⟩ := z_gde hF
      refine z_iaload (pc' := 224) (ar_6_f3 is_6_60) (z_inbe g16) dX6_unlink_223 rfl ?_
      refine z_topi (fun x17 ex17 => ?_)
      replace hF := z_lte hF x17 ex17
      obtain ⟨S19, hc20, hF⟩ := z_boe hF
      have hm9 := c_X6_free hst hc20
      refine z_callV (As := [.int x17]) (st := []) (pc' := 227) hm9 ok_X6_free zw_114 (ci := 6) rfl is_6_60.1 is_6_60.2 rfl ⟨Nat.le_of_ble_eq_true rfl, Nat.le_of_ble_eq_true rfl⟩ (Nat.le_of_ble_eq_true rfl) dX6_unlink_224 rfl rfl ?_
      refine z_iinc (v := v6 + (-1)) (pc' := 230) dX6_unlink_227 rfl rfl (by decide) rfl rfl ?_
      refine z_goto (pc' := 202) dX6_unlink_230 (by decide) ?_
      refine z_wk (ls' := [some (.ref 60), none, none, some (.int v3), some (.int v4), some (.int v5), some (.int (v6 + (-1)))]) (z_lec rfl (z_len1 (z_len1 (z_lec rfl (z_lec rfl (z_lec rfl (z_lec rfl z_le0))))))) ?_
      exact ih _ _ _ _ _ hF
def F_X6_unlink_182 (B : Nat)  (v3 : Int32) (s0 : Int32) (S : z_S) : Option (z_O × z_S) :=
  z_gd (z_inb (279 + v3) 25366) (
  z_lt (S.1 61 (z_ix (279 + v3))) fun x2 =>
  (F_X6_unlink_202 B z_n v3 s0 x2 (x2 - 1) S))
set_option maxRecDepth 20000 in
theorem ok_X6_unlink_182 {l : Launch} {B : Nat} {q : z_O × z_S} (hst : l.stackTraces = false) : ∀ (v3 : Int32) (s0 : Int32) (S : z_S), F_X6_unlink_182 B v3 s0 S = some q → z_W l I_X6_unlink (R_X6_unlink q) B q 182 [some (.ref 60), none, none, some (.int v3), none, none, none] [.int s0] S := by
  intro v3 s0 S hF
  unfold F_X6_unlink_182 at hF
  refine z_istore (pc' := 184) dX6_unlink_182 (by decide) rfl rfl ?_
  refine z_aload_n (pc' := 185) dX6_unlink_184 rfl rfl rfl ?_
  refine gf_X6_7 (b := 61) (pc' := 188) rfl is_6_60 rfl dX6_unlink_185 rfl ?_
  refine z_sipush (v := 279) (pc' := 191) dX6_unlink_188 (by decide) rfl ?_
  refine z_iload_n (pc' := 192) dX6_unlink_191 rfl rfl rfl ?_
  refine z_iadd (pc' := 193) dX6_unlink_192 rfl ?_
  obtain ⟨g1, hF⟩ := z_gde hF
  refine z_iaload (pc' := 194) (ar_6_f3 is_6_60) (z_inbe g1) dX6_unlink_193 rfl ?_
  refine z_topi (fun x2 ex2 => ?_)
  replace hF := z_lte hF x2 ex2
  refine z_istore (pc' := 196) dX6_unlink_194 (by decide) rfl rfl ?_
  refine z_iload (pc' := 198) dX6_unlink_196 rfl rfl ?_
  refine z_iconst (v := 1) (pc' := 199) dX6_unlink_198 (by decide) rfl ?_
  refine z_isub (pc' := 200) dX6_unlink_199 rfl ?_
  refine z_istore (pc' := 202) dX6_unlink_200 (by decide) rfl rfl ?_
  refine z_wk (ls' := [some (.ref 60), none, none, some (.int v3), some (.int s0), some (.int x2), some (.int (x2 - 1))]) (z_lec rfl (z_len1 (z_len1 (z_lec rfl (z_lec rfl (z_lec rfl (z_lec rfl z_le0))))))) ?_
  exact (ok_X6_unlink_202 hst z_n) _ _ _ _ _ hF
def F_X6_unlink_77 (B : Nat)  (v1 : Int32) (v2 : Int32) (v3 : Int32) (s0 : Int32) (S : z_S) : Option (z_O × z_S) :=
  z_lt (z_ui S 60 0 s0) fun S1 =>
  (if (S1.2.1 60 0) ≤ 0 then
    z_bo (F_X6_begin B S1) fun S3 =>
    (z_bo (F_X6_remove B v1 1 v2 S3) fun S6 =>
    (z_gd (z_inb (218 + v1) 25366) (
    z_lt (S6.1 61 (z_ix (218 + v1))) fun x9 =>
    (z_gd (z_inb (218 + v1) 25366) (
    z_lt (z_ua S6 61 (upd (S6.1 61) (z_ix (218 + v1)) (x9 - 1))) fun S11 =>
    (z_gd (z_inb (157 + v3) 25366) (
    z_lt (S11.1 61 (z_ix (157 + v3))) fun x13 =>
    (z_gd (z_inb (157 + v3) 25366) (
    z_lt (z_ua S11 61 (upd (S11.1 61) (z_ix (157 + v3)) (x13 - 1))) fun S15 =>
    (z_gd (z_inb (157 + v3) 25366) (
    z_lt (S15.1 61 (z_ix (157 + v3))) fun x17 =>
    (if x17 ≤ 0 then
      z_gd (z_inb (96 + v3) 25366) (
      z_lt (S15.1 61 (z_ix (96 + v3))) fun x19 =>
      (if x19 = 2 then
        z_gd (z_inb (218 + v3) 25366) (
        z_lt (S15.1 61 (z_ix (218 + v3))) fun x21 =>
        (z_bn (F_X6_tailOf B x21 S15) fun r22 S23 =>
        (F_X6_unlink_182 B v3 r22 S23)))
      else
        F_X6_unlink_182 B v3 0 S15))
    else
      z_gd (z_inb (157 + v3) 25366) (
      z_lt (S15.1 61 (z_ix (157 + v3))) fun x27 =>
      (some (.inl (some x27), S15)))))))))))))))
  else
    some (.inl (some 0), S1))
set_option maxRecDepth 20000 in
theorem ok_X6_unlink_77 {l : Launch} {B : Nat} {q : z_O × z_S} (hst : l.stackTraces = false) : ∀ (v1 : Int32) (v2 : Int32) (v3 : Int32) (s0 : Int32) (S : z_S), F_X6_unlink_77 B v1 v2 v3 s0 S = some q → z_W l I_X6_unlink (R_X6_unlink q) B q 77 [some (.ref 60), some (.int v1), some (.int v2), some (.int v3), none, none, none] [.int s0, .ref 60] S := by
  intro v1 v2 v3 s0 S hF
  unfold F_X6_unlink_77 at hF
  refine pf_X6_40 (pc' := 80) rfl is_6_60 dX6_unlink_77 rfl (fun S1 eS1 => ?_)
  replace hF := z_lte hF S1 eS1
  refine z_aload_n (pc' := 81) dX6_unlink_80 rfl rfl rfl ?_
  refine gf_X6_40 (pc' := 84) rfl is_6_60 dX6_unlink_81 rfl ?_
  refine z_if_le (tgt := 89) (pc' := 87) dX6_unlink_84 (by decide) rfl (fun c29 => ?_) (fun c29 => ?_)
  · rw [if_pos c29] at hF
    refine z_aload_n (pc' := 90) dX6_unlink_89 rfl rfl rfl ?_
    obtain ⟨S3, hc4, hF⟩ := z_boe hF
    have hm9 := c_X6_begin hst hc4
    refine z_callV (As := []) (st := []) (pc' := 93) hm9 ok_X6_begin zw_139 (ci := 6) rfl is_6_60.1 is_6_60.2 rfl ⟨Nat.le_of_ble_eq_true rfl, Nat.le_of_ble_eq_true rfl⟩ (Nat.le_of_ble_eq_true rfl) dX6_unlink_90 rfl rfl ?_
    refine z_aload_n (pc' := 94) dX6_unlink_93 rfl rfl rfl ?_
    refine z_iload_n (pc' := 95) dX6_unlink_94 rfl rfl rfl ?_
    refine z_iconst (v := 1) (pc' := 96) dX6_unlink_95 (by decide) rfl ?_
    refine z_iload_n (pc' := 97) dX6_unlink_96 rfl rfl rfl ?_
    obtain ⟨S6, hc7, hF⟩ := z_boe hF
    have hm9 := c_X6_remove hst hc7
    refine z_callV (As := [.int v1, .int 1, .int v2]) (st := []) (pc' := 100) hm9 ok_X6_remove zw_128 (ci := 6) rfl is_6_60.1 is_6_60.2 rfl ⟨Nat.le_of_ble_eq_true rfl, Nat.le_of_ble_eq_true rfl⟩ (Nat.le_of_ble_eq_true rfl) dX6_unlink_97 rfl rfl ?_
    refine z_aload_n (pc' := 101) dX6_unlink_100 rfl rfl rfl ?_
    refine gf_X6_7 (b := 61) (pc' := 104) rfl is_6_60 rfl dX6_unlink_101 rfl ?_
    refine z_sipush (v := 218) (pc' := 107) dX6_unlink_104 (by decide) rfl ?_
    refine z_iload_n (pc' := 108) dX6_unlink_107 rfl rfl rfl ?_
    refine z_iadd (pc' := 109) dX6_unlink_108 rfl ?_
    refine z_dup2 (pc' := 110) dX6_unlink_109 rfl ?_
    obtain ⟨g8, hF⟩ := z_gde hF
    refine z_iaload (pc' := 111) (ar_6_f3 is_6_60) (z_inbe g8) dX6_unlink_110 rfl ?_
    refine z_topi (fun x9 ex9 => ?_)
    replace hF := z_lte hF x9 ex9
    refine z_iconst (v := 1) (pc' := 112) dX6_unlink_111 (by decide) rfl ?_
    refine z_isub (pc' := 113) dX6_unlink_112 rfl ?_
    obtain ⟨g10, hF⟩ := z_gde hF
    refine z_iastore (pc' := 114) (ar_6_f3 is_6_60) (z_inbe g10) dX6_unlink_113 rfl (fun S11 eS11 => ?_)
    replace hF := z_lte hF S11 eS11
    refine z_aload_n (pc' := 115) dX6_unlink_114 rfl rfl rfl ?_
    refine gf_X6_7 (b := 61) (pc' := 118) rfl is_6_60 rfl dX6_unlink_115 rfl ?_
    refine z_sipush (v := 157) (pc' := 121) dX6_unlink_118 (by decide) rfl ?_
    refine z_iload_n (pc' := 122) dX6_unlink_121 rfl rfl rfl ?_
    refine z_iadd (pc' := 123) dX6_unlink_122 rfl ?_
    refine z_dup2 (pc' := 124) dX6_unlink_123 rfl ?_
    obtain ⟨g12, hF⟩ := z_gde hF
    refine z_iaload (pc' := 125) (ar_6_f3 is_6_60) (z_inbe g12) dX6_unlink_124 rfl ?_
    refine z_topi (fun x13 ex13 => ?_)
    replace hF := z_lte hF x13 ex13
    refine z_iconst (v := 1) (pc' := 126) dX6_unlink_125 (by decide) rfl ?_
    refine z_isub (pc' := 127) dX6_unlink_126 rfl ?_
    obtain ⟨g14, hF⟩ := z_gde hF
    refine z_iastore (pc' := 128) (ar_6_f3 is_6_60) (z_inbe g14) dX6_unlink_127 rfl (fun S15 eS15 => ?_)
    replace hF := z_lte hF S15 eS15
    refine z_aload_n (pc' := 129) dX6_unlink_128 rfl rfl rfl ?_
    refine gf_X6_7 (b := 61) (pc' := 132) rfl is_6_60 rfl dX6_unlink_129 rfl ?_
    refine z_sipush (v := 157) (pc' := 135) dX6_unlink_132 (by decide) rfl ?_
    refine z_iload_n (pc' := 136) dX6_unlink_135 rfl rfl rfl ?_
    refine z_iadd (pc' := 137) dX6_unlink_136 rfl ?_
    obtain ⟨g16, hF⟩ := z_gde hF
    refine z_iaload (pc' := 138) (ar_6_f3 is_6_60) (z_inbe g16) dX6_unlink_137 rfl ?_
    refine z_topi (fun x17 ex17 => ?_)
    replace hF := z_lte hF x17 ex17
    refine z_if_le (tgt := 152) (pc' := 141) dX6_unlink_138 (by decide) rfl (fun c28 => ?_) (fun c28 => ?_)
    · rw [if_pos c28] at hF
      refine z_aload_n (pc' := 153) dX6_unlink_152 rfl rfl rfl ?_
      refine gf_X6_7 (b := 61) (pc' := 156) rfl is_6_60 rfl dX6_unlink_153 rfl ?_
      refine z_bipush (v := 96) (pc' := 158) dX6_unlink_156 (by decide) rfl ?_
      refine z_iload_n (pc' := 159) dX6_unlink_158 rfl rfl rfl ?_
      refine z_iadd (pc' := 160) dX6_unlink_159 rfl ?_
      obtain ⟨g18, hF⟩ := z_gde hF
      refine z_iaload (pc' := 161) (ar_6_f3 is_6_60) (z_inbe g18) dX6_unlink_160 rfl ?_
      refine z_topi (fun x19 ex19 => ?_)
      replace hF := z_lte hF x19 ex19
      refine z_iconst (v := 2) (pc' := 162) dX6_unlink_161 (by decide) rfl ?_
      refine z_icmp_ne (tgt := 181) (pc' := 165) dX6_unlink_162 (by decide) rfl (fun c25 => ?_) (fun c25 => ?_)
      · rw [if_neg c25] at hF
        refine z_iconst (v := 0) (pc' := 182) dX6_unlink_181 (by decide) rfl ?_
        refine z_wk (ls' := [some (.ref 60), none, none, some (.int v3), none, none, none]) (z_lec rfl (z_len1 (z_len1 (z_lec rfl (z_len1 (z_len1 (z_len1 z_le0))))))) ?_
        exact (ok_X6_unlink_182 hst) _ _ _ hF
      · rw [if_pos c25] at hF
        refine z_aload_n (pc' := 166) dX6_unlink_165 rfl rfl rfl ?_
        refine gf_X6_7 (b := 61) (pc' := 169) rfl is_6_60 rfl dX6_unlink_166 rfl ?_
        refine z_sipush (v := 218) (pc' := 172) dX6_unlink_169 (by decide) rfl ?_
        refine z_iload_n (pc' := 173) dX6_unlink_172 rfl rfl rfl ?_
        refine z_iadd (pc' := 174) dX6_unlink_173 rfl ?_
        obtain ⟨g20, hF⟩ := z_gde hF
        refine z_iaload (pc' := 175) (ar_6_f3 is_6_60) (z_inbe g20) dX6_unlink_174 rfl ?_
        refine z_topi (fun x21 ex21 => ?_)
        replace hF := z_lte hF x21 ex21
        obtain ⟨r22, S23, hc24, hF⟩ := z_bne hF
        have hm9 := c_X6_tailOf hst hc24
        refine z_callS (As := [.int x21]) (st := []) (pc' := 178) hm9 ok_X6_tailOf zw_130 rfl ⟨Nat.le_of_ble_eq_true rfl, Nat.le_of_ble_eq_true rfl⟩ (Nat.le_of_ble_eq_true rfl) dX6_unlink_175 rfl rfl ?_
        refine z_goto (pc' := 182) dX6_unlink_178 (by decide) ?_
        refine z_wk (ls' := [some (.ref 60), none, none, some (.int v3), none, none, none]) (z_lec rfl (z_len1 (z_len1 (z_lec rfl (z_len1 (z_len1 (z_len1 z_le0))))))) ?_
        exact (ok_X6_unlink_182 hst) _ _ _ hF
    · rw [if_neg c28] at hF
      refine z_aload_n (pc' := 142) dX6_unlink_141 rfl rfl rfl ?_
      refine gf_X6_7 (b := 61) (pc' := 145) rfl is_6_60 rfl dX6_unlink_142 rfl ?_
      refine z_sipush (v := 157) (pc' := 148) dX6_unlink_145 (by decide) rfl ?_
      refine z_iload_n (pc' := 149) dX6_unlink_148 rfl rfl rfl ?_
      refine z_iadd (pc' := 150) dX6_unlink_149 rfl ?_
      obtain ⟨g26, hF⟩ := z_gde hF
      refine z_iaload (pc' := 151) (ar_6_f3 is_6_60) (z_inbe g26) dX6_unlink_150 rfl ?_
      refine z_topi (fun x27 ex27 => ?_)
      replace hF := z_lte hF x27 ex27
      exact z_ireturn rfl dX6_unlink_151 (Option.some.inj hF).symm
  · rw [if_neg c29] at hF
    refine z_iconst (v := 0) (pc' := 88) dX6_unlink_87 (by decide) rfl ?_
    exact z_ireturn rfl dX6_unlink_88 (Option.some.inj hF).symm
def F_X6_unlink_76 (B : Nat) (k77 : Int32 → Int32 → Int32 → Int32 → z_S → Option (z_O × z_S)) (v1 : Int32) (v2 : Int32) (v3 : Int32) (S : z_S) : Option (z_O × z_S) :=
  k77 v1 v2 v3 0 S
set_option maxRecDepth 20000 in
theorem ok_X6_unlink_76 {l : Launch} {B : Nat} {q : z_O × z_S} (hst : l.stackTraces = false) {k77 : Int32 → Int32 → Int32 → Int32 → z_S → Option (z_O × z_S)} (hk77 : ∀ (v1 : Int32) (v2 : Int32) (v3 : Int32) (s0 : Int32) (S : z_S), k77 v1 v2 v3 s0 S = some q → z_W l I_X6_unlink (R_X6_unlink q) B q 77 [some (.ref 60), some (.int v1), some (.int v2), some (.int v3), none, none, none] [.int s0, .ref 60] S) : ∀ (v1 : Int32) (v2 : Int32) (v3 : Int32) (S : z_S), F_X6_unlink_76 B k77 v1 v2 v3 S = some q → z_W l I_X6_unlink (R_X6_unlink q) B q 76 [some (.ref 60), some (.int v1), some (.int v2), some (.int v3), none, none, none] [.ref 60] S := by
  intro v1 v2 v3 S hF
  unfold F_X6_unlink_76 at hF
  refine z_iconst (v := 0) (pc' := 77) dX6_unlink_76 (by decide) rfl ?_
  refine z_wk (ls' := [some (.ref 60), some (.int v1), some (.int v2), some (.int v3), none, none, none]) (z_lec rfl (z_lec rfl (z_lec rfl (z_lec rfl (z_len1 (z_len1 (z_len1 z_le0))))))) ?_
  exact hk77 _ _ _ _ _ hF
def F_X6_unlink_25 (B : Nat)  (v1 : Int32) (v2 : Int32) (s0 : Int32) (S : z_S) : Option (z_O × z_S) :=
  if (S.2.1 60 10) = 0 then
    if 0 ≤ s0 then
      z_gd (z_inb (96 + s0) 25366) (
      z_lt (S.1 61 (z_ix (96 + s0))) fun x2 =>
      (if x2 = 1 then
        z_gd (z_inb (218 + s0) 25366) (
        z_lt (S.1 61 (z_ix (218 + s0))) fun x4 =>
        (if x4 ≤ 0 then
          F_X6_unlink_76 B (F_X6_unlink_77 B ) v1 v2 s0 S
        else
          F_X6_unlink_77 B v1 v2 s0 3 S))
      else
        F_X6_unlink_76 B (F_X6_unlink_77 B ) v1 v2 s0 S))
    else
      F_X6_unlink_77 B v1 v2 s0 2 S
  else
    F_X6_unlink_77 B v1 v2 s0 1 S
set_option maxRecDepth 20000 in
theorem ok_X6_unlink_25 {l : Launch} {B : Nat} {q : z_O × z_S} (hst : l.stackTraces = false) : ∀ (v1 : Int32) (v2 : Int32) (s0 : Int32) (S : z_S), F_X6_unlink_25 B v1 v2 s0 S = some q → z_W l I_X6_unlink (R_X6_unlink q) B q 25 [some (.ref 60), some (.int v1), some (.int v2), none, none, none, none] [.int s0] S := by
  intro v1 v2 s0 S hF
  unfold F_X6_unlink_25 at hF
  refine z_istore_n (pc' := 26) dX6_unlink_25 rfl (by decide) rfl rfl ?_
  refine z_aload_n (pc' := 27) dX6_unlink_26 rfl rfl rfl ?_
  refine z_aload_n (pc' := 28) dX6_unlink_27 rfl rfl rfl ?_
  refine gf_X6_149 (pc' := 31) rfl is_6_60 dX6_unlink_28 rfl ?_
  refine z_if_eq (tgt := 38) (pc' := 34) dX6_unlink_31 (by decide) rfl (fun c8 => ?_) (fun c8 => ?_)
  · rw [if_pos c8] at hF
    refine z_iload_n (pc' := 39) dX6_unlink_38 rfl rfl rfl ?_
    refine z_if_ge (tgt := 46) (pc' := 42) dX6_unlink_39 (by decide) rfl (fun c7 => ?_) (fun c7 => ?_)
    · rw [if_pos c7] at hF
      refine z_aload_n (pc' := 47) dX6_unlink_46 rfl rfl rfl ?_
      refine gf_X6_7 (b := 61) (pc' := 50) rfl is_6_60 rfl dX6_unlink_47 rfl ?_
      refine z_bipush (v := 96) (pc' := 52) dX6_unlink_50 (by decide) rfl ?_
      refine z_iload_n (pc' := 53) dX6_unlink_52 rfl rfl rfl ?_
      refine z_iadd (pc' := 54) dX6_unlink_53 rfl ?_
      obtain ⟨g1, hF⟩ := z_gde hF
      refine z_iaload (pc' := 55) (ar_6_f3 is_6_60) (z_inbe g1) dX6_unlink_54 rfl ?_
      refine z_topi (fun x2 ex2 => ?_)
      replace hF := z_lte hF x2 ex2
      refine z_iconst (v := 1) (pc' := 56) dX6_unlink_55 (by decide) rfl ?_
      refine z_icmp_ne (tgt := 76) (pc' := 59) dX6_unlink_56 (by decide) rfl (fun c6 => ?_) (fun c6 => ?_)
      · rw [if_neg c6] at hF
        refine z_wk (ls' := [some (.ref 60), some (.int v1), some (.int v2), some (.int s0), none, none, none]) (z_lec rfl (z_lec rfl (z_lec rfl (z_lec rfl (z_len1 (z_len1 (z_len1 z_le0))))))) ?_
        exact (ok_X6_unlink_76 hst (ok_X6_unlink_77 hst)) _ _ _ _ hF
      · rw [if_pos c6] at hF
        refine z_aload_n (pc' := 60) dX6_unlink_59 rfl rfl rfl ?_
        refine gf_X6_7 (b := 61) (pc' := 63) rfl is_6_60 rfl dX6_unlink_60 rfl ?_
        refine z_sipush (v := 218) (pc' := 66) dX6_unlink_63 (by decide) rfl ?_
        refine z_iload_n (pc' := 67) dX6_unlink_66 rfl rfl rfl ?_
        refine z_iadd (pc' := 68) dX6_unlink_67 rfl ?_
        obtain ⟨g3, hF⟩ := z_gde hF
        refine z_iaload (pc' := 69) (ar_6_f3 is_6_60) (z_inbe g3) dX6_unlink_68 rfl ?_
        refine z_topi (fun x4 ex4 => ?_)
        replace hF := z_lte hF x4 ex4
        refine z_if_le (tgt := 76) (pc' := 72) dX6_unlink_69 (by decide) rfl (fun c5 => ?_) (fun c5 => ?_)
        · rw [if_pos c5] at hF
          refine z_wk (ls' := [some (.ref 60), some (.int v1), some (.int v2), some (.int s0), none, none, none]) (z_lec rfl (z_lec rfl (z_lec rfl (z_lec rfl (z_len1 (z_len1 (z_len1 z_le0))))))) ?_
          exact (ok_X6_unlink_76 hst (ok_X6_unlink_77 hst)) _ _ _ _ hF
        · rw [if_neg c5] at hF
          refine z_iconst (v := 3) (pc' := 73) dX6_unlink_72 (by decide) rfl ?_
          refine z_goto (pc' := 77) dX6_unlink_73 (by decide) ?_
          refine z_wk (ls' := [some (.ref 60), some (.int v1), some (.int v2), some (.int s0), none, none, none]) (z_lec rfl (z_lec rfl (z_lec rfl (z_lec rfl (z_len1 (z_len1 (z_len1 z_le0))))))) ?_
          exact (ok_X6_unlink_77 hst) _ _ _ _ _ hF
    · rw [if_neg c7] at hF
      refine z_iconst (v := 2) (pc' := 43) dX6_unlink_42 (by decide) rfl ?_
      refine z_goto (pc' := 77) dX6_unlink_43 (by decide) ?_
      refine z_wk (ls' := [some (.ref 60), some (.int v1), some (.int v2), some (.int s0), none, none, none]) (z_lec rfl (z_lec rfl (z_lec rfl (z_lec rfl (z_len1 (z_len1 (z_len1 z_le0))))))) ?_
      exact (ok_X6_unlink_77 hst) _ _ _ _ _ hF
  · rw [if_neg c8] at hF
    refine z_iconst (v := 1) (pc' := 35) dX6_unlink_34 (by decide) rfl ?_
    refine z_goto (pc' := 77) dX6_unlink_35 (by decide) ?_
    refine z_wk (ls' := [some (.ref 60), some (.int v1), some (.int v2), some (.int s0), none, none, none]) (z_lec rfl (z_lec rfl (z_lec rfl (z_lec rfl (z_len1 (z_len1 (z_len1 z_le0))))))) ?_
    exact (ok_X6_unlink_77 hst) _ _ _ _ _ hF
def F_X6_unlink_15 (B : Nat) (k25 : Int32 → Int32 → Int32 → z_S → Option (z_O × z_S)) (v1 : Int32) (v2 : Int32) (S : z_S) : Option (z_O × z_S) :=
  k25 v1 v2 (-1) S
set_option maxRecDepth 20000 in
theorem ok_X6_unlink_15 {l : Launch} {B : Nat} {q : z_O × z_S} (hst : l.stackTraces = false) {k25 : Int32 → Int32 → Int32 → z_S → Option (z_O × z_S)} (hk25 : ∀ (v1 : Int32) (v2 : Int32) (s0 : Int32) (S : z_S), k25 v1 v2 s0 S = some q → z_W l I_X6_unlink (R_X6_unlink q) B q 25 [some (.ref 60), some (.int v1), some (.int v2), none, none, none, none] [.int s0] S) : ∀ (v1 : Int32) (v2 : Int32) (S : z_S), F_X6_unlink_15 B k25 v1 v2 S = some q → z_W l I_X6_unlink (R_X6_unlink q) B q 15 [some (.ref 60), some (.int v1), some (.int v2), none, none, none, none] [] S := by
  intro v1 v2 S hF
  unfold F_X6_unlink_15 at hF
  refine z_iconst (v := (-1)) (pc' := 16) dX6_unlink_15 (by decide) rfl ?_
  refine z_goto (pc' := 25) dX6_unlink_16 (by decide) ?_
  refine z_wk (ls' := [some (.ref 60), some (.int v1), some (.int v2), none, none, none, none]) (z_lec rfl (z_lec rfl (z_lec rfl (z_len1 (z_len1 (z_len1 (z_len1 z_le0))))))) ?_
  exact hk25 _ _ _ _ hF
def F_X6_unlink (B : Nat) (p1 : Int32) (p2 : Int32) (S : z_S) : Option (z_O × z_S) :=
  if (S.2.1 60 10) = 0 then
    z_bn (F_X6_isDirectory B p1 S) fun r1 S2 =>
    (if r1 = 0 then
      F_X6_unlink_15 B (F_X6_unlink_25 B ) p1 p2 S2
    else
      z_bn (F_X6_entry B p1 p2 S2) fun r4 S5 =>
      (F_X6_unlink_25 B p1 p2 r4 S5))
  else
    F_X6_unlink_15 B (F_X6_unlink_25 B ) p1 p2 S
set_option maxRecDepth 20000 in
theorem c_X6_unlink {l : Launch} {B : Nat} {p1 : Int32} {p2 : Int32} {S : z_S} {q : z_O × z_S} (hst : l.stackTraces = false) (hF : F_X6_unlink B p1 p2 S = some q) : z_Met l I_X6_unlink 7 174 B [.ref 60, .int p1, .int p2] S q.1 q.2 := by
  refine z_enter (ls := [some (.ref 60), some (.int p1), some (.int p2), none, none, none, none]) (n := 4) (by decide) rfl (Nat.le_of_ble_eq_true rfl) hst ?_
  unfold F_X6_unlink at hF
  refine z_aload_n (pc' := 1) dX6_unlink_0 rfl rfl rfl ?_
  refine gf_X6_149 (pc' := 4) rfl is_6_60 dX6_unlink_1 rfl ?_
  refine z_if_ne (tgt := 15) (pc' := 7) dX6_unlink_4 (by decide) rfl (fun c8 => ?_) (fun c8 => ?_)
  · rw [if_neg c8] at hF
    refine z_wk (ls' := [some (.ref 60), some (.int p1), some (.int p2), none, none, none, none]) (z_lec rfl (z_lec rfl (z_lec rfl (z_len1 (z_len1 (z_len1 (z_len1 z_le0))))))) ?_
    exact (ok_X6_unlink_15 hst (ok_X6_unlink_25 hst)) _ _ _ hF
  · rw [if_pos c8] at hF
    refine z_aload_n (pc' := 8) dX6_unlink_7 rfl rfl rfl ?_
    refine z_iload_n (pc' := 9) dX6_unlink_8 rfl rfl rfl ?_
    obtain ⟨r1, S2, hc3, hF⟩ := z_bne hF
    have hm9 := c_X6_isDirectory hst hc3
    refine z_callV (As := [.int p1]) (st := []) (pc' := 12) hm9 ok_X6_isDirectory zw_135 (ci := 6) rfl is_6_60.1 is_6_60.2 rfl ⟨Nat.le_of_ble_eq_true rfl, Nat.le_of_ble_eq_true rfl⟩ (Nat.le_of_ble_eq_true rfl) dX6_unlink_9 rfl rfl ?_
    refine z_if_ne (tgt := 19) (pc' := 15) dX6_unlink_12 (by decide) rfl (fun c7 => ?_) (fun c7 => ?_)
    · rw [if_neg c7] at hF
      refine z_aload_n (pc' := 20) dX6_unlink_19 rfl rfl rfl ?_
      refine z_iload_n (pc' := 21) dX6_unlink_20 rfl rfl rfl ?_
      refine z_iload_n (pc' := 22) dX6_unlink_21 rfl rfl rfl ?_
      obtain ⟨r4, S5, hc6, hF⟩ := z_bne hF
      have hm9 := c_X6_entry hst hc6
      refine z_callV (As := [.int p1, .int p2]) (st := []) (pc' := 25) hm9 ok_X6_entry zw_137 (ci := 6) rfl is_6_60.1 is_6_60.2 rfl ⟨Nat.le_of_ble_eq_true rfl, Nat.le_of_ble_eq_true rfl⟩ (Nat.le_of_ble_eq_true rfl) dX6_unlink_22 rfl rfl ?_
      refine z_wk (ls' := [some (.ref 60), some (.int p1), some (.int p2), none, none, none, none]) (z_lec rfl (z_lec rfl (z_lec rfl (z_len1 (z_len1 (z_len1 (z_len1 z_le0))))))) ?_
      exact (ok_X6_unlink_25 hst) _ _ _ _ hF
    · rw [if_pos c7] at hF
      refine z_wk (ls' := [some (.ref 60), some (.int p1), some (.int p2), none, none, none, none]) (z_lec rfl (z_lec rfl (z_lec rfl (z_len1 (z_len1 (z_len1 (z_len1 z_le0))))))) ?_
      exact (ok_X6_unlink_15 hst (ok_X6_unlink_25 hst)) _ _ _ hF
theorem ok_X6_unlink : z_okV I_X6_unlink 2 := ⟨⟨z_Gin (List.mem_of_getElem? (i := 1090) (by decide +kernel)) rfl, z_Gin (List.mem_of_getElem? (i := 1091) (by decide +kernel)) rfl, z_Gin (List.mem_of_getElem? (i := 98) (by decide +kernel)) rfl, z_Gin (List.mem_of_getElem? (i := 1092) (by decide +kernel)) rfl⟩, by decide, by decide, by decide +kernel⟩
abbrev I_X6_above : z_I := (yX6_above, cX6_above, 5, some .int)
abbrev R_X6_above (q : z_O × z_S) : Room := { frames := 0, locals := 0, cells := z_mc q.1, slots := 6 * z_mc q.1 }
def F_X6_above_100 (B : Nat) (k28 : Int32 → Int32 → Int32 → Int32 → z_S → Option (z_O × z_S)) (v1 : Int32) (v2 : Int32) (v3 : Int32) (v4 : Int32) (S : z_S) : Option (z_O × z_S) :=
  k28 v1 v2 v3 (v4 + 1) S
set_option maxRecDepth 20000 in
theorem ok_X6_above_100 {l : Launch} {B : Nat} {q : z_O × z_S} (hst : l.stackTraces = false) {k28 : Int32 → Int32 → Int32 → Int32 → z_S → Option (z_O × z_S)} (hk28 : ∀ (v1 : Int32) (v2 : Int32) (v3 : Int32) (v4 : Int32) (S : z_S), k28 v1 v2 v3 v4 S = some q → z_W l I_X6_above (R_X6_above q) B q 28 [some (.ref 60), some (.int v1), some (.int v2), some (.int v3), some (.int v4)] [] S) : ∀ (v1 : Int32) (v2 : Int32) (v3 : Int32) (v4 : Int32) (S : z_S), F_X6_above_100 B k28 v1 v2 v3 v4 S = some q → z_W l I_X6_above (R_X6_above q) B q 100 [some (.ref 60), some (.int v1), some (.int v2), some (.int v3), some (.int v4)] [] S := by
  intro v1 v2 v3 v4 S hF
  unfold F_X6_above_100 at hF
  refine z_iinc (v := v4 + 1) (pc' := 103) dX6_above_100 rfl rfl (by decide) rfl rfl ?_
  refine z_goto (pc' := 28) dX6_above_103 (by decide) ?_
  refine z_wk (ls' := [some (.ref 60), some (.int v1), some (.int v2), some (.int v3), some (.int (v4 + 1))]) (z_lec rfl (z_lec rfl (z_lec rfl (z_lec rfl (z_lec rfl z_le0))))) ?_
  exact hk28 _ _ _ _ _ hF
def F_X6_above_28 (B : Nat) (k2 : Int32 → Int32 → z_S → Option (z_O × z_S)) : Nat → Int32 → Int32 → Int32 → Int32 → z_S → Option (z_O × z_S)
  | 0, _, _, _, _, _ => none
  | n + 1, v1, v2, v3, v4, S => z_gd (z_inb (3852 + v3) 25366) (
  z_lt (S.1 61 (z_ix (3852 + v3))) fun x2 =>
  (if x2 ≤ v4 then
    k2 v1 (v2 + 1) S
  else
    z_gd (z_inb ((6156 + (16 * v3)) + v4) 25366) (
    z_lt (S.1 61 (z_ix ((6156 + (16 * v3)) + v4))) fun x4 =>
    (if x4 = 1 then
      z_gd (z_inb ((10764 + (16 * v3)) + v4) 25366) (
      z_lt (S.1 61 (z_ix ((10764 + (16 * v3)) + v4))) fun x6 =>
      (if x6 = v1 then
        z_gd (z_inb ((4620 + (16 * v3)) + v4) 25366) (
        z_lt (S.1 61 (z_ix ((4620 + (16 * v3)) + v4))) fun x8 =>
        (some (.inl (some x8), S)))
      else
        F_X6_above_100 B (F_X6_above_28 B k2 n) v1 v2 v3 v4 S))
    else
      F_X6_above_100 B (F_X6_above_28 B k2 n) v1 v2 v3 v4 S))))
set_option maxRecDepth 20000 in
theorem ok_X6_above_28 {l : Launch} {B : Nat} {q : z_O × z_S} (hst : l.stackTraces = false) {k2 : Int32 → Int32 → z_S → Option (z_O × z_S)} (hk2 : ∀ (v1 : Int32) (v2 : Int32) (S : z_S), k2 v1 v2 S = some q → z_W l I_X6_above (R_X6_above q) B q 2 [some (.ref 60), some (.int v1), some (.int v2), none, none] [] S) : ∀ (n : Nat) (v1 : Int32) (v2 : Int32) (v3 : Int32) (v4 : Int32) (S : z_S), F_X6_above_28 B k2 n v1 v2 v3 v4 S = some q → z_W l I_X6_above (R_X6_above q) B q 28 [some (.ref 60), some (.int v1), some (.int v2), some (.int v3), some (.int v4)] [] S := by
  intro n
  induction n with
  | zero => intro v1 v2 v3 v4 S hF; cases hF
  | succ n ih =>
    intro v1 v2 v3 v4 S hF
    rw [F_X6_above_28] at hF
    refine z_iload (pc' := 30) dX6_above_28 rfl rfl ?_
    refine z_aload_n (pc' := 31) dX6_above_30 rfl rfl rfl ?_
    refine gf_X6_7 (b := 61) (pc' := 34) rfl is_6_60 rfl dX6_above_31 rfl ?_
    refine z_sipush (v := 3852) (pc' := 37) dX6_above_34 (by decide) rfl ?_
    refine z_iload_n (pc' := 38) dX6_above_37 rfl rfl rfl ?_
    refine z_iadd (pc' := 39) dX6_above_38 rfl ?_
    obtain ⟨g1, hF⟩ := z_gde hF
    refine z_iaload (pc' := 40) (ar_6_f3 is_6_60) (z_inbe g1) dX6_above_39 rfl ?_
    refine z_topi (fun x2 ex2 => ?_)
    replace hF := z_lte hF x2 ex2
    refine z_icmp_ge (tgt := 106) (pc' := 43) dX6_above_40 (by decide) rfl (fun c11 => ?_) (fun c11 => ?_)
    · rw [if_pos c11] at hF
      refine z_iinc (v := v2 + 1) (pc' := 109) dX6_above_106 rfl rfl (by decide) rfl rfl ?_
      refine z_goto (pc' := 2) dX6_above_109 (by decide) ?_
      refine z_wk (ls' := [some (.ref 60), some (.int v1), some (.int (v2 + 1)), none, none]) (z_lec rfl (z_lec rfl (z_lec rfl (z_len1 (z_len1 z_le0))))) ?_
      exact hk2 _ _ _ hF
    · rw [if_neg c11] at hF
      refine z_aload_n (pc' := 44) dX6_above_43 rfl rfl rfl ?_
      refine gf_X6_7 (b := 61) (pc' := 47) rfl is_6_60 rfl dX6_above_44 rfl ?_
      refine z_sipush (v := 6156) (pc' := 50) dX6_above_47 (by decide) rfl ?_
      refine z_bipush (v := 16) (pc' := 52) dX6_above_50 (by decide) rfl ?_
      refine z_iload_n (pc' := 53) dX6_above_52 rfl rfl rfl ?_
      refine z_imul (pc' := 54) dX6_above_53 rfl ?_
      refine z_iadd (pc' := 55) dX6_above_54 rfl ?_
      refine z_iload (pc' := 57) dX6_above_55 rfl rfl ?_
      refine z_iadd (pc' := 58) dX6_above_57 rfl ?_
      obtain ⟨g3, hF⟩ := z_gde hF
      refine z_iaload (pc' := 59) (ar_6_f3 is_6_60) (z_inbe g3) dX6_above_58 rfl ?_
      refine z_topi (fun x4 ex4 => ?_)
      replace hF := z_lte hF x4 ex4
      refine z_iconst (v := 1) (pc' := 60) dX6_above_59 (by decide) rfl ?_
      refine z_icmp_ne (tgt := 100) (pc' := 63) dX6_above_60 (by decide) rfl (fun c10 => ?_) (fun c10 => ?_)
      · rw [if_neg c10] at hF
        refine z_wk (ls' := [some (.ref 60), some (.int v1), some (.int v2), some (.int v3), some (.int v4)]) (z_lec rfl (z_lec rfl (z_lec rfl (z_lec rfl (z_lec rfl z_le0))))) ?_
        exact (ok_X6_above_100 hst ih) _ _ _ _ _ hF
      · rw [if_pos c10] at hF
        refine z_aload_n (pc' := 64) dX6_above_63 rfl rfl rfl ?_
        refine gf_X6_7 (b := 61) (pc' := 67) rfl is_6_60 rfl dX6_above_64 rfl ?_
        refine z_sipush (v := 10764) (pc' := 70) dX6_above_67 (by decide) rfl ?_
        refine z_bipush (v := 16) (pc' := 72) dX6_above_70 (by decide) rfl ?_
        refine z_iload_n (pc' := 73) dX6_above_72 rfl rfl rfl ?_
        refine z_imul (pc' := 74) dX6_above_73 rfl ?_
        refine z_iadd (pc' := 75) dX6_above_74 rfl ?_
        refine z_iload (pc' := 77) dX6_above_75 rfl rfl ?_
        refine z_iadd (pc' := 78) dX6_above_77 rfl ?_
        obtain ⟨g5, hF⟩ := z_gde hF
        refine z_iaload (pc' := 79) (ar_6_f3 is_6_60) (z_inbe g5) dX6_above_78 rfl ?_
        refine z_topi (fun x6 ex6 => ?_)
        replace hF := z_lte hF x6 ex6
        refine z_iload_n (pc' := 80) dX6_above_79 rfl rfl rfl ?_
        refine z_icmp_ne (tgt := 100) (pc' := 83) dX6_above_80 (by decide) rfl (fun c9 => ?_) (fun c9 => ?_)
        · rw [if_neg c9] at hF
          refine z_wk (ls' := [some (.ref 60), some (.int v1), some (.int v2), some (.int v3), some (.int v4)]) (z_lec rfl (z_lec rfl (z_lec rfl (z_lec rfl (z_lec rfl z_le0))))) ?_
          exact (ok_X6_above_100 hst ih) _ _ _ _ _ hF
        · rw [if_pos c9] at hF
          refine z_aload_n (pc' := 84) dX6_above_83 rfl rfl rfl ?_
          refine gf_X6_7 (b := 61) (pc' := 87) rfl is_6_60 rfl dX6_above_84 rfl ?_
          refine z_sipush (v := 4620) (pc' := 90) dX6_above_87 (by decide) rfl ?_
          refine z_bipush (v := 16) (pc' := 92) dX6_above_90 (by decide) rfl ?_
          refine z_iload_n (pc' := 93) dX6_above_92 rfl rfl rfl ?_
          refine z_imul (pc' := 94) dX6_above_93 rfl ?_
          refine z_iadd (pc' := 95) dX6_above_94 rfl ?_
          refine z_iload (pc' := 97) dX6_above_95 rfl rfl ?_
          refine z_iadd (pc' := 98) dX6_above_97 rfl ?_
          obtain ⟨g7, hF⟩ := z_gde hF
          refine z_iaload (pc' := 99) (ar_6_f3 is_6_60) (z_inbe g7) dX6_above_98 rfl ?_
          refine z_topi (fun x8 ex8 => ?_)
          replace hF := z_lte hF x8 ex8
          exact z_ireturn rfl dX6_above_99 (Option.some.inj hF).symm
def F_X6_above_2 (B : Nat)  : Nat → Int32 → Int32 → z_S → Option (z_O × z_S)
  | 0, _, _, _ => none
  | n + 1, v1, v2, S => z_gd (z_inb 13068 25366) (
  z_lt (S.1 61 (z_ix (13068))) fun x2 =>
  (if x2 ≤ v2 then
    some (.inl (some (-1)), S)
  else
    z_gd (z_inb (12300 + v2) 25366) (
    z_lt (S.1 61 (z_ix (12300 + v2))) fun x4 =>
    (F_X6_above_28 B (F_X6_above_2 B n) z_n v1 v2 x4 0 S))))
set_option maxRecDepth 20000 in
theorem ok_X6_above_2 {l : Launch} {B : Nat} {q : z_O × z_S} (hst : l.stackTraces = false) : ∀ (n : Nat) (v1 : Int32) (v2 : Int32) (S : z_S), F_X6_above_2 B n v1 v2 S = some q → z_W l I_X6_above (R_X6_above q) B q 2 [some (.ref 60), some (.int v1), some (.int v2), none, none] [] S := by
  intro n
  induction n with
  | zero => intro v1 v2 S hF; cases hF
  | succ n ih =>
    intro v1 v2 S hF
    rw [F_X6_above_2] at hF
    refine z_iload_n (pc' := 3) dX6_above_2 rfl rfl rfl ?_
    refine z_aload_n (pc' := 4) dX6_above_3 rfl rfl rfl ?_
    refine gf_X6_7 (b := 61) (pc' := 7) rfl is_6_60 rfl dX6_above_4 rfl ?_
    refine z_sipush (v := 13068) (pc' := 10) dX6_above_7 (by decide) rfl ?_
    obtain ⟨g1, hF⟩ := z_gde hF
    refine z_iaload (pc' := 11) (ar_6_f3 is_6_60) (z_inbe g1) dX6_above_10 rfl ?_
    refine z_topi (fun x2 ex2 => ?_)
    replace hF := z_lte hF x2 ex2
    refine z_icmp_ge (tgt := 112) (pc' := 14) dX6_above_11 (by decide) rfl (fun c5 => ?_) (fun c5 => ?_)
    · rw [if_pos c5] at hF
      refine z_iconst (v := (-1)) (pc' := 113) dX6_above_112 (by decide) rfl ?_
      exact z_ireturn rfl dX6_above_113 (Option.some.inj hF).symm
    · rw [if_neg c5] at hF
      refine z_aload_n (pc' := 15) dX6_above_14 rfl rfl rfl ?_
      refine gf_X6_7 (b := 61) (pc' := 18) rfl is_6_60 rfl dX6_above_15 rfl ?_
      refine z_sipush (v := 12300) (pc' := 21) dX6_above_18 (by decide) rfl ?_
      refine z_iload_n (pc' := 22) dX6_above_21 rfl rfl rfl ?_
      refine z_iadd (pc' := 23) dX6_above_22 rfl ?_
      obtain ⟨g3, hF⟩ := z_gde hF
      refine z_iaload (pc' := 24) (ar_6_f3 is_6_60) (z_inbe g3) dX6_above_23 rfl ?_
      refine z_topi (fun x4 ex4 => ?_)
      replace hF := z_lte hF x4 ex4
      refine z_istore_n (pc' := 25) dX6_above_24 rfl (by decide) rfl rfl ?_
      refine z_iconst (v := 0) (pc' := 26) dX6_above_25 (by decide) rfl ?_
      refine z_istore (pc' := 28) dX6_above_26 (by decide) rfl rfl ?_
      refine z_wk (ls' := [some (.ref 60), some (.int v1), some (.int v2), some (.int x4), some (.int 0)]) (z_lec rfl (z_lec rfl (z_lec rfl (z_lec rfl (z_lec rfl z_le0))))) ?_
      exact (ok_X6_above_28 hst ih z_n) _ _ _ _ _ hF
def F_X6_above (B : Nat) (p1 : Int32) (S : z_S) : Option (z_O × z_S) :=
  F_X6_above_2 B z_n p1 0 S
set_option maxRecDepth 20000 in
theorem c_X6_above {l : Launch} {B : Nat} {p1 : Int32} {S : z_S} {q : z_O × z_S} (hst : l.stackTraces = false) (hF : F_X6_above B p1 S = some q) : z_Met l I_X6_above 0 0 B [.ref 60, .int p1] S q.1 q.2 := by
  refine z_enter (ls := [some (.ref 60), some (.int p1), none, none, none]) (n := 3) (by decide) rfl (Nat.le_of_ble_eq_true rfl) hst ?_
  unfold F_X6_above at hF
  refine z_iconst (v := 0) (pc' := 1) dX6_above_0 (by decide) rfl ?_
  refine z_istore_n (pc' := 2) dX6_above_1 rfl (by decide) rfl rfl ?_
  refine z_wk (ls' := [some (.ref 60), some (.int p1), some (.int 0), none, none]) (z_lec rfl (z_lec rfl (z_lec rfl (z_len1 (z_len1 z_le0))))) ?_
  exact (ok_X6_above_2 hst z_n) _ _ _ hF
theorem ok_X6_above : z_okV I_X6_above 1 := ⟨⟨z_Gin (List.mem_of_getElem? (i := 1130) (by decide +kernel)) rfl, z_Gin (List.mem_of_getElem? (i := 71) (by decide +kernel)) rfl, z_Gin (List.mem_of_getElem? (i := 98) (by decide +kernel)) rfl, z_Gin (List.mem_of_getElem? (i := 1131) (by decide +kernel)) rfl⟩, by decide, by decide, by decide +kernel⟩
abbrev I_X6_isWithin : z_I := (yX6_isWithin, cX6_isWithin, 4, some .boolean)
abbrev R_X6_isWithin (q : z_O × z_S) : Room := { frames := 1, locals := 24, cells := z_mc q.1, slots := 6 * z_mc q.1 }
def F_X6_isWithin_31 (B : Nat)  (s0 : Int32) (S : z_S) : Option (z_O × z_S) :=
  z_gd (z_b01 s0) (some (.inl (some s0), S))
set_option maxRecDepth 20000 in
theorem ok_X6_isWithin_31 {l : Launch} {B : Nat} {q : z_O × z_S} (hst : l.stackTraces = false) : ∀ (s0 : Int32) (S : z_S), F_X6_isWithin_31 B s0 S = some q → z_W l I_X6_isWithin (R_X6_isWithin q) B q 31 [none, none, none, none] [.int s0] S := by
  intro s0 S hF
  unfold F_X6_isWithin_31 at hF
  obtain ⟨g1, hF⟩ := z_gde hF
  exact z_zreturn rfl (z_b01e g1) dX6_isWithin_31 (Option.some.inj hF).symm
def F_X6_isWithin_21 (B : Nat)  (v2 : Int32) (v3 : Int32) (S : z_S) : Option (z_O × z_S) :=
  if v3 = v2 then
    F_X6_isWithin_31 B 1 S
  else
    F_X6_isWithin_31 B 0 S
set_option maxRecDepth 20000 in
theorem ok_X6_isWithin_21 {l : Launch} {B : Nat} {q : z_O × z_S} (hst : l.stackTraces = false) : ∀ (v2 : Int32) (v3 : Int32) (S : z_S), F_X6_isWithin_21 B v2 v3 S = some q → z_W l I_X6_isWithin (R_X6_isWithin q) B q 21 [none, none, some (.int v2), some (.int v3)] [] S := by
  intro v2 v3 S hF
  unfold F_X6_isWithin_21 at hF
  refine z_iload_n (pc' := 22) dX6_isWithin_21 rfl rfl rfl ?_
  refine z_iload_n (pc' := 23) dX6_isWithin_22 rfl rfl rfl ?_
  refine z_icmp_ne (tgt := 30) (pc' := 26) dX6_isWithin_23 (by decide) rfl (fun c1 => ?_) (fun c1 => ?_)
  · rw [if_neg c1] at hF
    refine z_iconst (v := 0) (pc' := 31) dX6_isWithin_30 (by decide) rfl ?_
    refine z_wk (ls' := [none, none, none, none]) (z_len1 (z_len1 (z_len1 (z_len1 z_le0)))) ?_
    exact (ok_X6_isWithin_31 hst) _ _ hF
  · rw [if_pos c1] at hF
    refine z_iconst (v := 1) (pc' := 27) dX6_isWithin_26 (by decide) rfl ?_
    refine z_goto (pc' := 31) dX6_isWithin_27 (by decide) ?_
    refine z_wk (ls' := [none, none, none, none]) (z_len1 (z_len1 (z_len1 (z_len1 z_le0)))) ?_
    exact (ok_X6_isWithin_31 hst) _ _ hF
def F_X6_isWithin_2 (B : Nat)  : Nat → Int32 → Int32 → z_S → Option (z_O × z_S)
  | 0, _, _, _ => none
  | n + 1, v2, v3, S => if v3 = (-1) then
    F_X6_isWithin_21 B v2 v3 S
  else
    if v3 = v2 then
      F_X6_isWithin_21 B v2 v3 S
    else
      z_bn (F_X6_above B v3 S) fun r1 S2 =>
      (F_X6_isWithin_2 B n v2 r1 S2)
set_option maxRecDepth 20000 in
theorem ok_X6_isWithin_2 {l : Launch} {B : Nat} {q : z_O × z_S} (hst : l.stackTraces = false) : ∀ (n : Nat) (v2 : Int32) (v3 : Int32) (S : z_S), F_X6_isWithin_2 B n v2 v3 S = some q → z_W l I_X6_isWithin (R_X6_isWithin q) B q 2 [some (.ref 60), none, some (.int v2), some (.int v3)] [] S := by
  intro n
  induction n with
  | zero => intro v2 v3 S hF; cases hF
  | succ n ih =>
    intro v2 v3 S hF
    rw [F_X6_isWithin_2] at hF
    refine z_iload_n (pc' := 3) dX6_isWithin_2 rfl rfl rfl ?_
    refine z_iconst (v := (-1)) (pc' := 4) dX6_isWithin_3 (by decide) rfl ?_
    refine z_icmp_eq (tgt := 21) (pc' := 7) dX6_isWithin_4 (by decide) rfl (fun c5 => ?_) (fun c5 => ?_)
    · rw [if_pos c5] at hF
      refine z_wk (ls' := [none, none, some (.int v2), some (.int v3)]) (z_len1 (z_len1 (z_lec rfl (z_lec rfl z_le0)))) ?_
      exact (ok_X6_isWithin_21 hst) _ _ _ hF
    · rw [if_neg c5] at hF
      refine z_iload_n (pc' := 8) dX6_isWithin_7 rfl rfl rfl ?_
      refine z_iload_n (pc' := 9) dX6_isWithin_8 rfl rfl rfl ?_
      refine z_icmp_eq (tgt := 21) (pc' := 12) dX6_isWithin_9 (by decide) rfl (fun c4 => ?_) (fun c4 => ?_)
      · rw [if_pos c4] at hF
        refine z_wk (ls' := [none, none, some (.int v2), some (.int v3)]) (z_len1 (z_len1 (z_lec rfl (z_lec rfl z_le0)))) ?_
        exact (ok_X6_isWithin_21 hst) _ _ _ hF
      · rw [if_neg c4] at hF
        refine z_aload_n (pc' := 13) dX6_isWithin_12 rfl rfl rfl ?_
        refine z_iload_n (pc' := 14) dX6_isWithin_13 rfl rfl rfl ?_
        obtain ⟨r1, S2, hc3, hF⟩ := z_bne hF
        have hm9 := c_X6_above hst hc3
        refine z_callV (As := [.int v3]) (st := []) (pc' := 17) hm9 ok_X6_above zw_142 (ci := 6) rfl is_6_60.1 is_6_60.2 rfl ⟨Nat.le_of_ble_eq_true rfl, Nat.le_of_ble_eq_true rfl⟩ (Nat.le_of_ble_eq_true rfl) dX6_isWithin_14 rfl rfl ?_
        refine z_istore_n (pc' := 18) dX6_isWithin_17 rfl (by decide) rfl rfl ?_
        refine z_goto (pc' := 2) dX6_isWithin_18 (by decide) ?_
        refine z_wk (ls' := [some (.ref 60), none, some (.int v2), some (.int r1)]) (z_lec rfl (z_len1 (z_lec rfl (z_lec rfl z_le0)))) ?_
        exact ih _ _ _ hF
def F_X6_isWithin (B : Nat) (p1 : Int32) (p2 : Int32) (S : z_S) : Option (z_O × z_S) :=
  F_X6_isWithin_2 B z_n p2 p1 S
set_option maxRecDepth 20000 in
theorem c_X6_isWithin {l : Launch} {B : Nat} {p1 : Int32} {p2 : Int32} {S : z_S} {q : z_O × z_S} (hst : l.stackTraces = false) (hF : F_X6_isWithin B p1 p2 S = some q) : z_Met l I_X6_isWithin 1 24 B [.ref 60, .int p1, .int p2] S q.1 q.2 := by
  refine z_enter (ls := [some (.ref 60), some (.int p1), some (.int p2), none]) (n := 1) (by decide) rfl (Nat.le_of_ble_eq_true rfl) hst ?_
  unfold F_X6_isWithin at hF
  refine z_iload_n (pc' := 1) dX6_isWithin_0 rfl rfl rfl ?_
  refine z_istore_n (pc' := 2) dX6_isWithin_1 rfl (by decide) rfl rfl ?_
  refine z_wk (ls' := [some (.ref 60), none, some (.int p2), some (.int p1)]) (z_lec rfl (z_len1 (z_lec rfl (z_lec rfl z_le0)))) ?_
  exact (ok_X6_isWithin_2 hst z_n) _ _ _ hF
theorem ok_X6_isWithin : z_okV I_X6_isWithin 2 := ⟨⟨z_Gin (List.mem_of_getElem? (i := 1126) (by decide +kernel)) rfl, z_Gin (List.mem_of_getElem? (i := 70) (by decide +kernel)) rfl, z_Gin (List.mem_of_getElem? (i := 98) (by decide +kernel)) rfl, z_Gin (List.mem_of_getElem? (i := 1127) (by decide +kernel)) rfl⟩, by decide, by decide, by decide +kernel⟩
abbrev I_X6_move : z_I := (yX6_move, cX6_move, 6, some .int)
abbrev R_X6_move (q : z_O × z_S) : Room := { frames := 6, locals := 149, cells := z_mc q.1, slots := 6 * z_mc q.1 }
def F_X6_move_184 (B : Nat)  (s0 : Int32) (S : z_S) : Option (z_O × z_S) :=
  some (.inl (some s0), S)
set_option maxRecDepth 20000 in
theorem ok_X6_move_184 {l : Launch} {B : Nat} {q : z_O × z_S} (hst : l.stackTraces = false) : ∀ (s0 : Int32) (S : z_S), F_X6_move_184 B s0 S = some q → z_W l I_X6_move (R_X6_move q) B q 184 [none, none, none, none, none, none] [.int s0] S := by
  intro s0 S hF
  unfold F_X6_move_184 at hF
  exact z_ireturn rfl dX6_move_184 (Option.some.inj hF).symm
def F_X6_move_108 (B : Nat)  (v1 : Int32) (v2 : Int32) (v3 : Int32) (v4 : Int32) (v5 : Int32) (s0 : Int32) (S : z_S) : Option (z_O × z_S) :=
  z_lt (z_ui S 60 0 s0) fun S1 =>
  (if (S1.2.1 60 0) ≤ 0 then
    z_bo (F_X6_begin B S1) fun S3 =>
    (z_bo (F_X6_remove B v1 1 v2 S3) fun S6 =>
    (z_gd (z_inb (218 + v1) 25366) (
    z_lt (S6.1 61 (z_ix (218 + v1))) fun x9 =>
    (z_gd (z_inb (218 + v1) 25366) (
    z_lt (z_ua S6 61 (upd (S6.1 61) (z_ix (218 + v1)) (x9 - 1))) fun S11 =>
    (z_bo (F_X6_put B v3 1 v4 3 v5 S11) fun S13 =>
    (z_gd (z_inb (218 + v3) 25366) (
    z_lt (S13.1 61 (z_ix (218 + v3))) fun x16 =>
    (z_gd (z_inb (218 + v3) 25366) (
    z_lt (z_ua S13 61 (upd (S13.1 61) (z_ix (218 + v3)) (x16 + 1))) fun S18 =>
    (z_bn (F_X6_ended B 4 S18) fun r19 S20 =>
    (if r19 = 0 then
      F_X6_move_184 B 0 S20
    else
      F_X6_move_184 B v5 S20))))))))))))
  else
    some (.inl (some 0), S1))
set_option maxRecDepth 20000 in
theorem ok_X6_move_108 {l : Launch} {B : Nat} {q : z_O × z_S} (hst : l.stackTraces = false) : ∀ (v1 : Int32) (v2 : Int32) (v3 : Int32) (v4 : Int32) (v5 : Int32) (s0 : Int32) (S : z_S), F_X6_move_108 B v1 v2 v3 v4 v5 s0 S = some q → z_W l I_X6_move (R_X6_move q) B q 108 [some (.ref 60), some (.int v1), some (.int v2), some (.int v3), some (.int v4), some (.int v5)] [.int s0, .ref 60] S := by
  intro v1 v2 v3 v4 v5 s0 S hF
  unfold F_X6_move_108 at hF
  refine pf_X6_40 (pc' := 111) rfl is_6_60 dX6_move_108 rfl (fun S1 eS1 => ?_)
  replace hF := z_lte hF S1 eS1
  refine z_aload_n (pc' := 112) dX6_move_111 rfl rfl rfl ?_
  refine gf_X6_40 (pc' := 115) rfl is_6_60 dX6_move_112 rfl ?_
  refine z_if_le (tgt := 120) (pc' := 118) dX6_move_115 (by decide) rfl (fun c23 => ?_) (fun c23 => ?_)
  · rw [if_pos c23] at hF
    refine z_aload_n (pc' := 121) dX6_move_120 rfl rfl rfl ?_
    obtain ⟨S3, hc4, hF⟩ := z_boe hF
    have hm9 := c_X6_begin hst hc4
    refine z_callV (As := []) (st := []) (pc' := 124) hm9 ok_X6_begin zw_139 (ci := 6) rfl is_6_60.1 is_6_60.2 rfl ⟨Nat.le_of_ble_eq_true rfl, Nat.le_of_ble_eq_true rfl⟩ (Nat.le_of_ble_eq_true rfl) dX6_move_121 rfl rfl ?_
    refine z_aload_n (pc' := 125) dX6_move_124 rfl rfl rfl ?_
    refine z_iload_n (pc' := 126) dX6_move_125 rfl rfl rfl ?_
    refine z_iconst (v := 1) (pc' := 127) dX6_move_126 (by decide) rfl ?_
    refine z_iload_n (pc' := 128) dX6_move_127 rfl rfl rfl ?_
    obtain ⟨S6, hc7, hF⟩ := z_boe hF
    have hm9 := c_X6_remove hst hc7
    refine z_callV (As := [.int v1, .int 1, .int v2]) (st := []) (pc' := 131) hm9 ok_X6_remove zw_128 (ci := 6) rfl is_6_60.1 is_6_60.2 rfl ⟨Nat.le_of_ble_eq_true rfl, Nat.le_of_ble_eq_true rfl⟩ (Nat.le_of_ble_eq_true rfl) dX6_move_128 rfl rfl ?_
    refine z_aload_n (pc' := 132) dX6_move_131 rfl rfl rfl ?_
    refine gf_X6_7 (b := 61) (pc' := 135) rfl is_6_60 rfl dX6_move_132 rfl ?_
    refine z_sipush (v := 218) (pc' := 138) dX6_move_135 (by decide) rfl ?_
    refine z_iload_n (pc' := 139) dX6_move_138 rfl rfl rfl ?_
    refine z_iadd (pc' := 140) dX6_move_139 rfl ?_
    refine z_dup2 (pc' := 141) dX6_move_140 rfl ?_
    obtain ⟨g8, hF⟩ := z_gde hF
    refine z_iaload (pc' := 142) (ar_6_f3 is_6_60) (z_inbe g8) dX6_move_141 rfl ?_
    refine z_topi (fun x9 ex9 => ?_)
    replace hF := z_lte hF x9 ex9
    refine z_iconst (v := 1) (pc' := 143) dX6_move_142 (by decide) rfl ?_
    refine z_isub (pc' := 144) dX6_move_143 rfl ?_
    obtain ⟨g10, hF⟩ := z_gde hF
    refine z_iastore (pc' := 145) (ar_6_f3 is_6_60) (z_inbe g10) dX6_move_144 rfl (fun S11 eS11 => ?_)
    replace hF := z_lte hF S11 eS11
    refine z_aload_n (pc' := 146) dX6_move_145 rfl rfl rfl ?_
    refine z_iload_n (pc' := 147) dX6_move_146 rfl rfl rfl ?_
    refine z_iconst (v := 1) (pc' := 148) dX6_move_147 (by decide) rfl ?_
    refine z_iload (pc' := 150) dX6_move_148 rfl rfl ?_
    refine z_iconst (v := 3) (pc' := 151) dX6_move_150 (by decide) rfl ?_
    refine z_iload (pc' := 153) dX6_move_151 rfl rfl ?_
    obtain ⟨S13, hc14, hF⟩ := z_boe hF
    have hm9 := c_X6_put hst hc14
    refine z_callV (As := [.int v3, .int 1, .int v4, .int 3, .int v5]) (st := []) (pc' := 156) hm9 ok_X6_put zw_129 (ci := 6) rfl is_6_60.1 is_6_60.2 rfl ⟨Nat.le_of_ble_eq_true rfl, Nat.le_of_ble_eq_true rfl⟩ (Nat.le_of_ble_eq_true rfl) dX6_move_153 rfl rfl ?_
    refine z_aload_n (pc' := 157) dX6_move_156 rfl rfl rfl ?_
    refine gf_X6_7 (b := 61) (pc' := 160) rfl is_6_60 rfl dX6_move_157 rfl ?_
    refine z_sipush (v := 218) (pc' := 163) dX6_move_160 (by decide) rfl ?_
    refine z_iload_n (pc' := 164) dX6_move_163 rfl rfl rfl ?_
    refine z_iadd (pc' := 165) dX6_move_164 rfl ?_
    refine z_dup2 (pc' := 166) dX6_move_165 rfl ?_
    obtain ⟨g15, hF⟩ := z_gde hF
    refine z_iaload (pc' := 167) (ar_6_f3 is_6_60) (z_inbe g15) dX6_move_166 rfl ?_
    refine z_topi (fun x16 ex16 => ?_)
    replace hF := z_lte hF x16 ex16
    refine z_iconst (v := 1) (pc' := 168) dX6_move_167 (by decide) rfl ?_
    refine z_iadd (pc' := 169) dX6_move_168 rfl ?_
    obtain ⟨g17, hF⟩ := z_gde hF
    refine z_iastore (pc' := 170) (ar_6_f3 is_6_60) (z_inbe g17) dX6_move_169 rfl (fun S18 eS18 => ?_)
    replace hF := z_lte hF S18 eS18
    refine z_aload_n (pc' := 171) dX6_move_170 rfl rfl rfl ?_
    refine z_iconst (v := 4) (pc' := 172) dX6_move_171 (by decide) rfl ?_
    obtain ⟨r19, S20, hc21, hF⟩ := z_bne hF
    have hm9 := c_X6_ended hst hc21
    refine z_callV (As := [.int 4]) (st := []) (pc' := 175) hm9 ok_X6_ended zw_140 (ci := 6) rfl is_6_60.1 is_6_60.2 rfl ⟨Nat.le_of_ble_eq_true rfl, Nat.le_of_ble_eq_true rfl⟩ (Nat.le_of_ble_eq_true rfl) dX6_move_172 rfl rfl ?_
    refine z_if_eq (tgt := 183) (pc' := 178) dX6_move_175 (by decide) rfl (fun c22 => ?_) (fun c22 => ?_)
    · rw [if_pos c22] at hF
      refine z_iconst (v := 0) (pc' := 184) dX6_move_183 (by decide) rfl ?_
      refine z_wk (ls' := [none, none, none, none, none, none]) (z_len1 (z_len1 (z_len1 (z_len1 (z_len1 (z_len1 z_le0)))))) ?_
      exact (ok_X6_move_184 hst) _ _ hF
    · rw [if_neg c22] at hF
      refine z_iload (pc' := 180) dX6_move_178 rfl rfl ?_
      refine z_goto (pc' := 184) dX6_move_180 (by decide) ?_
      refine z_wk (ls' := [none, none, none, none, none, none]) (z_len1 (z_len1 (z_len1 (z_len1 (z_len1 (z_len1 z_le0)))))) ?_
      exact (ok_X6_move_184 hst) _ _ hF
  · rw [if_neg c23] at hF
    refine z_iconst (v := 0) (pc' := 119) dX6_move_118 (by decide) rfl ?_
    exact z_ireturn rfl dX6_move_119 (Option.some.inj hF).symm
def F_X6_move_107 (B : Nat) (k108 : Int32 → Int32 → Int32 → Int32 → Int32 → Int32 → z_S → Option (z_O × z_S)) (v1 : Int32) (v2 : Int32) (v3 : Int32) (v4 : Int32) (v5 : Int32) (S : z_S) : Option (z_O × z_S) :=
  k108 v1 v2 v3 v4 v5 0 S
set_option maxRecDepth 20000 in
theorem ok_X6_move_107 {l : Launch} {B : Nat} {q : z_O × z_S} (hst : l.stackTraces = false) {k108 : Int32 → Int32 → Int32 → Int32 → Int32 → Int32 → z_S → Option (z_O × z_S)} (hk108 : ∀ (v1 : Int32) (v2 : Int32) (v3 : Int32) (v4 : Int32) (v5 : Int32) (s0 : Int32) (S : z_S), k108 v1 v2 v3 v4 v5 s0 S = some q → z_W l I_X6_move (R_X6_move q) B q 108 [some (.ref 60), some (.int v1), some (.int v2), some (.int v3), some (.int v4), some (.int v5)] [.int s0, .ref 60] S) : ∀ (v1 : Int32) (v2 : Int32) (v3 : Int32) (v4 : Int32) (v5 : Int32) (S : z_S), F_X6_move_107 B k108 v1 v2 v3 v4 v5 S = some q → z_W l I_X6_move (R_X6_move q) B q 107 [some (.ref 60), some (.int v1), some (.int v2), some (.int v3), some (.int v4), some (.int v5)] [.ref 60] S := by
  intro v1 v2 v3 v4 v5 S hF
  unfold F_X6_move_107 at hF
  refine z_iconst (v := 0) (pc' := 108) dX6_move_107 (by decide) rfl ?_
  refine z_wk (ls' := [some (.ref 60), some (.int v1), some (.int v2), some (.int v3), some (.int v4), some (.int v5)]) (z_lec rfl (z_lec rfl (z_lec rfl (z_lec rfl (z_lec rfl (z_lec rfl z_le0)))))) ?_
  exact hk108 _ _ _ _ _ _ _ hF
def F_X6_move_103 (B : Nat) (k108 : Int32 → Int32 → Int32 → Int32 → Int32 → Int32 → z_S → Option (z_O × z_S)) (v1 : Int32) (v2 : Int32) (v3 : Int32) (v4 : Int32) (v5 : Int32) (S : z_S) : Option (z_O × z_S) :=
  k108 v1 v2 v3 v4 v5 4 S
set_option maxRecDepth 20000 in
theorem ok_X6_move_103 {l : Launch} {B : Nat} {q : z_O × z_S} (hst : l.stackTraces = false) {k108 : Int32 → Int32 → Int32 → Int32 → Int32 → Int32 → z_S → Option (z_O × z_S)} (hk108 : ∀ (v1 : Int32) (v2 : Int32) (v3 : Int32) (v4 : Int32) (v5 : Int32) (s0 : Int32) (S : z_S), k108 v1 v2 v3 v4 v5 s0 S = some q → z_W l I_X6_move (R_X6_move q) B q 108 [some (.ref 60), some (.int v1), some (.int v2), some (.int v3), some (.int v4), some (.int v5)] [.int s0, .ref 60] S) : ∀ (v1 : Int32) (v2 : Int32) (v3 : Int32) (v4 : Int32) (v5 : Int32) (S : z_S), F_X6_move_103 B k108 v1 v2 v3 v4 v5 S = some q → z_W l I_X6_move (R_X6_move q) B q 103 [some (.ref 60), some (.int v1), some (.int v2), some (.int v3), some (.int v4), some (.int v5)] [.ref 60] S := by
  intro v1 v2 v3 v4 v5 S hF
  unfold F_X6_move_103 at hF
  refine z_iconst (v := 4) (pc' := 104) dX6_move_103 (by decide) rfl ?_
  refine z_goto (pc' := 108) dX6_move_104 (by decide) ?_
  refine z_wk (ls' := [some (.ref 60), some (.int v1), some (.int v2), some (.int v3), some (.int v4), some (.int v5)]) (z_lec rfl (z_lec rfl (z_lec rfl (z_lec rfl (z_lec rfl (z_lec rfl z_le0)))))) ?_
  exact hk108 _ _ _ _ _ _ _ hF
def F_X6_move_52 (B : Nat) (k108 : Int32 → Int32 → Int32 → Int32 → Int32 → Int32 → z_S → Option (z_O × z_S)) (v1 : Int32) (v2 : Int32) (v3 : Int32) (v4 : Int32) (v5 : Int32) (S : z_S) : Option (z_O × z_S) :=
  k108 v1 v2 v3 v4 v5 2 S
set_option maxRecDepth 20000 in
theorem ok_X6_move_52 {l : Launch} {B : Nat} {q : z_O × z_S} (hst : l.stackTraces = false) {k108 : Int32 → Int32 → Int32 → Int32 → Int32 → Int32 → z_S → Option (z_O × z_S)} (hk108 : ∀ (v1 : Int32) (v2 : Int32) (v3 : Int32) (v4 : Int32) (v5 : Int32) (s0 : Int32) (S : z_S), k108 v1 v2 v3 v4 v5 s0 S = some q → z_W l I_X6_move (R_X6_move q) B q 108 [some (.ref 60), some (.int v1), some (.int v2), some (.int v3), some (.int v4), some (.int v5)] [.int s0, .ref 60] S) : ∀ (v1 : Int32) (v2 : Int32) (v3 : Int32) (v4 : Int32) (v5 : Int32) (S : z_S), F_X6_move_52 B k108 v1 v2 v3 v4 v5 S = some q → z_W l I_X6_move (R_X6_move q) B q 52 [some (.ref 60), some (.int v1), some (.int v2), some (.int v3), some (.int v4), some (.int v5)] [.ref 60] S := by
  intro v1 v2 v3 v4 v5 S hF
  unfold F_X6_move_52 at hF
  refine z_iconst (v := 2) (pc' := 53) dX6_move_52 (by decide) rfl ?_
  refine z_goto (pc' := 108) dX6_move_53 (by decide) ?_
  refine z_wk (ls' := [some (.ref 60), some (.int v1), some (.int v2), some (.int v3), some (.int v4), some (.int v5)]) (z_lec rfl (z_lec rfl (z_lec rfl (z_lec rfl (z_lec rfl (z_lec rfl z_le0)))))) ?_
  exact hk108 _ _ _ _ _ _ _ hF
def F_X6_move_25 (B : Nat)  (v1 : Int32) (v2 : Int32) (v3 : Int32) (v4 : Int32) (s0 : Int32) (S : z_S) : Option (z_O × z_S) :=
  if (S.2.1 60 10) = 0 then
    if s0 < 0 then
      F_X6_move_52 B (F_X6_move_108 B ) v1 v2 v3 v4 s0 S
    else
      z_bn (F_X6_isDirectory B v3 S) fun r1 S2 =>
      (if r1 = 0 then
        F_X6_move_52 B (F_X6_move_108 B ) v1 v2 v3 v4 s0 S2
      else
        z_bn (F_X6_isName B v4 S2) fun r4 S5 =>
        (if r4 = 0 then
          F_X6_move_108 B v1 v2 v3 v4 s0 3 S5
        else
          z_bn (F_X6_entry B v3 v4 S5) fun r7 S8 =>
          (if 0 ≤ r7 then
            F_X6_move_103 B (F_X6_move_108 B ) v1 v2 v3 v4 s0 S8
          else
            z_gd (z_inb (96 + s0) 25366) (
            z_lt (S8.1 61 (z_ix (96 + s0))) fun x11 =>
            (if x11 = 1 then
              z_bn (F_X6_isWithin B v3 s0 S8) fun r12 S13 =>
              (if r12 = 0 then
                F_X6_move_107 B (F_X6_move_108 B ) v1 v2 v3 v4 s0 S13
              else
                F_X6_move_103 B (F_X6_move_108 B ) v1 v2 v3 v4 s0 S13)
            else
              F_X6_move_107 B (F_X6_move_108 B ) v1 v2 v3 v4 s0 S8)))))
  else
    F_X6_move_108 B v1 v2 v3 v4 s0 1 S
set_option maxRecDepth 20000 in
theorem ok_X6_move_25 {l : Launch} {B : Nat} {q : z_O × z_S} (hst : l.stackTraces = false) : ∀ (v1 : Int32) (v2 : Int32) (v3 : Int32) (v4 : Int32) (s0 : Int32) (S : z_S), F_X6_move_25 B v1 v2 v3 v4 s0 S = some q → z_W l I_X6_move (R_X6_move q) B q 25 [some (.ref 60), some (.int v1), some (.int v2), some (.int v3), some (.int v4), none] [.int s0] S := by
  intro v1 v2 v3 v4 s0 S hF
  unfold F_X6_move_25 at hF
  refine z_istore (pc' := 27) dX6_move_25 (by decide) rfl rfl ?_
  refine z_aload_n (pc' := 28) dX6_move_27 rfl rfl rfl ?_
  refine z_aload_n (pc' := 29) dX6_move_28 rfl rfl rfl ?_
  refine gf_X6_149 (pc' := 32) rfl is_6_60 dX6_move_29 rfl ?_
  refine z_if_eq (tgt := 39) (pc' := 35) dX6_move_32 (by decide) rfl (fun c21 => ?_) (fun c21 => ?_)
  · rw [if_pos c21] at hF
    refine z_iload (pc' := 41) dX6_move_39 rfl rfl ?_
    refine z_if_lt (tgt := 52) (pc' := 44) dX6_move_41 (by decide) rfl (fun c20 => ?_) (fun c20 => ?_)
    · rw [if_pos c20] at hF
      refine z_wk (ls' := [some (.ref 60), some (.int v1), some (.int v2), some (.int v3), some (.int v4), some (.int s0)]) (z_lec rfl (z_lec rfl (z_lec rfl (z_lec rfl (z_lec rfl (z_lec rfl z_le0)))))) ?_
      exact (ok_X6_move_52 hst (ok_X6_move_108 hst)) _ _ _ _ _ _ hF
    · rw [if_neg c20] at hF
      refine z_aload_n (pc' := 45) dX6_move_44 rfl rfl rfl ?_
      refine z_iload_n (pc' := 46) dX6_move_45 rfl rfl rfl ?_
      obtain ⟨r1, S2, hc3, hF⟩ := z_bne hF
      have hm9 := c_X6_isDirectory hst hc3
      refine z_callV (As := [.int v3]) (st := [.ref 60]) (pc' := 49) hm9 ok_X6_isDirectory zw_135 (ci := 6) rfl is_6_60.1 is_6_60.2 rfl ⟨Nat.le_of_ble_eq_true rfl, Nat.le_of_ble_eq_true rfl⟩ (Nat.le_of_ble_eq_true rfl) dX6_move_46 rfl rfl ?_
      refine z_if_ne (tgt := 56) (pc' := 52) dX6_move_49 (by decide) rfl (fun c19 => ?_) (fun c19 => ?_)
      · rw [if_neg c19] at hF
        refine z_aload_n (pc' := 57) dX6_move_56 rfl rfl rfl ?_
        refine z_iload (pc' := 59) dX6_move_57 rfl rfl ?_
        obtain ⟨r4, S5, hc6, hF⟩ := z_bne hF
        have hm9 := c_X6_isName hst hc6
        refine z_callV (As := [.int v4]) (st := [.ref 60]) (pc' := 62) hm9 ok_X6_isName zw_136 (ci := 6) rfl is_6_60.1 is_6_60.2 rfl ⟨Nat.le_of_ble_eq_true rfl, Nat.le_of_ble_eq_true rfl⟩ (Nat.le_of_ble_eq_true rfl) dX6_move_59 rfl rfl ?_
        refine z_if_ne (tgt := 69) (pc' := 65) dX6_move_62 (by decide) rfl (fun c18 => ?_) (fun c18 => ?_)
        · rw [if_neg c18] at hF
          refine z_aload_n (pc' := 70) dX6_move_69 rfl rfl rfl ?_
          refine z_iload_n (pc' := 71) dX6_move_70 rfl rfl rfl ?_
          refine z_iload (pc' := 73) dX6_move_71 rfl rfl ?_
          obtain ⟨r7, S8, hc9, hF⟩ := z_bne hF
          have hm9 := c_X6_entry hst hc9
          refine z_callV (As := [.int v3, .int v4]) (st := [.ref 60]) (pc' := 76) hm9 ok_X6_entry zw_137 (ci := 6) rfl is_6_60.1 is_6_60.2 rfl ⟨Nat.le_of_ble_eq_true rfl, Nat.le_of_ble_eq_true rfl⟩ (Nat.le_of_ble_eq_true rfl) dX6_move_73 rfl rfl ?_
          refine z_if_ge (tgt := 103) (pc' := 79) dX6_move_76 (by decide) rfl (fun c17 => ?_) (fun c17 => ?_)
          · rw [if_pos c17] at hF
            refine z_wk (ls' := [some (.ref 60), some (.int v1), some (.int v2), some (.int v3), some (.int v4), some (.int s0)]) (z_lec rfl (z_lec rfl (z_lec rfl (z_lec rfl (z_lec rfl (z_lec rfl z_le0)))))) ?_
            exact (ok_X6_move_103 hst (ok_X6_move_108 hst)) _ _ _ _ _ _ hF
          · rw [if_neg c17] at hF
            refine z_aload_n (pc' := 80) dX6_move_79 rfl rfl rfl ?_
            refine gf_X6_7 (b := 61) (pc' := 83) rfl is_6_60 rfl dX6_move_80 rfl ?_
            refine z_bipush (v := 96) (pc' := 85) dX6_move_83 (by decide) rfl ?_
            refine z_iload (pc' := 87) dX6_move_85 rfl rfl ?_
            refine z_iadd (pc' := 88) dX6_move_87 rfl ?_
            obtain ⟨g10, hF⟩ := z_gde hF
            refine z_iaload (pc' := 89) (ar_6_f3 is_6_60) (z_inbe g10) dX6_move_88 rfl ?_
            refine z_topi (fun x11 ex11 => ?_)
            replace hF := z_lte hF x11 ex11
            refine z_iconst (v := 1) (pc' := 90) dX6_move_89 (by decide) rfl ?_
            refine z_icmp_ne (tgt := 107) (pc' := 93) dX6_move_90 (by decide) rfl (fun c16 => ?_) (fun c16 => ?_)
            · rw [if_neg c16] at hF
              refine z_wk (ls' := [some (.ref 60), some (.int v1), some (.int v2), some (.int v3), some (.int v4), some (.int s0)]) (z_lec rfl (z_lec rfl (z_lec rfl (z_lec rfl (z_lec rfl (z_lec rfl z_le0)))))) ?_
              exact (ok_X6_move_107 hst (ok_X6_move_108 hst)) _ _ _ _ _ _ hF
            · rw [if_pos c16] at hF
              refine z_aload_n (pc' := 94) dX6_move_93 rfl rfl rfl ?_
              refine z_iload_n (pc' := 95) dX6_move_94 rfl rfl rfl ?_
              refine z_iload (pc' := 97) dX6_move_95 rfl rfl ?_
              obtain ⟨r12, S13, hc14, hF⟩ := z_bne hF
              have hm9 := c_X6_isWithin hst hc14
              refine z_callV (As := [.int v3, .int s0]) (st := [.ref 60]) (pc' := 100) hm9 ok_X6_isWithin zw_143 (ci := 6) rfl is_6_60.1 is_6_60.2 rfl ⟨Nat.le_of_ble_eq_true rfl, Nat.le_of_ble_eq_true rfl⟩ (Nat.le_of_ble_eq_true rfl) dX6_move_97 rfl rfl ?_
              refine z_if_eq (tgt := 107) (pc' := 103) dX6_move_100 (by decide) rfl (fun c15 => ?_) (fun c15 => ?_)
              · rw [if_pos c15] at hF
                refine z_wk (ls' := [some (.ref 60), some (.int v1), some (.int v2), some (.int v3), some (.int v4), some (.int s0)]) (z_lec rfl (z_lec rfl (z_lec rfl (z_lec rfl (z_lec rfl (z_lec rfl z_le0)))))) ?_
                exact (ok_X6_move_107 hst (ok_X6_move_108 hst)) _ _ _ _ _ _ hF
              · rw [if_neg c15] at hF
                refine z_wk (ls' := [some (.ref 60), some (.int v1), some (.int v2), some (.int v3), some (.int v4), some (.int s0)]) (z_lec rfl (z_lec rfl (z_lec rfl (z_lec rfl (z_lec rfl (z_lec rfl z_le0)))))) ?_
                exact (ok_X6_move_103 hst (ok_X6_move_108 hst)) _ _ _ _ _ _ hF
        · rw [if_pos c18] at hF
          refine z_iconst (v := 3) (pc' := 66) dX6_move_65 (by decide) rfl ?_
          refine z_goto (pc' := 108) dX6_move_66 (by decide) ?_
          refine z_wk (ls' := [some (.ref 60), some (.int v1), some (.int v2), some (.int v3), some (.int v4), some (.int s0)]) (z_lec rfl (z_lec rfl (z_lec rfl (z_lec rfl (z_lec rfl (z_lec rfl z_le0)))))) ?_
          exact (ok_X6_move_108 hst) _ _ _ _ _ _ _ hF
      · rw [if_pos c19] at hF
        refine z_wk (ls' := [some (.ref 60), some (.int v1), some (.int v2), some (.int v3), some (.int v4), some (.int s0)]) (z_lec rfl (z_lec rfl (z_lec rfl (z_lec rfl (z_lec rfl (z_lec rfl z_le0)))))) ?_
        exact (ok_X6_move_52 hst (ok_X6_move_108 hst)) _ _ _ _ _ _ hF
  · rw [if_neg c21] at hF
    refine z_iconst (v := 1) (pc' := 36) dX6_move_35 (by decide) rfl ?_
    refine z_goto (pc' := 108) dX6_move_36 (by decide) ?_
    refine z_wk (ls' := [some (.ref 60), some (.int v1), some (.int v2), some (.int v3), some (.int v4), some (.int s0)]) (z_lec rfl (z_lec rfl (z_lec rfl (z_lec rfl (z_lec rfl (z_lec rfl z_le0)))))) ?_
    exact (ok_X6_move_108 hst) _ _ _ _ _ _ _ hF
def F_X6_move_15 (B : Nat) (k25 : Int32 → Int32 → Int32 → Int32 → Int32 → z_S → Option (z_O × z_S)) (v1 : Int32) (v2 : Int32) (v3 : Int32) (v4 : Int32) (S : z_S) : Option (z_O × z_S) :=
  k25 v1 v2 v3 v4 (-1) S
set_option maxRecDepth 20000 in
theorem ok_X6_move_15 {l : Launch} {B : Nat} {q : z_O × z_S} (hst : l.stackTraces = false) {k25 : Int32 → Int32 → Int32 → Int32 → Int32 → z_S → Option (z_O × z_S)} (hk25 : ∀ (v1 : Int32) (v2 : Int32) (v3 : Int32) (v4 : Int32) (s0 : Int32) (S : z_S), k25 v1 v2 v3 v4 s0 S = some q → z_W l I_X6_move (R_X6_move q) B q 25 [some (.ref 60), some (.int v1), some (.int v2), some (.int v3), some (.int v4), none] [.int s0] S) : ∀ (v1 : Int32) (v2 : Int32) (v3 : Int32) (v4 : Int32) (S : z_S), F_X6_move_15 B k25 v1 v2 v3 v4 S = some q → z_W l I_X6_move (R_X6_move q) B q 15 [some (.ref 60), some (.int v1), some (.int v2), some (.int v3), some (.int v4), none] [] S := by
  intro v1 v2 v3 v4 S hF
  unfold F_X6_move_15 at hF
  refine z_iconst (v := (-1)) (pc' := 16) dX6_move_15 (by decide) rfl ?_
  refine z_goto (pc' := 25) dX6_move_16 (by decide) ?_
  refine z_wk (ls' := [some (.ref 60), some (.int v1), some (.int v2), some (.int v3), some (.int v4), none]) (z_lec rfl (z_lec rfl (z_lec rfl (z_lec rfl (z_lec rfl (z_len1 z_le0)))))) ?_
  exact hk25 _ _ _ _ _ _ hF
def F_X6_move (B : Nat) (p1 : Int32) (p2 : Int32) (p3 : Int32) (p4 : Int32) (S : z_S) : Option (z_O × z_S) :=
  if (S.2.1 60 10) = 0 then
    z_bn (F_X6_isDirectory B p1 S) fun r1 S2 =>
    (if r1 = 0 then
      F_X6_move_15 B (F_X6_move_25 B ) p1 p2 p3 p4 S2
    else
      z_bn (F_X6_entry B p1 p2 S2) fun r4 S5 =>
      (F_X6_move_25 B p1 p2 p3 p4 r4 S5))
  else
    F_X6_move_15 B (F_X6_move_25 B ) p1 p2 p3 p4 S
set_option maxRecDepth 20000 in
theorem c_X6_move {l : Launch} {B : Nat} {p1 : Int32} {p2 : Int32} {p3 : Int32} {p4 : Int32} {S : z_S} {q : z_O × z_S} (hst : l.stackTraces = false) (hF : F_X6_move B p1 p2 p3 p4 S = some q) : z_Met l I_X6_move 6 149 B [.ref 60, .int p1, .int p2, .int p3, .int p4] S q.1 q.2 := by
  refine z_enter (ls := [some (.ref 60), some (.int p1), some (.int p2), some (.int p3), some (.int p4), none]) (n := 1) (by decide) rfl (Nat.le_of_ble_eq_true rfl) hst ?_
  unfold F_X6_move at hF
  refine z_aload_n (pc' := 1) dX6_move_0 rfl rfl rfl ?_
  refine gf_X6_149 (pc' := 4) rfl is_6_60 dX6_move_1 rfl ?_
  refine z_if_ne (tgt := 15) (pc' := 7) dX6_move_4 (by decide) rfl (fun c8 => ?_) (fun c8 => ?_)
  · rw [if_neg c8] at hF
    refine z_wk (ls' := [some (.ref 60), some (.int p1), some (.int p2), some (.int p3), some (.int p4), none]) (z_lec rfl (z_lec rfl (z_lec rfl (z_lec rfl (z_lec rfl (z_len1 z_le0)))))) ?_
    exact (ok_X6_move_15 hst (ok_X6_move_25 hst)) _ _ _ _ _ hF
  · rw [if_pos c8] at hF
    refine z_aload_n (pc' := 8) dX6_move_7 rfl rfl rfl ?_
    refine z_iload_n (pc' := 9) dX6_move_8 rfl rfl rfl ?_
    obtain ⟨r1, S2, hc3, hF⟩ := z_bne hF
    have hm9 := c_X6_isDirectory hst hc3
    refine z_callV (As := [.int p1]) (st := []) (pc' := 12) hm9 ok_X6_isDirectory zw_135 (ci := 6) rfl is_6_60.1 is_6_60.2 rfl ⟨Nat.le_of_ble_eq_true rfl, Nat.le_of_ble_eq_true rfl⟩ (Nat.le_of_ble_eq_true rfl) dX6_move_9 rfl rfl ?_
    refine z_if_ne (tgt := 19) (pc' := 15) dX6_move_12 (by decide) rfl (fun c7 => ?_) (fun c7 => ?_)
    · rw [if_neg c7] at hF
      refine z_aload_n (pc' := 20) dX6_move_19 rfl rfl rfl ?_
      refine z_iload_n (pc' := 21) dX6_move_20 rfl rfl rfl ?_
      refine z_iload_n (pc' := 22) dX6_move_21 rfl rfl rfl ?_
      obtain ⟨r4, S5, hc6, hF⟩ := z_bne hF
      have hm9 := c_X6_entry hst hc6
      refine z_callV (As := [.int p1, .int p2]) (st := []) (pc' := 25) hm9 ok_X6_entry zw_137 (ci := 6) rfl is_6_60.1 is_6_60.2 rfl ⟨Nat.le_of_ble_eq_true rfl, Nat.le_of_ble_eq_true rfl⟩ (Nat.le_of_ble_eq_true rfl) dX6_move_22 rfl rfl ?_
      refine z_wk (ls' := [some (.ref 60), some (.int p1), some (.int p2), some (.int p3), some (.int p4), none]) (z_lec rfl (z_lec rfl (z_lec rfl (z_lec rfl (z_lec rfl (z_len1 z_le0)))))) ?_
      exact (ok_X6_move_25 hst) _ _ _ _ _ _ hF
    · rw [if_pos c7] at hF
      refine z_wk (ls' := [some (.ref 60), some (.int p1), some (.int p2), some (.int p3), some (.int p4), none]) (z_lec rfl (z_lec rfl (z_lec rfl (z_lec rfl (z_lec rfl (z_len1 z_le0)))))) ?_
      exact (ok_X6_move_15 hst (ok_X6_move_25 hst)) _ _ _ _ _ hF
theorem ok_X6_move : z_okV I_X6_move 4 := ⟨⟨z_Gin (List.mem_of_getElem? (i := 1121) (by decide +kernel)) rfl, z_Gin (List.mem_of_getElem? (i := 1122) (by decide +kernel)) rfl, z_Gin (List.mem_of_getElem? (i := 98) (by decide +kernel)) rfl, z_Gin (List.mem_of_getElem? (i := 1123) (by decide +kernel)) rfl⟩, by decide, by decide, by decide +kernel⟩
