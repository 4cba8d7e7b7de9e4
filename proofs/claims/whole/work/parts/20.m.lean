abbrev I_X6_unlink : z_I := (yX6_unlink, cX6_unlink, 7, some .int)
abbrev R_X6_unlink (q : z_O × z_S) : Room := { frames := 7, locals := 174, cells := z_mc q.1, slots := 6 * z_mc q.1 }
def F_X6_unlink_202 (B : Nat)  : Nat → Int32 → Int32 → Int32 → Int32 → z_S → Option (z_O × z_S)
  | 0, _, _, _, _, _ => none
  | n + 1, v3, v4, v5, v6, S => if v6 < 0 then
    z_bo (F_X6_resize B v3 3 v4 0 S) fun S2 =>
    (z_bo (F_X6_resize B v3 2 (2 * v5) 0 S2) fun S5 =>
    (z_bo (F_X6_remove B v3 0 0 S5) fun S8 =>
    (z_gd (z_inb (96 + v3) 25366) (
    z_lt (z_ua S8 61 (upd (S8.1 61) (z_ix (96 + v3)) 0)) fun S11 =>
    (z_gd (z_inb (279 + v3) 25366) (
    z_lt (z_ua S11 61 (upd (S11.1 61) (z_ix (279 + v3)) 0)) fun S13 =>
    (z_gd (z_inb (218 + v3) 25366) (
    z_lt (z_ua S13 61 (upd (S13.1 61) (z_ix (218 + v3)) 0)) fun S15 =>
    (some (.inl (some 0), S15))))))))))
  else
    z_gd (z_inb ((340 + (16 * v3)) + v6) 25366) (
    z_lt (S.1 61 (z_ix ((340 + (16 * v3)) + v6))) fun x17 =>
    (z_bo (F_X6_free B x17 S) fun S19 =>
    (F_X6_unlink_202 B n v3 v4 v5 (v6 + (-1)) S19)))
set_option maxRecDepth 20000 in
set_option maxHeartbeats 16000000 in
theorem ok_X6_unlink_202 {l : Launch} {B : Nat} {q : z_O × z_S} (hst : l.stackTraces = false) : ∀ (n : Nat) (v3 : Int32) (v4 : Int32) (v5 : Int32) (v6 : Int32) (S : z_S), F_X6_unlink_202 B n v3 v4 v5 v6 S = some q → z_W l I_X6_unlink (R_X6_unlink q) B q 202 [some (.ref 60), none, none, some (.int v3), some (.int v4), some (.int v5), some (.int v6)] [] S := by
  intro n
  induction n with
  | zero => intro v3 v4 v5 v6 S hF; cases hF
  | succ n ih =>
    intro v3 v4 v5 v6 S hF
    rw [F_X6_unlink_202] at hF
    refine z_iload (pc' := 204) dX6_unlink_202 rfl rfl ?_
    refine z_if_lt (tgt := 233) (pc' := 207) dX6_unlink_204 (by decide) rfl (fun c21 => ?_) (fun c21 => ?_)
    · rw [if_pos c21] at hF
      refine z_aload_n (pc' := 234) dX6_unlink_233 rfl rfl rfl ?_
      refine z_iload_n (pc' := 235) dX6_unlink_234 rfl rfl rfl ?_
      refine z_iconst (v := 3) (pc' := 236) dX6_unlink_235 (by decide) rfl ?_
      refine z_iload (pc' := 238) dX6_unlink_236 rfl rfl ?_
      refine z_iconst (v := 0) (pc' := 239) dX6_unlink_238 (by decide) rfl ?_
      obtain ⟨S2, hc3, hF⟩ := z_boe hF
      refine k_X6_resize (F := 7) (L := 174) (pc' := 242) hc3 hst zw_133 rfl rfl (by decide) (by decide) (by decide) dX6_unlink_239 rfl ?_
      refine z_aload_n (pc' := 243) dX6_unlink_242 rfl rfl rfl ?_
      refine z_iload_n (pc' := 244) dX6_unlink_243 rfl rfl rfl ?_
      refine z_iconst (v := 2) (pc' := 245) dX6_unlink_244 (by decide) rfl ?_
      refine z_iconst (v := 2) (pc' := 246) dX6_unlink_245 (by decide) rfl ?_
      refine z_iload (pc' := 248) dX6_unlink_246 rfl rfl ?_
      refine z_imul (pc' := 249) dX6_unlink_248 rfl ?_
      refine z_iconst (v := 0) (pc' := 250) dX6_unlink_249 (by decide) rfl ?_
      obtain ⟨S5, hc6, hF⟩ := z_boe hF
      refine k_X6_resize (F := 7) (L := 174) (pc' := 253) hc6 hst zw_133 rfl rfl (by decide) (by decide) (by decide) dX6_unlink_250 rfl ?_
      refine z_aload_n (pc' := 254) dX6_unlink_253 rfl rfl rfl ?_
      refine z_iload_n (pc' := 255) dX6_unlink_254 rfl rfl rfl ?_
      refine z_iconst (v := 0) (pc' := 256) dX6_unlink_255 (by decide) rfl ?_
      refine z_iconst (v := 0) (pc' := 257) dX6_unlink_256 (by decide) rfl ?_
      obtain ⟨S8, hc9, hF⟩ := z_boe hF
      refine k_X6_remove (F := 7) (L := 174) (pc' := 260) hc9 hst zw_128 rfl rfl (by decide) (by decide) (by decide) dX6_unlink_257 rfl ?_
      refine z_aload_n (pc' := 261) dX6_unlink_260 rfl rfl rfl ?_
      refine gf_X6_7 (b := 61) (pc' := 264) rfl is_6_60 rfl dX6_unlink_261 rfl ?_
      refine z_bipush (v := 96) (pc' := 266) dX6_unlink_264 (by decide) rfl ?_
      refine z_iload_n (pc' := 267) dX6_unlink_266 rfl rfl rfl ?_
      refine z_iadd (pc' := 268) dX6_unlink_267 rfl ?_
      refine z_iconst (v := 0) (pc' := 269) dX6_unlink_268 (by decide) rfl ?_
      obtain ⟨g10, hF⟩ := z_gde hF
      refine z_iastore (pc' := 270) (ar_6_f3 is_6_60) (z_inbe g10) dX6_unlink_269 rfl (fun S11 eS11 => ?_)
      replace hF := z_lte hF S11 eS11
      refine z_aload_n (pc' := 271) dX6_unlink_270 rfl rfl rfl ?_
      refine gf_X6_7 (b := 61) (pc' := 274) rfl is_6_60 rfl dX6_unlink_271 rfl ?_
      refine z_sipush (v := 279) (pc' := 277) dX6_unlink_274 (by decide) rfl ?_
      refine z_iload_n (pc' := 278) dX6_unlink_277 rfl rfl rfl ?_
      refine z_iadd (pc' := 279) dX6_unlink_278 rfl ?_
      refine z_iconst (v := 0) (pc' := 280) dX6_unlink_279 (by decide) rfl ?_
      obtain ⟨g12, hF⟩ := z_gde hF
      refine z_iastore (pc' := 281) (ar_6_f3 is_6_60) (z_inbe g12) dX6_unlink_280 rfl (fun S13 eS13 => ?_)
      replace hF := z_lte hF S13 eS13
      refine z_aload_n (pc' := 282) dX6_unlink_281 rfl rfl rfl ?_
      refine gf_X6_7 (b := 61) (pc' := 285) rfl is_6_60 rfl dX6_unlink_282 rfl ?_
      refine z_sipush (v := 218) (pc' := 288) dX6_unlink_285 (by decide) rfl ?_
      refine z_iload_n (pc' := 289) dX6_unlink_288 rfl rfl rfl ?_
      refine z_iadd (pc' := 290) dX6_unlink_289 rfl ?_
      refine z_iconst (v := 0) (pc' := 291) dX6_unlink_290 (by decide) rfl ?_
      obtain ⟨g14, hF⟩ := z_gde hF
      refine z_iastore (pc' := 292) (ar_6_f3 is_6_60) (z_inbe g14) dX6_unlink_291 rfl (fun S15 eS15 => ?_)
      replace hF := z_lte hF S15 eS15
      refine z_iconst (v := 0) (pc' := 293) dX6_unlink_292 (by decide) rfl ?_
      exact z_ireturn rfl dX6_unlink_293 (Option.some.inj hF).symm
    · rw [if_neg c21] at hF
      refine z_aload_n (pc' := 208) dX6_unlink_207 rfl rfl rfl ?_
      refine z_aload_n (pc' := 209) dX6_unlink_208 rfl rfl rfl ?_
      refine gf_X6_7 (b := 61) (pc' := 212) rfl is_6_60 rfl dX6_unlink_209 rfl ?_
      refine z_sipush (v := 340) (pc' := 215) dX6_unlink_212 (by decide) rfl ?_
      refine z_bipush (v := 16) (pc' := 217) dX6_unlink_215 (by decide) rfl ?_
      refine z_iload_n (pc' := 218) dX6_unlink_217 rfl rfl rfl ?_
      refine z_imul (pc' := 219) dX6_unlink_218 rfl ?_
      refine z_iadd (pc' := 220) dX6_unlink_219 rfl ?_
      refine z_iload (pc' := 222) dX6_unlink_220 rfl rfl ?_
      refine z_iadd (pc' := 223) dX6_unlink_222 rfl ?_
      obtain ⟨g16, hF⟩ := z_gde hF
      refine z_iaload (pc' := 224) (ar_6_f3 is_6_60) (z_inbe g16) dX6_unlink_223 rfl ?_
      refine z_topi (fun x17 ex17 => ?_)
      replace hF := z_lte hF x17 ex17
      obtain ⟨S19, hc20, hF⟩ := z_boe hF
      refine k_X6_free (F := 7) (L := 174) (pc' := 227) hc20 hst zw_114 rfl rfl (by decide) (by decide) (by decide) dX6_unlink_224 rfl ?_
      refine z_iinc (v := v6 + (-1)) (pc' := 230) dX6_unlink_227 rfl rfl (by decide) rfl rfl ?_
      refine z_goto (pc' := 202) dX6_unlink_230 (by decide) ?_
      refine z_wk (ls' := [some (.ref 60), none, none, some (.int v3), some (.int v4), some (.int v5), some (.int (v6 + (-1)))]) (z_lec rfl (z_len1 (z_len1 (z_lec rfl (z_lec rfl (z_lec rfl (z_lec rfl z_le0))))))) ?_
      exact ih _ _ _ _ _ hF
def F_X6_unlink_182 (B : Nat)  (v3 : Int32) (s0 : Int32) (S : z_S) : Option (z_O × z_S) :=
  z_gd (z_inb (279 + v3) 25366) (
  z_lt (S.1 61 (z_ix (279 + v3))) fun x2 =>
  (F_X6_unlink_202 B z_n v3 s0 x2 (x2 - 1) S))
set_option maxRecDepth 20000 in
set_option maxHeartbeats 16000000 in
theorem ok_X6_unlink_182 {l : Launch} {B : Nat} {q : z_O × z_S} (hst : l.stackTraces = false) : ∀ (v3 : Int32) (s0 : Int32) (S : z_S), F_X6_unlink_182 B v3 s0 S = some q → z_W l I_X6_unlink (R_X6_unlink q) B q 182 [some (.ref 60), none, none, some (.int v3), none, none, none] [.int s0] S := by
  intro v3 s0 S hF
  unfold F_X6_unlink_182 at hF
  refine z_istore (pc' := 184) dX6_unlink_182 (by decide) rfl rfl ?_
  refine z_aload_n (pc' := 185) dX6_unlink_184 rfl rfl rfl ?_
  refine gf_X6_7 (b := 61) (pc' := 188) rfl is_6_60 rfl dX6_unlink_185 rfl ?_
  refine z_sipush (v := 279) (pc' := 191) dX6_unlink_188 (by decide) rfl ?_
  refine z_iload_n (pc' := 192) dX6_unlink_191 rfl rfl rfl ?_
  refine z_iadd (pc' := 193) dX6_unlink_192 rfl ?_
  obtain ⟨g1, hF⟩ := z_gde hF
  refine z_iaload (pc' := 194) (ar_6_f3 is_6_60) (z_inbe g1) dX6_unlink_193 rfl ?_
  refine z_topi (fun x2 ex2 => ?_)
  replace hF := z_lte hF x2 ex2
  refine z_istore (pc' := 196) dX6_unlink_194 (by decide) rfl rfl ?_
  refine z_iload (pc' := 198) dX6_unlink_196 rfl rfl ?_
  refine z_iconst (v := 1) (pc' := 199) dX6_unlink_198 (by decide) rfl ?_
  refine z_isub (pc' := 200) dX6_unlink_199 rfl ?_
  refine z_istore (pc' := 202) dX6_unlink_200 (by decide) rfl rfl ?_
  refine z_wk (ls' := [some (.ref 60), none, none, some (.int v3), some (.int s0), some (.int x2), some (.int (x2 - 1))]) (z_lec rfl (z_len1 (z_len1 (z_lec rfl (z_lec rfl (z_lec rfl (z_lec rfl z_le0))))))) ?_
  exact (ok_X6_unlink_202 hst z_n) _ _ _ _ _ hF
def F_X6_unlink_77 (B : Nat)  (v1 : Int32) (v2 : Int32) (v3 : Int32) (s0 : Int32) (S : z_S) : Option (z_O × z_S) :=
  z_lt (z_ui S 60 0 s0) fun S1 =>
  (if (S1.2.1 60 0) ≤ 0 then
    z_bo (F_X6_begin B S1) fun S3 =>
    (z_bo (F_X6_remove B v1 1 v2 S3) fun S6 =>
    (z_gd (z_inb (218 + v1) 25366) (
    z_lt (S6.1 61 (z_ix (218 + v1))) fun x9 =>
    (z_gd (z_inb (218 + v1) 25366) (
    z_lt (z_ua S6 61 (upd (S6.1 61) (z_ix (218 + v1)) (x9 - 1))) fun S11 =>
    (z_gd (z_inb (157 + v3) 25366) (
    z_lt (S11.1 61 (z_ix (157 + v3))) fun x13 =>
    (z_gd (z_inb (157 + v3) 25366) (
    z_lt (z_ua S11 61 (upd (S11.1 61) (z_ix (157 + v3)) (x13 - 1))) fun S15 =>
    (z_gd (z_inb (157 + v3) 25366) (
    z_lt (S15.1 61 (z_ix (157 + v3))) fun x17 =>
    (if x17 ≤ 0 then
      z_gd (z_inb (96 + v3) 25366) (
      z_lt (S15.1 61 (z_ix (96 + v3))) fun x19 =>
      (if x19 = 2 then
        z_gd (z_inb (218 + v3) 25366) (
        z_lt (S15.1 61 (z_ix (218 + v3))) fun x21 =>
        (z_bn (F_X6_tailOf B x21 S15) fun r22 S23 =>
        (F_X6_unlink_182 B v3 r22 S23)))
      else
        F_X6_unlink_182 B v3 0 S15))
    else
      z_gd (z_inb (157 + v3) 25366) (
      z_lt (S15.1 61 (z_ix (157 + v3))) fun x27 =>
      (some (.inl (some x27), S15)))))))))))))))
  else
    some (.inl (some 0), S1))
set_option maxRecDepth 20000 in
set_option maxHeartbeats 16000000 in
theorem ok_X6_unlink_77 {l : Launch} {B : Nat} {q : z_O × z_S} (hst : l.stackTraces = false) : ∀ (v1 : Int32) (v2 : Int32) (v3 : Int32) (s0 : Int32) (S : z_S), F_X6_unlink_77 B v1 v2 v3 s0 S = some q → z_W l I_X6_unlink (R_X6_unlink q) B q 77 [some (.ref 60), some (.int v1), some (.int v2), some (.int v3), none, none, none] [.int s0, .ref 60] S := by
  intro v1 v2 v3 s0 S hF
  unfold F_X6_unlink_77 at hF
  refine pf_X6_40 (pc' := 80) rfl is_6_60 dX6_unlink_77 rfl (fun S1 eS1 => ?_)
  replace hF := z_lte hF S1 eS1
  refine z_aload_n (pc' := 81) dX6_unlink_80 rfl rfl rfl ?_
  refine gf_X6_40 (pc' := 84) rfl is_6_60 dX6_unlink_81 rfl ?_
  refine z_if_le (tgt := 89) (pc' := 87) dX6_unlink_84 (by decide) rfl (fun c29 => ?_) (fun c29 => ?_)
  · rw [if_pos c29] at hF
    refine z_aload_n (pc' := 90) dX6_unlink_89 rfl rfl rfl ?_
    obtain ⟨S3, hc4, hF⟩ := z_boe hF
    refine k_X6_begin (F := 7) (L := 174) (pc' := 93) hc4 hst zw_139 rfl rfl (by decide) (by decide) (by decide) dX6_unlink_90 rfl ?_
    refine z_aload_n (pc' := 94) dX6_unlink_93 rfl rfl rfl ?_
    refine z_iload_n (pc' := 95) dX6_unlink_94 rfl rfl rfl ?_
    refine z_iconst (v := 1) (pc' := 96) dX6_unlink_95 (by decide) rfl ?_
    refine z_iload_n (pc' := 97) dX6_unlink_96 rfl rfl rfl ?_
    obtain ⟨S6, hc7, hF⟩ := z_boe hF
    refine k_X6_remove (F := 7) (L := 174) (pc' := 100) hc7 hst zw_128 rfl rfl (by decide) (by decide) (by decide) dX6_unlink_97 rfl ?_
    refine z_aload_n (pc' := 101) dX6_unlink_100 rfl rfl rfl ?_
    refine gf_X6_7 (b := 61) (pc' := 104) rfl is_6_60 rfl dX6_unlink_101 rfl ?_
    refine z_sipush (v := 218) (pc' := 107) dX6_unlink_104 (by decide) rfl ?_
    refine z_iload_n (pc' := 108) dX6_unlink_107 rfl rfl rfl ?_
    refine z_iadd (pc' := 109) dX6_unlink_108 rfl ?_
    refine z_dup2 (pc' := 110) dX6_unlink_109 rfl ?_
    obtain ⟨g8, hF⟩ := z_gde hF
    refine z_iaload (pc' := 111) (ar_6_f3 is_6_60) (z_inbe g8) dX6_unlink_110 rfl ?_
    refine z_topi (fun x9 ex9 => ?_)
    replace hF := z_lte hF x9 ex9
    refine z_iconst (v := 1) (pc' := 112) dX6_unlink_111 (by decide) rfl ?_
    refine z_isub (pc' := 113) dX6_unlink_112 rfl ?_
    obtain ⟨g10, hF⟩ := z_gde hF
    refine z_iastore (pc' := 114) (ar_6_f3 is_6_60) (z_inbe g10) dX6_unlink_113 rfl (fun S11 eS11 => ?_)
    replace hF := z_lte hF S11 eS11
    refine z_aload_n (pc' := 115) dX6_unlink_114 rfl rfl rfl ?_
    refine gf_X6_7 (b := 61) (pc' := 118) rfl is_6_60 rfl dX6_unlink_115 rfl ?_
    refine z_sipush (v := 157) (pc' := 121) dX6_unlink_118 (by decide) rfl ?_
    refine z_iload_n (pc' := 122) dX6_unlink_121 rfl rfl rfl ?_
    refine z_iadd (pc' := 123) dX6_unlink_122 rfl ?_
    refine z_dup2 (pc' := 124) dX6_unlink_123 rfl ?_
    obtain ⟨g12, hF⟩ := z_gde hF
    refine z_iaload (pc' := 125) (ar_6_f3 is_6_60) (z_inbe g12) dX6_unlink_124 rfl ?_
    refine z_topi (fun x13 ex13 => ?_)
    replace hF := z_lte hF x13 ex13
    refine z_iconst (v := 1) (pc' := 126) dX6_unlink_125 (by decide) rfl ?_
    refine z_isub (pc' := 127) dX6_unlink_126 rfl ?_
    obtain ⟨g14, hF⟩ := z_gde hF
    refine z_iastore (pc' := 128) (ar_6_f3 is_6_60) (z_inbe g14) dX6_unlink_127 rfl (fun S15 eS15 => ?_)
    replace hF := z_lte hF S15 eS15
    refine z_aload_n (pc' := 129) dX6_unlink_128 rfl rfl rfl ?_
    refine gf_X6_7 (b := 61) (pc' := 132) rfl is_6_60 rfl dX6_unlink_129 rfl ?_
    refine z_sipush (v := 157) (pc' := 135) dX6_unlink_132 (by decide) rfl ?_
    refine z_iload_n (pc' := 136) dX6_unlink_135 rfl rfl rfl ?_
    refine z_iadd (pc' := 137) dX6_unlink_136 rfl ?_
    obtain ⟨g16, hF⟩ := z_gde hF
    refine z_iaload (pc' := 138) (ar_6_f3 is_6_60) (z_inbe g16) dX6_unlink_137 rfl ?_
    refine z_topi (fun x17 ex17 => ?_)
    replace hF := z_lte hF x17 ex17
    refine z_if_le (tgt := 152) (pc' := 141) dX6_unlink_138 (by decide) rfl (fun c28 => ?_) (fun c28 => ?_)
    · rw [if_pos c28] at hF
      refine z_aload_n (pc' := 153) dX6_unlink_152 rfl rfl rfl ?_
      refine gf_X6_7 (b := 61) (pc' := 156) rfl is_6_60 rfl dX6_unlink_153 rfl ?_
      refine z_bipush (v := 96) (pc' := 158) dX6_unlink_156 (by decide) rfl ?_
      refine z_iload_n (pc' := 159) dX6_unlink_158 rfl rfl rfl ?_
      refine z_iadd (pc' := 160) dX6_unlink_159 rfl ?_
      obtain ⟨g18, hF⟩ := z_gde hF
      refine z_iaload (pc' := 161) (ar_6_f3 is_6_60) (z_inbe g18) dX6_unlink_160 rfl ?_
      refine z_topi (fun x19 ex19 => ?_)
      replace hF := z_lte hF x19 ex19
      refine z_iconst (v := 2) (pc' := 162) dX6_unlink_161 (by decide) rfl ?_
      refine z_icmp_ne (tgt := 181) (pc' := 165) dX6_unlink_162 (by decide) rfl (fun c25 => ?_) (fun c25 => ?_)
      · rw [if_neg c25] at hF
        refine z_iconst (v := 0) (pc' := 182) dX6_unlink_181 (by decide) rfl ?_
        refine z_wk (ls' := [some (.ref 60), none, none, some (.int v3), none, none, none]) (z_lec rfl (z_len1 (z_len1 (z_lec rfl (z_len1 (z_len1 (z_len1 z_le0))))))) ?_
        exact (ok_X6_unlink_182 hst) _ _ _ hF
      · rw [if_pos c25] at hF
        refine z_aload_n (pc' := 166) dX6_unlink_165 rfl rfl rfl ?_
        refine gf_X6_7 (b := 61) (pc' := 169) rfl is_6_60 rfl dX6_unlink_166 rfl ?_
        refine z_sipush (v := 218) (pc' := 172) dX6_unlink_169 (by decide) rfl ?_
        refine z_iload_n (pc' := 173) dX6_unlink_172 rfl rfl rfl ?_
        refine z_iadd (pc' := 174) dX6_unlink_173 rfl ?_
        obtain ⟨g20, hF⟩ := z_gde hF
        refine z_iaload (pc' := 175) (ar_6_f3 is_6_60) (z_inbe g20) dX6_unlink_174 rfl ?_
        refine z_topi (fun x21 ex21 => ?_)
        replace hF := z_lte hF x21 ex21
        obtain ⟨r22, S23, hc24, hF⟩ := z_bne hF
        refine k_X6_tailOf (F := 7) (L := 174) (pc' := 178) hc24 hst zw_130 rfl rfl (by decide) (by decide) (by decide) dX6_unlink_175 rfl ?_
        refine z_goto (pc' := 182) dX6_unlink_178 (by decide) ?_
        refine z_wk (ls' := [some (.ref 60), none, none, some (.int v3), none, none, none]) (z_lec rfl (z_len1 (z_len1 (z_lec rfl (z_len1 (z_len1 (z_len1 z_le0))))))) ?_
        exact (ok_X6_unlink_182 hst) _ _ _ hF
    · rw [if_neg c28] at hF
      refine z_aload_n (pc' := 142) dX6_unlink_141 rfl rfl rfl ?_
      refine gf_X6_7 (b := 61) (pc' := 145) rfl is_6_60 rfl dX6_unlink_142 rfl ?_
      refine z_sipush (v := 157) (pc' := 148) dX6_unlink_145 (by decide) rfl ?_
      refine z_iload_n (pc' := 149) dX6_unlink_148 rfl rfl rfl ?_
      refine z_iadd (pc' := 150) dX6_unlink_149 rfl ?_
      obtain ⟨g26, hF⟩ := z_gde hF
      refine z_iaload (pc' := 151) (ar_6_f3 is_6_60) (z_inbe g26) dX6_unlink_150 rfl ?_
      refine z_topi (fun x27 ex27 => ?_)
      replace hF := z_lte hF x27 ex27
      exact z_ireturn rfl dX6_unlink_151 (Option.some.inj hF).symm
  · rw [if_neg c29] at hF
    refine z_iconst (v := 0) (pc' := 88) dX6_unlink_87 (by decide) rfl ?_
    exact z_ireturn rfl dX6_unlink_88 (Option.some.inj hF).symm
def F_X6_unlink_76 (B : Nat) (k77 : Int32 → Int32 → Int32 → Int32 → z_S → Option (z_O × z_S)) (v1 : Int32) (v2 : Int32) (v3 : Int32) (S : z_S) : Option (z_O × z_S) :=
  k77 v1 v2 v3 0 S
set_option maxRecDepth 20000 in
set_option maxHeartbeats 16000000 in
theorem ok_X6_unlink_76 {l : Launch} {B : Nat} {q : z_O × z_S} (hst : l.stackTraces = false) {k77 : Int32 → Int32 → Int32 → Int32 → z_S → Option (z_O × z_S)} (hk77 : ∀ (v1 : Int32) (v2 : Int32) (v3 : Int32) (s0 : Int32) (S : z_S), k77 v1 v2 v3 s0 S = some q → z_W l I_X6_unlink (R_X6_unlink q) B q 77 [some (.ref 60), some (.int v1), some (.int v2), some (.int v3), none, none, none] [.int s0, .ref 60] S) : ∀ (v1 : Int32) (v2 : Int32) (v3 : Int32) (S : z_S), F_X6_unlink_76 B k77 v1 v2 v3 S = some q → z_W l I_X6_unlink (R_X6_unlink q) B q 76 [some (.ref 60), some (.int v1), some (.int v2), some (.int v3), none, none, none] [.ref 60] S := by
  intro v1 v2 v3 S hF
  unfold F_X6_unlink_76 at hF
  refine z_iconst (v := 0) (pc' := 77) dX6_unlink_76 (by decide) rfl ?_
  refine z_wk (ls' := [some (.ref 60), some (.int v1), some (.int v2), some (.int v3), none, none, none]) (z_lec rfl (z_lec rfl (z_lec rfl (z_lec rfl (z_len1 (z_len1 (z_len1 z_le0))))))) ?_
  exact hk77 _ _ _ _ _ hF
def F_X6_unlink_25 (B : Nat)  (v1 : Int32) (v2 : Int32) (s0 : Int32) (S : z_S) : Option (z_O × z_S) :=
  if (S.2.1 60 10) = 0 then
    if 0 ≤ s0 then
      z_gd (z_inb (96 + s0) 25366) (
      z_lt (S.1 61 (z_ix (96 + s0))) fun x2 =>
      (if x2 = 1 then
        z_gd (z_inb (218 + s0) 25366) (
        z_lt (S.1 61 (z_ix (218 + s0))) fun x4 =>
        (if x4 ≤ 0 then
          F_X6_unlink_76 B (F_X6_unlink_77 B ) v1 v2 s0 S
        else
          F_X6_unlink_77 B v1 v2 s0 3 S))
      else
        F_X6_unlink_76 B (F_X6_unlink_77 B ) v1 v2 s0 S))
    else
      F_X6_unlink_77 B v1 v2 s0 2 S
  else
    F_X6_unlink_77 B v1 v2 s0 1 S
set_option maxRecDepth 20000 in
set_option maxHeartbeats 16000000 in
theorem ok_X6_unlink_25 {l : Launch} {B : Nat} {q : z_O × z_S} (hst : l.stackTraces = false) : ∀ (v1 : Int32) (v2 : Int32) (s0 : Int32) (S : z_S), F_X6_unlink_25 B v1 v2 s0 S = some q → z_W l I_X6_unlink (R_X6_unlink q) B q 25 [some (.ref 60), some (.int v1), some (.int v2), none, none, none, none] [.int s0] S := by
  intro v1 v2 s0 S hF
  unfold F_X6_unlink_25 at hF
  refine z_istore_n (pc' := 26) dX6_unlink_25 rfl (by decide) rfl rfl ?_
  refine z_aload_n (pc' := 27) dX6_unlink_26 rfl rfl rfl ?_
  refine z_aload_n (pc' := 28) dX6_unlink_27 rfl rfl rfl ?_
  refine gf_X6_149 (pc' := 31) rfl is_6_60 dX6_unlink_28 rfl ?_
  refine z_if_eq (tgt := 38) (pc' := 34) dX6_unlink_31 (by decide) rfl (fun c8 => ?_) (fun c8 => ?_)
  · rw [if_pos c8] at hF
    refine z_iload_n (pc' := 39) dX6_unlink_38 rfl rfl rfl ?_
    refine z_if_ge (tgt := 46) (pc' := 42) dX6_unlink_39 (by decide) rfl (fun c7 => ?_) (fun c7 => ?_)
    · rw [if_pos c7] at hF
      refine z_aload_n (pc' := 47) dX6_unlink_46 rfl rfl rfl ?_
      refine gf_X6_7 (b := 61) (pc' := 50) rfl is_6_60 rfl dX6_unlink_47 rfl ?_
      refine z_bipush (v := 96) (pc' := 52) dX6_unlink_50 (by decide) rfl ?_
      refine z_iload_n (pc' := 53) dX6_unlink_52 rfl rfl rfl ?_
      refine z_iadd (pc' := 54) dX6_unlink_53 rfl ?_
      obtain ⟨g1, hF⟩ := z_gde hF
      refine z_iaload (pc' := 55) (ar_6_f3 is_6_60) (z_inbe g1) dX6_unlink_54 rfl ?_
      refine z_topi (fun x2 ex2 => ?_)
      replace hF := z_lte hF x2 ex2
      refine z_iconst (v := 1) (pc' := 56) dX6_unlink_55 (by decide) rfl ?_
      refine z_icmp_ne (tgt := 76) (pc' := 59) dX6_unlink_56 (by decide) rfl (fun c6 => ?_) (fun c6 => ?_)
      · rw [if_neg c6] at hF
        refine z_wk (ls' := [some (.ref 60), some (.int v1), some (.int v2), some (.int s0), none, none, none]) (z_lec rfl (z_lec rfl (z_lec rfl (z_lec rfl (z_len1 (z_len1 (z_len1 z_le0))))))) ?_
        exact (ok_X6_unlink_76 hst (ok_X6_unlink_77 hst)) _ _ _ _ hF
      · rw [if_pos c6] at hF
        refine z_aload_n (pc' := 60) dX6_unlink_59 rfl rfl rfl ?_
        refine gf_X6_7 (b := 61) (pc' := 63) rfl is_6_60 rfl dX6_unlink_60 rfl ?_
        refine z_sipush (v := 218) (pc' := 66) dX6_unlink_63 (by decide) rfl ?_
        refine z_iload_n (pc' := 67) dX6_unlink_66 rfl rfl rfl ?_
        refine z_iadd (pc' := 68) dX6_unlink_67 rfl ?_
        obtain ⟨g3, hF⟩ := z_gde hF
        refine z_iaload (pc' := 69) (ar_6_f3 is_6_60) (z_inbe g3) dX6_unlink_68 rfl ?_
        refine z_topi (fun x4 ex4 => ?_)
        replace hF := z_lte hF x4 ex4
        refine z_if_le (tgt := 76) (pc' := 72) dX6_unlink_69 (by decide) rfl (fun c5 => ?_) (fun c5 => ?_)
        · rw [if_pos c5] at hF
          refine z_wk (ls' := [some (.ref 60), some (.int v1), some (.int v2), some (.int s0), none, none, none]) (z_lec rfl (z_lec rfl (z_lec rfl (z_lec rfl (z_len1 (z_len1 (z_len1 z_le0))))))) ?_
          exact (ok_X6_unlink_76 hst (ok_X6_unlink_77 hst)) _ _ _ _ hF
        · rw [if_neg c5] at hF
          refine z_iconst (v := 3) (pc' := 73) dX6_unlink_72 (by decide) rfl ?_
          refine z_goto (pc' := 77) dX6_unlink_73 (by decide) ?_
          refine z_wk (ls' := [some (.ref 60), some (.int v1), some (.int v2), some (.int s0), none, none, none]) (z_lec rfl (z_lec rfl (z_lec rfl (z_lec rfl (z_len1 (z_len1 (z_len1 z_le0))))))) ?_
          exact (ok_X6_unlink_77 hst) _ _ _ _ _ hF
    · rw [if_neg c7] at hF
      refine z_iconst (v := 2) (pc' := 43) dX6_unlink_42 (by decide) rfl ?_
      refine z_goto (pc' := 77) dX6_unlink_43 (by decide) ?_
      refine z_wk (ls' := [some (.ref 60), some (.int v1), some (.int v2), some (.int s0), none, none, none]) (z_lec rfl (z_lec rfl (z_lec rfl (z_lec rfl (z_len1 (z_len1 (z_len1 z_le0))))))) ?_
      exact (ok_X6_unlink_77 hst) _ _ _ _ _ hF
  · rw [if_neg c8] at hF
    refine z_iconst (v := 1) (pc' := 35) dX6_unlink_34 (by decide) rfl ?_
    refine z_goto (pc' := 77) dX6_unlink_35 (by decide) ?_
    refine z_wk (ls' := [some (.ref 60), some (.int v1), some (.int v2), some (.int s0), none, none, none]) (z_lec rfl (z_lec rfl (z_lec rfl (z_lec rfl (z_len1 (z_len1 (z_len1 z_le0))))))) ?_
    exact (ok_X6_unlink_77 hst) _ _ _ _ _ hF
def F_X6_unlink_15 (B : Nat) (k25 : Int32 → Int32 → Int32 → z_S → Option (z_O × z_S)) (v1 : Int32) (v2 : Int32) (S : z_S) : Option (z_O × z_S) :=
  k25 v1 v2 (-1) S
set_option maxRecDepth 20000 in
set_option maxHeartbeats 16000000 in
theorem ok_X6_unlink_15 {l : Launch} {B : Nat} {q : z_O × z_S} (hst : l.stackTraces = false) {k25 : Int32 → Int32 → Int32 → z_S → Option (z_O × z_S)} (hk25 : ∀ (v1 : Int32) (v2 : Int32) (s0 : Int32) (S : z_S), k25 v1 v2 s0 S = some q → z_W l I_X6_unlink (R_X6_unlink q) B q 25 [some (.ref 60), some (.int v1), some (.int v2), none, none, none, none] [.int s0] S) : ∀ (v1 : Int32) (v2 : Int32) (S : z_S), F_X6_unlink_15 B k25 v1 v2 S = some q → z_W l I_X6_unlink (R_X6_unlink q) B q 15 [some (.ref 60), some (.int v1), some (.int v2), none, none, none, none] [] S := by
  intro v1 v2 S hF
  unfold F_X6_unlink_15 at hF
  refine z_iconst (v := (-1)) (pc' := 16) dX6_unlink_15 (by decide) rfl ?_
  refine z_goto (pc' := 25) dX6_unlink_16 (by decide) ?_
  refine z_wk (ls' := [some (.ref 60), some (.int v1), some (.int v2), none, none, none, none]) (z_lec rfl (z_lec rfl (z_lec rfl (z_len1 (z_len1 (z_len1 (z_len1 z_le0))))))) ?_
  exact hk25 _ _ _ _ hF
def F_X6_unlink (B : Nat) (p1 : Int32) (p2 : Int32) (S : z_S) : Option (z_O × z_S) :=
  if (S.2.1 60 10) = 0 then
    z_bn (F_X6_isDirectory B p1 S) fun r1 S2 =>
    (if r1 = 0 then
      F_X6_unlink_15 B (F_X6_unlink_25 B ) p1 p2 S2
    else
      z_bn (F_X6_entry B p1 p2 S2) fun r4 S5 =>
      (F_X6_unlink_25 B p1 p2 r4 S5))
  else
    F_X6_unlink_15 B (F_X6_unlink_25 B ) p1 p2 S
set_option maxRecDepth 20000 in
set_option maxHeartbeats 16000000 in
theorem c_X6_unlink {l : Launch} {B : Nat} {p1 : Int32} {p2 : Int32} {S : z_S} {q : z_O × z_S} (hst : l.stackTraces = false) (hF : F_X6_unlink B p1 p2 S = some q) : z_Met l I_X6_unlink 7 174 B [.ref 60, .int p1, .int p2] S q.1 q.2 := by
  refine z_enter (ls := [some (.ref 60), some (.int p1), some (.int p2), none, none, none, none]) (n := 4) (by decide) rfl (Nat.le_of_ble_eq_true rfl) hst ?_
  unfold F_X6_unlink at hF
  refine z_aload_n (pc' := 1) dX6_unlink_0 rfl rfl rfl ?_
  refine gf_X6_149 (pc' := 4) rfl is_6_60 dX6_unlink_1 rfl ?_
  refine z_if_ne (tgt := 15) (pc' := 7) dX6_unlink_4 (by decide) rfl (fun c8 => ?_) (fun c8 => ?_)
  · rw [if_neg c8] at hF
    refine z_wk (ls' := [some (.ref 60), some (.int p1), some (.int p2), none, none, none, none]) (z_lec rfl (z_lec rfl (z_lec rfl (z_len1 (z_len1 (z_len1 (z_len1 z_le0))))))) ?_
    exact (ok_X6_unlink_15 hst (ok_X6_unlink_25 hst)) _ _ _ hF
  · rw [if_pos c8] at hF
    refine z_aload_n (pc' := 8) dX6_unlink_7 rfl rfl rfl ?_
    refine z_iload_n (pc' := 9) dX6_unlink_8 rfl rfl rfl ?_
    obtain ⟨r1, S2, hc3, hF⟩ := z_bne hF
    refine k_X6_isDirectory (F := 7) (L := 174) (pc' := 12) hc3 hst zw_135 rfl rfl (by decide) (by decide) (by decide) dX6_unlink_9 rfl ?_
    refine z_if_ne (tgt := 19) (pc' := 15) dX6_unlink_12 (by decide) rfl (fun c7 => ?_) (fun c7 => ?_)
    · rw [if_neg c7] at hF
      refine z_aload_n (pc' := 20) dX6_unlink_19 rfl rfl rfl ?_
      refine z_iload_n (pc' := 21) dX6_unlink_20 rfl rfl rfl ?_
      refine z_iload_n (pc' := 22) dX6_unlink_21 rfl rfl rfl ?_
      obtain ⟨r4, S5, hc6, hF⟩ := z_bne hF
      refine k_X6_entry (F := 7) (L := 174) (pc' := 25) hc6 hst zw_137 rfl rfl (by decide) (by decide) (by decide) dX6_unlink_22 rfl ?_
      refine z_wk (ls' := [some (.ref 60), some (.int p1), some (.int p2), none, none, none, none]) (z_lec rfl (z_lec rfl (z_lec rfl (z_len1 (z_len1 (z_len1 (z_len1 z_le0))))))) ?_
      exact (ok_X6_unlink_25 hst) _ _ _ _ hF
    · rw [if_pos c7] at hF
      refine z_wk (ls' := [some (.ref 60), some (.int p1), some (.int p2), none, none, none, none]) (z_lec rfl (z_lec rfl (z_lec rfl (z_len1 (z_len1 (z_len1 (z_len1 z_le0))))))) ?_
      exact (ok_X6_unlink_15 hst (ok_X6_unlink_25 hst)) _ _ _ hF
theorem ok_X6_unlink : z_okV I_X6_unlink 2 := ⟨⟨z_Gin (List.mem_of_getElem? (i := 1090) (by decide +kernel)) rfl, z_Gin (List.mem_of_getElem? (i := 1091) (by decide +kernel)) rfl, z_Gin (List.mem_of_getElem? (i := 98) (by decide +kernel)) rfl, z_Gin (List.mem_of_getElem? (i := 1092) (by decide +kernel)) rfl⟩, by decide, by decide, by decide +kernel⟩
theorem k_X6_unlink {l : Launch} {I : z_I} {R : Room} {B : Nat} {p1 : Int32} {p2 : Int32} {q : z_O × z_S} {pc pc' : Nat} {ls : List (Option Value)} {st : List Value} {S S1 : z_S} {idx F L : Nat} {r : Int32}  (hF : F_X6_unlink B p1 p2 S = some (.inl (some r), S1)) (hst : l.stackTraces = false) (w : Cond.methodLink I.1.cls idx yX6_unlink ∈ z_G) (hRF : R.frames = F) (hRL : R.locals = L) (h1 : 8 ≤ F) (h2 : 200 ≤ L) (hs : (st.map fun v => v.category).sum ≤ 8) (d : decode I.2.1 pc = .ok (.invokevirtual idx, 3)) (hp : pc + 3 = pc') (k : z_W l I R B q pc' ls (.int r :: st) S1) : z_W l I R B q pc ls (.int p2 :: .int p1 :: .ref 60 :: st) S := z_callV (Y := I_X6_unlink) (As := [.int p1, .int p2]) (st := st) (r := (some r)) (S1 := S1) (c_X6_unlink (q := (.inl (some r), S1)) hst hF) ok_X6_unlink w (ci := 6) rfl is_6_60.1 is_6_60.2 rfl ⟨by rw [hRF]; exact h1, by rw [hRL]; exact h2⟩ hs d hp rfl k

abbrev I_X6_above : z_I := (yX6_above, cX6_above, 5, some .int)
abbrev R_X6_above (q : z_O × z_S) : Room := { frames := 0, locals := 0, cells := z_mc q.1, slots := 6 * z_mc q.1 }
def F_X6_above_100 (B : Nat) (k28 : Int32 → Int32 → Int32 → Int32 → z_S → Option (z_O × z_S)) (v1 : Int32) (v2 : Int32) (v3 : Int32) (v4 : Int32) (S : z_S) : Option (z_O × z_S) :=
  k28 v1 v2 v3 (v4 + 1) S
set_option maxRecDepth 20000 in
set_option maxHeartbeats 16000000 in
theorem ok_X6_above_100 {l : Launch} {B : Nat} {q : z_O × z_S} (hst : l.stackTraces = false) {k28 : Int32 → Int32 → Int32 → Int32 → z_S → Option (z_O × z_S)} (hk28 : ∀ (v1 : Int32) (v2 : Int32) (v3 : Int32) (v4 : Int32) (S : z_S), k28 v1 v2 v3 v4 S = some q → z_W l I_X6_above (R_X6_above q) B q 28 [some (.ref 60), some (.int v1), some (.int v2), some (.int v3), some (.int v4)] [] S) : ∀ (v1 : Int32) (v2 : Int32) (v3 : Int32) (v4 : Int32) (S : z_S), F_X6_above_100 B k28 v1 v2 v3 v4 S = some q → z_W l I_X6_above (R_X6_above q) B q 100 [some (.ref 60), some (.int v1), some (.int v2), some (.int v3), some (.int v4)] [] S := by
  intro v1 v2 v3 v4 S hF
  unfold F_X6_above_100 at hF
  refine z_iinc (v := v4 + 1) (pc' := 103) dX6_above_100 rfl rfl (by decide) rfl rfl ?_
  refine z_goto (pc' := 28) dX6_above_103 (by decide) ?_
  refine z_wk (ls' := [some (.ref 60), some (.int v1), some (.int v2), some (.int v3), some (.int (v4 + 1))]) (z_lec rfl (z_lec rfl (z_lec rfl (z_lec rfl (z_lec rfl z_le0))))) ?_
  exact hk28 _ _ _ _ _ hF
def F_X6_above_28 (B : Nat) (k2 : Int32 → Int32 → z_S → Option (z_O × z_S)) : Nat → Int32 → Int32 → Int32 → Int32 → z_S → Option (z_O × z_S)
  | 0, _, _, _, _, _ => none
  | n + 1, v1, v2, v3, v4, S => z_gd (z_inb (3852 + v3) 25366) (
  z_lt (S.1 61 (z_ix (3852 + v3))) fun x2 =>
  (if x2 ≤ v4 then
    k2 v1 (v2 + 1) S
  else
    z_gd (z_inb ((6156 + (16 * v3)) + v4) 25366) (
    z_lt (S.1 61 (z_ix ((6156 + (16 * v3)) + v4))) fun x4 =>
    (if x4 = 1 then
      z_gd (z_inb ((10764 + (16 * v3)) + v4) 25366) (
      z_lt (S.1 61 (z_ix ((10764 + (16 * v3)) + v4))) fun x6 =>
      (if x6 = v1 then
        z_gd (z_inb ((4620 + (16 * v3)) + v4) 25366) (
        z_lt (S.1 61 (z_ix ((4620 + (16 * v3)) + v4))) fun x8 =>
        (some (.inl (some x8), S)))
      else
        F_X6_above_100 B (F_X6_above_28 B k2 n) v1 v2 v3 v4 S))
    else
      F_X6_above_100 B (F_X6_above_28 B k2 n) v1 v2 v3 v4 S))))
set_option maxRecDepth 20000 in
set_option maxHeartbeats 16000000 in
theorem ok_X6_above_28 {l : Launch} {B : Nat} {q : z_O × z_S} (hst : l.stackTraces = false) {k2 : Int32 → Int32 → z_S → Option (z_O × z_S)} (hk2 : ∀ (v1 : Int32) (v2 : Int32) (S : z_S), k2 v1 v2 S = some q → z_W l I_X6_above (R_X6_above q) B q 2 [some (.ref 60), some (.int v1), some (.int v2), none, none] [] S) : ∀ (n : Nat) (v1 : Int32) (v2 : Int32) (v3 : Int32) (v4 : Int32) (S : z_S), F_X6_above_28 B k2 n v1 v2 v3 v4 S = some q → z_W l I_X6_above (R_X6_above q) B q 28 [some (.ref 60), some (.int v1), some (.int v2), some (.int v3), some (.int v4)] [] S := by
  intro n
  induction n with
  | zero => intro v1 v2 v3 v4 S hF; cases hF
  | succ n ih =>
    intro v1 v2 v3 v4 S hF
    rw [F_X6_above_28] at hF
    refine z_iload (pc' := 30) dX6_above_28 rfl rfl ?_
    refine z_aload_n (pc' := 31) dX6_above_30 rfl rfl rfl ?_
    refine gf_X6_7 (b := 61) (pc' := 34) rfl is_6_60 rfl dX6_above_31 rfl ?_
    refine z_sipush (v := 3852) (pc' := 37) dX6_above_34 (by decide) rfl ?_
    refine z_iload_n (pc' := 38) dX6_above_37 rfl rfl rfl ?_
    refine z_iadd (pc' := 39) dX6_above_38 rfl ?_
    obtain ⟨g1, hF⟩ := z_gde hF
    refine z_iaload (pc' := 40) (ar_6_f3 is_6_60) (z_inbe g1) dX6_above_39 rfl ?_
    refine z_topi (fun x2 ex2 => ?_)
    replace hF := z_lte hF x2 ex2
    refine z_icmp_ge (tgt := 106) (pc' := 43) dX6_above_40 (by decide) rfl (fun c11 => ?_) (fun c11 => ?_)
    · rw [if_pos c11] at hF
      refine z_iinc (v := v2 + 1) (pc' := 109) dX6_above_106 rfl rfl (by decide) rfl rfl ?_
      refine z_goto (pc' := 2) dX6_above_109 (by decide) ?_
      refine z_wk (ls' := [some (.ref 60), some (.int v1), some (.int (v2 + 1)), none, none]) (z_lec rfl (z_lec rfl (z_lec rfl (z_len1 (z_len1 z_le0))))) ?_
      exact hk2 _ _ _ hF
    · rw [if_neg c11] at hF
      refine z_aload_n (pc' := 44) dX6_above_43 rfl rfl rfl ?_
      refine gf_X6_7 (b := 61) (pc' := 47) rfl is_6_60 rfl dX6_above_44 rfl ?_
      refine z_sipush (v := 6156) (pc' := 50) dX6_above_47 (by decide) rfl ?_
      refine z_bipush (v := 16) (pc' := 52) dX6_above_50 (by decide) rfl ?_
      refine z_iload_n (pc' := 53) dX6_above_52 rfl rfl rfl ?_
      refine z_imul (pc' := 54) dX6_above_53 rfl ?_
      refine z_iadd (pc' := 55) dX6_above_54 rfl ?_
      refine z_iload (pc' := 57) dX6_above_55 rfl rfl ?_
      refine z_iadd (pc' := 58) dX6_above_57 rfl ?_
      obtain ⟨g3, hF⟩ := z_gde hF
      refine z_iaload (pc' := 59) (ar_6_f3 is_6_60) (z_inbe g3) dX6_above_58 rfl ?_
      refine z_topi (fun x4 ex4 => ?_)
      replace hF := z_lte hF x4 ex4
      refine z_iconst (v := 1) (pc' := 60) dX6_above_59 (by decide) rfl ?_
      refine z_icmp_ne (tgt := 100) (pc' := 63) dX6_above_60 (by decide) rfl (fun c10 => ?_) (fun c10 => ?_)
      · rw [if_neg c10] at hF
        refine z_wk (ls' := [some (.ref 60), some (.int v1), some (.int v2), some (.int v3), some (.int v4)]) (z_lec rfl (z_lec rfl (z_lec rfl (z_lec rfl (z_lec rfl z_le0))))) ?_
        exact (ok_X6_above_100 hst ih) _ _ _ _ _ hF
      · rw [if_pos c10] at hF
        refine z_aload_n (pc' := 64) dX6_above_63 rfl rfl rfl ?_
        refine gf_X6_7 (b := 61) (pc' := 67) rfl is_6_60 rfl dX6_above_64 rfl ?_
        refine z_sipush (v := 10764) (pc' := 70) dX6_above_67 (by decide) rfl ?_
        refine z_bipush (v := 16) (pc' := 72) dX6_above_70 (by decide) rfl ?_
        refine z_iload_n (pc' := 73) dX6_above_72 rfl rfl rfl ?_
        refine z_imul (pc' := 74) dX6_above_73 rfl ?_
        refine z_iadd (pc' := 75) dX6_above_74 rfl ?_
        refine z_iload (pc' := 77) dX6_above_75 rfl rfl ?_
        refine z_iadd (pc' := 78) dX6_above_77 rfl ?_
        obtain ⟨g5, hF⟩ := z_gde hF
        refine z_iaload (pc' := 79) (ar_6_f3 is_6_60) (z_inbe g5) dX6_above_78 rfl ?_
        refine z_topi (fun x6 ex6 => ?_)
        replace hF := z_lte hF x6 ex6
        refine z_iload_n (pc' := 80) dX6_above_79 rfl rfl rfl ?_
        refine z_icmp_ne (tgt := 100) (pc' := 83) dX6_above_80 (by decide) rfl (fun c9 => ?_) (fun c9 => ?_)
        · rw [if_neg c9] at hF
          refine z_wk (ls' := [some (.ref 60), some (.int v1), some (.int v2), some (.int v3), some (.int v4)]) (z_lec rfl (z_lec rfl (z_lec rfl (z_lec rfl (z_lec rfl z_le0))))) ?_
          exact (ok_X6_above_100 hst ih) _ _ _ _ _ hF
        · rw [if_pos c9] at hF
          refine z_aload_n (pc' := 84) dX6_above_83 rfl rfl rfl ?_
          refine gf_X6_7 (b := 61) (pc' := 87) rfl is_6_60 rfl dX6_above_84 rfl ?_
          refine z_sipush (v := 4620) (pc' := 90) dX6_above_87 (by decide) rfl ?_
          refine z_bipush (v := 16) (pc' := 92) dX6_above_90 (by decide) rfl ?_
          refine z_iload_n (pc' := 93) dX6_above_92 rfl rfl rfl ?_
          refine z_imul (pc' := 94) dX6_above_93 rfl ?_
          refine z_iadd (pc' := 95) dX6_above_94 rfl ?_
          refine z_iload (pc' := 97) dX6_above_95 rfl rfl ?_
          refine z_iadd (pc' := 98) dX6_above_97 rfl ?_
          obtain ⟨g7, hF⟩ := z_gde hF
          refine z_iaload (pc' := 99) (ar_6_f3 is_6_60) (z_inbe g7) dX6_above_98 rfl ?_
          refine z_topi (fun x8 ex8 => ?_)
          replace hF := z_lte hF x8 ex8
          exact z_ireturn rfl dX6_above_99 (Option.some.inj hF).symm
def F_X6_above_2 (B : Nat)  : Nat → Int32 → Int32 → z_S → Option (z_O × z_S)
  | 0, _, _, _ => none
  | n + 1, v1, v2, S => z_gd (z_inb 13068 25366) (
  z_lt (S.1 61 (z_ix (13068))) fun x2 =>
  (if x2 ≤ v2 then
    some (.inl (some (-1)), S)
  else
    z_gd (z_inb (12300 + v2) 25366) (
    z_lt (S.1 61 (z_ix (12300 + v2))) fun x4 =>
    (F_X6_above_28 B (F_X6_above_2 B n) z_n v1 v2 x4 0 S))))
set_option maxRecDepth 20000 in
set_option maxHeartbeats 16000000 in
theorem ok_X6_above_2 {l : Launch} {B : Nat} {q : z_O × z_S} (hst : l.stackTraces = false) : ∀ (n : Nat) (v1 : Int32) (v2 : Int32) (S : z_S), F_X6_above_2 B n v1 v2 S = some q → z_W l I_X6_above (R_X6_above q) B q 2 [some (.ref 60), some (.int v1), some (.int v2), none, none] [] S := by
  intro n
  induction n with
  | zero => intro v1 v2 S hF; cases hF
  | succ n ih =>
    intro v1 v2 S hF
    rw [F_X6_above_2] at hF
    refine z_iload_n (pc' := 3) dX6_above_2 rfl rfl rfl ?_
    refine z_aload_n (pc' := 4) dX6_above_3 rfl rfl rfl ?_
    refine gf_X6_7 (b := 61) (pc' := 7) rfl is_6_60 rfl dX6_above_4 rfl ?_
    refine z_sipush (v := 13068) (pc' := 10) dX6_above_7 (by decide) rfl ?_
    obtain ⟨g1, hF⟩ := z_gde hF
    refine z_iaload (pc' := 11) (ar_6_f3 is_6_60) (z_inbe g1) dX6_above_10 rfl ?_
    refine z_topi (fun x2 ex2 => ?_)
    replace hF := z_lte hF x2 ex2
    refine z_icmp_ge (tgt := 112) (pc' := 14) dX6_above_11 (by decide) rfl (fun c5 => ?_) (fun c5 => ?_)
    · rw [if_pos c5] at hF
      refine z_iconst (v := (-1)) (pc' := 113) dX6_above_112 (by decide) rfl ?_
      exact z_ireturn rfl dX6_above_113 (Option.some.inj hF).symm
    · rw [if_neg c5] at hF
      refine z_aload_n (pc' := 15) dX6_above_14 rfl rfl rfl ?_
      refine gf_X6_7 (b := 61) (pc' := 18) rfl is_6_60 rfl dX6_above_15 rfl ?_
      refine z_sipush (v := 12300) (pc' := 21) dX6_above_18 (by decide) rfl ?_
      refine z_iload_n (pc' := 22) dX6_above_21 rfl rfl rfl ?_
      refine z_iadd (pc' := 23) dX6_above_22 rfl ?_
      obtain ⟨g3, hF⟩ := z_gde hF
      refine z_iaload (pc' := 24) (ar_6_f3 is_6_60) (z_inbe g3) dX6_above_23 rfl ?_
      refine z_topi (fun x4 ex4 => ?_)
      replace hF := z_lte hF x4 ex4
      refine z_istore_n (pc' := 25) dX6_above_24 rfl (by decide) rfl rfl ?_
      refine z_iconst (v := 0) (pc' := 26) dX6_above_25 (by decide) rfl ?_
      refine z_istore (pc' := 28) dX6_above_26 (by decide) rfl rfl ?_
      refine z_wk (ls' := [some (.ref 60), some (.int v1), some (.int v2), some (.int x4), some (.int 0)]) (z_lec rfl (z_lec rfl (z_lec rfl (z_lec rfl (z_lec rfl z_le0))))) ?_
      exact (ok_X6_above_28 hst ih z_n) _ _ _ _ _ hF
def F_X6_above (B : Nat) (p1 : Int32) (S : z_S) : Option (z_O × z_S) :=
  F_X6_above_2 B z_n p1 0 S
set_option maxRecDepth 20000 in
set_option maxHeartbeats 16000000 in
theorem c_X6_above {l : Launch} {B : Nat} {p1 : Int32} {S : z_S} {q : z_O × z_S} (hst : l.stackTraces = false) (hF : F_X6_above B p1 S = some q) : z_Met l I_X6_above 0 0 B [.ref 60, .int p1] S q.1 q.2 := by
  refine z_enter (ls := [some (.ref 60), some (.int p1), none, none, none]) (n := 3) (by decide) rfl (Nat.le_of_ble_eq_true rfl) hst ?_
  unfold F_X6_above at hF
  refine z_iconst (v := 0) (pc' := 1) dX6_above_0 (by decide) rfl ?_
  refine z_istore_n (pc' := 2) dX6_above_1 rfl (by decide) rfl rfl ?_
  refine z_wk (ls' := [some (.ref 60), some (.int p1), some (.int 0), none, none]) (z_lec rfl (z_lec rfl (z_lec rfl (z_len1 (z_len1 z_le0))))) ?_
  exact (ok_X6_above_2 hst z_n) _ _ _ hF
theorem ok_X6_above : z_okV I_X6_above 1 := ⟨⟨z_Gin (List.mem_of_getElem? (i := 1130) (by decide +kernel)) rfl, z_Gin (List.mem_of_getElem? (i := 71) (by decide +kernel)) rfl, z_Gin (List.mem_of_getElem? (i := 98) (by decide +kernel)) rfl, z_Gin (List.mem_of_getElem? (i := 1131) (by decide +kernel)) rfl⟩, by decide, by decide, by decide +kernel⟩
theorem k_X6_above {l : Launch} {I : z_I} {R : Room} {B : Nat} {p1 : Int32} {q : z_O × z_S} {pc pc' : Nat} {ls : List (Option Value)} {st : List Value} {S S1 : z_S} {idx F L : Nat} {r : Int32}  (hF : F_X6_above B p1 S = some (.inl (some r), S1)) (hst : l.stackTraces = false) (w : Cond.methodLink I.1.cls idx yX6_above ∈ z_G) (hRF : R.frames = F) (hRL : R.locals = L) (h1 : 1 ≤ F) (h2 : 24 ≤ L) (hs : (st.map fun v => v.category).sum ≤ 8) (d : decode I.2.1 pc = .ok (.invokevirtual idx, 3)) (hp : pc + 3 = pc') (k : z_W l I R B q pc' ls (.int r :: st) S1) : z_W l I R B q pc ls (.int p1 :: .ref 60 :: st) S := z_callV (Y := I_X6_above) (As := [.int p1]) (st := st) (r := (some r)) (S1 := S1) (c_X6_above (q := (.inl (some r), S1)) hst hF) ok_X6_above w (ci := 6) rfl is_6_60.1 is_6_60.2 rfl ⟨by rw [hRF]; exact h1, by rw [hRL]; exact h2⟩ hs d hp rfl k

abbrev I_X6_isWithin : z_I := (yX6_isWithin, cX6_isWithin, 4, some .boolean)
abbrev R_X6_isWithin (q : z_O × z_S) : Room := { frames := 1, locals := 24, cells := z_mc q.1, slots := 6 * z_mc q.1 }
def F_X6_isWithin_31 (B : Nat)  (s0 : Int32) (S : z_S) : Option (z_O × z_S) :=
  z_gd (z_b01 s0) (some (.inl (some s0), S))
set_option maxRecDepth 20000 in
set_option maxHeartbeats 16000000 in
theorem ok_X6_isWithin_31 {l : Launch} {B : Nat} {q : z_O × z_S} (hst : l.stackTraces = false) : ∀ (s0 : Int32) (S : z_S), F_X6_isWithin_31 B s0 S = some q → z_W l I_X6_isWithin (R_X6_isWithin q) B q 31 [none, none, none, none] [.int s0] S := by
  intro s0 S hF
  unfold F_X6_isWithin_31 at hF
  obtain ⟨g1, hF⟩ := z_gde hF
  exact z_zreturn rfl (z_b01e g1) dX6_isWithin_31 (Option.some.inj hF).symm
def F_X6_isWithin_21 (B : Nat)  (v2 : Int32) (v3 : Int32) (S : z_S) : Option (z_O × z_S) :=
  if v3 = v2 then
    F_X6_isWithin_31 B 1 S
  else
    F_X6_isWithin_31 B 0 S
set_option maxRecDepth 20000 in
set_option maxHeartbeats 16000000 in
theorem ok_X6_isWithin_21 {l : Launch} {B : Nat} {q : z_O × z_S} (hst : l.stackTraces = false) : ∀ (v2 : Int32) (v3 : Int32) (S : z_S), F_X6_isWithin_21 B v2 v3 S = some q → z_W l I_X6_isWithin (R_X6_isWithin q) B q 21 [none, none, some (.int v2), some (.int v3)] [] S := by
  intro v2 v3 S hF
  unfold F_X6_isWithin_21 at hF
  refine z_iload_n (pc' := 22) dX6_isWithin_21 rfl rfl rfl ?_
  refine z_iload_n (pc' := 23) dX6_isWithin_22 rfl rfl rfl ?_
  refine z_icmp_ne (tgt := 30) (pc' := 26) dX6_isWithin_23 (by decide) rfl (fun c1 => ?_) (fun c1 => ?_)
  · rw [if_neg c1] at hF
    refine z_iconst (v := 0) (pc' := 31) dX6_isWithin_30 (by decide) rfl ?_
    refine z_wk (ls' := [none, none, none, none]) (z_len1 (z_len1 (z_len1 (z_len1 z_le0)))) ?_
    exact (ok_X6_isWithin_31 hst) _ _ hF
  · rw [if_pos c1] at hF
    refine z_iconst (v := 1) (pc' := 27) dX6_isWithin_26 (by decide) rfl ?_
    refine z_goto (pc' := 31) dX6_isWithin_27 (by decide) ?_
    refine z_wk (ls' := [none, none, none, none]) (z_len1 (z_len1 (z_len1 (z_len1 z_le0)))) ?_
    exact (ok_X6_isWithin_31 hst) _ _ hF
def F_X6_isWithin_2 (B : Nat)  : Nat → Int32 → Int32 → z_S → Option (z_O × z_S)
  | 0, _, _, _ => none
  | n + 1, v2, v3, S => if v3 = (-1) then
    F_X6_isWithin_21 B v2 v3 S
  else
    if v3 = v2 then
      F_X6_isWithin_21 B v2 v3 S
    else
      z_bn (F_X6_above B v3 S) fun r1 S2 =>
      (F_X6_isWithin_2 B n v2 r1 S2)
set_option maxRecDepth 20000 in
set_option maxHeartbeats 16000000 in
theorem ok_X6_isWithin_2 {l : Launch} {B : Nat} {q : z_O × z_S} (hst : l.stackTraces = false) : ∀ (n : Nat) (v2 : Int32) (v3 : Int32) (S : z_S), F_X6_isWithin_2 B n v2 v3 S = some q → z_W l I_X6_isWithin (R_X6_isWithin q) B q 2 [some (.ref 60), none, some (.int v2), some (.int v3)] [] S := by
  intro n
  induction n with
  | zero => intro v2 v3 S hF; cases hF
  | succ n ih =>
    intro v2 v3 S hF
    rw [F_X6_isWithin_2] at hF
    refine z_iload_n (pc' := 3) dX6_isWithin_2 rfl rfl rfl ?_
    refine z_iconst (v := (-1)) (pc' := 4) dX6_isWithin_3 (by decide) rfl ?_
    refine z_icmp_eq (tgt := 21) (pc' := 7) dX6_isWithin_4 (by decide) rfl (fun c5 => ?_) (fun c5 => ?_)
    · rw [if_pos c5] at hF
      refine z_wk (ls' := [none, none, some (.int v2), some (.int v3)]) (z_len1 (z_len1 (z_lec rfl (z_lec rfl z_le0)))) ?_
      exact (ok_X6_isWithin_21 hst) _ _ _ hF
    · rw [if_neg c5] at hF
      refine z_iload_n (pc' := 8) dX6_isWithin_7 rfl rfl rfl ?_
      refine z_iload_n (pc' := 9) dX6_isWithin_8 rfl rfl rfl ?_
      refine z_icmp_eq (tgt := 21) (pc' := 12) dX6_isWithin_9 (by decide) rfl (fun c4 => ?_) (fun c4 => ?_)
      · rw [if_pos c4] at hF
        refine z_wk (ls' := [none, none, some (.int v2), some (.int v3)]) (z_len1 (z_len1 (z_lec rfl (z_lec rfl z_le0)))) ?_
        exact (ok_X6_isWithin_21 hst) _ _ _ hF
      · rw [if_neg c4] at hF
        refine z_aload_n (pc' := 13) dX6_isWithin_12 rfl rfl rfl ?_
        refine z_iload_n (pc' := 14) dX6_isWithin_13 rfl rfl rfl ?_
        obtain ⟨r1, S2, hc3, hF⟩ := z_bne hF
        refine k_X6_above (F := 1) (L := 24) (pc' := 17) hc3 hst zw_142 rfl rfl (by decide) (by decide) (by decide) dX6_isWithin_14 rfl ?_
        refine z_istore_n (pc' := 18) dX6_isWithin_17 rfl (by decide) rfl rfl ?_
        refine z_goto (pc' := 2) dX6_isWithin_18 (by decide) ?_
        refine z_wk (ls' := [some (.ref 60), none, some (.int v2), some (.int r1)]) (z_lec rfl (z_len1 (z_lec rfl (z_lec rfl z_le0)))) ?_
        exact ih _ _ _ hF
def F_X6_isWithin (B : Nat) (p1 : Int32) (p2 : Int32) (S : z_S) : Option (z_O × z_S) :=
  F_X6_isWithin_2 B z_n p2 p1 S
set_option maxRecDepth 20000 in
set_option maxHeartbeats 16000000 in
theorem c_X6_isWithin {l : Launch} {B : Nat} {p1 : Int32} {p2 : Int32} {S : z_S} {q : z_O × z_S} (hst : l.stackTraces = false) (hF : F_X6_isWithin B p1 p2 S = some q) : z_Met l I_X6_isWithin 1 24 B [.ref 60, .int p1, .int p2] S q.1 q.2 := by
  refine z_enter (ls := [some (.ref 60), some (.int p1), some (.int p2), none]) (n := 1) (by decide) rfl (Nat.le_of_ble_eq_true rfl) hst ?_
  unfold F_X6_isWithin at hF
  refine z_iload_n (pc' := 1) dX6_isWithin_0 rfl rfl rfl ?_
  refine z_istore_n (pc' := 2) dX6_isWithin_1 rfl (by decide) rfl rfl ?_
  refine z_wk (ls' := [some (.ref 60), none, some (.int p2), some (.int p1)]) (z_lec rfl (z_len1 (z_lec rfl (z_lec rfl z_le0)))) ?_
  exact (ok_X6_isWithin_2 hst z_n) _ _ _ hF
theorem ok_X6_isWithin : z_okV I_X6_isWithin 2 := ⟨⟨z_Gin (List.mem_of_getElem? (i := 1126) (by decide +kernel)) rfl, z_Gin (List.mem_of_getElem? (i := 70) (by decide +kernel)) rfl, z_Gin (List.mem_of_getElem? (i := 98) (by decide +kernel)) rfl, z_Gin (List.mem_of_getElem? (i := 1127) (by decide +kernel)) rfl⟩, by decide, by decide, by decide +kernel⟩
theorem k_X6_isWithin {l : Launch} {I : z_I} {R : Room} {B : Nat} {p1 : Int32} {p2 : Int32} {q : z_O × z_S} {pc pc' : Nat} {ls : List (Option Value)} {st : List Value} {S S1 : z_S} {idx F L : Nat} {r : Int32}  (hF : F_X6_isWithin B p1 p2 S = some (.inl (some r), S1)) (hst : l.stackTraces = false) (w : Cond.methodLink I.1.cls idx yX6_isWithin ∈ z_G) (hRF : R.frames = F) (hRL : R.locals = L) (h1 : 2 ≤ F) (h2 : 47 ≤ L) (hs : (st.map fun v => v.category).sum ≤ 8) (d : decode I.2.1 pc = .ok (.invokevirtual idx, 3)) (hp : pc + 3 = pc') (k : z_W l I R B q pc' ls (.int r :: st) S1) : z_W l I R B q pc ls (.int p2 :: .int p1 :: .ref 60 :: st) S := z_callV (Y := I_X6_isWithin) (As := [.int p1, .int p2]) (st := st) (r := (some r)) (S1 := S1) (c_X6_isWithin (q := (.inl (some r), S1)) hst hF) ok_X6_isWithin w (ci := 6) rfl is_6_60.1 is_6_60.2 rfl ⟨by rw [hRF]; exact h1, by rw [hRL]; exact h2⟩ hs d hp rfl k

abbrev I_X6_move : z_I := (yX6_move, cX6_move, 6, some .int)
abbrev R_X6_move (q : z_O × z_S) : Room := { frames := 6, locals := 149, cells := z_mc q.1, slots := 6 * z_mc q.1 }
def F_X6_move_184 (B : Nat)  (s0 : Int32) (S : z_S) : Option (z_O × z_S) :=
  some (.inl (some s0), S)
set_option maxRecDepth 20000 in
set_option maxHeartbeats 16000000 in
theorem ok_X6_move_184 {l : Launch} {B : Nat} {q : z_O × z_S} (hst : l.stackTraces = false) : ∀ (s0 : Int32) (S : z_S), F_X6_move_184 B s0 S = some q → z_W l I_X6_move (R_X6_move q) B q 184 [none, none, none, none, none, none] [.int s0] S := by
  intro s0 S hF
  unfold F_X6_move_184 at hF
  exact z_ireturn rfl dX6_move_184 (Option.some.inj hF).symm
def F_X6_move_108 (B : Nat)  (v1 : Int32) (v2 : Int32) (v3 : Int32) (v4 : Int32) (v5 : Int32) (s0 : Int32) (S : z_S) : Option (z_O × z_S) :=
  z_lt (z_ui S 60 0 s0) fun S1 =>
  (if (S1.2.1 60 0) ≤ 0 then
    z_bo (F_X6_begin B S1) fun S3 =>
    (z_bo (F_X6_remove B v1 1 v2 S3) fun S6 =>
    (z_gd (z_inb (218 + v1) 25366) (
    z_lt (S6.1 61 (z_ix (218 + v1))) fun x9 =>
    (z_gd (z_inb (218 + v1) 25366) (
    z_lt (z_ua S6 61 (upd (S6.1 61) (z_ix (218 + v1)) (x9 - 1))) fun S11 =>
    (z_bo (F_X6_put B v3 1 v4 3 v5 S11) fun S13 =>
    (z_gd (z_inb (218 + v3) 25366) (
    z_lt (S13.1 61 (z_ix (218 + v3))) fun x16 =>
    (z_gd (z_inb (218 + v3) 25366) (
    z_lt (z_ua S13 61 (upd (S13.1 61) (z_ix (218 + v3)) (x16 + 1))) fun S18 =>
    (z_bn (F_X6_ended B 4 S18) fun r19 S20 =>
    (if r19 = 0 then
      F_X6_move_184 B 0 S20
    else
      F_X6_move_184 B v5 S20))))))))))))
  else
    some (.inl (some 0), S1))
set_option maxRecDepth 20000 in
set_option maxHeartbeats 16000000 in
theorem ok_X6_move_108 {l : Launch} {B : Nat} {q : z_O × z_S} (hst : l.stackTraces = false) : ∀ (v1 : Int32) (v2 : Int32) (v3 : Int32) (v4 : Int32) (v5 : Int32) (s0 : Int32) (S : z_S), F_X6_move_108 B v1 v2 v3 v4 v5 s0 S = some q → z_W l I_X6_move (R_X6_move q) B q 108 [some (.ref 60), some (.int v1), some (.int v2), some (.int v3), some (.int v4), some (.int v5)] [.int s0, .ref 60] S := by
  intro v1 v2 v3 v4 v5 s0 S hF
  unfold F_X6_move_108 at hF
  refine pf_X6_40 (pc' := 111) rfl is_6_60 dX6_move_108 rfl (fun S1 eS1 => ?_)
  replace hF := z_lte hF S1 eS1
  refine z_aload_n (pc' := 112) dX6_move_111 rfl rfl rfl ?_
  refine gf_X6_40 (pc' := 115) rfl is_6_60 dX6_move_112 rfl ?_
  refine z_if_le (tgt := 120) (pc' := 118) dX6_move_115 (by decide) rfl (fun c23 => ?_) (fun c23 => ?_)
  · rw [if_pos c23] at hF
    refine z_aload_n (pc' := 121) dX6_move_120 rfl rfl rfl ?_
    obtain ⟨S3, hc4, hF⟩ := z_boe hF
    refine k_X6_begin (F := 6) (L := 149) (pc' := 124) hc4 hst zw_139 rfl rfl (by decide) (by decide) (by decide) dX6_move_121 rfl ?_
    refine z_aload_n (pc' := 125) dX6_move_124 rfl rfl rfl ?_
    refine z_iload_n (pc' := 126) dX6_move_125 rfl rfl rfl ?_
    refine z_iconst (v := 1) (pc' := 127) dX6_move_126 (by decide) rfl ?_
    refine z_iload_n (pc' := 128) dX6_move_127 rfl rfl rfl ?_
    obtain ⟨S6, hc7, hF⟩ := z_boe hF
    refine k_X6_remove (F := 6) (L := 149) (pc' := 131) hc7 hst zw_128 rfl rfl (by decide) (by decide) (by decide) dX6_move_128 rfl ?_
    refine z_aload_n (pc' := 132) dX6_move_131 rfl rfl rfl ?_
    refine gf_X6_7 (b := 61) (pc' := 135) rfl is_6_60 rfl dX6_move_132 rfl ?_
    refine z_sipush (v := 218) (pc' := 138) dX6_move_135 (by decide) rfl ?_
    refine z_iload_n (pc' := 139) dX6_move_138 rfl rfl rfl ?_
    refine z_iadd (pc' := 140) dX6_move_139 rfl ?_
    refine z_dup2 (pc' := 141) dX6_move_140 rfl ?_
    obtain ⟨g8, hF⟩ := z_gde hF
    refine z_iaload (pc' := 142) (ar_6_f3 is_6_60) (z_inbe g8) dX6_move_141 rfl ?_
    refine z_topi (fun x9 ex9 => ?_)
    replace hF := z_lte hF x9 ex9
    refine z_iconst (v := 1) (pc' := 143) dX6_move_142 (by decide) rfl ?_
    refine z_isub (pc' := 144) dX6_move_143 rfl ?_
    obtain ⟨g10, hF⟩ := z_gde hF
    refine z_iastore (pc' := 145) (ar_6_f3 is_6_60) (z_inbe g10) dX6_move_144 rfl (fun S11 eS11 => ?_)
    replace hF := z_lte hF S11 eS11
    refine z_aload_n (pc' := 146) dX6_move_145 rfl rfl rfl ?_
    refine z_iload_n (pc' := 147) dX6_move_146 rfl rfl rfl ?_
    refine z_iconst (v := 1) (pc' := 148) dX6_move_147 (by decide) rfl ?_
    refine z_iload (pc' := 150) dX6_move_148 rfl rfl ?_
    refine z_iconst (v := 3) (pc' := 151) dX6_move_150 (by decide) rfl ?_
    refine z_iload (pc' := 153) dX6_move_151 rfl rfl ?_
    obtain ⟨S13, hc14, hF⟩ := z_boe hF
    refine k_X6_put (F := 6) (L := 149) (pc' := 156) hc14 hst zw_129 rfl rfl (by decide) (by decide) (by decide) dX6_move_153 rfl ?_
    refine z_aload_n (pc' := 157) dX6_move_156 rfl rfl rfl ?_
    refine gf_X6_7 (b := 61) (pc' := 160) rfl is_6_60 rfl dX6_move_157 rfl ?_
    refine z_sipush (v := 218) (pc' := 163) dX6_move_160 (by decide) rfl ?_
    refine z_iload_n (pc' := 164) dX6_move_163 rfl rfl rfl ?_
    refine z_iadd (pc' := 165) dX6_move_164 rfl ?_
    refine z_dup2 (pc' := 166) dX6_move_165 rfl ?_
    obtain ⟨g15, hF⟩ := z_gde hF
    refine z_iaload (pc' := 167) (ar_6_f3 is_6_60) (z_inbe g15) dX6_move_166 rfl ?_
    refine z_topi (fun x16 ex16 => ?_)
    replace hF := z_lte hF x16 ex16
    refine z_iconst (v := 1) (pc' := 168) dX6_move_167 (by decide) rfl ?_
    refine z_iadd (pc' := 169) dX6_move_168 rfl ?_
    obtain ⟨g17, hF⟩ := z_gde hF
    refine z_iastore (pc' := 170) (ar_6_f3 is_6_60) (z_inbe g17) dX6_move_169 rfl (fun S18 eS18 => ?_)
    replace hF := z_lte hF S18 eS18
    refine z_aload_n (pc' := 171) dX6_move_170 rfl rfl rfl ?_
    refine z_iconst (v := 4) (pc' := 172) dX6_move_171 (by decide) rfl ?_
    obtain ⟨r19, S20, hc21, hF⟩ := z_bne hF
    refine k_X6_ended (F := 6) (L := 149) (pc' := 175) hc21 hst zw_140 rfl rfl (by decide) (by decide) (by decide) dX6_move_172 rfl ?_
    refine z_if_eq (tgt := 183) (pc' := 178) dX6_move_175 (by decide) rfl (fun c22 => ?_) (fun c22 => ?_)
    · rw [if_pos c22] at hF
      refine z_iconst (v := 0) (pc' := 184) dX6_move_183 (by decide) rfl ?_
      refine z_wk (ls' := [none, none, none, none, none, none]) (z_len1 (z_len1 (z_len1 (z_len1 (z_len1 (z_len1 z_le0)))))) ?_
      exact (ok_X6_move_184 hst) _ _ hF
    · rw [if_neg c22] at hF
      refine z_iload (pc' := 180) dX6_move_178 rfl rfl ?_
      refine z_goto (pc' := 184) dX6_move_180 (by decide) ?_
      refine z_wk (ls' := [none, none, none, none, none, none]) (z_len1 (z_len1 (z_len1 (z_len1 (z_len1 (z_len1 z_le0)))))) ?_
      exact (ok_X6_move_184 hst) _ _ hF
  · rw [if_neg c23] at hF
    refine z_iconst (v := 0) (pc' := 119) dX6_move_118 (by decide) rfl ?_
    exact z_ireturn rfl dX6_move_119 (Option.some.inj hF).symm
def F_X6_move_107 (B : Nat) (k108 : Int32 → Int32 → Int32 → Int32 → Int32 → Int32 → z_S → Option (z_O × z_S)) (v1 : Int32) (v2 : Int32) (v3 : Int32) (v4 : Int32) (v5 : Int32) (S : z_S) : Option (z_O × z_S) :=
  k108 v1 v2 v3 v4 v5 0 S
set_option maxRecDepth 20000 in
set_option maxHeartbeats 16000000 in
theorem ok_X6_move_107 {l : Launch} {B : Nat} {q : z_O × z_S} (hst : l.stackTraces = false) {k108 : Int32 → Int32 → Int32 → Int32 → Int32 → Int32 → z_S → Option (z_O × z_S)} (hk108 : ∀ (v1 : Int32) (v2 : Int32) (v3 : Int32) (v4 : Int32) (v5 : Int32) (s0 : Int32) (S : z_S), k108 v1 v2 v3 v4 v5 s0 S = some q → z_W l I_X6_move (R_X6_move q) B q 108 [some (.ref 60), some (.int v1), some (.int v2), some (.int v3), some (.int v4), some (.int v5)] [.int s0, .ref 60] S) : ∀ (v1 : Int32) (v2 : Int32) (v3 : Int32) (v4 : Int32) (v5 : Int32) (S : z_S), F_X6_move_107 B k108 v1 v2 v3 v4 v5 S = some q → z_W l I_X6_move (R_X6_move q) B q 107 [some (.ref 60), some (.int v1), some (.int v2), some (.int v3), some (.int v4), some (.int v5)] [.ref 60] S := by
  intro v1 v2 v3 v4 v5 S hF
  unfold F_X6_move_107 at hF
  refine z_iconst (v := 0) (pc' := 108) dX6_move_107 (by decide) rfl ?_
  refine z_wk (ls' := [some (.ref 60), some (.int v1), some (.int v2), some (.int v3), some (.int v4), some (.int v5)]) (z_lec rfl (z_lec rfl (z_lec rfl (z_lec rfl (z_lec rfl (z_lec rfl z_le0)))))) ?_
  exact hk108 _ _ _ _ _ _ _ hF
def F_X6_move_103 (B : Nat) (k108 : Int32 → Int32 → Int32 → Int32 → Int32 → Int32 → z_S → Option (z_O × z_S)) (v1 : Int32) (v2 : Int32) (v3 : Int32) (v4 : Int32) (v5 : Int32) (S : z_S) : Option (z_O × z_S) :=
  k108 v1 v2 v3 v4 v5 4 S
set_option maxRecDepth 20000 in
set_option maxHeartbeats 16000000 in
theorem ok_X6_move_103 {l : Launch} {B : Nat} {q : z_O × z_S} (hst : l.stackTraces = false) {k108 : Int32 → Int32 → Int32 → Int32 → Int32 → Int32 → z_S → Option (z_O × z_S)} (hk108 : ∀ (v1 : Int32) (v2 : Int32) (v3 : Int32) (v4 : Int32) (v5 : Int32) (s0 : Int32) (S : z_S), k108 v1 v2 v3 v4 v5 s0 S = some q → z_W l I_X6_move (R_X6_move q) B q 108 [some (.ref 60), some (.int v1), some (.int v2), some (.int v3), some (.int v4), some (.int v5)] [.int s0, .ref 60] S) : ∀ (v1 : Int32) (v2 : Int32) (v3 : Int32) (v4 : Int32) (v5 : Int32) (S : z_S), F_X6_move_103 B k108 v1 v2 v3 v4 v5 S = some q → z_W l I_X6_move (R_X6_move q) B q 103 [some (.ref 60), some (.int v1), some (.int v2), some (.int v3), some (.int v4), some (.int v5)] [.ref 60] S := by
  intro v1 v2 v3 v4 v5 S hF
  unfold F_X6_move_103 at hF
  refine z_iconst (v := 4) (pc' := 104) dX6_move_103 (by decide) rfl ?_
  refine z_goto (pc' := 108) dX6_move_104 (by decide) ?_
  refine z_wk (ls' := [some (.ref 60), some (.int v1), some (.int v2), some (.int v3), some (.int v4), some (.int v5)]) (z_lec rfl (z_lec rfl (z_lec rfl (z_lec rfl (z_lec rfl (z_lec rfl z_le0)))))) ?_
  exact hk108 _ _ _ _ _ _ _ hF
def F_X6_move_52 (B : Nat) (k108 : Int32 → Int32 → Int32 → Int32 → Int32 → Int32 → z_S → Option (z_O × z_S)) (v1 : Int32) (v2 : Int32) (v3 : Int32) (v4 : Int32) (v5 : Int32) (S : z_S) : Option (z_O × z_S) :=
  k108 v1 v2 v3 v4 v5 2 S
set_option maxRecDepth 20000 in
set_option maxHeartbeats 16000000 in
theorem ok_X6_move_52 {l : Launch} {B : Nat} {q : z_O × z_S} (hst : l.stackTraces = false) {k108 : Int32 → Int32 → Int32 → Int32 → Int32 → Int32 → z_S → Option (z_O × z_S)} (hk108 : ∀ (v1 : Int32) (v2 : Int32) (v3 : Int32) (v4 : Int32) (v5 : Int32) (s0 : Int32) (S : z_S), k108 v1 v2 v3 v4 v5 s0 S = some q → z_W l I_X6_move (R_X6_move q) B q 108 [some (.ref 60), some (.int v1), some (.int v2), some (.int v3), some (.int v4), some (.int v5)] [.int s0, .ref 60] S) : ∀ (v1 : Int32) (v2 : Int32) (v3 : Int32) (v4 : Int32) (v5 : Int32) (S : z_S), F_X6_move_52 B k108 v1 v2 v3 v4 v5 S = some q → z_W l I_X6_move (R_X6_move q) B q 52 [some (.ref 60), some (.int v1), some (.int v2), some (.int v3), some (.int v4), some (.int v5)] [.ref 60] S := by
  intro v1 v2 v3 v4 v5 S hF
  unfold F_X6_move_52 at hF
  refine z_iconst (v := 2) (pc' := 53) dX6_move_52 (by decide) rfl ?_
  refine z_goto (pc' := 108) dX6_move_53 (by decide) ?_
  refine z_wk (ls' := [some (.ref 60), some (.int v1), some (.int v2), some (.int v3), some (.int v4), some (.int v5)]) (z_lec rfl (z_lec rfl (z_lec rfl (z_lec rfl (z_lec rfl (z_lec rfl z_le0)))))) ?_
  exact hk108 _ _ _ _ _ _ _ hF
def F_X6_move_25 (B : Nat)  (v1 : Int32) (v2 : Int32) (v3 : Int32) (v4 : Int32) (s0 : Int32) (S : z_S) : Option (z_O × z_S) :=
  if (S.2.1 60 10) = 0 then
    if s0 < 0 then
      F_X6_move_52 B (F_X6_move_108 B ) v1 v2 v3 v4 s0 S
    else
      z_bn (F_X6_isDirectory B v3 S) fun r1 S2 =>
      (if r1 = 0 then
        F_X6_move_52 B (F_X6_move_108 B ) v1 v2 v3 v4 s0 S2
      else
        z_bn (F_X6_isName B v4 S2) fun r4 S5 =>
        (if r4 = 0 then
          F_X6_move_108 B v1 v2 v3 v4 s0 3 S5
        else
          z_bn (F_X6_entry B v3 v4 S5) fun r7 S8 =>
          (if 0 ≤ r7 then
            F_X6_move_103 B (F_X6_move_108 B ) v1 v2 v3 v4 s0 S8
          else
            z_gd (z_inb (96 + s0) 25366) (
            z_lt (S8.1 61 (z_ix (96 + s0))) fun x11 =>
            (if x11 = 1 then
              z_bn (F_X6_isWithin B v3 s0 S8) fun r12 S13 =>
              (if r12 = 0 then
                F_X6_move_107 B (F_X6_move_108 B ) v1 v2 v3 v4 s0 S13
              else
                F_X6_move_103 B (F_X6_move_108 B ) v1 v2 v3 v4 s0 S13)
            else
              F_X6_move_107 B (F_X6_move_108 B ) v1 v2 v3 v4 s0 S8)))))
  else
    F_X6_move_108 B v1 v2 v3 v4 s0 1 S
set_option maxRecDepth 20000 in
set_option maxHeartbeats 16000000 in
theorem ok_X6_move_25 {l : Launch} {B : Nat} {q : z_O × z_S} (hst : l.stackTraces = false) : ∀ (v1 : Int32) (v2 : Int32) (v3 : Int32) (v4 : Int32) (s0 : Int32) (S : z_S), F_X6_move_25 B v1 v2 v3 v4 s0 S = some q → z_W l I_X6_move (R_X6_move q) B q 25 [some (.ref 60), some (.int v1), some (.int v2), some (.int v3), some (.int v4), none] [.int s0] S := by
  intro v1 v2 v3 v4 s0 S hF
  unfold F_X6_move_25 at hF
  refine z_istore (pc' := 27) dX6_move_25 (by decide) rfl rfl ?_
  refine z_aload_n (pc' := 28) dX6_move_27 rfl rfl rfl ?_
  refine z_aload_n (pc' := 29) dX6_move_28 rfl rfl rfl ?_
  refine gf_X6_149 (pc' := 32) rfl is_6_60 dX6_move_29 rfl ?_
  refine z_if_eq (tgt := 39) (pc' := 35) dX6_move_32 (by decide) rfl (fun c21 => ?_) (fun c21 => ?_)
  · rw [if_pos c21] at hF
    refine z_iload (pc' := 41) dX6_move_39 rfl rfl ?_
    refine z_if_lt (tgt := 52) (pc' := 44) dX6_move_41 (by decide) rfl (fun c20 => ?_) (fun c20 => ?_)
    · rw [if_pos c20] at hF
      refine z_wk (ls' := [some (.ref 60), some (.int v1), some (.int v2), some (.int v3), some (.int v4), some (.int s0)]) (z_lec rfl (z_lec rfl (z_lec rfl (z_lec rfl (z_lec rfl (z_lec rfl z_le0)))))) ?_
      exact (ok_X6_move_52 hst (ok_X6_move_108 hst)) _ _ _ _ _ _ hF
    · rw [if_neg c20] at hF
      refine z_aload_n (pc' := 45) dX6_move_44 rfl rfl rfl ?_
      refine z_iload_n (pc' := 46) dX6_move_45 rfl rfl rfl ?_
      obtain ⟨r1, S2, hc3, hF⟩ := z_bne hF
      refine k_X6_isDirectory (F := 6) (L := 149) (pc' := 49) hc3 hst zw_135 rfl rfl (by decide) (by decide) (Nat.le_of_ble_eq_true rfl) dX6_move_46 rfl ?_
      refine z_if_ne (tgt := 56) (pc' := 52) dX6_move_49 (by decide) rfl (fun c19 => ?_) (fun c19 => ?_)
      · rw [if_neg c19] at hF
        refine z_aload_n (pc' := 57) dX6_move_56 rfl rfl rfl ?_
        refine z_iload (pc' := 59) dX6_move_57 rfl rfl ?_
        obtain ⟨r4, S5, hc6, hF⟩ := z_bne hF
        refine k_X6_isName (F := 6) (L := 149) (pc' := 62) hc6 hst zw_136 rfl rfl (by decide) (by decide) (Nat.le_of_ble_eq_true rfl) dX6_move_59 rfl ?_
        refine z_if_ne (tgt := 69) (pc' := 65) dX6_move_62 (by decide) rfl (fun c18 => ?_) (fun c18 => ?_)
        · rw [if_neg c18] at hF
          refine z_aload_n (pc' := 70) dX6_move_69 rfl rfl rfl ?_
          refine z_iload_n (pc' := 71) dX6_move_70 rfl rfl rfl ?_
          refine z_iload (pc' := 73) dX6_move_71 rfl rfl ?_
          obtain ⟨r7, S8, hc9, hF⟩ := z_bne hF
          refine k_X6_entry (F := 6) (L := 149) (pc' := 76) hc9 hst zw_137 rfl rfl (by decide) (by decide) (Nat.le_of_ble_eq_true rfl) dX6_move_73 rfl ?_
          refine z_if_ge (tgt := 103) (pc' := 79) dX6_move_76 (by decide) rfl (fun c17 => ?_) (fun c17 => ?_)
          · rw [if_pos c17] at hF
            refine z_wk (ls' := [some (.ref 60), some (.int v1), some (.int v2), some (.int v3), some (.int v4), some (.int s0)]) (z_lec rfl (z_lec rfl (z_lec rfl (z_lec rfl (z_lec rfl (z_lec rfl z_le0)))))) ?_
            exact (ok_X6_move_103 hst (ok_X6_move_108 hst)) _ _ _ _ _ _ hF
          · rw [if_neg c17] at hF
            refine z_aload_n (pc' := 80) dX6_move_79 rfl rfl rfl ?_
            refine gf_X6_7 (b := 61) (pc' := 83) rfl is_6_60 rfl dX6_move_80 rfl ?_
            refine z_bipush (v := 96) (pc' := 85) dX6_move_83 (by decide) rfl ?_
            refine z_iload (pc' := 87) dX6_move_85 rfl rfl ?_
            refine z_iadd (pc' := 88) dX6_move_87 rfl ?_
            obtain ⟨g10, hF⟩ := z_gde hF
            refine z_iaload (pc' := 89) (ar_6_f3 is_6_60) (z_inbe g10) dX6_move_88 rfl ?_
            refine z_topi (fun x11 ex11 => ?_)
            replace hF := z_lte hF x11 ex11
            refine z_iconst (v := 1) (pc' := 90) dX6_move_89 (by decide) rfl ?_
            refine z_icmp_ne (tgt := 107) (pc' := 93) dX6_move_90 (by decide) rfl (fun c16 => ?_) (fun c16 => ?_)
            · rw [if_neg c16] at hF
              refine z_wk (ls' := [some (.ref 60), some (.int v1), some (.int v2), some (.int v3), some (.int v4), some (.int s0)]) (z_lec rfl (z_lec rfl (z_lec rfl (z_lec rfl (z_lec rfl (z_lec rfl z_le0)))))) ?_
              exact (ok_X6_move_107 hst (ok_X6_move_108 hst)) _ _ _ _ _ _ hF
            · rw [if_pos c16] at hF
              refine z_aload_n (pc' := 94) dX6_move_93 rfl rfl rfl ?_
              refine z_iload_n (pc' := 95) dX6_move_94 rfl rfl rfl ?_
              refine z_iload (pc' := 97) dX6_move_95 rfl rfl ?_
              obtain ⟨r12, S13, hc14, hF⟩ := z_bne hF
              refine k_X6_isWithin (F := 6) (L := 149) (pc' := 100) hc14 hst zw_143 rfl rfl (by decide) (by decide) (Nat.le_of_ble_eq_true rfl) dX6_move_97 rfl ?_
              refine z_if_eq (tgt := 107) (pc' := 103) dX6_move_100 (by decide) rfl (fun c15 => ?_) (fun c15 => ?_)
              · rw [if_pos c15] at hF
                refine z_wk (ls' := [some (.ref 60), some (.int v1), some (.int v2), some (.int v3), some (.int v4), some (.int s0)]) (z_lec rfl (z_lec rfl (z_lec rfl (z_lec rfl (z_lec rfl (z_lec rfl z_le0)))))) ?_
                exact (ok_X6_move_107 hst (ok_X6_move_108 hst)) _ _ _ _ _ _ hF
              · rw [if_neg c15] at hF
                refine z_wk (ls' := [some (.ref 60), some (.int v1), some (.int v2), some (.int v3), some (.int v4), some (.int s0)]) (z_lec rfl (z_lec rfl (z_lec rfl (z_lec rfl (z_lec rfl (z_lec rfl z_le0)))))) ?_
                exact (ok_X6_move_103 hst (ok_X6_move_108 hst)) _ _ _ _ _ _ hF
        · rw [if_pos c18] at hF
          refine z_iconst (v := 3) (pc' := 66) dX6_move_65 (by decide) rfl ?_
          refine z_goto (pc' := 108) dX6_move_66 (by decide) ?_
          refine z_wk (ls' := [some (.ref 60), some (.int v1), some (.int v2), some (.int v3), some (.int v4), some (.int s0)]) (z_lec rfl (z_lec rfl (z_lec rfl (z_lec rfl (z_lec rfl (z_lec rfl z_le0)))))) ?_
          exact (ok_X6_move_108 hst) _ _ _ _ _ _ _ hF
      · rw [if_pos c19] at hF
        refine z_wk (ls' := [some (.ref 60), some (.int v1), some (.int v2), some (.int v3), some (.int v4), some (.int s0)]) (z_lec rfl (z_lec rfl (z_lec rfl (z_lec rfl (z_lec rfl (z_lec rfl z_le0)))))) ?_
        exact (ok_X6_move_52 hst (ok_X6_move_108 hst)) _ _ _ _ _ _ hF
  · rw [if_neg c21] at hF
    refine z_iconst (v := 1) (pc' := 36) dX6_move_35 (by decide) rfl ?_
    refine z_goto (pc' := 108) dX6_move_36 (by decide) ?_
    refine z_wk (ls' := [some (.ref 60), some (.int v1), some (.int v2), some (.int v3), some (.int v4), some (.int s0)]) (z_lec rfl (z_lec rfl (z_lec rfl (z_lec rfl (z_lec rfl (z_lec rfl z_le0)))))) ?_
    exact (ok_X6_move_108 hst) _ _ _ _ _ _ _ hF
def F_X6_move_15 (B : Nat) (k25 : Int32 → Int32 → Int32 → Int32 → Int32 → z_S → Option (z_O × z_S)) (v1 : Int32) (v2 : Int32) (v3 : Int32) (v4 : Int32) (S : z_S) : Option (z_O × z_S) :=
  k25 v1 v2 v3 v4 (-1) S
set_option maxRecDepth 20000 in
set_option maxHeartbeats 16000000 in
theorem ok_X6_move_15 {l : Launch} {B : Nat} {q : z_O × z_S} (hst : l.stackTraces = false) {k25 : Int32 → Int32 → Int32 → Int32 → Int32 → z_S → Option (z_O × z_S)} (hk25 : ∀ (v1 : Int32) (v2 : Int32) (v3 : Int32) (v4 : Int32) (s0 : Int32) (S : z_S), k25 v1 v2 v3 v4 s0 S = some q → z_W l I_X6_move (R_X6_move q) B q 25 [some (.ref 60), some (.int v1), some (.int v2), some (.int v3), some (.int v4), none] [.int s0] S) : ∀ (v1 : Int32) (v2 : Int32) (v3 : Int32) (v4 : Int32) (S : z_S), F_X6_move_15 B k25 v1 v2 v3 v4 S = some q → z_W l I_X6_move (R_X6_move q) B q 15 [some (.ref 60), some (.int v1), some (.int v2), some (.int v3), some (.int v4), none] [] S := by
  intro v1 v2 v3 v4 S hF
  unfold F_X6_move_15 at hF
  refine z_iconst (v := (-1)) (pc' := 16) dX6_move_15 (by decide) rfl ?_
  refine z_goto (pc' := 25) dX6_move_16 (by decide) ?_
  refine z_wk (ls' := [some (.ref 60), some (.int v1), some (.int v2), some (.int v3), some (.int v4), none]) (z_lec rfl (z_lec rfl (z_lec rfl (z_lec rfl (z_lec rfl (z_len1 z_le0)))))) ?_
  exact hk25 _ _ _ _ _ _ hF
def F_X6_move (B : Nat) (p1 : Int32) (p2 : Int32) (p3 : Int32) (p4 : Int32) (S : z_S) : Option (z_O × z_S) :=
  if (S.2.1 60 10) = 0 then
    z_bn (F_X6_isDirectory B p1 S) fun r1 S2 =>
    (if r1 = 0 then
      F_X6_move_15 B (F_X6_move_25 B ) p1 p2 p3 p4 S2
    else
      z_bn (F_X6_entry B p1 p2 S2) fun r4 S5 =>
      (F_X6_move_25 B p1 p2 p3 p4 r4 S5))
  else
    F_X6_move_15 B (F_X6_move_25 B ) p1 p2 p3 p4 S
set_option maxRecDepth 20000 in
set_option maxHeartbeats 16000000 in
theorem c_X6_move {l : Launch} {B : Nat} {p1 : Int32} {p2 : Int32} {p3 : Int32} {p4 : Int32} {S : z_S} {q : z_O × z_S} (hst : l.stackTraces = false) (hF : F_X6_move B p1 p2 p3 p4 S = some q) : z_Met l I_X6_move 6 149 B [.ref 60, .int p1, .int p2, .int p3, .int p4] S q.1 q.2 := by
  refine z_enter (ls := [some (.ref 60), some (.int p1), some (.int p2), some (.int p3), some (.int p4), none]) (n := 1) (by decide) rfl (Nat.le_of_ble_eq_true rfl) hst ?_
  unfold F_X6_move at hF
  refine z_aload_n (pc' := 1) dX6_move_0 rfl rfl rfl ?_
  refine gf_X6_149 (pc' := 4) rfl is_6_60 dX6_move_1 rfl ?_
  refine z_if_ne (tgt := 15) (pc' := 7) dX6_move_4 (by decide) rfl (fun c8 => ?_) (fun c8 => ?_)
  · rw [if_neg c8] at hF
    refine z_wk (ls' := [some (.ref 60), some (.int p1), some (.int p2), some (.int p3), some (.int p4), none]) (z_lec rfl (z_lec rfl (z_lec rfl (z_lec rfl (z_lec rfl (z_len1 z_le0)))))) ?_
    exact (ok_X6_move_15 hst (ok_X6_move_25 hst)) _ _ _ _ _ hF
  · rw [if_pos c8] at hF
    refine z_aload_n (pc' := 8) dX6_move_7 rfl rfl rfl ?_
    refine z_iload_n (pc' := 9) dX6_move_8 rfl rfl rfl ?_
    obtain ⟨r1, S2, hc3, hF⟩ := z_bne hF
    refine k_X6_isDirectory (F := 6) (L := 149) (pc' := 12) hc3 hst zw_135 rfl rfl (by decide) (by decide) (by decide) dX6_move_9 rfl ?_
    refine z_if_ne (tgt := 19) (pc' := 15) dX6_move_12 (by decide) rfl (fun c7 => ?_) (fun c7 => ?_)
    · rw [if_neg c7] at hF
      refine z_aload_n (pc' := 20) dX6_move_19 rfl rfl rfl ?_
      refine z_iload_n (pc' := 21) dX6_move_20 rfl rfl rfl ?_
      refine z_iload_n (pc' := 22) dX6_move_21 rfl rfl rfl ?_
      obtain ⟨r4, S5, hc6, hF⟩ := z_bne hF
      refine k_X6_entry (F := 6) (L := 149) (pc' := 25) hc6 hst zw_137 rfl rfl (by decide) (by decide) (by decide) dX6_move_22 rfl ?_
      refine z_wk (ls' := [some (.ref 60), some (.int p1), some (.int p2), some (.int p3), some (.int p4), none]) (z_lec rfl (z_lec rfl (z_lec rfl (z_lec rfl (z_lec rfl (z_len1 z_le0)))))) ?_
      exact (ok_X6_move_25 hst) _ _ _ _ _ _ hF
    · rw [if_pos c7] at hF
      refine z_wk (ls' := [some (.ref 60), some (.int p1), some (.int p2), some (.int p3), some (.int p4), none]) (z_lec rfl (z_lec rfl (z_lec rfl (z_lec rfl (z_lec rfl (z_len1 z_le0)))))) ?_
      exact (ok_X6_move_15 hst (ok_X6_move_25 hst)) _ _ _ _ _ hF
theorem ok_X6_move : z_okV I_X6_move 4 := ⟨⟨z_Gin (List.mem_of_getElem? (i := 1121) (by decide +kernel)) rfl, z_Gin (List.mem_of_getElem? (i := 1122) (by decide +kernel)) rfl, z_Gin (List.mem_of_getElem? (i := 98) (by decide +kernel)) rfl, z_Gin (List.mem_of_getElem? (i := 1123) (by decide +kernel)) rfl⟩, by decide, by decide, by decide +kernel⟩
theorem k_X6_move {l : Launch} {I : z_I} {R : Room} {B : Nat} {p1 : Int32} {p2 : Int32} {p3 : Int32} {p4 : Int32} {q : z_O × z_S} {pc pc' : Nat} {ls : List (Option Value)} {st : List Value} {S S1 : z_S} {idx F L : Nat} {r : Int32}  (hF : F_X6_move B p1 p2 p3 p4 S = some (.inl (some r), S1)) (hst : l.stackTraces = false) (w : Cond.methodLink I.1.cls idx yX6_move ∈ z_G) (hRF : R.frames = F) (hRL : R.locals = L) (h1 : 7 ≤ F) (h2 : 174 ≤ L) (hs : (st.map fun v => v.category).sum ≤ 8) (d : decode I.2.1 pc = .ok (.invokevirtual idx, 3)) (hp : pc + 3 = pc') (k : z_W l I R B q pc' ls (.int r :: st) S1) : z_W l I R B q pc ls (.int p4 :: .int p3 :: .int p2 :: .int p1 :: .ref 60 :: st) S := z_callV (Y := I_X6_move) (As := [.int p1, .int p2, .int p3, .int p4]) (st := st) (r := (some r)) (S1 := S1) (c_X6_move (q := (.inl (some r), S1)) hst hF) ok_X6_move w (ci := 6) rfl is_6_60.1 is_6_60.2 rfl ⟨by rw [hRF]; exact h1, by rw [hRL]; exact h2⟩ hs d hp rfl k

abbrev I_X6_refused : z_I := (yX6_refused, cX6_refused, 5, some .int)
abbrev R_X6_refused (q : z_O × z_S) : Room := { frames := 3, locals := 64, cells := z_mc q.1, slots := 6 * z_mc q.1 }
def F_X6_refused_65 (B : Nat)  (s0 : Int32) (S : z_S) : Option (z_O × z_S) :=
  some (.inl (some s0), S)
set_option maxRecDepth 20000 in
set_option maxHeartbeats 16000000 in
theorem ok_X6_refused_65 {l : Launch} {B : Nat} {q : z_O × z_S} (hst : l.stackTraces = false) : ∀ (s0 : Int32) (S : z_S), F_X6_refused_65 B s0 S = some q → z_W l I_X6_refused (R_X6_refused q) B q 65 [none, none, none, none, none] [.int s0] S := by
  intro s0 S hF
  unfold F_X6_refused_65 at hF
  exact z_ireturn rfl dX6_refused_65 (Option.some.inj hF).symm
def F_X6_refused_60 (B : Nat) (k65 : Int32 → z_S → Option (z_O × z_S))  (S : z_S) : Option (z_O × z_S) :=
  k65 3 S
set_option maxRecDepth 20000 in
set_option maxHeartbeats 16000000 in
theorem ok_X6_refused_60 {l : Launch} {B : Nat} {q : z_O × z_S} (hst : l.stackTraces = false) {k65 : Int32 → z_S → Option (z_O × z_S)} (hk65 : ∀ (s0 : Int32) (S : z_S), k65 s0 S = some q → z_W l I_X6_refused (R_X6_refused q) B q 65 [none, none, none, none, none] [.int s0] S) : ∀ (S : z_S), F_X6_refused_60 B k65 S = some q → z_W l I_X6_refused (R_X6_refused q) B q 60 [none, none, none, none, none] [] S := by
  intro S hF
  unfold F_X6_refused_60 at hF
  refine z_iconst (v := 3) (pc' := 61) dX6_refused_60 (by decide) rfl ?_
  refine z_goto (pc' := 65) dX6_refused_61 (by decide) ?_
  refine z_wk (ls' := [none, none, none, none, none]) (z_len1 (z_len1 (z_len1 (z_len1 (z_len1 z_le0))))) ?_
  exact hk65 _ _ hF
def F_X6_refused_37 (B : Nat) (k65 : Int32 → z_S → Option (z_O × z_S))  (S : z_S) : Option (z_O × z_S) :=
  k65 2 S
set_option maxRecDepth 20000 in
set_option maxHeartbeats 16000000 in
theorem ok_X6_refused_37 {l : Launch} {B : Nat} {q : z_O × z_S} (hst : l.stackTraces = false) {k65 : Int32 → z_S → Option (z_O × z_S)} (hk65 : ∀ (s0 : Int32) (S : z_S), k65 s0 S = some q → z_W l I_X6_refused (R_X6_refused q) B q 65 [none, none, none, none, none] [.int s0] S) : ∀ (S : z_S), F_X6_refused_37 B k65 S = some q → z_W l I_X6_refused (R_X6_refused q) B q 37 [none, none, none, none, none] [] S := by
  intro S hF
  unfold F_X6_refused_37 at hF
  refine z_iconst (v := 2) (pc' := 38) dX6_refused_37 (by decide) rfl ?_
  refine z_goto (pc' := 65) dX6_refused_38 (by decide) ?_
  refine z_wk (ls' := [none, none, none, none, none]) (z_len1 (z_len1 (z_len1 (z_len1 (z_len1 z_le0))))) ?_
  exact hk65 _ _ hF
def F_X6_refused (B : Nat) (p1 : Int32) (p2 : Int32) (p3 : Int32) (p4 : Int32) (S : z_S) : Option (z_O × z_S) :=
  if (S.2.1 60 10) = 0 then
    z_bn (F_X6_isFile B p1 S) fun r1 S2 =>
    (if r1 = 0 then
      F_X6_refused_37 B (F_X6_refused_65 B ) S2
    else
      z_gd (z_inb (218 + p1) 25366) (
      z_lt (S2.1 61 (z_ix (218 + p1))) fun x5 =>
      (z_bn (F_X6_isIn B p2 0 x5 S2) fun r6 S7 =>
      (if r6 = 0 then
        F_X6_refused_37 B (F_X6_refused_65 B ) S7
      else
        z_bn (F_X6_isIn B p3 1 p4 S7) fun r9 S10 =>
        (if r9 = 0 then
          F_X6_refused_60 B (F_X6_refused_65 B ) S10
        else
          if (p2 + p3) ≤ 2048 then
            F_X6_refused_65 B 0 S10
          else
            F_X6_refused_60 B (F_X6_refused_65 B ) S10)))))
  else
    F_X6_refused_65 B 1 S
set_option maxRecDepth 20000 in
set_option maxHeartbeats 16000000 in
theorem c_X6_refused {l : Launch} {B : Nat} {p1 : Int32} {p2 : Int32} {p3 : Int32} {p4 : Int32} {S : z_S} {q : z_O × z_S} (hst : l.stackTraces = false) (hF : F_X6_refused B p1 p2 p3 p4 S = some q) : z_Met l I_X6_refused 3 64 B [.ref 60, .int p1, .int p2, .int p3, .int p4] S q.1 q.2 := by
  refine z_enter (ls := [some (.ref 60), some (.int p1), some (.int p2), some (.int p3), some (.int p4)]) (n := 0) (by decide) rfl (Nat.le_of_ble_eq_true rfl) hst ?_
  unfold F_X6_refused at hF
  refine z_aload_n (pc' := 1) dX6_refused_0 rfl rfl rfl ?_
  refine gf_X6_149 (pc' := 4) rfl is_6_60 dX6_refused_1 rfl ?_
  refine z_if_eq (tgt := 11) (pc' := 7) dX6_refused_4 (by decide) rfl (fun c16 => ?_) (fun c16 => ?_)
  · rw [if_pos c16] at hF
    refine z_aload_n (pc' := 12) dX6_refused_11 rfl rfl rfl ?_
    refine z_iload_n (pc' := 13) dX6_refused_12 rfl rfl rfl ?_
    obtain ⟨r1, S2, hc3, hF⟩ := z_bne hF
    refine k_X6_isFile (F := 3) (L := 64) (pc' := 16) hc3 hst zw_141 rfl rfl (by decide) (by decide) (by decide) dX6_refused_13 rfl ?_
    refine z_if_eq (tgt := 37) (pc' := 19) dX6_refused_16 (by decide) rfl (fun c15 => ?_) (fun c15 => ?_)
    · rw [if_pos c15] at hF
      refine z_wk (ls' := [none, none, none, none, none]) (z_len1 (z_len1 (z_len1 (z_len1 (z_len1 z_le0))))) ?_
      exact (ok_X6_refused_37 hst (ok_X6_refused_65 hst)) _ hF
    · rw [if_neg c15] at hF
      refine z_iload_n (pc' := 20) dX6_refused_19 rfl rfl rfl ?_
      refine z_iconst (v := 0) (pc' := 21) dX6_refused_20 (by decide) rfl ?_
      refine z_aload_n (pc' := 22) dX6_refused_21 rfl rfl rfl ?_
      refine gf_X6_7 (b := 61) (pc' := 25) rfl is_6_60 rfl dX6_refused_22 rfl ?_
      refine z_sipush (v := 218) (pc' := 28) dX6_refused_25 (by decide) rfl ?_
      refine z_iload_n (pc' := 29) dX6_refused_28 rfl rfl rfl ?_
      refine z_iadd (pc' := 30) dX6_refused_29 rfl ?_
      obtain ⟨g4, hF⟩ := z_gde hF
      refine z_iaload (pc' := 31) (ar_6_f3 is_6_60) (z_inbe g4) dX6_refused_30 rfl ?_
      refine z_topi (fun x5 ex5 => ?_)
      replace hF := z_lte hF x5 ex5
      obtain ⟨r6, S7, hc8, hF⟩ := z_bne hF
      refine k_X6_isIn (F := 3) (L := 64) (pc' := 34) hc8 hst zw_104 rfl rfl (by decide) (by decide) (by decide) dX6_refused_31 rfl ?_
      refine z_if_ne (tgt := 41) (pc' := 37) dX6_refused_34 (by decide) rfl (fun c14 => ?_) (fun c14 => ?_)
      · rw [if_neg c14] at hF
        refine z_iload_n (pc' := 42) dX6_refused_41 rfl rfl rfl ?_
        refine z_iconst (v := 1) (pc' := 43) dX6_refused_42 (by decide) rfl ?_
        refine z_iload (pc' := 45) dX6_refused_43 rfl rfl ?_
        obtain ⟨r9, S10, hc11, hF⟩ := z_bne hF
        refine k_X6_isIn (F := 3) (L := 64) (pc' := 48) hc11 hst zw_104 rfl rfl (by decide) (by decide) (by decide) dX6_refused_45 rfl ?_
        refine z_if_eq (tgt := 60) (pc' := 51) dX6_refused_48 (by decide) rfl (fun c13 => ?_) (fun c13 => ?_)
        · rw [if_pos c13] at hF
          refine z_wk (ls' := [none, none, none, none, none]) (z_len1 (z_len1 (z_len1 (z_len1 (z_len1 z_le0))))) ?_
          exact (ok_X6_refused_60 hst (ok_X6_refused_65 hst)) _ hF
        · rw [if_neg c13] at hF
          refine z_iload_n (pc' := 52) dX6_refused_51 rfl rfl rfl ?_
          refine z_iload_n (pc' := 53) dX6_refused_52 rfl rfl rfl ?_
          refine z_iadd (pc' := 54) dX6_refused_53 rfl ?_
          refine z_sipush (v := 2048) (pc' := 57) dX6_refused_54 (by decide) rfl ?_
          refine z_icmp_le (tgt := 64) (pc' := 60) dX6_refused_57 (by decide) rfl (fun c12 => ?_) (fun c12 => ?_)
          · rw [if_pos c12] at hF
            refine z_iconst (v := 0) (pc' := 65) dX6_refused_64 (by decide) rfl ?_
            refine z_wk (ls' := [none, none, none, none, none]) (z_len1 (z_len1 (z_len1 (z_len1 (z_len1 z_le0))))) ?_
            exact (ok_X6_refused_65 hst) _ _ hF
          · rw [if_neg c12] at hF
            refine z_wk (ls' := [none, none, none, none, none]) (z_len1 (z_len1 (z_len1 (z_len1 (z_len1 z_le0))))) ?_
            exact (ok_X6_refused_60 hst (ok_X6_refused_65 hst)) _ hF
      · rw [if_pos c14] at hF
        refine z_wk (ls' := [none, none, none, none, none]) (z_len1 (z_len1 (z_len1 (z_len1 (z_len1 z_le0))))) ?_
        exact (ok_X6_refused_37 hst (ok_X6_refused_65 hst)) _ hF
  · rw [if_neg c16] at hF
    refine z_iconst (v := 1) (pc' := 8) dX6_refused_7 (by decide) rfl ?_
    refine z_goto (pc' := 65) dX6_refused_8 (by decide) ?_
    refine z_wk (ls' := [none, none, none, none, none]) (z_len1 (z_len1 (z_len1 (z_len1 (z_len1 z_le0))))) ?_
    exact (ok_X6_refused_65 hst) _ _ hF
theorem ok_X6_refused : z_okV I_X6_refused 4 := ⟨⟨z_Gin (List.mem_of_getElem? (i := 1138) (by decide +kernel)) rfl, z_Gin (List.mem_of_getElem? (i := 72) (by decide +kernel)) rfl, z_Gin (List.mem_of_getElem? (i := 98) (by decide +kernel)) rfl, z_Gin (List.mem_of_getElem? (i := 1139) (by decide +kernel)) rfl⟩, by decide, by decide, by decide +kernel⟩
theorem k_X6_refused {l : Launch} {I : z_I} {R : Room} {B : Nat} {p1 : Int32} {p2 : Int32} {p3 : Int32} {p4 : Int32} {q : z_O × z_S} {pc pc' : Nat} {ls : List (Option Value)} {st : List Value} {S S1 : z_S} {idx F L : Nat} {r : Int32}  (hF : F_X6_refused B p1 p2 p3 p4 S = some (.inl (some r), S1)) (hst : l.stackTraces = false) (w : Cond.methodLink I.1.cls idx yX6_refused ∈ z_G) (hRF : R.frames = F) (hRL : R.locals = L) (h1 : 4 ≤ F) (h2 : 88 ≤ L) (hs : (st.map fun v => v.category).sum ≤ 8) (d : decode I.2.1 pc = .ok (.invokevirtual idx, 3)) (hp : pc + 3 = pc') (k : z_W l I R B q pc' ls (.int r :: st) S1) : z_W l I R B q pc ls (.int p4 :: .int p3 :: .int p2 :: .int p1 :: .ref 60 :: st) S := z_callV (Y := I_X6_refused) (As := [.int p1, .int p2, .int p3, .int p4]) (st := st) (r := (some r)) (S1 := S1) (c_X6_refused (q := (.inl (some r), S1)) hst hF) ok_X6_refused w (ci := 6) rfl is_6_60.1 is_6_60.2 rfl ⟨by rw [hRF]; exact h1, by rw [hRL]; exact h2⟩ hs d hp rfl k

abbrev I_X6_change : z_I := (yX6_change, cX6_change, 3, some .int)
abbrev R_X6_change (q : z_O × z_S) : Room := { frames := 8, locals := 200, cells := z_mc q.1, slots := 6 * z_mc q.1 }
def F_X6_change_55 (B : Nat)  (s0 : Int32) (S : z_S) : Option (z_O × z_S) :=
  some (.inl (some s0), S)
set_option maxRecDepth 20000 in
set_option maxHeartbeats 16000000 in
theorem ok_X6_change_55 {l : Launch} {B : Nat} {q : z_O × z_S} (hst : l.stackTraces = false) : ∀ (s0 : Int32) (S : z_S), F_X6_change_55 B s0 S = some q → z_W l I_X6_change (R_X6_change q) B q 55 [none, none, none] [.int s0] S := by
  intro s0 S hF
  unfold F_X6_change_55 at hF
  exact z_ireturn rfl dX6_change_55 (Option.some.inj hF).symm
def F_X6_change_30 (B : Nat)  (v1 : Int32) (s0 : Int32) (s1 : Int32) (S : z_S) : Option (z_O × z_S) :=
  z_bo (F_X6_lay B s1 s0 S) fun S2 =>
  (z_bn (F_X6_ended B 4 S2) fun r4 S5 =>
  (if r4 = 0 then
    F_X6_change_55 B 0 S5
  else
    z_gd (z_inb (218 + v1) 25366) (
    z_lt (S5.1 61 (z_ix (218 + v1))) fun x8 =>
    (F_X6_change_55 B x8 S5))))
set_option maxRecDepth 20000 in
set_option maxHeartbeats 16000000 in
theorem ok_X6_change_30 {l : Launch} {B : Nat} {q : z_O × z_S} (hst : l.stackTraces = false) : ∀ (v1 : Int32) (s0 : Int32) (s1 : Int32) (S : z_S), F_X6_change_30 B v1 s0 s1 S = some q → z_W l I_X6_change (R_X6_change q) B q 30 [some (.ref 60), some (.int v1), none] [.int s0, .int s1, .ref 60] S := by
  intro v1 s0 s1 S hF
  unfold F_X6_change_30 at hF
  obtain ⟨S2, hc3, hF⟩ := z_boe hF
  refine k_X6_lay (F := 8) (L := 200) (pc' := 33) hc3 hst zw_144 rfl rfl (by decide) (by decide) (by decide) dX6_change_30 rfl ?_
  refine z_aload_n (pc' := 34) dX6_change_33 rfl rfl rfl ?_
  refine z_iconst (v := 4) (pc' := 35) dX6_change_34 (by decide) rfl ?_
  obtain ⟨r4, S5, hc6, hF⟩ := z_bne hF
  refine k_X6_ended (F := 8) (L := 200) (pc' := 38) hc6 hst zw_140 rfl rfl (by decide) (by decide) (by decide) dX6_change_35 rfl ?_
  refine z_if_eq (tgt := 54) (pc' := 41) dX6_change_38 (by decide) rfl (fun c9 => ?_) (fun c9 => ?_)
  · rw [if_pos c9] at hF
    refine z_iconst (v := 0) (pc' := 55) dX6_change_54 (by decide) rfl ?_
    refine z_wk (ls' := [none, none, none]) (z_len1 (z_len1 (z_len1 z_le0))) ?_
    exact (ok_X6_change_55 hst) _ _ hF
  · rw [if_neg c9] at hF
    refine z_aload_n (pc' := 42) dX6_change_41 rfl rfl rfl ?_
    refine gf_X6_7 (b := 61) (pc' := 45) rfl is_6_60 rfl dX6_change_42 rfl ?_
    refine z_sipush (v := 218) (pc' := 48) dX6_change_45 (by decide) rfl ?_
    refine z_iload_n (pc' := 49) dX6_change_48 rfl rfl rfl ?_
    refine z_iadd (pc' := 50) dX6_change_49 rfl ?_
    obtain ⟨g7, hF⟩ := z_gde hF
    refine z_iaload (pc' := 51) (ar_6_f3 is_6_60) (z_inbe g7) dX6_change_50 rfl ?_
    refine z_topi (fun x8 ex8 => ?_)
    replace hF := z_lte hF x8 ex8
    refine z_goto (pc' := 55) dX6_change_51 (by decide) ?_
    refine z_wk (ls' := [none, none, none]) (z_len1 (z_len1 (z_len1 z_le0))) ?_
    exact (ok_X6_change_55 hst) _ _ hF
def F_X6_change (B : Nat) (p1 : Int32) (p2 : Int32) (S : z_S) : Option (z_O × z_S) :=
  z_gd (z_inb (218 + p1) 25366) (
  z_lt (S.1 61 (z_ix (218 + p1))) fun x2 =>
  (if p2 ≤ x2 then
    z_gd (z_inb (218 + p1) 25366) (
    z_lt (S.1 61 (z_ix (218 + p1))) fun x4 =>
    (F_X6_change_30 B p1 x4 p1 S))
  else
    F_X6_change_30 B p1 p2 p1 S))
set_option maxRecDepth 20000 in
set_option maxHeartbeats 16000000 in
theorem c_X6_change {l : Launch} {B : Nat} {p1 : Int32} {p2 : Int32} {S : z_S} {q : z_O × z_S} (hst : l.stackTraces = false) (hF : F_X6_change B p1 p2 S = some q) : z_Met l I_X6_change 8 200 B [.ref 60, .int p1, .int p2] S q.1 q.2 := by
  refine z_enter (ls := [some (.ref 60), some (.int p1), some (.int p2)]) (n := 0) (by decide) rfl (Nat.le_of_ble_eq_true rfl) hst ?_
  unfold F_X6_change at hF
  refine z_aload_n (pc' := 1) dX6_change_0 rfl rfl rfl ?_
  refine z_iload_n (pc' := 2) dX6_change_1 rfl rfl rfl ?_
  refine z_iload_n (pc' := 3) dX6_change_2 rfl rfl rfl ?_
  refine z_aload_n (pc' := 4) dX6_change_3 rfl rfl rfl ?_
  refine gf_X6_7 (b := 61) (pc' := 7) rfl is_6_60 rfl dX6_change_4 rfl ?_
  refine z_sipush (v := 218) (pc' := 10) dX6_change_7 (by decide) rfl ?_
  refine z_iload_n (pc' := 11) dX6_change_10 rfl rfl rfl ?_
  refine z_iadd (pc' := 12) dX6_change_11 rfl ?_
  obtain ⟨g1, hF⟩ := z_gde hF
  refine z_iaload (pc' := 13) (ar_6_f3 is_6_60) (z_inbe g1) dX6_change_12 rfl ?_
  refine z_topi (fun x2 ex2 => ?_)
  replace hF := z_lte hF x2 ex2
  refine z_icmp_le (tgt := 20) (pc' := 16) dX6_change_13 (by decide) rfl (fun c5 => ?_) (fun c5 => ?_)
  · rw [if_pos c5] at hF
    refine z_aload_n (pc' := 21) dX6_change_20 rfl rfl rfl ?_
    refine gf_X6_7 (b := 61) (pc' := 24) rfl is_6_60 rfl dX6_change_21 rfl ?_
    refine z_sipush (v := 218) (pc' := 27) dX6_change_24 (by decide) rfl ?_
    refine z_iload_n (pc' := 28) dX6_change_27 rfl rfl rfl ?_
    refine z_iadd (pc' := 29) dX6_change_28 rfl ?_
    obtain ⟨g3, hF⟩ := z_gde hF
    refine z_iaload (pc' := 30) (ar_6_f3 is_6_60) (z_inbe g3) dX6_change_29 rfl ?_
    refine z_topi (fun x4 ex4 => ?_)
    replace hF := z_lte hF x4 ex4
    refine z_wk (ls' := [some (.ref 60), some (.int p1), none]) (z_lec rfl (z_lec rfl (z_len1 z_le0))) ?_
    exact (ok_X6_change_30 hst) _ _ _ _ hF
  · rw [if_neg c5] at hF
    refine z_iload_n (pc' := 17) dX6_change_16 rfl rfl rfl ?_
    refine z_goto (pc' := 30) dX6_change_17 (by decide) ?_
    refine z_wk (ls' := [some (.ref 60), some (.int p1), none]) (z_lec rfl (z_lec rfl (z_len1 z_le0))) ?_
    exact (ok_X6_change_30 hst) _ _ _ _ hF
theorem ok_X6_change : z_okV I_X6_change 2 := ⟨⟨z_Gin (List.mem_of_getElem? (i := 1151) (by decide +kernel)) rfl, z_Gin (List.mem_of_getElem? (i := 75) (by decide +kernel)) rfl, z_Gin (List.mem_of_getElem? (i := 98) (by decide +kernel)) rfl, z_Gin (List.mem_of_getElem? (i := 1152) (by decide +kernel)) rfl⟩, by decide, by decide, by decide +kernel⟩
theorem k_X6_change {l : Launch} {I : z_I} {R : Room} {B : Nat} {p1 : Int32} {p2 : Int32} {q : z_O × z_S} {pc pc' : Nat} {ls : List (Option Value)} {st : List Value} {S S1 : z_S} {idx F L : Nat} {r : Int32}  (hF : F_X6_change B p1 p2 S = some (.inl (some r), S1)) (hst : l.stackTraces = false) (w : Cond.methodLink I.1.cls idx yX6_change ∈ z_G) (hRF : R.frames = F) (hRL : R.locals = L) (h1 : 9 ≤ F) (h2 : 222 ≤ L) (hs : (st.map fun v => v.category).sum ≤ 8) (d : decode I.2.1 pc = .ok (.invokevirtual idx, 3)) (hp : pc + 3 = pc') (k : z_W l I R B q pc' ls (.int r :: st) S1) : z_W l I R B q pc ls (.int p2 :: .int p1 :: .ref 60 :: st) S := z_callV (Y := I_X6_change) (As := [.int p1, .int p2]) (st := st) (r := (some r)) (S1 := S1) (c_X6_change (q := (.inl (some r), S1)) hst hF) ok_X6_change w (ci := 6) rfl is_6_60.1 is_6_60.2 rfl ⟨by rw [hRF]; exact h1, by rw [hRL]; exact h2⟩ hs d hp rfl k

abbrev I_X6_write : z_I := (yX6_write, cX6_write, 7, some .int)
abbrev R_X6_write (q : z_O × z_S) : Room := { frames := 9, locals := 222, cells := z_mc q.1, slots := 6 * z_mc q.1 }
def F_X6_write_35 (B : Nat)  : Nat → Int32 → Int32 → Int64 → Int32 → Int32 → z_S → Option (z_O × z_S)
  | 0, _, _, _, _, _, _ => none
  | n + 1, v1, v2, v3, v5, v6, S => if v5 ≤ v6 then
    z_bn (F_X6_change B v1 (v2 + v5) S) fun r1 S2 =>
    (some (.inl (some r1), S2))
  else
    z_gd (z_inb (v2 + v6) 2560) (
    z_lt (z_ua S 64 (upd (S.1 64) (z_ix (v2 + v6)) (((v3 >>> ((8 * v6).toInt64 &&& 63)) &&& 255).toInt32))) fun S5 =>
    (F_X6_write_35 B n v1 v2 v3 v5 (v6 + 1) S5))
set_option maxRecDepth 20000 in
set_option maxHeartbeats 16000000 in
theorem ok_X6_write_35 {l : Launch} {B : Nat} {q : z_O × z_S} (hst : l.stackTraces = false) : ∀ (n : Nat) (v1 : Int32) (v2 : Int32) (v3 : Int64) (v5 : Int32) (v6 : Int32) (S : z_S), F_X6_write_35 B n v1 v2 v3 v5 v6 S = some q → z_W l I_X6_write (R_X6_write q) B q 35 [some (.ref 60), some (.int v1), some (.int v2), some (.long v3), none, some (.int v5), some (.int v6)] [] S := by
  intro n
  induction n with
  | zero => intro v1 v2 v3 v5 v6 S hF; cases hF
  | succ n ih =>
    intro v1 v2 v3 v5 v6 S hF
    rw [F_X6_write_35] at hF
    refine z_iload (pc' := 37) dX6_write_35 rfl rfl ?_
    refine z_iload (pc' := 39) dX6_write_37 rfl rfl ?_
    refine z_icmp_ge (tgt := 69) (pc' := 42) dX6_write_39 (by decide) rfl (fun c6 => ?_) (fun c6 => ?_)
    · rw [if_pos c6] at hF
      refine z_aload_n (pc' := 70) dX6_write_69 rfl rfl rfl ?_
      refine z_iload_n (pc' := 71) dX6_write_70 rfl rfl rfl ?_
      refine z_iload_n (pc' := 72) dX6_write_71 rfl rfl rfl ?_
      refine z_iload (pc' := 74) dX6_write_72 rfl rfl ?_
      refine z_iadd (pc' := 75) dX6_write_74 rfl ?_
      obtain ⟨r1, S2, hc3, hF⟩ := z_bne hF
      refine k_X6_change (F := 9) (L := 222) (pc' := 78) hc3 hst zw_147 rfl rfl (by decide) (by decide) (by decide) dX6_write_75 rfl ?_
      exact z_ireturn rfl dX6_write_78 (Option.some.inj hF).symm
    · rw [if_neg c6] at hF
      refine z_aload_n (pc' := 43) dX6_write_42 rfl rfl rfl ?_
      refine gf_X6_19 (b := 64) (pc' := 46) rfl is_6_60 rfl dX6_write_43 rfl ?_
      refine z_iload_n (pc' := 47) dX6_write_46 rfl rfl rfl ?_
      refine z_iload (pc' := 49) dX6_write_47 rfl rfl ?_
      refine z_iadd (pc' := 50) dX6_write_49 rfl ?_
      refine z_lload_n (pc' := 51) dX6_write_50 rfl rfl rfl ?_
      refine z_bipush (v := 8) (pc' := 53) dX6_write_51 (by decide) rfl ?_
      refine z_iload (pc' := 55) dX6_write_53 rfl rfl ?_
      refine z_imul (pc' := 56) dX6_write_55 rfl ?_
      refine z_lshr (pc' := 57) dX6_write_56 rfl ?_
      refine z_ldc2 (pc' := 60) dX6_write_57 zw_148 rfl ?_
      refine z_land (pc' := 61) dX6_write_60 rfl ?_
      refine z_l2i (pc' := 62) dX6_write_61 rfl ?_
      obtain ⟨g4, hF⟩ := z_gde hF
      refine z_iastore (pc' := 63) (ar_6_f6 is_6_60) (z_inbe g4) dX6_write_62 rfl (fun S5 eS5 => ?_)
      replace hF := z_lte hF S5 eS5
      refine z_iinc (v := v6 + 1) (pc' := 66) dX6_write_63 rfl rfl (by decide) rfl rfl ?_
      refine z_goto (pc' := 35) dX6_write_66 (by decide) ?_
      refine z_wk (ls' := [some (.ref 60), some (.int v1), some (.int v2), some (.long v3), none, some (.int v5), some (.int (v6 + 1))]) (z_lec rfl (z_lec rfl (z_lec rfl (z_lec rfl (z_len1 (z_lec rfl (z_lec rfl z_le0))))))) ?_
      exact ih _ _ _ _ _ _ hF
def F_X6_write (B : Nat) (p1 : Int32) (p2 : Int32) (p3 : Int64) (p5 : Int32) (S : z_S) : Option (z_O × z_S) :=
  z_bn (F_X6_refused B p1 p2 p5 8 S) fun r1 S2 =>
  (z_lt (z_ui S2 60 0 r1) fun S4 =>
  (if (S4.2.1 60 0) ≤ 0 then
    z_bo (F_X6_begin B S4) fun S6 =>
    (z_bo (F_X6_gather B p1 S6) fun S9 =>
    (F_X6_write_35 B z_n p1 p2 p3 p5 0 S9))
  else
    some (.inl (some 0), S4)))
set_option maxRecDepth 20000 in
set_option maxHeartbeats 16000000 in
theorem c_X6_write {l : Launch} {B : Nat} {p1 : Int32} {p2 : Int32} {p3 : Int64} {p5 : Int32} {S : z_S} {q : z_O × z_S} (hst : l.stackTraces = false) (hF : F_X6_write B p1 p2 p3 p5 S = some q) : z_Met l I_X6_write 9 222 B [.ref 60, .int p1, .int p2, .long p3, .int p5] S q.1 q.2 := by
  refine z_enter (ls := [some (.ref 60), some (.int p1), some (.int p2), some (.long p3), none, some (.int p5), none]) (n := 1) (by decide) rfl (Nat.le_of_ble_eq_true rfl) hst ?_
  unfold F_X6_write at hF
  refine z_aload_n (pc' := 1) dX6_write_0 rfl rfl rfl ?_
  refine z_aload_n (pc' := 2) dX6_write_1 rfl rfl rfl ?_
  refine z_iload_n (pc' := 3) dX6_write_2 rfl rfl rfl ?_
  refine z_iload_n (pc' := 4) dX6_write_3 rfl rfl rfl ?_
  refine z_iload (pc' := 6) dX6_write_4 rfl rfl ?_
  refine z_bipush (v := 8) (pc' := 8) dX6_write_6 (by decide) rfl ?_
  obtain ⟨r1, S2, hc3, hF⟩ := z_bne hF
  refine k_X6_refused (F := 9) (L := 222) (pc' := 11) hc3 hst zw_145 rfl rfl (by decide) (by decide) (Nat.le_of_ble_eq_true rfl) dX6_write_8 rfl ?_
  refine pf_X6_40 (pc' := 14) rfl is_6_60 dX6_write_11 rfl (fun S4 eS4 => ?_)
  replace hF := z_lte hF S4 eS4
  refine z_aload_n (pc' := 15) dX6_write_14 rfl rfl rfl ?_
  refine gf_X6_40 (pc' := 18) rfl is_6_60 dX6_write_15 rfl ?_
  refine z_if_le (tgt := 23) (pc' := 21) dX6_write_18 (by decide) rfl (fun c11 => ?_) (fun c11 => ?_)
  · rw [if_pos c11] at hF
    refine z_aload_n (pc' := 24) dX6_write_23 rfl rfl rfl ?_
    obtain ⟨S6, hc7, hF⟩ := z_boe hF
    refine k_X6_begin (F := 9) (L := 222) (pc' := 27) hc7 hst zw_139 rfl rfl (by decide) (by decide) (by decide) dX6_write_24 rfl ?_
    refine z_aload_n (pc' := 28) dX6_write_27 rfl rfl rfl ?_
    refine z_iload_n (pc' := 29) dX6_write_28 rfl rfl rfl ?_
    obtain ⟨S9, hc10, hF⟩ := z_boe hF
    refine k_X6_gather (F := 9) (L := 222) (pc' := 32) hc10 hst zw_146 rfl rfl (by decide) (by decide) (by decide) dX6_write_29 rfl ?_
    refine z_iconst (v := 0) (pc' := 33) dX6_write_32 (by decide) rfl ?_
    refine z_istore (pc' := 35) dX6_write_33 (by decide) rfl rfl ?_
    refine z_wk (ls' := [some (.ref 60), some (.int p1), some (.int p2), some (.long p3), none, some (.int p5), some (.int 0)]) (z_lec rfl (z_lec rfl (z_lec rfl (z_lec rfl (z_len1 (z_lec rfl (z_lec rfl z_le0))))))) ?_
    exact (ok_X6_write_35 hst z_n) _ _ _ _ _ _ hF
  · rw [if_neg c11] at hF
    refine z_iconst (v := 0) (pc' := 22) dX6_write_21 (by decide) rfl ?_
    exact z_ireturn rfl dX6_write_22 (Option.some.inj hF).symm
theorem ok_X6_write : z_okV I_X6_write 4 := ⟨⟨z_Gin (List.mem_of_getElem? (i := 1133) (by decide +kernel)) rfl, z_Gin (List.mem_of_getElem? (i := 1134) (by decide +kernel)) rfl, z_Gin (List.mem_of_getElem? (i := 98) (by decide +kernel)) rfl, z_Gin (List.mem_of_getElem? (i := 1135) (by decide +kernel)) rfl⟩, by decide, by decide, by decide +kernel⟩
theorem k_X6_write {l : Launch} {I : z_I} {R : Room} {B : Nat} {p1 : Int32} {p2 : Int32} {p3 : Int64} {p5 : Int32} {q : z_O × z_S} {pc pc' : Nat} {ls : List (Option Value)} {st : List Value} {S S1 : z_S} {idx F L : Nat} {r : Int32}  (hF : F_X6_write B p1 p2 p3 p5 S = some (.inl (some r), S1)) (hst : l.stackTraces = false) (w : Cond.methodLink I.1.cls idx yX6_write ∈ z_G) (hRF : R.frames = F) (hRL : R.locals = L) (h1 : 10 ≤ F) (h2 : 248 ≤ L) (hs : (st.map fun v => v.category).sum ≤ 8) (d : decode I.2.1 pc = .ok (.invokevirtual idx, 3)) (hp : pc + 3 = pc') (k : z_W l I R B q pc' ls (.int r :: st) S1) : z_W l I R B q pc ls (.int p5 :: .long p3 :: .int p2 :: .int p1 :: .ref 60 :: st) S := z_callV (Y := I_X6_write) (As := [.int p1, .int p2, .long p3, .int p5]) (st := st) (r := (some r)) (S1 := S1) (c_X6_write (q := (.inl (some r), S1)) hst hF) ok_X6_write w (ci := 6) rfl is_6_60.1 is_6_60.2 rfl ⟨by rw [hRF]; exact h1, by rw [hRL]; exact h2⟩ hs d hp rfl k

abbrev I_X6_fill : z_I := (yX6_fill, cX6_fill, 6, some .int)
abbrev R_X6_fill (q : z_O × z_S) : Room := { frames := 9, locals := 222, cells := z_mc q.1, slots := 6 * z_mc q.1 }
def F_X6_fill_36 (B : Nat)  : Nat → Int32 → Int32 → Int32 → Int32 → Int32 → z_S → Option (z_O × z_S)
  | 0, _, _, _, _, _, _ => none
  | n + 1, v1, v2, v3, v4, v5, S => if v4 ≤ v5 then
    z_bn (F_X6_change B v1 (v2 + v4) S) fun r1 S2 =>
    (some (.inl (some r1), S2))
  else
    z_gd (z_inb (v2 + v5) 2560) (
    z_lt (z_ua S 64 (upd (S.1 64) (z_ix (v2 + v5)) ((v3 + (7 * v5)) &&& 255))) fun S5 =>
    (F_X6_fill_36 B n v1 v2 v3 v4 (v5 + 1) S5))
set_option maxRecDepth 20000 in
set_option maxHeartbeats 16000000 in
theorem ok_X6_fill_36 {l : Launch} {B : Nat} {q : z_O × z_S} (hst : l.stackTraces = false) : ∀ (n : Nat) (v1 : Int32) (v2 : Int32) (v3 : Int32) (v4 : Int32) (v5 : Int32) (S : z_S), F_X6_fill_36 B n v1 v2 v3 v4 v5 S = some q → z_W l I_X6_fill (R_X6_fill q) B q 36 [some (.ref 60), some (.int v1), some (.int v2), some (.int v3), some (.int v4), some (.int v5)] [] S := by
  intro n
  induction n with
  | zero => intro v1 v2 v3 v4 v5 S hF; cases hF
  | succ n ih =>
    intro v1 v2 v3 v4 v5 S hF
    rw [F_X6_fill_36] at hF
    refine z_iload (pc' := 38) dX6_fill_36 rfl rfl ?_
    refine z_iload (pc' := 40) dX6_fill_38 rfl rfl ?_
    refine z_icmp_ge (tgt := 69) (pc' := 43) dX6_fill_40 (by decide) rfl (fun c6 => ?_) (fun c6 => ?_)
    · rw [if_pos c6] at hF
      refine z_aload_n (pc' := 70) dX6_fill_69 rfl rfl rfl ?_
      refine z_iload_n (pc' := 71) dX6_fill_70 rfl rfl rfl ?_
      refine z_iload_n (pc' := 72) dX6_fill_71 rfl rfl rfl ?_
      refine z_iload (pc' := 74) dX6_fill_72 rfl rfl ?_
      refine z_iadd (pc' := 75) dX6_fill_74 rfl ?_
      obtain ⟨r1, S2, hc3, hF⟩ := z_bne hF
      refine k_X6_change (F := 9) (L := 222) (pc' := 78) hc3 hst zw_147 rfl rfl (by decide) (by decide) (by decide) dX6_fill_75 rfl ?_
      exact z_ireturn rfl dX6_fill_78 (Option.some.inj hF).symm
    · rw [if_neg c6] at hF
      refine z_aload_n (pc' := 44) dX6_fill_43 rfl rfl rfl ?_
      refine gf_X6_19 (b := 64) (pc' := 47) rfl is_6_60 rfl dX6_fill_44 rfl ?_
      refine z_iload_n (pc' := 48) dX6_fill_47 rfl rfl rfl ?_
      refine z_iload (pc' := 50) dX6_fill_48 rfl rfl ?_
      refine z_iadd (pc' := 51) dX6_fill_50 rfl ?_
      refine z_iload_n (pc' := 52) dX6_fill_51 rfl rfl rfl ?_
      refine z_bipush (v := 7) (pc' := 54) dX6_fill_52 (by decide) rfl ?_
      refine z_iload (pc' := 56) dX6_fill_54 rfl rfl ?_
      refine z_imul (pc' := 57) dX6_fill_56 rfl ?_
      refine z_iadd (pc' := 58) dX6_fill_57 rfl ?_
      refine z_sipush (v := 255) (pc' := 61) dX6_fill_58 (by decide) rfl ?_
      refine z_iand (pc' := 62) dX6_fill_61 rfl ?_
      obtain ⟨g4, hF⟩ := z_gde hF
      refine z_iastore (pc' := 63) (ar_6_f6 is_6_60) (z_inbe g4) dX6_fill_62 rfl (fun S5 eS5 => ?_)
      replace hF := z_lte hF S5 eS5
      refine z_iinc (v := v5 + 1) (pc' := 66) dX6_fill_63 rfl rfl (by decide) rfl rfl ?_
      refine z_goto (pc' := 36) dX6_fill_66 (by decide) ?_
      refine z_wk (ls' := [some (.ref 60), some (.int v1), some (.int v2), some (.int v3), some (.int v4), some (.int (v5 + 1))]) (z_lec rfl (z_lec rfl (z_lec rfl (z_lec rfl (z_lec rfl (z_lec rfl z_le0)))))) ?_
      exact ih _ _ _ _ _ _ hF
def F_X6_fill (B : Nat) (p1 : Int32) (p2 : Int32) (p3 : Int32) (p4 : Int32) (S : z_S) : Option (z_O × z_S) :=
  z_bn (F_X6_refused B p1 p2 p4 512 S) fun r1 S2 =>
  (z_lt (z_ui S2 60 0 r1) fun S4 =>
  (if (S4.2.1 60 0) ≤ 0 then
    z_bo (F_X6_begin B S4) fun S6 =>
    (z_bo (F_X6_gather B p1 S6) fun S9 =>
    (F_X6_fill_36 B z_n p1 p2 p3 p4 0 S9))
  else
    some (.inl (some 0), S4)))
set_option maxRecDepth 20000 in
set_option maxHeartbeats 16000000 in
theorem c_X6_fill {l : Launch} {B : Nat} {p1 : Int32} {p2 : Int32} {p3 : Int32} {p4 : Int32} {S : z_S} {q : z_O × z_S} (hst : l.stackTraces = false) (hF : F_X6_fill B p1 p2 p3 p4 S = some q) : z_Met l I_X6_fill 9 222 B [.ref 60, .int p1, .int p2, .int p3, .int p4] S q.1 q.2 := by
  refine z_enter (ls := [some (.ref 60), some (.int p1), some (.int p2), some (.int p3), some (.int p4), none]) (n := 1) (by decide) rfl (Nat.le_of_ble_eq_true rfl) hst ?_
  unfold F_X6_fill at hF
  refine z_aload_n (pc' := 1) dX6_fill_0 rfl rfl rfl ?_
  refine z_aload_n (pc' := 2) dX6_fill_1 rfl rfl rfl ?_
  refine z_iload_n (pc' := 3) dX6_fill_2 rfl rfl rfl ?_
  refine z_iload_n (pc' := 4) dX6_fill_3 rfl rfl rfl ?_
  refine z_iload (pc' := 6) dX6_fill_4 rfl rfl ?_
  refine z_sipush (v := 512) (pc' := 9) dX6_fill_6 (by decide) rfl ?_
  obtain ⟨r1, S2, hc3, hF⟩ := z_bne hF
  refine k_X6_refused (F := 9) (L := 222) (pc' := 12) hc3 hst zw_145 rfl rfl (by decide) (by decide) (Nat.le_of_ble_eq_true rfl) dX6_fill_9 rfl ?_
  refine pf_X6_40 (pc' := 15) rfl is_6_60 dX6_fill_12 rfl (fun S4 eS4 => ?_)
  replace hF := z_lte hF S4 eS4
  refine z_aload_n (pc' := 16) dX6_fill_15 rfl rfl rfl ?_
  refine gf_X6_40 (pc' := 19) rfl is_6_60 dX6_fill_16 rfl ?_
  refine z_if_le (tgt := 24) (pc' := 22) dX6_fill_19 (by decide) rfl (fun c11 => ?_) (fun c11 => ?_)
  · rw [if_pos c11] at hF
    refine z_aload_n (pc' := 25) dX6_fill_24 rfl rfl rfl ?_
    obtain ⟨S6, hc7, hF⟩ := z_boe hF
    refine k_X6_begin (F := 9) (L := 222) (pc' := 28) hc7 hst zw_139 rfl rfl (by decide) (by decide) (by decide) dX6_fill_25 rfl ?_
    refine z_aload_n (pc' := 29) dX6_fill_28 rfl rfl rfl ?_
    refine z_iload_n (pc' := 30) dX6_fill_29 rfl rfl rfl ?_
    obtain ⟨S9, hc10, hF⟩ := z_boe hF
    refine k_X6_gather (F := 9) (L := 222) (pc' := 33) hc10 hst zw_146 rfl rfl (by decide) (by decide) (by decide) dX6_fill_30 rfl ?_
    refine z_iconst (v := 0) (pc' := 34) dX6_fill_33 (by decide) rfl ?_
    refine z_istore (pc' := 36) dX6_fill_34 (by decide) rfl rfl ?_
    refine z_wk (ls' := [some (.ref 60), some (.int p1), some (.int p2), some (.int p3), some (.int p4), some (.int 0)]) (z_lec rfl (z_lec rfl (z_lec rfl (z_lec rfl (z_lec rfl (z_lec rfl z_le0)))))) ?_
    exact (ok_X6_fill_36 hst z_n) _ _ _ _ _ _ hF
  · rw [if_neg c11] at hF
    refine z_iconst (v := 0) (pc' := 23) dX6_fill_22 (by decide) rfl ?_
    exact z_ireturn rfl dX6_fill_23 (Option.some.inj hF).symm
theorem ok_X6_fill : z_okV I_X6_fill 4 := ⟨⟨z_Gin (List.mem_of_getElem? (i := 1161) (by decide +kernel)) rfl, z_Gin (List.mem_of_getElem? (i := 1162) (by decide +kernel)) rfl, z_Gin (List.mem_of_getElem? (i := 98) (by decide +kernel)) rfl, z_Gin (List.mem_of_getElem? (i := 1163) (by decide +kernel)) rfl⟩, by decide, by decide, by decide +kernel⟩
theorem k_X6_fill {l : Launch} {I : z_I} {R : Room} {B : Nat} {p1 : Int32} {p2 : Int32} {p3 : Int32} {p4 : Int32} {q : z_O × z_S} {pc pc' : Nat} {ls : List (Option Value)} {st : List Value} {S S1 : z_S} {idx F L : Nat} {r : Int32}  (hF : F_X6_fill B p1 p2 p3 p4 S = some (.inl (some r), S1)) (hst : l.stackTraces = false) (w : Cond.methodLink I.1.cls idx yX6_fill ∈ z_G) (hRF : R.frames = F) (hRL : R.locals = L) (h1 : 10 ≤ F) (h2 : 247 ≤ L) (hs : (st.map fun v => v.category).sum ≤ 8) (d : decode I.2.1 pc = .ok (.invokevirtual idx, 3)) (hp : pc + 3 = pc') (k : z_W l I R B q pc' ls (.int r :: st) S1) : z_W l I R B q pc ls (.int p4 :: .int p3 :: .int p2 :: .int p1 :: .ref 60 :: st) S := z_callV (Y := I_X6_fill) (As := [.int p1, .int p2, .int p3, .int p4]) (st := st) (r := (some r)) (S1 := S1) (c_X6_fill (q := (.inl (some r), S1)) hst hF) ok_X6_fill w (ci := 6) rfl is_6_60.1 is_6_60.2 rfl ⟨by rw [hRF]; exact h1, by rw [hRL]; exact h2⟩ hs d hp rfl k

