abbrev I_X4_shiftAll : z_I := (yX4_shiftAll, cX4_shiftAll, 4, none)
abbrev R_X4_shiftAll (q : z_O × z_S) : Room := { frames := 3, locals := 120, cells := z_mc q.1, slots := 6 * z_mc q.1 }
def F_X4_shiftAll_36 (B : Nat) (t : Nat)   (S : z_S) : Option (z_O × z_S) :=
  some (.inl none, S)
set_option maxRecDepth 20000 in
set_option maxHeartbeats 16000000 in
theorem ok_X4_shiftAll_36 {l : Launch} {B : Nat} {t : Nat} {q : z_O × z_S} (hst : l.stackTraces = false) (ht : z_is 4 t) : ∀ (S : z_S), F_X4_shiftAll_36 B t S = some q → z_W l I_X4_shiftAll (R_X4_shiftAll q) B q 36 [none, none, none, none] [] S := by
  intro S hF
  unfold F_X4_shiftAll_36 at hF
  exact z_return rfl dX4_shiftAll_36 (Option.some.inj hF).symm
def F_X4_shiftAll_2 (B : Nat) (t : Nat)  : Nat → Int32 → Int32 → Int32 → z_S → Option (z_O × z_S)
  | 0, _, _, _, _ => none
  | n + 1, v1, v2, v3, S => if 14 ≤ v3 then
    F_X4_shiftAll_36 B t S
  else
    z_gd (z_inb v1 B) (
    z_lt (S.1 (t + 3) (z_ix (v1))) fun x2 =>
    (if x2 ≤ 0 then
      F_X4_shiftAll_36 B t S
    else
      z_gd (z_inb v2 B) (
      z_lt (S.1 (t + 3) (z_ix (v2))) fun x4 =>
      (z_bo (F_X4_shiftItem B t v1 0 v2 x4 S) fun S6 =>
      (F_X4_shiftAll_2 B t n v1 v2 (v3 + 1) S6)))))
set_option maxRecDepth 20000 in
set_option maxHeartbeats 16000000 in
theorem ok_X4_shiftAll_2 {l : Launch} {B : Nat} {t : Nat} {q : z_O × z_S} (hst : l.stackTraces = false) (ht : z_is 4 t) : ∀ (n : Nat) (v1 : Int32) (v2 : Int32) (v3 : Int32) (S : z_S), F_X4_shiftAll_2 B t n v1 v2 v3 S = some q → z_W l I_X4_shiftAll (R_X4_shiftAll q) B q 2 [some (.ref t), some (.int v1), some (.int v2), some (.int v3)] [] S := by
  intro n
  induction n with
  | zero => intro v1 v2 v3 S hF; cases hF
  | succ n ih =>
    intro v1 v2 v3 S hF
    rw [F_X4_shiftAll_2] at hF
    refine z_iload_n (pc' := 3) dX4_shiftAll_2 rfl rfl rfl ?_
    refine z_bipush (v := 14) (pc' := 5) dX4_shiftAll_3 (by decide) rfl ?_
    refine z_icmp_ge (tgt := 36) (pc' := 8) dX4_shiftAll_5 (by decide) rfl (fun c9 => ?_) (fun c9 => ?_)
    · rw [if_pos c9] at hF
      refine z_wk (ls' := [none, none, none, none]) (z_len1 (z_len1 (z_len1 (z_len1 z_le0)))) ?_
      exact (ok_X4_shiftAll_36 hst ht) _ hF
    · rw [if_neg c9] at hF
      refine z_aload_n (pc' := 9) dX4_shiftAll_8 rfl rfl rfl ?_
      refine gf_X4_22 (b := t + 3) (pc' := 12) rfl ht rfl dX4_shiftAll_9 rfl ?_
      refine z_iload_n (pc' := 13) dX4_shiftAll_12 rfl rfl rfl ?_
      obtain ⟨g1, hF⟩ := z_gde hF
      refine z_iaload (pc' := 14) (ar_4_f3 ht) (z_inbe g1) dX4_shiftAll_13 rfl ?_
      refine z_topi (fun x2 ex2 => ?_)
      replace hF := z_lte hF x2 ex2
      refine z_if_le (tgt := 36) (pc' := 17) dX4_shiftAll_14 (by decide) rfl (fun c8 => ?_) (fun c8 => ?_)
      · rw [if_pos c8] at hF
        refine z_wk (ls' := [none, none, none, none]) (z_len1 (z_len1 (z_len1 (z_len1 z_le0)))) ?_
        exact (ok_X4_shiftAll_36 hst ht) _ hF
      · rw [if_neg c8] at hF
        refine z_aload_n (pc' := 18) dX4_shiftAll_17 rfl rfl rfl ?_
        refine z_iload_n (pc' := 19) dX4_shiftAll_18 rfl rfl rfl ?_
        refine z_iconst (v := 0) (pc' := 20) dX4_shiftAll_19 (by decide) rfl ?_
        refine z_iload_n (pc' := 21) dX4_shiftAll_20 rfl rfl rfl ?_
        refine z_aload_n (pc' := 22) dX4_shiftAll_21 rfl rfl rfl ?_
        refine gf_X4_22 (b := t + 3) (pc' := 25) rfl ht rfl dX4_shiftAll_22 rfl ?_
        refine z_iload_n (pc' := 26) dX4_shiftAll_25 rfl rfl rfl ?_
        obtain ⟨g3, hF⟩ := z_gde hF
        refine z_iaload (pc' := 27) (ar_4_f3 ht) (z_inbe g3) dX4_shiftAll_26 rfl ?_
        refine z_topi (fun x4 ex4 => ?_)
        replace hF := z_lte hF x4 ex4
        obtain ⟨S6, hc7, hF⟩ := z_boe hF
        refine k_X4_shiftItem (F := 3) (L := 120) (pc' := 30) ht hc7 hst zw_37 rfl rfl (by decide) (by decide) (by decide) dX4_shiftAll_27 rfl ?_
        refine z_iinc (v := v3 + 1) (pc' := 33) dX4_shiftAll_30 rfl rfl (by decide) rfl rfl ?_
        refine z_goto (pc' := 2) dX4_shiftAll_33 (by decide) ?_
        refine z_wk (ls' := [some (.ref t), some (.int v1), some (.int v2), some (.int (v3 + 1))]) (z_lec rfl (z_lec rfl (z_lec rfl (z_lec rfl z_le0)))) ?_
        exact ih _ _ _ _ hF
def F_X4_shiftAll (B : Nat) (t : Nat) (p1 : Int32) (p2 : Int32) (S : z_S) : Option (z_O × z_S) :=
  F_X4_shiftAll_2 B t z_n p1 p2 0 S
set_option maxRecDepth 20000 in
set_option maxHeartbeats 16000000 in
theorem c_X4_shiftAll {l : Launch} {B : Nat} {t : Nat} {p1 : Int32} {p2 : Int32} {S : z_S} {q : z_O × z_S} (hst : l.stackTraces = false) (ht : z_is 4 t) (hF : F_X4_shiftAll B t p1 p2 S = some q) : z_Met l I_X4_shiftAll 3 120 B [.ref t, .int p1, .int p2] S q.1 q.2 := by
  refine z_enter (ls := [some (.ref t), some (.int p1), some (.int p2), none]) (n := 1) (by decide) rfl (Nat.le_of_ble_eq_true rfl) hst ?_
  unfold F_X4_shiftAll at hF
  refine z_iconst (v := 0) (pc' := 1) dX4_shiftAll_0 (by decide) rfl ?_
  refine z_istore_n (pc' := 2) dX4_shiftAll_1 rfl (by decide) rfl rfl ?_
  refine z_wk (ls' := [some (.ref t), some (.int p1), some (.int p2), some (.int 0)]) (z_lec rfl (z_lec rfl (z_lec rfl (z_lec rfl z_le0)))) ?_
  exact (ok_X4_shiftAll_2 hst ht z_n) _ _ _ _ hF
theorem ok_X4_shiftAll : z_okV I_X4_shiftAll 2 := ⟨⟨z_Gin (List.mem_of_getElem? (i := 608) (by decide +kernel)) rfl, z_Gin (List.mem_of_getElem? (i := 27) (by decide +kernel)) rfl, z_Gin (List.mem_of_getElem? (i := 92) (by decide +kernel)) rfl, z_Gin (List.mem_of_getElem? (i := 609) (by decide +kernel)) rfl⟩, by decide, by decide, by decide +kernel⟩
theorem k_X4_shiftAll {l : Launch} {I : z_I} {R : Room} {B : Nat} {t : Nat} {p1 : Int32} {p2 : Int32} {q : z_O × z_S} {pc pc' : Nat} {ls : List (Option Value)} {st : List Value} {S S1 : z_S} {idx F L : Nat} (ht : z_is 4 t) (hF : F_X4_shiftAll B t p1 p2 S = some (.inl none, S1)) (hst : l.stackTraces = false) (w : Cond.methodLink I.1.cls idx yX4_shiftAll ∈ z_G) (hRF : R.frames = F) (hRL : R.locals = L) (h1 : 4 ≤ F) (h2 : 143 ≤ L) (hs : (st.map fun v => v.category).sum ≤ 8) (d : decode I.2.1 pc = .ok (.invokevirtual idx, 3)) (hp : pc + 3 = pc') (k : z_W l I R B q pc' ls st S1) : z_W l I R B q pc ls (.int p2 :: .int p1 :: .ref t :: st) S := z_callV (Y := I_X4_shiftAll) (As := [.int p1, .int p2]) (st := st) (r := none) (S1 := S1) (c_X4_shiftAll (q := (.inl none, S1)) hst ht hF) ok_X4_shiftAll w (ci := 4) rfl ht.1 ht.2 rfl ⟨by rw [hRF]; exact h1, by rw [hRL]; exact h2⟩ hs d hp rfl k

abbrev I_X4_lookAt : z_I := (yX4_lookAt, cX4_lookAt, 6, none)
abbrev R_X4_lookAt (q : z_O × z_S) : Room := { frames := 4, locals := 144, cells := z_mc q.1, slots := 6 * z_mc q.1 }
def F_X4_lookAt_155 (B : Nat) (t : Nat)   (S : z_S) : Option (z_O × z_S) :=
  some (.inl none, S)
set_option maxRecDepth 20000 in
set_option maxHeartbeats 16000000 in
theorem ok_X4_lookAt_155 {l : Launch} {B : Nat} {t : Nat} {q : z_O × z_S} (hst : l.stackTraces = false) (ht : z_is 4 t) : ∀ (S : z_S), F_X4_lookAt_155 B t S = some q → z_W l I_X4_lookAt (R_X4_lookAt q) B q 155 [none, none, none, none, none, none] [] S := by
  intro S hF
  unfold F_X4_lookAt_155 at hF
  exact z_return rfl dX4_lookAt_155 (Option.some.inj hF).symm
def F_X4_lookAt_114 (B : Nat) (t : Nat) (k156 : Int32 → Int32 → z_S → Option (z_O × z_S)) (v2 : Int32) (v3 : Int32) (v5 : Int32) (S : z_S) : Option (z_O × z_S) :=
  if v5 = (-1) then
    F_X4_lookAt_155 B t S
  else
    z_gd (z_inb v2 B) (
    z_lt (S.1 (t + 4) (z_ix (v2))) fun x2 =>
    (z_gd (z_inb v5 B) (
    z_lt (S.1 (t + 4) (z_ix (v5))) fun x4 =>
    (if 72 < (x2 + x4) then
      F_X4_lookAt_155 B t S
    else
      z_bo (F_X4_shiftAll B t v5 v2 S) fun S6 =>
      (z_bo (F_X4_dropNode B t v5 S6) fun S9 =>
      (k156 v2 v3 S9))))))
set_option maxRecDepth 20000 in
set_option maxHeartbeats 16000000 in
theorem ok_X4_lookAt_114 {l : Launch} {B : Nat} {t : Nat} {q : z_O × z_S} (hst : l.stackTraces = false) (ht : z_is 4 t) {k156 : Int32 → Int32 → z_S → Option (z_O × z_S)} (hk156 : ∀ (v2 : Int32) (v3 : Int32) (S : z_S), k156 v2 v3 S = some q → z_W l I_X4_lookAt (R_X4_lookAt q) B q 156 [some (.ref t), none, some (.int v2), some (.int v3), none, none] [] S) : ∀ (v2 : Int32) (v3 : Int32) (v5 : Int32) (S : z_S), F_X4_lookAt_114 B t k156 v2 v3 v5 S = some q → z_W l I_X4_lookAt (R_X4_lookAt q) B q 114 [some (.ref t), none, some (.int v2), some (.int v3), none, some (.int v5)] [] S := by
  intro v2 v3 v5 S hF
  unfold F_X4_lookAt_114 at hF
  refine z_iload (pc' := 116) dX4_lookAt_114 rfl rfl ?_
  refine z_iconst (v := (-1)) (pc' := 117) dX4_lookAt_116 (by decide) rfl ?_
  refine z_icmp_eq (tgt := 155) (pc' := 120) dX4_lookAt_117 (by decide) rfl (fun c12 => ?_) (fun c12 => ?_)
  · rw [if_pos c12] at hF
    refine z_wk (ls' := [none, none, none, none, none, none]) (z_len1 (z_len1 (z_len1 (z_len1 (z_len1 (z_len1 z_le0)))))) ?_
    exact (ok_X4_lookAt_155 hst ht) _ hF
  · rw [if_neg c12] at hF
    refine z_aload_n (pc' := 121) dX4_lookAt_120 rfl rfl rfl ?_
    refine gf_X4_25 (b := t + 4) (pc' := 124) rfl ht rfl dX4_lookAt_121 rfl ?_
    refine z_iload_n (pc' := 125) dX4_lookAt_124 rfl rfl rfl ?_
    obtain ⟨g1, hF⟩ := z_gde hF
    refine z_iaload (pc' := 126) (ar_4_f4 ht) (z_inbe g1) dX4_lookAt_125 rfl ?_
    refine z_topi (fun x2 ex2 => ?_)
    replace hF := z_lte hF x2 ex2
    refine z_aload_n (pc' := 127) dX4_lookAt_126 rfl rfl rfl ?_
    refine gf_X4_25 (b := t + 4) (pc' := 130) rfl ht rfl dX4_lookAt_127 rfl ?_
    refine z_iload (pc' := 132) dX4_lookAt_130 rfl rfl ?_
    obtain ⟨g3, hF⟩ := z_gde hF
    refine z_iaload (pc' := 133) (ar_4_f4 ht) (z_inbe g3) dX4_lookAt_132 rfl ?_
    refine z_topi (fun x4 ex4 => ?_)
    replace hF := z_lte hF x4 ex4
    refine z_iadd (pc' := 134) dX4_lookAt_133 rfl ?_
    refine z_bipush (v := 72) (pc' := 136) dX4_lookAt_134 (by decide) rfl ?_
    refine z_icmp_gt (tgt := 155) (pc' := 139) dX4_lookAt_136 (by decide) rfl (fun c11 => ?_) (fun c11 => ?_)
    · rw [if_pos c11] at hF
      refine z_wk (ls' := [none, none, none, none, none, none]) (z_len1 (z_len1 (z_len1 (z_len1 (z_len1 (z_len1 z_le0)))))) ?_
      exact (ok_X4_lookAt_155 hst ht) _ hF
    · rw [if_neg c11] at hF
      refine z_aload_n (pc' := 140) dX4_lookAt_139 rfl rfl rfl ?_
      refine z_iload (pc' := 142) dX4_lookAt_140 rfl rfl ?_
      refine z_iload_n (pc' := 143) dX4_lookAt_142 rfl rfl rfl ?_
      obtain ⟨S6, hc7, hF⟩ := z_boe hF
      refine k_X4_shiftAll (F := 4) (L := 144) (pc' := 146) ht hc7 hst zw_41 rfl rfl (by decide) (by decide) (by decide) dX4_lookAt_143 rfl ?_
      refine z_aload_n (pc' := 147) dX4_lookAt_146 rfl rfl rfl ?_
      refine z_iload (pc' := 149) dX4_lookAt_147 rfl rfl ?_
      obtain ⟨S9, hc10, hF⟩ := z_boe hF
      refine k_X4_dropNode (F := 4) (L := 144) (pc' := 152) ht hc10 hst zw_42 rfl rfl (by decide) (by decide) (by decide) dX4_lookAt_149 rfl ?_
      refine z_goto (pc' := 156) dX4_lookAt_152 (by decide) ?_
      refine z_wk (ls' := [some (.ref t), none, some (.int v2), some (.int v3), none, none]) (z_lec rfl (z_len1 (z_lec rfl (z_lec rfl (z_len1 (z_len1 z_le0)))))) ?_
      exact hk156 _ _ _ hF
def F_X4_lookAt_67 (B : Nat) (t : Nat) (k156 : Int32 → Int32 → z_S → Option (z_O × z_S)) (v3 : Int32) (s0 : Int32) (S : z_S) : Option (z_O × z_S) :=
  k156 s0 v3 S
set_option maxRecDepth 20000 in
set_option maxHeartbeats 16000000 in
theorem ok_X4_lookAt_67 {l : Launch} {B : Nat} {t : Nat} {q : z_O × z_S} (hst : l.stackTraces = false) (ht : z_is 4 t) {k156 : Int32 → Int32 → z_S → Option (z_O × z_S)} (hk156 : ∀ (v2 : Int32) (v3 : Int32) (S : z_S), k156 v2 v3 S = some q → z_W l I_X4_lookAt (R_X4_lookAt q) B q 156 [some (.ref t), none, some (.int v2), some (.int v3), none, none] [] S) : ∀ (v3 : Int32) (s0 : Int32) (S : z_S), F_X4_lookAt_67 B t k156 v3 s0 S = some q → z_W l I_X4_lookAt (R_X4_lookAt q) B q 67 [some (.ref t), none, none, some (.int v3), none, none] [.int s0] S := by
  intro v3 s0 S hF
  unfold F_X4_lookAt_67 at hF
  refine z_istore_n (pc' := 68) dX4_lookAt_67 rfl (by decide) rfl rfl ?_
  refine z_goto (pc' := 156) dX4_lookAt_68 (by decide) ?_
  refine z_wk (ls' := [some (.ref t), none, some (.int s0), some (.int v3), none, none]) (z_lec rfl (z_len1 (z_lec rfl (z_lec rfl (z_len1 (z_len1 z_le0)))))) ?_
  exact hk156 _ _ _ hF
def F_X4_lookAt_156 (B : Nat) (t : Nat) (k4 : Int32 → Int32 → z_S → Option (z_O × z_S)) (v2 : Int32) (v3 : Int32) (S : z_S) : Option (z_O × z_S) :=
  k4 v2 (v3 + 1) S
set_option maxRecDepth 20000 in
set_option maxHeartbeats 16000000 in
theorem ok_X4_lookAt_156 {l : Launch} {B : Nat} {t : Nat} {q : z_O × z_S} (hst : l.stackTraces = false) (ht : z_is 4 t) {k4 : Int32 → Int32 → z_S → Option (z_O × z_S)} (hk4 : ∀ (v2 : Int32) (v3 : Int32) (S : z_S), k4 v2 v3 S = some q → z_W l I_X4_lookAt (R_X4_lookAt q) B q 4 [some (.ref t), none, some (.int v2), some (.int v3), none, none] [] S) : ∀ (v2 : Int32) (v3 : Int32) (S : z_S), F_X4_lookAt_156 B t k4 v2 v3 S = some q → z_W l I_X4_lookAt (R_X4_lookAt q) B q 156 [some (.ref t), none, some (.int v2), some (.int v3), none, none] [] S := by
  intro v2 v3 S hF
  unfold F_X4_lookAt_156 at hF
  refine z_iinc (v := v3 + 1) (pc' := 159) dX4_lookAt_156 rfl rfl (by decide) rfl rfl ?_
  refine z_goto (pc' := 4) dX4_lookAt_159 (by decide) ?_
  refine z_wk (ls' := [some (.ref t), none, some (.int v2), some (.int (v3 + 1)), none, none]) (z_lec rfl (z_len1 (z_lec rfl (z_lec rfl (z_len1 (z_len1 z_le0)))))) ?_
  exact hk4 _ _ _ hF
def F_X4_lookAt_71 (B : Nat) (t : Nat) (k156 : Int32 → Int32 → z_S → Option (z_O × z_S)) (v2 : Int32) (v3 : Int32) (v4 : Int32) (v5 : Int32) (S : z_S) : Option (z_O × z_S) :=
  if v4 = (-1) then
    F_X4_lookAt_114 B t k156 v2 v3 v5 S
  else
    z_gd (z_inb v4 B) (
    z_lt (S.1 (t + 4) (z_ix (v4))) fun x2 =>
    (z_gd (z_inb v2 B) (
    z_lt (S.1 (t + 4) (z_ix (v2))) fun x4 =>
    (if 72 < (x2 + x4) then
      F_X4_lookAt_114 B t k156 v2 v3 v5 S
    else
      z_bo (F_X4_shiftAll B t v2 v4 S) fun S6 =>
      (z_bo (F_X4_dropNode B t v2 S6) fun S9 =>
      (k156 v4 v3 S9))))))
set_option maxRecDepth 20000 in
set_option maxHeartbeats 16000000 in
theorem ok_X4_lookAt_71 {l : Launch} {B : Nat} {t : Nat} {q : z_O × z_S} (hst : l.stackTraces = false) (ht : z_is 4 t) {k156 : Int32 → Int32 → z_S → Option (z_O × z_S)} (hk156 : ∀ (v2 : Int32) (v3 : Int32) (S : z_S), k156 v2 v3 S = some q → z_W l I_X4_lookAt (R_X4_lookAt q) B q 156 [some (.ref t), none, some (.int v2), some (.int v3), none, none] [] S) : ∀ (v2 : Int32) (v3 : Int32) (v4 : Int32) (v5 : Int32) (S : z_S), F_X4_lookAt_71 B t k156 v2 v3 v4 v5 S = some q → z_W l I_X4_lookAt (R_X4_lookAt q) B q 71 [some (.ref t), none, some (.int v2), some (.int v3), some (.int v4), some (.int v5)] [] S := by
  intro v2 v3 v4 v5 S hF
  unfold F_X4_lookAt_71 at hF
  refine z_iload (pc' := 73) dX4_lookAt_71 rfl rfl ?_
  refine z_iconst (v := (-1)) (pc' := 74) dX4_lookAt_73 (by decide) rfl ?_
  refine z_icmp_eq (tgt := 114) (pc' := 77) dX4_lookAt_74 (by decide) rfl (fun c12 => ?_) (fun c12 => ?_)
  · rw [if_pos c12] at hF
    refine z_wk (ls' := [some (.ref t), none, some (.int v2), some (.int v3), none, some (.int v5)]) (z_lec rfl (z_len1 (z_lec rfl (z_lec rfl (z_len1 (z_lec rfl z_le0)))))) ?_
    exact (ok_X4_lookAt_114 hst ht hk156) _ _ _ _ hF
  · rw [if_neg c12] at hF
    refine z_aload_n (pc' := 78) dX4_lookAt_77 rfl rfl rfl ?_
    refine gf_X4_25 (b := t + 4) (pc' := 81) rfl ht rfl dX4_lookAt_78 rfl ?_
    refine z_iload (pc' := 83) dX4_lookAt_81 rfl rfl ?_
    obtain ⟨g1, hF⟩ := z_gde hF
    refine z_iaload (pc' := 84) (ar_4_f4 ht) (z_inbe g1) dX4_lookAt_83 rfl ?_
    refine z_topi (fun x2 ex2 => ?_)
    replace hF := z_lte hF x2 ex2
    refine z_aload_n (pc' := 85) dX4_lookAt_84 rfl rfl rfl ?_
    refine gf_X4_25 (b := t + 4) (pc' := 88) rfl ht rfl dX4_lookAt_85 rfl ?_
    refine z_iload_n (pc' := 89) dX4_lookAt_88 rfl rfl rfl ?_
    obtain ⟨g3, hF⟩ := z_gde hF
    refine z_iaload (pc' := 90) (ar_4_f4 ht) (z_inbe g3) dX4_lookAt_89 rfl ?_
    refine z_topi (fun x4 ex4 => ?_)
    replace hF := z_lte hF x4 ex4
    refine z_iadd (pc' := 91) dX4_lookAt_90 rfl ?_
    refine z_bipush (v := 72) (pc' := 93) dX4_lookAt_91 (by decide) rfl ?_
    refine z_icmp_gt (tgt := 114) (pc' := 96) dX4_lookAt_93 (by decide) rfl (fun c11 => ?_) (fun c11 => ?_)
    · rw [if_pos c11] at hF
      refine z_wk (ls' := [some (.ref t), none, some (.int v2), some (.int v3), none, some (.int v5)]) (z_lec rfl (z_len1 (z_lec rfl (z_lec rfl (z_len1 (z_lec rfl z_le0)))))) ?_
      exact (ok_X4_lookAt_114 hst ht hk156) _ _ _ _ hF
    · rw [if_neg c11] at hF
      refine z_aload_n (pc' := 97) dX4_lookAt_96 rfl rfl rfl ?_
      refine z_iload_n (pc' := 98) dX4_lookAt_97 rfl rfl rfl ?_
      refine z_iload (pc' := 100) dX4_lookAt_98 rfl rfl ?_
      obtain ⟨S6, hc7, hF⟩ := z_boe hF
      refine k_X4_shiftAll (F := 4) (L := 144) (pc' := 103) ht hc7 hst zw_41 rfl rfl (by decide) (by decide) (by decide) dX4_lookAt_100 rfl ?_
      refine z_aload_n (pc' := 104) dX4_lookAt_103 rfl rfl rfl ?_
      refine z_iload_n (pc' := 105) dX4_lookAt_104 rfl rfl rfl ?_
      obtain ⟨S9, hc10, hF⟩ := z_boe hF
      refine k_X4_dropNode (F := 4) (L := 144) (pc' := 108) ht hc10 hst zw_42 rfl rfl (by decide) (by decide) (by decide) dX4_lookAt_105 rfl ?_
      refine z_iload (pc' := 110) dX4_lookAt_108 rfl rfl ?_
      refine z_istore_n (pc' := 111) dX4_lookAt_110 rfl (by decide) rfl rfl ?_
      refine z_goto (pc' := 156) dX4_lookAt_111 (by decide) ?_
      refine z_wk (ls' := [some (.ref t), none, some (.int v4), some (.int v3), none, none]) (z_lec rfl (z_len1 (z_lec rfl (z_lec rfl (z_len1 (z_len1 z_le0)))))) ?_
      exact hk156 _ _ _ hF
def F_X4_lookAt_49 (B : Nat) (t : Nat) (k156 : Int32 → Int32 → z_S → Option (z_O × z_S)) (v2 : Int32) (v3 : Int32) (v4 : Int32) (v5 : Int32) (S : z_S) : Option (z_O × z_S) :=
  z_bo (F_X4_dropNode B t v2 S) fun S2 =>
  (if v4 = (-1) then
    F_X4_lookAt_67 B t k156 v3 v5 S2
  else
    F_X4_lookAt_67 B t k156 v3 v4 S2)
set_option maxRecDepth 20000 in
set_option maxHeartbeats 16000000 in
theorem ok_X4_lookAt_49 {l : Launch} {B : Nat} {t : Nat} {q : z_O × z_S} (hst : l.stackTraces = false) (ht : z_is 4 t) {k156 : Int32 → Int32 → z_S → Option (z_O × z_S)} (hk156 : ∀ (v2 : Int32) (v3 : Int32) (S : z_S), k156 v2 v3 S = some q → z_W l I_X4_lookAt (R_X4_lookAt q) B q 156 [some (.ref t), none, some (.int v2), some (.int v3), none, none] [] S) : ∀ (v2 : Int32) (v3 : Int32) (v4 : Int32) (v5 : Int32) (S : z_S), F_X4_lookAt_49 B t k156 v2 v3 v4 v5 S = some q → z_W l I_X4_lookAt (R_X4_lookAt q) B q 49 [some (.ref t), none, some (.int v2), some (.int v3), some (.int v4), some (.int v5)] [] S := by
  intro v2 v3 v4 v5 S hF
  unfold F_X4_lookAt_49 at hF
  refine z_aload_n (pc' := 50) dX4_lookAt_49 rfl rfl rfl ?_
  refine z_iload_n (pc' := 51) dX4_lookAt_50 rfl rfl rfl ?_
  obtain ⟨S2, hc3, hF⟩ := z_boe hF
  refine k_X4_dropNode (F := 4) (L := 144) (pc' := 54) ht hc3 hst zw_42 rfl rfl (by decide) (by decide) (by decide) dX4_lookAt_51 rfl ?_
  refine z_iload (pc' := 56) dX4_lookAt_54 rfl rfl ?_
  refine z_iconst (v := (-1)) (pc' := 57) dX4_lookAt_56 (by decide) rfl ?_
  refine z_icmp_eq (tgt := 65) (pc' := 60) dX4_lookAt_57 (by decide) rfl (fun c4 => ?_) (fun c4 => ?_)
  · rw [if_pos c4] at hF
    refine z_iload (pc' := 67) dX4_lookAt_65 rfl rfl ?_
    refine z_wk (ls' := [some (.ref t), none, none, some (.int v3), none, none]) (z_lec rfl (z_len1 (z_len1 (z_lec rfl (z_len1 (z_len1 z_le0)))))) ?_
    exact (ok_X4_lookAt_67 hst ht hk156) _ _ _ hF
  · rw [if_neg c4] at hF
    refine z_iload (pc' := 62) dX4_lookAt_60 rfl rfl ?_
    refine z_goto (pc' := 67) dX4_lookAt_62 (by decide) ?_
    refine z_wk (ls' := [some (.ref t), none, none, some (.int v3), none, none]) (z_lec rfl (z_len1 (z_len1 (z_lec rfl (z_len1 (z_len1 z_le0)))))) ?_
    exact (ok_X4_lookAt_67 hst ht hk156) _ _ _ hF
def F_X4_lookAt_4 (B : Nat) (t : Nat)  : Nat → Int32 → Int32 → z_S → Option (z_O × z_S)
  | 0, _, _, _ => none
  | n + 1, v2, v3, S => if (S.2.1 t 0) ≤ v3 then
    some (.inl none, S)
  else
    z_gd (z_inb v2 B) (
    z_lt (S.1 (t + 6) (z_ix (v2))) fun x2 =>
    (z_gd (z_inb v2 B) (
    z_lt (S.1 (t + 7) (z_ix (v2))) fun x4 =>
    (z_gd (z_inb v2 B) (
    z_lt (S.1 (t + 3) (z_ix (v2))) fun x6 =>
    (if x6 = 0 then
      if x2 = (-1) then
        if x4 = (-1) then
          F_X4_lookAt_71 B t (F_X4_lookAt_156 B t (F_X4_lookAt_4 B t n) ) v2 v3 x2 x4 S
        else
          F_X4_lookAt_49 B t (F_X4_lookAt_156 B t (F_X4_lookAt_4 B t n) ) v2 v3 x2 x4 S
      else
        F_X4_lookAt_49 B t (F_X4_lookAt_156 B t (F_X4_lookAt_4 B t n) ) v2 v3 x2 x4 S
    else
      F_X4_lookAt_71 B t (F_X4_lookAt_156 B t (F_X4_lookAt_4 B t n) ) v2 v3 x2 x4 S))))))
set_option maxRecDepth 20000 in
set_option maxHeartbeats 16000000 in
theorem ok_X4_lookAt_4 {l : Launch} {B : Nat} {t : Nat} {q : z_O × z_S} (hst : l.stackTraces = false) (ht : z_is 4 t) : ∀ (n : Nat) (v2 : Int32) (v3 : Int32) (S : z_S), F_X4_lookAt_4 B t n v2 v3 S = some q → z_W l I_X4_lookAt (R_X4_lookAt q) B q 4 [some (.ref t), none, some (.int v2), some (.int v3), none, none] [] S := by
  intro n
  induction n with
  | zero => intro v2 v3 S hF; cases hF
  | succ n ih =>
    intro v2 v3 S hF
    rw [F_X4_lookAt_4] at hF
    refine z_iload_n (pc' := 5) dX4_lookAt_4 rfl rfl rfl ?_
    refine z_aload_n (pc' := 6) dX4_lookAt_5 rfl rfl rfl ?_
    refine gf_X4_9 (pc' := 9) rfl ht dX4_lookAt_6 rfl ?_
    refine z_icmp_ge (tgt := 162) (pc' := 12) dX4_lookAt_9 (by decide) rfl (fun c10 => ?_) (fun c10 => ?_)
    · rw [if_pos c10] at hF
      exact z_return rfl dX4_lookAt_162 (Option.some.inj hF).symm
    · rw [if_neg c10] at hF
      refine z_aload_n (pc' := 13) dX4_lookAt_12 rfl rfl rfl ?_
      refine gf_X4_31 (b := t + 6) (pc' := 16) rfl ht rfl dX4_lookAt_13 rfl ?_
      refine z_iload_n (pc' := 17) dX4_lookAt_16 rfl rfl rfl ?_
      obtain ⟨g1, hF⟩ := z_gde hF
      refine z_iaload (pc' := 18) (ar_4_f6 ht) (z_inbe g1) dX4_lookAt_17 rfl ?_
      refine z_topi (fun x2 ex2 => ?_)
      replace hF := z_lte hF x2 ex2
      refine z_istore (pc' := 20) dX4_lookAt_18 (by decide) rfl rfl ?_
      refine z_aload_n (pc' := 21) dX4_lookAt_20 rfl rfl rfl ?_
      refine gf_X4_34 (b := t + 7) (pc' := 24) rfl ht rfl dX4_lookAt_21 rfl ?_
      refine z_iload_n (pc' := 25) dX4_lookAt_24 rfl rfl rfl ?_
      obtain ⟨g3, hF⟩ := z_gde hF
      refine z_iaload (pc' := 26) (ar_4_f7 ht) (z_inbe g3) dX4_lookAt_25 rfl ?_
      refine z_topi (fun x4 ex4 => ?_)
      replace hF := z_lte hF x4 ex4
      refine z_istore (pc' := 28) dX4_lookAt_26 (by decide) rfl rfl ?_
      refine z_aload_n (pc' := 29) dX4_lookAt_28 rfl rfl rfl ?_
      refine gf_X4_22 (b := t + 3) (pc' := 32) rfl ht rfl dX4_lookAt_29 rfl ?_
      refine z_iload_n (pc' := 33) dX4_lookAt_32 rfl rfl rfl ?_
      obtain ⟨g5, hF⟩ := z_gde hF
      refine z_iaload (pc' := 34) (ar_4_f3 ht) (z_inbe g5) dX4_lookAt_33 rfl ?_
      refine z_topi (fun x6 ex6 => ?_)
      replace hF := z_lte hF x6 ex6
      refine z_if_ne (tgt := 71) (pc' := 37) dX4_lookAt_34 (by decide) rfl (fun c9 => ?_) (fun c9 => ?_)
      · rw [if_neg c9] at hF
        refine z_wk (ls' := [some (.ref t), none, some (.int v2), some (.int v3), some (.int x2), some (.int x4)]) (z_lec rfl (z_len1 (z_lec rfl (z_lec rfl (z_lec rfl (z_lec rfl z_le0)))))) ?_
        exact (ok_X4_lookAt_71 hst ht (ok_X4_lookAt_156 hst ht ih)) _ _ _ _ _ hF
      · rw [if_pos c9] at hF
        refine z_iload (pc' := 39) dX4_lookAt_37 rfl rfl ?_
        refine z_iconst (v := (-1)) (pc' := 40) dX4_lookAt_39 (by decide) rfl ?_
        refine z_icmp_ne (tgt := 49) (pc' := 43) dX4_lookAt_40 (by decide) rfl (fun c8 => ?_) (fun c8 => ?_)
        · rw [if_neg c8] at hF
          refine z_wk (ls' := [some (.ref t), none, some (.int v2), some (.int v3), some (.int x2), some (.int x4)]) (z_lec rfl (z_len1 (z_lec rfl (z_lec rfl (z_lec rfl (z_lec rfl z_le0)))))) ?_
          exact (ok_X4_lookAt_49 hst ht (ok_X4_lookAt_156 hst ht ih)) _ _ _ _ _ hF
        · rw [if_pos c8] at hF
          refine z_iload (pc' := 45) dX4_lookAt_43 rfl rfl ?_
          refine z_iconst (v := (-1)) (pc' := 46) dX4_lookAt_45 (by decide) rfl ?_
          refine z_icmp_eq (tgt := 71) (pc' := 49) dX4_lookAt_46 (by decide) rfl (fun c7 => ?_) (fun c7 => ?_)
          · rw [if_pos c7] at hF
            refine z_wk (ls' := [some (.ref t), none, some (.int v2), some (.int v3), some (.int x2), some (.int x4)]) (z_lec rfl (z_len1 (z_lec rfl (z_lec rfl (z_lec rfl (z_lec rfl z_le0)))))) ?_
            exact (ok_X4_lookAt_71 hst ht (ok_X4_lookAt_156 hst ht ih)) _ _ _ _ _ hF
          · rw [if_neg c7] at hF
            refine z_wk (ls' := [some (.ref t), none, some (.int v2), some (.int v3), some (.int x2), some (.int x4)]) (z_lec rfl (z_len1 (z_lec rfl (z_lec rfl (z_lec rfl (z_lec rfl z_le0)))))) ?_
            exact (ok_X4_lookAt_49 hst ht (ok_X4_lookAt_156 hst ht ih)) _ _ _ _ _ hF
def F_X4_lookAt (B : Nat) (t : Nat) (p1 : Int32) (S : z_S) : Option (z_O × z_S) :=
  F_X4_lookAt_4 B t z_n p1 0 S
set_option maxRecDepth 20000 in
set_option maxHeartbeats 16000000 in
theorem c_X4_lookAt {l : Launch} {B : Nat} {t : Nat} {p1 : Int32} {S : z_S} {q : z_O × z_S} (hst : l.stackTraces = false) (ht : z_is 4 t) (hF : F_X4_lookAt B t p1 S = some q) : z_Met l I_X4_lookAt 4 144 B [.ref t, .int p1] S q.1 q.2 := by
  refine z_enter (ls := [some (.ref t), some (.int p1), none, none, none, none]) (n := 4) (by decide) rfl (Nat.le_of_ble_eq_true rfl) hst ?_
  unfold F_X4_lookAt at hF
  refine z_iload_n (pc' := 1) dX4_lookAt_0 rfl rfl rfl ?_
  refine z_istore_n (pc' := 2) dX4_lookAt_1 rfl (by decide) rfl rfl ?_
  refine z_iconst (v := 0) (pc' := 3) dX4_lookAt_2 (by decide) rfl ?_
  refine z_istore_n (pc' := 4) dX4_lookAt_3 rfl (by decide) rfl rfl ?_
  refine z_wk (ls' := [some (.ref t), none, some (.int p1), some (.int 0), none, none]) (z_lec rfl (z_len1 (z_lec rfl (z_lec rfl (z_len1 (z_len1 z_le0)))))) ?_
  exact (ok_X4_lookAt_4 hst ht z_n) _ _ _ hF
theorem ok_X4_lookAt : z_okV I_X4_lookAt 1 := ⟨⟨z_Gin (List.mem_of_getElem? (i := 596) (by decide +kernel)) rfl, z_Gin (List.mem_of_getElem? (i := 24) (by decide +kernel)) rfl, z_Gin (List.mem_of_getElem? (i := 92) (by decide +kernel)) rfl, z_Gin (List.mem_of_getElem? (i := 597) (by decide +kernel)) rfl⟩, by decide, by decide, by decide +kernel⟩
theorem k_X4_lookAt {l : Launch} {I : z_I} {R : Room} {B : Nat} {t : Nat} {p1 : Int32} {q : z_O × z_S} {pc pc' : Nat} {ls : List (Option Value)} {st : List Value} {S S1 : z_S} {idx F L : Nat} (ht : z_is 4 t) (hF : F_X4_lookAt B t p1 S = some (.inl none, S1)) (hst : l.stackTraces = false) (w : Cond.methodLink I.1.cls idx yX4_lookAt ∈ z_G) (hRF : R.frames = F) (hRL : R.locals = L) (h1 : 5 ≤ F) (h2 : 169 ≤ L) (hs : (st.map fun v => v.category).sum ≤ 8) (d : decode I.2.1 pc = .ok (.invokevirtual idx, 3)) (hp : pc + 3 = pc') (k : z_W l I R B q pc' ls st S1) : z_W l I R B q pc ls (.int p1 :: .ref t :: st) S := z_callV (Y := I_X4_lookAt) (As := [.int p1]) (st := st) (r := none) (S1 := S1) (c_X4_lookAt (q := (.inl none, S1)) hst ht hF) ok_X4_lookAt w (ci := 4) rfl ht.1 ht.2 rfl ⟨by rw [hRF]; exact h1, by rw [hRL]; exact h2⟩ hs d hp rfl k

abbrev I_X4_takeOut : z_I := (yX4_takeOut, cX4_takeOut, 3, none)
abbrev R_X4_takeOut (q : z_O × z_S) : Room := { frames := 5, locals := 169, cells := z_mc q.1, slots := 6 * z_mc q.1 }
def F_X4_takeOut_31 (B : Nat) (t : Nat)   (S : z_S) : Option (z_O × z_S) :=
  some (.inl none, S)
set_option maxRecDepth 20000 in
set_option maxHeartbeats 16000000 in
theorem ok_X4_takeOut_31 {l : Launch} {B : Nat} {t : Nat} {q : z_O × z_S} (hst : l.stackTraces = false) (ht : z_is 4 t) : ∀ (S : z_S), F_X4_takeOut_31 B t S = some q → z_W l I_X4_takeOut (R_X4_takeOut q) B q 31 [none, none, none] [] S := by
  intro S hF
  unfold F_X4_takeOut_31 at hF
  exact z_return rfl dX4_takeOut_31 (Option.some.inj hF).symm
def F_X4_takeOut (B : Nat) (t : Nat) (p1 : Int32) (S : z_S) : Option (z_O × z_S) :=
  z_bn (F_X4_slotOf B t p1 S) fun r1 S2 =>
  (if r1 = (-1) then
    F_X4_takeOut_31 B t S2
  else
    z_bo (F_X4_closeSlot B t (r1 / 14) (r1 - r1 / 14 * 14) S2) fun S5 =>
    (z_bo (F_X4_lookAt B t (r1 / 14) S5) fun S8 =>
    (F_X4_takeOut_31 B t S8)))
set_option maxRecDepth 20000 in
set_option maxHeartbeats 16000000 in
theorem c_X4_takeOut {l : Launch} {B : Nat} {t : Nat} {p1 : Int32} {S : z_S} {q : z_O × z_S} (hst : l.stackTraces = false) (ht : z_is 4 t) (hF : F_X4_takeOut B t p1 S = some q) : z_Met l I_X4_takeOut 5 169 B [.ref t, .int p1] S q.1 q.2 := by
  refine z_enter (ls := [some (.ref t), some (.int p1), none]) (n := 1) (by decide) rfl (Nat.le_of_ble_eq_true rfl) hst ?_
  unfold F_X4_takeOut at hF
  refine z_aload_n (pc' := 1) dX4_takeOut_0 rfl rfl rfl ?_
  refine z_iload_n (pc' := 2) dX4_takeOut_1 rfl rfl rfl ?_
  obtain ⟨r1, S2, hc3, hF⟩ := z_bne hF
  refine k_X4_slotOf (F := 5) (L := 169) (pc' := 5) ht hc3 hst zw_25 rfl rfl (by decide) (by decide) (by decide) dX4_takeOut_2 rfl ?_
  refine z_istore_n (pc' := 6) dX4_takeOut_5 rfl (by decide) rfl rfl ?_
  refine z_iload_n (pc' := 7) dX4_takeOut_6 rfl rfl rfl ?_
  refine z_iconst (v := (-1)) (pc' := 8) dX4_takeOut_7 (by decide) rfl ?_
  refine z_icmp_eq (tgt := 31) (pc' := 11) dX4_takeOut_8 (by decide) rfl (fun c10 => ?_) (fun c10 => ?_)
  · rw [if_pos c10] at hF
    refine z_wk (ls' := [none, none, none]) (z_len1 (z_len1 (z_len1 z_le0))) ?_
    exact (ok_X4_takeOut_31 hst ht) _ hF
  · rw [if_neg c10] at hF
    refine z_aload_n (pc' := 12) dX4_takeOut_11 rfl rfl rfl ?_
    refine z_iload_n (pc' := 13) dX4_takeOut_12 rfl rfl rfl ?_
    refine z_bipush (v := 14) (pc' := 15) dX4_takeOut_13 (by decide) rfl ?_
    refine z_idiv (pc' := 16) dX4_takeOut_15 (by decide) rfl ?_
    refine z_iload_n (pc' := 17) dX4_takeOut_16 rfl rfl rfl ?_
    refine z_bipush (v := 14) (pc' := 19) dX4_takeOut_17 (by decide) rfl ?_
    refine z_irem (pc' := 20) dX4_takeOut_19 (by decide) rfl ?_
    obtain ⟨S5, hc6, hF⟩ := z_boe hF
    refine k_X4_closeSlot (F := 5) (L := 169) (pc' := 23) ht hc6 hst zw_35 rfl rfl (by decide) (by decide) (by decide) dX4_takeOut_20 rfl ?_
    refine z_aload_n (pc' := 24) dX4_takeOut_23 rfl rfl rfl ?_
    refine z_iload_n (pc' := 25) dX4_takeOut_24 rfl rfl rfl ?_
    refine z_bipush (v := 14) (pc' := 27) dX4_takeOut_25 (by decide) rfl ?_
    refine z_idiv (pc' := 28) dX4_takeOut_27 (by decide) rfl ?_
    obtain ⟨S8, hc9, hF⟩ := z_boe hF
    refine k_X4_lookAt (F := 5) (L := 169) (pc' := 31) ht hc9 hst zw_43 rfl rfl (by decide) (by decide) (by decide) dX4_takeOut_28 rfl ?_
    refine z_wk (ls' := [none, none, none]) (z_len1 (z_len1 (z_len1 z_le0))) ?_
    exact (ok_X4_takeOut_31 hst ht) _ hF
theorem ok_X4_takeOut : z_okV I_X4_takeOut 1 := ⟨⟨z_Gin (List.mem_of_getElem? (i := 590) (by decide +kernel)) rfl, z_Gin (List.mem_of_getElem? (i := 591) (by decide +kernel)) rfl, z_Gin (List.mem_of_getElem? (i := 92) (by decide +kernel)) rfl, z_Gin (List.mem_of_getElem? (i := 592) (by decide +kernel)) rfl⟩, by decide, by decide, by decide +kernel⟩
theorem k_X4_takeOut {l : Launch} {I : z_I} {R : Room} {B : Nat} {t : Nat} {p1 : Int32} {q : z_O × z_S} {pc pc' : Nat} {ls : List (Option Value)} {st : List Value} {S S1 : z_S} {idx F L : Nat} (ht : z_is 4 t) (hF : F_X4_takeOut B t p1 S = some (.inl none, S1)) (hst : l.stackTraces = false) (w : Cond.methodLink I.1.cls idx yX4_takeOut ∈ z_G) (hRF : R.frames = F) (hRL : R.locals = L) (h1 : 6 ≤ F) (h2 : 191 ≤ L) (hs : (st.map fun v => v.category).sum ≤ 8) (d : decode I.2.1 pc = .ok (.invokevirtual idx, 3)) (hp : pc + 3 = pc') (k : z_W l I R B q pc' ls st S1) : z_W l I R B q pc ls (.int p1 :: .ref t :: st) S := z_callV (Y := I_X4_takeOut) (As := [.int p1]) (st := st) (r := none) (S1 := S1) (c_X4_takeOut (q := (.inl none, S1)) hst ht hF) ok_X4_takeOut w (ci := 4) rfl ht.1 ht.2 rfl ⟨by rw [hRF]; exact h1, by rw [hRL]; exact h2⟩ hs d hp rfl k

abbrev I_X4_reshape : z_I := (yX4_reshape, cX4_reshape, 6, some .boolean)
abbrev R_X4_reshape (q : z_O × z_S) : Room := { frames := 5, locals := 172, cells := z_mc q.1, slots := 6 * z_mc q.1 }
def F_X4_reshape_83 (B : Nat) (t : Nat)  (v2 : Int32) (v3 : Int32) (v4 : Int32) (S : z_S) : Option (z_O × z_S) :=
  if v3 ≤ v2 then
    z_bo (F_X4_lookAt B t v4 S) fun S2 =>
    (z_gd (z_b01 1) (some (.inl (some 1), S2)))
  else
    z_bn (F_X4_relieve B t v4 S) fun r5 S6 =>
    (z_gd (z_b01 r5) (some (.inl (some r5), S6)))
set_option maxRecDepth 20000 in
set_option maxHeartbeats 16000000 in
theorem ok_X4_reshape_83 {l : Launch} {B : Nat} {t : Nat} {q : z_O × z_S} (hst : l.stackTraces = false) (ht : z_is 4 t) : ∀ (v2 : Int32) (v3 : Int32) (v4 : Int32) (S : z_S), F_X4_reshape_83 B t v2 v3 v4 S = some q → z_W l I_X4_reshape (R_X4_reshape q) B q 83 [some (.ref t), none, some (.int v2), some (.int v3), some (.int v4), none] [] S := by
  intro v2 v3 v4 S hF
  unfold F_X4_reshape_83 at hF
  refine z_iload_n (pc' := 84) dX4_reshape_83 rfl rfl rfl ?_
  refine z_iload_n (pc' := 85) dX4_reshape_84 rfl rfl rfl ?_
  refine z_icmp_le (tgt := 95) (pc' := 88) dX4_reshape_85 (by decide) rfl (fun c9 => ?_) (fun c9 => ?_)
  · rw [if_pos c9] at hF
    refine z_aload_n (pc' := 96) dX4_reshape_95 rfl rfl rfl ?_
    refine z_iload (pc' := 98) dX4_reshape_96 rfl rfl ?_
    obtain ⟨S2, hc3, hF⟩ := z_boe hF
    refine k_X4_lookAt (F := 5) (L := 172) (pc' := 101) ht hc3 hst zw_43 rfl rfl (by decide) (by decide) (by decide) dX4_reshape_98 rfl ?_
    refine z_iconst (v := 1) (pc' := 102) dX4_reshape_101 (by decide) rfl ?_
    obtain ⟨g4, hF⟩ := z_gde hF
    exact z_zreturn rfl (z_b01e g4) dX4_reshape_102 (Option.some.inj hF).symm
  · rw [if_neg c9] at hF
    refine z_aload_n (pc' := 89) dX4_reshape_88 rfl rfl rfl ?_
    refine z_iload (pc' := 91) dX4_reshape_89 rfl rfl ?_
    obtain ⟨r5, S6, hc7, hF⟩ := z_bne hF
    refine k_X4_relieve (F := 5) (L := 172) (pc' := 94) ht hc7 hst zw_39 rfl rfl (by decide) (by decide) (by decide) dX4_reshape_91 rfl ?_
    obtain ⟨g8, hF⟩ := z_gde hF
    exact z_zreturn rfl (z_b01e g8) dX4_reshape_94 (Option.some.inj hF).symm
def F_X4_reshape (B : Nat) (t : Nat) (p1 : Int32) (p2 : Int32) (p3 : Int32) (S : z_S) : Option (z_O × z_S) :=
  if p2 = p3 then
    z_gd (z_b01 1) (some (.inl (some 1), S))
  else
    z_bn (F_X4_leafOf B t p1 S) fun r1 S2 =>
    (z_bn (F_X4_placeIn B t r1 p1 S2) fun r4 S5 =>
    (if p2 = 0 then
      z_bo (F_X4_openSlot B t r1 r4 p1 p3 (-1) S5) fun S18 =>
      (F_X4_reshape_83 B t p2 p3 r1 S18)
    else
      if p3 = 0 then
        z_bo (F_X4_closeSlot B t r1 r4 S5) fun S14 =>
        (F_X4_reshape_83 B t p2 p3 r1 S14)
      else
        z_gd (z_inb ((r1 * 14) + r4) (14 * B)) (
        z_lt (z_ua S5 (t + 10) (upd (S5.1 (t + 10)) (z_ix ((r1 * 14) + r4)) p3)) fun S8 =>
        (z_gd (z_inb r1 B) (
        z_lt (S8.1 (t + 4) (z_ix (r1))) fun x10 =>
        (z_gd (z_inb r1 B) (
        z_lt (z_ua S8 (t + 4) (upd (S8.1 (t + 4)) (z_ix (r1)) (x10 + (p3 - p2)))) fun S12 =>
        (F_X4_reshape_83 B t p2 p3 r1 S12))))))))
set_option maxRecDepth 20000 in
set_option maxHeartbeats 16000000 in
theorem c_X4_reshape {l : Launch} {B : Nat} {t : Nat} {p1 : Int32} {p2 : Int32} {p3 : Int32} {S : z_S} {q : z_O × z_S} (hst : l.stackTraces = false) (ht : z_is 4 t) (hF : F_X4_reshape B t p1 p2 p3 S = some q) : z_Met l I_X4_reshape 5 172 B [.ref t, .int p1, .int p2, .int p3] S q.1 q.2 := by
  refine z_enter (ls := [some (.ref t), some (.int p1), some (.int p2), some (.int p3), none, none]) (n := 2) (by decide) rfl (Nat.le_of_ble_eq_true rfl) hst ?_
  unfold F_X4_reshape at hF
  refine z_iload_n (pc' := 1) dX4_reshape_0 rfl rfl rfl ?_
  refine z_iload_n (pc' := 2) dX4_reshape_1 rfl rfl rfl ?_
  refine z_icmp_ne (tgt := 7) (pc' := 5) dX4_reshape_2 (by decide) rfl (fun c22 => ?_) (fun c22 => ?_)
  · rw [if_neg c22] at hF
    refine z_aload_n (pc' := 8) dX4_reshape_7 rfl rfl rfl ?_
    refine z_iload_n (pc' := 9) dX4_reshape_8 rfl rfl rfl ?_
    obtain ⟨r1, S2, hc3, hF⟩ := z_bne hF
    refine k_X4_leafOf (F := 5) (L := 172) (pc' := 12) ht hc3 hst zw_23 rfl rfl (by decide) (by decide) (by decide) dX4_reshape_9 rfl ?_
    refine z_istore (pc' := 14) dX4_reshape_12 (by decide) rfl rfl ?_
    refine z_aload_n (pc' := 15) dX4_reshape_14 rfl rfl rfl ?_
    refine z_iload (pc' := 17) dX4_reshape_15 rfl rfl ?_
    refine z_iload_n (pc' := 18) dX4_reshape_17 rfl rfl rfl ?_
    obtain ⟨r4, S5, hc6, hF⟩ := z_bne hF
    refine k_X4_placeIn (F := 5) (L := 172) (pc' := 21) ht hc6 hst zw_24 rfl rfl (by decide) (by decide) (by decide) dX4_reshape_18 rfl ?_
    refine z_istore (pc' := 23) dX4_reshape_21 (by decide) rfl rfl ?_
    refine z_iload_n (pc' := 24) dX4_reshape_23 rfl rfl rfl ?_
    refine z_if_ne (tgt := 41) (pc' := 27) dX4_reshape_24 (by decide) rfl (fun c20 => ?_) (fun c20 => ?_)
    · rw [if_neg c20] at hF
      refine z_iload_n (pc' := 42) dX4_reshape_41 rfl rfl rfl ?_
      refine z_if_ne (tgt := 56) (pc' := 45) dX4_reshape_42 (by decide) rfl (fun c16 => ?_) (fun c16 => ?_)
      · rw [if_neg c16] at hF
        refine z_aload_n (pc' := 57) dX4_reshape_56 rfl rfl rfl ?_
        refine gf_X4_43 (b := t + 10) (pc' := 60) rfl ht rfl dX4_reshape_57 rfl ?_
        refine z_iload (pc' := 62) dX4_reshape_60 rfl rfl ?_
        refine z_bipush (v := 14) (pc' := 64) dX4_reshape_62 (by decide) rfl ?_
        refine z_imul (pc' := 65) dX4_reshape_64 rfl ?_
        refine z_iload (pc' := 67) dX4_reshape_65 rfl rfl ?_
        refine z_iadd (pc' := 68) dX4_reshape_67 rfl ?_
        refine z_iload_n (pc' := 69) dX4_reshape_68 rfl rfl rfl ?_
        obtain ⟨g7, hF⟩ := z_gde hF
        refine z_iastore (pc' := 70) (ar_4_f10 ht) (z_inbe g7) dX4_reshape_69 rfl (fun S8 eS8 => ?_)
        replace hF := z_lte hF S8 eS8
        refine z_aload_n (pc' := 71) dX4_reshape_70 rfl rfl rfl ?_
        refine gf_X4_25 (b := t + 4) (pc' := 74) rfl ht rfl dX4_reshape_71 rfl ?_
        refine z_iload (pc' := 76) dX4_reshape_74 rfl rfl ?_
        refine z_dup2 (pc' := 77) dX4_reshape_76 rfl ?_
        obtain ⟨g9, hF⟩ := z_gde hF
        refine z_iaload (pc' := 78) (ar_4_f4 ht) (z_inbe g9) dX4_reshape_77 rfl ?_
        refine z_topi (fun x10 ex10 => ?_)
        replace hF := z_lte hF x10 ex10
        refine z_iload_n (pc' := 79) dX4_reshape_78 rfl rfl rfl ?_
        refine z_iload_n (pc' := 80) dX4_reshape_79 rfl rfl rfl ?_
        refine z_isub (pc' := 81) dX4_reshape_80 rfl ?_
        refine z_iadd (pc' := 82) dX4_reshape_81 rfl ?_
        obtain ⟨g11, hF⟩ := z_gde hF
        refine z_iastore (pc' := 83) (ar_4_f4 ht) (z_inbe g11) dX4_reshape_82 rfl (fun S12 eS12 => ?_)
        replace hF := z_lte hF S12 eS12
        refine z_wk (ls' := [some (.ref t), none, some (.int p2), some (.int p3), some (.int r1), none]) (z_lec rfl (z_len1 (z_lec rfl (z_lec rfl (z_lec rfl (z_len1 z_le0)))))) ?_
        exact (ok_X4_reshape_83 hst ht) _ _ _ _ hF
      · rw [if_pos c16] at hF
        refine z_aload_n (pc' := 46) dX4_reshape_45 rfl rfl rfl ?_
        refine z_iload (pc' := 48) dX4_reshape_46 rfl rfl ?_
        refine z_iload (pc' := 50) dX4_reshape_48 rfl rfl ?_
        obtain ⟨S14, hc15, hF⟩ := z_boe hF
        refine k_X4_closeSlot (F := 5) (L := 172) (pc' := 53) ht hc15 hst zw_35 rfl rfl (by decide) (by decide) (by decide) dX4_reshape_50 rfl ?_
        refine z_goto (pc' := 83) dX4_reshape_53 (by decide) ?_
        refine z_wk (ls' := [some (.ref t), none, some (.int p2), some (.int p3), some (.int r1), none]) (z_lec rfl (z_len1 (z_lec rfl (z_lec rfl (z_lec rfl (z_len1 z_le0)))))) ?_
        exact (ok_X4_reshape_83 hst ht) _ _ _ _ hF
    · rw [if_pos c20] at hF
      refine z_aload_n (pc' := 28) dX4_reshape_27 rfl rfl rfl ?_
      refine z_iload (pc' := 30) dX4_reshape_28 rfl rfl ?_
      refine z_iload (pc' := 32) dX4_reshape_30 rfl rfl ?_
      refine z_iload_n (pc' := 33) dX4_reshape_32 rfl rfl rfl ?_
      refine z_iload_n (pc' := 34) dX4_reshape_33 rfl rfl rfl ?_
      refine z_iconst (v := (-1)) (pc' := 35) dX4_reshape_34 (by decide) rfl ?_
      obtain ⟨S18, hc19, hF⟩ := z_boe hF
      refine k_X4_openSlot (F := 5) (L := 172) (pc' := 38) ht hc19 hst zw_34 rfl rfl (by decide) (by decide) (by decide) dX4_reshape_35 rfl ?_
      refine z_goto (pc' := 83) dX4_reshape_38 (by decide) ?_
      refine z_wk (ls' := [some (.ref t), none, some (.int p2), some (.int p3), some (.int r1), none]) (z_lec rfl (z_len1 (z_lec rfl (z_lec rfl (z_lec rfl (z_len1 z_le0)))))) ?_
      exact (ok_X4_reshape_83 hst ht) _ _ _ _ hF
  · rw [if_pos c22] at hF
    refine z_iconst (v := 1) (pc' := 6) dX4_reshape_5 (by decide) rfl ?_
    obtain ⟨g21, hF⟩ := z_gde hF
    exact z_zreturn rfl (z_b01e g21) dX4_reshape_6 (Option.some.inj hF).symm
theorem ok_X4_reshape : z_okV I_X4_reshape 3 := ⟨⟨z_Gin (List.mem_of_getElem? (i := 635) (by decide +kernel)) rfl, z_Gin (List.mem_of_getElem? (i := 636) (by decide +kernel)) rfl, z_Gin (List.mem_of_getElem? (i := 92) (by decide +kernel)) rfl, z_Gin (List.mem_of_getElem? (i := 637) (by decide +kernel)) rfl⟩, by decide, by decide, by decide +kernel⟩
theorem k_X4_reshape {l : Launch} {I : z_I} {R : Room} {B : Nat} {t : Nat} {p1 : Int32} {p2 : Int32} {p3 : Int32} {q : z_O × z_S} {pc pc' : Nat} {ls : List (Option Value)} {st : List Value} {S S1 : z_S} {idx F L : Nat} {r : Int32} (ht : z_is 4 t) (hF : F_X4_reshape B t p1 p2 p3 S = some (.inl (some r), S1)) (hst : l.stackTraces = false) (w : Cond.methodLink I.1.cls idx yX4_reshape ∈ z_G) (hRF : R.frames = F) (hRL : R.locals = L) (h1 : 6 ≤ F) (h2 : 197 ≤ L) (hs : (st.map fun v => v.category).sum ≤ 8) (d : decode I.2.1 pc = .ok (.invokevirtual idx, 3)) (hp : pc + 3 = pc') (k : z_W l I R B q pc' ls (.int r :: st) S1) : z_W l I R B q pc ls (.int p3 :: .int p2 :: .int p1 :: .ref t :: st) S := z_callV (Y := I_X4_reshape) (As := [.int p1, .int p2, .int p3]) (st := st) (r := (some r)) (S1 := S1) (c_X4_reshape (q := (.inl (some r), S1)) hst ht hF) ok_X4_reshape w (ci := 4) rfl ht.1 ht.2 rfl ⟨by rw [hRF]; exact h1, by rw [hRL]; exact h2⟩ hs d hp rfl k

abbrev I_X5_keep : z_I := (yX5_keep, cX5_keep, 1, none)
abbrev R_X5_keep (q : z_O × z_S) : Room := { frames := 2, locals := 89, cells := z_mc q.1, slots := 6 * z_mc q.1 }
def F_X5_keep (B : Nat)  (S : z_S) : Option (z_O × z_S) :=
  z_bo (F_X4_copyFrom B 43 2 S) fun S2 =>
  (some (.inl none, S2))
set_option maxRecDepth 20000 in
set_option maxHeartbeats 16000000 in
theorem c_X5_keep {l : Launch} {B : Nat}  {S : z_S} {q : z_O × z_S} (hst : l.stackTraces = false) (hF : F_X5_keep B S = some q) : z_Met l I_X5_keep 2 89 B [.ref 0] S q.1 q.2 := by
  refine z_enter (ls := [some (.ref 0)]) (n := 0) (by decide) rfl (Nat.le_of_ble_eq_true rfl) hst ?_
  unfold F_X5_keep at hF
  refine z_aload_n (pc' := 1) dX5_keep_0 rfl rfl rfl ?_
  refine gf_X5_32 (b := 43) (pc' := 4) rfl is_5_0 rfl dX5_keep_1 rfl ?_
  refine z_aload_n (pc' := 5) dX5_keep_4 rfl rfl rfl ?_
  refine gf_X5_22 (b := 1) (pc' := 8) rfl is_5_0 rfl dX5_keep_5 rfl ?_
  refine gf_X5_92 (b := 2) (pc' := 11) rfl (is_5_f1 is_5_0) rfl dX5_keep_8 rfl ?_
  obtain ⟨S2, hc3, hF⟩ := z_boe hF
  refine k_X4_copyFrom (F := 2) (L := 89) (pc' := 14) (is_5_f3 is_5_0) (is_0_f0 (is_5_f1 is_5_0)) hc3 hst zw_44 rfl rfl (by decide) (by decide) (by decide) dX5_keep_11 rfl ?_
  exact z_return rfl dX5_keep_14 (Option.some.inj hF).symm
theorem ok_X5_keep : z_okV I_X5_keep 0 := ⟨⟨z_Gin (List.mem_of_getElem? (i := 501) (by decide +kernel)) rfl, z_Gin (List.mem_of_getElem? (i := 9) (by decide +kernel)) rfl, z_Gin (List.mem_of_getElem? (i := 89) (by decide +kernel)) rfl, z_Gin (List.mem_of_getElem? (i := 502) (by decide +kernel)) rfl⟩, by decide, by decide, by decide +kernel⟩
theorem k_X5_keep {l : Launch} {I : z_I} {R : Room} {B : Nat}  {q : z_O × z_S} {pc pc' : Nat} {ls : List (Option Value)} {st : List Value} {S S1 : z_S} {idx F L : Nat}  (hF : F_X5_keep B S = some (.inl none, S1)) (hst : l.stackTraces = false) (w : Cond.methodLink I.1.cls idx yX5_keep ∈ z_G) (hRF : R.frames = F) (hRL : R.locals = L) (h1 : 3 ≤ F) (h2 : 109 ≤ L) (hs : (st.map fun v => v.category).sum ≤ 8) (d : decode I.2.1 pc = .ok (.invokevirtual idx, 3)) (hp : pc + 3 = pc') (k : z_W l I R B q pc' ls st S1) : z_W l I R B q pc ls (.ref 0 :: st) S := z_callV (Y := I_X5_keep) (As := []) (st := st) (r := none) (S1 := S1) (c_X5_keep (q := (.inl none, S1)) hst hF) ok_X5_keep w (ci := 5) rfl is_5_0.1 is_5_0.2 rfl ⟨by rw [hRF]; exact h1, by rw [hRL]; exact h2⟩ hs d hp rfl k

abbrev I_X5_keyOf : z_I := (yX5_keyOf, cX5_keyOf, 3, some .int)
abbrev R_X5_keyOf (q : z_O × z_S) : Room := { frames := 0, locals := 0, cells := z_mc q.1, slots := 6 * z_mc q.1 }
def F_X5_keyOf (B : Nat) (p0 : Int32) (p1 : Int32) (p2 : Int32) (S : z_S) : Option (z_O × z_S) :=
  some (.inl (some ((((p0 * 4) + p1) * 1000) + p2)), S)
set_option maxRecDepth 20000 in
set_option maxHeartbeats 16000000 in
theorem c_X5_keyOf {l : Launch} {B : Nat} {p0 : Int32} {p1 : Int32} {p2 : Int32} {S : z_S} {q : z_O × z_S} (hst : l.stackTraces = false) (hF : F_X5_keyOf B p0 p1 p2 S = some q) : z_Met l I_X5_keyOf 0 0 B [.int p0, .int p1, .int p2] S q.1 q.2 := by
  refine z_enter (ls := [some (.int p0), some (.int p1), some (.int p2)]) (n := 0) (by decide) rfl (Nat.le_of_ble_eq_true rfl) hst ?_
  unfold F_X5_keyOf at hF
  refine z_iload_n (pc' := 1) dX5_keyOf_0 rfl rfl rfl ?_
  refine z_iconst (v := 4) (pc' := 2) dX5_keyOf_1 (by decide) rfl ?_
  refine z_imul (pc' := 3) dX5_keyOf_2 rfl ?_
  refine z_iload_n (pc' := 4) dX5_keyOf_3 rfl rfl rfl ?_
  refine z_iadd (pc' := 5) dX5_keyOf_4 rfl ?_
  refine z_sipush (v := 1000) (pc' := 8) dX5_keyOf_5 (by decide) rfl ?_
  refine z_imul (pc' := 9) dX5_keyOf_8 rfl ?_
  refine z_iload_n (pc' := 10) dX5_keyOf_9 rfl rfl rfl ?_
  refine z_iadd (pc' := 11) dX5_keyOf_10 rfl ?_
  exact z_ireturn rfl dX5_keyOf_11 (Option.some.inj hF).symm
theorem ok_X5_keyOf : z_okS I_X5_keyOf 3 := ⟨⟨z_Gin (List.mem_of_getElem? (i := 140) (by decide +kernel)) rfl, z_Gin (List.mem_of_getElem? (i := 89) (by decide +kernel)) rfl, z_Gin (List.mem_of_getElem? (i := 141) (by decide +kernel)) rfl⟩, by decide, by decide, by decide +kernel⟩
theorem k_X5_keyOf {l : Launch} {I : z_I} {R : Room} {B : Nat} {p0 : Int32} {p1 : Int32} {p2 : Int32} {q : z_O × z_S} {pc pc' : Nat} {ls : List (Option Value)} {st : List Value} {S S1 : z_S} {idx F L : Nat} {r : Int32}  (hF : F_X5_keyOf B p0 p1 p2 S = some (.inl (some r), S1)) (hst : l.stackTraces = false) (w : Cond.methodLink I.1.cls idx yX5_keyOf ∈ z_G) (hRF : R.frames = F) (hRL : R.locals = L) (h1 : 1 ≤ F) (h2 : 22 ≤ L) (hs : (st.map fun v => v.category).sum ≤ 8) (d : decode I.2.1 pc = .ok (.invokestatic idx, 3)) (hp : pc + 3 = pc') (k : z_W l I R B q pc' ls (.int r :: st) S1) : z_W l I R B q pc ls (.int p2 :: .int p1 :: .int p0 :: st) S := z_callS (Y := I_X5_keyOf) (As := [.int p0, .int p1, .int p2]) (st := st) (r := (some r)) (S1 := S1) (c_X5_keyOf (q := (.inl (some r), S1)) hst hF) ok_X5_keyOf w rfl ⟨by rw [hRF]; exact h1, by rw [hRL]; exact h2⟩ hs d hp rfl k
theorem kn_X5_keyOf {l : Launch} {I : z_I} {R : Room} {B : Nat} {p0 : Int32} {p1 : Int32} {p2 : Int32} {q : z_O × z_S} {pc pc' : Nat} {ls : List (Option Value)} {st : List Value} {S S1 : z_S} {idx F L : Nat} {r : Int32}  (hF : F_X5_keyOf B p0 p1 p2 S = some (.inl (some r), S1)) (hst : l.stackTraces = false) (w : (I.1.cls, idx, yX5_keyOf, "PackedTree") ∈ z_nest) (hRF : R.frames = F) (hRL : R.locals = L) (h1 : 1 ≤ F) (h2 : 22 ≤ L) (hs : (st.map fun v => v.category).sum ≤ 8) (d : decode I.2.1 pc = .ok (.invokestatic idx, 3)) (hp : pc + 3 = pc') (k : z_W l I R B q pc' ls (.int r :: st) S1) : z_W l I R B q pc ls (.int p2 :: .int p1 :: .int p0 :: st) S := z_callN (Y := I_X5_keyOf) (As := [.int p0, .int p1, .int p2]) (st := st) (r := (some r)) (S1 := S1) (host := "PackedTree") (c_X5_keyOf (q := (.inl (some r), S1)) hst hF) ok_X5_keyOf w rfl ⟨by rw [hRF]; exact h1, by rw [hRL]; exact h2⟩ hs d hp rfl k

abbrev I_X5_needDirectory : z_I := (yX5_needDirectory, cX5_needDirectory, 2, none)
abbrev R_X5_needDirectory (q : z_O × z_S) : Room := { frames := 6, locals := 90, cells := z_mc q.1, slots := 6 * z_mc q.1 }
def F_X5_needDirectory_29 (B : Nat)   (S : z_S) : Option (z_O × z_S) :=
  some (.inr "java/lang/IndexOutOfBoundsException", S)
set_option maxRecDepth 20000 in
set_option maxHeartbeats 16000000 in
theorem ok_X5_needDirectory_29 {l : Launch} {B : Nat} {q : z_O × z_S} (hst : l.stackTraces = false) : ∀ (S : z_S), F_X5_needDirectory_29 B S = some q → z_W l I_X5_needDirectory (R_X5_needDirectory q) B q 29 [none, none] [] S := by
  intro S hF
  unfold F_X5_needDirectory_29 at hF
  exact z_throwSW (text := "no such directory") (names := ["java/lang/RuntimeException", "java/lang/Exception"]) rfl (Option.some.inj hF).symm (by decide +kernel) (by decide +kernel) (by decide +kernel) zw_46 zw_47 z_at_168 dX5_needDirectory_29 dX5_needDirectory_32 dX5_needDirectory_33 dX5_needDirectory_36 dX5_needDirectory_39 ⟨by show (_ : Nat) ≤ 6; decide, by show (_ : Nat) ≤ 90; decide⟩ ⟨rfl, rfl⟩
def F_X5_needDirectory (B : Nat) (p1 : Int32) (S : z_S) : Option (z_O × z_S) :=
  z_bn (F_X2_isThere B 14 p1 S) fun r1 S2 =>
  (if r1 = 0 then
    F_X5_needDirectory_29 B S2
  else
    z_gd (z_inb p1 61) (
    z_lt (S2.1 15 (z_ix (p1))) fun x5 =>
    (if x5 = 0 then
      some (.inl none, S2)
    else
      F_X5_needDirectory_29 B S2)))
set_option maxRecDepth 20000 in
set_option maxHeartbeats 16000000 in
theorem c_X5_needDirectory {l : Launch} {B : Nat} {p1 : Int32} {S : z_S} {q : z_O × z_S} (hst : l.stackTraces = false) (hF : F_X5_needDirectory B p1 S = some q) : z_Met l I_X5_needDirectory 6 90 B [.ref 0, .int p1] S q.1 q.2 := by
  refine z_enter (ls := [some (.ref 0), some (.int p1)]) (n := 0) (by decide) rfl (Nat.le_of_ble_eq_true rfl) hst ?_
  unfold F_X5_needDirectory at hF
  refine z_aload_n (pc' := 1) dX5_needDirectory_0 rfl rfl rfl ?_
  refine gf_X5_22 (b := 1) (pc' := 4) rfl is_5_0 rfl dX5_needDirectory_1 rfl ?_
  refine gf_X5_72 (b := 14) (pc' := 7) rfl (is_5_f1 is_5_0) rfl dX5_needDirectory_4 rfl ?_
  refine z_iload_n (pc' := 8) dX5_needDirectory_7 rfl rfl rfl ?_
  obtain ⟨r1, S2, hc3, hF⟩ := z_bne hF
  refine k_X2_isThere (F := 6) (L := 90) (pc' := 11) (is_0_f1 (is_5_f1 is_5_0)) hc3 hst zw_45 rfl rfl (by decide) (by decide) (by decide) dX5_needDirectory_8 rfl ?_
  refine z_if_eq (tgt := 29) (pc' := 14) dX5_needDirectory_11 (by decide) rfl (fun c7 => ?_) (fun c7 => ?_)
  · rw [if_pos c7] at hF
    refine z_wk (ls' := [none, none]) (z_len1 (z_len1 z_le0)) ?_
    exact (ok_X5_needDirectory_29 hst) _ hF
  · rw [if_neg c7] at hF
    refine z_aload_n (pc' := 15) dX5_needDirectory_14 rfl rfl rfl ?_
    refine gf_X5_22 (b := 1) (pc' := 18) rfl is_5_0 rfl dX5_needDirectory_15 rfl ?_
    refine gf_X5_72 (b := 14) (pc' := 21) rfl (is_5_f1 is_5_0) rfl dX5_needDirectory_18 rfl ?_
    refine gf_X5_124 (b := 15) (pc' := 24) rfl (is_0_f1 (is_5_f1 is_5_0)) rfl dX5_needDirectory_21 rfl ?_
    refine z_iload_n (pc' := 25) dX5_needDirectory_24 rfl rfl rfl ?_
    obtain ⟨g4, hF⟩ := z_gde hF
    refine z_iaload (pc' := 26) (ar_2_f0 (is_0_f1 (is_5_f1 is_5_0))) (z_inbe g4) dX5_needDirectory_25 rfl ?_
    refine z_topi (fun x5 ex5 => ?_)
    replace hF := z_lte hF x5 ex5
    refine z_if_eq (tgt := 40) (pc' := 29) dX5_needDirectory_26 (by decide) rfl (fun c6 => ?_) (fun c6 => ?_)
    · rw [if_pos c6] at hF
      exact z_return rfl dX5_needDirectory_40 (Option.some.inj hF).symm
    · rw [if_neg c6] at hF
      refine z_wk (ls' := [none, none]) (z_len1 (z_len1 z_le0)) ?_
      exact (ok_X5_needDirectory_29 hst) _ hF
theorem ok_X5_needDirectory : z_okV I_X5_needDirectory 1 := ⟨⟨z_Gin (List.mem_of_getElem? (i := 411) (by decide +kernel)) rfl, z_Gin (List.mem_of_getElem? (i := 3) (by decide +kernel)) rfl, z_Gin (List.mem_of_getElem? (i := 89) (by decide +kernel)) rfl, z_Gin (List.mem_of_getElem? (i := 412) (by decide +kernel)) rfl⟩, by decide, by decide, by decide +kernel⟩
theorem k_X5_needDirectory {l : Launch} {I : z_I} {R : Room} {B : Nat} {p1 : Int32} {q : z_O × z_S} {pc pc' : Nat} {ls : List (Option Value)} {st : List Value} {S S1 : z_S} {idx F L : Nat}  (hF : F_X5_needDirectory B p1 S = some (.inl none, S1)) (hst : l.stackTraces = false) (w : Cond.methodLink I.1.cls idx yX5_needDirectory ∈ z_G) (hRF : R.frames = F) (hRL : R.locals = L) (h1 : 7 ≤ F) (h2 : 111 ≤ L) (hs : (st.map fun v => v.category).sum ≤ 8) (d : decode I.2.1 pc = .ok (.invokevirtual idx, 3)) (hp : pc + 3 = pc') (k : z_W l I R B q pc' ls st S1) : z_W l I R B q pc ls (.int p1 :: .ref 0 :: st) S := z_callV (Y := I_X5_needDirectory) (As := [.int p1]) (st := st) (r := none) (S1 := S1) (c_X5_needDirectory (q := (.inl none, S1)) hst hF) ok_X5_needDirectory w (ci := 5) rfl is_5_0.1 is_5_0.2 rfl ⟨by rw [hRF]; exact h1, by rw [hRL]; exact h2⟩ hs d hp rfl k
theorem kx_X5_needDirectory {l : Launch} {I : z_I} {R : Room} {B : Nat} {p1 : Int32} {q : z_O × z_S} {pc : Nat} {ls : List (Option Value)} {st : List Value} {S S1 : z_S} {idx F L : Nat} {E : String}  (hF : F_X5_needDirectory B p1 S = some (.inr E, S1)) (hq : q = (.inr E, S1)) (hst : l.stackTraces = false) (w : Cond.methodLink I.1.cls idx yX5_needDirectory ∈ z_G) (hRF : R.frames = F) (hRL : R.locals = L) (h1 : 7 ≤ F) (h2 : 111 ≤ L) (hRc : R.cells = z_mc q.1 ∧ R.slots = 6 * z_mc q.1) (hs : (st.map fun v => v.category).sum ≤ 8) (d : decode I.2.1 pc = .ok (.invokevirtual idx, 3)) : z_W l I R B q pc ls (.int p1 :: .ref 0 :: st) S := z_callVX (Y := I_X5_needDirectory) (As := [.int p1]) (st := st) (E := E) (S1 := S1) (c_X5_needDirectory (q := (.inr E, S1)) hst hF) hq ok_X5_needDirectory w (ci := 5) rfl is_5_0.1 is_5_0.2 rfl ⟨by rw [hRF]; exact h1, by rw [hRL]; exact h2⟩ hRc hs d rfl

abbrev I_X5_needName : z_I := (yX5_needName, cX5_needName, 2, none)
abbrev R_X5_needName (q : z_O × z_S) : Room := { frames := 6, locals := 90, cells := z_mc q.1, slots := 6 * z_mc q.1 }
def F_X5_needName_11 (B : Nat)   (S : z_S) : Option (z_O × z_S) :=
  some (.inr "java/lang/IllegalArgumentException", S)
set_option maxRecDepth 20000 in
set_option maxHeartbeats 16000000 in
theorem ok_X5_needName_11 {l : Launch} {B : Nat} {q : z_O × z_S} (hst : l.stackTraces = false) : ∀ (S : z_S), F_X5_needName_11 B S = some q → z_W l I_X5_needName (R_X5_needName q) B q 11 [none, none] [] S := by
  intro S hF
  unfold F_X5_needName_11 at hF
  exact z_throwSW (text := "no name") (names := ["java/lang/RuntimeException", "java/lang/Exception"]) rfl (Option.some.inj hF).symm (by decide +kernel) (by decide +kernel) (by decide +kernel) zw_48 zw_49 z_at_159 dX5_needName_11 dX5_needName_14 dX5_needName_15 dX5_needName_18 dX5_needName_21 ⟨by show (_ : Nat) ≤ 6; decide, by show (_ : Nat) ≤ 90; decide⟩ ⟨rfl, rfl⟩
def F_X5_needName (B : Nat) (p1 : Int32) (S : z_S) : Option (z_O × z_S) :=
  if p1 < 0 then
    F_X5_needName_11 B S
  else
    if p1 < 1000 then
      some (.inl none, S)
    else
      F_X5_needName_11 B S
set_option maxRecDepth 20000 in
set_option maxHeartbeats 16000000 in
theorem c_X5_needName {l : Launch} {B : Nat} {p1 : Int32} {S : z_S} {q : z_O × z_S} (hst : l.stackTraces = false) (hF : F_X5_needName B p1 S = some q) : z_Met l I_X5_needName 6 90 B [.ref 0, .int p1] S q.1 q.2 := by
  refine z_enter (ls := [some (.ref 0), some (.int p1)]) (n := 0) (by decide) rfl (Nat.le_of_ble_eq_true rfl) hst ?_
  unfold F_X5_needName at hF
  refine z_iload_n (pc' := 1) dX5_needName_0 rfl rfl rfl ?_
  refine z_if_lt (tgt := 11) (pc' := 4) dX5_needName_1 (by decide) rfl (fun c2 => ?_) (fun c2 => ?_)
  · rw [if_pos c2] at hF
    refine z_wk (ls' := [none, none]) (z_len1 (z_len1 z_le0)) ?_
    exact (ok_X5_needName_11 hst) _ hF
  · rw [if_neg c2] at hF
    refine z_iload_n (pc' := 5) dX5_needName_4 rfl rfl rfl ?_
    refine z_sipush (v := 1000) (pc' := 8) dX5_needName_5 (by decide) rfl ?_
    refine z_icmp_lt (tgt := 22) (pc' := 11) dX5_needName_8 (by decide) rfl (fun c1 => ?_) (fun c1 => ?_)
    · rw [if_pos c1] at hF
      exact z_return rfl dX5_needName_22 (Option.some.inj hF).symm
    · rw [if_neg c1] at hF
      refine z_wk (ls' := [none, none]) (z_len1 (z_len1 z_le0)) ?_
      exact (ok_X5_needName_11 hst) _ hF
theorem ok_X5_needName : z_okV I_X5_needName 1 := ⟨⟨z_Gin (List.mem_of_getElem? (i := 435) (by decide +kernel)) rfl, z_Gin (List.mem_of_getElem? (i := 4) (by decide +kernel)) rfl, z_Gin (List.mem_of_getElem? (i := 89) (by decide +kernel)) rfl, z_Gin (List.mem_of_getElem? (i := 436) (by decide +kernel)) rfl⟩, by decide, by decide, by decide +kernel⟩
theorem k_X5_needName {l : Launch} {I : z_I} {R : Room} {B : Nat} {p1 : Int32} {q : z_O × z_S} {pc pc' : Nat} {ls : List (Option Value)} {st : List Value} {S S1 : z_S} {idx F L : Nat}  (hF : F_X5_needName B p1 S = some (.inl none, S1)) (hst : l.stackTraces = false) (w : Cond.methodLink I.1.cls idx yX5_needName ∈ z_G) (hRF : R.frames = F) (hRL : R.locals = L) (h1 : 7 ≤ F) (h2 : 111 ≤ L) (hs : (st.map fun v => v.category).sum ≤ 8) (d : decode I.2.1 pc = .ok (.invokevirtual idx, 3)) (hp : pc + 3 = pc') (k : z_W l I R B q pc' ls st S1) : z_W l I R B q pc ls (.int p1 :: .ref 0 :: st) S := z_callV (Y := I_X5_needName) (As := [.int p1]) (st := st) (r := none) (S1 := S1) (c_X5_needName (q := (.inl none, S1)) hst hF) ok_X5_needName w (ci := 5) rfl is_5_0.1 is_5_0.2 rfl ⟨by rw [hRF]; exact h1, by rw [hRL]; exact h2⟩ hs d hp rfl k
theorem kx_X5_needName {l : Launch} {I : z_I} {R : Room} {B : Nat} {p1 : Int32} {q : z_O × z_S} {pc : Nat} {ls : List (Option Value)} {st : List Value} {S S1 : z_S} {idx F L : Nat} {E : String}  (hF : F_X5_needName B p1 S = some (.inr E, S1)) (hq : q = (.inr E, S1)) (hst : l.stackTraces = false) (w : Cond.methodLink I.1.cls idx yX5_needName ∈ z_G) (hRF : R.frames = F) (hRL : R.locals = L) (h1 : 7 ≤ F) (h2 : 111 ≤ L) (hRc : R.cells = z_mc q.1 ∧ R.slots = 6 * z_mc q.1) (hs : (st.map fun v => v.category).sum ≤ 8) (d : decode I.2.1 pc = .ok (.invokevirtual idx, 3)) : z_W l I R B q pc ls (.int p1 :: .ref 0 :: st) S := z_callVX (Y := I_X5_needName) (As := [.int p1]) (st := st) (E := E) (S1 := S1) (c_X5_needName (q := (.inr E, S1)) hst hF) hq ok_X5_needName w (ci := 5) rfl is_5_0.1 is_5_0.2 rfl ⟨by rw [hRF]; exact h1, by rw [hRL]; exact h2⟩ hRc hs d rfl

abbrev I_X5_toldBy : z_I := (yX5_toldBy, cX5_toldBy, 4, some .int)
abbrev R_X5_toldBy (q : z_O × z_S) : Room := { frames := 3, locals := 71, cells := z_mc q.1, slots := 6 * z_mc q.1 }
def F_X5_toldBy_51 (B : Nat)  (s0 : Int32) (S : z_S) : Option (z_O × z_S) :=
  some (.inl (some s0), S)
set_option maxRecDepth 20000 in
set_option maxHeartbeats 16000000 in
theorem ok_X5_toldBy_51 {l : Launch} {B : Nat} {q : z_O × z_S} (hst : l.stackTraces = false) : ∀ (s0 : Int32) (S : z_S), F_X5_toldBy_51 B s0 S = some q → z_W l I_X5_toldBy (R_X5_toldBy q) B q 51 [none, none, none, none] [.int s0] S := by
  intro s0 S hF
  unfold F_X5_toldBy_51 at hF
  exact z_ireturn rfl dX5_toldBy_51 (Option.some.inj hF).symm
def F_X5_toldBy_11 (B : Nat)   (S : z_S) : Option (z_O × z_S) :=
  some (.inl (some (-1)), S)
set_option maxRecDepth 20000 in
set_option maxHeartbeats 16000000 in
theorem ok_X5_toldBy_11 {l : Launch} {B : Nat} {q : z_O × z_S} (hst : l.stackTraces = false) : ∀ (S : z_S), F_X5_toldBy_11 B S = some q → z_W l I_X5_toldBy (R_X5_toldBy q) B q 11 [none, none, none, none] [] S := by
  intro S hF
  unfold F_X5_toldBy_11 at hF
  refine z_iconst (v := (-1)) (pc' := 12) dX5_toldBy_11 (by decide) rfl ?_
  exact z_ireturn rfl dX5_toldBy_12 (Option.some.inj hF).symm
def F_X5_toldBy (B : Nat) (p1 : Int32) (p2 : Int32) (S : z_S) : Option (z_O × z_S) :=
  if p2 < 0 then
    F_X5_toldBy_11 B S
  else
    if p2 < 1000 then
      z_bn (F_X5_keyOf B p1 1 p2 S) fun r1 S2 =>
      (z_bn (F_X4_slotOf B 2 r1 S2) fun r4 S5 =>
      (if r4 = (-1) then
        F_X5_toldBy_51 B (-1) S5
      else
        z_gd (z_inb r4 (14 * B)) (
        z_lt (S5.1 13 (z_ix (r4))) fun x8 =>
        (F_X5_toldBy_51 B x8 S5))))
    else
      F_X5_toldBy_11 B S
set_option maxRecDepth 20000 in
set_option maxHeartbeats 16000000 in
theorem c_X5_toldBy {l : Launch} {B : Nat} {p1 : Int32} {p2 : Int32} {S : z_S} {q : z_O × z_S} (hst : l.stackTraces = false) (hF : F_X5_toldBy B p1 p2 S = some q) : z_Met l I_X5_toldBy 3 71 B [.ref 0, .int p1, .int p2] S q.1 q.2 := by
  refine z_enter (ls := [some (.ref 0), some (.int p1), some (.int p2), none]) (n := 1) (by decide) rfl (Nat.le_of_ble_eq_true rfl) hst ?_
  unfold F_X5_toldBy at hF
  refine z_iload_n (pc' := 1) dX5_toldBy_0 rfl rfl rfl ?_
  refine z_if_lt (tgt := 11) (pc' := 4) dX5_toldBy_1 (by decide) rfl (fun c11 => ?_) (fun c11 => ?_)
  · rw [if_pos c11] at hF
    refine z_wk (ls' := [none, none, none, none]) (z_len1 (z_len1 (z_len1 (z_len1 z_le0)))) ?_
    exact (ok_X5_toldBy_11 hst) _ hF
  · rw [if_neg c11] at hF
    refine z_iload_n (pc' := 5) dX5_toldBy_4 rfl rfl rfl ?_
    refine z_sipush (v := 1000) (pc' := 8) dX5_toldBy_5 (by decide) rfl ?_
    refine z_icmp_lt (tgt := 13) (pc' := 11) dX5_toldBy_8 (by decide) rfl (fun c10 => ?_) (fun c10 => ?_)
    · rw [if_pos c10] at hF
      refine z_aload_n (pc' := 14) dX5_toldBy_13 rfl rfl rfl ?_
      refine gf_X5_22 (b := 1) (pc' := 17) rfl is_5_0 rfl dX5_toldBy_14 rfl ?_
      refine gf_X5_92 (b := 2) (pc' := 20) rfl (is_5_f1 is_5_0) rfl dX5_toldBy_17 rfl ?_
      refine z_iload_n (pc' := 21) dX5_toldBy_20 rfl rfl rfl ?_
      refine z_iconst (v := 1) (pc' := 22) dX5_toldBy_21 (by decide) rfl ?_
      refine z_iload_n (pc' := 23) dX5_toldBy_22 rfl rfl rfl ?_
      obtain ⟨r1, S2, hc3, hF⟩ := z_bne hF
      refine k_X5_keyOf (F := 3) (L := 71) (pc' := 26) hc3 hst zw_50 rfl rfl (by decide) (by decide) (Nat.le_of_ble_eq_true rfl) dX5_toldBy_23 rfl ?_
      obtain ⟨r4, S5, hc6, hF⟩ := z_bne hF
      refine k_X4_slotOf (F := 3) (L := 71) (pc' := 29) (is_0_f0 (is_5_f1 is_5_0)) hc6 hst zw_51 rfl rfl (by decide) (by decide) (by decide) dX5_toldBy_26 rfl ?_
      refine z_istore_n (pc' := 30) dX5_toldBy_29 rfl (by decide) rfl rfl ?_
      refine z_iload_n (pc' := 31) dX5_toldBy_30 rfl rfl rfl ?_
      refine z_iconst (v := (-1)) (pc' := 32) dX5_toldBy_31 (by decide) rfl ?_
      refine z_icmp_ne (tgt := 39) (pc' := 35) dX5_toldBy_32 (by decide) rfl (fun c9 => ?_) (fun c9 => ?_)
      · rw [if_neg c9] at hF
        refine z_aload_n (pc' := 40) dX5_toldBy_39 rfl rfl rfl ?_
        refine gf_X5_22 (b := 1) (pc' := 43) rfl is_5_0 rfl dX5_toldBy_40 rfl ?_
        refine gf_X5_92 (b := 2) (pc' := 46) rfl (is_5_f1 is_5_0) rfl dX5_toldBy_43 rfl ?_
        refine gf_X5_329 (b := 13) (pc' := 49) rfl (is_0_f0 (is_5_f1 is_5_0)) rfl dX5_toldBy_46 rfl ?_
        refine z_iload_n (pc' := 50) dX5_toldBy_49 rfl rfl rfl ?_
        obtain ⟨g7, hF⟩ := z_gde hF
        refine z_iaload (pc' := 51) (ar_4_f11 (is_0_f0 (is_5_f1 is_5_0))) (z_inbe g7) dX5_toldBy_50 rfl ?_
        refine z_topi (fun x8 ex8 => ?_)
        replace hF := z_lte hF x8 ex8
        refine z_wk (ls' := [none, none, none, none]) (z_len1 (z_len1 (z_len1 (z_len1 z_le0)))) ?_
        exact (ok_X5_toldBy_51 hst) _ _ hF
      · rw [if_pos c9] at hF
        refine z_iconst (v := (-1)) (pc' := 36) dX5_toldBy_35 (by decide) rfl ?_
        refine z_goto (pc' := 51) dX5_toldBy_36 (by decide) ?_
        refine z_wk (ls' := [none, none, none, none]) (z_len1 (z_len1 (z_len1 (z_len1 z_le0)))) ?_
        exact (ok_X5_toldBy_51 hst) _ _ hF
    · rw [if_neg c10] at hF
      refine z_wk (ls' := [none, none, none, none]) (z_len1 (z_len1 (z_len1 (z_len1 z_le0)))) ?_
      exact (ok_X5_toldBy_11 hst) _ hF
theorem ok_X5_toldBy : z_okV I_X5_toldBy 2 := ⟨⟨z_Gin (List.mem_of_getElem? (i := 459) (by decide +kernel)) rfl, z_Gin (List.mem_of_getElem? (i := 6) (by decide +kernel)) rfl, z_Gin (List.mem_of_getElem? (i := 89) (by decide +kernel)) rfl, z_Gin (List.mem_of_getElem? (i := 460) (by decide +kernel)) rfl⟩, by decide, by decide, by decide +kernel⟩
theorem k_X5_toldBy {l : Launch} {I : z_I} {R : Room} {B : Nat} {p1 : Int32} {p2 : Int32} {q : z_O × z_S} {pc pc' : Nat} {ls : List (Option Value)} {st : List Value} {S S1 : z_S} {idx F L : Nat} {r : Int32}  (hF : F_X5_toldBy B p1 p2 S = some (.inl (some r), S1)) (hst : l.stackTraces = false) (w : Cond.methodLink I.1.cls idx yX5_toldBy ∈ z_G) (hRF : R.frames = F) (hRL : R.locals = L) (h1 : 4 ≤ F) (h2 : 94 ≤ L) (hs : (st.map fun v => v.category).sum ≤ 8) (d : decode I.2.1 pc = .ok (.invokevirtual idx, 3)) (hp : pc + 3 = pc') (k : z_W l I R B q pc' ls (.int r :: st) S1) : z_W l I R B q pc ls (.int p2 :: .int p1 :: .ref 0 :: st) S := z_callV (Y := I_X5_toldBy) (As := [.int p1, .int p2]) (st := st) (r := (some r)) (S1 := S1) (c_X5_toldBy (q := (.inl (some r), S1)) hst hF) ok_X5_toldBy w (ci := 5) rfl is_5_0.1 is_5_0.2 rfl ⟨by rw [hRF]; exact h1, by rw [hRL]; exact h2⟩ hs d hp rfl k

abbrev I_X5_needNoEntry : z_I := (yX5_needNoEntry, cX5_needNoEntry, 3, none)
abbrev R_X5_needNoEntry (q : z_O × z_S) : Room := { frames := 6, locals := 94, cells := z_mc q.1, slots := 6 * z_mc q.1 }
def F_X5_needNoEntry (B : Nat) (p1 : Int32) (p2 : Int32) (S : z_S) : Option (z_O × z_S) :=
  z_bn (F_X5_toldBy B p1 p2 S) fun r1 S2 =>
  (if r1 = (-1) then
    some (.inl none, S2)
  else
    some (.inr "java/lang/IllegalStateException", S2))
set_option maxRecDepth 20000 in
set_option maxHeartbeats 16000000 in
theorem c_X5_needNoEntry {l : Launch} {B : Nat} {p1 : Int32} {p2 : Int32} {S : z_S} {q : z_O × z_S} (hst : l.stackTraces = false) (hF : F_X5_needNoEntry B p1 p2 S = some q) : z_Met l I_X5_needNoEntry 6 94 B [.ref 0, .int p1, .int p2] S q.1 q.2 := by
  refine z_enter (ls := [some (.ref 0), some (.int p1), some (.int p2)]) (n := 0) (by decide) rfl (Nat.le_of_ble_eq_true rfl) hst ?_
  unfold F_X5_needNoEntry at hF
  refine z_aload_n (pc' := 1) dX5_needNoEntry_0 rfl rfl rfl ?_
  refine z_iload_n (pc' := 2) dX5_needNoEntry_1 rfl rfl rfl ?_
  refine z_iload_n (pc' := 3) dX5_needNoEntry_2 rfl rfl rfl ?_
  obtain ⟨r1, S2, hc3, hF⟩ := z_bne hF
  refine k_X5_toldBy (F := 6) (L := 94) (pc' := 6) hc3 hst zw_52 rfl rfl (by decide) (by decide) (by decide) dX5_needNoEntry_3 rfl ?_
  refine z_iconst (v := (-1)) (pc' := 7) dX5_needNoEntry_6 (by decide) rfl ?_
  refine z_icmp_eq (tgt := 21) (pc' := 10) dX5_needNoEntry_7 (by decide) rfl (fun c4 => ?_) (fun c4 => ?_)
  · rw [if_pos c4] at hF
    exact z_return rfl dX5_needNoEntry_21 (Option.some.inj hF).symm
  · rw [if_neg c4] at hF
    exact z_throwSW (text := "the directory has that name") (names := ["java/lang/RuntimeException", "java/lang/Exception"]) rfl (Option.some.inj hF).symm (by decide +kernel) (by decide +kernel) (by decide +kernel) zw_53 zw_54 z_at_86 dX5_needNoEntry_10 dX5_needNoEntry_13 dX5_needNoEntry_14 dX5_needNoEntry_17 dX5_needNoEntry_20 ⟨by show (_ : Nat) ≤ 6; decide, by show (_ : Nat) ≤ 94; decide⟩ ⟨rfl, rfl⟩
theorem ok_X5_needNoEntry : z_okV I_X5_needNoEntry 2 := ⟨⟨z_Gin (List.mem_of_getElem? (i := 455) (by decide +kernel)) rfl, z_Gin (List.mem_of_getElem? (i := 5) (by decide +kernel)) rfl, z_Gin (List.mem_of_getElem? (i := 89) (by decide +kernel)) rfl, z_Gin (List.mem_of_getElem? (i := 456) (by decide +kernel)) rfl⟩, by decide, by decide, by decide +kernel⟩
theorem k_X5_needNoEntry {l : Launch} {I : z_I} {R : Room} {B : Nat} {p1 : Int32} {p2 : Int32} {q : z_O × z_S} {pc pc' : Nat} {ls : List (Option Value)} {st : List Value} {S S1 : z_S} {idx F L : Nat}  (hF : F_X5_needNoEntry B p1 p2 S = some (.inl none, S1)) (hst : l.stackTraces = false) (w : Cond.methodLink I.1.cls idx yX5_needNoEntry ∈ z_G) (hRF : R.frames = F) (hRL : R.locals = L) (h1 : 7 ≤ F) (h2 : 116 ≤ L) (hs : (st.map fun v => v.category).sum ≤ 8) (d : decode I.2.1 pc = .ok (.invokevirtual idx, 3)) (hp : pc + 3 = pc') (k : z_W l I R B q pc' ls st S1) : z_W l I R B q pc ls (.int p2 :: .int p1 :: .ref 0 :: st) S := z_callV (Y := I_X5_needNoEntry) (As := [.int p1, .int p2]) (st := st) (r := none) (S1 := S1) (c_X5_needNoEntry (q := (.inl none, S1)) hst hF) ok_X5_needNoEntry w (ci := 5) rfl is_5_0.1 is_5_0.2 rfl ⟨by rw [hRF]; exact h1, by rw [hRL]; exact h2⟩ hs d hp rfl k
theorem kx_X5_needNoEntry {l : Launch} {I : z_I} {R : Room} {B : Nat} {p1 : Int32} {p2 : Int32} {q : z_O × z_S} {pc : Nat} {ls : List (Option Value)} {st : List Value} {S S1 : z_S} {idx F L : Nat} {E : String}  (hF : F_X5_needNoEntry B p1 p2 S = some (.inr E, S1)) (hq : q = (.inr E, S1)) (hst : l.stackTraces = false) (w : Cond.methodLink I.1.cls idx yX5_needNoEntry ∈ z_G) (hRF : R.frames = F) (hRL : R.locals = L) (h1 : 7 ≤ F) (h2 : 116 ≤ L) (hRc : R.cells = z_mc q.1 ∧ R.slots = 6 * z_mc q.1) (hs : (st.map fun v => v.category).sum ≤ 8) (d : decode I.2.1 pc = .ok (.invokevirtual idx, 3)) : z_W l I R B q pc ls (.int p2 :: .int p1 :: .ref 0 :: st) S := z_callVX (Y := I_X5_needNoEntry) (As := [.int p1, .int p2]) (st := st) (E := E) (S1 := S1) (c_X5_needNoEntry (q := (.inr E, S1)) hst hF) hq ok_X5_needNoEntry w (ci := 5) rfl is_5_0.1 is_5_0.2 rfl ⟨by rw [hRF]; exact h1, by rw [hRL]; exact h2⟩ hRc hs d rfl

abbrev I_X5_needPower : z_I := (yX5_needPower, cX5_needPower, 1, none)
abbrev R_X5_needPower (q : z_O × z_S) : Room := { frames := 6, locals := 90, cells := z_mc q.1, slots := 6 * z_mc q.1 }
def F_X5_needPower (B : Nat)  (S : z_S) : Option (z_O × z_S) :=
  if (S.2.1 57 0) = 0 then
    some (.inl none, S)
  else
    some (.inr "java/lang/UnsupportedOperationException", S)
set_option maxRecDepth 20000 in
set_option maxHeartbeats 16000000 in
theorem c_X5_needPower {l : Launch} {B : Nat}  {S : z_S} {q : z_O × z_S} (hst : l.stackTraces = false) (hF : F_X5_needPower B S = some q) : z_Met l I_X5_needPower 6 90 B [.ref 0] S q.1 q.2 := by
  refine z_enter (ls := [some (.ref 0)]) (n := 0) (by decide) rfl (Nat.le_of_ble_eq_true rfl) hst ?_
  unfold F_X5_needPower at hF
  refine z_aload_n (pc' := 1) dX5_needPower_0 rfl rfl rfl ?_
  refine gf_X5_48 (b := 57) (pc' := 4) rfl is_5_0 rfl dX5_needPower_1 rfl ?_
  refine gf_X5_274 (pc' := 7) rfl (is_5_f5 is_5_0) dX5_needPower_4 rfl ?_
  refine z_if_eq (tgt := 21) (pc' := 10) dX5_needPower_7 (by decide) rfl (fun c1 => ?_) (fun c1 => ?_)
  · rw [if_pos c1] at hF
    exact z_return rfl dX5_needPower_21 (Option.some.inj hF).symm
  · rw [if_neg c1] at hF
    exact z_throwSW (text := "the power is off") (names := ["java/lang/RuntimeException", "java/lang/Exception"]) rfl (Option.some.inj hF).symm (by decide +kernel) (by decide +kernel) (by decide +kernel) zw_55 zw_56 z_at_310 dX5_needPower_10 dX5_needPower_13 dX5_needPower_14 dX5_needPower_17 dX5_needPower_20 ⟨by show (_ : Nat) ≤ 6; decide, by show (_ : Nat) ≤ 90; decide⟩ ⟨rfl, rfl⟩
theorem ok_X5_needPower : z_okV I_X5_needPower 0 := ⟨⟨z_Gin (List.mem_of_getElem? (i := 339) (by decide +kernel)) rfl, z_Gin (List.mem_of_getElem? (i := 1) (by decide +kernel)) rfl, z_Gin (List.mem_of_getElem? (i := 89) (by decide +kernel)) rfl, z_Gin (List.mem_of_getElem? (i := 340) (by decide +kernel)) rfl⟩, by decide, by decide, by decide +kernel⟩
theorem k_X5_needPower {l : Launch} {I : z_I} {R : Room} {B : Nat}  {q : z_O × z_S} {pc pc' : Nat} {ls : List (Option Value)} {st : List Value} {S S1 : z_S} {idx F L : Nat}  (hF : F_X5_needPower B S = some (.inl none, S1)) (hst : l.stackTraces = false) (w : Cond.methodLink I.1.cls idx yX5_needPower ∈ z_G) (hRF : R.frames = F) (hRL : R.locals = L) (h1 : 7 ≤ F) (h2 : 110 ≤ L) (hs : (st.map fun v => v.category).sum ≤ 8) (d : decode I.2.1 pc = .ok (.invokevirtual idx, 3)) (hp : pc + 3 = pc') (k : z_W l I R B q pc' ls st S1) : z_W l I R B q pc ls (.ref 0 :: st) S := z_callV (Y := I_X5_needPower) (As := []) (st := st) (r := none) (S1 := S1) (c_X5_needPower (q := (.inl none, S1)) hst hF) ok_X5_needPower w (ci := 5) rfl is_5_0.1 is_5_0.2 rfl ⟨by rw [hRF]; exact h1, by rw [hRL]; exact h2⟩ hs d hp rfl k
theorem kx_X5_needPower {l : Launch} {I : z_I} {R : Room} {B : Nat}  {q : z_O × z_S} {pc : Nat} {ls : List (Option Value)} {st : List Value} {S S1 : z_S} {idx F L : Nat} {E : String}  (hF : F_X5_needPower B S = some (.inr E, S1)) (hq : q = (.inr E, S1)) (hst : l.stackTraces = false) (w : Cond.methodLink I.1.cls idx yX5_needPower ∈ z_G) (hRF : R.frames = F) (hRL : R.locals = L) (h1 : 7 ≤ F) (h2 : 110 ≤ L) (hRc : R.cells = z_mc q.1 ∧ R.slots = 6 * z_mc q.1) (hs : (st.map fun v => v.category).sum ≤ 8) (d : decode I.2.1 pc = .ok (.invokevirtual idx, 3)) : z_W l I R B q pc ls (.ref 0 :: st) S := z_callVX (Y := I_X5_needPower) (As := []) (st := st) (E := E) (S1 := S1) (c_X5_needPower (q := (.inr E, S1)) hst hF) hq ok_X5_needPower w (ci := 5) rfl is_5_0.1 is_5_0.2 rfl ⟨by rw [hRF]; exact h1, by rw [hRL]; exact h2⟩ hRc hs d rfl

abbrev I_X5_needRoom : z_I := (yX5_needRoom, cX5_needRoom, 2, none)
abbrev R_X5_needRoom (q : z_O × z_S) : Room := { frames := 6, locals := 90, cells := z_mc q.1, slots := 6 * z_mc q.1 }
def F_X5_needRoom (B : Nat) (p1 : Int32) (S : z_S) : Option (z_O × z_S) :=
  if p1 = 0 then
    z_bo (F_X4_copyFrom B 2 43 S) fun S2 =>
    (some (.inr "java/lang/IllegalStateException", S2))
  else
    some (.inl none, S)
set_option maxRecDepth 20000 in
set_option maxHeartbeats 16000000 in
theorem c_X5_needRoom {l : Launch} {B : Nat} {p1 : Int32} {S : z_S} {q : z_O × z_S} (hst : l.stackTraces = false) (hF : F_X5_needRoom B p1 S = some q) : z_Met l I_X5_needRoom 6 90 B [.ref 0, .int p1] S q.1 q.2 := by
  refine z_enter (ls := [some (.ref 0), some (.int p1)]) (n := 0) (by decide) rfl (Nat.le_of_ble_eq_true rfl) hst ?_
  unfold F_X5_needRoom at hF
  refine z_iload_n (pc' := 1) dX5_needRoom_0 rfl rfl rfl ?_
  refine z_if_ne (tgt := 29) (pc' := 4) dX5_needRoom_1 (by decide) rfl (fun c4 => ?_) (fun c4 => ?_)
  · rw [if_neg c4] at hF
    exact z_return rfl dX5_needRoom_29 (Option.some.inj hF).symm
  · rw [if_pos c4] at hF
    refine z_aload_n (pc' := 5) dX5_needRoom_4 rfl rfl rfl ?_
    refine gf_X5_22 (b := 1) (pc' := 8) rfl is_5_0 rfl dX5_needRoom_5 rfl ?_
    refine gf_X5_92 (b := 2) (pc' := 11) rfl (is_5_f1 is_5_0) rfl dX5_needRoom_8 rfl ?_
    refine z_aload_n (pc' := 12) dX5_needRoom_11 rfl rfl rfl ?_
    refine gf_X5_32 (b := 43) (pc' := 15) rfl is_5_0 rfl dX5_needRoom_12 rfl ?_
    obtain ⟨S2, hc3, hF⟩ := z_boe hF
    refine k_X4_copyFrom (F := 6) (L := 90) (pc' := 18) (is_0_f0 (is_5_f1 is_5_0)) (is_5_f3 is_5_0) hc3 hst zw_44 rfl rfl (by decide) (by decide) (by decide) dX5_needRoom_15 rfl ?_
    exact z_throwSW (text := "no block is free") (names := ["java/lang/RuntimeException", "java/lang/Exception"]) rfl (Option.some.inj hF).symm (by decide +kernel) (by decide +kernel) (by decide +kernel) zw_53 zw_54 z_at_86 dX5_needRoom_18 dX5_needRoom_21 dX5_needRoom_22 dX5_needRoom_25 dX5_needRoom_28 ⟨by show (_ : Nat) ≤ 6; decide, by show (_ : Nat) ≤ 90; decide⟩ ⟨rfl, rfl⟩
theorem ok_X5_needRoom : z_okV I_X5_needRoom 1 := ⟨⟨z_Gin (List.mem_of_getElem? (i := 557) (by decide +kernel)) rfl, z_Gin (List.mem_of_getElem? (i := 21) (by decide +kernel)) rfl, z_Gin (List.mem_of_getElem? (i := 89) (by decide +kernel)) rfl, z_Gin (List.mem_of_getElem? (i := 558) (by decide +kernel)) rfl⟩, by decide, by decide, by decide +kernel⟩
theorem k_X5_needRoom {l : Launch} {I : z_I} {R : Room} {B : Nat} {p1 : Int32} {q : z_O × z_S} {pc pc' : Nat} {ls : List (Option Value)} {st : List Value} {S S1 : z_S} {idx F L : Nat}  (hF : F_X5_needRoom B p1 S = some (.inl none, S1)) (hst : l.stackTraces = false) (w : Cond.methodLink I.1.cls idx yX5_needRoom ∈ z_G) (hRF : R.frames = F) (hRL : R.locals = L) (h1 : 7 ≤ F) (h2 : 111 ≤ L) (hs : (st.map fun v => v.category).sum ≤ 8) (d : decode I.2.1 pc = .ok (.invokevirtual idx, 3)) (hp : pc + 3 = pc') (k : z_W l I R B q pc' ls st S1) : z_W l I R B q pc ls (.int p1 :: .ref 0 :: st) S := z_callV (Y := I_X5_needRoom) (As := [.int p1]) (st := st) (r := none) (S1 := S1) (c_X5_needRoom (q := (.inl none, S1)) hst hF) ok_X5_needRoom w (ci := 5) rfl is_5_0.1 is_5_0.2 rfl ⟨by rw [hRF]; exact h1, by rw [hRL]; exact h2⟩ hs d hp rfl k
theorem kx_X5_needRoom {l : Launch} {I : z_I} {R : Room} {B : Nat} {p1 : Int32} {q : z_O × z_S} {pc : Nat} {ls : List (Option Value)} {st : List Value} {S S1 : z_S} {idx F L : Nat} {E : String}  (hF : F_X5_needRoom B p1 S = some (.inr E, S1)) (hq : q = (.inr E, S1)) (hst : l.stackTraces = false) (w : Cond.methodLink I.1.cls idx yX5_needRoom ∈ z_G) (hRF : R.frames = F) (hRL : R.locals = L) (h1 : 7 ≤ F) (h2 : 111 ≤ L) (hRc : R.cells = z_mc q.1 ∧ R.slots = 6 * z_mc q.1) (hs : (st.map fun v => v.category).sum ≤ 8) (d : decode I.2.1 pc = .ok (.invokevirtual idx, 3)) : z_W l I R B q pc ls (.int p1 :: .ref 0 :: st) S := z_callVX (Y := I_X5_needRoom) (As := [.int p1]) (st := st) (E := E) (S1 := S1) (c_X5_needRoom (q := (.inr E, S1)) hst hF) hq ok_X5_needRoom w (ci := 5) rfl is_5_0.1 is_5_0.2 rfl ⟨by rw [hRF]; exact h1, by rw [hRL]; exact h2⟩ hRc hs d rfl

abbrev I_X5_make : z_I := (yX5_make, cX5_make, 5, some .int)
abbrev R_X5_make (q : z_O × z_S) : Room := { frames := 7, locals := 196, cells := z_mc q.1, slots := 6 * z_mc q.1 }
def F_X5_make_124 (B : Nat)  (v1 : Int32) (v4 : Int32) (s0 : Int32) (s1 : Int32) (S : z_S) : Option (z_O × z_S) :=
  z_bo (F_X2_begin B 14 s1 s0 v1 S) fun S2 =>
  (z_gd (z_inb v1 61) (
  z_lt (S2.1 17 (z_ix (v1))) fun x5 =>
  (z_gd (z_inb v1 61) (
  z_lt (z_ua S2 17 (upd (S2.1 17) (z_ix (v1)) (x5 + 1))) fun S7 =>
  (some (.inl (some v4), S7))))))
set_option maxRecDepth 20000 in
set_option maxHeartbeats 16000000 in
theorem ok_X5_make_124 {l : Launch} {B : Nat} {q : z_O × z_S} (hst : l.stackTraces = false) : ∀ (v1 : Int32) (v4 : Int32) (s0 : Int32) (s1 : Int32) (S : z_S), F_X5_make_124 B v1 v4 s0 s1 S = some q → z_W l I_X5_make (R_X5_make q) B q 124 [some (.ref 0), some (.int v1), none, none, some (.int v4)] [.int s0, .int s1, .ref 14] S := by
  intro v1 v4 s0 s1 S hF
  unfold F_X5_make_124 at hF
  refine z_iload_n (pc' := 125) dX5_make_124 rfl rfl rfl ?_
  obtain ⟨S2, hc3, hF⟩ := z_boe hF
  refine k_X2_begin (F := 7) (L := 196) (pc' := 128) (is_0_f1 (is_5_f1 is_5_0)) hc3 hst zw_65 rfl rfl (by decide) (by decide) (by decide) dX5_make_125 rfl ?_
  refine z_aload_n (pc' := 129) dX5_make_128 rfl rfl rfl ?_
  refine gf_X5_22 (b := 1) (pc' := 132) rfl is_5_0 rfl dX5_make_129 rfl ?_
  refine gf_X5_72 (b := 14) (pc' := 135) rfl (is_5_f1 is_5_0) rfl dX5_make_132 rfl ?_
  refine gf_X5_110 (b := 17) (pc' := 138) rfl (is_0_f1 (is_5_f1 is_5_0)) rfl dX5_make_135 rfl ?_
  refine z_iload_n (pc' := 139) dX5_make_138 rfl rfl rfl ?_
  refine z_dup2 (pc' := 140) dX5_make_139 rfl ?_
  obtain ⟨g4, hF⟩ := z_gde hF
  refine z_iaload (pc' := 141) (ar_2_f2 (is_0_f1 (is_5_f1 is_5_0))) (z_inbe g4) dX5_make_140 rfl ?_
  refine z_topi (fun x5 ex5 => ?_)
  replace hF := z_lte hF x5 ex5
  refine z_iconst (v := 1) (pc' := 142) dX5_make_141 (by decide) rfl ?_
  refine z_iadd (pc' := 143) dX5_make_142 rfl ?_
  obtain ⟨g6, hF⟩ := z_gde hF
  refine z_iastore (pc' := 144) (ar_2_f2 (is_0_f1 (is_5_f1 is_5_0))) (z_inbe g6) dX5_make_143 rfl (fun S7 eS7 => ?_)
  replace hF := z_lte hF S7 eS7
  refine z_iload (pc' := 146) dX5_make_144 rfl rfl ?_
  exact z_ireturn rfl dX5_make_146 (Option.some.inj hF).symm
def F_X5_make_103 (B : Nat)  (v1 : Int32) (v3 : Int32) (v4 : Int32) (s0 : Int32) (S : z_S) : Option (z_O × z_S) :=
  z_bv (F_X5_needRoom B s0 S) fun S2 =>
  (if v3 = 0 then
    F_X5_make_124 B v1 v4 1 v4 S2
  else
    F_X5_make_124 B v1 v4 0 v4 S2)
set_option maxRecDepth 20000 in
set_option maxHeartbeats 16000000 in
theorem ok_X5_make_103 {l : Launch} {B : Nat} {q : z_O × z_S} (hst : l.stackTraces = false) : ∀ (v1 : Int32) (v3 : Int32) (v4 : Int32) (s0 : Int32) (S : z_S), F_X5_make_103 B v1 v3 v4 s0 S = some q → z_W l I_X5_make (R_X5_make q) B q 103 [some (.ref 0), some (.int v1), none, some (.int v3), some (.int v4)] [.int s0, .ref 0] S := by
  intro v1 v3 v4 s0 S hF
  unfold F_X5_make_103 at hF
  rcases z_bve hF with ⟨S2, hc3, hF⟩ | ⟨E9, S9, hc3, hq9⟩
  rotate_left
  · exact kx_X5_needRoom (F := 7) (L := 196) hc3 hq9 hst zw_64 rfl rfl (by decide) (by decide) ⟨rfl, rfl⟩ (by decide) dX5_make_103
  refine k_X5_needRoom (F := 7) (L := 196) (pc' := 106) hc3 hst zw_64 rfl rfl (by decide) (by decide) (by decide) dX5_make_103 rfl ?_
  refine z_aload_n (pc' := 107) dX5_make_106 rfl rfl rfl ?_
  refine gf_X5_22 (b := 1) (pc' := 110) rfl is_5_0 rfl dX5_make_107 rfl ?_
  refine gf_X5_72 (b := 14) (pc' := 113) rfl (is_5_f1 is_5_0) rfl dX5_make_110 rfl ?_
  refine z_iload (pc' := 115) dX5_make_113 rfl rfl ?_
  refine z_iload_n (pc' := 116) dX5_make_115 rfl rfl rfl ?_
  refine z_if_eq (tgt := 123) (pc' := 119) dX5_make_116 (by decide) rfl (fun c4 => ?_) (fun c4 => ?_)
  · rw [if_pos c4] at hF
    refine z_iconst (v := 1) (pc' := 124) dX5_make_123 (by decide) rfl ?_
    refine z_wk (ls' := [some (.ref 0), some (.int v1), none, none, some (.int v4)]) (z_lec rfl (z_lec rfl (z_len1 (z_len1 (z_lec rfl z_le0))))) ?_
    exact (ok_X5_make_124 hst) _ _ _ _ _ hF
  · rw [if_neg c4] at hF
    refine z_iconst (v := 0) (pc' := 120) dX5_make_119 (by decide) rfl ?_
    refine z_goto (pc' := 124) dX5_make_120 (by decide) ?_
    refine z_wk (ls' := [some (.ref 0), some (.int v1), none, none, some (.int v4)]) (z_lec rfl (z_lec rfl (z_len1 (z_len1 (z_lec rfl z_le0))))) ?_
    exact (ok_X5_make_124 hst) _ _ _ _ _ hF
def F_X5_make_102 (B : Nat) (k103 : Int32 → Int32 → Int32 → Int32 → z_S → Option (z_O × z_S)) (v1 : Int32) (v3 : Int32) (v4 : Int32) (S : z_S) : Option (z_O × z_S) :=
  k103 v1 v3 v4 0 S
set_option maxRecDepth 20000 in
set_option maxHeartbeats 16000000 in
theorem ok_X5_make_102 {l : Launch} {B : Nat} {q : z_O × z_S} (hst : l.stackTraces = false) {k103 : Int32 → Int32 → Int32 → Int32 → z_S → Option (z_O × z_S)} (hk103 : ∀ (v1 : Int32) (v3 : Int32) (v4 : Int32) (s0 : Int32) (S : z_S), k103 v1 v3 v4 s0 S = some q → z_W l I_X5_make (R_X5_make q) B q 103 [some (.ref 0), some (.int v1), none, some (.int v3), some (.int v4)] [.int s0, .ref 0] S) : ∀ (v1 : Int32) (v3 : Int32) (v4 : Int32) (S : z_S), F_X5_make_102 B k103 v1 v3 v4 S = some q → z_W l I_X5_make (R_X5_make q) B q 102 [some (.ref 0), some (.int v1), none, some (.int v3), some (.int v4)] [.ref 0] S := by
  intro v1 v3 v4 S hF
  unfold F_X5_make_102 at hF
  refine z_iconst (v := 0) (pc' := 103) dX5_make_102 (by decide) rfl ?_
  refine z_wk (ls' := [some (.ref 0), some (.int v1), none, some (.int v3), some (.int v4)]) (z_lec rfl (z_lec rfl (z_len1 (z_lec rfl (z_lec rfl z_le0))))) ?_
  exact hk103 _ _ _ _ _ hF
def F_X5_make (B : Nat) (p1 : Int32) (p2 : Int32) (p3 : Int32) (S : z_S) : Option (z_O × z_S) :=
  z_bv (F_X5_needPower B S) fun S2 =>
  (z_bv (F_X5_needDirectory B p1 S2) fun S5 =>
  (z_bv (F_X5_needName B p2 S5) fun S8 =>
  (z_bv (F_X5_needNoEntry B p1 p2 S8) fun S11 =>
  (z_bn (F_X2_leastFree B 14 S11) fun r13 S14 =>
  (if r13 = (-1) then
    some (.inr "java/lang/IllegalStateException", S14)
  else
    z_bo (F_X5_keep B S14) fun S17 =>
    (z_bn (F_X5_keyOf B r13 0 0 S17) fun r19 S20 =>
    (z_bn (F_X4_putIn B 2 r19 6 (-1) S20) fun r22 S23 =>
    (if r22 = 0 then
      F_X5_make_102 B (F_X5_make_103 B ) p1 p3 r13 S23
    else
      z_bn (F_X5_keyOf B p1 1 p2 S23) fun r25 S26 =>
      (z_bn (F_X4_putIn B 2 r25 3 r13 S26) fun r28 S29 =>
      (if r28 = 0 then
        F_X5_make_102 B (F_X5_make_103 B ) p1 p3 r13 S29
      else
        F_X5_make_103 B p1 p3 r13 1 S29))))))))))
set_option maxRecDepth 20000 in
set_option maxHeartbeats 16000000 in
theorem c_X5_make {l : Launch} {B : Nat} {p1 : Int32} {p2 : Int32} {p3 : Int32} {S : z_S} {q : z_O × z_S} (hst : l.stackTraces = false) (hF : F_X5_make B p1 p2 p3 S = some q) : z_Met l I_X5_make 7 196 B [.ref 0, .int p1, .int p2, .int p3] S q.1 q.2 := by
  refine z_enter (ls := [some (.ref 0), some (.int p1), some (.int p2), some (.int p3), none]) (n := 1) (by decide) rfl (Nat.le_of_ble_eq_true rfl) hst ?_
  unfold F_X5_make at hF
  refine z_aload_n (pc' := 1) dX5_make_0 rfl rfl rfl ?_
  rcases z_bve hF with ⟨S2, hc3, hF⟩ | ⟨E9, S9, hc3, hq9⟩
  rotate_left
  · exact kx_X5_needPower (F := 7) (L := 196) hc3 hq9 hst zw_57 rfl rfl (by decide) (by decide) ⟨rfl, rfl⟩ (by decide) dX5_make_1
  refine k_X5_needPower (F := 7) (L := 196) (pc' := 4) hc3 hst zw_57 rfl rfl (by decide) (by decide) (by decide) dX5_make_1 rfl ?_
  refine z_aload_n (pc' := 5) dX5_make_4 rfl rfl rfl ?_
  refine z_iload_n (pc' := 6) dX5_make_5 rfl rfl rfl ?_
  rcases z_bve hF with ⟨S5, hc6, hF⟩ | ⟨E9, S9, hc6, hq9⟩
  rotate_left
  · exact kx_X5_needDirectory (F := 7) (L := 196) hc6 hq9 hst zw_58 rfl rfl (by decide) (by decide) ⟨rfl, rfl⟩ (by decide) dX5_make_6
  refine k_X5_needDirectory (F := 7) (L := 196) (pc' := 9) hc6 hst zw_58 rfl rfl (by decide) (by decide) (by decide) dX5_make_6 rfl ?_
  refine z_aload_n (pc' := 10) dX5_make_9 rfl rfl rfl ?_
  refine z_iload_n (pc' := 11) dX5_make_10 rfl rfl rfl ?_
  rcases z_bve hF with ⟨S8, hc9, hF⟩ | ⟨E9, S9, hc9, hq9⟩
  rotate_left
  · exact kx_X5_needName (F := 7) (L := 196) hc9 hq9 hst zw_59 rfl rfl (by decide) (by decide) ⟨rfl, rfl⟩ (by decide) dX5_make_11
  refine k_X5_needName (F := 7) (L := 196) (pc' := 14) hc9 hst zw_59 rfl rfl (by decide) (by decide) (by decide) dX5_make_11 rfl ?_
  refine z_aload_n (pc' := 15) dX5_make_14 rfl rfl rfl ?_
  refine z_iload_n (pc' := 16) dX5_make_15 rfl rfl rfl ?_
  refine z_iload_n (pc' := 17) dX5_make_16 rfl rfl rfl ?_
  rcases z_bve hF with ⟨S11, hc12, hF⟩ | ⟨E9, S9, hc12, hq9⟩
  rotate_left
  · exact kx_X5_needNoEntry (F := 7) (L := 196) hc12 hq9 hst zw_60 rfl rfl (by decide) (by decide) ⟨rfl, rfl⟩ (by decide) dX5_make_17
  refine k_X5_needNoEntry (F := 7) (L := 196) (pc' := 20) hc12 hst zw_60 rfl rfl (by decide) (by decide) (by decide) dX5_make_17 rfl ?_
  refine z_aload_n (pc' := 21) dX5_make_20 rfl rfl rfl ?_
  refine gf_X5_22 (b := 1) (pc' := 24) rfl is_5_0 rfl dX5_make_21 rfl ?_
  refine gf_X5_72 (b := 14) (pc' := 27) rfl (is_5_f1 is_5_0) rfl dX5_make_24 rfl ?_
  obtain ⟨r13, S14, hc15, hF⟩ := z_bne hF
  refine k_X2_leastFree (F := 7) (L := 196) (pc' := 30) (is_0_f1 (is_5_f1 is_5_0)) hc15 hst zw_61 rfl rfl (by decide) (by decide) (by decide) dX5_make_27 rfl ?_
  refine z_istore (pc' := 32) dX5_make_30 (by decide) rfl rfl ?_
  refine z_iload (pc' := 34) dX5_make_32 rfl rfl ?_
  refine z_iconst (v := (-1)) (pc' := 35) dX5_make_34 (by decide) rfl ?_
  refine z_icmp_ne (tgt := 48) (pc' := 38) dX5_make_35 (by decide) rfl (fun c33 => ?_) (fun c33 => ?_)
  · rw [if_neg c33] at hF
    refine z_aload_n (pc' := 49) dX5_make_48 rfl rfl rfl ?_
    obtain ⟨S17, hc18, hF⟩ := z_boe hF
    refine k_X5_keep (F := 7) (L := 196) (pc' := 52) hc18 hst zw_62 rfl rfl (by decide) (by decide) (by decide) dX5_make_49 rfl ?_
    refine z_aload_n (pc' := 53) dX5_make_52 rfl rfl rfl ?_
    refine z_aload_n (pc' := 54) dX5_make_53 rfl rfl rfl ?_
    refine gf_X5_22 (b := 1) (pc' := 57) rfl is_5_0 rfl dX5_make_54 rfl ?_
    refine gf_X5_92 (b := 2) (pc' := 60) rfl (is_5_f1 is_5_0) rfl dX5_make_57 rfl ?_
    refine z_iload (pc' := 62) dX5_make_60 rfl rfl ?_
    refine z_iconst (v := 0) (pc' := 63) dX5_make_62 (by decide) rfl ?_
    refine z_iconst (v := 0) (pc' := 64) dX5_make_63 (by decide) rfl ?_
    obtain ⟨r19, S20, hc21, hF⟩ := z_bne hF
    refine k_X5_keyOf (F := 7) (L := 196) (pc' := 67) hc21 hst zw_50 rfl rfl (by decide) (by decide) (Nat.le_of_ble_eq_true rfl) dX5_make_64 rfl ?_
    refine z_bipush (v := 6) (pc' := 69) dX5_make_67 (by decide) rfl ?_
    refine z_iconst (v := (-1)) (pc' := 70) dX5_make_69 (by decide) rfl ?_
    obtain ⟨r22, S23, hc24, hF⟩ := z_bne hF
    refine k_X4_putIn (F := 7) (L := 196) (pc' := 73) (is_0_f0 (is_5_f1 is_5_0)) hc24 hst zw_63 rfl rfl (by decide) (by decide) (Nat.le_of_ble_eq_true rfl) dX5_make_70 rfl ?_
    refine z_if_eq (tgt := 102) (pc' := 76) dX5_make_73 (by decide) rfl (fun c32 => ?_) (fun c32 => ?_)
    · rw [if_pos c32] at hF
      refine z_wk (ls' := [some (.ref 0), some (.int p1), none, some (.int p3), some (.int r13)]) (z_lec rfl (z_lec rfl (z_len1 (z_lec rfl (z_lec rfl z_le0))))) ?_
      exact (ok_X5_make_102 hst (ok_X5_make_103 hst)) _ _ _ _ hF
    · rw [if_neg c32] at hF
      refine z_aload_n (pc' := 77) dX5_make_76 rfl rfl rfl ?_
      refine gf_X5_22 (b := 1) (pc' := 80) rfl is_5_0 rfl dX5_make_77 rfl ?_
      refine gf_X5_92 (b := 2) (pc' := 83) rfl (is_5_f1 is_5_0) rfl dX5_make_80 rfl ?_
      refine z_iload_n (pc' := 84) dX5_make_83 rfl rfl rfl ?_
      refine z_iconst (v := 1) (pc' := 85) dX5_make_84 (by decide) rfl ?_
      refine z_iload_n (pc' := 86) dX5_make_85 rfl rfl rfl ?_
      obtain ⟨r25, S26, hc27, hF⟩ := z_bne hF
      refine k_X5_keyOf (F := 7) (L := 196) (pc' := 89) hc27 hst zw_50 rfl rfl (by decide) (by decide) (Nat.le_of_ble_eq_true rfl) dX5_make_86 rfl ?_
      refine z_iconst (v := 3) (pc' := 90) dX5_make_89 (by decide) rfl ?_
      refine z_iload (pc' := 92) dX5_make_90 rfl rfl ?_
      obtain ⟨r28, S29, hc30, hF⟩ := z_bne hF
      refine k_X4_putIn (F := 7) (L := 196) (pc' := 95) (is_0_f0 (is_5_f1 is_5_0)) hc30 hst zw_63 rfl rfl (by decide) (by decide) (Nat.le_of_ble_eq_true rfl) dX5_make_92 rfl ?_
      refine z_if_eq (tgt := 102) (pc' := 98) dX5_make_95 (by decide) rfl (fun c31 => ?_) (fun c31 => ?_)
      · rw [if_pos c31] at hF
        refine z_wk (ls' := [some (.ref 0), some (.int p1), none, some (.int p3), some (.int r13)]) (z_lec rfl (z_lec rfl (z_len1 (z_lec rfl (z_lec rfl z_le0))))) ?_
        exact (ok_X5_make_102 hst (ok_X5_make_103 hst)) _ _ _ _ hF
      · rw [if_neg c31] at hF
        refine z_iconst (v := 1) (pc' := 99) dX5_make_98 (by decide) rfl ?_
        refine z_goto (pc' := 103) dX5_make_99 (by decide) ?_
        refine z_wk (ls' := [some (.ref 0), some (.int p1), none, some (.int p3), some (.int r13)]) (z_lec rfl (z_lec rfl (z_len1 (z_lec rfl (z_lec rfl z_le0))))) ?_
        exact (ok_X5_make_103 hst) _ _ _ _ _ hF
  · rw [if_pos c33] at hF
    exact z_throwS (text := "all objects are there") (names := ["java/lang/RuntimeException", "java/lang/Exception"]) rfl (Option.some.inj hF).symm (by decide +kernel) (by decide +kernel) (by decide +kernel) zw_53 zw_54 z_at_86 dX5_make_38 dX5_make_41 dX5_make_42 dX5_make_44 dX5_make_47 ⟨by show (_ : Nat) ≤ 7; decide, by show (_ : Nat) ≤ 196; decide⟩ ⟨rfl, rfl⟩
theorem ok_X5_make : z_okV I_X5_make 3 := ⟨⟨z_Gin (List.mem_of_getElem? (i := 334) (by decide +kernel)) rfl, z_Gin (List.mem_of_getElem? (i := 335) (by decide +kernel)) rfl, z_Gin (List.mem_of_getElem? (i := 89) (by decide +kernel)) rfl, z_Gin (List.mem_of_getElem? (i := 336) (by decide +kernel)) rfl⟩, by decide, by decide, by decide +kernel⟩
theorem k_X5_make {l : Launch} {I : z_I} {R : Room} {B : Nat} {p1 : Int32} {p2 : Int32} {p3 : Int32} {q : z_O × z_S} {pc pc' : Nat} {ls : List (Option Value)} {st : List Value} {S S1 : z_S} {idx F L : Nat} {r : Int32}  (hF : F_X5_make B p1 p2 p3 S = some (.inl (some r), S1)) (hst : l.stackTraces = false) (w : Cond.methodLink I.1.cls idx yX5_make ∈ z_G) (hRF : R.frames = F) (hRL : R.locals = L) (h1 : 8 ≤ F) (h2 : 220 ≤ L) (hs : (st.map fun v => v.category).sum ≤ 8) (d : decode I.2.1 pc = .ok (.invokevirtual idx, 3)) (hp : pc + 3 = pc') (k : z_W l I R B q pc' ls (.int r :: st) S1) : z_W l I R B q pc ls (.int p3 :: .int p2 :: .int p1 :: .ref 0 :: st) S := z_callV (Y := I_X5_make) (As := [.int p1, .int p2, .int p3]) (st := st) (r := (some r)) (S1 := S1) (c_X5_make (q := (.inl (some r), S1)) hst hF) ok_X5_make w (ci := 5) rfl is_5_0.1 is_5_0.2 rfl ⟨by rw [hRF]; exact h1, by rw [hRL]; exact h2⟩ hs d hp rfl k
theorem kx_X5_make {l : Launch} {I : z_I} {R : Room} {B : Nat} {p1 : Int32} {p2 : Int32} {p3 : Int32} {q : z_O × z_S} {pc : Nat} {ls : List (Option Value)} {st : List Value} {S S1 : z_S} {idx F L : Nat} {E : String}  (hF : F_X5_make B p1 p2 p3 S = some (.inr E, S1)) (hq : q = (.inr E, S1)) (hst : l.stackTraces = false) (w : Cond.methodLink I.1.cls idx yX5_make ∈ z_G) (hRF : R.frames = F) (hRL : R.locals = L) (h1 : 8 ≤ F) (h2 : 220 ≤ L) (hRc : R.cells = z_mc q.1 ∧ R.slots = 6 * z_mc q.1) (hs : (st.map fun v => v.category).sum ≤ 8) (d : decode I.2.1 pc = .ok (.invokevirtual idx, 3)) : z_W l I R B q pc ls (.int p3 :: .int p2 :: .int p1 :: .ref 0 :: st) S := z_callVX (Y := I_X5_make) (As := [.int p1, .int p2, .int p3]) (st := st) (E := E) (S1 := S1) (c_X5_make (q := (.inr E, S1)) hst hF) hq ok_X5_make w (ci := 5) rfl is_5_0.1 is_5_0.2 rfl ⟨by rw [hRF]; exact h1, by rw [hRL]; exact h2⟩ hRc hs d rfl

abbrev I_X5_needFile : z_I := (yX5_needFile, cX5_needFile, 2, none)
abbrev R_X5_needFile (q : z_O × z_S) : Room := { frames := 6, locals := 90, cells := z_mc q.1, slots := 6 * z_mc q.1 }
def F_X5_needFile_30 (B : Nat)   (S : z_S) : Option (z_O × z_S) :=
  some (.inr "java/lang/IndexOutOfBoundsException", S)
set_option maxRecDepth 20000 in
set_option maxHeartbeats 16000000 in
theorem ok_X5_needFile_30 {l : Launch} {B : Nat} {q : z_O × z_S} (hst : l.stackTraces = false) : ∀ (S : z_S), F_X5_needFile_30 B S = some q → z_W l I_X5_needFile (R_X5_needFile q) B q 30 [none, none] [] S := by
  intro S hF
  unfold F_X5_needFile_30 at hF
  exact z_throwSW (text := "no such file") (names := ["java/lang/RuntimeException", "java/lang/Exception"]) rfl (Option.some.inj hF).symm (by decide +kernel) (by decide +kernel) (by decide +kernel) zw_46 zw_47 z_at_168 dX5_needFile_30 dX5_needFile_33 dX5_needFile_34 dX5_needFile_37 dX5_needFile_40 ⟨by show (_ : Nat) ≤ 6; decide, by show (_ : Nat) ≤ 90; decide⟩ ⟨rfl, rfl⟩
def F_X5_needFile (B : Nat) (p1 : Int32) (S : z_S) : Option (z_O × z_S) :=
  z_bn (F_X2_isThere B 14 p1 S) fun r1 S2 =>
  (if r1 = 0 then
    F_X5_needFile_30 B S2
  else
    z_gd (z_inb p1 61) (
    z_lt (S2.1 15 (z_ix (p1))) fun x5 =>
    (if x5 = 1 then
      some (.inl none, S2)
    else
      F_X5_needFile_30 B S2)))
set_option maxRecDepth 20000 in
set_option maxHeartbeats 16000000 in
theorem c_X5_needFile {l : Launch} {B : Nat} {p1 : Int32} {S : z_S} {q : z_O × z_S} (hst : l.stackTraces = false) (hF : F_X5_needFile B p1 S = some q) : z_Met l I_X5_needFile 6 90 B [.ref 0, .int p1] S q.1 q.2 := by
  refine z_enter (ls := [some (.ref 0), some (.int p1)]) (n := 0) (by decide) rfl (Nat.le_of_ble_eq_true rfl) hst ?_
  unfold F_X5_needFile at hF
  refine z_aload_n (pc' := 1) dX5_needFile_0 rfl rfl rfl ?_
  refine gf_X5_22 (b := 1) (pc' := 4) rfl is_5_0 rfl dX5_needFile_1 rfl ?_
  refine gf_X5_72 (b := 14) (pc' := 7) rfl (is_5_f1 is_5_0) rfl dX5_needFile_4 rfl ?_
  refine z_iload_n (pc' := 8) dX5_needFile_7 rfl rfl rfl ?_
  obtain ⟨r1, S2, hc3, hF⟩ := z_bne hF
  refine k_X2_isThere (F := 6) (L := 90) (pc' := 11) (is_0_f1 (is_5_f1 is_5_0)) hc3 hst zw_45 rfl rfl (by decide) (by decide) (by decide) dX5_needFile_8 rfl ?_
  refine z_if_eq (tgt := 30) (pc' := 14) dX5_needFile_11 (by decide) rfl (fun c7 => ?_) (fun c7 => ?_)
  · rw [if_pos c7] at hF
    refine z_wk (ls' := [none, none]) (z_len1 (z_len1 z_le0)) ?_
    exact (ok_X5_needFile_30 hst) _ hF
  · rw [if_neg c7] at hF
    refine z_aload_n (pc' := 15) dX5_needFile_14 rfl rfl rfl ?_
    refine gf_X5_22 (b := 1) (pc' := 18) rfl is_5_0 rfl dX5_needFile_15 rfl ?_
    refine gf_X5_72 (b := 14) (pc' := 21) rfl (is_5_f1 is_5_0) rfl dX5_needFile_18 rfl ?_
    refine gf_X5_124 (b := 15) (pc' := 24) rfl (is_0_f1 (is_5_f1 is_5_0)) rfl dX5_needFile_21 rfl ?_
    refine z_iload_n (pc' := 25) dX5_needFile_24 rfl rfl rfl ?_
    obtain ⟨g4, hF⟩ := z_gde hF
    refine z_iaload (pc' := 26) (ar_2_f0 (is_0_f1 (is_5_f1 is_5_0))) (z_inbe g4) dX5_needFile_25 rfl ?_
    refine z_topi (fun x5 ex5 => ?_)
    replace hF := z_lte hF x5 ex5
    refine z_iconst (v := 1) (pc' := 27) dX5_needFile_26 (by decide) rfl ?_
    refine z_icmp_eq (tgt := 41) (pc' := 30) dX5_needFile_27 (by decide) rfl (fun c6 => ?_) (fun c6 => ?_)
    · rw [if_pos c6] at hF
      exact z_return rfl dX5_needFile_41 (Option.some.inj hF).symm
    · rw [if_neg c6] at hF
      refine z_wk (ls' := [none, none]) (z_len1 (z_len1 z_le0)) ?_
      exact (ok_X5_needFile_30 hst) _ hF
theorem ok_X5_needFile : z_okV I_X5_needFile 1 := ⟨⟨z_Gin (List.mem_of_getElem? (i := 573) (by decide +kernel)) rfl, z_Gin (List.mem_of_getElem? (i := 22) (by decide +kernel)) rfl, z_Gin (List.mem_of_getElem? (i := 89) (by decide +kernel)) rfl, z_Gin (List.mem_of_getElem? (i := 574) (by decide +kernel)) rfl⟩, by decide, by decide, by decide +kernel⟩
theorem k_X5_needFile {l : Launch} {I : z_I} {R : Room} {B : Nat} {p1 : Int32} {q : z_O × z_S} {pc pc' : Nat} {ls : List (Option Value)} {st : List Value} {S S1 : z_S} {idx F L : Nat}  (hF : F_X5_needFile B p1 S = some (.inl none, S1)) (hst : l.stackTraces = false) (w : Cond.methodLink I.1.cls idx yX5_needFile ∈ z_G) (hRF : R.frames = F) (hRL : R.locals = L) (h1 : 7 ≤ F) (h2 : 111 ≤ L) (hs : (st.map fun v => v.category).sum ≤ 8) (d : decode I.2.1 pc = .ok (.invokevirtual idx, 3)) (hp : pc + 3 = pc') (k : z_W l I R B q pc' ls st S1) : z_W l I R B q pc ls (.int p1 :: .ref 0 :: st) S := z_callV (Y := I_X5_needFile) (As := [.int p1]) (st := st) (r := none) (S1 := S1) (c_X5_needFile (q := (.inl none, S1)) hst hF) ok_X5_needFile w (ci := 5) rfl is_5_0.1 is_5_0.2 rfl ⟨by rw [hRF]; exact h1, by rw [hRL]; exact h2⟩ hs d hp rfl k
theorem kx_X5_needFile {l : Launch} {I : z_I} {R : Room} {B : Nat} {p1 : Int32} {q : z_O × z_S} {pc : Nat} {ls : List (Option Value)} {st : List Value} {S S1 : z_S} {idx F L : Nat} {E : String}  (hF : F_X5_needFile B p1 S = some (.inr E, S1)) (hq : q = (.inr E, S1)) (hst : l.stackTraces = false) (w : Cond.methodLink I.1.cls idx yX5_needFile ∈ z_G) (hRF : R.frames = F) (hRL : R.locals = L) (h1 : 7 ≤ F) (h2 : 111 ≤ L) (hRc : R.cells = z_mc q.1 ∧ R.slots = 6 * z_mc q.1) (hs : (st.map fun v => v.category).sum ≤ 8) (d : decode I.2.1 pc = .ok (.invokevirtual idx, 3)) : z_W l I R B q pc ls (.int p1 :: .ref 0 :: st) S := z_callVX (Y := I_X5_needFile) (As := [.int p1]) (st := st) (E := E) (S1 := S1) (c_X5_needFile (q := (.inr E, S1)) hst hF) hq ok_X5_needFile w (ci := 5) rfl is_5_0.1 is_5_0.2 rfl ⟨by rw [hRF]; exact h1, by rw [hRL]; exact h2⟩ hRc hs d rfl

abbrev I_X5_link : z_I := (yX5_link, cX5_link, 4, some .int)
abbrev R_X5_link (q : z_O × z_S) : Room := { frames := 7, locals := 196, cells := z_mc q.1, slots := 6 * z_mc q.1 }
def F_X5_link (B : Nat) (p1 : Int32) (p2 : Int32) (p3 : Int32) (S : z_S) : Option (z_O × z_S) :=
  z_bv (F_X5_needPower B S) fun S2 =>
  (z_bv (F_X5_needDirectory B p1 S2) fun S5 =>
  (z_bv (F_X5_needFile B p3 S5) fun S8 =>
  (z_bv (F_X5_needName B p2 S8) fun S11 =>
  (z_bv (F_X5_needNoEntry B p1 p2 S11) fun S14 =>
  (z_bo (F_X5_keep B S14) fun S17 =>
  (z_bn (F_X5_keyOf B p1 1 p2 S17) fun r19 S20 =>
  (z_bn (F_X4_putIn B 2 r19 3 p3 S20) fun r22 S23 =>
  (z_bv (F_X5_needRoom B r22 S23) fun S26 =>
  (z_gd (z_inb p1 61) (
  z_lt (S26.1 17 (z_ix (p1))) fun x29 =>
  (z_gd (z_inb p1 61) (
  z_lt (z_ua S26 17 (upd (S26.1 17) (z_ix (p1)) (x29 + 1))) fun S31 =>
  (z_gd (z_inb p3 61) (
  z_lt (S31.1 16 (z_ix (p3))) fun x33 =>
  (z_gd (z_inb p3 61) (
  z_lt (z_ua S31 16 (upd (S31.1 16) (z_ix (p3)) (x33 + 1))) fun S35 =>
  (z_gd (z_inb p3 61) (
  z_lt (S35.1 16 (z_ix (p3))) fun x37 =>
  (some (.inl (some x37), S35))))))))))))))))))))
set_option maxRecDepth 20000 in
set_option maxHeartbeats 16000000 in
theorem c_X5_link {l : Launch} {B : Nat} {p1 : Int32} {p2 : Int32} {p3 : Int32} {S : z_S} {q : z_O × z_S} (hst : l.stackTraces = false) (hF : F_X5_link B p1 p2 p3 S = some q) : z_Met l I_X5_link 7 196 B [.ref 0, .int p1, .int p2, .int p3] S q.1 q.2 := by
  refine z_enter (ls := [some (.ref 0), some (.int p1), some (.int p2), some (.int p3)]) (n := 0) (by decide) rfl (Nat.le_of_ble_eq_true rfl) hst ?_
  unfold F_X5_link at hF
  refine z_aload_n (pc' := 1) dX5_link_0 rfl rfl rfl ?_
  rcases z_bve hF with ⟨S2, hc3, hF⟩ | ⟨E9, S9, hc3, hq9⟩
  rotate_left
  · exact kx_X5_needPower (F := 7) (L := 196) hc3 hq9 hst zw_57 rfl rfl (by decide) (by decide) ⟨rfl, rfl⟩ (by decide) dX5_link_1
  refine k_X5_needPower (F := 7) (L := 196) (pc' := 4) hc3 hst zw_57 rfl rfl (by decide) (by decide) (by decide) dX5_link_1 rfl ?_
  refine z_aload_n (pc' := 5) dX5_link_4 rfl rfl rfl ?_
  refine z_iload_n (pc' := 6) dX5_link_5 rfl rfl rfl ?_
  rcases z_bve hF with ⟨S5, hc6, hF⟩ | ⟨E9, S9, hc6, hq9⟩
  rotate_left
  · exact kx_X5_needDirectory (F := 7) (L := 196) hc6 hq9 hst zw_58 rfl rfl (by decide) (by decide) ⟨rfl, rfl⟩ (by decide) dX5_link_6
  refine k_X5_needDirectory (F := 7) (L := 196) (pc' := 9) hc6 hst zw_58 rfl rfl (by decide) (by decide) (by decide) dX5_link_6 rfl ?_
  refine z_aload_n (pc' := 10) dX5_link_9 rfl rfl rfl ?_
  refine z_iload_n (pc' := 11) dX5_link_10 rfl rfl rfl ?_
  rcases z_bve hF with ⟨S8, hc9, hF⟩ | ⟨E9, S9, hc9, hq9⟩
  rotate_left
  · exact kx_X5_needFile (F := 7) (L := 196) hc9 hq9 hst zw_66 rfl rfl (by decide) (by decide) ⟨rfl, rfl⟩ (by decide) dX5_link_11
  refine k_X5_needFile (F := 7) (L := 196) (pc' := 14) hc9 hst zw_66 rfl rfl (by decide) (by decide) (by decide) dX5_link_11 rfl ?_
  refine z_aload_n (pc' := 15) dX5_link_14 rfl rfl rfl ?_
  refine z_iload_n (pc' := 16) dX5_link_15 rfl rfl rfl ?_
  rcases z_bve hF with ⟨S11, hc12, hF⟩ | ⟨E9, S9, hc12, hq9⟩
  rotate_left
  · exact kx_X5_needName (F := 7) (L := 196) hc12 hq9 hst zw_59 rfl rfl (by decide) (by decide) ⟨rfl, rfl⟩ (by decide) dX5_link_16
  refine k_X5_needName (F := 7) (L := 196) (pc' := 19) hc12 hst zw_59 rfl rfl (by decide) (by decide) (by decide) dX5_link_16 rfl ?_
  refine z_aload_n (pc' := 20) dX5_link_19 rfl rfl rfl ?_
  refine z_iload_n (pc' := 21) dX5_link_20 rfl rfl rfl ?_
  refine z_iload_n (pc' := 22) dX5_link_21 rfl rfl rfl ?_
  rcases z_bve hF with ⟨S14, hc15, hF⟩ | ⟨E9, S9, hc15, hq9⟩
  rotate_left
  · exact kx_X5_needNoEntry (F := 7) (L := 196) hc15 hq9 hst zw_60 rfl rfl (by decide) (by decide) ⟨rfl, rfl⟩ (by decide) dX5_link_22
  refine k_X5_needNoEntry (F := 7) (L := 196) (pc' := 25) hc15 hst zw_60 rfl rfl (by decide) (by decide) (by decide) dX5_link_22 rfl ?_
  refine z_aload_n (pc' := 26) dX5_link_25 rfl rfl rfl ?_
  obtain ⟨S17, hc18, hF⟩ := z_boe hF
  refine k_X5_keep (F := 7) (L := 196) (pc' := 29) hc18 hst zw_62 rfl rfl (by decide) (by decide) (by decide) dX5_link_26 rfl ?_
  refine z_aload_n (pc' := 30) dX5_link_29 rfl rfl rfl ?_
  refine z_aload_n (pc' := 31) dX5_link_30 rfl rfl rfl ?_
  refine gf_X5_22 (b := 1) (pc' := 34) rfl is_5_0 rfl dX5_link_31 rfl ?_
  refine gf_X5_92 (b := 2) (pc' := 37) rfl (is_5_f1 is_5_0) rfl dX5_link_34 rfl ?_
  refine z_iload_n (pc' := 38) dX5_link_37 rfl rfl rfl ?_
  refine z_iconst (v := 1) (pc' := 39) dX5_link_38 (by decide) rfl ?_
  refine z_iload_n (pc' := 40) dX5_link_39 rfl rfl rfl ?_
  obtain ⟨r19, S20, hc21, hF⟩ := z_bne hF
  refine k_X5_keyOf (F := 7) (L := 196) (pc' := 43) hc21 hst zw_50 rfl rfl (by decide) (by decide) (Nat.le_of_ble_eq_true rfl) dX5_link_40 rfl ?_
  refine z_iconst (v := 3) (pc' := 44) dX5_link_43 (by decide) rfl ?_
  refine z_iload_n (pc' := 45) dX5_link_44 rfl rfl rfl ?_
  obtain ⟨r22, S23, hc24, hF⟩ := z_bne hF
  refine k_X4_putIn (F := 7) (L := 196) (pc' := 48) (is_0_f0 (is_5_f1 is_5_0)) hc24 hst zw_63 rfl rfl (by decide) (by decide) (Nat.le_of_ble_eq_true rfl) dX5_link_45 rfl ?_
  rcases z_bve hF with ⟨S26, hc27, hF⟩ | ⟨E9, S9, hc27, hq9⟩
  rotate_left
  · exact kx_X5_needRoom (F := 7) (L := 196) hc27 hq9 hst zw_64 rfl rfl (by decide) (by decide) ⟨rfl, rfl⟩ (by decide) dX5_link_48
  refine k_X5_needRoom (F := 7) (L := 196) (pc' := 51) hc27 hst zw_64 rfl rfl (by decide) (by decide) (by decide) dX5_link_48 rfl ?_
  refine z_aload_n (pc' := 52) dX5_link_51 rfl rfl rfl ?_
  refine gf_X5_22 (b := 1) (pc' := 55) rfl is_5_0 rfl dX5_link_52 rfl ?_
  refine gf_X5_72 (b := 14) (pc' := 58) rfl (is_5_f1 is_5_0) rfl dX5_link_55 rfl ?_
  refine gf_X5_110 (b := 17) (pc' := 61) rfl (is_0_f1 (is_5_f1 is_5_0)) rfl dX5_link_58 rfl ?_
  refine z_iload_n (pc' := 62) dX5_link_61 rfl rfl rfl ?_
  refine z_dup2 (pc' := 63) dX5_link_62 rfl ?_
  obtain ⟨g28, hF⟩ := z_gde hF
  refine z_iaload (pc' := 64) (ar_2_f2 (is_0_f1 (is_5_f1 is_5_0))) (z_inbe g28) dX5_link_63 rfl ?_
  refine z_topi (fun x29 ex29 => ?_)
  replace hF := z_lte hF x29 ex29
  refine z_iconst (v := 1) (pc' := 65) dX5_link_64 (by decide) rfl ?_
  refine z_iadd (pc' := 66) dX5_link_65 rfl ?_
  obtain ⟨g30, hF⟩ := z_gde hF
  refine z_iastore (pc' := 67) (ar_2_f2 (is_0_f1 (is_5_f1 is_5_0))) (z_inbe g30) dX5_link_66 rfl (fun S31 eS31 => ?_)
  replace hF := z_lte hF S31 eS31
  refine z_aload_n (pc' := 68) dX5_link_67 rfl rfl rfl ?_
  refine gf_X5_22 (b := 1) (pc' := 71) rfl is_5_0 rfl dX5_link_68 rfl ?_
  refine gf_X5_72 (b := 14) (pc' := 74) rfl (is_5_f1 is_5_0) rfl dX5_link_71 rfl ?_
  refine gf_X5_117 (b := 16) (pc' := 77) rfl (is_0_f1 (is_5_f1 is_5_0)) rfl dX5_link_74 rfl ?_
  refine z_iload_n (pc' := 78) dX5_link_77 rfl rfl rfl ?_
  refine z_dup2 (pc' := 79) dX5_link_78 rfl ?_
  obtain ⟨g32, hF⟩ := z_gde hF
  refine z_iaload (pc' := 80) (ar_2_f1 (is_0_f1 (is_5_f1 is_5_0))) (z_inbe g32) dX5_link_79 rfl ?_
  refine z_topi (fun x33 ex33 => ?_)
  replace hF := z_lte hF x33 ex33
  refine z_iconst (v := 1) (pc' := 81) dX5_link_80 (by decide) rfl ?_
  refine z_iadd (pc' := 82) dX5_link_81 rfl ?_
  obtain ⟨g34, hF⟩ := z_gde hF
  refine z_iastore (pc' := 83) (ar_2_f1 (is_0_f1 (is_5_f1 is_5_0))) (z_inbe g34) dX5_link_82 rfl (fun S35 eS35 => ?_)
  replace hF := z_lte hF S35 eS35
  refine z_aload_n (pc' := 84) dX5_link_83 rfl rfl rfl ?_
  refine gf_X5_22 (b := 1) (pc' := 87) rfl is_5_0 rfl dX5_link_84 rfl ?_
  refine gf_X5_72 (b := 14) (pc' := 90) rfl (is_5_f1 is_5_0) rfl dX5_link_87 rfl ?_
  refine gf_X5_117 (b := 16) (pc' := 93) rfl (is_0_f1 (is_5_f1 is_5_0)) rfl dX5_link_90 rfl ?_
  refine z_iload_n (pc' := 94) dX5_link_93 rfl rfl rfl ?_
  obtain ⟨g36, hF⟩ := z_gde hF
  refine z_iaload (pc' := 95) (ar_2_f1 (is_0_f1 (is_5_f1 is_5_0))) (z_inbe g36) dX5_link_94 rfl ?_
  refine z_topi (fun x37 ex37 => ?_)
  replace hF := z_lte hF x37 ex37
  exact z_ireturn rfl dX5_link_95 (Option.some.inj hF).symm
theorem ok_X5_link : z_okV I_X5_link 3 := ⟨⟨z_Gin (List.mem_of_getElem? (i := 568) (by decide +kernel)) rfl, z_Gin (List.mem_of_getElem? (i := 569) (by decide +kernel)) rfl, z_Gin (List.mem_of_getElem? (i := 89) (by decide +kernel)) rfl, z_Gin (List.mem_of_getElem? (i := 570) (by decide +kernel)) rfl⟩, by decide, by decide, by decide +kernel⟩
theorem k_X5_link {l : Launch} {I : z_I} {R : Room} {B : Nat} {p1 : Int32} {p2 : Int32} {p3 : Int32} {q : z_O × z_S} {pc pc' : Nat} {ls : List (Option Value)} {st : List Value} {S S1 : z_S} {idx F L : Nat} {r : Int32}  (hF : F_X5_link B p1 p2 p3 S = some (.inl (some r), S1)) (hst : l.stackTraces = false) (w : Cond.methodLink I.1.cls idx yX5_link ∈ z_G) (hRF : R.frames = F) (hRL : R.locals = L) (h1 : 8 ≤ F) (h2 : 219 ≤ L) (hs : (st.map fun v => v.category).sum ≤ 8) (d : decode I.2.1 pc = .ok (.invokevirtual idx, 3)) (hp : pc + 3 = pc') (k : z_W l I R B q pc' ls (.int r :: st) S1) : z_W l I R B q pc ls (.int p3 :: .int p2 :: .int p1 :: .ref 0 :: st) S := z_callV (Y := I_X5_link) (As := [.int p1, .int p2, .int p3]) (st := st) (r := (some r)) (S1 := S1) (c_X5_link (q := (.inl (some r), S1)) hst hF) ok_X5_link w (ci := 5) rfl is_5_0.1 is_5_0.2 rfl ⟨by rw [hRF]; exact h1, by rw [hRL]; exact h2⟩ hs d hp rfl k
theorem kx_X5_link {l : Launch} {I : z_I} {R : Room} {B : Nat} {p1 : Int32} {p2 : Int32} {p3 : Int32} {q : z_O × z_S} {pc : Nat} {ls : List (Option Value)} {st : List Value} {S S1 : z_S} {idx F L : Nat} {E : String}  (hF : F_X5_link B p1 p2 p3 S = some (.inr E, S1)) (hq : q = (.inr E, S1)) (hst : l.stackTraces = false) (w : Cond.methodLink I.1.cls idx yX5_link ∈ z_G) (hRF : R.frames = F) (hRL : R.locals = L) (h1 : 8 ≤ F) (h2 : 219 ≤ L) (hRc : R.cells = z_mc q.1 ∧ R.slots = 6 * z_mc q.1) (hs : (st.map fun v => v.category).sum ≤ 8) (d : decode I.2.1 pc = .ok (.invokevirtual idx, 3)) : z_W l I R B q pc ls (.int p3 :: .int p2 :: .int p1 :: .ref 0 :: st) S := z_callVX (Y := I_X5_link) (As := [.int p1, .int p2, .int p3]) (st := st) (E := E) (S1 := S1) (c_X5_link (q := (.inr E, S1)) hst hF) hq ok_X5_link w (ci := 5) rfl is_5_0.1 is_5_0.2 rfl ⟨by rw [hRF]; exact h1, by rw [hRL]; exact h2⟩ hRc hs d rfl

abbrev I_X5_changeData : z_I := (yX5_changeData, cX5_changeData, 7, some .boolean)
abbrev R_X5_changeData (q : z_O × z_S) : Room := { frames := 1, locals := 22, cells := z_mc q.1, slots := 6 * z_mc q.1 }
def F_X5_changeData_65 (B : Nat)  : Nat → Int32 → Int32 → Int32 → z_S → Option (z_O × z_S)
  | 0, _, _, _, _ => none
  | n + 1, v1, v3, v5, S => if v5 < v3 then
    z_gd (z_b01 1) (some (.inl (some 1), S))
  else
    z_gd (z_inb ((v1 * 16) + v5) 976) (
    z_lt (S.1 19 (z_ix ((v1 * 16) + v5))) fun x3 =>
    (z_gd (z_inb x3 B) (
    z_lt (z_ua S 3 (upd (S.1 3) (z_ix (x3)) 0)) fun S5 =>
    (F_X5_changeData_65 B n v1 v3 (v5 + (-1)) S5))))
set_option maxRecDepth 20000 in
set_option maxHeartbeats 16000000 in
theorem ok_X5_changeData_65 {l : Launch} {B : Nat} {q : z_O × z_S} (hst : l.stackTraces = false) : ∀ (n : Nat) (v1 : Int32) (v3 : Int32) (v5 : Int32) (S : z_S), F_X5_changeData_65 B n v1 v3 v5 S = some q → z_W l I_X5_changeData (R_X5_changeData q) B q 65 [some (.ref 0), some (.int v1), none, some (.int v3), some (.ref 19), some (.int v5), none] [] S := by
  intro n
  induction n with
  | zero => intro v1 v3 v5 S hF; cases hF
  | succ n ih =>
    intro v1 v3 v5 S hF
    rw [F_X5_changeData_65] at hF
    refine z_iload (pc' := 67) dX5_changeData_65 rfl rfl ?_
    refine z_iload_n (pc' := 68) dX5_changeData_67 rfl rfl rfl ?_
    refine z_icmp_lt (tgt := 99) (pc' := 71) dX5_changeData_68 (by decide) rfl (fun c6 => ?_) (fun c6 => ?_)
    · rw [if_pos c6] at hF
      refine z_iconst (v := 1) (pc' := 100) dX5_changeData_99 (by decide) rfl ?_
      obtain ⟨g1, hF⟩ := z_gde hF
      exact z_zreturn rfl (z_b01e g1) dX5_changeData_100 (Option.some.inj hF).symm
    · rw [if_neg c6] at hF
      refine z_aload_n (pc' := 72) dX5_changeData_71 rfl rfl rfl ?_
      refine gf_X5_22 (b := 1) (pc' := 75) rfl is_5_0 rfl dX5_changeData_72 rfl ?_
      refine gf_X5_92 (b := 2) (pc' := 78) rfl (is_5_f1 is_5_0) rfl dX5_changeData_75 rfl ?_
      refine gf_X5_354 (b := 3) (pc' := 81) rfl (is_0_f0 (is_5_f1 is_5_0)) rfl dX5_changeData_78 rfl ?_
      refine z_aload (pc' := 83) dX5_changeData_81 rfl rfl ?_
      refine z_iload_n (pc' := 84) dX5_changeData_83 rfl rfl rfl ?_
      refine z_bipush (v := 16) (pc' := 86) dX5_changeData_84 (by decide) rfl ?_
      refine z_imul (pc' := 87) dX5_changeData_86 rfl ?_
      refine z_iload (pc' := 89) dX5_changeData_87 rfl rfl ?_
      refine z_iadd (pc' := 90) dX5_changeData_89 rfl ?_
      obtain ⟨g2, hF⟩ := z_gde hF
      refine z_iaload (pc' := 91) (ar_2_f4 (is_0_f1 (is_5_f1 is_5_0))) (z_inbe g2) dX5_changeData_90 rfl ?_
      refine z_topi (fun x3 ex3 => ?_)
      replace hF := z_lte hF x3 ex3
      refine z_iconst (v := 0) (pc' := 92) dX5_changeData_91 (by decide) rfl ?_
      obtain ⟨g4, hF⟩ := z_gde hF
      refine z_iastore (pc' := 93) (ar_4_f1 (is_0_f0 (is_5_f1 is_5_0))) (z_inbe g4) dX5_changeData_92 rfl (fun S5 eS5 => ?_)
      replace hF := z_lte hF S5 eS5
      refine z_iinc (v := v5 + (-1)) (pc' := 96) dX5_changeData_93 rfl rfl (by decide) rfl rfl ?_
      refine z_goto (pc' := 65) dX5_changeData_96 (by decide) ?_
      refine z_wk (ls' := [some (.ref 0), some (.int v1), none, some (.int v3), some (.ref 19), some (.int (v5 + (-1))), none]) (z_lec rfl (z_lec rfl (z_len1 (z_lec rfl (z_lec rfl (z_lec rfl (z_len1 z_le0))))))) ?_
      exact ih _ _ _ _ hF
def F_X5_changeData_15 (B : Nat)  : Nat → Int32 → Int32 → Int32 → Int32 → z_S → Option (z_O × z_S)
  | 0, _, _, _, _, _ => none
  | n + 1, v1, v2, v3, v5, S => if v3 ≤ v5 then
    F_X5_changeData_65 B z_n v1 v3 (v2 - 1) S
  else
    z_bn (F_X4_takeBlock B 2 4 S) fun r1 S2 =>
    (if r1 = (-1) then
      z_gd (z_b01 0) (some (.inl (some 0), S2))
    else
      z_gd (z_inb ((v1 * 16) + v5) 976) (
      z_lt (z_ua S2 19 (upd (S2.1 19) (z_ix ((v1 * 16) + v5)) r1)) fun S5 =>
      (F_X5_changeData_15 B n v1 v2 v3 (v5 + 1) S5)))
set_option maxRecDepth 20000 in
set_option maxHeartbeats 16000000 in
theorem ok_X5_changeData_15 {l : Launch} {B : Nat} {q : z_O × z_S} (hst : l.stackTraces = false) : ∀ (n : Nat) (v1 : Int32) (v2 : Int32) (v3 : Int32) (v5 : Int32) (S : z_S), F_X5_changeData_15 B n v1 v2 v3 v5 S = some q → z_W l I_X5_changeData (R_X5_changeData q) B q 15 [some (.ref 0), some (.int v1), some (.int v2), some (.int v3), some (.ref 19), some (.int v5), none] [] S := by
  intro n
  induction n with
  | zero => intro v1 v2 v3 v5 S hF; cases hF
  | succ n ih =>
    intro v1 v2 v3 v5 S hF
    rw [F_X5_changeData_15] at hF
    refine z_iload (pc' := 17) dX5_changeData_15 rfl rfl ?_
    refine z_iload_n (pc' := 18) dX5_changeData_17 rfl rfl rfl ?_
    refine z_icmp_ge (tgt := 60) (pc' := 21) dX5_changeData_18 (by decide) rfl (fun c8 => ?_) (fun c8 => ?_)
    · rw [if_pos c8] at hF
      refine z_iload_n (pc' := 61) dX5_changeData_60 rfl rfl rfl ?_
      refine z_iconst (v := 1) (pc' := 62) dX5_changeData_61 (by decide) rfl ?_
      refine z_isub (pc' := 63) dX5_changeData_62 rfl ?_
      refine z_istore (pc' := 65) dX5_changeData_63 (by decide) rfl rfl ?_
      refine z_wk (ls' := [some (.ref 0), some (.int v1), none, some (.int v3), some (.ref 19), some (.int (v2 - 1)), none]) (z_lec rfl (z_lec rfl (z_len1 (z_lec rfl (z_lec rfl (z_lec rfl (z_len1 z_le0))))))) ?_
      exact (ok_X5_changeData_65 hst z_n) _ _ _ _ hF
    · rw [if_neg c8] at hF
      refine z_aload_n (pc' := 22) dX5_changeData_21 rfl rfl rfl ?_
      refine gf_X5_22 (b := 1) (pc' := 25) rfl is_5_0 rfl dX5_changeData_22 rfl ?_
      refine gf_X5_92 (b := 2) (pc' := 28) rfl (is_5_f1 is_5_0) rfl dX5_changeData_25 rfl ?_
      refine z_iconst (v := 4) (pc' := 29) dX5_changeData_28 (by decide) rfl ?_
      obtain ⟨r1, S2, hc3, hF⟩ := z_bne hF
      refine k_X4_takeBlock (F := 1) (L := 22) (pc' := 32) (is_0_f0 (is_5_f1 is_5_0)) hc3 hst zw_67 rfl rfl (by decide) (by decide) (by decide) dX5_changeData_29 rfl ?_
      refine z_istore (pc' := 34) dX5_changeData_32 (by decide) rfl rfl ?_
      refine z_iload (pc' := 36) dX5_changeData_34 rfl rfl ?_
      refine z_iconst (v := (-1)) (pc' := 37) dX5_changeData_36 (by decide) rfl ?_
      refine z_icmp_ne (tgt := 42) (pc' := 40) dX5_changeData_37 (by decide) rfl (fun c7 => ?_) (fun c7 => ?_)
      · rw [if_neg c7] at hF
        refine z_aload (pc' := 44) dX5_changeData_42 rfl rfl ?_
        refine z_iload_n (pc' := 45) dX5_changeData_44 rfl rfl rfl ?_
        refine z_bipush (v := 16) (pc' := 47) dX5_changeData_45 (by decide) rfl ?_
        refine z_imul (pc' := 48) dX5_changeData_47 rfl ?_
        refine z_iload (pc' := 50) dX5_changeData_48 rfl rfl ?_
        refine z_iadd (pc' := 51) dX5_changeData_50 rfl ?_
        refine z_iload (pc' := 53) dX5_changeData_51 rfl rfl ?_
        obtain ⟨g4, hF⟩ := z_gde hF
        refine z_iastore (pc' := 54) (ar_2_f4 (is_0_f1 (is_5_f1 is_5_0))) (z_inbe g4) dX5_changeData_53 rfl (fun S5 eS5 => ?_)
        replace hF := z_lte hF S5 eS5
        refine z_iinc (v := v5 + 1) (pc' := 57) dX5_changeData_54 rfl rfl (by decide) rfl rfl ?_
        refine z_goto (pc' := 15) dX5_changeData_57 (by decide) ?_
        refine z_wk (ls' := [some (.ref 0), some (.int v1), some (.int v2), some (.int v3), some (.ref 19), some (.int (v5 + 1)), none]) (z_lec rfl (z_lec rfl (z_lec rfl (z_lec rfl (z_lec rfl (z_lec rfl (z_len1 z_le0))))))) ?_
        exact ih _ _ _ _ _ hF
      · rw [if_pos c7] at hF
        refine z_iconst (v := 0) (pc' := 41) dX5_changeData_40 (by decide) rfl ?_
        obtain ⟨g6, hF⟩ := z_gde hF
        exact z_zreturn rfl (z_b01e g6) dX5_changeData_41 (Option.some.inj hF).symm
def F_X5_changeData (B : Nat) (p1 : Int32) (p2 : Int32) (p3 : Int32) (S : z_S) : Option (z_O × z_S) :=
  F_X5_changeData_15 B z_n p1 p2 p3 p2 S
set_option maxRecDepth 20000 in
set_option maxHeartbeats 16000000 in
theorem c_X5_changeData {l : Launch} {B : Nat} {p1 : Int32} {p2 : Int32} {p3 : Int32} {S : z_S} {q : z_O × z_S} (hst : l.stackTraces = false) (hF : F_X5_changeData B p1 p2 p3 S = some q) : z_Met l I_X5_changeData 1 22 B [.ref 0, .int p1, .int p2, .int p3] S q.1 q.2 := by
  refine z_enter (ls := [some (.ref 0), some (.int p1), some (.int p2), some (.int p3), none, none, none]) (n := 3) (by decide) rfl (Nat.le_of_ble_eq_true rfl) hst ?_
  unfold F_X5_changeData at hF
  refine z_aload_n (pc' := 1) dX5_changeData_0 rfl rfl rfl ?_
  refine gf_X5_22 (b := 1) (pc' := 4) rfl is_5_0 rfl dX5_changeData_1 rfl ?_
  refine gf_X5_72 (b := 14) (pc' := 7) rfl (is_5_f1 is_5_0) rfl dX5_changeData_4 rfl ?_
  refine gf_X5_202 (b := 19) (pc' := 10) rfl (is_0_f1 (is_5_f1 is_5_0)) rfl dX5_changeData_7 rfl ?_
  refine z_astore (pc' := 12) dX5_changeData_10 (by decide) rfl rfl ?_
  refine z_iload_n (pc' := 13) dX5_changeData_12 rfl rfl rfl ?_
  refine z_istore (pc' := 15) dX5_changeData_13 (by decide) rfl rfl ?_
  refine z_wk (ls' := [some (.ref 0), some (.int p1), some (.int p2), some (.int p3), some (.ref 19), some (.int p2), none]) (z_lec rfl (z_lec rfl (z_lec rfl (z_lec rfl (z_lec rfl (z_lec rfl (z_len1 z_le0))))))) ?_
  exact (ok_X5_changeData_15 hst z_n) _ _ _ _ _ hF
theorem ok_X5_changeData : z_okV I_X5_changeData 3 := ⟨⟨z_Gin (List.mem_of_getElem? (i := 626) (by decide +kernel)) rfl, z_Gin (List.mem_of_getElem? (i := 29) (by decide +kernel)) rfl, z_Gin (List.mem_of_getElem? (i := 89) (by decide +kernel)) rfl, z_Gin (List.mem_of_getElem? (i := 627) (by decide +kernel)) rfl⟩, by decide, by decide, by decide +kernel⟩
theorem k_X5_changeData {l : Launch} {I : z_I} {R : Room} {B : Nat} {p1 : Int32} {p2 : Int32} {p3 : Int32} {q : z_O × z_S} {pc pc' : Nat} {ls : List (Option Value)} {st : List Value} {S S1 : z_S} {idx F L : Nat} {r : Int32}  (hF : F_X5_changeData B p1 p2 p3 S = some (.inl (some r), S1)) (hst : l.stackTraces = false) (w : Cond.methodLink I.1.cls idx yX5_changeData ∈ z_G) (hRF : R.frames = F) (hRL : R.locals = L) (h1 : 2 ≤ F) (h2 : 48 ≤ L) (hs : (st.map fun v => v.category).sum ≤ 8) (d : decode I.2.1 pc = .ok (.invokevirtual idx, 3)) (hp : pc + 3 = pc') (k : z_W l I R B q pc' ls (.int r :: st) S1) : z_W l I R B q pc ls (.int p3 :: .int p2 :: .int p1 :: .ref 0 :: st) S := z_callV (Y := I_X5_changeData) (As := [.int p1, .int p2, .int p3]) (st := st) (r := (some r)) (S1 := S1) (c_X5_changeData (q := (.inl (some r), S1)) hst hF) ok_X5_changeData w (ci := 5) rfl is_5_0.1 is_5_0.2 rfl ⟨by rw [hRF]; exact h1, by rw [hRL]; exact h2⟩ hs d hp rfl k

