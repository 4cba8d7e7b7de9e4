abbrev I_X4_blocksInUse : z_I := (yX4_blocksInUse, cX4_blocksInUse, 3, some .int)
abbrev R_X4_blocksInUse (q : z_O × z_S) : Room := { frames := 0, locals := 0, cells := z_mc q.1, slots := 6 * z_mc q.1 }
def F_X4_blocksInUse_24 (B : Nat) (t : Nat) (k4 : Int32 → Int32 → z_S → Option (z_O × z_S)) (v1 : Int32) (v2 : Int32) (S : z_S) : Option (z_O × z_S) :=
  k4 v1 (v2 + 1) S
set_option maxRecDepth 20000 in
set_option maxHeartbeats 16000000 in
theorem ok_X4_blocksInUse_24 {l : Launch} {B : Nat} {t : Nat} {q : z_O × z_S} (hst : l.stackTraces = false) (ht : z_is 4 t) {k4 : Int32 → Int32 → z_S → Option (z_O × z_S)} (hk4 : ∀ (v1 : Int32) (v2 : Int32) (S : z_S), k4 v1 v2 S = some q → z_W l I_X4_blocksInUse (R_X4_blocksInUse q) B q 4 [some (.ref t), some (.int v1), some (.int v2)] [] S) : ∀ (v1 : Int32) (v2 : Int32) (S : z_S), F_X4_blocksInUse_24 B t k4 v1 v2 S = some q → z_W l I_X4_blocksInUse (R_X4_blocksInUse q) B q 24 [some (.ref t), some (.int v1), some (.int v2)] [] S := by
  intro v1 v2 S hF
  unfold F_X4_blocksInUse_24 at hF
  refine z_iinc (v := v2 + 1) (pc' := 27) dX4_blocksInUse_24 rfl rfl (by decide) rfl rfl ?_
  refine z_goto (pc' := 4) dX4_blocksInUse_27 (by decide) ?_
  refine z_wk (ls' := [some (.ref t), some (.int v1), some (.int (v2 + 1))]) (z_lec rfl (z_lec rfl (z_lec rfl z_le0))) ?_
  exact hk4 _ _ _ hF
def F_X4_blocksInUse_4 (B : Nat) (t : Nat)  : Nat → Int32 → Int32 → z_S → Option (z_O × z_S)
  | 0, _, _, _ => none
  | n + 1, v1, v2, S => if (S.2.1 t 0) ≤ v2 then
    some (.inl (some v1), S)
  else
    z_gd (z_inb v2 B) (
    z_lt (S.1 (t + 1) (z_ix (v2))) fun x2 =>
    (if x2 = 0 then
      F_X4_blocksInUse_24 B t (F_X4_blocksInUse_4 B t n) v1 v2 S
    else
      F_X4_blocksInUse_24 B t (F_X4_blocksInUse_4 B t n) (v1 + 1) v2 S))
set_option maxRecDepth 20000 in
set_option maxHeartbeats 16000000 in
theorem ok_X4_blocksInUse_4 {l : Launch} {B : Nat} {t : Nat} {q : z_O × z_S} (hst : l.stackTraces = false) (ht : z_is 4 t) : ∀ (n : Nat) (v1 : Int32) (v2 : Int32) (S : z_S), F_X4_blocksInUse_4 B t n v1 v2 S = some q → z_W l I_X4_blocksInUse (R_X4_blocksInUse q) B q 4 [some (.ref t), some (.int v1), some (.int v2)] [] S := by
  intro n
  induction n with
  | zero => intro v1 v2 S hF; cases hF
  | succ n ih =>
    intro v1 v2 S hF
    rw [F_X4_blocksInUse_4] at hF
    refine z_iload_n (pc' := 5) dX4_blocksInUse_4 rfl rfl rfl ?_
    refine z_aload_n (pc' := 6) dX4_blocksInUse_5 rfl rfl rfl ?_
    refine gf_X4_9 (pc' := 9) rfl ht dX4_blocksInUse_6 rfl ?_
    refine z_icmp_ge (tgt := 30) (pc' := 12) dX4_blocksInUse_9 (by decide) rfl (fun c4 => ?_) (fun c4 => ?_)
    · rw [if_pos c4] at hF
      refine z_iload_n (pc' := 31) dX4_blocksInUse_30 rfl rfl rfl ?_
      exact z_ireturn rfl dX4_blocksInUse_31 (Option.some.inj hF).symm
    · rw [if_neg c4] at hF
      refine z_aload_n (pc' := 13) dX4_blocksInUse_12 rfl rfl rfl ?_
      refine gf_X4_15 (b := t + 1) (pc' := 16) rfl ht rfl dX4_blocksInUse_13 rfl ?_
      refine z_iload_n (pc' := 17) dX4_blocksInUse_16 rfl rfl rfl ?_
      obtain ⟨g1, hF⟩ := z_gde hF
      refine z_iaload (pc' := 18) (ar_4_f1 ht) (z_inbe g1) dX4_blocksInUse_17 rfl ?_
      refine z_topi (fun x2 ex2 => ?_)
      replace hF := z_lte hF x2 ex2
      refine z_if_eq (tgt := 24) (pc' := 21) dX4_blocksInUse_18 (by decide) rfl (fun c3 => ?_) (fun c3 => ?_)
      · rw [if_pos c3] at hF
        refine z_wk (ls' := [some (.ref t), some (.int v1), some (.int v2)]) (z_lec rfl (z_lec rfl (z_lec rfl z_le0))) ?_
        exact (ok_X4_blocksInUse_24 hst ht ih) _ _ _ hF
      · rw [if_neg c3] at hF
        refine z_iinc (v := v1 + 1) (pc' := 24) dX4_blocksInUse_21 rfl rfl (by decide) rfl rfl ?_
        refine z_wk (ls' := [some (.ref t), some (.int (v1 + 1)), some (.int v2)]) (z_lec rfl (z_lec rfl (z_lec rfl z_le0))) ?_
        exact (ok_X4_blocksInUse_24 hst ht ih) _ _ _ hF
def F_X4_blocksInUse (B : Nat) (t : Nat)  (S : z_S) : Option (z_O × z_S) :=
  F_X4_blocksInUse_4 B t z_n 0 0 S
set_option maxRecDepth 20000 in
set_option maxHeartbeats 16000000 in
theorem c_X4_blocksInUse {l : Launch} {B : Nat} {t : Nat}  {S : z_S} {q : z_O × z_S} (hst : l.stackTraces = false) (ht : z_is 4 t) (hF : F_X4_blocksInUse B t S = some q) : z_Met l I_X4_blocksInUse 0 0 B [.ref t] S q.1 q.2 := by
  refine z_enter (ls := [some (.ref t), none, none]) (n := 2) (by decide) rfl (Nat.le_of_ble_eq_true rfl) hst ?_
  unfold F_X4_blocksInUse at hF
  refine z_iconst (v := 0) (pc' := 1) dX4_blocksInUse_0 (by decide) rfl ?_
  refine z_istore_n (pc' := 2) dX4_blocksInUse_1 rfl (by decide) rfl rfl ?_
  refine z_iconst (v := 0) (pc' := 3) dX4_blocksInUse_2 (by decide) rfl ?_
  refine z_istore_n (pc' := 4) dX4_blocksInUse_3 rfl (by decide) rfl rfl ?_
  refine z_wk (ls' := [some (.ref t), some (.int 0), some (.int 0)]) (z_lec rfl (z_lec rfl (z_lec rfl z_le0))) ?_
  exact (ok_X4_blocksInUse_4 hst ht z_n) _ _ _ hF
theorem ok_X4_blocksInUse : z_okV I_X4_blocksInUse 0 := ⟨⟨z_Gin (List.mem_of_getElem? (i := 891) (by decide +kernel)) rfl, z_Gin (List.mem_of_getElem? (i := 892) (by decide +kernel)) rfl, z_Gin (List.mem_of_getElem? (i := 92) (by decide +kernel)) rfl, z_Gin (List.mem_of_getElem? (i := 893) (by decide +kernel)) rfl⟩, by decide, by decide, by decide +kernel⟩
theorem k_X4_blocksInUse {l : Launch} {I : z_I} {R : Room} {B : Nat} {t : Nat}  {q : z_O × z_S} {pc pc' : Nat} {ls : List (Option Value)} {st : List Value} {S S1 : z_S} {idx F L : Nat} {r : Int32} (ht : z_is 4 t) (hF : F_X4_blocksInUse B t S = some (.inl (some r), S1)) (hst : l.stackTraces = false) (w : Cond.methodLink I.1.cls idx yX4_blocksInUse ∈ z_G) (hRF : R.frames = F) (hRL : R.locals = L) (h1 : 1 ≤ F) (h2 : 22 ≤ L) (hs : (st.map fun v => v.category).sum ≤ 8) (d : decode I.2.1 pc = .ok (.invokevirtual idx, 3)) (hp : pc + 3 = pc') (k : z_W l I R B q pc' ls (.int r :: st) S1) : z_W l I R B q pc ls (.ref t :: st) S := z_callV (Y := I_X4_blocksInUse) (As := []) (st := st) (r := (some r)) (S1 := S1) (c_X4_blocksInUse (q := (.inl (some r), S1)) hst ht hF) ok_X4_blocksInUse w (ci := 4) rfl ht.1 ht.2 rfl ⟨by rw [hRF]; exact h1, by rw [hRL]; exact h2⟩ hs d hp rfl k

abbrev I_X4_leaves : z_I := (yX4_leaves, cX4_leaves, 3, some .int)
abbrev R_X4_leaves (q : z_O × z_S) : Room := { frames := 0, locals := 0, cells := z_mc q.1, slots := 6 * z_mc q.1 }
def F_X4_leaves_25 (B : Nat) (t : Nat) (k4 : Int32 → Int32 → z_S → Option (z_O × z_S)) (v1 : Int32) (v2 : Int32) (S : z_S) : Option (z_O × z_S) :=
  k4 v1 (v2 + 1) S
set_option maxRecDepth 20000 in
set_option maxHeartbeats 16000000 in
theorem ok_X4_leaves_25 {l : Launch} {B : Nat} {t : Nat} {q : z_O × z_S} (hst : l.stackTraces = false) (ht : z_is 4 t) {k4 : Int32 → Int32 → z_S → Option (z_O × z_S)} (hk4 : ∀ (v1 : Int32) (v2 : Int32) (S : z_S), k4 v1 v2 S = some q → z_W l I_X4_leaves (R_X4_leaves q) B q 4 [some (.ref t), some (.int v1), some (.int v2)] [] S) : ∀ (v1 : Int32) (v2 : Int32) (S : z_S), F_X4_leaves_25 B t k4 v1 v2 S = some q → z_W l I_X4_leaves (R_X4_leaves q) B q 25 [some (.ref t), some (.int v1), some (.int v2)] [] S := by
  intro v1 v2 S hF
  unfold F_X4_leaves_25 at hF
  refine z_iinc (v := v2 + 1) (pc' := 28) dX4_leaves_25 rfl rfl (by decide) rfl rfl ?_
  refine z_goto (pc' := 4) dX4_leaves_28 (by decide) ?_
  refine z_wk (ls' := [some (.ref t), some (.int v1), some (.int (v2 + 1))]) (z_lec rfl (z_lec rfl (z_lec rfl z_le0))) ?_
  exact hk4 _ _ _ hF
def F_X4_leaves_4 (B : Nat) (t : Nat)  : Nat → Int32 → Int32 → z_S → Option (z_O × z_S)
  | 0, _, _, _ => none
  | n + 1, v1, v2, S => if (S.2.1 t 0) ≤ v2 then
    some (.inl (some v1), S)
  else
    z_gd (z_inb v2 B) (
    z_lt (S.1 (t + 1) (z_ix (v2))) fun x2 =>
    (if x2 = 2 then
      F_X4_leaves_25 B t (F_X4_leaves_4 B t n) (v1 + 1) v2 S
    else
      F_X4_leaves_25 B t (F_X4_leaves_4 B t n) v1 v2 S))
set_option maxRecDepth 20000 in
set_option maxHeartbeats 16000000 in
theorem ok_X4_leaves_4 {l : Launch} {B : Nat} {t : Nat} {q : z_O × z_S} (hst : l.stackTraces = false) (ht : z_is 4 t) : ∀ (n : Nat) (v1 : Int32) (v2 : Int32) (S : z_S), F_X4_leaves_4 B t n v1 v2 S = some q → z_W l I_X4_leaves (R_X4_leaves q) B q 4 [some (.ref t), some (.int v1), some (.int v2)] [] S := by
  intro n
  induction n with
  | zero => intro v1 v2 S hF; cases hF
  | succ n ih =>
    intro v1 v2 S hF
    rw [F_X4_leaves_4] at hF
    refine z_iload_n (pc' := 5) dX4_leaves_4 rfl rfl rfl ?_
    refine z_aload_n (pc' := 6) dX4_leaves_5 rfl rfl rfl ?_
    refine gf_X4_9 (pc' := 9) rfl ht dX4_leaves_6 rfl ?_
    refine z_icmp_ge (tgt := 31) (pc' := 12) dX4_leaves_9 (by decide) rfl (fun c4 => ?_) (fun c4 => ?_)
    · rw [if_pos c4] at hF
      refine z_iload_n (pc' := 32) dX4_leaves_31 rfl rfl rfl ?_
      exact z_ireturn rfl dX4_leaves_32 (Option.some.inj hF).symm
    · rw [if_neg c4] at hF
      refine z_aload_n (pc' := 13) dX4_leaves_12 rfl rfl rfl ?_
      refine gf_X4_15 (b := t + 1) (pc' := 16) rfl ht rfl dX4_leaves_13 rfl ?_
      refine z_iload_n (pc' := 17) dX4_leaves_16 rfl rfl rfl ?_
      obtain ⟨g1, hF⟩ := z_gde hF
      refine z_iaload (pc' := 18) (ar_4_f1 ht) (z_inbe g1) dX4_leaves_17 rfl ?_
      refine z_topi (fun x2 ex2 => ?_)
      replace hF := z_lte hF x2 ex2
      refine z_iconst (v := 2) (pc' := 19) dX4_leaves_18 (by decide) rfl ?_
      refine z_icmp_ne (tgt := 25) (pc' := 22) dX4_leaves_19 (by decide) rfl (fun c3 => ?_) (fun c3 => ?_)
      · rw [if_neg c3] at hF
        refine z_wk (ls' := [some (.ref t), some (.int v1), some (.int v2)]) (z_lec rfl (z_lec rfl (z_lec rfl z_le0))) ?_
        exact (ok_X4_leaves_25 hst ht ih) _ _ _ hF
      · rw [if_pos c3] at hF
        refine z_iinc (v := v1 + 1) (pc' := 25) dX4_leaves_22 rfl rfl (by decide) rfl rfl ?_
        refine z_wk (ls' := [some (.ref t), some (.int (v1 + 1)), some (.int v2)]) (z_lec rfl (z_lec rfl (z_lec rfl z_le0))) ?_
        exact (ok_X4_leaves_25 hst ht ih) _ _ _ hF
def F_X4_leaves (B : Nat) (t : Nat)  (S : z_S) : Option (z_O × z_S) :=
  F_X4_leaves_4 B t z_n 0 0 S
set_option maxRecDepth 20000 in
set_option maxHeartbeats 16000000 in
theorem c_X4_leaves {l : Launch} {B : Nat} {t : Nat}  {S : z_S} {q : z_O × z_S} (hst : l.stackTraces = false) (ht : z_is 4 t) (hF : F_X4_leaves B t S = some q) : z_Met l I_X4_leaves 0 0 B [.ref t] S q.1 q.2 := by
  refine z_enter (ls := [some (.ref t), none, none]) (n := 2) (by decide) rfl (Nat.le_of_ble_eq_true rfl) hst ?_
  unfold F_X4_leaves at hF
  refine z_iconst (v := 0) (pc' := 1) dX4_leaves_0 (by decide) rfl ?_
  refine z_istore_n (pc' := 2) dX4_leaves_1 rfl (by decide) rfl rfl ?_
  refine z_iconst (v := 0) (pc' := 3) dX4_leaves_2 (by decide) rfl ?_
  refine z_istore_n (pc' := 4) dX4_leaves_3 rfl (by decide) rfl rfl ?_
  refine z_wk (ls' := [some (.ref t), some (.int 0), some (.int 0)]) (z_lec rfl (z_lec rfl (z_lec rfl z_le0))) ?_
  exact (ok_X4_leaves_4 hst ht z_n) _ _ _ hF
theorem ok_X4_leaves : z_okV I_X4_leaves 0 := ⟨⟨z_Gin (List.mem_of_getElem? (i := 895) (by decide +kernel)) rfl, z_Gin (List.mem_of_getElem? (i := 896) (by decide +kernel)) rfl, z_Gin (List.mem_of_getElem? (i := 92) (by decide +kernel)) rfl, z_Gin (List.mem_of_getElem? (i := 897) (by decide +kernel)) rfl⟩, by decide, by decide, by decide +kernel⟩
theorem k_X4_leaves {l : Launch} {I : z_I} {R : Room} {B : Nat} {t : Nat}  {q : z_O × z_S} {pc pc' : Nat} {ls : List (Option Value)} {st : List Value} {S S1 : z_S} {idx F L : Nat} {r : Int32} (ht : z_is 4 t) (hF : F_X4_leaves B t S = some (.inl (some r), S1)) (hst : l.stackTraces = false) (w : Cond.methodLink I.1.cls idx yX4_leaves ∈ z_G) (hRF : R.frames = F) (hRL : R.locals = L) (h1 : 1 ≤ F) (h2 : 22 ≤ L) (hs : (st.map fun v => v.category).sum ≤ 8) (d : decode I.2.1 pc = .ok (.invokevirtual idx, 3)) (hp : pc + 3 = pc') (k : z_W l I R B q pc' ls (.int r :: st) S1) : z_W l I R B q pc ls (.ref t :: st) S := z_callV (Y := I_X4_leaves) (As := []) (st := st) (r := (some r)) (S1 := S1) (c_X4_leaves (q := (.inl (some r), S1)) hst ht hF) ok_X4_leaves w (ci := 4) rfl ht.1 ht.2 rfl ⟨by rw [hRF]; exact h1, by rw [hRL]; exact h2⟩ hs d hp rfl k

abbrev I_X4_items : z_I := (yX4_items, cX4_items, 3, some .int)
abbrev R_X4_items (q : z_O × z_S) : Room := { frames := 0, locals := 0, cells := z_mc q.1, slots := 6 * z_mc q.1 }
def F_X4_items_31 (B : Nat) (t : Nat) (k4 : Int32 → Int32 → z_S → Option (z_O × z_S)) (v1 : Int32) (v2 : Int32) (S : z_S) : Option (z_O × z_S) :=
  k4 v1 (v2 + 1) S
set_option maxRecDepth 20000 in
set_option maxHeartbeats 16000000 in
theorem ok_X4_items_31 {l : Launch} {B : Nat} {t : Nat} {q : z_O × z_S} (hst : l.stackTraces = false) (ht : z_is 4 t) {k4 : Int32 → Int32 → z_S → Option (z_O × z_S)} (hk4 : ∀ (v1 : Int32) (v2 : Int32) (S : z_S), k4 v1 v2 S = some q → z_W l I_X4_items (R_X4_items q) B q 4 [some (.ref t), some (.int v1), some (.int v2)] [] S) : ∀ (v1 : Int32) (v2 : Int32) (S : z_S), F_X4_items_31 B t k4 v1 v2 S = some q → z_W l I_X4_items (R_X4_items q) B q 31 [some (.ref t), some (.int v1), some (.int v2)] [] S := by
  intro v1 v2 S hF
  unfold F_X4_items_31 at hF
  refine z_iinc (v := v2 + 1) (pc' := 34) dX4_items_31 rfl rfl (by decide) rfl rfl ?_
  refine z_goto (pc' := 4) dX4_items_34 (by decide) ?_
  refine z_wk (ls' := [some (.ref t), some (.int v1), some (.int (v2 + 1))]) (z_lec rfl (z_lec rfl (z_lec rfl z_le0))) ?_
  exact hk4 _ _ _ hF
def F_X4_items_4 (B : Nat) (t : Nat)  : Nat → Int32 → Int32 → z_S → Option (z_O × z_S)
  | 0, _, _, _ => none
  | n + 1, v1, v2, S => if (S.2.1 t 0) ≤ v2 then
    some (.inl (some v1), S)
  else
    z_gd (z_inb v2 B) (
    z_lt (S.1 (t + 1) (z_ix (v2))) fun x2 =>
    (if x2 = 2 then
      z_gd (z_inb v2 B) (
      z_lt (S.1 (t + 3) (z_ix (v2))) fun x4 =>
      (F_X4_items_31 B t (F_X4_items_4 B t n) (v1 + x4) v2 S))
    else
      F_X4_items_31 B t (F_X4_items_4 B t n) v1 v2 S))
set_option maxRecDepth 20000 in
set_option maxHeartbeats 16000000 in
theorem ok_X4_items_4 {l : Launch} {B : Nat} {t : Nat} {q : z_O × z_S} (hst : l.stackTraces = false) (ht : z_is 4 t) : ∀ (n : Nat) (v1 : Int32) (v2 : Int32) (S : z_S), F_X4_items_4 B t n v1 v2 S = some q → z_W l I_X4_items (R_X4_items q) B q 4 [some (.ref t), some (.int v1), some (.int v2)] [] S := by
  intro n
  induction n with
  | zero => intro v1 v2 S hF; cases hF
  | succ n ih =>
    intro v1 v2 S hF
    rw [F_X4_items_4] at hF
    refine z_iload_n (pc' := 5) dX4_items_4 rfl rfl rfl ?_
    refine z_aload_n (pc' := 6) dX4_items_5 rfl rfl rfl ?_
    refine gf_X4_9 (pc' := 9) rfl ht dX4_items_6 rfl ?_
    refine z_icmp_ge (tgt := 37) (pc' := 12) dX4_items_9 (by decide) rfl (fun c6 => ?_) (fun c6 => ?_)
    · rw [if_pos c6] at hF
      refine z_iload_n (pc' := 38) dX4_items_37 rfl rfl rfl ?_
      exact z_ireturn rfl dX4_items_38 (Option.some.inj hF).symm
    · rw [if_neg c6] at hF
      refine z_aload_n (pc' := 13) dX4_items_12 rfl rfl rfl ?_
      refine gf_X4_15 (b := t + 1) (pc' := 16) rfl ht rfl dX4_items_13 rfl ?_
      refine z_iload_n (pc' := 17) dX4_items_16 rfl rfl rfl ?_
      obtain ⟨g1, hF⟩ := z_gde hF
      refine z_iaload (pc' := 18) (ar_4_f1 ht) (z_inbe g1) dX4_items_17 rfl ?_
      refine z_topi (fun x2 ex2 => ?_)
      replace hF := z_lte hF x2 ex2
      refine z_iconst (v := 2) (pc' := 19) dX4_items_18 (by decide) rfl ?_
      refine z_icmp_ne (tgt := 31) (pc' := 22) dX4_items_19 (by decide) rfl (fun c5 => ?_) (fun c5 => ?_)
      · rw [if_neg c5] at hF
        refine z_wk (ls' := [some (.ref t), some (.int v1), some (.int v2)]) (z_lec rfl (z_lec rfl (z_lec rfl z_le0))) ?_
        exact (ok_X4_items_31 hst ht ih) _ _ _ hF
      · rw [if_pos c5] at hF
        refine z_iload_n (pc' := 23) dX4_items_22 rfl rfl rfl ?_
        refine z_aload_n (pc' := 24) dX4_items_23 rfl rfl rfl ?_
        refine gf_X4_22 (b := t + 3) (pc' := 27) rfl ht rfl dX4_items_24 rfl ?_
        refine z_iload_n (pc' := 28) dX4_items_27 rfl rfl rfl ?_
        obtain ⟨g3, hF⟩ := z_gde hF
        refine z_iaload (pc' := 29) (ar_4_f3 ht) (z_inbe g3) dX4_items_28 rfl ?_
        refine z_topi (fun x4 ex4 => ?_)
        replace hF := z_lte hF x4 ex4
        refine z_iadd (pc' := 30) dX4_items_29 rfl ?_
        refine z_istore_n (pc' := 31) dX4_items_30 rfl (by decide) rfl rfl ?_
        refine z_wk (ls' := [some (.ref t), some (.int (v1 + x4)), some (.int v2)]) (z_lec rfl (z_lec rfl (z_lec rfl z_le0))) ?_
        exact (ok_X4_items_31 hst ht ih) _ _ _ hF
def F_X4_items (B : Nat) (t : Nat)  (S : z_S) : Option (z_O × z_S) :=
  F_X4_items_4 B t z_n 0 0 S
set_option maxRecDepth 20000 in
set_option maxHeartbeats 16000000 in
theorem c_X4_items {l : Launch} {B : Nat} {t : Nat}  {S : z_S} {q : z_O × z_S} (hst : l.stackTraces = false) (ht : z_is 4 t) (hF : F_X4_items B t S = some q) : z_Met l I_X4_items 0 0 B [.ref t] S q.1 q.2 := by
  refine z_enter (ls := [some (.ref t), none, none]) (n := 2) (by decide) rfl (Nat.le_of_ble_eq_true rfl) hst ?_
  unfold F_X4_items at hF
  refine z_iconst (v := 0) (pc' := 1) dX4_items_0 (by decide) rfl ?_
  refine z_istore_n (pc' := 2) dX4_items_1 rfl (by decide) rfl rfl ?_
  refine z_iconst (v := 0) (pc' := 3) dX4_items_2 (by decide) rfl ?_
  refine z_istore_n (pc' := 4) dX4_items_3 rfl (by decide) rfl rfl ?_
  refine z_wk (ls' := [some (.ref t), some (.int 0), some (.int 0)]) (z_lec rfl (z_lec rfl (z_lec rfl z_le0))) ?_
  exact (ok_X4_items_4 hst ht z_n) _ _ _ hF
theorem ok_X4_items : z_okV I_X4_items 0 := ⟨⟨z_Gin (List.mem_of_getElem? (i := 903) (by decide +kernel)) rfl, z_Gin (List.mem_of_getElem? (i := 904) (by decide +kernel)) rfl, z_Gin (List.mem_of_getElem? (i := 92) (by decide +kernel)) rfl, z_Gin (List.mem_of_getElem? (i := 905) (by decide +kernel)) rfl⟩, by decide, by decide, by decide +kernel⟩
theorem k_X4_items {l : Launch} {I : z_I} {R : Room} {B : Nat} {t : Nat}  {q : z_O × z_S} {pc pc' : Nat} {ls : List (Option Value)} {st : List Value} {S S1 : z_S} {idx F L : Nat} {r : Int32} (ht : z_is 4 t) (hF : F_X4_items B t S = some (.inl (some r), S1)) (hst : l.stackTraces = false) (w : Cond.methodLink I.1.cls idx yX4_items ∈ z_G) (hRF : R.frames = F) (hRL : R.locals = L) (h1 : 1 ≤ F) (h2 : 22 ≤ L) (hs : (st.map fun v => v.category).sum ≤ 8) (d : decode I.2.1 pc = .ok (.invokevirtual idx, 3)) (hp : pc + 3 = pc') (k : z_W l I R B q pc' ls (.int r :: st) S1) : z_W l I R B q pc ls (.ref t :: st) S := z_callV (Y := I_X4_items) (As := []) (st := st) (r := (some r)) (S1 := S1) (c_X4_items (q := (.inl (some r), S1)) hst ht hF) ok_X4_items w (ci := 4) rfl ht.1 ht.2 rfl ⟨by rw [hRF]; exact h1, by rw [hRL]; exact h2⟩ hs d hp rfl k

abbrev I_X4_usedOfAll : z_I := (yX4_usedOfAll, cX4_usedOfAll, 3, some .int)
abbrev R_X4_usedOfAll (q : z_O × z_S) : Room := { frames := 0, locals := 0, cells := z_mc q.1, slots := 6 * z_mc q.1 }
def F_X4_usedOfAll_31 (B : Nat) (t : Nat) (k4 : Int32 → Int32 → z_S → Option (z_O × z_S)) (v1 : Int32) (v2 : Int32) (S : z_S) : Option (z_O × z_S) :=
  k4 v1 (v2 + 1) S
set_option maxRecDepth 20000 in
set_option maxHeartbeats 16000000 in
theorem ok_X4_usedOfAll_31 {l : Launch} {B : Nat} {t : Nat} {q : z_O × z_S} (hst : l.stackTraces = false) (ht : z_is 4 t) {k4 : Int32 → Int32 → z_S → Option (z_O × z_S)} (hk4 : ∀ (v1 : Int32) (v2 : Int32) (S : z_S), k4 v1 v2 S = some q → z_W l I_X4_usedOfAll (R_X4_usedOfAll q) B q 4 [some (.ref t), some (.int v1), some (.int v2)] [] S) : ∀ (v1 : Int32) (v2 : Int32) (S : z_S), F_X4_usedOfAll_31 B t k4 v1 v2 S = some q → z_W l I_X4_usedOfAll (R_X4_usedOfAll q) B q 31 [some (.ref t), some (.int v1), some (.int v2)] [] S := by
  intro v1 v2 S hF
  unfold F_X4_usedOfAll_31 at hF
  refine z_iinc (v := v2 + 1) (pc' := 34) dX4_usedOfAll_31 rfl rfl (by decide) rfl rfl ?_
  refine z_goto (pc' := 4) dX4_usedOfAll_34 (by decide) ?_
  refine z_wk (ls' := [some (.ref t), some (.int v1), some (.int (v2 + 1))]) (z_lec rfl (z_lec rfl (z_lec rfl z_le0))) ?_
  exact hk4 _ _ _ hF
def F_X4_usedOfAll_4 (B : Nat) (t : Nat)  : Nat → Int32 → Int32 → z_S → Option (z_O × z_S)
  | 0, _, _, _ => none
  | n + 1, v1, v2, S => if (S.2.1 t 0) ≤ v2 then
    some (.inl (some v1), S)
  else
    z_gd (z_inb v2 B) (
    z_lt (S.1 (t + 1) (z_ix (v2))) fun x2 =>
    (if x2 = 2 then
      z_gd (z_inb v2 B) (
      z_lt (S.1 (t + 4) (z_ix (v2))) fun x4 =>
      (F_X4_usedOfAll_31 B t (F_X4_usedOfAll_4 B t n) (v1 + x4) v2 S))
    else
      F_X4_usedOfAll_31 B t (F_X4_usedOfAll_4 B t n) v1 v2 S))
set_option maxRecDepth 20000 in
set_option maxHeartbeats 16000000 in
theorem ok_X4_usedOfAll_4 {l : Launch} {B : Nat} {t : Nat} {q : z_O × z_S} (hst : l.stackTraces = false) (ht : z_is 4 t) : ∀ (n : Nat) (v1 : Int32) (v2 : Int32) (S : z_S), F_X4_usedOfAll_4 B t n v1 v2 S = some q → z_W l I_X4_usedOfAll (R_X4_usedOfAll q) B q 4 [some (.ref t), some (.int v1), some (.int v2)] [] S := by
  intro n
  induction n with
  | zero => intro v1 v2 S hF; cases hF
  | succ n ih =>
    intro v1 v2 S hF
    rw [F_X4_usedOfAll_4] at hF
    refine z_iload_n (pc' := 5) dX4_usedOfAll_4 rfl rfl rfl ?_
    refine z_aload_n (pc' := 6) dX4_usedOfAll_5 rfl rfl rfl ?_
    refine gf_X4_9 (pc' := 9) rfl ht dX4_usedOfAll_6 rfl ?_
    refine z_icmp_ge (tgt := 37) (pc' := 12) dX4_usedOfAll_9 (by decide) rfl (fun c6 => ?_) (fun c6 => ?_)
    · rw [if_pos c6] at hF
      refine z_iload_n (pc' := 38) dX4_usedOfAll_37 rfl rfl rfl ?_
      exact z_ireturn rfl dX4_usedOfAll_38 (Option.some.inj hF).symm
    · rw [if_neg c6] at hF
      refine z_aload_n (pc' := 13) dX4_usedOfAll_12 rfl rfl rfl ?_
      refine gf_X4_15 (b := t + 1) (pc' := 16) rfl ht rfl dX4_usedOfAll_13 rfl ?_
      refine z_iload_n (pc' := 17) dX4_usedOfAll_16 rfl rfl rfl ?_
      obtain ⟨g1, hF⟩ := z_gde hF
      refine z_iaload (pc' := 18) (ar_4_f1 ht) (z_inbe g1) dX4_usedOfAll_17 rfl ?_
      refine z_topi (fun x2 ex2 => ?_)
      replace hF := z_lte hF x2 ex2
      refine z_iconst (v := 2) (pc' := 19) dX4_usedOfAll_18 (by decide) rfl ?_
      refine z_icmp_ne (tgt := 31) (pc' := 22) dX4_usedOfAll_19 (by decide) rfl (fun c5 => ?_) (fun c5 => ?_)
      · rw [if_neg c5] at hF
        refine z_wk (ls' := [some (.ref t), some (.int v1), some (.int v2)]) (z_lec rfl (z_lec rfl (z_lec rfl z_le0))) ?_
        exact (ok_X4_usedOfAll_31 hst ht ih) _ _ _ hF
      · rw [if_pos c5] at hF
        refine z_iload_n (pc' := 23) dX4_usedOfAll_22 rfl rfl rfl ?_
        refine z_aload_n (pc' := 24) dX4_usedOfAll_23 rfl rfl rfl ?_
        refine gf_X4_25 (b := t + 4) (pc' := 27) rfl ht rfl dX4_usedOfAll_24 rfl ?_
        refine z_iload_n (pc' := 28) dX4_usedOfAll_27 rfl rfl rfl ?_
        obtain ⟨g3, hF⟩ := z_gde hF
        refine z_iaload (pc' := 29) (ar_4_f4 ht) (z_inbe g3) dX4_usedOfAll_28 rfl ?_
        refine z_topi (fun x4 ex4 => ?_)
        replace hF := z_lte hF x4 ex4
        refine z_iadd (pc' := 30) dX4_usedOfAll_29 rfl ?_
        refine z_istore_n (pc' := 31) dX4_usedOfAll_30 rfl (by decide) rfl rfl ?_
        refine z_wk (ls' := [some (.ref t), some (.int (v1 + x4)), some (.int v2)]) (z_lec rfl (z_lec rfl (z_lec rfl z_le0))) ?_
        exact (ok_X4_usedOfAll_31 hst ht ih) _ _ _ hF
def F_X4_usedOfAll (B : Nat) (t : Nat)  (S : z_S) : Option (z_O × z_S) :=
  F_X4_usedOfAll_4 B t z_n 0 0 S
set_option maxRecDepth 20000 in
set_option maxHeartbeats 16000000 in
theorem c_X4_usedOfAll {l : Launch} {B : Nat} {t : Nat}  {S : z_S} {q : z_O × z_S} (hst : l.stackTraces = false) (ht : z_is 4 t) (hF : F_X4_usedOfAll B t S = some q) : z_Met l I_X4_usedOfAll 0 0 B [.ref t] S q.1 q.2 := by
  refine z_enter (ls := [some (.ref t), none, none]) (n := 2) (by decide) rfl (Nat.le_of_ble_eq_true rfl) hst ?_
  unfold F_X4_usedOfAll at hF
  refine z_iconst (v := 0) (pc' := 1) dX4_usedOfAll_0 (by decide) rfl ?_
  refine z_istore_n (pc' := 2) dX4_usedOfAll_1 rfl (by decide) rfl rfl ?_
  refine z_iconst (v := 0) (pc' := 3) dX4_usedOfAll_2 (by decide) rfl ?_
  refine z_istore_n (pc' := 4) dX4_usedOfAll_3 rfl (by decide) rfl rfl ?_
  refine z_wk (ls' := [some (.ref t), some (.int 0), some (.int 0)]) (z_lec rfl (z_lec rfl (z_lec rfl z_le0))) ?_
  exact (ok_X4_usedOfAll_4 hst ht z_n) _ _ _ hF
theorem ok_X4_usedOfAll : z_okV I_X4_usedOfAll 0 := ⟨⟨z_Gin (List.mem_of_getElem? (i := 907) (by decide +kernel)) rfl, z_Gin (List.mem_of_getElem? (i := 908) (by decide +kernel)) rfl, z_Gin (List.mem_of_getElem? (i := 92) (by decide +kernel)) rfl, z_Gin (List.mem_of_getElem? (i := 909) (by decide +kernel)) rfl⟩, by decide, by decide, by decide +kernel⟩
theorem k_X4_usedOfAll {l : Launch} {I : z_I} {R : Room} {B : Nat} {t : Nat}  {q : z_O × z_S} {pc pc' : Nat} {ls : List (Option Value)} {st : List Value} {S S1 : z_S} {idx F L : Nat} {r : Int32} (ht : z_is 4 t) (hF : F_X4_usedOfAll B t S = some (.inl (some r), S1)) (hst : l.stackTraces = false) (w : Cond.methodLink I.1.cls idx yX4_usedOfAll ∈ z_G) (hRF : R.frames = F) (hRL : R.locals = L) (h1 : 1 ≤ F) (h2 : 22 ≤ L) (hs : (st.map fun v => v.category).sum ≤ 8) (d : decode I.2.1 pc = .ok (.invokevirtual idx, 3)) (hp : pc + 3 = pc') (k : z_W l I R B q pc' ls (.int r :: st) S1) : z_W l I R B q pc ls (.ref t :: st) S := z_callV (Y := I_X4_usedOfAll) (As := []) (st := st) (r := (some r)) (S1 := S1) (c_X4_usedOfAll (q := (.inl (some r), S1)) hst ht hF) ok_X4_usedOfAll w (ci := 4) rfl ht.1 ht.2 rfl ⟨by rw [hRF]; exact h1, by rw [hRL]; exact h2⟩ hs d hp rfl k

abbrev I_X4_leftmost : z_I := (yX4_leftmost, cX4_leftmost, 4, some .int)
abbrev R_X4_leftmost (q : z_O × z_S) : Room := { frames := 0, locals := 0, cells := z_mc q.1, slots := 6 * z_mc q.1 }
def F_X4_leftmost_15 (B : Nat) (t : Nat)  : Nat → Int32 → Int32 → Int32 → z_S → Option (z_O × z_S)
  | 0, _, _, _, _ => none
  | n + 1, v1, v2, v3, S => if v3 ≤ v1 then
    some (.inl (some v2), S)
  else
    z_gd (z_inb (v2 * 6) (6 * B)) (
    z_lt (S.1 (t + 8) (z_ix (v2 * 6))) fun x2 =>
    (F_X4_leftmost_15 B t n v1 x2 (v3 + (-1)) S))
set_option maxRecDepth 20000 in
set_option maxHeartbeats 16000000 in
theorem ok_X4_leftmost_15 {l : Launch} {B : Nat} {t : Nat} {q : z_O × z_S} (hst : l.stackTraces = false) (ht : z_is 4 t) : ∀ (n : Nat) (v1 : Int32) (v2 : Int32) (v3 : Int32) (S : z_S), F_X4_leftmost_15 B t n v1 v2 v3 S = some q → z_W l I_X4_leftmost (R_X4_leftmost q) B q 15 [some (.ref t), some (.int v1), some (.int v2), some (.int v3)] [] S := by
  intro n
  induction n with
  | zero => intro v1 v2 v3 S hF; cases hF
  | succ n ih =>
    intro v1 v2 v3 S hF
    rw [F_X4_leftmost_15] at hF
    refine z_iload_n (pc' := 16) dX4_leftmost_15 rfl rfl rfl ?_
    refine z_iload_n (pc' := 17) dX4_leftmost_16 rfl rfl rfl ?_
    refine z_icmp_le (tgt := 36) (pc' := 20) dX4_leftmost_17 (by decide) rfl (fun c3 => ?_) (fun c3 => ?_)
    · rw [if_pos c3] at hF
      refine z_iload_n (pc' := 37) dX4_leftmost_36 rfl rfl rfl ?_
      exact z_ireturn rfl dX4_leftmost_37 (Option.some.inj hF).symm
    · rw [if_neg c3] at hF
      refine z_aload_n (pc' := 21) dX4_leftmost_20 rfl rfl rfl ?_
      refine gf_X4_37 (b := t + 8) (pc' := 24) rfl ht rfl dX4_leftmost_21 rfl ?_
      refine z_iload_n (pc' := 25) dX4_leftmost_24 rfl rfl rfl ?_
      refine z_bipush (v := 6) (pc' := 27) dX4_leftmost_25 (by decide) rfl ?_
      refine z_imul (pc' := 28) dX4_leftmost_27 rfl ?_
      obtain ⟨g1, hF⟩ := z_gde hF
      refine z_iaload (pc' := 29) (ar_4_f8 ht) (z_inbe g1) dX4_leftmost_28 rfl ?_
      refine z_topi (fun x2 ex2 => ?_)
      replace hF := z_lte hF x2 ex2
      refine z_istore_n (pc' := 30) dX4_leftmost_29 rfl (by decide) rfl rfl ?_
      refine z_iinc (v := v3 + (-1)) (pc' := 33) dX4_leftmost_30 rfl rfl (by decide) rfl rfl ?_
      refine z_goto (pc' := 15) dX4_leftmost_33 (by decide) ?_
      refine z_wk (ls' := [some (.ref t), some (.int v1), some (.int x2), some (.int (v3 + (-1)))]) (z_lec rfl (z_lec rfl (z_lec rfl (z_lec rfl z_le0)))) ?_
      exact ih _ _ _ _ hF
def F_X4_leftmost (B : Nat) (t : Nat) (p1 : Int32) (S : z_S) : Option (z_O × z_S) :=
  z_gd (z_inb (S.2.1 t 12) B) (
  z_lt (S.1 (t + 2) (z_ix (S.2.1 t 12))) fun x2 =>
  (F_X4_leftmost_15 B t z_n p1 (S.2.1 t 12) x2 S))
set_option maxRecDepth 20000 in
set_option maxHeartbeats 16000000 in
theorem c_X4_leftmost {l : Launch} {B : Nat} {t : Nat} {p1 : Int32} {S : z_S} {q : z_O × z_S} (hst : l.stackTraces = false) (ht : z_is 4 t) (hF : F_X4_leftmost B t p1 S = some q) : z_Met l I_X4_leftmost 0 0 B [.ref t, .int p1] S q.1 q.2 := by
  refine z_enter (ls := [some (.ref t), some (.int p1), none, none]) (n := 2) (by decide) rfl (Nat.le_of_ble_eq_true rfl) hst ?_
  unfold F_X4_leftmost at hF
  refine z_aload_n (pc' := 1) dX4_leftmost_0 rfl rfl rfl ?_
  refine gf_X4_53 (pc' := 4) rfl ht dX4_leftmost_1 rfl ?_
  refine z_istore_n (pc' := 5) dX4_leftmost_4 rfl (by decide) rfl rfl ?_
  refine z_aload_n (pc' := 6) dX4_leftmost_5 rfl rfl rfl ?_
  refine gf_X4_19 (b := t + 2) (pc' := 9) rfl ht rfl dX4_leftmost_6 rfl ?_
  refine z_aload_n (pc' := 10) dX4_leftmost_9 rfl rfl rfl ?_
  refine gf_X4_53 (pc' := 13) rfl ht dX4_leftmost_10 rfl ?_
  obtain ⟨g1, hF⟩ := z_gde hF
  refine z_iaload (pc' := 14) (ar_4_f2 ht) (z_inbe g1) dX4_leftmost_13 rfl ?_
  refine z_topi (fun x2 ex2 => ?_)
  replace hF := z_lte hF x2 ex2
  refine z_istore_n (pc' := 15) dX4_leftmost_14 rfl (by decide) rfl rfl ?_
  refine z_wk (ls' := [some (.ref t), some (.int p1), some (.int (S.2.1 t 12)), some (.int x2)]) (z_lec rfl (z_lec rfl (z_lec rfl (z_lec rfl z_le0)))) ?_
  exact (ok_X4_leftmost_15 hst ht z_n) _ _ _ _ hF
theorem ok_X4_leftmost : z_okV I_X4_leftmost 1 := ⟨⟨z_Gin (List.mem_of_getElem? (i := 471) (by decide +kernel)) rfl, z_Gin (List.mem_of_getElem? (i := 472) (by decide +kernel)) rfl, z_Gin (List.mem_of_getElem? (i := 92) (by decide +kernel)) rfl, z_Gin (List.mem_of_getElem? (i := 473) (by decide +kernel)) rfl⟩, by decide, by decide, by decide +kernel⟩
theorem k_X4_leftmost {l : Launch} {I : z_I} {R : Room} {B : Nat} {t : Nat} {p1 : Int32} {q : z_O × z_S} {pc pc' : Nat} {ls : List (Option Value)} {st : List Value} {S S1 : z_S} {idx F L : Nat} {r : Int32} (ht : z_is 4 t) (hF : F_X4_leftmost B t p1 S = some (.inl (some r), S1)) (hst : l.stackTraces = false) (w : Cond.methodLink I.1.cls idx yX4_leftmost ∈ z_G) (hRF : R.frames = F) (hRL : R.locals = L) (h1 : 1 ≤ F) (h2 : 23 ≤ L) (hs : (st.map fun v => v.category).sum ≤ 8) (d : decode I.2.1 pc = .ok (.invokevirtual idx, 3)) (hp : pc + 3 = pc') (k : z_W l I R B q pc' ls (.int r :: st) S1) : z_W l I R B q pc ls (.int p1 :: .ref t :: st) S := z_callV (Y := I_X4_leftmost) (As := [.int p1]) (st := st) (r := (some r)) (S1 := S1) (c_X4_leftmost (q := (.inl (some r), S1)) hst ht hF) ok_X4_leftmost w (ci := 4) rfl ht.1 ht.2 rfl ⟨by rw [hRF]; exact h1, by rw [hRL]; exact h2⟩ hs d hp rfl k

abbrev I_X4_nodeAt : z_I := (yX4_nodeAt, cX4_nodeAt, 5, some .int)
abbrev R_X4_nodeAt (q : z_O × z_S) : Room := { frames := 1, locals := 23, cells := z_mc q.1, slots := 6 * z_mc q.1 }
def F_X4_nodeAt_64 (B : Nat) (t : Nat)  (v3 : Int32) (S : z_S) : Option (z_O × z_S) :=
  some (.inl (some v3), S)
set_option maxRecDepth 20000 in
set_option maxHeartbeats 16000000 in
theorem ok_X4_nodeAt_64 {l : Launch} {B : Nat} {t : Nat} {q : z_O × z_S} (hst : l.stackTraces = false) (ht : z_is 4 t) : ∀ (v3 : Int32) (S : z_S), F_X4_nodeAt_64 B t v3 S = some q → z_W l I_X4_nodeAt (R_X4_nodeAt q) B q 64 [none, none, none, some (.int v3), none] [] S := by
  intro v3 S hF
  unfold F_X4_nodeAt_64 at hF
  refine z_iload_n (pc' := 65) dX4_nodeAt_64 rfl rfl rfl ?_
  exact z_ireturn rfl dX4_nodeAt_65 (Option.some.inj hF).symm
def F_X4_nodeAt_40 (B : Nat) (t : Nat)  : Nat → Int32 → Int32 → Int32 → z_S → Option (z_O × z_S)
  | 0, _, _, _, _ => none
  | n + 1, v2, v3, v4, S => if v2 ≤ v4 then
    F_X4_nodeAt_64 B t v3 S
  else
    if v3 = (-1) then
      F_X4_nodeAt_64 B t v3 S
    else
      z_gd (z_inb v3 B) (
      z_lt (S.1 (t + 7) (z_ix (v3))) fun x2 =>
      (F_X4_nodeAt_40 B t n v2 x2 (v4 + 1) S))
set_option maxRecDepth 20000 in
set_option maxHeartbeats 16000000 in
theorem ok_X4_nodeAt_40 {l : Launch} {B : Nat} {t : Nat} {q : z_O × z_S} (hst : l.stackTraces = false) (ht : z_is 4 t) : ∀ (n : Nat) (v2 : Int32) (v3 : Int32) (v4 : Int32) (S : z_S), F_X4_nodeAt_40 B t n v2 v3 v4 S = some q → z_W l I_X4_nodeAt (R_X4_nodeAt q) B q 40 [some (.ref t), none, some (.int v2), some (.int v3), some (.int v4)] [] S := by
  intro n
  induction n with
  | zero => intro v2 v3 v4 S hF; cases hF
  | succ n ih =>
    intro v2 v3 v4 S hF
    rw [F_X4_nodeAt_40] at hF
    refine z_iload (pc' := 42) dX4_nodeAt_40 rfl rfl ?_
    refine z_iload_n (pc' := 43) dX4_nodeAt_42 rfl rfl rfl ?_
    refine z_icmp_ge (tgt := 64) (pc' := 46) dX4_nodeAt_43 (by decide) rfl (fun c4 => ?_) (fun c4 => ?_)
    · rw [if_pos c4] at hF
      refine z_wk (ls' := [none, none, none, some (.int v3), none]) (z_len1 (z_len1 (z_len1 (z_lec rfl (z_len1 z_le0))))) ?_
      exact (ok_X4_nodeAt_64 hst ht) _ _ hF
    · rw [if_neg c4] at hF
      refine z_iload_n (pc' := 47) dX4_nodeAt_46 rfl rfl rfl ?_
      refine z_iconst (v := (-1)) (pc' := 48) dX4_nodeAt_47 (by decide) rfl ?_
      refine z_icmp_eq (tgt := 64) (pc' := 51) dX4_nodeAt_48 (by decide) rfl (fun c3 => ?_) (fun c3 => ?_)
      · rw [if_pos c3] at hF
        refine z_wk (ls' := [none, none, none, some (.int v3), none]) (z_len1 (z_len1 (z_len1 (z_lec rfl (z_len1 z_le0))))) ?_
        exact (ok_X4_nodeAt_64 hst ht) _ _ hF
      · rw [if_neg c3] at hF
        refine z_aload_n (pc' := 52) dX4_nodeAt_51 rfl rfl rfl ?_
        refine gf_X4_34 (b := t + 7) (pc' := 55) rfl ht rfl dX4_nodeAt_52 rfl ?_
        refine z_iload_n (pc' := 56) dX4_nodeAt_55 rfl rfl rfl ?_
        obtain ⟨g1, hF⟩ := z_gde hF
        refine z_iaload (pc' := 57) (ar_4_f7 ht) (z_inbe g1) dX4_nodeAt_56 rfl ?_
        refine z_topi (fun x2 ex2 => ?_)
        replace hF := z_lte hF x2 ex2
        refine z_istore_n (pc' := 58) dX4_nodeAt_57 rfl (by decide) rfl rfl ?_
        refine z_iinc (v := v4 + 1) (pc' := 61) dX4_nodeAt_58 rfl rfl (by decide) rfl rfl ?_
        refine z_goto (pc' := 40) dX4_nodeAt_61 (by decide) ?_
        refine z_wk (ls' := [some (.ref t), none, some (.int v2), some (.int x2), some (.int (v4 + 1))]) (z_lec rfl (z_len1 (z_lec rfl (z_lec rfl (z_lec rfl z_le0))))) ?_
        exact ih _ _ _ _ hF
def F_X4_nodeAt_29 (B : Nat) (t : Nat)   (S : z_S) : Option (z_O × z_S) :=
  some (.inl (some (-1)), S)
set_option maxRecDepth 20000 in
set_option maxHeartbeats 16000000 in
theorem ok_X4_nodeAt_29 {l : Launch} {B : Nat} {t : Nat} {q : z_O × z_S} (hst : l.stackTraces = false) (ht : z_is 4 t) : ∀ (S : z_S), F_X4_nodeAt_29 B t S = some q → z_W l I_X4_nodeAt (R_X4_nodeAt q) B q 29 [none, none, none, none, none] [] S := by
  intro S hF
  unfold F_X4_nodeAt_29 at hF
  refine z_iconst (v := (-1)) (pc' := 30) dX4_nodeAt_29 (by decide) rfl ?_
  exact z_ireturn rfl dX4_nodeAt_30 (Option.some.inj hF).symm
def F_X4_nodeAt (B : Nat) (t : Nat) (p1 : Int32) (p2 : Int32) (S : z_S) : Option (z_O × z_S) :=
  if p1 < 0 then
    F_X4_nodeAt_29 B t S
  else
    z_gd (z_inb (S.2.1 t 12) B) (
    z_lt (S.1 (t + 2) (z_ix (S.2.1 t 12))) fun x2 =>
    (if x2 < p1 then
      F_X4_nodeAt_29 B t S
    else
      if p2 < 0 then
        F_X4_nodeAt_29 B t S
      else
        if p2 < (S.2.1 t 0) then
          z_bn (F_X4_leftmost B t p1 S) fun r3 S4 =>
          (F_X4_nodeAt_40 B t z_n p2 r3 0 S4)
        else
          F_X4_nodeAt_29 B t S))
set_option maxRecDepth 20000 in
set_option maxHeartbeats 16000000 in
theorem c_X4_nodeAt {l : Launch} {B : Nat} {t : Nat} {p1 : Int32} {p2 : Int32} {S : z_S} {q : z_O × z_S} (hst : l.stackTraces = false) (ht : z_is 4 t) (hF : F_X4_nodeAt B t p1 p2 S = some q) : z_Met l I_X4_nodeAt 1 23 B [.ref t, .int p1, .int p2] S q.1 q.2 := by
  refine z_enter (ls := [some (.ref t), some (.int p1), some (.int p2), none, none]) (n := 2) (by decide) rfl (Nat.le_of_ble_eq_true rfl) hst ?_
  unfold F_X4_nodeAt at hF
  refine z_iload_n (pc' := 1) dX4_nodeAt_0 rfl rfl rfl ?_
  refine z_if_lt (tgt := 29) (pc' := 4) dX4_nodeAt_1 (by decide) rfl (fun c9 => ?_) (fun c9 => ?_)
  · rw [if_pos c9] at hF
    refine z_wk (ls' := [none, none, none, none, none]) (z_len1 (z_len1 (z_len1 (z_len1 (z_len1 z_le0))))) ?_
    exact (ok_X4_nodeAt_29 hst ht) _ hF
  · rw [if_neg c9] at hF
    refine z_iload_n (pc' := 5) dX4_nodeAt_4 rfl rfl rfl ?_
    refine z_aload_n (pc' := 6) dX4_nodeAt_5 rfl rfl rfl ?_
    refine gf_X4_19 (b := t + 2) (pc' := 9) rfl ht rfl dX4_nodeAt_6 rfl ?_
    refine z_aload_n (pc' := 10) dX4_nodeAt_9 rfl rfl rfl ?_
    refine gf_X4_53 (pc' := 13) rfl ht dX4_nodeAt_10 rfl ?_
    obtain ⟨g1, hF⟩ := z_gde hF
    refine z_iaload (pc' := 14) (ar_4_f2 ht) (z_inbe g1) dX4_nodeAt_13 rfl ?_
    refine z_topi (fun x2 ex2 => ?_)
    replace hF := z_lte hF x2 ex2
    refine z_icmp_gt (tgt := 29) (pc' := 17) dX4_nodeAt_14 (by decide) rfl (fun c8 => ?_) (fun c8 => ?_)
    · rw [if_pos c8] at hF
      refine z_wk (ls' := [none, none, none, none, none]) (z_len1 (z_len1 (z_len1 (z_len1 (z_len1 z_le0))))) ?_
      exact (ok_X4_nodeAt_29 hst ht) _ hF
    · rw [if_neg c8] at hF
      refine z_iload_n (pc' := 18) dX4_nodeAt_17 rfl rfl rfl ?_
      refine z_if_lt (tgt := 29) (pc' := 21) dX4_nodeAt_18 (by decide) rfl (fun c7 => ?_) (fun c7 => ?_)
      · rw [if_pos c7] at hF
        refine z_wk (ls' := [none, none, none, none, none]) (z_len1 (z_len1 (z_len1 (z_len1 (z_len1 z_le0))))) ?_
        exact (ok_X4_nodeAt_29 hst ht) _ hF
      · rw [if_neg c7] at hF
        refine z_iload_n (pc' := 22) dX4_nodeAt_21 rfl rfl rfl ?_
        refine z_aload_n (pc' := 23) dX4_nodeAt_22 rfl rfl rfl ?_
        refine gf_X4_9 (pc' := 26) rfl ht dX4_nodeAt_23 rfl ?_
        refine z_icmp_lt (tgt := 31) (pc' := 29) dX4_nodeAt_26 (by decide) rfl (fun c6 => ?_) (fun c6 => ?_)
        · rw [if_pos c6] at hF
          refine z_aload_n (pc' := 32) dX4_nodeAt_31 rfl rfl rfl ?_
          refine z_iload_n (pc' := 33) dX4_nodeAt_32 rfl rfl rfl ?_
          obtain ⟨r3, S4, hc5, hF⟩ := z_bne hF
          refine k_X4_leftmost (F := 1) (L := 23) (pc' := 36) ht hc5 hst zw_22 rfl rfl (by decide) (by decide) (by decide) dX4_nodeAt_33 rfl ?_
          refine z_istore_n (pc' := 37) dX4_nodeAt_36 rfl (by decide) rfl rfl ?_
          refine z_iconst (v := 0) (pc' := 38) dX4_nodeAt_37 (by decide) rfl ?_
          refine z_istore (pc' := 40) dX4_nodeAt_38 (by decide) rfl rfl ?_
          refine z_wk (ls' := [some (.ref t), none, some (.int p2), some (.int r3), some (.int 0)]) (z_lec rfl (z_len1 (z_lec rfl (z_lec rfl (z_lec rfl z_le0))))) ?_
          exact (ok_X4_nodeAt_40 hst ht z_n) _ _ _ _ hF
        · rw [if_neg c6] at hF
          refine z_wk (ls' := [none, none, none, none, none]) (z_len1 (z_len1 (z_len1 (z_len1 (z_len1 z_le0))))) ?_
          exact (ok_X4_nodeAt_29 hst ht) _ hF
theorem ok_X4_nodeAt : z_okV I_X4_nodeAt 2 := ⟨⟨z_Gin (List.mem_of_getElem? (i := 752) (by decide +kernel)) rfl, z_Gin (List.mem_of_getElem? (i := 753) (by decide +kernel)) rfl, z_Gin (List.mem_of_getElem? (i := 92) (by decide +kernel)) rfl, z_Gin (List.mem_of_getElem? (i := 754) (by decide +kernel)) rfl⟩, by decide, by decide, by decide +kernel⟩
theorem k_X4_nodeAt {l : Launch} {I : z_I} {R : Room} {B : Nat} {t : Nat} {p1 : Int32} {p2 : Int32} {q : z_O × z_S} {pc pc' : Nat} {ls : List (Option Value)} {st : List Value} {S S1 : z_S} {idx F L : Nat} {r : Int32} (ht : z_is 4 t) (hF : F_X4_nodeAt B t p1 p2 S = some (.inl (some r), S1)) (hst : l.stackTraces = false) (w : Cond.methodLink I.1.cls idx yX4_nodeAt ∈ z_G) (hRF : R.frames = F) (hRL : R.locals = L) (h1 : 2 ≤ F) (h2 : 47 ≤ L) (hs : (st.map fun v => v.category).sum ≤ 8) (d : decode I.2.1 pc = .ok (.invokevirtual idx, 3)) (hp : pc + 3 = pc') (k : z_W l I R B q pc' ls (.int r :: st) S1) : z_W l I R B q pc ls (.int p2 :: .int p1 :: .ref t :: st) S := z_callV (Y := I_X4_nodeAt) (As := [.int p1, .int p2]) (st := st) (r := (some r)) (S1 := S1) (c_X4_nodeAt (q := (.inl (some r), S1)) hst ht hF) ok_X4_nodeAt w (ci := 4) rfl ht.1 ht.2 rfl ⟨by rw [hRF]; exact h1, by rw [hRL]; exact h2⟩ hs d hp rfl k

abbrev I_X4_slotFrom : z_I := (yX4_slotFrom, cX4_slotFrom, 6, some .int)
abbrev R_X4_slotFrom (q : z_O × z_S) : Room := { frames := 0, locals := 0, cells := z_mc q.1, slots := 6 * z_mc q.1 }
def F_X4_slotFrom_73 (B : Nat) (t : Nat)   (S : z_S) : Option (z_O × z_S) :=
  some (.inl (some (-1)), S)
set_option maxRecDepth 20000 in
set_option maxHeartbeats 16000000 in
theorem ok_X4_slotFrom_73 {l : Launch} {B : Nat} {t : Nat} {q : z_O × z_S} (hst : l.stackTraces = false) (ht : z_is 4 t) : ∀ (S : z_S), F_X4_slotFrom_73 B t S = some q → z_W l I_X4_slotFrom (R_X4_slotFrom q) B q 73 [none, none, none, none, none, none] [] S := by
  intro S hF
  unfold F_X4_slotFrom_73 at hF
  refine z_iconst (v := (-1)) (pc' := 74) dX4_slotFrom_73 (by decide) rfl ?_
  exact z_ireturn rfl dX4_slotFrom_74 (Option.some.inj hF).symm
def F_X4_slotFrom_14 (B : Nat) (t : Nat)  : Nat → Int32 → Int32 → Int32 → z_S → Option (z_O × z_S)
  | 0, _, _, _, _ => none
  | n + 1, v3, v4, v5, S => if (S.2.1 t 0) ≤ v5 then
    F_X4_slotFrom_73 B t S
  else
    if v4 = (-1) then
      F_X4_slotFrom_73 B t S
    else
      z_gd (z_inb v4 B) (
      z_lt (S.1 (t + 3) (z_ix (v4))) fun x2 =>
      (if x2 ≤ v3 then
        z_gd (z_inb v4 B) (
        z_lt (S.1 (t + 3) (z_ix (v4))) fun x4 =>
        (z_gd (z_inb v4 B) (
        z_lt (S.1 (t + 7) (z_ix (v4))) fun x6 =>
        (F_X4_slotFrom_14 B t n (v3 - x4) x6 (v5 + 1) S))))
      else
        some (.inl (some ((v4 * 14) + v3)), S)))
set_option maxRecDepth 20000 in
set_option maxHeartbeats 16000000 in
theorem ok_X4_slotFrom_14 {l : Launch} {B : Nat} {t : Nat} {q : z_O × z_S} (hst : l.stackTraces = false) (ht : z_is 4 t) : ∀ (n : Nat) (v3 : Int32) (v4 : Int32) (v5 : Int32) (S : z_S), F_X4_slotFrom_14 B t n v3 v4 v5 S = some q → z_W l I_X4_slotFrom (R_X4_slotFrom q) B q 14 [some (.ref t), none, none, some (.int v3), some (.int v4), some (.int v5)] [] S := by
  intro n
  induction n with
  | zero => intro v3 v4 v5 S hF; cases hF
  | succ n ih =>
    intro v3 v4 v5 S hF
    rw [F_X4_slotFrom_14] at hF
    refine z_iload (pc' := 16) dX4_slotFrom_14 rfl rfl ?_
    refine z_aload_n (pc' := 17) dX4_slotFrom_16 rfl rfl rfl ?_
    refine gf_X4_9 (pc' := 20) rfl ht dX4_slotFrom_17 rfl ?_
    refine z_icmp_ge (tgt := 73) (pc' := 23) dX4_slotFrom_20 (by decide) rfl (fun c9 => ?_) (fun c9 => ?_)
    · rw [if_pos c9] at hF
      refine z_wk (ls' := [none, none, none, none, none, none]) (z_len1 (z_len1 (z_len1 (z_len1 (z_len1 (z_len1 z_le0)))))) ?_
      exact (ok_X4_slotFrom_73 hst ht) _ hF
    · rw [if_neg c9] at hF
      refine z_iload (pc' := 25) dX4_slotFrom_23 rfl rfl ?_
      refine z_iconst (v := (-1)) (pc' := 26) dX4_slotFrom_25 (by decide) rfl ?_
      refine z_icmp_eq (tgt := 73) (pc' := 29) dX4_slotFrom_26 (by decide) rfl (fun c8 => ?_) (fun c8 => ?_)
      · rw [if_pos c8] at hF
        refine z_wk (ls' := [none, none, none, none, none, none]) (z_len1 (z_len1 (z_len1 (z_len1 (z_len1 (z_len1 z_le0)))))) ?_
        exact (ok_X4_slotFrom_73 hst ht) _ hF
      · rw [if_neg c8] at hF
        refine z_iload_n (pc' := 30) dX4_slotFrom_29 rfl rfl rfl ?_
        refine z_aload_n (pc' := 31) dX4_slotFrom_30 rfl rfl rfl ?_
        refine gf_X4_22 (b := t + 3) (pc' := 34) rfl ht rfl dX4_slotFrom_31 rfl ?_
        refine z_iload (pc' := 36) dX4_slotFrom_34 rfl rfl ?_
        obtain ⟨g1, hF⟩ := z_gde hF
        refine z_iaload (pc' := 37) (ar_4_f3 ht) (z_inbe g1) dX4_slotFrom_36 rfl ?_
        refine z_topi (fun x2 ex2 => ?_)
        replace hF := z_lte hF x2 ex2
        refine z_icmp_ge (tgt := 48) (pc' := 40) dX4_slotFrom_37 (by decide) rfl (fun c7 => ?_) (fun c7 => ?_)
        · rw [if_pos c7] at hF
          refine z_iload_n (pc' := 49) dX4_slotFrom_48 rfl rfl rfl ?_
          refine z_aload_n (pc' := 50) dX4_slotFrom_49 rfl rfl rfl ?_
          refine gf_X4_22 (b := t + 3) (pc' := 53) rfl ht rfl dX4_slotFrom_50 rfl ?_
          refine z_iload (pc' := 55) dX4_slotFrom_53 rfl rfl ?_
          obtain ⟨g3, hF⟩ := z_gde hF
          refine z_iaload (pc' := 56) (ar_4_f3 ht) (z_inbe g3) dX4_slotFrom_55 rfl ?_
          refine z_topi (fun x4 ex4 => ?_)
          replace hF := z_lte hF x4 ex4
          refine z_isub (pc' := 57) dX4_slotFrom_56 rfl ?_
          refine z_istore_n (pc' := 58) dX4_slotFrom_57 rfl (by decide) rfl rfl ?_
          refine z_aload_n (pc' := 59) dX4_slotFrom_58 rfl rfl rfl ?_
          refine gf_X4_34 (b := t + 7) (pc' := 62) rfl ht rfl dX4_slotFrom_59 rfl ?_
          refine z_iload (pc' := 64) dX4_slotFrom_62 rfl rfl ?_
          obtain ⟨g5, hF⟩ := z_gde hF
          refine z_iaload (pc' := 65) (ar_4_f7 ht) (z_inbe g5) dX4_slotFrom_64 rfl ?_
          refine z_topi (fun x6 ex6 => ?_)
          replace hF := z_lte hF x6 ex6
          refine z_istore (pc' := 67) dX4_slotFrom_65 (by decide) rfl rfl ?_
          refine z_iinc (v := v5 + 1) (pc' := 70) dX4_slotFrom_67 rfl rfl (by decide) rfl rfl ?_
          refine z_goto (pc' := 14) dX4_slotFrom_70 (by decide) ?_
          refine z_wk (ls' := [some (.ref t), none, none, some (.int (v3 - x4)), some (.int x6), some (.int (v5 + 1))]) (z_lec rfl (z_len1 (z_len1 (z_lec rfl (z_lec rfl (z_lec rfl z_le0)))))) ?_
          exact ih _ _ _ _ hF
        · rw [if_neg c7] at hF
          refine z_iload (pc' := 42) dX4_slotFrom_40 rfl rfl ?_
          refine z_bipush (v := 14) (pc' := 44) dX4_slotFrom_42 (by decide) rfl ?_
          refine z_imul (pc' := 45) dX4_slotFrom_44 rfl ?_
          refine z_iload_n (pc' := 46) dX4_slotFrom_45 rfl rfl rfl ?_
          refine z_iadd (pc' := 47) dX4_slotFrom_46 rfl ?_
          exact z_ireturn rfl dX4_slotFrom_47 (Option.some.inj hF).symm
def F_X4_slotFrom (B : Nat) (t : Nat) (p1 : Int32) (p2 : Int32) (S : z_S) : Option (z_O × z_S) :=
  if 0 ≤ p2 then
    F_X4_slotFrom_14 B t z_n p2 p1 0 S
  else
    some (.inl (some (-1)), S)
set_option maxRecDepth 20000 in
set_option maxHeartbeats 16000000 in
theorem c_X4_slotFrom {l : Launch} {B : Nat} {t : Nat} {p1 : Int32} {p2 : Int32} {S : z_S} {q : z_O × z_S} (hst : l.stackTraces = false) (ht : z_is 4 t) (hF : F_X4_slotFrom B t p1 p2 S = some q) : z_Met l I_X4_slotFrom 0 0 B [.ref t, .int p1, .int p2] S q.1 q.2 := by
  refine z_enter (ls := [some (.ref t), some (.int p1), some (.int p2), none, none, none]) (n := 3) (by decide) rfl (Nat.le_of_ble_eq_true rfl) hst ?_
  unfold F_X4_slotFrom at hF
  refine z_iload_n (pc' := 1) dX4_slotFrom_0 rfl rfl rfl ?_
  refine z_if_ge (tgt := 6) (pc' := 4) dX4_slotFrom_1 (by decide) rfl (fun c1 => ?_) (fun c1 => ?_)
  · rw [if_pos c1] at hF
    refine z_iload_n (pc' := 7) dX4_slotFrom_6 rfl rfl rfl ?_
    refine z_istore_n (pc' := 8) dX4_slotFrom_7 rfl (by decide) rfl rfl ?_
    refine z_iload_n (pc' := 9) dX4_slotFrom_8 rfl rfl rfl ?_
    refine z_istore (pc' := 11) dX4_slotFrom_9 (by decide) rfl rfl ?_
    refine z_iconst (v := 0) (pc' := 12) dX4_slotFrom_11 (by decide) rfl ?_
    refine z_istore (pc' := 14) dX4_slotFrom_12 (by decide) rfl rfl ?_
    refine z_wk (ls' := [some (.ref t), none, none, some (.int p2), some (.int p1), some (.int 0)]) (z_lec rfl (z_len1 (z_len1 (z_lec rfl (z_lec rfl (z_lec rfl z_le0)))))) ?_
    exact (ok_X4_slotFrom_14 hst ht z_n) _ _ _ _ hF
  · rw [if_neg c1] at hF
    refine z_iconst (v := (-1)) (pc' := 5) dX4_slotFrom_4 (by decide) rfl ?_
    exact z_ireturn rfl dX4_slotFrom_5 (Option.some.inj hF).symm
theorem ok_X4_slotFrom : z_okV I_X4_slotFrom 2 := ⟨⟨z_Gin (List.mem_of_getElem? (i := 727) (by decide +kernel)) rfl, z_Gin (List.mem_of_getElem? (i := 728) (by decide +kernel)) rfl, z_Gin (List.mem_of_getElem? (i := 92) (by decide +kernel)) rfl, z_Gin (List.mem_of_getElem? (i := 729) (by decide +kernel)) rfl⟩, by decide, by decide, by decide +kernel⟩
theorem k_X4_slotFrom {l : Launch} {I : z_I} {R : Room} {B : Nat} {t : Nat} {p1 : Int32} {p2 : Int32} {q : z_O × z_S} {pc pc' : Nat} {ls : List (Option Value)} {st : List Value} {S S1 : z_S} {idx F L : Nat} {r : Int32} (ht : z_is 4 t) (hF : F_X4_slotFrom B t p1 p2 S = some (.inl (some r), S1)) (hst : l.stackTraces = false) (w : Cond.methodLink I.1.cls idx yX4_slotFrom ∈ z_G) (hRF : R.frames = F) (hRL : R.locals = L) (h1 : 1 ≤ F) (h2 : 25 ≤ L) (hs : (st.map fun v => v.category).sum ≤ 8) (d : decode I.2.1 pc = .ok (.invokevirtual idx, 3)) (hp : pc + 3 = pc') (k : z_W l I R B q pc' ls (.int r :: st) S1) : z_W l I R B q pc ls (.int p2 :: .int p1 :: .ref t :: st) S := z_callV (Y := I_X4_slotFrom) (As := [.int p1, .int p2]) (st := st) (r := (some r)) (S1 := S1) (c_X4_slotFrom (q := (.inl (some r), S1)) hst ht hF) ok_X4_slotFrom w (ci := 4) rfl ht.1 ht.2 rfl ⟨by rw [hRF]; exact h1, by rw [hRL]; exact h2⟩ hs d hp rfl k

abbrev I_X4_leafOf : z_I := (yX4_leafOf, cX4_leafOf, 5, some .int)
abbrev R_X4_leafOf (q : z_O × z_S) : Room := { frames := 1, locals := 23, cells := z_mc q.1, slots := 6 * z_mc q.1 }
def F_X4_leafOf_44 (B : Nat) (t : Nat)  (v2 : Int32) (S : z_S) : Option (z_O × z_S) :=
  some (.inl (some v2), S)
set_option maxRecDepth 20000 in
set_option maxHeartbeats 16000000 in
theorem ok_X4_leafOf_44 {l : Launch} {B : Nat} {t : Nat} {q : z_O × z_S} (hst : l.stackTraces = false) (ht : z_is 4 t) : ∀ (v2 : Int32) (S : z_S), F_X4_leafOf_44 B t v2 S = some q → z_W l I_X4_leafOf (R_X4_leafOf q) B q 44 [none, none, some (.int v2), none, none] [] S := by
  intro v2 S hF
  unfold F_X4_leafOf_44 at hF
  refine z_iload_n (pc' := 45) dX4_leafOf_44 rfl rfl rfl ?_
  exact z_ireturn rfl dX4_leafOf_45 (Option.some.inj hF).symm
def F_X4_leafOf_8 (B : Nat) (t : Nat)  : Nat → Int32 → Int32 → Int32 → z_S → Option (z_O × z_S)
  | 0, _, _, _, _ => none
  | n + 1, v1, v2, v3, S => if (S.2.1 t 0) ≤ v3 then
    some (.inl (some v2), S)
  else
    z_gd (z_inb v2 B) (
    z_lt (S.1 (t + 7) (z_ix (v2))) fun x2 =>
    (if x2 = (-1) then
      F_X4_leafOf_44 B t v2 S
    else
      z_gd (z_inb (x2 * 14) (14 * B)) (
      z_lt (S.1 (t + 9) (z_ix (x2 * 14))) fun x4 =>
      (if x4 ≤ v1 then
        F_X4_leafOf_8 B t n v1 x2 (v3 + 1) S
      else
        F_X4_leafOf_44 B t v2 S))))
set_option maxRecDepth 20000 in
set_option maxHeartbeats 16000000 in
theorem ok_X4_leafOf_8 {l : Launch} {B : Nat} {t : Nat} {q : z_O × z_S} (hst : l.stackTraces = false) (ht : z_is 4 t) : ∀ (n : Nat) (v1 : Int32) (v2 : Int32) (v3 : Int32) (S : z_S), F_X4_leafOf_8 B t n v1 v2 v3 S = some q → z_W l I_X4_leafOf (R_X4_leafOf q) B q 8 [some (.ref t), some (.int v1), some (.int v2), some (.int v3), none] [] S := by
  intro n
  induction n with
  | zero => intro v1 v2 v3 S hF; cases hF
  | succ n ih =>
    intro v1 v2 v3 S hF
    rw [F_X4_leafOf_8] at hF
    refine z_iload_n (pc' := 9) dX4_leafOf_8 rfl rfl rfl ?_
    refine z_aload_n (pc' := 10) dX4_leafOf_9 rfl rfl rfl ?_
    refine gf_X4_9 (pc' := 13) rfl ht dX4_leafOf_10 rfl ?_
    refine z_icmp_ge (tgt := 55) (pc' := 16) dX4_leafOf_13 (by decide) rfl (fun c7 => ?_) (fun c7 => ?_)
    · rw [if_pos c7] at hF
      refine z_iload_n (pc' := 56) dX4_leafOf_55 rfl rfl rfl ?_
      exact z_ireturn rfl dX4_leafOf_56 (Option.some.inj hF).symm
    · rw [if_neg c7] at hF
      refine z_aload_n (pc' := 17) dX4_leafOf_16 rfl rfl rfl ?_
      refine gf_X4_34 (b := t + 7) (pc' := 20) rfl ht rfl dX4_leafOf_17 rfl ?_
      refine z_iload_n (pc' := 21) dX4_leafOf_20 rfl rfl rfl ?_
      obtain ⟨g1, hF⟩ := z_gde hF
      refine z_iaload (pc' := 22) (ar_4_f7 ht) (z_inbe g1) dX4_leafOf_21 rfl ?_
      refine z_topi (fun x2 ex2 => ?_)
      replace hF := z_lte hF x2 ex2
      refine z_istore (pc' := 24) dX4_leafOf_22 (by decide) rfl rfl ?_
      refine z_iload (pc' := 26) dX4_leafOf_24 rfl rfl ?_
      refine z_iconst (v := (-1)) (pc' := 27) dX4_leafOf_26 (by decide) rfl ?_
      refine z_icmp_eq (tgt := 44) (pc' := 30) dX4_leafOf_27 (by decide) rfl (fun c6 => ?_) (fun c6 => ?_)
      · rw [if_pos c6] at hF
        refine z_wk (ls' := [none, none, some (.int v2), none, none]) (z_len1 (z_len1 (z_lec rfl (z_len1 (z_len1 z_le0))))) ?_
        exact (ok_X4_leafOf_44 hst ht) _ _ hF
      · rw [if_neg c6] at hF
        refine z_aload_n (pc' := 31) dX4_leafOf_30 rfl rfl rfl ?_
        refine gf_X4_40 (b := t + 9) (pc' := 34) rfl ht rfl dX4_leafOf_31 rfl ?_
        refine z_iload (pc' := 36) dX4_leafOf_34 rfl rfl ?_
        refine z_bipush (v := 14) (pc' := 38) dX4_leafOf_36 (by decide) rfl ?_
        refine z_imul (pc' := 39) dX4_leafOf_38 rfl ?_
        obtain ⟨g3, hF⟩ := z_gde hF
        refine z_iaload (pc' := 40) (ar_4_f9 ht) (z_inbe g3) dX4_leafOf_39 rfl ?_
        refine z_topi (fun x4 ex4 => ?_)
        replace hF := z_lte hF x4 ex4
        refine z_iload_n (pc' := 41) dX4_leafOf_40 rfl rfl rfl ?_
        refine z_icmp_le (tgt := 46) (pc' := 44) dX4_leafOf_41 (by decide) rfl (fun c5 => ?_) (fun c5 => ?_)
        · rw [if_pos c5] at hF
          refine z_iload (pc' := 48) dX4_leafOf_46 rfl rfl ?_
          refine z_istore_n (pc' := 49) dX4_leafOf_48 rfl (by decide) rfl rfl ?_
          refine z_iinc (v := v3 + 1) (pc' := 52) dX4_leafOf_49 rfl rfl (by decide) rfl rfl ?_
          refine z_goto (pc' := 8) dX4_leafOf_52 (by decide) ?_
          refine z_wk (ls' := [some (.ref t), some (.int v1), some (.int x2), some (.int (v3 + 1)), none]) (z_lec rfl (z_lec rfl (z_lec rfl (z_lec rfl (z_len1 z_le0))))) ?_
          exact ih _ _ _ _ hF
        · rw [if_neg c5] at hF
          refine z_wk (ls' := [none, none, some (.int v2), none, none]) (z_len1 (z_len1 (z_lec rfl (z_len1 (z_len1 z_le0))))) ?_
          exact (ok_X4_leafOf_44 hst ht) _ _ hF
def F_X4_leafOf (B : Nat) (t : Nat) (p1 : Int32) (S : z_S) : Option (z_O × z_S) :=
  z_bn (F_X4_leftmost B t 0 S) fun r1 S2 =>
  (F_X4_leafOf_8 B t z_n p1 r1 0 S2)
set_option maxRecDepth 20000 in
set_option maxHeartbeats 16000000 in
theorem c_X4_leafOf {l : Launch} {B : Nat} {t : Nat} {p1 : Int32} {S : z_S} {q : z_O × z_S} (hst : l.stackTraces = false) (ht : z_is 4 t) (hF : F_X4_leafOf B t p1 S = some q) : z_Met l I_X4_leafOf 1 23 B [.ref t, .int p1] S q.1 q.2 := by
  refine z_enter (ls := [some (.ref t), some (.int p1), none, none, none]) (n := 3) (by decide) rfl (Nat.le_of_ble_eq_true rfl) hst ?_
  unfold F_X4_leafOf at hF
  refine z_aload_n (pc' := 1) dX4_leafOf_0 rfl rfl rfl ?_
  refine z_iconst (v := 0) (pc' := 2) dX4_leafOf_1 (by decide) rfl ?_
  obtain ⟨r1, S2, hc3, hF⟩ := z_bne hF
  refine k_X4_leftmost (F := 1) (L := 23) (pc' := 5) ht hc3 hst zw_22 rfl rfl (by decide) (by decide) (by decide) dX4_leafOf_2 rfl ?_
  refine z_istore_n (pc' := 6) dX4_leafOf_5 rfl (by decide) rfl rfl ?_
  refine z_iconst (v := 0) (pc' := 7) dX4_leafOf_6 (by decide) rfl ?_
  refine z_istore_n (pc' := 8) dX4_leafOf_7 rfl (by decide) rfl rfl ?_
  refine z_wk (ls' := [some (.ref t), some (.int p1), some (.int r1), some (.int 0), none]) (z_lec rfl (z_lec rfl (z_lec rfl (z_lec rfl (z_len1 z_le0))))) ?_
  exact (ok_X4_leafOf_8 hst ht z_n) _ _ _ _ hF
theorem ok_X4_leafOf : z_okV I_X4_leafOf 1 := ⟨⟨z_Gin (List.mem_of_getElem? (i := 468) (by decide +kernel)) rfl, z_Gin (List.mem_of_getElem? (i := 7) (by decide +kernel)) rfl, z_Gin (List.mem_of_getElem? (i := 92) (by decide +kernel)) rfl, z_Gin (List.mem_of_getElem? (i := 469) (by decide +kernel)) rfl⟩, by decide, by decide, by decide +kernel⟩
theorem k_X4_leafOf {l : Launch} {I : z_I} {R : Room} {B : Nat} {t : Nat} {p1 : Int32} {q : z_O × z_S} {pc pc' : Nat} {ls : List (Option Value)} {st : List Value} {S S1 : z_S} {idx F L : Nat} {r : Int32} (ht : z_is 4 t) (hF : F_X4_leafOf B t p1 S = some (.inl (some r), S1)) (hst : l.stackTraces = false) (w : Cond.methodLink I.1.cls idx yX4_leafOf ∈ z_G) (hRF : R.frames = F) (hRL : R.locals = L) (h1 : 2 ≤ F) (h2 : 47 ≤ L) (hs : (st.map fun v => v.category).sum ≤ 8) (d : decode I.2.1 pc = .ok (.invokevirtual idx, 3)) (hp : pc + 3 = pc') (k : z_W l I R B q pc' ls (.int r :: st) S1) : z_W l I R B q pc ls (.int p1 :: .ref t :: st) S := z_callV (Y := I_X4_leafOf) (As := [.int p1]) (st := st) (r := (some r)) (S1 := S1) (c_X4_leafOf (q := (.inl (some r), S1)) hst ht hF) ok_X4_leafOf w (ci := 4) rfl ht.1 ht.2 rfl ⟨by rw [hRF]; exact h1, by rw [hRL]; exact h2⟩ hs d hp rfl k

abbrev I_X4_placeIn : z_I := (yX4_placeIn, cX4_placeIn, 4, some .int)
abbrev R_X4_placeIn (q : z_O × z_S) : Room := { frames := 0, locals := 0, cells := z_mc q.1, slots := 6 * z_mc q.1 }
def F_X4_placeIn_33 (B : Nat) (t : Nat)  (v3 : Int32) (S : z_S) : Option (z_O × z_S) :=
  some (.inl (some v3), S)
set_option maxRecDepth 20000 in
set_option maxHeartbeats 16000000 in
theorem ok_X4_placeIn_33 {l : Launch} {B : Nat} {t : Nat} {q : z_O × z_S} (hst : l.stackTraces = false) (ht : z_is 4 t) : ∀ (v3 : Int32) (S : z_S), F_X4_placeIn_33 B t v3 S = some q → z_W l I_X4_placeIn (R_X4_placeIn q) B q 33 [none, none, none, some (.int v3)] [] S := by
  intro v3 S hF
  unfold F_X4_placeIn_33 at hF
  refine z_iload_n (pc' := 34) dX4_placeIn_33 rfl rfl rfl ?_
  exact z_ireturn rfl dX4_placeIn_34 (Option.some.inj hF).symm
def F_X4_placeIn_2 (B : Nat) (t : Nat)  : Nat → Int32 → Int32 → Int32 → z_S → Option (z_O × z_S)
  | 0, _, _, _, _ => none
  | n + 1, v1, v2, v3, S => z_gd (z_inb v1 B) (
  z_lt (S.1 (t + 3) (z_ix (v1))) fun x2 =>
  (if x2 ≤ v3 then
    F_X4_placeIn_33 B t v3 S
  else
    z_gd (z_inb ((v1 * 14) + v3) (14 * B)) (
    z_lt (S.1 (t + 9) (z_ix ((v1 * 14) + v3))) fun x4 =>
    (if v2 ≤ x4 then
      F_X4_placeIn_33 B t v3 S
    else
      F_X4_placeIn_2 B t n v1 v2 (v3 + 1) S))))
set_option maxRecDepth 20000 in
set_option maxHeartbeats 16000000 in
theorem ok_X4_placeIn_2 {l : Launch} {B : Nat} {t : Nat} {q : z_O × z_S} (hst : l.stackTraces = false) (ht : z_is 4 t) : ∀ (n : Nat) (v1 : Int32) (v2 : Int32) (v3 : Int32) (S : z_S), F_X4_placeIn_2 B t n v1 v2 v3 S = some q → z_W l I_X4_placeIn (R_X4_placeIn q) B q 2 [some (.ref t), some (.int v1), some (.int v2), some (.int v3)] [] S := by
  intro n
  induction n with
  | zero => intro v1 v2 v3 S hF; cases hF
  | succ n ih =>
    intro v1 v2 v3 S hF
    rw [F_X4_placeIn_2] at hF
    refine z_iload_n (pc' := 3) dX4_placeIn_2 rfl rfl rfl ?_
    refine z_aload_n (pc' := 4) dX4_placeIn_3 rfl rfl rfl ?_
    refine gf_X4_22 (b := t + 3) (pc' := 7) rfl ht rfl dX4_placeIn_4 rfl ?_
    refine z_iload_n (pc' := 8) dX4_placeIn_7 rfl rfl rfl ?_
    obtain ⟨g1, hF⟩ := z_gde hF
    refine z_iaload (pc' := 9) (ar_4_f3 ht) (z_inbe g1) dX4_placeIn_8 rfl ?_
    refine z_topi (fun x2 ex2 => ?_)
    replace hF := z_lte hF x2 ex2
    refine z_icmp_ge (tgt := 33) (pc' := 12) dX4_placeIn_9 (by decide) rfl (fun c6 => ?_) (fun c6 => ?_)
    · rw [if_pos c6] at hF
      refine z_wk (ls' := [none, none, none, some (.int v3)]) (z_len1 (z_len1 (z_len1 (z_lec rfl z_le0)))) ?_
      exact (ok_X4_placeIn_33 hst ht) _ _ hF
    · rw [if_neg c6] at hF
      refine z_aload_n (pc' := 13) dX4_placeIn_12 rfl rfl rfl ?_
      refine gf_X4_40 (b := t + 9) (pc' := 16) rfl ht rfl dX4_placeIn_13 rfl ?_
      refine z_iload_n (pc' := 17) dX4_placeIn_16 rfl rfl rfl ?_
      refine z_bipush (v := 14) (pc' := 19) dX4_placeIn_17 (by decide) rfl ?_
      refine z_imul (pc' := 20) dX4_placeIn_19 rfl ?_
      refine z_iload_n (pc' := 21) dX4_placeIn_20 rfl rfl rfl ?_
      refine z_iadd (pc' := 22) dX4_placeIn_21 rfl ?_
      obtain ⟨g3, hF⟩ := z_gde hF
      refine z_iaload (pc' := 23) (ar_4_f9 ht) (z_inbe g3) dX4_placeIn_22 rfl ?_
      refine z_topi (fun x4 ex4 => ?_)
      replace hF := z_lte hF x4 ex4
      refine z_iload_n (pc' := 24) dX4_placeIn_23 rfl rfl rfl ?_
      refine z_icmp_ge (tgt := 33) (pc' := 27) dX4_placeIn_24 (by decide) rfl (fun c5 => ?_) (fun c5 => ?_)
      · rw [if_pos c5] at hF
        refine z_wk (ls' := [none, none, none, some (.int v3)]) (z_len1 (z_len1 (z_len1 (z_lec rfl z_le0)))) ?_
        exact (ok_X4_placeIn_33 hst ht) _ _ hF
      · rw [if_neg c5] at hF
        refine z_iinc (v := v3 + 1) (pc' := 30) dX4_placeIn_27 rfl rfl (by decide) rfl rfl ?_
        refine z_goto (pc' := 2) dX4_placeIn_30 (by decide) ?_
        refine z_wk (ls' := [some (.ref t), some (.int v1), some (.int v2), some (.int (v3 + 1))]) (z_lec rfl (z_lec rfl (z_lec rfl (z_lec rfl z_le0)))) ?_
        exact ih _ _ _ _ hF
def F_X4_placeIn (B : Nat) (t : Nat) (p1 : Int32) (p2 : Int32) (S : z_S) : Option (z_O × z_S) :=
  F_X4_placeIn_2 B t z_n p1 p2 0 S
set_option maxRecDepth 20000 in
set_option maxHeartbeats 16000000 in
theorem c_X4_placeIn {l : Launch} {B : Nat} {t : Nat} {p1 : Int32} {p2 : Int32} {S : z_S} {q : z_O × z_S} (hst : l.stackTraces = false) (ht : z_is 4 t) (hF : F_X4_placeIn B t p1 p2 S = some q) : z_Met l I_X4_placeIn 0 0 B [.ref t, .int p1, .int p2] S q.1 q.2 := by
  refine z_enter (ls := [some (.ref t), some (.int p1), some (.int p2), none]) (n := 1) (by decide) rfl (Nat.le_of_ble_eq_true rfl) hst ?_
  unfold F_X4_placeIn at hF
  refine z_iconst (v := 0) (pc' := 1) dX4_placeIn_0 (by decide) rfl ?_
  refine z_istore_n (pc' := 2) dX4_placeIn_1 rfl (by decide) rfl rfl ?_
  refine z_wk (ls' := [some (.ref t), some (.int p1), some (.int p2), some (.int 0)]) (z_lec rfl (z_lec rfl (z_lec rfl (z_lec rfl z_le0)))) ?_
  exact (ok_X4_placeIn_2 hst ht z_n) _ _ _ _ hF
theorem ok_X4_placeIn : z_okV I_X4_placeIn 2 := ⟨⟨z_Gin (List.mem_of_getElem? (i := 476) (by decide +kernel)) rfl, z_Gin (List.mem_of_getElem? (i := 8) (by decide +kernel)) rfl, z_Gin (List.mem_of_getElem? (i := 92) (by decide +kernel)) rfl, z_Gin (List.mem_of_getElem? (i := 477) (by decide +kernel)) rfl⟩, by decide, by decide, by decide +kernel⟩
theorem k_X4_placeIn {l : Launch} {I : z_I} {R : Room} {B : Nat} {t : Nat} {p1 : Int32} {p2 : Int32} {q : z_O × z_S} {pc pc' : Nat} {ls : List (Option Value)} {st : List Value} {S S1 : z_S} {idx F L : Nat} {r : Int32} (ht : z_is 4 t) (hF : F_X4_placeIn B t p1 p2 S = some (.inl (some r), S1)) (hst : l.stackTraces = false) (w : Cond.methodLink I.1.cls idx yX4_placeIn ∈ z_G) (hRF : R.frames = F) (hRL : R.locals = L) (h1 : 1 ≤ F) (h2 : 23 ≤ L) (hs : (st.map fun v => v.category).sum ≤ 8) (d : decode I.2.1 pc = .ok (.invokevirtual idx, 3)) (hp : pc + 3 = pc') (k : z_W l I R B q pc' ls (.int r :: st) S1) : z_W l I R B q pc ls (.int p2 :: .int p1 :: .ref t :: st) S := z_callV (Y := I_X4_placeIn) (As := [.int p1, .int p2]) (st := st) (r := (some r)) (S1 := S1) (c_X4_placeIn (q := (.inl (some r), S1)) hst ht hF) ok_X4_placeIn w (ci := 4) rfl ht.1 ht.2 rfl ⟨by rw [hRF]; exact h1, by rw [hRL]; exact h2⟩ hs d hp rfl k

abbrev I_X4_slotOf : z_I := (yX4_slotOf, cX4_slotOf, 5, some .int)
abbrev R_X4_slotOf (q : z_O × z_S) : Room := { frames := 2, locals := 47, cells := z_mc q.1, slots := 6 * z_mc q.1 }
def F_X4_slotOf_60 (B : Nat) (t : Nat)  (s0 : Int32) (S : z_S) : Option (z_O × z_S) :=
  some (.inl (some s0), S)
set_option maxRecDepth 20000 in
set_option maxHeartbeats 16000000 in
theorem ok_X4_slotOf_60 {l : Launch} {B : Nat} {t : Nat} {q : z_O × z_S} (hst : l.stackTraces = false) (ht : z_is 4 t) : ∀ (s0 : Int32) (S : z_S), F_X4_slotOf_60 B t s0 S = some q → z_W l I_X4_slotOf (R_X4_slotOf q) B q 60 [none, none, none, none, none] [.int s0] S := by
  intro s0 S hF
  unfold F_X4_slotOf_60 at hF
  exact z_ireturn rfl dX4_slotOf_60 (Option.some.inj hF).symm
def F_X4_slotOf_43 (B : Nat) (t : Nat)  (v2 : Int32) (v3 : Int32) (s0 : Int32) (S : z_S) : Option (z_O × z_S) :=
  if s0 = 0 then
    F_X4_slotOf_60 B t (-1) S
  else
    F_X4_slotOf_60 B t ((v2 * 14) + v3) S
set_option maxRecDepth 20000 in
set_option maxHeartbeats 16000000 in
theorem ok_X4_slotOf_43 {l : Launch} {B : Nat} {t : Nat} {q : z_O × z_S} (hst : l.stackTraces = false) (ht : z_is 4 t) : ∀ (v2 : Int32) (v3 : Int32) (s0 : Int32) (S : z_S), F_X4_slotOf_43 B t v2 v3 s0 S = some q → z_W l I_X4_slotOf (R_X4_slotOf q) B q 43 [none, none, some (.int v2), some (.int v3), none] [.int s0] S := by
  intro v2 v3 s0 S hF
  unfold F_X4_slotOf_43 at hF
  refine z_istore (pc' := 45) dX4_slotOf_43 (by decide) rfl rfl ?_
  refine z_iload (pc' := 47) dX4_slotOf_45 rfl rfl ?_
  refine z_if_eq (tgt := 59) (pc' := 50) dX4_slotOf_47 (by decide) rfl (fun c1 => ?_) (fun c1 => ?_)
  · rw [if_pos c1] at hF
    refine z_iconst (v := (-1)) (pc' := 60) dX4_slotOf_59 (by decide) rfl ?_
    refine z_wk (ls' := [none, none, none, none, none]) (z_len1 (z_len1 (z_len1 (z_len1 (z_len1 z_le0))))) ?_
    exact (ok_X4_slotOf_60 hst ht) _ _ hF
  · rw [if_neg c1] at hF
    refine z_iload_n (pc' := 51) dX4_slotOf_50 rfl rfl rfl ?_
    refine z_bipush (v := 14) (pc' := 53) dX4_slotOf_51 (by decide) rfl ?_
    refine z_imul (pc' := 54) dX4_slotOf_53 rfl ?_
    refine z_iload_n (pc' := 55) dX4_slotOf_54 rfl rfl rfl ?_
    refine z_iadd (pc' := 56) dX4_slotOf_55 rfl ?_
    refine z_goto (pc' := 60) dX4_slotOf_56 (by decide) ?_
    refine z_wk (ls' := [none, none, none, none, none]) (z_len1 (z_len1 (z_len1 (z_len1 (z_len1 z_le0))))) ?_
    exact (ok_X4_slotOf_60 hst ht) _ _ hF
def F_X4_slotOf_42 (B : Nat) (t : Nat) (k43 : Int32 → Int32 → Int32 → z_S → Option (z_O × z_S)) (v2 : Int32) (v3 : Int32) (S : z_S) : Option (z_O × z_S) :=
  k43 v2 v3 0 S
set_option maxRecDepth 20000 in
set_option maxHeartbeats 16000000 in
theorem ok_X4_slotOf_42 {l : Launch} {B : Nat} {t : Nat} {q : z_O × z_S} (hst : l.stackTraces = false) (ht : z_is 4 t) {k43 : Int32 → Int32 → Int32 → z_S → Option (z_O × z_S)} (hk43 : ∀ (v2 : Int32) (v3 : Int32) (s0 : Int32) (S : z_S), k43 v2 v3 s0 S = some q → z_W l I_X4_slotOf (R_X4_slotOf q) B q 43 [none, none, some (.int v2), some (.int v3), none] [.int s0] S) : ∀ (v2 : Int32) (v3 : Int32) (S : z_S), F_X4_slotOf_42 B t k43 v2 v3 S = some q → z_W l I_X4_slotOf (R_X4_slotOf q) B q 42 [none, none, some (.int v2), some (.int v3), none] [] S := by
  intro v2 v3 S hF
  unfold F_X4_slotOf_42 at hF
  refine z_iconst (v := 0) (pc' := 43) dX4_slotOf_42 (by decide) rfl ?_
  refine z_wk (ls' := [none, none, some (.int v2), some (.int v3), none]) (z_len1 (z_len1 (z_lec rfl (z_lec rfl (z_len1 z_le0))))) ?_
  exact hk43 _ _ _ _ hF
def F_X4_slotOf (B : Nat) (t : Nat) (p1 : Int32) (S : z_S) : Option (z_O × z_S) :=
  z_bn (F_X4_leafOf B t p1 S) fun r1 S2 =>
  (z_bn (F_X4_placeIn B t r1 p1 S2) fun r4 S5 =>
  (z_gd (z_inb r1 B) (
  z_lt (S5.1 (t + 3) (z_ix (r1))) fun x8 =>
  (if x8 ≤ r4 then
    F_X4_slotOf_42 B t (F_X4_slotOf_43 B t ) r1 r4 S5
  else
    z_gd (z_inb ((r1 * 14) + r4) (14 * B)) (
    z_lt (S5.1 (t + 9) (z_ix ((r1 * 14) + r4))) fun x10 =>
    (if x10 = p1 then
      F_X4_slotOf_43 B t r1 r4 1 S5
    else
      F_X4_slotOf_42 B t (F_X4_slotOf_43 B t ) r1 r4 S5))))))
set_option maxRecDepth 20000 in
set_option maxHeartbeats 16000000 in
theorem c_X4_slotOf {l : Launch} {B : Nat} {t : Nat} {p1 : Int32} {S : z_S} {q : z_O × z_S} (hst : l.stackTraces = false) (ht : z_is 4 t) (hF : F_X4_slotOf B t p1 S = some q) : z_Met l I_X4_slotOf 2 47 B [.ref t, .int p1] S q.1 q.2 := by
  refine z_enter (ls := [some (.ref t), some (.int p1), none, none, none]) (n := 3) (by decide) rfl (Nat.le_of_ble_eq_true rfl) hst ?_
  unfold F_X4_slotOf at hF
  refine z_aload_n (pc' := 1) dX4_slotOf_0 rfl rfl rfl ?_
  refine z_iload_n (pc' := 2) dX4_slotOf_1 rfl rfl rfl ?_
  obtain ⟨r1, S2, hc3, hF⟩ := z_bne hF
  refine k_X4_leafOf (F := 2) (L := 47) (pc' := 5) ht hc3 hst zw_23 rfl rfl (by decide) (by decide) (by decide) dX4_slotOf_2 rfl ?_
  refine z_istore_n (pc' := 6) dX4_slotOf_5 rfl (by decide) rfl rfl ?_
  refine z_aload_n (pc' := 7) dX4_slotOf_6 rfl rfl rfl ?_
  refine z_iload_n (pc' := 8) dX4_slotOf_7 rfl rfl rfl ?_
  refine z_iload_n (pc' := 9) dX4_slotOf_8 rfl rfl rfl ?_
  obtain ⟨r4, S5, hc6, hF⟩ := z_bne hF
  refine k_X4_placeIn (F := 2) (L := 47) (pc' := 12) ht hc6 hst zw_24 rfl rfl (by decide) (by decide) (by decide) dX4_slotOf_9 rfl ?_
  refine z_istore_n (pc' := 13) dX4_slotOf_12 rfl (by decide) rfl rfl ?_
  refine z_iload_n (pc' := 14) dX4_slotOf_13 rfl rfl rfl ?_
  refine z_aload_n (pc' := 15) dX4_slotOf_14 rfl rfl rfl ?_
  refine gf_X4_22 (b := t + 3) (pc' := 18) rfl ht rfl dX4_slotOf_15 rfl ?_
  refine z_iload_n (pc' := 19) dX4_slotOf_18 rfl rfl rfl ?_
  obtain ⟨g7, hF⟩ := z_gde hF
  refine z_iaload (pc' := 20) (ar_4_f3 ht) (z_inbe g7) dX4_slotOf_19 rfl ?_
  refine z_topi (fun x8 ex8 => ?_)
  replace hF := z_lte hF x8 ex8
  refine z_icmp_ge (tgt := 42) (pc' := 23) dX4_slotOf_20 (by decide) rfl (fun c12 => ?_) (fun c12 => ?_)
  · rw [if_pos c12] at hF
    refine z_wk (ls' := [none, none, some (.int r1), some (.int r4), none]) (z_len1 (z_len1 (z_lec rfl (z_lec rfl (z_len1 z_le0))))) ?_
    exact (ok_X4_slotOf_42 hst ht (ok_X4_slotOf_43 hst ht)) _ _ _ hF
  · rw [if_neg c12] at hF
    refine z_aload_n (pc' := 24) dX4_slotOf_23 rfl rfl rfl ?_
    refine gf_X4_40 (b := t + 9) (pc' := 27) rfl ht rfl dX4_slotOf_24 rfl ?_
    refine z_iload_n (pc' := 28) dX4_slotOf_27 rfl rfl rfl ?_
    refine z_bipush (v := 14) (pc' := 30) dX4_slotOf_28 (by decide) rfl ?_
    refine z_imul (pc' := 31) dX4_slotOf_30 rfl ?_
    refine z_iload_n (pc' := 32) dX4_slotOf_31 rfl rfl rfl ?_
    refine z_iadd (pc' := 33) dX4_slotOf_32 rfl ?_
    obtain ⟨g9, hF⟩ := z_gde hF
    refine z_iaload (pc' := 34) (ar_4_f9 ht) (z_inbe g9) dX4_slotOf_33 rfl ?_
    refine z_topi (fun x10 ex10 => ?_)
    replace hF := z_lte hF x10 ex10
    refine z_iload_n (pc' := 35) dX4_slotOf_34 rfl rfl rfl ?_
    refine z_icmp_ne (tgt := 42) (pc' := 38) dX4_slotOf_35 (by decide) rfl (fun c11 => ?_) (fun c11 => ?_)
    · rw [if_neg c11] at hF
      refine z_wk (ls' := [none, none, some (.int r1), some (.int r4), none]) (z_len1 (z_len1 (z_lec rfl (z_lec rfl (z_len1 z_le0))))) ?_
      exact (ok_X4_slotOf_42 hst ht (ok_X4_slotOf_43 hst ht)) _ _ _ hF
    · rw [if_pos c11] at hF
      refine z_iconst (v := 1) (pc' := 39) dX4_slotOf_38 (by decide) rfl ?_
      refine z_goto (pc' := 43) dX4_slotOf_39 (by decide) ?_
      refine z_wk (ls' := [none, none, some (.int r1), some (.int r4), none]) (z_len1 (z_len1 (z_lec rfl (z_lec rfl (z_len1 z_le0))))) ?_
      exact (ok_X4_slotOf_43 hst ht) _ _ _ _ hF
theorem ok_X4_slotOf : z_okV I_X4_slotOf 1 := ⟨⟨z_Gin (List.mem_of_getElem? (i := 463) (by decide +kernel)) rfl, z_Gin (List.mem_of_getElem? (i := 464) (by decide +kernel)) rfl, z_Gin (List.mem_of_getElem? (i := 92) (by decide +kernel)) rfl, z_Gin (List.mem_of_getElem? (i := 465) (by decide +kernel)) rfl⟩, by decide, by decide, by decide +kernel⟩
theorem k_X4_slotOf {l : Launch} {I : z_I} {R : Room} {B : Nat} {t : Nat} {p1 : Int32} {q : z_O × z_S} {pc pc' : Nat} {ls : List (Option Value)} {st : List Value} {S S1 : z_S} {idx F L : Nat} {r : Int32} (ht : z_is 4 t) (hF : F_X4_slotOf B t p1 S = some (.inl (some r), S1)) (hst : l.stackTraces = false) (w : Cond.methodLink I.1.cls idx yX4_slotOf ∈ z_G) (hRF : R.frames = F) (hRL : R.locals = L) (h1 : 3 ≤ F) (h2 : 71 ≤ L) (hs : (st.map fun v => v.category).sum ≤ 8) (d : decode I.2.1 pc = .ok (.invokevirtual idx, 3)) (hp : pc + 3 = pc') (k : z_W l I R B q pc' ls (.int r :: st) S1) : z_W l I R B q pc ls (.int p1 :: .ref t :: st) S := z_callV (Y := I_X4_slotOf) (As := [.int p1]) (st := st) (r := (some r)) (S1 := S1) (c_X4_slotOf (q := (.inl (some r), S1)) hst ht hF) ok_X4_slotOf w (ci := 4) rfl ht.1 ht.2 rfl ⟨by rw [hRF]; exact h1, by rw [hRL]; exact h2⟩ hs d hp rfl k

abbrev I_X4_slotBehind : z_I := (yX4_slotBehind, cX4_slotBehind, 4, some .int)
abbrev R_X4_slotBehind (q : z_O × z_S) : Room := { frames := 3, locals := 71, cells := z_mc q.1, slots := 6 * z_mc q.1 }
def F_X4_slotBehind_29 (B : Nat) (t : Nat)  (s0 : Int32) (S : z_S) : Option (z_O × z_S) :=
  some (.inl (some s0), S)
set_option maxRecDepth 20000 in
set_option maxHeartbeats 16000000 in
theorem ok_X4_slotBehind_29 {l : Launch} {B : Nat} {t : Nat} {q : z_O × z_S} (hst : l.stackTraces = false) (ht : z_is 4 t) : ∀ (s0 : Int32) (S : z_S), F_X4_slotBehind_29 B t s0 S = some q → z_W l I_X4_slotBehind (R_X4_slotBehind q) B q 29 [none, none, none, none] [.int s0] S := by
  intro s0 S hF
  unfold F_X4_slotBehind_29 at hF
  exact z_ireturn rfl dX4_slotBehind_29 (Option.some.inj hF).symm
def F_X4_slotBehind (B : Nat) (t : Nat) (p1 : Int32) (p2 : Int32) (S : z_S) : Option (z_O × z_S) :=
  z_bn (F_X4_slotOf B t p1 S) fun r1 S2 =>
  (if r1 = (-1) then
    F_X4_slotBehind_29 B t (-1) S2
  else
    z_bn (F_X4_slotFrom B t (r1 / 14) ((r1 - r1 / 14 * 14) + p2) S2) fun r4 S5 =>
    (F_X4_slotBehind_29 B t r4 S5))
set_option maxRecDepth 20000 in
set_option maxHeartbeats 16000000 in
theorem c_X4_slotBehind {l : Launch} {B : Nat} {t : Nat} {p1 : Int32} {p2 : Int32} {S : z_S} {q : z_O × z_S} (hst : l.stackTraces = false) (ht : z_is 4 t) (hF : F_X4_slotBehind B t p1 p2 S = some q) : z_Met l I_X4_slotBehind 3 71 B [.ref t, .int p1, .int p2] S q.1 q.2 := by
  refine z_enter (ls := [some (.ref t), some (.int p1), some (.int p2), none]) (n := 1) (by decide) rfl (Nat.le_of_ble_eq_true rfl) hst ?_
  unfold F_X4_slotBehind at hF
  refine z_aload_n (pc' := 1) dX4_slotBehind_0 rfl rfl rfl ?_
  refine z_iload_n (pc' := 2) dX4_slotBehind_1 rfl rfl rfl ?_
  obtain ⟨r1, S2, hc3, hF⟩ := z_bne hF
  refine k_X4_slotOf (F := 3) (L := 71) (pc' := 5) ht hc3 hst zw_25 rfl rfl (by decide) (by decide) (by decide) dX4_slotBehind_2 rfl ?_
  refine z_istore_n (pc' := 6) dX4_slotBehind_5 rfl (by decide) rfl rfl ?_
  refine z_iload_n (pc' := 7) dX4_slotBehind_6 rfl rfl rfl ?_
  refine z_iconst (v := (-1)) (pc' := 8) dX4_slotBehind_7 (by decide) rfl ?_
  refine z_icmp_ne (tgt := 15) (pc' := 11) dX4_slotBehind_8 (by decide) rfl (fun c7 => ?_) (fun c7 => ?_)
  · rw [if_neg c7] at hF
    refine z_aload_n (pc' := 16) dX4_slotBehind_15 rfl rfl rfl ?_
    refine z_iload_n (pc' := 17) dX4_slotBehind_16 rfl rfl rfl ?_
    refine z_bipush (v := 14) (pc' := 19) dX4_slotBehind_17 (by decide) rfl ?_
    refine z_idiv (pc' := 20) dX4_slotBehind_19 (by decide) rfl ?_
    refine z_iload_n (pc' := 21) dX4_slotBehind_20 rfl rfl rfl ?_
    refine z_bipush (v := 14) (pc' := 23) dX4_slotBehind_21 (by decide) rfl ?_
    refine z_irem (pc' := 24) dX4_slotBehind_23 (by decide) rfl ?_
    refine z_iload_n (pc' := 25) dX4_slotBehind_24 rfl rfl rfl ?_
    refine z_iadd (pc' := 26) dX4_slotBehind_25 rfl ?_
    obtain ⟨r4, S5, hc6, hF⟩ := z_bne hF
    refine k_X4_slotFrom (F := 3) (L := 71) (pc' := 29) ht hc6 hst zw_26 rfl rfl (by decide) (by decide) (by decide) dX4_slotBehind_26 rfl ?_
    refine z_wk (ls' := [none, none, none, none]) (z_len1 (z_len1 (z_len1 (z_len1 z_le0)))) ?_
    exact (ok_X4_slotBehind_29 hst ht) _ _ hF
  · rw [if_pos c7] at hF
    refine z_iconst (v := (-1)) (pc' := 12) dX4_slotBehind_11 (by decide) rfl ?_
    refine z_goto (pc' := 29) dX4_slotBehind_12 (by decide) ?_
    refine z_wk (ls' := [none, none, none, none]) (z_len1 (z_len1 (z_len1 (z_len1 z_le0)))) ?_
    exact (ok_X4_slotBehind_29 hst ht) _ _ hF
theorem ok_X4_slotBehind : z_okV I_X4_slotBehind 2 := ⟨⟨z_Gin (List.mem_of_getElem? (i := 723) (by decide +kernel)) rfl, z_Gin (List.mem_of_getElem? (i := 724) (by decide +kernel)) rfl, z_Gin (List.mem_of_getElem? (i := 92) (by decide +kernel)) rfl, z_Gin (List.mem_of_getElem? (i := 725) (by decide +kernel)) rfl⟩, by decide, by decide, by decide +kernel⟩
theorem k_X4_slotBehind {l : Launch} {I : z_I} {R : Room} {B : Nat} {t : Nat} {p1 : Int32} {p2 : Int32} {q : z_O × z_S} {pc pc' : Nat} {ls : List (Option Value)} {st : List Value} {S S1 : z_S} {idx F L : Nat} {r : Int32} (ht : z_is 4 t) (hF : F_X4_slotBehind B t p1 p2 S = some (.inl (some r), S1)) (hst : l.stackTraces = false) (w : Cond.methodLink I.1.cls idx yX4_slotBehind ∈ z_G) (hRF : R.frames = F) (hRL : R.locals = L) (h1 : 4 ≤ F) (h2 : 94 ≤ L) (hs : (st.map fun v => v.category).sum ≤ 8) (d : decode I.2.1 pc = .ok (.invokevirtual idx, 3)) (hp : pc + 3 = pc') (k : z_W l I R B q pc' ls (.int r :: st) S1) : z_W l I R B q pc ls (.int p2 :: .int p1 :: .ref t :: st) S := z_callV (Y := I_X4_slotBehind) (As := [.int p1, .int p2]) (st := st) (r := (some r)) (S1 := S1) (c_X4_slotBehind (q := (.inl (some r), S1)) hst ht hF) ok_X4_slotBehind w (ci := 4) rfl ht.1 ht.2 rfl ⟨by rw [hRF]; exact h1, by rw [hRL]; exact h2⟩ hs d hp rfl k

abbrev I_X4_openSlot : z_I := (yX4_openSlot, cX4_openSlot, 8, none)
abbrev R_X4_openSlot (q : z_O × z_S) : Room := { frames := 1, locals := 68, cells := z_mc q.1, slots := 6 * z_mc q.1 }
def F_X4_openSlot_30 (B : Nat) (t : Nat)   (S : z_S) : Option (z_O × z_S) :=
  some (.inl none, S)
set_option maxRecDepth 20000 in
set_option maxHeartbeats 16000000 in
theorem ok_X4_openSlot_30 {l : Launch} {B : Nat} {t : Nat} {q : z_O × z_S} (hst : l.stackTraces = false) (ht : z_is 4 t) : ∀ (S : z_S), F_X4_openSlot_30 B t S = some q → z_W l I_X4_openSlot (R_X4_openSlot q) B q 30 [none, none, none, none, none, none, none, none] [] S := by
  intro S hF
  unfold F_X4_openSlot_30 at hF
  exact z_return rfl dX4_openSlot_30 (Option.some.inj hF).symm
def F_X4_openSlot (B : Nat) (t : Nat) (p1 : Int32) (p2 : Int32) (p3 : Int32) (p4 : Int32) (p5 : Int32) (S : z_S) : Option (z_O × z_S) :=
  z_gd (z_inb p1 B) (
  z_lt (S.1 (t + 3) (z_ix (p1))) fun x2 =>
  (if p2 < 0 then
    F_X4_openSlot_30 B t S
  else
    if (x2 - p2) < 0 then
      F_X4_openSlot_30 B t S
    else
      z_gd (z_inb p1 B) (
      z_lt (S.1 (t + 3) (z_ix (p1))) fun x4 =>
      (if x4 < 14 then
        z_gd (z_cok ((p1 * 14) + p2) (((p1 * 14) + p2) + 1) (x2 - p2) (14 * B) (14 * B)) (
        z_lt (z_ua S (t + 9) (va_cpy (S.1 (t + 9)) (S.1 (t + 9)) (z_ix ((p1 * 14) + p2)) (z_ix (((p1 * 14) + p2) + 1)) (z_ix (x2 - p2)))) fun S6 =>
        (z_gd (z_cok ((p1 * 14) + p2) (((p1 * 14) + p2) + 1) (x2 - p2) (14 * B) (14 * B)) (
        z_lt (z_ua S6 (t + 10) (va_cpy (S6.1 (t + 10)) (S6.1 (t + 10)) (z_ix ((p1 * 14) + p2)) (z_ix (((p1 * 14) + p2) + 1)) (z_ix (x2 - p2)))) fun S8 =>
        (z_gd (z_cok ((p1 * 14) + p2) (((p1 * 14) + p2) + 1) (x2 - p2) (14 * B) (14 * B)) (
        z_lt (z_ua S8 (t + 11) (va_cpy (S8.1 (t + 11)) (S8.1 (t + 11)) (z_ix ((p1 * 14) + p2)) (z_ix (((p1 * 14) + p2) + 1)) (z_ix (x2 - p2)))) fun S10 =>
        (z_gd (z_inb ((p1 * 14) + p2) (14 * B)) (
        z_lt (z_ua S10 (t + 9) (upd (S10.1 (t + 9)) (z_ix ((p1 * 14) + p2)) p3)) fun S12 =>
        (z_gd (z_inb ((p1 * 14) + p2) (14 * B)) (
        z_lt (z_ua S12 (t + 10) (upd (S12.1 (t + 10)) (z_ix ((p1 * 14) + p2)) p4)) fun S14 =>
        (z_gd (z_inb ((p1 * 14) + p2) (14 * B)) (
        z_lt (z_ua S14 (t + 11) (upd (S14.1 (t + 11)) (z_ix ((p1 * 14) + p2)) p5)) fun S16 =>
        (z_gd (z_inb p1 B) (
        z_lt (S16.1 (t + 3) (z_ix (p1))) fun x18 =>
        (z_gd (z_inb p1 B) (
        z_lt (z_ua S16 (t + 3) (upd (S16.1 (t + 3)) (z_ix (p1)) (x18 + 1))) fun S20 =>
        (z_gd (z_inb p1 B) (
        z_lt (S20.1 (t + 4) (z_ix (p1))) fun x22 =>
        (z_gd (z_inb p1 B) (
        z_lt (z_ua S20 (t + 4) (upd (S20.1 (t + 4)) (z_ix (p1)) (x22 + (8 + p4)))) fun S24 =>
        (some (.inl none, S24)))))))))))))))))))))
      else
        F_X4_openSlot_30 B t S))))
set_option maxRecDepth 20000 in
set_option maxHeartbeats 16000000 in
theorem c_X4_openSlot {l : Launch} {B : Nat} {t : Nat} {p1 : Int32} {p2 : Int32} {p3 : Int32} {p4 : Int32} {p5 : Int32} {S : z_S} {q : z_O × z_S} (hst : l.stackTraces = false) (ht : z_is 4 t) (hF : F_X4_openSlot B t p1 p2 p3 p4 p5 S = some q) : z_Met l I_X4_openSlot 1 68 B [.ref t, .int p1, .int p2, .int p3, .int p4, .int p5] S q.1 q.2 := by
  refine z_enter (ls := [some (.ref t), some (.int p1), some (.int p2), some (.int p3), some (.int p4), some (.int p5), none, none]) (n := 2) (by decide) rfl (Nat.le_of_ble_eq_true rfl) hst ?_
  unfold F_X4_openSlot at hF
  refine z_aload_n (pc' := 1) dX4_openSlot_0 rfl rfl rfl ?_
  refine gf_X4_22 (b := t + 3) (pc' := 4) rfl ht rfl dX4_openSlot_1 rfl ?_
  refine z_iload_n (pc' := 5) dX4_openSlot_4 rfl rfl rfl ?_
  obtain ⟨g1, hF⟩ := z_gde hF
  refine z_iaload (pc' := 6) (ar_4_f3 ht) (z_inbe g1) dX4_openSlot_5 rfl ?_
  refine z_topi (fun x2 ex2 => ?_)
  replace hF := z_lte hF x2 ex2
  refine z_iload_n (pc' := 7) dX4_openSlot_6 rfl rfl rfl ?_
  refine z_isub (pc' := 8) dX4_openSlot_7 rfl ?_
  refine z_istore (pc' := 10) dX4_openSlot_8 (by decide) rfl rfl ?_
  refine z_iload_n (pc' := 11) dX4_openSlot_10 rfl rfl rfl ?_
  refine z_if_lt (tgt := 30) (pc' := 14) dX4_openSlot_11 (by decide) rfl (fun c27 => ?_) (fun c27 => ?_)
  · rw [if_pos c27] at hF
    refine z_wk (ls' := [none, none, none, none, none, none, none, none]) (z_len1 (z_len1 (z_len1 (z_len1 (z_len1 (z_len1 (z_len1 (z_len1 z_le0)))))))) ?_
    exact (ok_X4_openSlot_30 hst ht) _ hF
  · rw [if_neg c27] at hF
    refine z_iload (pc' := 16) dX4_openSlot_14 rfl rfl ?_
    refine z_if_lt (tgt := 30) (pc' := 19) dX4_openSlot_16 (by decide) rfl (fun c26 => ?_) (fun c26 => ?_)
    · rw [if_pos c26] at hF
      refine z_wk (ls' := [none, none, none, none, none, none, none, none]) (z_len1 (z_len1 (z_len1 (z_len1 (z_len1 (z_len1 (z_len1 (z_len1 z_le0)))))))) ?_
      exact (ok_X4_openSlot_30 hst ht) _ hF
    · rw [if_neg c26] at hF
      refine z_aload_n (pc' := 20) dX4_openSlot_19 rfl rfl rfl ?_
      refine gf_X4_22 (b := t + 3) (pc' := 23) rfl ht rfl dX4_openSlot_20 rfl ?_
      refine z_iload_n (pc' := 24) dX4_openSlot_23 rfl rfl rfl ?_
      obtain ⟨g3, hF⟩ := z_gde hF
      refine z_iaload (pc' := 25) (ar_4_f3 ht) (z_inbe g3) dX4_openSlot_24 rfl ?_
      refine z_topi (fun x4 ex4 => ?_)
      replace hF := z_lte hF x4 ex4
      refine z_bipush (v := 14) (pc' := 27) dX4_openSlot_25 (by decide) rfl ?_
      refine z_icmp_lt (tgt := 31) (pc' := 30) dX4_openSlot_27 (by decide) rfl (fun c25 => ?_) (fun c25 => ?_)
      · rw [if_pos c25] at hF
        refine z_iload_n (pc' := 32) dX4_openSlot_31 rfl rfl rfl ?_
        refine z_bipush (v := 14) (pc' := 34) dX4_openSlot_32 (by decide) rfl ?_
        refine z_imul (pc' := 35) dX4_openSlot_34 rfl ?_
        refine z_iload_n (pc' := 36) dX4_openSlot_35 rfl rfl rfl ?_
        refine z_iadd (pc' := 37) dX4_openSlot_36 rfl ?_
        refine z_istore (pc' := 39) dX4_openSlot_37 (by decide) rfl rfl ?_
        refine z_aload_n (pc' := 40) dX4_openSlot_39 rfl rfl rfl ?_
        refine gf_X4_40 (b := t + 9) (pc' := 43) rfl ht rfl dX4_openSlot_40 rfl ?_
        refine z_iload (pc' := 45) dX4_openSlot_43 rfl rfl ?_
        refine z_aload_n (pc' := 46) dX4_openSlot_45 rfl rfl rfl ?_
        refine gf_X4_40 (b := t + 9) (pc' := 49) rfl ht rfl dX4_openSlot_46 rfl ?_
        refine z_iload (pc' := 51) dX4_openSlot_49 rfl rfl ?_
        refine z_iconst (v := 1) (pc' := 52) dX4_openSlot_51 (by decide) rfl ?_
        refine z_iadd (pc' := 53) dX4_openSlot_52 rfl ?_
        refine z_iload (pc' := 55) dX4_openSlot_53 rfl rfl ?_
        obtain ⟨g5, hF⟩ := z_gde hF
        refine z_copy (pc' := 58) (ar_4_f9 ht) (ar_4_f9 ht) (by decide) g5 zw_4 zw_1 zw_2 zw_3 ⟨by show (_ : Nat) ≤ 1; decide, by show (_ : Nat) ≤ 68; decide⟩ dX4_openSlot_55 rfl (fun S6 eS6 => ?_)
        replace hF := z_lte hF S6 eS6
        refine z_aload_n (pc' := 59) dX4_openSlot_58 rfl rfl rfl ?_
        refine gf_X4_43 (b := t + 10) (pc' := 62) rfl ht rfl dX4_openSlot_59 rfl ?_
        refine z_iload (pc' := 64) dX4_openSlot_62 rfl rfl ?_
        refine z_aload_n (pc' := 65) dX4_openSlot_64 rfl rfl rfl ?_
        refine gf_X4_43 (b := t + 10) (pc' := 68) rfl ht rfl dX4_openSlot_65 rfl ?_
        refine z_iload (pc' := 70) dX4_openSlot_68 rfl rfl ?_
        refine z_iconst (v := 1) (pc' := 71) dX4_openSlot_70 (by decide) rfl ?_
        refine z_iadd (pc' := 72) dX4_openSlot_71 rfl ?_
        refine z_iload (pc' := 74) dX4_openSlot_72 rfl rfl ?_
        obtain ⟨g7, hF⟩ := z_gde hF
        refine z_copy (pc' := 77) (ar_4_f10 ht) (ar_4_f10 ht) (by decide) g7 zw_4 zw_1 zw_2 zw_3 ⟨by show (_ : Nat) ≤ 1; decide, by show (_ : Nat) ≤ 68; decide⟩ dX4_openSlot_74 rfl (fun S8 eS8 => ?_)
        replace hF := z_lte hF S8 eS8
        refine z_aload_n (pc' := 78) dX4_openSlot_77 rfl rfl rfl ?_
        refine gf_X4_46 (b := t + 11) (pc' := 81) rfl ht rfl dX4_openSlot_78 rfl ?_
        refine z_iload (pc' := 83) dX4_openSlot_81 rfl rfl ?_
        refine z_aload_n (pc' := 84) dX4_openSlot_83 rfl rfl rfl ?_
        refine gf_X4_46 (b := t + 11) (pc' := 87) rfl ht rfl dX4_openSlot_84 rfl ?_
        refine z_iload (pc' := 89) dX4_openSlot_87 rfl rfl ?_
        refine z_iconst (v := 1) (pc' := 90) dX4_openSlot_89 (by decide) rfl ?_
        refine z_iadd (pc' := 91) dX4_openSlot_90 rfl ?_
        refine z_iload (pc' := 93) dX4_openSlot_91 rfl rfl ?_
        obtain ⟨g9, hF⟩ := z_gde hF
        refine z_copy (pc' := 96) (ar_4_f11 ht) (ar_4_f11 ht) (by decide) g9 zw_4 zw_1 zw_2 zw_3 ⟨by show (_ : Nat) ≤ 1; decide, by show (_ : Nat) ≤ 68; decide⟩ dX4_openSlot_93 rfl (fun S10 eS10 => ?_)
        replace hF := z_lte hF S10 eS10
        refine z_aload_n (pc' := 97) dX4_openSlot_96 rfl rfl rfl ?_
        refine gf_X4_40 (b := t + 9) (pc' := 100) rfl ht rfl dX4_openSlot_97 rfl ?_
        refine z_iload (pc' := 102) dX4_openSlot_100 rfl rfl ?_
        refine z_iload_n (pc' := 103) dX4_openSlot_102 rfl rfl rfl ?_
        obtain ⟨g11, hF⟩ := z_gde hF
        refine z_iastore (pc' := 104) (ar_4_f9 ht) (z_inbe g11) dX4_openSlot_103 rfl (fun S12 eS12 => ?_)
        replace hF := z_lte hF S12 eS12
        refine z_aload_n (pc' := 105) dX4_openSlot_104 rfl rfl rfl ?_
        refine gf_X4_43 (b := t + 10) (pc' := 108) rfl ht rfl dX4_openSlot_105 rfl ?_
        refine z_iload (pc' := 110) dX4_openSlot_108 rfl rfl ?_
        refine z_iload (pc' := 112) dX4_openSlot_110 rfl rfl ?_
        obtain ⟨g13, hF⟩ := z_gde hF
        refine z_iastore (pc' := 113) (ar_4_f10 ht) (z_inbe g13) dX4_openSlot_112 rfl (fun S14 eS14 => ?_)
        replace hF := z_lte hF S14 eS14
        refine z_aload_n (pc' := 114) dX4_openSlot_113 rfl rfl rfl ?_
        refine gf_X4_46 (b := t + 11) (pc' := 117) rfl ht rfl dX4_openSlot_114 rfl ?_
        refine z_iload (pc' := 119) dX4_openSlot_117 rfl rfl ?_
        refine z_iload (pc' := 121) dX4_openSlot_119 rfl rfl ?_
        obtain ⟨g15, hF⟩ := z_gde hF
        refine z_iastore (pc' := 122) (ar_4_f11 ht) (z_inbe g15) dX4_openSlot_121 rfl (fun S16 eS16 => ?_)
        replace hF := z_lte hF S16 eS16
        refine z_aload_n (pc' := 123) dX4_openSlot_122 rfl rfl rfl ?_
        refine gf_X4_22 (b := t + 3) (pc' := 126) rfl ht rfl dX4_openSlot_123 rfl ?_
        refine z_iload_n (pc' := 127) dX4_openSlot_126 rfl rfl rfl ?_
        refine z_dup2 (pc' := 128) dX4_openSlot_127 rfl ?_
        obtain ⟨g17, hF⟩ := z_gde hF
        refine z_iaload (pc' := 129) (ar_4_f3 ht) (z_inbe g17) dX4_openSlot_128 rfl ?_
        refine z_topi (fun x18 ex18 => ?_)
        replace hF := z_lte hF x18 ex18
        refine z_iconst (v := 1) (pc' := 130) dX4_openSlot_129 (by decide) rfl ?_
        refine z_iadd (pc' := 131) dX4_openSlot_130 rfl ?_
        obtain ⟨g19, hF⟩ := z_gde hF
        refine z_iastore (pc' := 132) (ar_4_f3 ht) (z_inbe g19) dX4_openSlot_131 rfl (fun S20 eS20 => ?_)
        replace hF := z_lte hF S20 eS20
        refine z_aload_n (pc' := 133) dX4_openSlot_132 rfl rfl rfl ?_
        refine gf_X4_25 (b := t + 4) (pc' := 136) rfl ht rfl dX4_openSlot_133 rfl ?_
        refine z_iload_n (pc' := 137) dX4_openSlot_136 rfl rfl rfl ?_
        refine z_dup2 (pc' := 138) dX4_openSlot_137 rfl ?_
        obtain ⟨g21, hF⟩ := z_gde hF
        refine z_iaload (pc' := 139) (ar_4_f4 ht) (z_inbe g21) dX4_openSlot_138 rfl ?_
        refine z_topi (fun x22 ex22 => ?_)
        replace hF := z_lte hF x22 ex22
        refine z_bipush (v := 8) (pc' := 141) dX4_openSlot_139 (by decide) rfl ?_
        refine z_iload (pc' := 143) dX4_openSlot_141 rfl rfl ?_
        refine z_iadd (pc' := 144) dX4_openSlot_143 rfl ?_
        refine z_iadd (pc' := 145) dX4_openSlot_144 rfl ?_
        obtain ⟨g23, hF⟩ := z_gde hF
        refine z_iastore (pc' := 146) (ar_4_f4 ht) (z_inbe g23) dX4_openSlot_145 rfl (fun S24 eS24 => ?_)
        replace hF := z_lte hF S24 eS24
        exact z_return rfl dX4_openSlot_146 (Option.some.inj hF).symm
      · rw [if_neg c25] at hF
        refine z_wk (ls' := [none, none, none, none, none, none, none, none]) (z_len1 (z_len1 (z_len1 (z_len1 (z_len1 (z_len1 (z_len1 (z_len1 z_le0)))))))) ?_
        exact (ok_X4_openSlot_30 hst ht) _ hF
theorem ok_X4_openSlot : z_okV I_X4_openSlot 5 := ⟨⟨z_Gin (List.mem_of_getElem? (i := 144) (by decide +kernel)) rfl, z_Gin (List.mem_of_getElem? (i := 0) (by decide +kernel)) rfl, z_Gin (List.mem_of_getElem? (i := 92) (by decide +kernel)) rfl, z_Gin (List.mem_of_getElem? (i := 145) (by decide +kernel)) rfl⟩, by decide, by decide, by decide +kernel⟩
theorem k_X4_openSlot {l : Launch} {I : z_I} {R : Room} {B : Nat} {t : Nat} {p1 : Int32} {p2 : Int32} {p3 : Int32} {p4 : Int32} {p5 : Int32} {q : z_O × z_S} {pc pc' : Nat} {ls : List (Option Value)} {st : List Value} {S S1 : z_S} {idx F L : Nat} (ht : z_is 4 t) (hF : F_X4_openSlot B t p1 p2 p3 p4 p5 S = some (.inl none, S1)) (hst : l.stackTraces = false) (w : Cond.methodLink I.1.cls idx yX4_openSlot ∈ z_G) (hRF : R.frames = F) (hRL : R.locals = L) (h1 : 2 ≤ F) (h2 : 95 ≤ L) (hs : (st.map fun v => v.category).sum ≤ 8) (d : decode I.2.1 pc = .ok (.invokevirtual idx, 3)) (hp : pc + 3 = pc') (k : z_W l I R B q pc' ls st S1) : z_W l I R B q pc ls (.int p5 :: .int p4 :: .int p3 :: .int p2 :: .int p1 :: .ref t :: st) S := z_callV (Y := I_X4_openSlot) (As := [.int p1, .int p2, .int p3, .int p4, .int p5]) (st := st) (r := none) (S1 := S1) (c_X4_openSlot (q := (.inl none, S1)) hst ht hF) ok_X4_openSlot w (ci := 4) rfl ht.1 ht.2 rfl ⟨by rw [hRF]; exact h1, by rw [hRL]; exact h2⟩ hs d hp rfl k

abbrev I_X4_openChild : z_I := (yX4_openChild, cX4_openChild, 6, none)
abbrev R_X4_openChild (q : z_O × z_S) : Room := { frames := 1, locals := 68, cells := z_mc q.1, slots := 6 * z_mc q.1 }
def F_X4_openChild_30 (B : Nat) (t : Nat)   (S : z_S) : Option (z_O × z_S) :=
  some (.inl none, S)
set_option maxRecDepth 20000 in
set_option maxHeartbeats 16000000 in
theorem ok_X4_openChild_30 {l : Launch} {B : Nat} {t : Nat} {q : z_O × z_S} (hst : l.stackTraces = false) (ht : z_is 4 t) : ∀ (S : z_S), F_X4_openChild_30 B t S = some q → z_W l I_X4_openChild (R_X4_openChild q) B q 30 [none, none, none, none, none, none] [] S := by
  intro S hF
  unfold F_X4_openChild_30 at hF
  exact z_return rfl dX4_openChild_30 (Option.some.inj hF).symm
def F_X4_openChild (B : Nat) (t : Nat) (p1 : Int32) (p2 : Int32) (p3 : Int32) (S : z_S) : Option (z_O × z_S) :=
  z_gd (z_inb p1 B) (
  z_lt (S.1 (t + 3) (z_ix (p1))) fun x2 =>
  (if p2 < 0 then
    F_X4_openChild_30 B t S
  else
    if (x2 - p2) < 0 then
      F_X4_openChild_30 B t S
    else
      z_gd (z_inb p1 B) (
      z_lt (S.1 (t + 3) (z_ix (p1))) fun x4 =>
      (if x4 < 6 then
        z_gd (z_cok ((p1 * 6) + p2) (((p1 * 6) + p2) + 1) (x2 - p2) (6 * B) (6 * B)) (
        z_lt (z_ua S (t + 8) (va_cpy (S.1 (t + 8)) (S.1 (t + 8)) (z_ix ((p1 * 6) + p2)) (z_ix (((p1 * 6) + p2) + 1)) (z_ix (x2 - p2)))) fun S6 =>
        (z_gd (z_inb ((p1 * 6) + p2) (6 * B)) (
        z_lt (z_ua S6 (t + 8) (upd (S6.1 (t + 8)) (z_ix ((p1 * 6) + p2)) p3)) fun S8 =>
        (z_gd (z_inb p3 B) (
        z_lt (z_ua S8 (t + 5) (upd (S8.1 (t + 5)) (z_ix (p3)) p1)) fun S10 =>
        (z_gd (z_inb p1 B) (
        z_lt (S10.1 (t + 3) (z_ix (p1))) fun x12 =>
        (z_gd (z_inb p1 B) (
        z_lt (z_ua S10 (t + 3) (upd (S10.1 (t + 3)) (z_ix (p1)) (x12 + 1))) fun S14 =>
        (some (.inl none, S14)))))))))))
      else
        F_X4_openChild_30 B t S))))
set_option maxRecDepth 20000 in
set_option maxHeartbeats 16000000 in
theorem c_X4_openChild {l : Launch} {B : Nat} {t : Nat} {p1 : Int32} {p2 : Int32} {p3 : Int32} {S : z_S} {q : z_O × z_S} (hst : l.stackTraces = false) (ht : z_is 4 t) (hF : F_X4_openChild B t p1 p2 p3 S = some q) : z_Met l I_X4_openChild 1 68 B [.ref t, .int p1, .int p2, .int p3] S q.1 q.2 := by
  refine z_enter (ls := [some (.ref t), some (.int p1), some (.int p2), some (.int p3), none, none]) (n := 2) (by decide) rfl (Nat.le_of_ble_eq_true rfl) hst ?_
  unfold F_X4_openChild at hF
  refine z_aload_n (pc' := 1) dX4_openChild_0 rfl rfl rfl ?_
  refine gf_X4_22 (b := t + 3) (pc' := 4) rfl ht rfl dX4_openChild_1 rfl ?_
  refine z_iload_n (pc' := 5) dX4_openChild_4 rfl rfl rfl ?_
  obtain ⟨g1, hF⟩ := z_gde hF
  refine z_iaload (pc' := 6) (ar_4_f3 ht) (z_inbe g1) dX4_openChild_5 rfl ?_
  refine z_topi (fun x2 ex2 => ?_)
  replace hF := z_lte hF x2 ex2
  refine z_iload_n (pc' := 7) dX4_openChild_6 rfl rfl rfl ?_
  refine z_isub (pc' := 8) dX4_openChild_7 rfl ?_
  refine z_istore (pc' := 10) dX4_openChild_8 (by decide) rfl rfl ?_
  refine z_iload_n (pc' := 11) dX4_openChild_10 rfl rfl rfl ?_
  refine z_if_lt (tgt := 30) (pc' := 14) dX4_openChild_11 (by decide) rfl (fun c17 => ?_) (fun c17 => ?_)
  · rw [if_pos c17] at hF
    refine z_wk (ls' := [none, none, none, none, none, none]) (z_len1 (z_len1 (z_len1 (z_len1 (z_len1 (z_len1 z_le0)))))) ?_
    exact (ok_X4_openChild_30 hst ht) _ hF
  · rw [if_neg c17] at hF
    refine z_iload (pc' := 16) dX4_openChild_14 rfl rfl ?_
    refine z_if_lt (tgt := 30) (pc' := 19) dX4_openChild_16 (by decide) rfl (fun c16 => ?_) (fun c16 => ?_)
    · rw [if_pos c16] at hF
      refine z_wk (ls' := [none, none, none, none, none, none]) (z_len1 (z_len1 (z_len1 (z_len1 (z_len1 (z_len1 z_le0)))))) ?_
      exact (ok_X4_openChild_30 hst ht) _ hF
    · rw [if_neg c16] at hF
      refine z_aload_n (pc' := 20) dX4_openChild_19 rfl rfl rfl ?_
      refine gf_X4_22 (b := t + 3) (pc' := 23) rfl ht rfl dX4_openChild_20 rfl ?_
      refine z_iload_n (pc' := 24) dX4_openChild_23 rfl rfl rfl ?_
      obtain ⟨g3, hF⟩ := z_gde hF
      refine z_iaload (pc' := 25) (ar_4_f3 ht) (z_inbe g3) dX4_openChild_24 rfl ?_
      refine z_topi (fun x4 ex4 => ?_)
      replace hF := z_lte hF x4 ex4
      refine z_bipush (v := 6) (pc' := 27) dX4_openChild_25 (by decide) rfl ?_
      refine z_icmp_lt (tgt := 31) (pc' := 30) dX4_openChild_27 (by decide) rfl (fun c15 => ?_) (fun c15 => ?_)
      · rw [if_pos c15] at hF
        refine z_iload_n (pc' := 32) dX4_openChild_31 rfl rfl rfl ?_
        refine z_bipush (v := 6) (pc' := 34) dX4_openChild_32 (by decide) rfl ?_
        refine z_imul (pc' := 35) dX4_openChild_34 rfl ?_
        refine z_iload_n (pc' := 36) dX4_openChild_35 rfl rfl rfl ?_
        refine z_iadd (pc' := 37) dX4_openChild_36 rfl ?_
        refine z_istore (pc' := 39) dX4_openChild_37 (by decide) rfl rfl ?_
        refine z_aload_n (pc' := 40) dX4_openChild_39 rfl rfl rfl ?_
        refine gf_X4_37 (b := t + 8) (pc' := 43) rfl ht rfl dX4_openChild_40 rfl ?_
        refine z_iload (pc' := 45) dX4_openChild_43 rfl rfl ?_
        refine z_aload_n (pc' := 46) dX4_openChild_45 rfl rfl rfl ?_
        refine gf_X4_37 (b := t + 8) (pc' := 49) rfl ht rfl dX4_openChild_46 rfl ?_
        refine z_iload (pc' := 51) dX4_openChild_49 rfl rfl ?_
        refine z_iconst (v := 1) (pc' := 52) dX4_openChild_51 (by decide) rfl ?_
        refine z_iadd (pc' := 53) dX4_openChild_52 rfl ?_
        refine z_iload (pc' := 55) dX4_openChild_53 rfl rfl ?_
        obtain ⟨g5, hF⟩ := z_gde hF
        refine z_copy (pc' := 58) (ar_4_f8 ht) (ar_4_f8 ht) (by decide) g5 zw_4 zw_1 zw_2 zw_3 ⟨by show (_ : Nat) ≤ 1; decide, by show (_ : Nat) ≤ 68; decide⟩ dX4_openChild_55 rfl (fun S6 eS6 => ?_)
        replace hF := z_lte hF S6 eS6
        refine z_aload_n (pc' := 59) dX4_openChild_58 rfl rfl rfl ?_
        refine gf_X4_37 (b := t + 8) (pc' := 62) rfl ht rfl dX4_openChild_59 rfl ?_
        refine z_iload (pc' := 64) dX4_openChild_62 rfl rfl ?_
        refine z_iload_n (pc' := 65) dX4_openChild_64 rfl rfl rfl ?_
        obtain ⟨g7, hF⟩ := z_gde hF
        refine z_iastore (pc' := 66) (ar_4_f8 ht) (z_inbe g7) dX4_openChild_65 rfl (fun S8 eS8 => ?_)
        replace hF := z_lte hF S8 eS8
        refine z_aload_n (pc' := 67) dX4_openChild_66 rfl rfl rfl ?_
        refine gf_X4_28 (b := t + 5) (pc' := 70) rfl ht rfl dX4_openChild_67 rfl ?_
        refine z_iload_n (pc' := 71) dX4_openChild_70 rfl rfl rfl ?_
        refine z_iload_n (pc' := 72) dX4_openChild_71 rfl rfl rfl ?_
        obtain ⟨g9, hF⟩ := z_gde hF
        refine z_iastore (pc' := 73) (ar_4_f5 ht) (z_inbe g9) dX4_openChild_72 rfl (fun S10 eS10 => ?_)
        replace hF := z_lte hF S10 eS10
        refine z_aload_n (pc' := 74) dX4_openChild_73 rfl rfl rfl ?_
        refine gf_X4_22 (b := t + 3) (pc' := 77) rfl ht rfl dX4_openChild_74 rfl ?_
        refine z_iload_n (pc' := 78) dX4_openChild_77 rfl rfl rfl ?_
        refine z_dup2 (pc' := 79) dX4_openChild_78 rfl ?_
        obtain ⟨g11, hF⟩ := z_gde hF
        refine z_iaload (pc' := 80) (ar_4_f3 ht) (z_inbe g11) dX4_openChild_79 rfl ?_
        refine z_topi (fun x12 ex12 => ?_)
        replace hF := z_lte hF x12 ex12
        refine z_iconst (v := 1) (pc' := 81) dX4_openChild_80 (by decide) rfl ?_
        refine z_iadd (pc' := 82) dX4_openChild_81 rfl ?_
        obtain ⟨g13, hF⟩ := z_gde hF
        refine z_iastore (pc' := 83) (ar_4_f3 ht) (z_inbe g13) dX4_openChild_82 rfl (fun S14 eS14 => ?_)
        replace hF := z_lte hF S14 eS14
        exact z_return rfl dX4_openChild_83 (Option.some.inj hF).symm
      · rw [if_neg c15] at hF
        refine z_wk (ls' := [none, none, none, none, none, none]) (z_len1 (z_len1 (z_len1 (z_len1 (z_len1 (z_len1 z_le0)))))) ?_
        exact (ok_X4_openChild_30 hst ht) _ hF
theorem ok_X4_openChild : z_okV I_X4_openChild 3 := ⟨⟨z_Gin (List.mem_of_getElem? (i := 541) (by decide +kernel)) rfl, z_Gin (List.mem_of_getElem? (i := 17) (by decide +kernel)) rfl, z_Gin (List.mem_of_getElem? (i := 92) (by decide +kernel)) rfl, z_Gin (List.mem_of_getElem? (i := 542) (by decide +kernel)) rfl⟩, by decide, by decide, by decide +kernel⟩
theorem k_X4_openChild {l : Launch} {I : z_I} {R : Room} {B : Nat} {t : Nat} {p1 : Int32} {p2 : Int32} {p3 : Int32} {q : z_O × z_S} {pc pc' : Nat} {ls : List (Option Value)} {st : List Value} {S S1 : z_S} {idx F L : Nat} (ht : z_is 4 t) (hF : F_X4_openChild B t p1 p2 p3 S = some (.inl none, S1)) (hst : l.stackTraces = false) (w : Cond.methodLink I.1.cls idx yX4_openChild ∈ z_G) (hRF : R.frames = F) (hRL : R.locals = L) (h1 : 2 ≤ F) (h2 : 93 ≤ L) (hs : (st.map fun v => v.category).sum ≤ 8) (d : decode I.2.1 pc = .ok (.invokevirtual idx, 3)) (hp : pc + 3 = pc') (k : z_W l I R B q pc' ls st S1) : z_W l I R B q pc ls (.int p3 :: .int p2 :: .int p1 :: .ref t :: st) S := z_callV (Y := I_X4_openChild) (As := [.int p1, .int p2, .int p3]) (st := st) (r := none) (S1 := S1) (c_X4_openChild (q := (.inl none, S1)) hst ht hF) ok_X4_openChild w (ci := 4) rfl ht.1 ht.2 rfl ⟨by rw [hRF]; exact h1, by rw [hRL]; exact h2⟩ hs d hp rfl k

abbrev I_X4_addRoot : z_I := (yX4_addRoot, cX4_addRoot, 4, some .boolean)
abbrev R_X4_addRoot (q : z_O × z_S) : Room := { frames := 2, locals := 93, cells := z_mc q.1, slots := 6 * z_mc q.1 }
def F_X4_addRoot (B : Nat) (t : Nat) (p1 : Int32) (p2 : Int32) (S : z_S) : Option (z_O × z_S) :=
  z_bn (F_X4_takeBlock B t 3 S) fun r1 S2 =>
  (if r1 = (-1) then
    z_gd (z_b01 0) (some (.inl (some 0), S2))
  else
    z_gd (z_inb p1 B) (
    z_lt (S2.1 (t + 2) (z_ix (p1))) fun x5 =>
    (z_gd (z_inb r1 B) (
    z_lt (z_ua S2 (t + 2) (upd (S2.1 (t + 2)) (z_ix (r1)) (x5 + 1))) fun S7 =>
    (z_bo (F_X4_openChild B t r1 0 p1 S7) fun S9 =>
    (z_bo (F_X4_openChild B t r1 1 p2 S9) fun S12 =>
    (z_lt (z_ui S12 t 12 r1) fun S14 =>
    (z_gd (z_b01 1) (some (.inl (some 1), S14))))))))))
set_option maxRecDepth 20000 in
set_option maxHeartbeats 16000000 in
theorem c_X4_addRoot {l : Launch} {B : Nat} {t : Nat} {p1 : Int32} {p2 : Int32} {S : z_S} {q : z_O × z_S} (hst : l.stackTraces = false) (ht : z_is 4 t) (hF : F_X4_addRoot B t p1 p2 S = some q) : z_Met l I_X4_addRoot 2 93 B [.ref t, .int p1, .int p2] S q.1 q.2 := by
  refine z_enter (ls := [some (.ref t), some (.int p1), some (.int p2), none]) (n := 1) (by decide) rfl (Nat.le_of_ble_eq_true rfl) hst ?_
  unfold F_X4_addRoot at hF
  refine z_aload_n (pc' := 1) dX4_addRoot_0 rfl rfl rfl ?_
  refine z_iconst (v := 3) (pc' := 2) dX4_addRoot_1 (by decide) rfl ?_
  obtain ⟨r1, S2, hc3, hF⟩ := z_bne hF
  refine k_X4_takeBlock (F := 2) (L := 93) (pc' := 5) ht hc3 hst zw_27 rfl rfl (by decide) (by decide) (by decide) dX4_addRoot_2 rfl ?_
  refine z_istore_n (pc' := 6) dX4_addRoot_5 rfl (by decide) rfl rfl ?_
  refine z_iload_n (pc' := 7) dX4_addRoot_6 rfl rfl rfl ?_
  refine z_iconst (v := (-1)) (pc' := 8) dX4_addRoot_7 (by decide) rfl ?_
  refine z_icmp_ne (tgt := 13) (pc' := 11) dX4_addRoot_8 (by decide) rfl (fun c17 => ?_) (fun c17 => ?_)
  · rw [if_neg c17] at hF
    refine z_aload_n (pc' := 14) dX4_addRoot_13 rfl rfl rfl ?_
    refine gf_X4_19 (b := t + 2) (pc' := 17) rfl ht rfl dX4_addRoot_14 rfl ?_
    refine z_iload_n (pc' := 18) dX4_addRoot_17 rfl rfl rfl ?_
    refine z_aload_n (pc' := 19) dX4_addRoot_18 rfl rfl rfl ?_
    refine gf_X4_19 (b := t + 2) (pc' := 22) rfl ht rfl dX4_addRoot_19 rfl ?_
    refine z_iload_n (pc' := 23) dX4_addRoot_22 rfl rfl rfl ?_
    obtain ⟨g4, hF⟩ := z_gde hF
    refine z_iaload (pc' := 24) (ar_4_f2 ht) (z_inbe g4) dX4_addRoot_23 rfl ?_
    refine z_topi (fun x5 ex5 => ?_)
    replace hF := z_lte hF x5 ex5
    refine z_iconst (v := 1) (pc' := 25) dX4_addRoot_24 (by decide) rfl ?_
    refine z_iadd (pc' := 26) dX4_addRoot_25 rfl ?_
    obtain ⟨g6, hF⟩ := z_gde hF
    refine z_iastore (pc' := 27) (ar_4_f2 ht) (z_inbe g6) dX4_addRoot_26 rfl (fun S7 eS7 => ?_)
    replace hF := z_lte hF S7 eS7
    refine z_aload_n (pc' := 28) dX4_addRoot_27 rfl rfl rfl ?_
    refine z_iload_n (pc' := 29) dX4_addRoot_28 rfl rfl rfl ?_
    refine z_iconst (v := 0) (pc' := 30) dX4_addRoot_29 (by decide) rfl ?_
    refine z_iload_n (pc' := 31) dX4_addRoot_30 rfl rfl rfl ?_
    obtain ⟨S9, hc10, hF⟩ := z_boe hF
    refine k_X4_openChild (F := 2) (L := 93) (pc' := 34) ht hc10 hst zw_28 rfl rfl (by decide) (by decide) (by decide) dX4_addRoot_31 rfl ?_
    refine z_aload_n (pc' := 35) dX4_addRoot_34 rfl rfl rfl ?_
    refine z_iload_n (pc' := 36) dX4_addRoot_35 rfl rfl rfl ?_
    refine z_iconst (v := 1) (pc' := 37) dX4_addRoot_36 (by decide) rfl ?_
    refine z_iload_n (pc' := 38) dX4_addRoot_37 rfl rfl rfl ?_
    obtain ⟨S12, hc13, hF⟩ := z_boe hF
    refine k_X4_openChild (F := 2) (L := 93) (pc' := 41) ht hc13 hst zw_28 rfl rfl (by decide) (by decide) (by decide) dX4_addRoot_38 rfl ?_
    refine z_aload_n (pc' := 42) dX4_addRoot_41 rfl rfl rfl ?_
    refine z_iload_n (pc' := 43) dX4_addRoot_42 rfl rfl rfl ?_
    refine pf_X4_53 (pc' := 46) rfl ht dX4_addRoot_43 rfl (fun S14 eS14 => ?_)
    replace hF := z_lte hF S14 eS14
    refine z_iconst (v := 1) (pc' := 47) dX4_addRoot_46 (by decide) rfl ?_
    obtain ⟨g15, hF⟩ := z_gde hF
    exact z_zreturn rfl (z_b01e g15) dX4_addRoot_47 (Option.some.inj hF).symm
  · rw [if_pos c17] at hF
    refine z_iconst (v := 0) (pc' := 12) dX4_addRoot_11 (by decide) rfl ?_
    obtain ⟨g16, hF⟩ := z_gde hF
    exact z_zreturn rfl (z_b01e g16) dX4_addRoot_12 (Option.some.inj hF).symm
theorem ok_X4_addRoot : z_okV I_X4_addRoot 2 := ⟨⟨z_Gin (List.mem_of_getElem? (i := 537) (by decide +kernel)) rfl, z_Gin (List.mem_of_getElem? (i := 16) (by decide +kernel)) rfl, z_Gin (List.mem_of_getElem? (i := 92) (by decide +kernel)) rfl, z_Gin (List.mem_of_getElem? (i := 538) (by decide +kernel)) rfl⟩, by decide, by decide, by decide +kernel⟩
theorem k_X4_addRoot {l : Launch} {I : z_I} {R : Room} {B : Nat} {t : Nat} {p1 : Int32} {p2 : Int32} {q : z_O × z_S} {pc pc' : Nat} {ls : List (Option Value)} {st : List Value} {S S1 : z_S} {idx F L : Nat} {r : Int32} (ht : z_is 4 t) (hF : F_X4_addRoot B t p1 p2 S = some (.inl (some r), S1)) (hst : l.stackTraces = false) (w : Cond.methodLink I.1.cls idx yX4_addRoot ∈ z_G) (hRF : R.frames = F) (hRL : R.locals = L) (h1 : 3 ≤ F) (h2 : 116 ≤ L) (hs : (st.map fun v => v.category).sum ≤ 8) (d : decode I.2.1 pc = .ok (.invokevirtual idx, 3)) (hp : pc + 3 = pc') (k : z_W l I R B q pc' ls (.int r :: st) S1) : z_W l I R B q pc ls (.int p2 :: .int p1 :: .ref t :: st) S := z_callV (Y := I_X4_addRoot) (As := [.int p1, .int p2]) (st := st) (r := (some r)) (S1 := S1) (c_X4_addRoot (q := (.inl (some r), S1)) hst ht hF) ok_X4_addRoot w (ci := 4) rfl ht.1 ht.2 rfl ⟨by rw [hRF]; exact h1, by rw [hRL]; exact h2⟩ hs d hp rfl k

abbrev I_X4_joinRow : z_I := (yX4_joinRow, cX4_joinRow, 4, none)
abbrev R_X4_joinRow (q : z_O × z_S) : Room := { frames := 0, locals := 0, cells := z_mc q.1, slots := 6 * z_mc q.1 }
def F_X4_joinRow_40 (B : Nat) (t : Nat)   (S : z_S) : Option (z_O × z_S) :=
  some (.inl none, S)
set_option maxRecDepth 20000 in
set_option maxHeartbeats 16000000 in
theorem ok_X4_joinRow_40 {l : Launch} {B : Nat} {t : Nat} {q : z_O × z_S} (hst : l.stackTraces = false) (ht : z_is 4 t) : ∀ (S : z_S), F_X4_joinRow_40 B t S = some q → z_W l I_X4_joinRow (R_X4_joinRow q) B q 40 [none, none, none, none] [] S := by
  intro S hF
  unfold F_X4_joinRow_40 at hF
  exact z_return rfl dX4_joinRow_40 (Option.some.inj hF).symm
def F_X4_joinRow (B : Nat) (t : Nat) (p1 : Int32) (p2 : Int32) (S : z_S) : Option (z_O × z_S) :=
  z_gd (z_inb p2 B) (
  z_lt (S.1 (t + 7) (z_ix (p2))) fun x2 =>
  (z_gd (z_inb p1 B) (
  z_lt (z_ua S (t + 6) (upd (S.1 (t + 6)) (z_ix (p1)) p2)) fun S4 =>
  (z_gd (z_inb p1 B) (
  z_lt (z_ua S4 (t + 7) (upd (S4.1 (t + 7)) (z_ix (p1)) x2)) fun S6 =>
  (z_gd (z_inb p2 B) (
  z_lt (z_ua S6 (t + 7) (upd (S6.1 (t + 7)) (z_ix (p2)) p1)) fun S8 =>
  (if x2 = (-1) then
    F_X4_joinRow_40 B t S8
  else
    z_gd (z_inb x2 B) (
    z_lt (z_ua S8 (t + 6) (upd (S8.1 (t + 6)) (z_ix (x2)) p1)) fun S10 =>
    (F_X4_joinRow_40 B t S10))))))))))
set_option maxRecDepth 20000 in
set_option maxHeartbeats 16000000 in
theorem c_X4_joinRow {l : Launch} {B : Nat} {t : Nat} {p1 : Int32} {p2 : Int32} {S : z_S} {q : z_O × z_S} (hst : l.stackTraces = false) (ht : z_is 4 t) (hF : F_X4_joinRow B t p1 p2 S = some q) : z_Met l I_X4_joinRow 0 0 B [.ref t, .int p1, .int p2] S q.1 q.2 := by
  refine z_enter (ls := [some (.ref t), some (.int p1), some (.int p2), none]) (n := 1) (by decide) rfl (Nat.le_of_ble_eq_true rfl) hst ?_
  unfold F_X4_joinRow at hF
  refine z_aload_n (pc' := 1) dX4_joinRow_0 rfl rfl rfl ?_
  refine gf_X4_34 (b := t + 7) (pc' := 4) rfl ht rfl dX4_joinRow_1 rfl ?_
  refine z_iload_n (pc' := 5) dX4_joinRow_4 rfl rfl rfl ?_
  obtain ⟨g1, hF⟩ := z_gde hF
  refine z_iaload (pc' := 6) (ar_4_f7 ht) (z_inbe g1) dX4_joinRow_5 rfl ?_
  refine z_topi (fun x2 ex2 => ?_)
  replace hF := z_lte hF x2 ex2
  refine z_istore_n (pc' := 7) dX4_joinRow_6 rfl (by decide) rfl rfl ?_
  refine z_aload_n (pc' := 8) dX4_joinRow_7 rfl rfl rfl ?_
  refine gf_X4_31 (b := t + 6) (pc' := 11) rfl ht rfl dX4_joinRow_8 rfl ?_
  refine z_iload_n (pc' := 12) dX4_joinRow_11 rfl rfl rfl ?_
  refine z_iload_n (pc' := 13) dX4_joinRow_12 rfl rfl rfl ?_
  obtain ⟨g3, hF⟩ := z_gde hF
  refine z_iastore (pc' := 14) (ar_4_f6 ht) (z_inbe g3) dX4_joinRow_13 rfl (fun S4 eS4 => ?_)
  replace hF := z_lte hF S4 eS4
  refine z_aload_n (pc' := 15) dX4_joinRow_14 rfl rfl rfl ?_
  refine gf_X4_34 (b := t + 7) (pc' := 18) rfl ht rfl dX4_joinRow_15 rfl ?_
  refine z_iload_n (pc' := 19) dX4_joinRow_18 rfl rfl rfl ?_
  refine z_iload_n (pc' := 20) dX4_joinRow_19 rfl rfl rfl ?_
  obtain ⟨g5, hF⟩ := z_gde hF
  refine z_iastore (pc' := 21) (ar_4_f7 ht) (z_inbe g5) dX4_joinRow_20 rfl (fun S6 eS6 => ?_)
  replace hF := z_lte hF S6 eS6
  refine z_aload_n (pc' := 22) dX4_joinRow_21 rfl rfl rfl ?_
  refine gf_X4_34 (b := t + 7) (pc' := 25) rfl ht rfl dX4_joinRow_22 rfl ?_
  refine z_iload_n (pc' := 26) dX4_joinRow_25 rfl rfl rfl ?_
  refine z_iload_n (pc' := 27) dX4_joinRow_26 rfl rfl rfl ?_
  obtain ⟨g7, hF⟩ := z_gde hF
  refine z_iastore (pc' := 28) (ar_4_f7 ht) (z_inbe g7) dX4_joinRow_27 rfl (fun S8 eS8 => ?_)
  replace hF := z_lte hF S8 eS8
  refine z_iload_n (pc' := 29) dX4_joinRow_28 rfl rfl rfl ?_
  refine z_iconst (v := (-1)) (pc' := 30) dX4_joinRow_29 (by decide) rfl ?_
  refine z_icmp_eq (tgt := 40) (pc' := 33) dX4_joinRow_30 (by decide) rfl (fun c11 => ?_) (fun c11 => ?_)
  · rw [if_pos c11] at hF
    refine z_wk (ls' := [none, none, none, none]) (z_len1 (z_len1 (z_len1 (z_len1 z_le0)))) ?_
    exact (ok_X4_joinRow_40 hst ht) _ hF
  · rw [if_neg c11] at hF
    refine z_aload_n (pc' := 34) dX4_joinRow_33 rfl rfl rfl ?_
    refine gf_X4_31 (b := t + 6) (pc' := 37) rfl ht rfl dX4_joinRow_34 rfl ?_
    refine z_iload_n (pc' := 38) dX4_joinRow_37 rfl rfl rfl ?_
    refine z_iload_n (pc' := 39) dX4_joinRow_38 rfl rfl rfl ?_
    obtain ⟨g9, hF⟩ := z_gde hF
    refine z_iastore (pc' := 40) (ar_4_f6 ht) (z_inbe g9) dX4_joinRow_39 rfl (fun S10 eS10 => ?_)
    replace hF := z_lte hF S10 eS10
    refine z_wk (ls' := [none, none, none, none]) (z_len1 (z_len1 (z_len1 (z_len1 z_le0)))) ?_
    exact (ok_X4_joinRow_40 hst ht) _ hF
theorem ok_X4_joinRow : z_okV I_X4_joinRow 2 := ⟨⟨z_Gin (List.mem_of_getElem? (i := 533) (by decide +kernel)) rfl, z_Gin (List.mem_of_getElem? (i := 15) (by decide +kernel)) rfl, z_Gin (List.mem_of_getElem? (i := 92) (by decide +kernel)) rfl, z_Gin (List.mem_of_getElem? (i := 534) (by decide +kernel)) rfl⟩, by decide, by decide, by decide +kernel⟩
theorem k_X4_joinRow {l : Launch} {I : z_I} {R : Room} {B : Nat} {t : Nat} {p1 : Int32} {p2 : Int32} {q : z_O × z_S} {pc pc' : Nat} {ls : List (Option Value)} {st : List Value} {S S1 : z_S} {idx F L : Nat} (ht : z_is 4 t) (hF : F_X4_joinRow B t p1 p2 S = some (.inl none, S1)) (hst : l.stackTraces = false) (w : Cond.methodLink I.1.cls idx yX4_joinRow ∈ z_G) (hRF : R.frames = F) (hRL : R.locals = L) (h1 : 1 ≤ F) (h2 : 23 ≤ L) (hs : (st.map fun v => v.category).sum ≤ 8) (d : decode I.2.1 pc = .ok (.invokevirtual idx, 3)) (hp : pc + 3 = pc') (k : z_W l I R B q pc' ls st S1) : z_W l I R B q pc ls (.int p2 :: .int p1 :: .ref t :: st) S := z_callV (Y := I_X4_joinRow) (As := [.int p1, .int p2]) (st := st) (r := none) (S1 := S1) (c_X4_joinRow (q := (.inl none, S1)) hst ht hF) ok_X4_joinRow w (ci := 4) rfl ht.1 ht.2 rfl ⟨by rw [hRF]; exact h1, by rw [hRL]; exact h2⟩ hs d hp rfl k

