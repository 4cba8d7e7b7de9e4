/-! All items of a tree in one row: the leaf of a key, an item put in, taken out, of another size. -/
def m_so (F : List m_It) : Prop := F.Pairwise (fun a b => a.1 < b.1)
def m_ok (B : Nat) (T : m_T) : Prop := m_sk B 0 0 T ∧ (∀ b ∈ tR T 0, tI T b ≠ [] ∧ m_cost (tI T b) ≤ 120) ∧ (∀ x ∈ flat T, m_ig x) ∧ m_so (flat T)
def a_leaf (T : m_T) (k : Nat) : Nat := match tR T 0 with
  | [] => 0
  | l0 :: L => m_lf T k l0 L
def s_ins (x : m_It) : List m_It → List m_It
  | [] => [x]
  | a :: L => if a.1 < x.1 then a :: s_ins x L else x :: a :: L
def s_del (k : Nat) : List m_It → List m_It
  | [] => []
  | a :: L => if a.1 = k then L else a :: s_del k L
def s_set (k b : Nat) : List m_It → List m_It
  | [] => []
  | a :: L => if a.1 = k then (a.1, b, a.2.2) :: L else a :: s_set k b L
theorem si_mem {x y : m_It} : ∀ {L : List m_It}, y ∈ s_ins x L ↔ y = x ∨ y ∈ L
  | [] => by simp [s_ins]
  | a :: L => by
    rw [s_ins]
    split
    · rw [List.mem_cons, si_mem, List.mem_cons]
      constructor
      · rintro (h | h | h)
        · exact Or.inr (Or.inl h)
        · exact Or.inl h
        · exact Or.inr (Or.inr h)
      · rintro (h | h | h)
        · exact Or.inr (Or.inl h)
        · exact Or.inl h
        · exact Or.inr (Or.inr h)
    · rw [List.mem_cons]
theorem si_ne {x : m_It} {L : List m_It} : s_ins x L ≠ [] := fun e => by
  have : x ∈ s_ins x L := si_mem.mpr (Or.inl rfl)
  rw [e] at this; cases this
theorem si_cost {x : m_It} : ∀ {L : List m_It}, m_cost (s_ins x L) = m_cost L + (8 + x.2.1)
  | [] => by simp [s_ins, m_cost]
  | a :: L => by
    rw [s_ins]
    split
    · rw [m_cost_cons, si_cost, m_cost_cons]; omega
    · rw [m_cost_cons, m_cost_cons]; omega
theorem si_len {x : m_It} : ∀ {L : List m_It}, (s_ins x L).length = L.length + 1
  | [] => rfl
  | a :: L => by
    rw [s_ins]
    split
    · rw [List.length_cons, si_len, List.length_cons]
    · rfl
theorem si_so {x : m_It} : ∀ {L : List m_It}, m_so L → (∀ y ∈ L, y.1 ≠ x.1) → m_so (s_ins x L)
  | [], _, _ => by simp [s_ins, m_so]
  | a :: L, h, hn => by
    obtain ⟨h1, h2⟩ := List.pairwise_cons.mp h
    have hna := hn a List.mem_cons_self
    rw [s_ins]
    split
    · rename_i hlt
      refine List.pairwise_cons.mpr ⟨fun y hy => ?_, si_so h2 (fun y hy => hn y (List.mem_cons_of_mem _ hy))⟩
      rcases si_mem.mp hy with e | e
      · rw [e]; exact hlt
      · exact h1 y e
    · refine List.pairwise_cons.mpr ⟨fun y hy => ?_, h⟩
      rcases List.mem_cons.mp hy with e | e
      · rw [e]; omega
      · have := h1 y e; omega
theorem si_bef {x : m_It} : ∀ {L : List m_It}, L.insertIdx (m_bef L x.1) x = s_ins x L
  | [] => by simp [m_bef, s_ins]
  | a :: L => by
    rw [s_ins, m_bef, List.takeWhile_cons]
    by_cases h : a.1 < x.1
    · have hd : decide (a.1 < x.1) = true := decide_eq_true h
      rw [if_pos h, hd, if_pos rfl, List.length_cons, List.insertIdx_succ_cons]
      have := si_bef (x := x) (L := L)
      rw [m_bef] at this
      rw [this]
    · have hd : decide (a.1 < x.1) = false := decide_eq_false h
      rw [if_neg h, hd]; simp
theorem si_mid {x : m_It} {I FC : List m_It} (hC : ∀ y ∈ FC, x.1 < y.1) : ∀ {FA : List m_It}, (∀ y ∈ FA, y.1 < x.1) → s_ins x (FA ++ (I ++ FC)) = FA ++ (s_ins x I ++ FC)
  | a :: FA, hA => by
    rw [List.cons_append, s_ins, if_pos (hA a List.mem_cons_self), si_mid hC (fun y hy => hA y (List.mem_cons_of_mem _ hy))]; rfl
  | [], _ => by
    simp only [List.nil_append]
    induction I with
    | nil =>
      cases FC with
      | nil => rfl
      | cons c FC =>
        have := hC c List.mem_cons_self
        simp only [List.nil_append, s_ins]
        rw [if_neg (by omega)]; rfl
    | cons b I ih =>
      rw [List.cons_append, s_ins, s_ins]
      split
      · rw [ih]; rfl
      · rfl
theorem sd_sub {k : Nat} {y : m_It} : ∀ {L : List m_It}, y ∈ s_del k L → y ∈ L
  | [], h => h
  | a :: L, h => by
    rw [s_del] at h
    split at h
    · exact List.mem_cons_of_mem _ h
    · rcases List.mem_cons.mp h with e | e
      · rw [e]; exact List.mem_cons_self
      · exact List.mem_cons_of_mem _ (sd_sub e)
theorem sd_mem {k : Nat} {y : m_It} : ∀ {L : List m_It}, m_so L → (y ∈ s_del k L ↔ y ∈ L ∧ y.1 ≠ k)
  | [], _ => by simp [s_del]
  | a :: L, h => by
    obtain ⟨h1, h2⟩ := List.pairwise_cons.mp h
    rw [s_del]
    split
    · rename_i e
      constructor
      · intro hy
        have := h1 y hy
        exact ⟨List.mem_cons_of_mem _ hy, by omega⟩
      · rintro ⟨hy, hk⟩
        rcases List.mem_cons.mp hy with w | w
        · rw [w] at hk; exact absurd e hk
        · exact w
    · rename_i e
      rw [List.mem_cons, sd_mem h2, List.mem_cons]
      constructor
      · rintro (w | ⟨w1, w2⟩)
        · exact ⟨Or.inl w, by rw [w]; exact e⟩
        · exact ⟨Or.inr w1, w2⟩
      · rintro ⟨w1 | w1, w2⟩
        · exact Or.inl w1
        · exact Or.inr ⟨w1, w2⟩
theorem sd_so {k : Nat} : ∀ {L : List m_It}, m_so L → m_so (s_del k L)
  | [], h => h
  | a :: L, h => by
    obtain ⟨h1, h2⟩ := List.pairwise_cons.mp h
    rw [s_del]
    split
    · exact h2
    · exact List.pairwise_cons.mpr ⟨fun y hy => h1 y (sd_sub hy), sd_so h2⟩
theorem sd_cost {k : Nat} : ∀ {L : List m_It}, m_cost (s_del k L) ≤ m_cost L
  | [] => Nat.le_refl _
  | a :: L => by
    rw [s_del]
    split
    · rw [m_cost_cons]; omega
    · rw [m_cost_cons, m_cost_cons]; have := sd_cost (k := k) (L := L); omega
theorem sd_bef {k : Nat} : ∀ {L : List m_It}, m_so L → (∃ y ∈ L, y.1 = k) → L.eraseIdx (m_bef L k) = s_del k L
  | [], _, h => by obtain ⟨y, h, -⟩ := h; cases h
  | a :: L, h, hy => by
    obtain ⟨h1, h2⟩ := List.pairwise_cons.mp h
    obtain ⟨y, hm, hk⟩ := hy
    rw [s_del, m_bef, List.takeWhile_cons]
    by_cases hlt : a.1 < k
    · have hd : decide (a.1 < k) = true := decide_eq_true hlt
      rw [if_neg (show ¬ a.1 = k by omega), hd, if_pos rfl, List.length_cons, List.eraseIdx_cons_succ]
      have := sd_bef (k := k) h2 ⟨y, by
        rcases List.mem_cons.mp hm with e | e
        · rw [e] at hk; omega
        · exact e, hk⟩
      rw [m_bef] at this
      rw [this]
    · have hd : decide (a.1 < k) = false := decide_eq_false hlt
      have ha : a.1 = k := by
        rcases List.mem_cons.mp hm with e | e
        · rw [← e]; exact hk
        · have := h1 y e; omega
      rw [if_pos ha, hd]; simp
theorem sd_mid {k : Nat} {I FC : List m_It} (hI : ∃ y ∈ I, y.1 = k) : ∀ {FA : List m_It}, (∀ y ∈ FA, y.1 < k) → s_del k (FA ++ (I ++ FC)) = FA ++ (s_del k I ++ FC)
  | a :: FA, hA => by
    have := hA a List.mem_cons_self
    rw [List.cons_append, s_del, if_neg (by omega), sd_mid hI (fun y hy => hA y (List.mem_cons_of_mem _ hy))]; rfl
  | [], _ => by
    simp only [List.nil_append]
    induction I with
    | nil => obtain ⟨y, h, -⟩ := hI; cases h
    | cons b I ih =>
      rw [List.cons_append, s_del, s_del]
      split
      · rfl
      · rename_i e
        rw [ih (by
          obtain ⟨y, hm, hk⟩ := hI
          rcases List.mem_cons.mp hm with w | w
          · rw [w] at hk; exact absurd hk e
          · exact ⟨y, w, hk⟩)]; rfl
theorem ss_mem {k b : Nat} {y : m_It} : ∀ {L : List m_It}, y ∈ s_set k b L → y ∈ L ∨ (y.1 = k ∧ y.2.1 = b ∧ ∃ z ∈ L, z.1 = k ∧ y.2.2 = z.2.2)
  | [], h => Or.inl h
  | a :: L, h => by
    rw [s_set] at h
    split at h
    · rename_i e
      rcases List.mem_cons.mp h with w | w
      · exact Or.inr ⟨by rw [w]; exact e, by rw [w], a, List.mem_cons_self, e, by rw [w]⟩
      · exact Or.inl (List.mem_cons_of_mem _ w)
    · rcases List.mem_cons.mp h with w | w
      · rw [w]; exact Or.inl List.mem_cons_self
      · rcases ss_mem w with v | ⟨v1, v2, z, v3, v4⟩
        · exact Or.inl (List.mem_cons_of_mem _ v)
        · exact Or.inr ⟨v1, v2, z, List.mem_cons_of_mem _ v3, v4⟩
theorem ss_keys {k b : Nat} : ∀ {L : List m_It}, (s_set k b L).map Prod.fst = L.map Prod.fst
  | [] => rfl
  | a :: L => by
    rw [s_set]
    split
    · rfl
    · rw [List.map_cons, ss_keys, List.map_cons]
theorem so_keys {L : List m_It} : m_so L ↔ (L.map Prod.fst).Pairwise (· < ·) := by rw [List.pairwise_map]; rfl
theorem ss_so {k b : Nat} {L : List m_It} (h : m_so L) : m_so (s_set k b L) := by rw [so_keys, ss_keys, ← so_keys]; exact h
theorem ss_len {k b : Nat} {L : List m_It} : (s_set k b L).length = L.length := by
  have := congrArg List.length (ss_keys (k := k) (b := b) (L := L))
  simpa using this
theorem ss_bef {k b : Nat} : ∀ {L : List m_It} {y : m_It}, L[m_bef L k]? = some y → y.1 = k → L.set (m_bef L k) (y.1, b, y.2.2) = s_set k b L
  | [], y, h, _ => by simp [m_bef] at h
  | a :: L, y, h, hk => by
    rw [s_set]
    rw [m_bef, List.takeWhile_cons] at h ⊢
    by_cases hlt : a.1 < k
    · have hd : decide (a.1 < k) = true := decide_eq_true hlt
      rw [hd, if_pos rfl, List.length_cons] at h ⊢
      rw [List.getElem?_cons_succ] at h
      rw [if_neg (by omega), List.set_cons_succ]
      have := ss_bef (b := b) (L := L) (k := k) (y := y) (by rw [m_bef]; exact h) hk
      rw [m_bef] at this
      rw [this]
    · have hd : decide (a.1 < k) = false := decide_eq_false hlt
      rw [hd] at h ⊢
      simp only [Bool.false_eq_true, if_false, List.length_nil, List.getElem?_cons_zero, Option.some.injEq] at h
      rw [h, if_pos hk]; simp
theorem ss_cost {k b : Nat} : ∀ {L : List m_It} {y : m_It}, L[m_bef L k]? = some y → y.1 = k → m_cost (s_set k b L) + y.2.1 = m_cost L + b
  | [], y, h, _ => by simp [m_bef] at h
  | a :: L, y, h, hk => by
    rw [s_set]
    rw [m_bef, List.takeWhile_cons] at h
    by_cases hlt : a.1 < k
    · have hd : decide (a.1 < k) = true := decide_eq_true hlt
      rw [hd, if_pos rfl, List.length_cons, List.getElem?_cons_succ] at h
      rw [if_neg (by omega), m_cost_cons, m_cost_cons]
      have := ss_cost (b := b) (L := L) (k := k) (y := y) (by rw [m_bef]; exact h) hk
      omega
    · have hd : decide (a.1 < k) = false := decide_eq_false hlt
      rw [hd] at h
      simp only [Bool.false_eq_true, if_false, List.length_nil, List.getElem?_cons_zero, Option.some.injEq] at h
      rw [h, if_pos hk, m_cost_cons, m_cost_cons]
      simp only []
      omega
theorem ss_mid {k b : Nat} {I FC : List m_It} (hI : ∃ y ∈ I, y.1 = k) : ∀ {FA : List m_It}, (∀ y ∈ FA, y.1 < k) → s_set k b (FA ++ (I ++ FC)) = FA ++ (s_set k b I ++ FC)
  | a :: FA, hA => by
    have := hA a List.mem_cons_self
    rw [List.cons_append, s_set, if_neg (by omega), ss_mid hI (fun y hy => hA y (List.mem_cons_of_mem _ hy))]; rfl
  | [], _ => by
    simp only [List.nil_append]
    induction I with
    | nil => obtain ⟨y, h, -⟩ := hI; cases h
    | cons c I ih =>
      rw [List.cons_append, s_set, s_set]
      split
      · rfl
      · rename_i e
        rw [ih (by
          obtain ⟨y, hm, hk⟩ := hI
          rcases List.mem_cons.mp hm with w | w
          · rw [w] at hk; exact absurd hk e
          · exact ⟨y, w, hk⟩)]; rfl
theorem bef_at {k : Nat} : ∀ {L : List m_It}, m_so L → (∃ y ∈ L, y.1 = k) → ∃ y, L[m_bef L k]? = some y ∧ y.1 = k
  | [], _, h => by obtain ⟨y, h, -⟩ := h; cases h
  | a :: L, h, hy => by
    obtain ⟨h1, h2⟩ := List.pairwise_cons.mp h
    obtain ⟨y, hm, hk⟩ := hy
    rw [m_bef, List.takeWhile_cons]
    by_cases hlt : a.1 < k
    · have hd : decide (a.1 < k) = true := decide_eq_true hlt
      obtain ⟨z, hz, hzk⟩ := bef_at (k := k) h2 ⟨y, by
        rcases List.mem_cons.mp hm with e | e
        · rw [e] at hk; omega
        · exact e, hk⟩
      refine ⟨z, ?_, hzk⟩
      rw [hd, if_pos rfl, List.length_cons, List.getElem?_cons_succ]
      exact hz
    · have hd : decide (a.1 < k) = false := decide_eq_false hlt
      have ha : a.1 = k := by
        rcases List.mem_cons.mp hm with e | e
        · rw [← e]; exact hk
        · have := h1 y e; omega
      refine ⟨a, ?_, ha⟩
      rw [hd]; simp
section FL
variable {B : Nat} {T T' : m_T}
theorem leaf_loop {k : Nat} (hn : ∀ b ∈ tR T 0, tI T b ≠ []) (hso : m_so (flat T)) : ∀ (L pre : List Nat) (cur : Nat), tR T 0 = pre ++ cur :: L → (∀ y ∈ pre.flatMap (tI T), y.1 < k) → ∃ A C, tR T 0 = A ++ m_lf T k cur L :: C ∧ (∀ y ∈ A.flatMap (tI T), y.1 < k) ∧ (∀ y ∈ C.flatMap (tI T), k < y.1)
  | [], pre, cur, hR, hp => ⟨pre, [], hR, hp, fun y hy => by cases hy⟩
  | n :: L, pre, cur, hR, hp => by
    have hnm : n ∈ tR T 0 := by rw [hR]; simp
    obtain ⟨y0, r, hy0⟩ : ∃ y0 r, tI T n = y0 :: r := by
      cases h : tI T n with
      | nil => exact absurd h (hn n hnm)
      | cons a r => exact ⟨a, r, rfl⟩
    have hfk : m_fk T n = y0.1 := by rw [m_fk, hy0]; rfl
    have hF : flat T = (pre ++ [cur]).flatMap (tI T) ++ (y0 :: (r ++ L.flatMap (tI T))) := by
      unfold flat
      rw [hR, show pre ++ cur :: n :: L = (pre ++ [cur]) ++ n :: L by simp, List.flatMap_append, List.flatMap_cons, hy0]; rfl
    unfold m_so at hso
    rw [hF] at hso
    obtain ⟨q1, q2, q3⟩ := List.pairwise_append.mp hso
    obtain ⟨q4, q5⟩ := List.pairwise_cons.mp q2
    rw [m_lf]
    by_cases hk : m_fk T n ≤ k
    · rw [if_pos hk]
      refine leaf_loop hn (by unfold m_so; rw [hF]; exact hso) L (pre ++ [cur]) n (by rw [hR]; simp) (fun y hy => ?_)
      have := q3 y hy y0 List.mem_cons_self
      omega
    · rw [if_neg hk]
      refine ⟨pre, n :: L, hR, hp, fun y hy => ?_⟩
      rw [List.flatMap_cons, hy0] at hy
      rcases List.mem_cons.mp hy with e | e
      · rw [e]; omega
      · have := q4 y e; omega
theorem leaf_split {k : Nat} (h : m_ok B T) : ∃ A C, tR T 0 = A ++ a_leaf T k :: C ∧ (∀ y ∈ A.flatMap (tI T), y.1 < k) ∧ (∀ y ∈ C.flatMap (tI T), k < y.1) ∧ a_leaf T k ∉ A ∧ a_leaf T k ∉ C := by
  obtain ⟨hs, hv, hi, hso⟩ := h
  unfold a_leaf
  cases hR : tR T 0 with
  | nil =>
    exfalso
    have hn := hs.1
    have key : ∀ g, g ≤ tH T (tX T) → tR T (tH T (tX T) - g) ≠ [] := by
      intro g
      induction g with
      | zero => intro _ e; have := (sk_root hs).1; rw [Nat.sub_zero] at e; rw [e] at this; cases this
      | succ g ih =>
        intro hg e
        have h1 := hs.2.2.2.2.2.2.1 (tH T (tX T) - (g + 1)) (by omega)
        rw [e, show tH T (tX T) - (g + 1) + 1 = tH T (tX T) - g by omega] at h1
        have h2 := ih (by omega)
        have h3 : 2 * (tR T (tH T (tX T) - g)).length ≤ 0 := by
          have := l_fm_two (K := tK T) (R := tR T (tH T (tX T) - g)) (fun p hp => (hs.2.2.2.2.2.2.2.2.2.1 (tH T (tX T) - (g + 1)) p (by rw [show tH T (tX T) - (g + 1) + 1 = tH T (tX T) - g by omega]; exact hp) (fun e => sk_0 hs (e ▸ hp))).1)
          rw [h1] at this
          simpa [m_era] using this
        exact h2 (List.eq_nil_of_length_eq_zero (by omega))
    have := key (tH T (tX T)) (Nat.le_refl _)
    rw [Nat.sub_self] at this
    exact this hR
  | cons l0 L =>
    obtain ⟨A, C, h1, h2, h3⟩ := leaf_loop (k := k) (fun b hb => (hv b hb).1) hso L [] l0 hR (fun y hy => by cases hy)
    simp only []
    have hd := hs.2.2.2.2.2.1 0
    rw [h1] at hd
    have h4 := List.nodup_append.mp hd
    refine ⟨A, C, by rw [← hR]; exact h1, h2, h3, fun hm => ?_, (List.nodup_cons.mp h4.2.1).1⟩
    exact h4.2.2 _ hm _ List.mem_cons_self rfl
/-- all that is known of the leaf of a key -/
theorem leaf_ok {k : Nat} (h : m_ok B T) : a_leaf T k ∈ tR T 0 ∧ (∀ L, flat (tsI T (a_leaf T k) L) = (flat (tsI T (a_leaf T k) L))) ∧ ∃ FA FC, flat T = FA ++ (tI T (a_leaf T k) ++ FC) ∧ (∀ L, flat (tsI T (a_leaf T k) L) = FA ++ (L ++ FC)) ∧ (∀ y ∈ FA, y.1 < k) ∧ (∀ y ∈ FC, k < y.1) ∧ m_so (tI T (a_leaf T k)) ∧ ((∃ y ∈ flat T, y.1 = k) → ∃ y ∈ tI T (a_leaf T k), y.1 = k) := by
  obtain ⟨A, C, h1, h2, h3, h4, h5⟩ := leaf_split (k := k) h
  have hF : flat T = A.flatMap (tI T) ++ (tI T (a_leaf T k) ++ C.flatMap (tI T)) := by unfold flat; rw [h1, l_fm_at]
  refine ⟨by rw [h1]; simp, fun _ => rfl, A.flatMap (tI T), C.flatMap (tI T), hF, fun L => ?_, h2, h3, ?_, ?_⟩
  · show (tR T 0).flatMap (va_up (tI T) (a_leaf T k) L) = _
    rw [h1, l_fm_up h4 h5]
  · have := h.2.2.2
    unfold m_so at this
    rw [hF] at this
    exact (List.pairwise_append.mp (List.pairwise_append.mp this).2.1).1
  · rintro ⟨y, hy, hk⟩
    rw [hF] at hy
    rcases List.mem_append.mp hy with e | e
    · have := h2 y e; omega
    · rcases List.mem_append.mp e with w | w
      · exact ⟨y, w, hk⟩
      · have := h3 y w; omega
def a_put (B : Nat) (T : m_T) (x : m_It) : Option m_T := a_settle B (tsI T (a_leaf T x.1) (s_ins x (tI T (a_leaf T x.1)))) (a_leaf T x.1)
def a_del (B : Nat) (T : m_T) (k : Nat) : m_T := a_look B (tsI T (a_leaf T k) (s_del k (tI T (a_leaf T k)))) (a_leaf T k)
def a_more (B : Nat) (T : m_T) (k b : Nat) : Option m_T := a_settle B (tsI T (a_leaf T k) (s_set k b (tI T (a_leaf T k)))) (a_leaf T k)
def a_less (B : Nat) (T : m_T) (k b : Nat) : m_T := a_look B (tsI T (a_leaf T k) (s_set k b (tI T (a_leaf T k)))) (a_leaf T k)
/-- what is known of the tree just before it is settled -/
theorem put_pre {x : m_It} (h : m_ok B T) (hx : m_ig x) : m_sk B 0 0 (tsI T (a_leaf T x.1) (s_ins x (tI T (a_leaf T x.1)))) ∧ a_leaf T x.1 ∈ tR T 0 ∧ a_lv (tsI T (a_leaf T x.1) (s_ins x (tI T (a_leaf T x.1)))) (a_leaf T x.1) 168 ∧ flat (tsI T (a_leaf T x.1) (s_ins x (tI T (a_leaf T x.1)))) = s_ins x (flat T) ∧ (tI T (a_leaf T x.1)).length ≤ 13 := by
  obtain ⟨hl, -, FA, FC, hF, hU, hA, hC, hso, -⟩ := leaf_ok (k := x.1) h
  obtain ⟨hs, hv, hi, hs2⟩ := h
  have hf : flat (tsI T (a_leaf T x.1) (s_ins x (tI T (a_leaf T x.1)))) = s_ins x (flat T) := by rw [hU, hF, si_mid hC hA]
  refine ⟨it_sk it_sI hs, hl, ⟨fun b hb => ?_, by rw [hf]; intro y hy; rcases si_mem.mp hy with e | e; rw [e]; exact hx; exact hi y e, ?_⟩, hf, ?_⟩
  · have hb2 : b ∈ tR T 0 := hb
    by_cases e : b = a_leaf T x.1
    · rw [e, tI_eq]; exact ⟨si_ne, fun h => absurd rfl h⟩
    · rw [tI_ne e]; exact ⟨(hv b hb2).1, fun _ => (hv b hb2).2⟩
  · rw [tI_eq, si_cost]
    have := (hv _ hl).2
    have := hx.2.1
    omega
  · have h1 := m_cost_few (fl_ig hi hl)
    have h2 := (hv _ hl).2
    omega
theorem put_ok {x : m_It} (hB : B ≤ 96) (h : m_ok B T) (hx : m_ig x) (hno : ∀ y ∈ flat T, y.1 ≠ x.1) (ha : a_put B T x = some T') : m_ok B T' ∧ flat T' = s_ins x (flat T) ∧ a_uf T T' := by
  obtain ⟨p1, p2, p3, p4, p5⟩ := put_pre h hx
  obtain ⟨k1, k2, k3, k4⟩ := settle_ok hB p1 p2 p3 ha
  refine ⟨⟨k1, k3, by rw [k2]; exact p3.2.1, by rw [k2, p4]; exact si_so h.2.2.2 hno⟩, k2.trans p4, k4⟩
theorem more_pre {k b : Nat} (h : m_ok B T) (hk : ∃ y ∈ flat T, y.1 = k) (hb : 1 ≤ b ∧ b ≤ 40) : m_sk B 0 0 (tsI T (a_leaf T k) (s_set k b (tI T (a_leaf T k)))) ∧ a_leaf T k ∈ tR T 0 ∧ a_lv (tsI T (a_leaf T k) (s_set k b (tI T (a_leaf T k)))) (a_leaf T k) 168 ∧ flat (tsI T (a_leaf T k) (s_set k b (tI T (a_leaf T k)))) = s_set k b (flat T) ∧ (tI T (a_leaf T k)).length ≤ 13 ∧ ∃ y, (tI T (a_leaf T k))[m_bef (tI T (a_leaf T k)) k]? = some y ∧ y.1 = k := by
  obtain ⟨hl, -, FA, FC, hF, hU, hA, hC, hso, hin⟩ := leaf_ok (k := k) h
  obtain ⟨hs, hv, hi, hs2⟩ := h
  have hI := hin hk
  have hf : flat (tsI T (a_leaf T k) (s_set k b (tI T (a_leaf T k)))) = s_set k b (flat T) := by rw [hU, hF, ss_mid hI hA]
  obtain ⟨y, hy, hyk⟩ := bef_at hso hI
  have hym : y ∈ tI T (a_leaf T k) := List.mem_of_getElem? hy
  have hyg := fl_ig hi hl y hym
  refine ⟨it_sk it_sI hs, hl, ⟨fun c hc => ?_, ?_, ?_⟩, hf, ?_, y, hy, hyk⟩
  · have hb2 : c ∈ tR T 0 := hc
    by_cases e : c = a_leaf T k
    · rw [e, tI_eq]
      refine ⟨fun e2 => ?_, fun h => absurd rfl h⟩
      have h1 := ss_len (k := k) (b := b) (L := tI T (a_leaf T k))
      rw [e2] at h1
      exact (hv _ hl).1 (List.eq_nil_of_length_eq_zero h1.symm)
    · rw [tI_ne e]; exact ⟨(hv c hb2).1, fun _ => (hv c hb2).2⟩
  · rw [hf]
    intro z hz
    rcases ss_mem hz with e | ⟨e1, e2, w, hw, e3, e4⟩
    · exact hi z e
    · have := hi w hw
      exact ⟨by omega, by omega, by rw [e1, ← e3]; exact this.2.2.1, by rw [e4]; exact this.2.2.2⟩
  · rw [tI_eq]
    have h1 := ss_cost (b := b) hy hyk
    have := (hv _ hl).2
    omega
  · have h1 := m_cost_few (fl_ig hi hl)
    have h2 := (hv _ hl).2
    omega
theorem more_ok {k b : Nat} (hB : B ≤ 96) (h : m_ok B T) (hk : ∃ y ∈ flat T, y.1 = k) (hb : 1 ≤ b ∧ b ≤ 40) (ha : a_more B T k b = some T') : m_ok B T' ∧ flat T' = s_set k b (flat T) ∧ a_uf T T' := by
  obtain ⟨p1, p2, p3, p4, -⟩ := more_pre h hk hb
  obtain ⟨k1, k2, k3, k4⟩ := settle_ok hB p1 p2 p3 ha
  exact ⟨⟨k1, k3, by rw [k2]; exact p3.2.1, by rw [k2, p4]; exact ss_so h.2.2.2⟩, k2.trans p4, k4⟩
/-- what is known of the tree just before a leaf is looked at -/
theorem less_pre {k b : Nat} (h : m_ok B T) (hk : ∃ y ∈ flat T, y.1 = k) (hb : 1 ≤ b ∧ b ≤ 40) (hle : ∀ y ∈ flat T, y.1 = k → b ≤ y.2.1) : a_lo (tsI T (a_leaf T k) (s_set k b (tI T (a_leaf T k)))) (a_leaf T k) := by
  obtain ⟨p1, p2, ⟨q1, q2, q3⟩, p4, p5, y, hy, hyk⟩ := more_pre h hk hb
  have hym : y ∈ tI T (a_leaf T k) := List.mem_of_getElem? hy
  refine ⟨fun c hc => ⟨fun _ => (q1 c hc).1, ?_⟩, q2, fun e => ?_⟩
  · by_cases e : c = a_leaf T k
    · rw [e, tI_eq]
      have h1 := ss_cost (b := b) hy hyk
      have h2 := (h.2.1 _ p2).2
      have h3 := hle y (l_fm_mem.mpr ⟨_, p2, hym⟩) hyk
      omega
    · exact (q1 c hc).2 e
  · have h1 := congrArg List.length (p4.symm.trans e)
    rw [ss_len] at h1
    obtain ⟨z, hz, -⟩ := hk
    rw [List.eq_nil_of_length_eq_zero h1] at hz
    cases hz
theorem less_ok {k b : Nat} (h : m_ok B T) (hk : ∃ y ∈ flat T, y.1 = k) (hb : 1 ≤ b ∧ b ≤ 40) (hle : ∀ y ∈ flat T, y.1 = k → b ≤ y.2.1) : m_ok B (a_less B T k b) ∧ flat (a_less B T k b) = s_set k b (flat T) ∧ a_ug T (a_less B T k b) := by
  obtain ⟨p1, p2, p3, p4, -⟩ := more_pre h hk hb
  have hlo := less_pre h hk hb hle
  have hlen := sk_len h.1 (h := 0)
  obtain ⟨k1, k2, k3, k4⟩ := look_ok B (a_leaf T k) (tsI T (a_leaf T k) (s_set k b (tI T (a_leaf T k)))) (show (tR T 0).length ≤ B by omega) p1 p2 hlo
  exact ⟨⟨k1, k3, by rw [a_less, k2]; exact p3.2.1, by rw [a_less, k2, p4]; exact ss_so h.2.2.2⟩, k2.trans p4, k4⟩
theorem del_pre {k : Nat} (h : m_ok B T) (hk : ∃ y ∈ flat T, y.1 = k) (h2 : ∃ y ∈ flat T, y.1 ≠ k) : m_sk B 0 0 (tsI T (a_leaf T k) (s_del k (tI T (a_leaf T k)))) ∧ a_leaf T k ∈ tR T 0 ∧ a_lo (tsI T (a_leaf T k) (s_del k (tI T (a_leaf T k)))) (a_leaf T k) ∧ flat (tsI T (a_leaf T k) (s_del k (tI T (a_leaf T k)))) = s_del k (flat T) ∧ (tI T (a_leaf T k)).length ≤ 13 ∧ m_so (tI T (a_leaf T k)) ∧ ∃ y, (tI T (a_leaf T k))[m_bef (tI T (a_leaf T k)) k]? = some y ∧ y.1 = k := by
  obtain ⟨hl, -, FA, FC, hF, hU, hA, hC, hso, hin⟩ := leaf_ok (k := k) h
  obtain ⟨hs, hv, hi, hs2⟩ := h
  have hI := hin hk
  have hf : flat (tsI T (a_leaf T k) (s_del k (tI T (a_leaf T k)))) = s_del k (flat T) := by rw [hU, hF, sd_mid hI hA]
  obtain ⟨y, hy, hyk⟩ := bef_at hso hI
  refine ⟨it_sk it_sI hs, hl, ⟨fun c hc => ?_, by rw [hf]; exact fun z hz => hi z (sd_sub hz), ?_⟩, hf, ?_, hso, y, hy, hyk⟩
  · have hb2 : c ∈ tR T 0 := hc
    by_cases e : c = a_leaf T k
    · rw [e, tI_eq]
      exact ⟨fun h => absurd rfl h, Nat.le_trans sd_cost (hv _ hl).2⟩
    · rw [tI_ne e]; exact ⟨fun _ => (hv c hb2).1, (hv c hb2).2⟩
  · rw [hf]
    intro e
    obtain ⟨z, hz, hzk⟩ := h2
    have : z ∈ s_del k (flat T) := (sd_mem hs2).mpr ⟨hz, hzk⟩
    rw [e] at this; cases this
  · have h1 := m_cost_few (fl_ig hi hl)
    have h2 := (hv _ hl).2
    omega
theorem del_ok {k : Nat} (h : m_ok B T) (hk : ∃ y ∈ flat T, y.1 = k) (h2 : ∃ y ∈ flat T, y.1 ≠ k) : m_ok B (a_del B T k) ∧ flat (a_del B T k) = s_del k (flat T) ∧ a_ug T (a_del B T k) := by
  obtain ⟨p1, p2, p3, p4, -⟩ := del_pre h hk h2
  have hlen := sk_len h.1 (h := 0)
  obtain ⟨k1, k2, k3, k4⟩ := look_ok B (a_leaf T k) (tsI T (a_leaf T k) (s_del k (tI T (a_leaf T k)))) (show (tR T 0).length ≤ B by omega) p1 p2 p3
  exact ⟨⟨k1, k3, by rw [a_del, k2]; exact p3.2.1, by rw [a_del, k2, p4]; exact sd_so h.2.2.2⟩, k2.trans p4, k4⟩
end FL
