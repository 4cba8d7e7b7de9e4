/-! Lists: rows and what hangs below them, a node put in behind another, taken out, what goes over to a neighbour. -/
theorem l_up_s {α : Type} {f : Nat → α} {k : Nat} {v : α} : va_up f k v k = v := by simp [va_up]
theorem l_up_n {α : Type} {f : Nat → α} {k j : Nat} {v : α} (h : j ≠ k) : va_up f k v j = f j := by simp [va_up, h]
theorem l_insA_app {n f : Nat} {C : List Nat} : ∀ {A : List Nat}, n ∉ A → m_insA n f (A ++ n :: C) = A ++ n :: f :: C
  | [], _ => by simp [m_insA]
  | a :: A, h => by
    have h1 : a ≠ n := fun e => h (by rw [e]; exact List.mem_cons_self)
    have h2 : n ∉ A := fun e => h (List.mem_cons_of_mem _ e)
    simp only [List.cons_append, m_insA, if_neg h1, l_insA_app h2]
theorem l_era_app {n : Nat} {C : List Nat} : ∀ {A : List Nat}, n ∉ A → m_era n (A ++ n :: C) = A ++ C
  | [], _ => by simp [m_era]
  | a :: A, h => by
    have h1 : a ≠ n := fun e => h (by rw [e]; exact List.mem_cons_self)
    have h2 : n ∉ A := fun e => h (List.mem_cons_of_mem _ e)
    simp only [List.cons_append, m_era, if_neg h1, l_era_app h2]
theorem l_era_no {n : Nat} : ∀ {L : List Nat}, n ∉ L → m_era n L = L
  | [], _ => rfl
  | a :: A, h => by
    have h1 : a ≠ n := fun e => h (by rw [e]; exact List.mem_cons_self)
    have h2 : n ∉ A := fun e => h (List.mem_cons_of_mem _ e)
    simp only [m_era, if_neg h1, l_era_no h2]
theorem l_split {n : Nat} : ∀ {L : List Nat}, n ∈ L → ∃ A C, L = A ++ n :: C ∧ n ∉ A
  | [], h => by cases h
  | a :: L, h => by
    by_cases e : a = n
    · subst e; exact ⟨[], L, rfl, fun h => by cases h⟩
    · have hn : n ∈ L := by
        rcases List.mem_cons.mp h with h | h
        · exact absurd h.symm e
        · exact h
      obtain ⟨A, C, h1, h2⟩ := l_split hn
      refine ⟨a :: A, C, by rw [h1]; rfl, fun hm => ?_⟩
      rcases List.mem_cons.mp hm with hm | hm
      · exact e hm.symm
      · exact h2 hm
theorem l_split2 {n : Nat} {L : List Nat} (hd : L.Nodup) (h : n ∈ L) : ∃ A C, L = A ++ n :: C ∧ n ∉ A ∧ n ∉ C := by
  obtain ⟨A, C, h1, h2⟩ := l_split h
  refine ⟨A, C, h1, h2, fun hc => ?_⟩
  rw [h1] at hd
  have := (List.nodup_append.mp hd).2.1
  exact (List.nodup_cons.mp this).1 hc
theorem l_insA_len {n f : Nat} {L : List Nat} (h : n ∈ L) : (m_insA n f L).length = L.length + 1 := by
  rw [insA_idx h, List.length_insertIdx_of_le_length (List.idxOf_lt_length_iff.mpr h)]
theorem l_era_len {n : Nat} {L : List Nat} (h : n ∈ L) : (m_era n L).length = L.length - 1 := by
  rw [era_idx h, List.length_eraseIdx_of_lt (List.idxOf_lt_length_iff.mpr h)]
theorem l_era_insA {n f : Nat} : ∀ {L : List Nat}, f ∉ L → m_era f (m_insA n f L) = L
  | [], _ => rfl
  | a :: L, h => by
    have h1 : a ≠ f := fun e => h (by rw [e]; exact List.mem_cons_self)
    have h2 : f ∉ L := fun e => h (List.mem_cons_of_mem _ e)
    simp only [m_insA]
    by_cases e : a = n
    · rw [if_pos e]; simp only [m_era, if_neg h1, if_true]
    · rw [if_neg e]; simp only [m_era, if_neg h1, l_era_insA h2]
theorem l_era_insA_ne {n f d : Nat} (hd : d ≠ f) (hn : d ≠ n) : ∀ {L : List Nat}, m_era d (m_insA n f L) = m_insA n f (m_era d L)
  | [] => rfl
  | a :: L => by
    simp only [m_insA]
    by_cases e : a = n
    · rw [if_pos e]
      have h1 : a ≠ d := fun z => hn (z.symm.trans e)
      simp only [m_era, if_neg h1, if_neg (Ne.symm hd), m_insA, if_pos e]
    · rw [if_neg e]
      by_cases e2 : a = d
      · simp only [m_era, if_pos e2]
      · simp only [m_era, if_neg e2, m_insA, if_neg e, l_era_insA_ne hd hn]
theorem l_fm_no {α : Type} {K : Nat → List α} {p : Nat} {L : List α} : ∀ {R : List Nat}, p ∉ R → R.flatMap (va_up K p L) = R.flatMap K
  | [], _ => rfl
  | a :: R, h => by
    have h1 : a ≠ p := fun e => h (by rw [e]; exact List.mem_cons_self)
    have h2 : p ∉ R := fun e => h (List.mem_cons_of_mem _ e)
    simp only [List.flatMap_cons, l_up_n h1, l_fm_no h2]
theorem l_fm_up {α : Type} {K : Nat → List α} {p : Nat} {L : List α} {A C : List Nat} (hA : p ∉ A) (hC : p ∉ C) : (A ++ p :: C).flatMap (va_up K p L) = A.flatMap K ++ (L ++ C.flatMap K) := by
  rw [List.flatMap_append, List.flatMap_cons, l_fm_no hA, l_fm_no hC, l_up_s]
theorem l_fm_at {α : Type} {K : Nat → List α} {p : Nat} {A C : List Nat} : (A ++ p :: C).flatMap K = A.flatMap K ++ (K p ++ C.flatMap K) := by
  rw [List.flatMap_append, List.flatMap_cons]
theorem l_fm_eq {α : Type} {K K' : Nat → List α} : ∀ {R : List Nat}, (∀ x ∈ R, K' x = K x) → R.flatMap K' = R.flatMap K
  | [], _ => rfl
  | a :: R, h => by
    rw [List.flatMap_cons, List.flatMap_cons, h a List.mem_cons_self, l_fm_eq (fun x hx => h x (List.mem_cons_of_mem _ hx))]
/-- a child put in behind another -/
theorem l_fm_ins {K : Nat → List Nat} {p o f : Nat} {R : List Nat} (hd : R.Nodup) (hp : p ∈ R) (ho : o ∈ K p) (hn : (R.flatMap K).Nodup) : R.flatMap (va_up K p (m_insA o f (K p))) = m_insA o f (R.flatMap K) := by
  obtain ⟨A, C, rfl, hA, hC⟩ := l_split2 hd hp
  obtain ⟨D, E, hk, hD⟩ := l_split ho
  rw [l_fm_up hA hC, l_fm_at, hk, l_insA_app hD]
  have hoA : o ∉ A.flatMap K ++ D := by
    rw [l_fm_at, hk] at hn
    intro hm
    have h2 := List.nodup_append.mp hn
    rcases List.mem_append.mp hm with hm | hm
    · exact h2.2.2 _ hm o (List.mem_append_left _ (List.mem_append_right _ List.mem_cons_self)) rfl
    · exact hD hm
  have e : A.flatMap K ++ (D ++ o :: E ++ C.flatMap K) = (A.flatMap K ++ D) ++ o :: (E ++ C.flatMap K) := by simp
  rw [e, l_insA_app hoA]
  simp
/-- a child taken out -/
theorem l_fm_era {K : Nat → List Nat} {p d : Nat} {R : List Nat} (hd : R.Nodup) (hp : p ∈ R) (ho : d ∈ K p) (hn : (R.flatMap K).Nodup) : R.flatMap (va_up K p (m_era d (K p))) = m_era d (R.flatMap K) := by
  obtain ⟨A, C, rfl, hA, hC⟩ := l_split2 hd hp
  obtain ⟨D, E, hk, hD⟩ := l_split ho
  rw [l_fm_up hA hC, l_fm_at, hk, l_era_app hD]
  have hoA : d ∉ A.flatMap K ++ D := by
    rw [l_fm_at, hk] at hn
    intro hm
    have h2 := List.nodup_append.mp hn
    rcases List.mem_append.mp hm with hm | hm
    · exact h2.2.2 _ hm d (List.mem_append_left _ (List.mem_append_right _ List.mem_cons_self)) rfl
    · exact hD hm
  have e : A.flatMap K ++ (D ++ d :: E ++ C.flatMap K) = (A.flatMap K ++ D) ++ d :: (E ++ C.flatMap K) := by simp
  rw [e, l_era_app hoA]
  simp
/-- a node's half goes over to a new one behind it -/
theorem l_fm_half {α : Type} {K : Nat → List α} {p q : Nat} {L1 L2 : List α} {R : List Nat} (hd : R.Nodup) (hp : p ∈ R) (hq : q ∉ R) (h : L1 ++ L2 = K p) : (m_insA p q R).flatMap (va_up (va_up K p L1) q L2) = R.flatMap K := by
  obtain ⟨A, C, rfl, hA, hC⟩ := l_split2 hd hp
  have hqA : q ∉ A := fun e => hq (List.mem_append_left _ e)
  have hqC : q ∉ C := fun e => hq (List.mem_append_right _ (List.mem_cons_of_mem _ e))
  have hqp : q ≠ p := fun e => hq (by rw [e]; exact List.mem_append_right _ List.mem_cons_self)
  rw [l_insA_app hA, show A ++ p :: q :: C = (A ++ [p]) ++ q :: C by simp, l_fm_up (by simp [hqA, hqp]) hqC, l_fm_up hA (by simp), l_fm_no hC, l_fm_at, ← h]
  simp
/-- an empty node leaves its row -/
theorem l_fm_off {α : Type} {K : Nat → List α} {d : Nat} {R : List Nat} (h : K d = []) : (m_era d R).flatMap K = R.flatMap K := by
  by_cases hd : d ∈ R
  · obtain ⟨A, C, rfl, hA⟩ := l_split hd
    rw [l_era_app hA, l_fm_at, h, List.flatMap_append]
    simp
  · rw [l_era_no hd]
/-- what goes over between neighbours -/
theorem l_nx_split {R : List Nat} {l r : Nat} (hd : R.Nodup) (h : m_nx R l = some r) : ∃ A C, R = A ++ l :: r :: C ∧ l ∉ A ∧ r ∉ A ∧ l ∉ C ∧ r ∉ C ∧ l ≠ r := by
  obtain ⟨A, C, rfl, hA, hC⟩ := l_split2 hd (nx_src h)
  rw [nx_app hd] at h
  cases C with
  | nil => cases h
  | cons c C =>
    have e : c = r := by simpa using h
    subst e
    have h1 := List.nodup_append.mp hd
    have h2 := List.nodup_cons.mp h1.2.1
    have h3 := List.nodup_cons.mp h2.2
    refine ⟨A, C, rfl, hA, fun hm => ?_, fun hm => hC (List.mem_cons_of_mem _ hm), h3.1, fun e => hC (by rw [e]; exact List.mem_cons_self)⟩
    exact h1.2.2 _ hm c (List.mem_cons_of_mem _ List.mem_cons_self) rfl
theorem l_fm_adj {α : Type} {K : Nat → List α} {l r : Nat} {L1 L2 : List α} {R : List Nat} (hd : R.Nodup) (hx : m_nx R l = some r) (h : L1 ++ L2 = K l ++ K r) : R.flatMap (va_up (va_up K l L1) r L2) = R.flatMap K := by
  obtain ⟨A, C, rfl, hA, hrA, hC, hrC, hlr⟩ := l_nx_split hd hx
  rw [show A ++ l :: r :: C = (A ++ [l]) ++ r :: C by simp, l_fm_up (by simp [hrA, Ne.symm hlr]) hrC, l_fm_up hA (by simp), l_fm_no hC, l_fm_at, List.flatMap_append]
  have e : A.flatMap K ++ (L1 ++ (L2 ++ C.flatMap K)) = A.flatMap K ++ ((L1 ++ L2) ++ C.flatMap K) := by simp
  simp only [List.flatMap_nil, List.append_nil, List.flatMap_cons]
  rw [show A.flatMap K ++ L1 ++ (L2 ++ C.flatMap K) = A.flatMap K ++ ((L1 ++ L2) ++ C.flatMap K) by simp, h]
  simp
theorem l_up_comm {α : Type} {f : Nat → α} {k j : Nat} {v w : α} (h : k ≠ j) : va_up (va_up f k v) j w = va_up (va_up f j w) k v := by
  funext i
  simp only [va_up]
  by_cases h1 : i = j
  · rw [if_pos h1, if_neg (fun e => h (e.symm.trans h1)), if_pos h1]
  · rw [if_neg h1, if_neg h1]
/-- few numbers below a bound -/
theorem l_few {n : Nat} : ∀ {L : List Nat}, L.Nodup → (∀ x ∈ L, x < n) → L.length ≤ n := by
  induction n with
  | zero =>
    intro L _ h
    cases L with
    | nil => simp
    | cons a L => exact absurd (h a List.mem_cons_self) (by omega)
  | succ n ih =>
    intro L hd h
    by_cases hm : n ∈ L
    · have h1 := ih (L := m_era n L) (era_nodup hd).1 (fun x hx => by
        have h2 := h x (era_sub hx)
        have h3 : x ≠ n := fun e => (era_nodup (n := n) hd).2 (e ▸ hx)
        omega)
      rw [l_era_len hm] at h1
      omega
    · have h1 := ih hd (fun x hx => by
        have h2 := h x hx
        have h3 : x ≠ n := fun e => hm (by rw [← e]; exact hx)
        omega)
      omega
/-- at least two a node -/
theorem l_fm_two {α : Type} {K : Nat → List α} : ∀ {R : List Nat}, (∀ p ∈ R, 2 ≤ (K p).length) → 2 * R.length ≤ (R.flatMap K).length
  | [], _ => by simp
  | a :: R, h => by
    have h1 := h a List.mem_cons_self
    have h2 := l_fm_two (fun p hp => h p (List.mem_cons_of_mem _ hp))
    rw [List.flatMap_cons, List.length_append, List.length_cons]
    omega
theorem l_fm_mem {α : Type} {K : Nat → List α} {R : List Nat} {c : α} : c ∈ R.flatMap K ↔ ∃ p ∈ R, c ∈ K p := by simp [List.mem_flatMap]
theorem l_dup {K : Nat → List Nat} {p q c : Nat} {R : List Nat} (hn : (R.flatMap K).Nodup) (hp : p ∈ R) (hq : q ∈ R) (h1 : c ∈ K p) (h2 : c ∈ K q) : p = q := by
  induction R with
  | nil => cases hp
  | cons a R ih =>
    rw [List.flatMap_cons] at hn
    have h3 := List.nodup_append.mp hn
    rcases List.mem_cons.mp hp with ep | mp
    · rcases List.mem_cons.mp hq with eq | mq
      · rw [ep, eq]
      · rw [ep] at h1
        exact absurd rfl (h3.2.2 c h1 c (l_fm_mem.mpr ⟨q, mq, h2⟩))
    · rcases List.mem_cons.mp hq with eq | mq
      · rw [eq] at h2
        exact absurd rfl (h3.2.2 c h2 c (l_fm_mem.mpr ⟨p, mp, h1⟩))
      · exact ih h3.2.1 mp mq
