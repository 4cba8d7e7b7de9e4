/-! Items of leaves: what goes over to the neighbours, a leaf with too much, a leaf looked at. -/
/-- an item as it may be -/
def m_ig (x : m_It) : Prop := 1 ≤ x.2.1 ∧ x.2.1 ≤ 40 ∧ x.1 < 244000 ∧ ∀ o, x.2.2 = some o → o < 61
def flat (T : m_T) : List m_It := (tR T 0).flatMap (tI T)
theorem m_cost_app {A C : List m_It} : m_cost (A ++ C) = m_cost A + m_cost C := by simp [m_cost]
theorem m_cost_cons {x : m_It} {C : List m_It} : m_cost (x :: C) = (8 + x.2.1) + m_cost C := by simp [m_cost]
theorem m_cost_nil : m_cost [] = 0 := rfl
theorem m_cost_few {L : List m_It} (h : ∀ x ∈ L, m_ig x) : 9 * L.length ≤ m_cost L := by
  induction L with
  | nil => simp [m_cost]
  | cons a L ih =>
    have h1 := ih (fun x hx => h x (List.mem_cons_of_mem _ hx))
    have h2 := (h a List.mem_cons_self).1
    rw [m_cost_cons, List.length_cons]
    omega
/-- to the left: first items of L go behind A -/
def a_gl : List m_It → List m_It → List m_It × List m_It
  | A, [] => (A, [])
  | A, x :: L => if 120 < m_cost (x :: L) ∧ m_cost A + (8 + x.2.1) ≤ 120 then a_gl (A ++ [x]) L else (A, x :: L)
/-- to the right: last items of L go before C -/
def a_gr : Nat → List m_It → List m_It → List m_It × List m_It
  | 0, L, C => (L, C)
  | n + 1, L, C => match L.getLast? with
    | none => (L, C)
    | some x => if 120 < m_cost L ∧ m_cost C + (8 + x.2.1) ≤ 120 then a_gr n L.dropLast (x :: C) else (L, C)
theorem gl_app : ∀ {L A : List m_It}, (a_gl A L).1 ++ (a_gl A L).2 = A ++ L
  | [], A => by simp [a_gl]
  | x :: L, A => by
    rw [a_gl]
    by_cases h : 120 < m_cost (x :: L) ∧ m_cost A + (8 + x.2.1) ≤ 120
    · rw [if_pos h, gl_app]; simp
    · rw [if_neg h]
theorem gl_c1 : ∀ {L A : List m_It}, m_cost A ≤ 120 → m_cost (a_gl A L).1 ≤ 120
  | [], A, h => by simpa [a_gl] using h
  | x :: L, A, h => by
    rw [a_gl]
    by_cases h1 : 120 < m_cost (x :: L) ∧ m_cost A + (8 + x.2.1) ≤ 120
    · rw [if_pos h1]
      refine gl_c1 ?_
      rw [m_cost_app, m_cost_cons, m_cost_nil]; omega
    · rw [if_neg h1]; exact h
theorem gl_ne1 : ∀ {L A : List m_It}, A ≠ [] → (a_gl A L).1 ≠ []
  | [], A, h => by simpa [a_gl] using h
  | x :: L, A, h => by
    rw [a_gl]
    by_cases h1 : 120 < m_cost (x :: L) ∧ m_cost A + (8 + x.2.1) ≤ 120
    · rw [if_pos h1]; exact gl_ne1 (by simp)
    · rw [if_neg h1]; exact h
theorem gl_ne2 : ∀ {L A : List m_It}, L ≠ [] → (∀ x ∈ L, m_ig x) → (a_gl A L).2 ≠ []
  | [], A, h, _ => absurd rfl h
  | x :: L, A, h, hi => by
    rw [a_gl]
    by_cases h1 : 120 < m_cost (x :: L) ∧ m_cost A + (8 + x.2.1) ≤ 120
    · rw [if_pos h1]
      refine gl_ne2 (fun e => ?_) (fun y hy => hi y (List.mem_cons_of_mem _ hy))
      have h2 := h1.1
      have h3 := (hi x List.mem_cons_self).2.1
      rw [e, m_cost_cons, m_cost_nil] at h2
      omega
    · rw [if_neg h1]; simp
theorem gl_c2 {L A : List m_It} (h : A ++ L = A ++ L) : m_cost (a_gl A L).1 + m_cost (a_gl A L).2 = m_cost A + m_cost L := by
  rw [← m_cost_app, gl_app, m_cost_app]
theorem gl_le : ∀ {L A : List m_It}, m_cost (a_gl A L).2 ≤ m_cost L
  | [], A => by simp [a_gl]
  | x :: L, A => by
    rw [a_gl]
    by_cases h1 : 120 < m_cost (x :: L) ∧ m_cost A + (8 + x.2.1) ≤ 120
    · rw [if_pos h1]
      have := gl_le (L := L) (A := A ++ [x])
      rw [m_cost_cons]; omega
    · rw [if_neg h1]; exact Nat.le_refl _
theorem l_gl {α : Type} {L : List α} {x : α} (h : L.getLast? = some x) : L.dropLast ++ [x] = L := by
  have hne : L ≠ [] := fun e => by rw [e] at h; cases h
  obtain ⟨D, e, hD⟩ := l_last hne
  rw [hD] at h ⊢
  have : e = x := by simpa using h
  rw [this]; simp
theorem gr_app : ∀ {n : Nat} {L C : List m_It}, (a_gr n L C).1 ++ (a_gr n L C).2 = L ++ C
  | 0, L, C => rfl
  | n + 1, L, C => by
    rw [a_gr]
    cases hg : L.getLast? with
    | none => rfl
    | some x =>
      simp only []
      by_cases h : 120 < m_cost L ∧ m_cost C + (8 + x.2.1) ≤ 120
      · rw [if_pos h, gr_app]
        have := l_gl hg
        rw [show L.dropLast ++ x :: C = (L.dropLast ++ [x]) ++ C by simp, this]
      · rw [if_neg h]
theorem gr_c2 : ∀ {n : Nat} {L C : List m_It}, m_cost C ≤ 120 → m_cost (a_gr n L C).2 ≤ 120
  | 0, L, C, h => h
  | n + 1, L, C, h => by
    rw [a_gr]
    cases hg : L.getLast? with
    | none => exact h
    | some x =>
      simp only []
      by_cases h1 : 120 < m_cost L ∧ m_cost C + (8 + x.2.1) ≤ 120
      · rw [if_pos h1]; refine gr_c2 ?_; rw [m_cost_cons]; omega
      · rw [if_neg h1]; exact h
theorem gr_ne2 : ∀ {n : Nat} {L C : List m_It}, C ≠ [] → (a_gr n L C).2 ≠ []
  | 0, L, C, h => h
  | n + 1, L, C, h => by
    rw [a_gr]
    cases hg : L.getLast? with
    | none => exact h
    | some x =>
      simp only []
      by_cases h1 : 120 < m_cost L ∧ m_cost C + (8 + x.2.1) ≤ 120
      · rw [if_pos h1]; exact gr_ne2 (by simp)
      · rw [if_neg h1]; exact h
theorem gr_ne1 : ∀ {n : Nat} {L C : List m_It}, L ≠ [] → (∀ x ∈ L, m_ig x) → (a_gr n L C).1 ≠ []
  | 0, L, C, h, _ => h
  | n + 1, L, C, h, hi => by
    rw [a_gr]
    cases hg : L.getLast? with
    | none => exact h
    | some x =>
      simp only []
      by_cases h1 : 120 < m_cost L ∧ m_cost C + (8 + x.2.1) ≤ 120
      · rw [if_pos h1]
        have hL := l_gl hg
        refine gr_ne1 (fun e => ?_) (fun y hy => hi y (by rw [← hL]; exact List.mem_append_left _ hy))
        have h2 := h1.1
        have h3 := (hi x (by rw [← hL]; simp)).2.1
        rw [← hL, e, m_cost_app, m_cost_cons, m_cost_nil] at h2
        omega
      · rw [if_neg h1]; exact h
theorem gr_le : ∀ {n : Nat} {L C : List m_It}, m_cost (a_gr n L C).1 ≤ m_cost L
  | 0, L, C => Nat.le_refl _
  | n + 1, L, C => by
    rw [a_gr]
    cases hg : L.getLast? with
    | none => exact Nat.le_refl _
    | some x =>
      simp only []
      by_cases h1 : 120 < m_cost L ∧ m_cost C + (8 + x.2.1) ≤ 120
      · rw [if_pos h1]
        have := gr_le (n := n) (L := L.dropLast) (C := x :: C)
        have hL := congrArg m_cost (l_gl hg)
        rw [m_cost_app] at hL
        omega
      · rw [if_neg h1]; exact Nat.le_refl _
/-- into a new leaf all that is too much fits -/
theorem gr_end : ∀ {n : Nat} {L C : List m_It}, L.length ≤ n → (∀ x ∈ L, m_ig x) → m_cost L + m_cost C ≤ 168 → m_cost (a_gr n L C).1 ≤ 120
  | 0, L, C, hn, _, _ => by
    have : L = [] := List.eq_nil_of_length_eq_zero (by omega)
    rw [this]; simp [a_gr, m_cost]
  | n + 1, L, C, hn, hi, hc => by
    rw [a_gr]
    cases hg : L.getLast? with
    | none =>
      have : L = [] := by simpa using hg
      rw [this]; simp [m_cost]
    | some x =>
      simp only []
      have hL := l_gl hg
      have hx := hi x (by rw [← hL]; simp)
      by_cases h1 : 120 < m_cost L ∧ m_cost C + (8 + x.2.1) ≤ 120
      · rw [if_pos h1]
        refine gr_end (by rw [List.length_dropLast]; omega) (fun y hy => hi y (by rw [← hL]; exact List.mem_append_left _ hy)) ?_
        have h2 := congrArg m_cost hL
        rw [m_cost_app, m_cost_cons, m_cost_nil] at h2
        rw [m_cost_cons]; omega
      · rw [if_neg h1]
        have h2 := hx.2.1
        simp only []
        omega
def a_left (T : m_T) (l : Nat) : Option Nat → m_T
  | none => T
  | some a => tsI (tsI T a (a_gl (tI T a) (tI T l)).1) l (a_gl (tI T a) (tI T l)).2
def a_right (T : m_T) (l : Nat) : Option Nat → m_T
  | none => T
  | some c => tsI (tsI T c (a_gr (tI T l).length (tI T l) (tI T c)).2) l (a_gr (tI T l).length (tI T l) (tI T c)).1
def a_cut (T : m_T) (l f : Nat) : m_T := tsI (tsI (m_take T f 2) f (a_gr (tI T l).length (tI T l) []).2) l (a_gr (tI T l).length (tI T l) []).1
def a_line (T : m_T) (l f : Nat) : m_T := tsR T 0 (m_insA l f (tR T 0))
def a_settle2 (B : Nat) (T : m_T) (l : Nat) : Option m_T := if m_cost (tI T l) ≤ 120 then some T else match m_free T B with
  | none => none
  | some f => a_add B 8 (a_line (a_cut T l f) l f) l f
def a_settle (B : Nat) (T : m_T) (l : Nat) : Option m_T :=
  a_settle2 B (a_right (a_left T l (m_pv (tR T 0) l)) l (m_nx (tR T 0) l)) l
/-- only items change -/
def a_it (T T' : m_T) : Prop := tU T' = tU T ∧ tH T' = tH T ∧ tK T' = tK T ∧ tP T' = tP T ∧ tR T' = tR T ∧ tX T' = tX T
theorem it_rf {T : m_T} : a_it T T := ⟨rfl, rfl, rfl, rfl, rfl, rfl⟩
theorem it_tr {T T1 T2 : m_T} (h1 : a_it T T1) (h2 : a_it T1 T2) : a_it T T2 := ⟨h2.1.trans h1.1, h2.2.1.trans h1.2.1, h2.2.2.1.trans h1.2.2.1, h2.2.2.2.1.trans h1.2.2.2.1, h2.2.2.2.2.1.trans h1.2.2.2.2.1, h2.2.2.2.2.2.trans h1.2.2.2.2.2⟩
theorem it_sI {T : m_T} {b : Nat} {L : List m_It} : a_it T (tsI T b L) := ⟨rfl, rfl, rfl, rfl, rfl, rfl⟩
theorem it_sk {B x y : Nat} {T T' : m_T} (h : a_it T T') (hs : m_sk B x y T) : m_sk B x y T' := by
  obtain ⟨e1, e2, e3, e4, e5, e6⟩ := h
  unfold m_sk
  rw [e1, e2, e3, e4, e5, e6]
  exact hs
/-- leaves of a tree that is sound but for the leaf l -/
def a_lv (T : m_T) (l m : Nat) : Prop := (∀ b ∈ tR T 0, tI T b ≠ [] ∧ (b ≠ l → m_cost (tI T b) ≤ 120)) ∧ (∀ x ∈ flat T, m_ig x) ∧ m_cost (tI T l) ≤ m
theorem fl_ig {T : m_T} {b : Nat} (hi : ∀ x ∈ flat T, m_ig x) (hb : b ∈ tR T 0) : ∀ x ∈ tI T b, m_ig x := fun x hx => hi x (l_fm_mem.mpr ⟨b, hb, hx⟩)
section IT
variable {B : Nat} {T T' : m_T}
theorem left_ok {l : Nat} {m : Nat} (hs : m_sk B 0 0 T) (hl : l ∈ tR T 0) (hv : a_lv T l m) : a_it T (a_left T l (m_pv (tR T 0) l)) ∧ flat (a_left T l (m_pv (tR T 0) l)) = flat T ∧ a_lv (a_left T l (m_pv (tR T 0) l)) l m ∧ (tI (a_left T l (m_pv (tR T 0) l)) l).length ≤ (tI T l).length := by
  cases ha : m_pv (tR T 0) l with
  | none => exact ⟨it_rf, rfl, hv, Nat.le_refl _⟩
  | some a =>
    have hx : m_nx (tR T 0) a = some l := (nx_pv (hs.2.2.2.2.2.1 _)).mpr ha
    have ham : a ∈ tR T 0 := nx_src hx
    have hal : a ≠ l := fun e => nx_ne (hs.2.2.2.2.2.1 0) (e ▸ hx : m_nx (tR T 0) a = some a)
    have hit : a_it T (a_left T l (some a)) := it_tr it_sI it_sI
    have eI : tI (a_left T l (some a)) = va_up (va_up (tI T) a (a_gl (tI T a) (tI T l)).1) l (a_gl (tI T a) (tI T l)).2 := rfl
    have hf : flat (a_left T l (some a)) = flat T := by
      show (tR T 0).flatMap (tI (a_left T l (some a))) = _
      rw [eI, l_fm_adj (hs.2.2.2.2.2.1 0) hx gl_app]; rfl
    obtain ⟨v1, v2, v3⟩ := hv
    refine ⟨hit, hf, ⟨fun b hb => ?_, by rw [hf]; exact v2, ?_⟩, ?_⟩
    · have hb2 : b ∈ tR T 0 := hb
      rw [eI]
      by_cases e1 : b = l
      · subst e1
        rw [l_up_s]
        exact ⟨gl_ne2 (v1 b hb2).1 (fl_ig v2 hb2), fun h => absurd rfl h⟩
      · rw [l_up_n e1]
        by_cases e2 : b = a
        · subst e2
          rw [l_up_s]
          exact ⟨gl_ne1 (v1 b hb2).1, fun _ => gl_c1 ((v1 b hb2).2 hal)⟩
        · rw [l_up_n e2]; exact v1 b hb2
    · rw [eI, l_up_s]
      exact Nat.le_trans gl_le v3
    · rw [eI, l_up_s]
      have h1 := congrArg List.length (gl_app (A := tI T a) (L := tI T l))
      have h2 : (tI T a).length ≤ (a_gl (tI T a) (tI T l)).1.length := by
        have aux : ∀ (L A : List m_It), A.length ≤ (a_gl A L).1.length := by
          intro L
          induction L with
          | nil => intro A; simp [a_gl]
          | cons x L ih =>
            intro A
            rw [a_gl]
            split
            · have := ih (A ++ [x])
              rw [List.length_append] at this
              omega
            · exact Nat.le_refl _
        exact aux _ _
      rw [List.length_append, List.length_append] at h1
      omega
theorem gr_len : ∀ {n : Nat} {L C : List m_It}, (a_gr n L C).1.length ≤ L.length
  | 0, L, C => Nat.le_refl _
  | n + 1, L, C => by
    rw [a_gr]
    cases hg : L.getLast? with
    | none => exact Nat.le_refl _
    | some x =>
      simp only []
      by_cases h1 : 120 < m_cost L ∧ m_cost C + (8 + x.2.1) ≤ 120
      · rw [if_pos h1]
        have := gr_len (n := n) (L := L.dropLast) (C := x :: C)
        rw [List.length_dropLast] at this
        omega
      · rw [if_neg h1]; exact Nat.le_refl _
theorem right_ok {l : Nat} {m : Nat} (hs : m_sk B 0 0 T) (hl : l ∈ tR T 0) (hv : a_lv T l m) : a_it T (a_right T l (m_nx (tR T 0) l)) ∧ flat (a_right T l (m_nx (tR T 0) l)) = flat T ∧ a_lv (a_right T l (m_nx (tR T 0) l)) l m ∧ (tI (a_right T l (m_nx (tR T 0) l)) l).length ≤ (tI T l).length := by
  cases ha : m_nx (tR T 0) l with
  | none => exact ⟨it_rf, rfl, hv, Nat.le_refl _⟩
  | some c =>
    have hcm : c ∈ tR T 0 := List.mem_of_mem_tail (nx_mem ha)
    have hcl : c ≠ l := fun e => nx_ne (hs.2.2.2.2.2.1 0) (e ▸ ha : m_nx (tR T 0) c = some c)
    have hit : a_it T (a_right T l (some c)) := it_tr it_sI it_sI
    have eI : tI (a_right T l (some c)) = va_up (va_up (tI T) c (a_gr (tI T l).length (tI T l) (tI T c)).2) l (a_gr (tI T l).length (tI T l) (tI T c)).1 := rfl
    have hf : flat (a_right T l (some c)) = flat T := by
      show (tR T 0).flatMap (tI (a_right T l (some c))) = _
      rw [eI, l_up_comm hcl, l_fm_adj (hs.2.2.2.2.2.1 0) ha gr_app]; rfl
    obtain ⟨v1, v2, v3⟩ := hv
    refine ⟨hit, hf, ⟨fun b hb => ?_, by rw [hf]; exact v2, ?_⟩, ?_⟩
    · have hb2 : b ∈ tR T 0 := hb
      rw [eI]
      by_cases e1 : b = l
      · subst e1
        rw [l_up_s]
        exact ⟨gr_ne1 (v1 b hb2).1 (fl_ig v2 hb2), fun h => absurd rfl h⟩
      · rw [l_up_n e1]
        by_cases e2 : b = c
        · subst e2
          rw [l_up_s]
          exact ⟨gr_ne2 (v1 b hb2).1, fun _ => gr_c2 ((v1 b hb2).2 hcl)⟩
        · rw [l_up_n e2]; exact v1 b hb2
    · rw [eI, l_up_s]
      exact Nat.le_trans gr_le v3
    · rw [eI, l_up_s]
      exact gr_len
/-- what putting items in leaves as it was, seen from outside -/
def a_uf (T T' : m_T) : Prop := (∀ b, tU T b ≠ 0 → tU T' b = tU T b) ∧ ∀ b, tU T b = 0 → tU T' b = 0 ∨ tU T' b = 2 ∨ tU T' b = 3
/-- a new leaf, before its row is told to the rows above -/
theorem sk_leaf {l f : Nat} {L1 L2 : List m_It} (hs : m_sk B 0 0 T) (hl : l ∈ tR T 0) (hf : 1 ≤ f ∧ f < B ∧ tU T f = 0) : m_sk B f 0 (a_line (tsI (tsI (m_take T f 2) f L2) l L1) l f) ∧ m_nx (tR (a_line (tsI (tsI (m_take T f 2) f L2) l L1) l f) 0) l = some f ∧ tR (a_line (tsI (tsI (m_take T f 2) f L2) l L1) l f) 0 = m_insA l f (tR T 0) := by
  have hfn : ∀ g, f ∉ tR T g := fun g => sk_fr hs hf.2.2
  have z0 : ∀ g, m_era 0 (tR T g) = tR T g := fun g => l_era_no (sk_0 hs)
  have hs' := hs
  obtain ⟨a1, a2, a3, a4, a5, a6, a7, a8, a9, a10, a11, a12⟩ := hs
  generalize hT' : a_line (tsI (tsI (m_take T f 2) f L2) l L1) l f = T'
  have eX : tX T' = tX T := by rw [← hT']; rfl
  have eH : tH T' = va_up (tH T) f 0 := by rw [← hT']; rfl
  have eR : tR T' = va_up (tR T) 0 (m_insA l f (tR T 0)) := by rw [← hT']; rfl
  have eK : tK T' = va_up (tK T) f [] := by rw [← hT']; rfl
  have eP : tP T' = va_up (tP T) f none := by rw [← hT']; rfl
  have eU : tU T' = va_up (tU T) f 2 := by rw [← hT']; rfl
  clear hT'
  have eHn : ∀ b, b ≠ f → tH T' b = tH T b := fun b hb => by rw [eH, l_up_n hb]
  have eHf : tH T' f = 0 := by rw [eH, l_up_s]
  have hXf : tX T ≠ f := fun e => hfn _ (e ▸ (sk_root hs').1)
  have eHX : tH T' (tX T') = tH T (tX T) := by rw [eX, eHn _ hXf]
  have eR0 : tR T' 0 = m_insA l f (tR T 0) := by rw [eR, l_up_s]
  have eRn : ∀ g, g ≠ 0 → tR T' g = tR T g := fun g hg => by rw [eR, l_up_n hg]
  refine ⟨⟨by rw [eHX]; exact a1, ?_, ?_, ?_, ?_, ?_, ?_, ?_, ?_, ?_, ?_, ?_⟩, by rw [eR0, nx_insA (a6 0) hl (hfn 0), if_pos rfl], eR0⟩
  · rw [eHX]; intro g hg
    rw [eRn g (by omega)]; exact a2 g hg
  · rw [eHX, eX]
    by_cases e : tH T (tX T) = 0
    · rw [e, eR0, l_era_insA (hfn _), ← e, ← a3, z0]
    · rw [eRn _ e, l_era_no (hfn _), ← a3, z0]
  · intro g b hb
    by_cases e : b = f
    · subst e
      have eg : g = 0 := by
        by_cases eg : g = 0
        · exact eg
        · rw [eRn g eg] at hb; exact absurd hb (hfn g)
      subst eg
      exact ⟨hf.1, hf.2.1, eHf, by rw [eU, l_up_s, if_pos rfl]⟩
    · have hb2 : b ∈ tR T g := by
        by_cases eg : g = 0
        · subst eg
          rw [eR0] at hb
          rcases (insA_mem hl).mp hb with z | z
          · exact absurd z e
          · exact z
        · rw [eRn g eg] at hb; exact hb
      obtain ⟨w1, w2, w3, w4⟩ := a4 g b hb2
      exact ⟨w1, w2, by rw [eHn b e]; exact w3, by rw [eU, l_up_n e]; exact w4⟩
  · intro b hb hu
    by_cases e : b = f
    · subst e; rw [eHf, eR0]; exact (insA_mem hl).mpr (Or.inl rfl)
    · rw [eU, l_up_n e] at hu
      have := a5 b hb hu
      rw [eHn b e]
      by_cases eg : tH T b = 0
      · rw [eg] at this ⊢
        rw [eR0]; exact (insA_mem hl).mpr (Or.inr this)
      · rw [eRn _ eg]; exact this
  · intro g
    by_cases eg : g = 0
    · subst eg; rw [eR0]; exact insA_nodup (a6 _) hl (hfn _)
    · rw [eRn g eg]; exact a6 g
  · rw [eHX]
    intro g hg
    rw [eRn (g + 1) (by omega), eK, l_fm_no (hfn _), a7 g hg, z0]
    by_cases e2 : g = 0
    · subst e2; rw [eR0, l_era_insA (hfn _)]
    · rw [eRn g e2, l_era_no (hfn _)]
  · intro g u hu c hc
    rw [eRn _ (by omega)] at hu
    rw [eK, l_up_n (fun e => hfn _ (e ▸ hu))] at hc
    rw [eP, l_up_n (fun e => hfn _ (e ▸ (sk_kid hs' hu hc).2.1))]
    exact a8 g u hu c hc
  · rw [eX, eP, l_up_n hXf]; exact a9
  · intro g u hu h0
    rw [eRn _ (by omega)] at hu
    rw [eK, l_up_n (fun e => hfn _ (e ▸ hu))]
    exact a10 g u hu h0
  · rw [eU, l_up_n (by omega)]; exact a11
  · intro b hb
    rw [eU]
    by_cases e : b = f
    · rw [e, l_up_s]; omega
    · rw [l_up_n e]; exact a12 b hb
theorem settle2_ok {l : Nat} (hB : B ≤ 96) (hs : m_sk B 0 0 T) (hl : l ∈ tR T 0) (hv : a_lv T l 168) (ha : a_settle2 B T l = some T') : m_sk B 0 0 T' ∧ flat T' = flat T ∧ (∀ b ∈ tR T' 0, tI T' b ≠ [] ∧ m_cost (tI T' b) ≤ 120) ∧ a_uf T T' := by
  obtain ⟨v1, v2, v3⟩ := hv
  unfold a_settle2 at ha
  by_cases hc : m_cost (tI T l) ≤ 120
  · rw [if_pos hc] at ha
    have e := Option.some.inj ha
    subst e
    refine ⟨hs, rfl, fun b hb => ⟨(v1 b hb).1, ?_⟩, fun _ _ => rfl, fun _ h => Or.inl h⟩
    by_cases e : b = l
    · rw [e]; exact hc
    · exact (v1 b hb).2 e
  · rw [if_neg hc] at ha
    cases hf : m_free T B with
    | none => rw [hf] at ha; cases ha
    | some f =>
      rw [hf] at ha
      have hfo := free_ok hf
      have hfn : ∀ g, f ∉ tR T g := fun g => sk_fr hs hfo.2.2
      have hfl : f ≠ l := fun e => hfn 0 (e ▸ hl)
      obtain ⟨k1, k2, k3⟩ : m_sk B f 0 (a_line (a_cut T l f) l f) ∧ m_nx (tR (a_line (a_cut T l f) l f) 0) l = some f ∧ tR (a_line (a_cut T l f) l f) 0 = m_insA l f (tR T 0) := sk_leaf (L1 := (a_gr (tI T l).length (tI T l) []).1) (L2 := (a_gr (tI T l).length (tI T l) []).2) hs hl hfo
      have m1 : l ∈ tR (a_line (a_cut T l f) l f) 0 := by rw [k3]; exact (insA_mem hl).mpr (Or.inr hl)
      have m2 : f ∈ tR (a_line (a_cut T l f) l f) 0 := by rw [k3]; exact (insA_mem hl).mpr (Or.inl rfl)
      obtain ⟨j1, j2, j3, j4⟩ := add_ok hB 8 0 l f _ k1 m1 m2 k2 ha
      have eI : tI (a_line (a_cut T l f) l f) = va_up (va_up (va_up (tI T) f []) f (a_gr (tI T l).length (tI T l) []).2) l (a_gr (tI T l).length (tI T l) []).1 := rfl
      have eU : tU (a_line (a_cut T l f) l f) = va_up (tU T) f 2 := rfl
      have hrow : ∀ b ∈ tR (a_line (a_cut T l f) l f) 0, tU (a_line (a_cut T l f) l f) b ≠ 0 := fun b hb => by
        have := (k1.2.2.2.1 0 b hb).2.2.2
        rw [if_pos rfl] at this
        rw [this]; decide
      have eIf : tI T' f = (a_gr (tI T l).length (tI T l) []).2 := by rw [(j2 f (hrow f m2)).2, eI, l_up_n hfl, l_up_s]
      have eIl : tI T' l = (a_gr (tI T l).length (tI T l) []).1 := by rw [(j2 l (hrow l m1)).2, eI, l_up_s]
      have eIn : ∀ b ∈ tR T 0, b ≠ l → tI T' b = tI T b := fun b hb hbl => by
        have hbf : b ≠ f := fun e => hfn 0 (e ▸ hb)
        rw [(j2 b (hrow b (by rw [k3]; exact (insA_mem hl).mpr (Or.inr hb)))).2, eI, l_up_n hbl, l_up_n hbf, l_up_n hbf]
      have eR : tR T' 0 = m_insA l f (tR T 0) := by rw [j4]; exact k3
      have hne : tI T l ≠ [] := (v1 l hl).1
      have hig := fl_ig v2 hl
      have hc1 : m_cost (a_gr (tI T l).length (tI T l) []).1 ≤ 120 := gr_end (Nat.le_refl _) hig (by rw [m_cost_nil]; omega)
      refine ⟨j1, ?_, fun b hb => ?_, fun b hb => ?_, fun b hb => ?_⟩
      · unfold flat
        rw [eR]
        have e1 : (m_insA l f (tR T 0)).flatMap (tI T') = (m_insA l f (tR T 0)).flatMap (va_up (va_up (tI T) l (a_gr (tI T l).length (tI T l) []).1) f (a_gr (tI T l).length (tI T l) []).2) := by
          refine l_fm_eq (fun b hb => ?_)
          rcases (insA_mem hl).mp hb with w | w
          · rw [w, eIf, l_up_s]
          · have hbf : b ≠ f := fun e => hfn 0 (e ▸ w)
            rw [l_up_n hbf]
            by_cases e : b = l
            · rw [e, eIl, l_up_s]
            · rw [l_up_n e, eIn b w e]
        rw [e1, l_fm_half (hs.2.2.2.2.2.1 0) hl (hfn 0) (by rw [gr_app]; simp)]
      · rw [eR] at hb
        rcases (insA_mem hl).mp hb with w | w
        · rw [w, eIf]
          refine ⟨fun e => ?_, gr_c2 (by rw [m_cost_nil]; omega)⟩
          have h1 := gr_app (n := (tI T l).length) (L := tI T l) (C := [])
          rw [e] at h1
          have h2 := congrArg m_cost h1
          simp only [List.append_nil] at h2
          omega
        · by_cases e : b = l
          · rw [e, eIl]; exact ⟨gr_ne1 hne hig, hc1⟩
          · rw [eIn b w e]; exact ⟨(v1 b w).1, (v1 b w).2 e⟩
      · have hbf : b ≠ f := fun e => hb (e ▸ hfo.2.2)
        have h1 : tU (a_line (a_cut T l f) l f) b = tU T b := by rw [eU, l_up_n hbf]
        rw [(j2 b (by rw [h1]; exact hb)).1, h1]
      · by_cases hbf : b = f
        · have h1 : tU (a_line (a_cut T l f) l f) b = 2 := by rw [eU, hbf, l_up_s]
          rw [(j2 b (by rw [h1]; decide)).1, h1]; exact Or.inr (Or.inl rfl)
        · have h1 : tU (a_line (a_cut T l f) l f) b = 0 := by rw [eU, l_up_n hbf]; exact hb
          rcases j3 b h1 with e | e
          · exact Or.inl e
          · exact Or.inr (Or.inr e)
theorem settle_ok {l : Nat} (hB : B ≤ 96) (hs : m_sk B 0 0 T) (hl : l ∈ tR T 0) (hv : a_lv T l 168) (ha : a_settle B T l = some T') : m_sk B 0 0 T' ∧ flat T' = flat T ∧ (∀ b ∈ tR T' 0, tI T' b ≠ [] ∧ m_cost (tI T' b) ≤ 120) ∧ a_uf T T' := by
  obtain ⟨i1, f1, v1, -⟩ := left_ok hs hl hv
  have s1 := it_sk i1 hs
  have hR : tR (a_left T l (m_pv (tR T 0) l)) = tR T := i1.2.2.2.2.1
  have hl1 : l ∈ tR (a_left T l (m_pv (tR T 0) l)) 0 := by rw [hR]; exact hl
  obtain ⟨i2, f2, v2, -⟩ := right_ok s1 hl1 v1
  have s2 := it_sk i2 s1
  unfold a_settle at ha
  rw [hR] at i2 f2 v2 s2
  have hl2 : l ∈ tR (a_right (a_left T l (m_pv (tR T 0) l)) l (m_nx (tR T 0) l)) 0 := by rw [i2.2.2.2.2.1]; exact hl1
  obtain ⟨k1, k2, k3, k4⟩ := settle2_ok hB s2 hl2 v2 ha
  refine ⟨k1, by rw [k2, f2, f1], k3, ?_⟩
  have eU : tU (a_right (a_left T l (m_pv (tR T 0) l)) l (m_nx (tR T 0) l)) = tU T := i2.1.trans i1.1
  unfold a_uf at k4 ⊢
  rw [eU] at k4
  exact k4
end IT
