/-! Rows as lists: neighbours, a node put in behind another, a node taken out. -/
theorem nx_hd {x : Nat} {L : List Nat} : m_nx (x :: L) x = L.head? := by cases L <;> simp [m_nx]
theorem nx_tl {x b : Nat} {L : List Nat} (h : b ≠ x) : m_nx (x :: L) b = m_nx L b := by cases L <;> simp [m_nx, h]
theorem pv_cons {a x : Nat} {L : List Nat} : m_pv (a :: L) x = if L.head? = some x then some a else m_pv L x := by
  cases L with
  | nil => simp [m_pv]
  | cons b L =>
    simp only [m_pv, List.head?_cons, Option.some.injEq]
    by_cases h : x = b
    · subst h; simp
    · rw [if_neg h, if_neg (fun e => h e.symm)]
theorem nx_mem {L : List Nat} {n b : Nat} (h : m_nx L n = some b) : b ∈ L.tail := by
  induction L with
  | nil => simp [m_nx] at h
  | cons a L ih =>
    by_cases hn : n = a
    · subst hn
      rw [nx_hd] at h
      simp only [List.tail_cons]
      exact List.mem_of_head? h
    · rw [nx_tl hn] at h
      exact List.mem_of_mem_tail (ih h)
theorem nx_src {L : List Nat} {n b : Nat} (h : m_nx L n = some b) : n ∈ L := by
  induction L with
  | nil => simp [m_nx] at h
  | cons a L ih =>
    by_cases hn : n = a
    · subst hn; exact List.mem_cons_self
    · rw [nx_tl hn] at h
      exact List.mem_cons_of_mem _ (ih h)
theorem pv_mem {L : List Nat} {n b : Nat} (h : m_pv L n = some b) : b ∈ L ∧ n ∈ L.tail := by
  induction L with
  | nil => simp [m_pv] at h
  | cons a L ih =>
    rw [pv_cons] at h
    by_cases hh : L.head? = some n
    · rw [if_pos hh] at h
      cases h
      exact ⟨List.mem_cons_self, List.mem_of_head? hh⟩
    · rw [if_neg hh] at h
      obtain ⟨h1, h2⟩ := ih h
      exact ⟨List.mem_cons_of_mem _ h1, List.mem_of_mem_tail h2⟩
theorem nx_none {L : List Nat} {n : Nat} (h : n ∉ L) : m_nx L n = none := by
  cases hh : m_nx L n with
  | none => rfl
  | some b => exact absurd (nx_src hh) h
theorem pv_none {L : List Nat} {n : Nat} (h : n ∉ L) : m_pv L n = none := by
  cases hh : m_pv L n with
  | none => rfl
  | some b => exact absurd (List.mem_of_mem_tail (pv_mem hh).2) h
theorem nx_head {L : List Nat} {n b : Nat} (hd : L.Nodup) (h : m_nx L n = some b) : L.head? ≠ some b := by
  have hm := nx_mem h
  cases L with
  | nil => simp [m_nx] at h
  | cons a L =>
    intro e
    simp only [List.head?_cons, Option.some.injEq] at e
    subst e
    simp only [List.tail_cons] at hm
    exact (List.nodup_cons.mp hd).1 hm
def m_insA (n f : Nat) : List Nat → List Nat
  | [] => []
  | a :: L => if a = n then a :: f :: L else a :: m_insA n f L
def m_era (n : Nat) : List Nat → List Nat
  | [] => []
  | a :: L => if a = n then L else a :: m_era n L
theorem insA_head {n f : Nat} {L : List Nat} : (m_insA n f L).head? = L.head? := by
  cases L with
  | nil => rfl
  | cons a L => simp only [m_insA]; split <;> rfl
theorem insA_mem {n f x : Nat} : ∀ {L : List Nat}, n ∈ L → (x ∈ m_insA n f L ↔ x = f ∨ x ∈ L)
  | [], h => by cases h
  | a :: L, h => by
    simp only [m_insA]
    by_cases e : a = n
    · rw [if_pos e]
      simp only [List.mem_cons]
      constructor
      · rintro (h | h | h)
        · exact Or.inr (Or.inl h)
        · exact Or.inl h
        · exact Or.inr (Or.inr h)
      · rintro (h | h | h)
        · exact Or.inr (Or.inl h)
        · exact Or.inl h
        · exact Or.inr (Or.inr h)
    · rw [if_neg e]
      have hn : n ∈ L := by
        rcases List.mem_cons.mp h with h | h
        · exact absurd h.symm e
        · exact h
      simp only [List.mem_cons, insA_mem (L := L) hn]
      constructor
      · rintro (h | h | h)
        · exact Or.inr (Or.inl h)
        · exact Or.inl h
        · exact Or.inr (Or.inr h)
      · rintro (h | h | h)
        · exact Or.inr (Or.inl h)
        · exact Or.inl h
        · exact Or.inr (Or.inr h)
theorem insA_nodup {n f : Nat} : ∀ {L : List Nat}, L.Nodup → n ∈ L → f ∉ L → (m_insA n f L).Nodup
  | [], _, h, _ => by cases h
  | a :: L, hd, h, hf => by
    simp only [m_insA]
    have ⟨h1, h2⟩ := List.nodup_cons.mp hd
    have hfa : f ≠ a := fun e => hf (by rw [e]; exact List.mem_cons_self)
    have hfL : f ∉ L := fun e => hf (List.mem_cons_of_mem _ e)
    by_cases e : a = n
    · rw [if_pos e]
      refine List.nodup_cons.mpr ⟨fun hm => ?_, List.nodup_cons.mpr ⟨hfL, h2⟩⟩
      rcases List.mem_cons.mp hm with hm | hm
      · exact hfa hm.symm
      · exact h1 hm
    · rw [if_neg e]
      have hn : n ∈ L := by
        rcases List.mem_cons.mp h with h | h
        · exact absurd h.symm e
        · exact h
      refine List.nodup_cons.mpr ⟨fun hm => ?_, insA_nodup h2 hn hfL⟩
      rcases (insA_mem hn).mp hm with hm | hm
      · exact hfa hm.symm
      · exact h1 hm
theorem nx_insA {n f b : Nat} : ∀ {L : List Nat}, L.Nodup → n ∈ L → f ∉ L → m_nx (m_insA n f L) b = if b = n then some f else if b = f then m_nx L n else m_nx L b
  | [], _, h, _ => by cases h
  | a :: L, hd, h, hf => by
    have ⟨h1, h2⟩ := List.nodup_cons.mp hd
    have hfa : f ≠ a := fun e => hf (by rw [e]; exact List.mem_cons_self)
    have hfL : f ∉ L := fun e => hf (List.mem_cons_of_mem _ e)
    simp only [m_insA]
    by_cases e : a = n
    · rw [if_pos e]
      subst e
      by_cases hb : b = a
      · subst hb; rw [nx_hd, if_pos rfl]; rfl
      · rw [nx_tl hb, if_neg hb]
        by_cases hbf : b = f
        · subst hbf; rw [nx_hd, if_pos rfl, nx_hd]
        · rw [nx_tl hbf, if_neg hbf, nx_tl hb]
    · rw [if_neg e]
      have hn : n ∈ L := by
        rcases List.mem_cons.mp h with h | h
        · exact absurd h.symm e
        · exact h
      by_cases hb : b = a
      · subst hb
        rw [nx_hd, if_neg e, if_neg (fun z => hfa z.symm), nx_hd, insA_head]
      · rw [nx_tl hb, nx_insA h2 hn hfL, nx_tl (fun z => e z.symm), nx_tl hb]
theorem pv_insA {n f b : Nat} : ∀ {L : List Nat}, L.Nodup → n ∈ L → f ∉ L → m_pv (m_insA n f L) b = if b = f then some n else if m_nx L n = some b then some f else m_pv L b
  | [], _, h, _ => by cases h
  | a :: L, hd, h, hf => by
    have ⟨h1, h2⟩ := List.nodup_cons.mp hd
    have hfa : f ≠ a := fun e => hf (by rw [e]; exact List.mem_cons_self)
    have hfL : f ∉ L := fun e => hf (List.mem_cons_of_mem _ e)
    simp only [m_insA]
    by_cases e : a = n
    · rw [if_pos e]
      subst e
      rw [pv_cons, List.head?_cons, nx_hd]
      by_cases hbf : b = f
      · subst hbf; rw [if_pos rfl, if_pos rfl]
      · rw [if_neg (fun z => hbf (Option.some.inj z).symm), if_neg hbf, pv_cons, pv_cons]
        by_cases hh : L.head? = some b
        · rw [if_pos hh, if_pos hh]
        · rw [if_neg hh, if_neg hh, if_neg hh]
    · rw [if_neg e]
      have hn : n ∈ L := by
        rcases List.mem_cons.mp h with h | h
        · exact absurd h.symm e
        · exact h
      rw [pv_cons, insA_head, nx_tl (fun z => e z.symm), pv_insA h2 hn hfL, pv_cons]
      by_cases hh : L.head? = some b
      · have hbf : b ≠ f := fun z => hfL (by rw [← z]; exact List.mem_of_head? hh)
        rw [if_pos hh, if_neg hbf, if_neg (fun z => nx_head h2 z hh), if_pos hh]
      · rw [if_neg hh, if_neg hh]
theorem era_sub {n x : Nat} : ∀ {L : List Nat}, x ∈ m_era n L → x ∈ L
  | [], h => h
  | a :: L, h => by
    simp only [m_era] at h
    by_cases e : a = n
    · rw [if_pos e] at h; exact List.mem_cons_of_mem _ h
    · rw [if_neg e] at h
      rcases List.mem_cons.mp h with h | h
      · rw [h]; exact List.mem_cons_self
      · exact List.mem_cons_of_mem _ (era_sub h)
theorem era_nodup {n : Nat} : ∀ {L : List Nat}, L.Nodup → (m_era n L).Nodup ∧ n ∉ m_era n L
  | [], _ => ⟨List.nodup_nil, fun h => by cases h⟩
  | a :: L, hd => by
    have ⟨h1, h2⟩ := List.nodup_cons.mp hd
    simp only [m_era]
    by_cases e : a = n
    · rw [if_pos e]; subst e; exact ⟨h2, h1⟩
    · rw [if_neg e]
      obtain ⟨i1, i2⟩ := era_nodup (n := n) h2
      refine ⟨List.nodup_cons.mpr ⟨fun h => h1 (era_sub h), i1⟩, fun h => ?_⟩
      rcases List.mem_cons.mp h with h | h
      · exact e h.symm
      · exact i2 h
theorem era_mem {n x : Nat} (hx : x ≠ n) : ∀ {L : List Nat}, x ∈ L → x ∈ m_era n L
  | [], h => h
  | a :: L, h => by
    simp only [m_era]
    rcases List.mem_cons.mp h with h | h
    · rw [if_neg (fun e => hx (h.trans e)), h]; exact List.mem_cons_self
    · by_cases e : a = n
      · rw [if_pos e]; exact h
      · rw [if_neg e]; exact List.mem_cons_of_mem _ (era_mem hx h)
theorem era_head {n : Nat} {L : List Nat} (hd : L.Nodup) : (m_era n L).head? = if L.head? = some n then m_nx L n else L.head? := by
  cases L with
  | nil => rfl
  | cons a L =>
    simp only [m_era, List.head?_cons, Option.some.injEq]
    by_cases e : a = n
    · rw [if_pos e, if_pos e]; subst e; rw [nx_hd]
    · rw [if_neg e, if_neg e]; rfl
theorem nx_era {n b : Nat} (hb : b ≠ n) : ∀ {L : List Nat}, L.Nodup → m_nx (m_era n L) b = if m_nx L b = some n then m_nx L n else m_nx L b
  | [], _ => by simp [m_era, m_nx]
  | a :: L, hd => by
    have ⟨h1, h2⟩ := List.nodup_cons.mp hd
    simp only [m_era]
    by_cases e : a = n
    · rw [if_pos e]
      subst e
      rw [nx_tl hb, if_neg]
      intro z
      exact h1 (List.mem_of_mem_tail (nx_mem z))
    · rw [if_neg e, nx_tl (fun z => e z.symm) (L := L)]
      by_cases hba : b = a
      · subst hba
        rw [nx_hd, nx_hd, era_head h2]
      · rw [nx_tl hba, nx_tl hba]
        exact nx_era hb h2
theorem pv_era {n b : Nat} (hb : b ≠ n) : ∀ {L : List Nat}, L.Nodup → m_pv (m_era n L) b = if m_pv L b = some n then m_pv L n else m_pv L b
  | [], _ => by simp [m_era, m_pv]
  | a :: L, hd => by
    have ⟨h1, h2⟩ := List.nodup_cons.mp hd
    simp only [m_era]
    by_cases e : a = n
    · rw [if_pos e]
      subst e
      have hpa : m_pv (a :: L) a = none := by
        cases hz : m_pv (a :: L) a with
        | none => rfl
        | some y => exact absurd (pv_mem hz).2 h1
      rw [hpa, pv_cons]
      by_cases hh : L.head? = some b
      · rw [if_pos hh, if_pos rfl]
        cases L with
        | nil => cases hh
        | cons c L =>
          simp only [List.head?_cons, Option.some.injEq] at hh
          subst hh
          cases hz : m_pv (c :: L) c with
          | none => rfl
          | some y => exact absurd (pv_mem hz).2 (List.nodup_cons.mp h2).1
      · rw [if_neg hh]
        by_cases hz : m_pv L b = some a
        · exact absurd (pv_mem hz).1 h1
        · rw [if_neg hz]
    · rw [if_neg e, pv_cons, era_head h2]
      by_cases hh : L.head? = some n
      · rw [if_pos hh]
        have hpn : m_pv (a :: L) n = some a := by rw [pv_cons, if_pos hh]
        have hpb : m_pv (a :: L) b = m_pv L b := by rw [pv_cons, if_neg (fun z => hb (Option.some.inj (z.symm.trans hh)))]
        rw [hpn, hpb]
        by_cases hz : m_nx L n = some b
        · rw [if_pos hz]
          cases L with
          | nil => cases hh
          | cons c L =>
            simp only [List.head?_cons, Option.some.injEq] at hh
            subst hh
            rw [nx_hd] at hz
            rw [pv_cons, if_pos hz, if_pos rfl]
        · rw [if_neg hz, pv_era hb h2]
          have hpn2 : m_pv L n = none := by
            cases L with
            | nil => rfl
            | cons c L =>
              simp only [List.head?_cons, Option.some.injEq] at hh
              subst hh
              cases hy : m_pv (c :: L) c with
              | none => rfl
              | some y => exact absurd (pv_mem hy).2 (List.nodup_cons.mp h2).1
          by_cases hq : m_pv L b = some n
          · cases L with
            | nil => cases hh
            | cons c L =>
              simp only [List.head?_cons, Option.some.injEq] at hh
              subst hh
              rw [nx_hd] at hz
              rw [pv_cons, if_neg hz] at hq
              exact absurd (pv_mem hq).1 (List.nodup_cons.mp h2).1
          · rw [if_neg hq, if_neg hq]
      · rw [if_neg hh]
        have hpn : m_pv (a :: L) n = m_pv L n := by rw [pv_cons, if_neg hh]
        rw [hpn, pv_cons (L := L) (x := b)]
        by_cases hz : L.head? = some b
        · rw [if_pos hz, if_pos hz, if_neg (fun z => e (Option.some.inj z))]
        · rw [if_neg hz, if_neg hz]
          exact pv_era hb h2
