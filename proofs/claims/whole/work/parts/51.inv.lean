/-! The tree's skeleton: what always holds of rows, children and parents; a node added; what must then hold. -/
/-- the skeleton is sound, but that x is in its row and in no list of children, and that y may have any number of children (0: no such node) -/
def m_sk (B x y : Nat) (T : m_T) : Prop :=
  tH T (tX T) ≤ 6 ∧ (∀ h, tH T (tX T) < h → tR T h = []) ∧ m_era x (tR T (tH T (tX T))) = [tX T] ∧
  (∀ h, ∀ b ∈ tR T h, 1 ≤ b ∧ b < B ∧ tH T b = h ∧ tU T b = if h = 0 then 2 else 3) ∧
  (∀ b, b < B → (tU T b = 2 ∨ tU T b = 3) → b ∈ tR T (tH T b)) ∧ (∀ h, (tR T h).Nodup) ∧
  (∀ h, h < tH T (tX T) → (tR T (h + 1)).flatMap (tK T) = m_era x (tR T h)) ∧
  (∀ h, ∀ p ∈ tR T (h + 1), ∀ c ∈ tK T p, tP T c = some p) ∧ tP T (tX T) = none ∧
  (∀ h, ∀ p ∈ tR T (h + 1), p ≠ y → 2 ≤ (tK T p).length ∧ (tK T p).length ≤ 5) ∧ tU T 0 = 1 ∧ (∀ b, b < B → tU T b ≤ 4)
section SK
variable {B x y : Nat} {T : m_T}
theorem sk_le {h b : Nat} (hs : m_sk B x y T) (hb : b ∈ tR T h) : h ≤ tH T (tX T) := by
  by_cases e : h ≤ tH T (tX T)
  · exact e
  · rw [hs.2.1 h (by omega)] at hb; cases hb
theorem sk_0 {h : Nat} (hs : m_sk B x y T) : 0 ∉ tR T h := fun hb => by
  have := (hs.2.2.2.1 h 0 hb).1
  omega
theorem sk_fr {h b : Nat} (hs : m_sk B x y T) (hu : tU T b = 0) : b ∉ tR T h := fun hb => by
  have := (hs.2.2.2.1 h b hb).2.2.2
  rw [hu] at this
  split at this <;> cases this
theorem sk_ht {g h b : Nat} (hs : m_sk B x y T) (hb : b ∈ tR T h) (e : g ≠ h) : b ∉ tR T g := fun hg => e ((hs.2.2.2.1 g b hg).2.2.1.symm.trans (hs.2.2.2.1 h b hb).2.2.1)
theorem sk_root (hs : m_sk B x y T) : tX T ∈ tR T (tH T (tX T)) ∧ tX T ≠ x := by
  have h : tX T ∈ m_era x (tR T (tH T (tX T))) := by rw [hs.2.2.1]; exact List.mem_cons_self
  exact ⟨era_sub h, fun e => (era_nodup (n := x) (hs.2.2.2.2.2.1 _)).2 (e ▸ h)⟩
theorem sk_rb (hs : m_sk B x y T) : tX T < B := (hs.2.2.2.1 _ _ (sk_root hs).1).2.1
/-- a node that has a place: its parent, or it is the root -/
theorem sk_par {h o : Nat} (hs : m_sk B x y T) (ho : o ∈ tR T h) (hx : o ≠ x) : (h < tH T (tX T) ∧ ∃ p, p ∈ tR T (h + 1) ∧ o ∈ tK T p ∧ tP T o = some p) ∨ (h = tH T (tX T) ∧ o = tX T ∧ tP T o = none) := by
  have h1 := sk_le hs ho
  by_cases e : h = tH T (tX T)
  · refine Or.inr ⟨e, ?_⟩
    have h2 : o ∈ m_era x (tR T h) := era_mem hx ho
    rw [e, hs.2.2.1] at h2
    have h3 : o = tX T := by simpa using h2
    exact ⟨h3, by rw [h3]; exact hs.2.2.2.2.2.2.2.2.1⟩
  · have h2 : h < tH T (tX T) := by omega
    have h3 : o ∈ (tR T (h + 1)).flatMap (tK T) := by rw [hs.2.2.2.2.2.2.1 h h2]; exact era_mem hx ho
    obtain ⟨p, hp, hc⟩ := l_fm_mem.mp h3
    exact Or.inl ⟨h2, p, hp, hc, hs.2.2.2.2.2.2.2.1 h p hp o hc⟩
/-- a child is in the row below, and isn't x -/
theorem sk_kid {h p c : Nat} (hs : m_sk B x y T) (hp : p ∈ tR T (h + 1)) (hc : c ∈ tK T p) : h < tH T (tX T) ∧ c ∈ tR T h ∧ c ≠ x := by
  have h1 := sk_le hs hp
  have h2 : c ∈ m_era x (tR T h) := by rw [← hs.2.2.2.2.2.2.1 h (by omega)]; exact l_fm_mem.mpr ⟨p, hp, hc⟩
  exact ⟨by omega, era_sub h2, fun e => (era_nodup (n := x) (hs.2.2.2.2.2.1 h)).2 (e ▸ h2)⟩
theorem sk_nd {h : Nat} (hs : m_sk B x y T) (hh : h < tH T (tX T)) : ((tR T (h + 1)).flatMap (tK T)).Nodup := by
  rw [hs.2.2.2.2.2.2.1 h hh]; exact (era_nodup (hs.2.2.2.2.2.1 h)).1
theorem sk_len {h : Nat} (hs : m_sk B x y T) : (tR T h).length + 1 ≤ B := by
  have h1 := l_few (n := B) (L := 0 :: tR T h) (List.nodup_cons.mpr ⟨sk_0 hs, hs.2.2.2.2.2.1 h⟩) (fun z hz => by
    rcases List.mem_cons.mp hz with e | e
    · rw [e]; have := sk_rb hs; omega
    · exact (hs.2.2.2.1 h z e).2.1)
  rw [List.length_cons] at h1
  exact h1
theorem sk_era (hx : ∀ h, x ∉ tR T h) (h : Nat) : m_era x (tR T h) = tR T h := l_era_no (hx h)
/-- rows double downwards -/
theorem sk_pow {R : Nat → List Nat} : ∀ (H : Nat), (∀ h, h < H → 2 * (R (h + 1)).length ≤ (R h).length) → 2 ^ H * (R H).length ≤ (R 0).length
  | 0, _ => by simp
  | H + 1, h => by
    have h1 := sk_pow (R := R) H (fun g hg => h g (by omega))
    have h2 := h H (by omega)
    have h3 : 2 ^ (H + 1) * (R (H + 1)).length = 2 ^ H * (2 * (R (H + 1)).length) := by rw [Nat.pow_succ]; simp [Nat.mul_assoc]
    rw [h3]
    exact Nat.le_trans (Nat.mul_le_mul_left _ h2) h1
theorem sk_top {H : Nat} {R : Nat → List Nat} (hR : R H ≠ []) (h2 : ∀ h, h < H → 2 * (R (h + 1)).length ≤ (R h).length) (h0 : (R 0).length < 96) : H ≤ 6 := by
  have h1 := sk_pow H h2
  have h3 : 1 ≤ (R H).length := by
    cases hr : R H with
    | nil => exact absurd hr hR
    | cons a L => simp
  have h4 : 2 ^ H ≤ 2 ^ H * (R H).length := Nat.le_mul_of_pos_right _ h3
  have h5 : 2 ^ H < 96 := by omega
  by_cases e : H ≤ 6
  · exact e
  · have h6 : 2 ^ 7 ≤ 2 ^ H := Nat.pow_le_pow_right (by omega) (by omega)
    have h7 : (2 : Nat) ^ 7 = 128 := by decide
    omega
theorem sk_done (hs : m_sk B x y T) (h : 2 ≤ (tK T y).length ∧ (tK T y).length ≤ 5) : m_sk B x 0 T := by
  obtain ⟨a1, a2, a3, a4, a5, a6, a7, a8, a9, a10, a11, a12⟩ := hs
  refine ⟨a1, a2, a3, a4, a5, a6, a7, a8, a9, fun g p hp _ => ?_, a11, a12⟩
  by_cases e : p = y
  · rw [e]; exact h
  · exact a10 g p hp e
/-- a child put in behind another -/
def a_in (T : m_T) (o c p : Nat) : m_T := tsP (tsK T p (m_insA o c (tK T p))) c (some p)
theorem sk_in {h o p : Nat} (hs : m_sk B x 0 T) (ho : o ∈ tR T h) (hx : x ∈ tR T h) (hn : m_nx (tR T h) o = some x) (hp : tP T o = some p) : m_sk B 0 p (a_in T o x p) ∧ p ∈ tR T (h + 1) ∧ h < tH T (tX T) ∧ o ∈ tK T p := by
  have hx0 : x ≠ 0 := fun e => sk_0 hs (e ▸ hx)
  obtain ⟨A, C, hR, q1, q2, q3, q4, q5⟩ := l_nx_split (hs.2.2.2.2.2.1 h) hn
  obtain ⟨hh, p', hp', hc, hq⟩ | ⟨-, -, hq⟩ := sk_par hs ho q5
  case inr => rw [hp] at hq; cases hq
  have e : p = p' := by rw [hp] at hq; exact Option.some.inj hq
  subst e
  have hxr : ∀ g, g ≠ h → x ∉ tR T g := fun g hg => sk_ht hs hx hg
  have hpr : ∀ g, g ≠ h + 1 → p ∉ tR T g := fun g hg => sk_ht hs hp' hg
  have hnd := sk_nd hs hh
  have hs' := hs
  obtain ⟨a1, a2, a3, a4, a5, a6, a7, a8, a9, a10, a11, a12⟩ := hs
  have z0 : ∀ g, m_era 0 (tR T g) = tR T g := fun g => l_era_no (sk_0 hs')
  refine ⟨⟨a1, a2, ?_, a4, a5, a6, fun g hg => ?_, fun g q hq c hc => ?_, ?_, fun g q hq hqp => ?_, a11, a12⟩, hp', hh, hc⟩
  · show m_era 0 (tR T (tH T (tX T))) = [tX T]
    rw [z0, ← a3, l_era_no (hxr _ (by omega))]
  · show (tR T (g + 1)).flatMap (va_up (tK T) p (m_insA o x (tK T p))) = m_era 0 (tR T g)
    rw [z0]
    by_cases e : g = h
    · subst e
      rw [l_fm_ins (a6 _) hp' hc hnd, a7 g hh, hR]
      rw [show A ++ o :: x :: C = (A ++ [o]) ++ x :: C by simp, l_era_app (by simp [q2, Ne.symm q5])]
      rw [show A ++ [o] ++ C = A ++ o :: C by simp, l_insA_app q1]
      simp
    · rw [l_fm_no (hpr _ (by omega)), a7 g hg, l_era_no (hxr g e)]
  · show va_up (tP T) x (some p) c = some q
    by_cases e : c = x
    · subst e
      rw [l_up_s]
      by_cases eq : q = p
      · rw [eq]
      · exact absurd rfl (sk_kid hs' (c := c) hq (by rw [show tK (a_in T o c p) = va_up (tK T) p (m_insA o c (tK T p)) from rfl, l_up_n eq] at hc; exact hc)).2.2
    · rw [l_up_n e]
      by_cases eq : q = p
      · subst eq
        have hg : g = h := by
          have := (a4 _ _ hq).2.2.1
          have := (a4 _ _ hp').2.2.1
          omega
        subst hg
        rw [show tK (a_in T o x q) = va_up (tK T) q (m_insA o x (tK T q)) from rfl, l_up_s] at hc
        rename_i hco _
        rcases (insA_mem (by assumption)).mp hc with z | z
        · exact absurd z e
        · exact a8 g q hq c z
      · rw [show tK (a_in T o x p) = va_up (tK T) p (m_insA o x (tK T p)) from rfl, l_up_n eq] at hc
        exact a8 g q hq c hc
  · show va_up (tP T) x (some p) (tX T) = none
    rw [l_up_n (sk_root hs').2]; exact a9
  · show 2 ≤ (va_up (tK T) p (m_insA o x (tK T p)) q).length ∧ _
    rw [show tK (a_in T o x p) = va_up (tK T) p (m_insA o x (tK T p)) from rfl, l_up_n hqp]
    exact a10 g q hq (fun e => sk_0 hs' (e ▸ hq))
end SK
