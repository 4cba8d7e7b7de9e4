/-! The start: what arrays must hold for it. -/
section S0
variable {B t : Nat} {S : z_S} {f : Nat → Int32}
theorem T0_2 {b : Nat} (h : tU T_0 b = 2) : b = 1 := by
  rw [T0_U] at h
  by_cases e : b = 1
  · exact e
  · rw [if_neg e] at h
    split at h <;> cases h
theorem T0_3 {b : Nat} (h : tU T_0 b = 3) : False := by
  rw [T0_U] at h
  split at h
  · cases h
  · split at h <;> cases h
theorem T0_4 {b : Nat} (h : tU T_0 b = 4) : False := by
  rw [T0_U] at h
  split at h
  · cases h
  · split at h <;> cases h
theorem T0_I : tI T_0 1 = [(4000, 6, none)] := by
  show va_up (fun _ => []) 1 [(4000, 6, none)] 1 = _
  exact l_up_s
theorem m_l_one {g : Nat → Int32} {o : Nat} {x : Int32} (h : g o = x) : m_l g o [x] := fun i y hy => by
  cases i with
  | zero => rw [List.getElem?_cons_zero] at hy; rw [Nat.add_zero, h]; exact Option.some.inj hy
  | succ i => simp at hy
theorem c_T_0 (h0 : S.2.1 t 0 = nI B) (h12 : S.2.1 t 12 = 1) (h1 : ∀ b, b < B → S.1 (t + 1) b = if b = 1 then 2 else if b = 0 then 1 else 0) (h2 : S.1 (t + 2) 1 = 0) (h3 : S.1 (t + 3) 1 = 1) (h4 : S.1 (t + 4) 1 = 14) (h5 : S.1 (t + 5) 1 = -1) (h6 : S.1 (t + 6) 1 = -1) (h7 : S.1 (t + 7) 1 = -1) (h9 : S.1 (t + 9) 14 = 4000) (h10 : S.1 (t + 10) 14 = 6) (h11 : S.1 (t + 11) 14 = -1) : c_T B t S T_0 := by
  refine ⟨h0, h12, fun b hb => ?_, fun b hb hu => ?_, fun b hb hu => (T0_3 hu).elim, fun b hb hu => ?_⟩
  · rw [h1 b hb, T0_U]
    split
    · rfl
    · split <;> rfl
  · have := T0_2 hu
    subst this
    rw [T0_I]
    exact ⟨h3, h4, m_l_one (by rw [Nat.one_mul]; exact h9), m_l_one (by rw [Nat.one_mul]; exact h10), m_l_one (by rw [Nat.one_mul]; exact h11), by decide⟩
  · rcases hu with hu | hu
    · have := T0_2 hu
      subst this
      have hH : tH T_0 1 = 0 := rfl
      refine ⟨h2, h5, ?_, ?_⟩
      · rw [hH, T0_R0]; exact h6
      · rw [hH, T0_R0]; exact h7
    · exact (T0_3 hu).elim
theorem c_O_0 (h14 : ∀ o, 1 ≤ o → o ≤ 60 → S.1 (t + 14) o = if o = 1 then 0 else -1) (h15 : S.1 (t + 15) 1 = 1) (h16 : S.1 (t + 16) 1 = 0) (h17 : S.1 (t + 17) 1 = -1) : c_O B t S T_0 O_0 := by
  have no2 : ∀ x, ¬ oK O_0 x = 2 := fun x h => by have := (O0_1 h (by decide)).2; omega
  refine ⟨fun o o1 o2 => ?_, fun o o1 o2 ho => ?_, fun o o1 o2 ho => ?_, fun o _ _ ho => absurd ho (no2 o), fun b hb hu => (T0_4 hu).elim, fun o _ _ ho => absurd ho (no2 o)⟩
  · rw [h14 o o1 o2, O0_K]
    split <;> rfl
  · obtain ⟨e, -⟩ := O0_1 (k := oK O_0 o) rfl ho
    rw [e]; exact ⟨h15, h16⟩
  · obtain ⟨e, -⟩ := O0_1 ho (by decide)
    rw [e]; exact h17
theorem k_T_0 (hB : 16 ≤ B) (h0 : ∀ b, b < 96 → f b = if b ≤ 1 then 1 else 0) (hh : ∀ b, b < 96 → f (3756 + b) = if b = 1 then 1 else 0) (hn : f 3853 = 1) (i0 : f 4636 = 1) (i1 : f 6172 = 0) (i2 : f 7708 = 0) (i3 : f 9244 = 6) (i4 : f 10780 = 0) (hp : f 3949 = -1) (hr : ∀ h, h < 8 → f (13068 + h) = if h = 0 then 1 else 0) (hr0 : f 12300 = 1) (hx : f 13076 = 1) (hl : f 13077 = 1) (hB2 : B ≤ 96) : k_T B 0 0 f T_0 := by
  refine ⟨fun b hb => ?_, fun b hb => ?_, fun b hb hu => ?_, fun b hb _ hu => (T0_3 hu).elim, fun b hb _ hu => ?_, fun h hh8 => ?_, hx, hl⟩
  · rw [h0 b hb, T0_U]
    by_cases e : b ≤ 1
    · have : b < B ∧ (if b = 1 then 2 else if b = 0 then 1 else 0) ≠ 0 := by
        refine ⟨by omega, ?_⟩
        split
        · decide
        · rw [if_pos (by omega)]; decide
      rw [if_pos e, if_pos this]; rfl
    · have : ¬ (b < B ∧ (if b = 1 then 2 else if b = 0 then 1 else 0) ≠ 0) := fun w => w.2 (by rw [if_neg (by omega), if_neg (by omega)])
      rw [if_neg e, if_neg this]; rfl
  · rw [hh b (by omega)]
    unfold k_h
    rw [T0_U]
    by_cases e : b = 1
    · rw [if_pos e, if_pos e, if_pos rfl]; rfl
    · rw [if_neg e, if_neg e]
      by_cases e0 : b = 0
      · rw [if_pos e0]; rfl
      · rw [if_neg e0]; rfl
  · have := T0_2 hu
    subst this
    rw [T0_I]
    refine ⟨hn, fun a ha => m_l_one ?_, by decide⟩
    obtain e | e | e | e | e : a = 0 ∨ a = 1 ∨ a = 2 ∨ a = 3 ∨ a = 4 := by omega
    · subst e; exact i0
    · subst e; exact i1
    · subst e; exact i2
    · subst e; exact i3
    · subst e; exact i4
  · rcases hu with hu | hu
    · have := T0_2 hu
      subst this
      exact hp
    · exact (T0_3 hu).elim
  · by_cases e : h = 0
    · subst e
      rw [T0_R0]
      exact ⟨by rw [hr 0 (by omega)]; rfl, m_l_one hr0, by simp⟩
    · rw [T0_Rn e]
      exact ⟨by rw [hr h hh8, if_neg e]; rfl, m_l_nil, by simp⟩
theorem k_O_0 (hk : ∀ o, 1 ≤ o → o ≤ 60 → f (96 + o) = if o = 1 then 1 else 0) (h1 : f 158 = 1) (h2 : f 219 = 0) (h3 : f 280 = 0) : k_O B f T_0 O_0 := by
  have no2 : ∀ x, ¬ oK O_0 x = 2 := fun x h => by have := (O0_1 h (by decide)).2; omega
  refine ⟨fun o o1 o2 => ?_, fun o o1 o2 ho => ?_, fun o _ _ ho => absurd ho (no2 o), fun b hb hu => (T0_4 hu).elim, fun o _ _ ho => absurd ho (no2 o)⟩
  · rw [hk o o1 o2, O0_K]
    split <;> rfl
  · obtain ⟨e, -⟩ := O0_1 (k := oK O_0 o) rfl ho
    rw [e]; exact ⟨h1, h2, h3⟩
end S0
