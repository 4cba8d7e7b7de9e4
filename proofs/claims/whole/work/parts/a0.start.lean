/-! The start: what a new object is meant to be. -/
def T_0 : m_T := (va_up (va_up (fun _ => 0) 0 1) 1 2, fun _ => 0, va_up (fun _ => []) 1 [(4000, 6, none)], fun _ => [], fun _ => none, va_up (fun _ => []) 0 [1], 1)
def O_0 : m_O := (va_up (fun _ => 0) 1 1, va_up (fun _ => 0) 1 1, fun _ => 0, fun _ => none, fun _ => [], fun _ _ => 0, fun _ _ => 0)
theorem T0_R0 : tR T_0 0 = [1] := by
  show va_up (fun _ => []) 0 [1] 0 = [1]
  exact l_up_s
theorem T0_Rn {h : Nat} (hh : h ≠ 0) : tR T_0 h = [] := by
  show va_up (fun _ => []) 0 [1] h = []
  exact l_up_n hh
theorem T0_fl : flat T_0 = [(4000, 6, none)] := by
  unfold flat
  rw [T0_R0]
  rfl
theorem T0_U {b : Nat} : tU T_0 b = if b = 1 then 2 else if b = 0 then 1 else 0 := by
  show va_up (va_up (fun _ => 0) 0 1) 1 2 b = _
  by_cases e : b = 1
  · rw [e, l_up_s, if_pos rfl]
  · rw [l_up_n e, if_neg e]
    by_cases e0 : b = 0
    · rw [e0, l_up_s, if_pos rfl]
    · rw [l_up_n e0, if_neg e0]
theorem T0_ok {B : Nat} (hB : 16 ≤ B) : m_ok B T_0 := by
  have hX : tX T_0 = 1 := rfl
  have hH : ∀ b, tH T_0 b = 0 := fun _ => rfl
  have hI1 : tI T_0 1 = [(4000, 6, none)] := by
    show va_up (fun _ => []) 1 [(4000, 6, none)] 1 = _
    exact l_up_s
  refine ⟨⟨?_, fun h hh => ?_, ?_, fun h b hb => ?_, fun b hb hu => ?_, fun h => ?_, fun h hh => ?_, fun h p hp => ?_, rfl, fun h p hp => ?_, ?_, fun b hb => ?_⟩, fun b hb => ?_, fun x hx => ?_, ?_⟩
  · rw [hH]; omega
  · rw [hX, hH] at hh; exact T0_Rn (by omega)
  · rw [hX, hH, T0_R0]; rfl
  · by_cases e : h = 0
    · rw [e, T0_R0] at hb
      have : b = 1 := by simpa using hb
      rw [this, e]
      exact ⟨by omega, by omega, rfl, by rw [T0_U]; rfl⟩
    · rw [T0_Rn e] at hb; cases hb
  · rw [T0_U] at hu
    rw [hH, T0_R0]
    by_cases e : b = 1
    · rw [e]; exact List.mem_cons_self
    · rw [if_neg e] at hu
      by_cases e0 : b = 0
      · rw [if_pos e0] at hu; omega
      · rw [if_neg e0] at hu; omega
  · by_cases e : h = 0
    · rw [e, T0_R0]; simp
    · rw [T0_Rn e]; exact List.nodup_nil
  · rw [hX, hH] at hh; omega
  · rw [T0_Rn (by omega)] at hp; cases hp
  · rw [T0_Rn (by omega)] at hp; cases hp
  · rw [T0_U]; rfl
  · rw [T0_U]; split
    · omega
    · split <;> omega
  · rw [T0_R0] at hb
    have : b = 1 := by simpa using hb
    rw [this, hI1]
    exact ⟨by simp, by decide⟩
  · rw [T0_fl] at hx
    have : x = (4000, 6, none) := by simpa using hx
    rw [this]
    exact ⟨by decide, by decide, by decide, fun o ho => (by cases ho)⟩
  · rw [T0_fl]; exact List.pairwise_singleton _ _
theorem O0_K {o : Nat} : oK O_0 o = if o = 1 then 1 else 0 := by
  show va_up (fun _ => 0) 1 1 o = _
  by_cases e : o = 1
  · rw [e, l_up_s, if_pos rfl]
  · rw [l_up_n e, if_neg e]
theorem O0_1 {o k : Nat} (h : oK O_0 o = k) (hk : k ≠ 0) : o = 1 ∧ k = 1 := by
  rw [O0_K] at h
  by_cases e : o = 1
  · rw [if_pos e] at h; exact ⟨e, h.symm⟩
  · rw [if_neg e] at h; exact absurd h.symm hk
theorem O0_im {B : Nat} : m_im B T_0 O_0 := by
  have no2 : ∀ x, ¬ oK O_0 x = 2 := fun x h => by have := (O0_1 h (by decide)).2; omega
  refine ⟨fun b hb => ?_, fun x => ?_, ?_, fun x hx => ?_, fun y hy => ?_, fun x hx => ?_, fun x hx => absurd hx (no2 x), fun x hx => absurd hx (no2 x), fun x hx => absurd hx (no2 x), fun x hx => ⟨rfl, ?_⟩, fun x hx => ?_, fun x hx => ?_, rfl, fun y hy o ho => ?_, fun x hx => ?_, fun x hx => absurd hx (no2 x), fun x hx => absurd hx (no2 x), fun x _ _ hx => absurd hx (no2 x)⟩
  · rw [T0_U]
    split
    · decide
    · rw [if_neg (by omega)]; decide
  · rw [O0_K]; split <;> omega
  · rw [O0_K]; rfl
  · rw [O0_K, if_neg (by omega)]
  · rw [T0_fl] at hy
    have : y = (4000, 6, none) := by simpa using hy
    rw [this]
    refine ⟨by decide, ?_, fun _ => rfl, fun z => absurd z (by decide), fun z => absurd z (by decide), fun z => absurd z (by decide)⟩
    show oK O_0 (4000 / 4000) ≠ 0
    rw [show 4000 / 4000 = 1 from rfl, O0_K]; decide
  · obtain ⟨e, -⟩ := O0_1 (k := oK O_0 x) rfl hx
    rw [e, T0_fl]; exact List.mem_cons_self
  · rw [T0_fl]
    show 0 = List.countP _ _
    obtain ⟨e, -⟩ := O0_1 hx (by decide)
    rw [e]; rfl
  · obtain ⟨e, -⟩ := O0_1 (k := oK O_0 x) rfl hx
    rw [e, T0_fl]
    rfl
  · obtain ⟨e, -⟩ := O0_1 hx (by decide)
    rw [e, T0_fl]; rfl
  · rw [T0_fl] at hy
    have : y = (4000, 6, none) := by simpa using hy
    rw [this] at ho; cases ho
  · obtain ⟨e, -⟩ := O0_1 hx (by decide)
    rw [e]
    exact ⟨[1], ⟨rfl, rfl⟩, by simp, fun d hd => by
      have : d = 1 := by simpa using hd
      rw [this, O0_K]; rfl⟩
theorem O0_z : m_z O_0 := fun o ho => by have := (O0_1 ho (by decide)).2; omega
def A_0 : m_A := ((T_0, O_0), (T_0, O_0), 0, -1, 0, 0, 0, fun _ => 0)
theorem A0_ok {B J : Nat} (h1 : 16 ≤ B) (h2 : B ≤ 96) (h3 : 6 ≤ J) (h4 : J ≤ 64) : AI B J A_0 ∧ AZ A_0 := ⟨⟨⟨h1, h2, h3, h4⟩, ⟨T0_ok h1, O0_im⟩, ⟨T0_ok h1, O0_im⟩, Or.inl rfl, Nat.zero_le _, fun _ => Or.inl rfl, fun _ _ => rfl⟩, O0_z, O0_z⟩
