/-! The class's tree over lists: a node leaves its row and is free; fits; the leaf of a key. -/
theorem nx_pv {a b : Nat} : ∀ {L : List Nat}, L.Nodup → (m_nx L a = some b ↔ m_pv L b = some a)
  | [], _ => by simp [m_nx, m_pv]
  | x :: L, hd => by
    have ⟨h1, h2⟩ := List.nodup_cons.mp hd
    rw [pv_cons]
    by_cases ha : a = x
    · subst ha
      rw [nx_hd]
      constructor
      · intro h; rw [if_pos h]
      · intro h
        by_cases hh : L.head? = some b
        · exact hh
        · rw [if_neg hh] at h
          exact absurd (pv_mem h).1 h1
    · rw [nx_tl ha, nx_pv h2]
      constructor
      · intro h
        rw [if_neg (nx_head h2 ((nx_pv h2).mpr h))]
        exact h
      · intro h
        by_cases hh : L.head? = some b
        · rw [if_pos hh] at h
          exact absurd (Option.some.inj h).symm ha
        · rw [if_neg hh] at h
          exact h
theorem nx_ne {a : Nat} : ∀ {L : List Nat}, L.Nodup → m_nx L a ≠ some a
  | [], _ => by simp [m_nx]
  | x :: L, hd => by
    have ⟨h1, h2⟩ := List.nodup_cons.mp hd
    by_cases ha : a = x
    · subst ha
      rw [nx_hd]
      exact fun h => h1 (List.mem_of_head? h)
    · rw [nx_tl ha]; exact nx_ne h2
section CT4
variable {B t : Nat} {S S' : z_S} {T : m_T}
/-- leaveRow: the links of the others; the node's own links stay as they were -/
theorem C_leaveRow {h n : Nat} (hB : B ≤ 96) (hT : c_T B t S T) (hn : n < B) (un : tU T n = 2 ∨ tU T n = 3) (hhn : tH T n = h) (hd : (tR T h).Nodup) (hr : ∀ x ∈ tR T h, x < B ∧ tH T x = h) :
    ∃ S', F_X4_leaveRow B t (nI n) S = some (.inl none, S') ∧ (∀ b, b < B → b ≠ n → (tU T b = 2 ∨ tU T b = 3) → S'.1 (t + 6) b = (if tH T b = h then oI (m_pv (m_era n (tR T h)) b) else S.1 (t + 6) b) ∧ S'.1 (t + 7) b = (if tH T b = h then oI (m_nx (m_era n (tR T h)) b) else S.1 (t + 7) b)) ∧ (∀ a, a ≠ t + 6 → a ≠ t + 7 → S'.1 a = S.1 a) ∧ S'.2 = S.2 := by
  obtain ⟨-, -, q6, q7⟩ := hT.2.2.2.2.2 n hn un
  rw [hhn] at q6 q7
  have hA : z_inb (nI n) B = true := m_inb hn (by omega)
  have xn : (nI n).toNatClampNeg = n := nI_clamp (by omega)
  -- what the two links give
  have key : ∀ (p c : Option Nat), m_pv (tR T h) n = p → m_nx (tR T h) n = c → (∀ x, p = some x → x < B ∧ tH T x = h ∧ m_nx (tR T h) x = some n ∧ x ≠ n) → (∀ x, c = some x → x < B ∧ tH T x = h ∧ m_pv (tR T h) x = some n ∧ x ≠ n) →
      ∃ S', F_X4_leaveRow B t (nI n) S = some (.inl none, S') ∧ S'.1 (t + 7) = (match p with | none => S.1 (t + 7) | some x => upd (S.1 (t + 7)) x (oI c)) ∧ S'.1 (t + 6) = (match c with | none => S.1 (t + 6) | some x => upd (S.1 (t + 6)) x (oI p)) ∧ (∀ a, a ≠ t + 6 → a ≠ t + 7 → S'.1 a = S.1 a) ∧ S'.2 = S.2 := by
    intro p c hp hc hpx hcx
    rw [hp] at q6
    rw [hc] at q7
    cases p with
    | none =>
      have q6' : S.1 (t + 6) n = -1 := q6
      cases c with
      | none =>
        have q7' : S.1 (t + 7) n = -1 := q7
        refine ⟨S, by simp only [F_X4_leaveRow, F_X4_leaveRow_26, F_X4_leaveRow_38, z_lt, z_gd, hA, xn, q6', q7', if_true], rfl, rfl, fun _ _ _ => rfl, rfl⟩
      | some x =>
        have q7' : S.1 (t + 7) n = nI x := q7
        obtain ⟨hx, -⟩ := hcx x rfl
        have hAx : z_inb (nI x) B = true := m_inb hx (by omega)
        have xx : (nI x).toNatClampNeg = x := nI_clamp (by omega)
        have n1 : ¬ nI x = -1 := m_ne1 (by omega)
        refine ⟨_, by simp only [F_X4_leaveRow, F_X4_leaveRow_26, F_X4_leaveRow_38, z_lt, z_gd, hA, xn, q6', q7', n1, hAx, xx, if_true, if_false]; rfl, ?_⟩
        refine ⟨?_, ?_, fun a a1 a2 => ?_, rfl⟩
        · simp [m_ua1]
        · simp [m_ua1, oI]
        · simp [m_ua1, a1, a2]
    | some y =>
      have q6' : S.1 (t + 6) n = nI y := q6
      obtain ⟨hy, -⟩ := hpx y rfl
      have hAy : z_inb (nI y) B = true := m_inb hy (by omega)
      have xy : (nI y).toNatClampNeg = y := nI_clamp (by omega)
      have n2 : ¬ nI y = -1 := m_ne1 (by omega)
      cases c with
      | none =>
        have q7' : S.1 (t + 7) n = -1 := q7
        refine ⟨_, by simp only [F_X4_leaveRow, F_X4_leaveRow_26, F_X4_leaveRow_38, z_lt, z_gd, hA, xn, q6', q7', n2, hAy, xy, if_true, if_false]; rfl, ?_⟩
        refine ⟨?_, ?_, fun a a1 a2 => ?_, rfl⟩
        · simp [m_ua1, oI]
        · simp [m_ua1]
        · simp [m_ua1, a1, a2]
      | some x =>
        have q7' : S.1 (t + 7) n = nI x := q7
        obtain ⟨hx, -⟩ := hcx x rfl
        have hAx : z_inb (nI x) B = true := m_inb hx (by omega)
        have xx : (nI x).toNatClampNeg = x := nI_clamp (by omega)
        have n1 : ¬ nI x = -1 := m_ne1 (by omega)
        refine ⟨_, by simp only [F_X4_leaveRow, F_X4_leaveRow_26, F_X4_leaveRow_38, z_lt, z_gd, hA, xn, q6', q7', n1, n2, hAx, hAy, xx, xy, if_true, if_false]; rfl, ?_⟩
        refine ⟨?_, ?_, fun a a1 a2 => ?_, rfl⟩
        · simp [m_ua1, oI]
        · simp [m_ua1, oI]
        · simp [m_ua1, a1, a2]
  obtain ⟨p, hp⟩ : ∃ p, m_pv (tR T h) n = p := ⟨_, rfl⟩
  obtain ⟨c, hc⟩ : ∃ c, m_nx (tR T h) n = c := ⟨_, rfl⟩
  have hpx : ∀ x, p = some x → x < B ∧ tH T x = h ∧ m_nx (tR T h) x = some n ∧ x ≠ n := fun x e => by
    rw [e] at hp
    obtain ⟨k1, k2⟩ := hr x (pv_mem hp).1
    have k3 := (nx_pv hd).mpr hp
    exact ⟨k1, k2, k3, fun z => nx_ne hd (a := n) (by rw [z] at k3; exact k3)⟩
  have hcx : ∀ x, c = some x → x < B ∧ tH T x = h ∧ m_pv (tR T h) x = some n ∧ x ≠ n := fun x e => by
    rw [e] at hc
    obtain ⟨k1, k2⟩ := hr x (List.mem_of_mem_tail (nx_mem hc))
    exact ⟨k1, k2, (nx_pv hd).mp hc, fun z => nx_ne hd (a := n) (by rw [z] at hc; exact hc)⟩
  obtain ⟨S', hF, f7, f6, fo, f2⟩ := key p c hp hc hpx hcx
  refine ⟨S', hF, fun b hb hbn ub => ⟨?_, ?_⟩, fo, f2⟩
  · obtain ⟨-, -, q6b, -⟩ := hT.2.2.2.2.2 b hb ub
    rw [pv_era hbn hd, f6]
    cases c with
    | none =>
      have hno : ¬ m_pv (tR T h) b = some n := fun e => by rw [(nx_pv hd).mpr e] at hc; cases hc
      rw [if_neg hno]
      by_cases eh : tH T b = h
      · rw [if_pos eh, ← eh]; exact q6b
      · rw [if_neg eh]
    | some x =>
      obtain ⟨k1, k2, k3, k4⟩ := hcx x rfl
      by_cases ebx : b = x
      · subst ebx
        rw [if_pos k2, if_pos k3, hp]; exact pk_us
      · have hno : ¬ m_pv (tR T h) b = some n := fun e => by
          rw [(nx_pv hd).mpr e] at hc
          exact ebx (Option.some.inj hc)
        rw [if_neg hno]
        show upd (S.1 (t + 6)) x (oI p) b = _
        rw [pk_un ebx]
        by_cases eh : tH T b = h
        · rw [if_pos eh, ← eh]; exact q6b
        · rw [if_neg eh]
  · obtain ⟨-, -, -, q7b⟩ := hT.2.2.2.2.2 b hb ub
    rw [nx_era hbn hd, f7]
    cases p with
    | none =>
      have hno : ¬ m_nx (tR T h) b = some n := fun e => by rw [(nx_pv hd).mp e] at hp; cases hp
      rw [if_neg hno]
      by_cases eh : tH T b = h
      · rw [if_pos eh, ← eh]; exact q7b
      · rw [if_neg eh]
    | some x =>
      obtain ⟨k1, k2, k3, k4⟩ := hpx x rfl
      by_cases ebx : b = x
      · subst ebx
        rw [if_pos k2, if_pos k3, hc]; exact pk_us
      · have hno : ¬ m_nx (tR T h) b = some n := fun e => by
          rw [(nx_pv hd).mp e] at hp
          exact ebx (Option.some.inj hp)
        rw [if_neg hno]
        show upd (S.1 (t + 7)) x (oI c) b = _
        rw [pk_un ebx]
        by_cases eh : tH T b = h
        · rw [if_pos eh, ← eh]; exact q7b
        · rw [if_neg eh]
end CT4
