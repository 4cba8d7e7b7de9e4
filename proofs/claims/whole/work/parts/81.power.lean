/-! Power and journal: one write, many writes, the journal emptied, what a commit writes. -/
def p_go (P : m_P) : Bool × m_P := if P.2.1 = 0 then (false, 1, -1, P.2.2) else (true, P.1, if P.2.1 ≤ 0 then P.2.1 else P.2.1 - 1, P.2.2.1 + 1, P.2.2.2)
def p_gos : Nat → m_P → Bool × m_P
  | 0, P => (true, P)
  | n + 1, P => if (p_go P).1 = true then p_gos n (p_go P).2 else (false, (p_go P).2)
def p_cnt (h : Nat → Int32) : Nat → Nat → Nat
  | 0, _ => 0
  | n + 1, k => (if h k = 0 then 0 else 1) + p_cnt h n (k + 1)
theorem cnt_0 {h : Nat → Int32} : ∀ {n k : Nat}, (∀ b, k ≤ b → h b = 0) → p_cnt h n k = 0
  | 0, _, _ => rfl
  | n + 1, k, hz => by rw [p_cnt, if_pos (hz k (Nat.le_refl _)), cnt_0 (fun b hb => hz b (by omega))]
theorem cnt_app {h : Nat → Int32} : ∀ {m n k : Nat}, p_cnt h (m + n) k = p_cnt h m k + p_cnt h n (k + m)
  | 0, n, k => by rw [Nat.zero_add, p_cnt, Nat.zero_add, Nat.add_zero]
  | m + 1, n, k => by
    rw [show m + 1 + n = (m + n) + 1 by omega, p_cnt, p_cnt, cnt_app, show k + 1 + m = k + (m + 1) by omega]
    omega
theorem cnt_le {h : Nat → Int32} : ∀ {n k : Nat}, p_cnt h n k ≤ n
  | 0, _ => Nat.le_refl _
  | n + 1, k => by
    rw [p_cnt]
    have := cnt_le (h := h) (n := n) (k := k + 1)
    split <;> omega
theorem go_hold {P : m_P} : (p_go P).2.2.2.2 = P.2.2.2 := by unfold p_go; split <;> rfl
theorem gos_hold : ∀ {n : Nat} {P : m_P}, (p_gos n P).2.2.2.2 = P.2.2.2
  | 0, _ => rfl
  | n + 1, P => by
    rw [p_gos]
    split
    · rw [gos_hold, go_hold]
    · exact go_hold
theorem go_off {P : m_P} (h : P.1 = 0 ∨ P.1 = 1) : (p_go P).2.1 = 0 ∨ (p_go P).2.1 = 1 := by
  unfold p_go
  split
  · exact Or.inr rfl
  · exact h
theorem gos_off : ∀ {n : Nat} {P : m_P}, (P.1 = 0 ∨ P.1 = 1) → (p_gos n P).2.1 = 0 ∨ (p_gos n P).2.1 = 1
  | 0, _, h => h
  | n + 1, P, h => by
    rw [p_gos]
    split
    · exact gos_off (go_off h)
    · exact go_off h
theorem gos_app : ∀ {m n : Nat} {P : m_P}, p_gos (m + n) P = if (p_gos m P).1 = true then p_gos n (p_gos m P).2 else (false, (p_gos m P).2)
  | 0, n, P => by rw [Nat.zero_add]; rfl
  | m + 1, n, P => by
    rw [show m + 1 + n = (m + n) + 1 by omega, p_gos, p_gos]
    by_cases h : (p_go P).1 = true
    · rw [if_pos h, if_pos h, gos_app]
    · rw [if_neg h, if_neg h]
      rw [if_neg (by simp)]
def pC (S : z_S) (P : m_P) : Prop := S.2.1 57 0 = P.1 ∧ S.2.1 57 1 = P.2.1 ∧ S.2.1 57 2 = P.2.2.1
def pK (S : z_S) (P : m_P) (c : Int32) : Prop := S.2.1 60 10 = P.1 ∧ S.2.1 60 11 = P.2.1 ∧ S.2.1 60 13 = P.2.2.1 ∧ S.2.1 60 12 = P.2.2.1 - c
/-- only power changes -/
def z_pc (S S' : z_S) : Prop := S'.1 = S.1 ∧ S'.2.2 = S.2.2 ∧ ∀ a k, a ≠ 57 → S'.2.1 a k = S.2.1 a k
def z_pk (S S' : z_S) : Prop := S'.1 = S.1 ∧ S'.2.2 = S.2.2 ∧ ∀ a k, (a ≠ 60 ∨ k < 10 ∨ 13 < k) → S'.2.1 a k = S.2.1 a k
theorem z_pc_rf {S : z_S} : z_pc S S := ⟨rfl, rfl, fun _ _ _ => rfl⟩
theorem z_pk_rf {S : z_S} : z_pk S S := ⟨rfl, rfl, fun _ _ _ => rfl⟩
theorem z_pc_tr {S S1 S2 : z_S} (h1 : z_pc S S1) (h2 : z_pc S1 S2) : z_pc S S2 := ⟨h2.1.trans h1.1, h2.2.1.trans h1.2.1, fun a k h => (h2.2.2 a k h).trans (h1.2.2 a k h)⟩
theorem z_pk_tr {S S1 S2 : z_S} (h1 : z_pk S S1) (h2 : z_pk S1 S2) : z_pk S S2 := ⟨h2.1.trans h1.1, h2.2.1.trans h1.2.1, fun a k h => (h2.2.2 a k h).trans (h1.2.2 a k h)⟩
def i_b (b : Bool) : Int32 := if b = true then 1 else 0
section PW
variable {B : Nat} {S : z_S} {P : m_P}
theorem C_go (h : pC S P) : ∃ S', F_X3_writesOne B S = some (.inl (some (i_b (p_go P).1)), S') ∧ pC S' (p_go P).2 ∧ z_pc S S' := by
  obtain ⟨h0, h1, h2⟩ := h
  unfold F_X3_writesOne p_go
  rw [h1]
  by_cases e : P.2.1 = 0
  · rw [if_pos e, if_pos e]
    refine ⟨z_ui (z_ui S 57 0 1) 57 1 (-1), ?_, ⟨?_, ?_, ?_⟩, rfl, rfl, fun a k ha => ?_⟩
    · rw [m_gd (by decide), m_lt, m_lt, m_gd (by decide)]; rfl
    · simp [m_ui2]
    · simp [m_ui2]
    · simp [m_ui2, h2]
    · rw [m_ui2, if_neg ha, m_ui2, if_neg ha]
  · rw [if_neg e, if_neg e]
    by_cases e2 : P.2.1 ≤ 0
    · rw [if_pos e2, if_pos e2]
      refine ⟨z_ui S 57 2 (S.2.1 57 2 + 1), ?_, ⟨?_, ?_, ?_⟩, rfl, rfl, fun a k ha => ?_⟩
      · rw [F_X3_writesOne_36, m_lt, m_gd (by decide)]; rfl
      · simp [m_ui2, h0]
      · simp [m_ui2, h1]
      · simp [m_ui2, h2]
      · rw [m_ui2, if_neg ha]
    · rw [if_neg e2, if_neg e2]
      refine ⟨z_ui (z_ui S 57 1 (P.2.1 - 1)) 57 2 ((z_ui S 57 1 (P.2.1 - 1)).2.1 57 2 + 1), ?_, ⟨?_, ?_, ?_⟩, rfl, rfl, fun a k ha => ?_⟩
      · rw [m_lt, F_X3_writesOne_36, m_lt, m_gd (by decide)]; rfl
      · simp [m_ui2, h0]
      · simp [m_ui2]
      · simp [m_ui2, h2]
      · rw [m_ui2, if_neg ha, m_ui2, if_neg ha]
theorem i32_sub1 {a c : Int32} : a + 1 - c = a - c + 1 := by
  rw [Int32.sub_eq_add_neg, Int32.sub_eq_add_neg, Int32.add_assoc, Int32.add_assoc, Int32.add_comm 1]
theorem K_go {c : Int32} (h : pK S P c) : ∃ S', F_X6_goes B S = some (.inl (some (i_b (p_go P).1)), S') ∧ pK S' (p_go P).2 c ∧ z_pk S S' := by
  obtain ⟨h0, h1, h2, h3⟩ := h
  unfold F_X6_goes p_go
  rw [h1]
  by_cases e : P.2.1 = 0
  · rw [if_pos e, if_pos e]
    refine ⟨z_ui (z_ui S 60 10 1) 60 11 (-1), ?_, ⟨?_, ?_, ?_, ?_⟩, rfl, rfl, fun a k ha => ?_⟩
    · rw [m_gd (by decide), m_lt, m_lt, m_gd (by decide)]; rfl
    · simp [m_ui2]
    · simp [m_ui2]
    · simp [m_ui2, h2]
    · simp [m_ui2, h3]
    · rw [m_ui2, m_ui2]
      by_cases e1 : a = 60
      · rw [if_pos e1, if_pos rfl, if_neg (by omega), if_neg (by omega), e1]
      · rw [if_neg e1, m_ui2, if_neg e1]
  · have key : ∀ d : Int32, ∃ S', F_X6_goes_36 B d P.2.1 S = some (.inl (some 1), S') ∧ pK S' (P.1, P.2.1 - d, P.2.2.1 + 1, P.2.2.2) c ∧ z_pk S S' := fun d => by
      refine ⟨z_ui (z_ui (z_ui S 60 11 (P.2.1 - d)) 60 12 (S.2.1 60 12 + 1)) 60 13 (S.2.1 60 13 + 1), ?_, ⟨?_, ?_, ?_, ?_⟩, rfl, rfl, fun a k ha => ?_⟩
      · rw [F_X6_goes_36, m_lt, m_lt, m_lt, m_gd (by decide)]
        simp [m_ui2]
      · simp [m_ui2, h0]
      · simp [m_ui2]
      · simp [m_ui2, h2]
      · simp [m_ui2, h3, i32_sub1]
      · rw [m_ui2, m_ui2, m_ui2]
        by_cases e1 : a = 60
        · rw [if_pos e1, if_pos rfl, if_pos rfl, if_neg (by omega), if_neg (by omega), if_neg (by omega), e1]
        · rw [if_neg e1, m_ui2, if_neg e1, m_ui2, if_neg e1]
    rw [if_neg e, if_neg e]
    by_cases e2 : P.2.1 ≤ 0
    · rw [if_pos e2, if_pos e2]
      obtain ⟨S', w1, w2, w3⟩ := key 0
      rw [Int32.sub_zero] at w2
      exact ⟨S', w1, w2, w3⟩
    · rw [if_neg e2, if_neg e2]
      exact key 1
/-- the class's journal is emptied: the writes -/
theorem C_empties_loop {h : Nat → Int32} (hB : B ≤ 96) : ∀ (m n i : Nat) (S : z_S) (P : m_P), i + m = B → m < n → pC S P → (∀ b, b < B → S.1 56 b = h b) →
    ∃ S', pC S' (p_gos (p_cnt h m i + 1) P).2 ∧ z_pc S S' ∧ F_X1_empties_11 B n (nI i) S = if (p_gos (p_cnt h m i + 1) P).1 = true then F_X1_empties_55 B z_n 0 S' else some (.inl (some 0), S')
  | 0, n, i, S, P, hi, hn, hp, hh => by
    obtain ⟨n, rfl⟩ : ∃ j, n = j + 1 := ⟨n - 1, by omega⟩
    obtain ⟨S1, a1, p1, f1⟩ := C_go (B := B) hp
    have e1 : (Int32.ofNat B) ≤ nI i := nI_le (a := B) (by omega) (by omega)
    rw [F_X1_empties_11, if_pos e1, a1, m_bn, p_cnt, p_gos]
    by_cases hg : (p_go P).1 = true
    · rw [if_pos hg]
      refine ⟨S1, p1, f1, ?_⟩
      rw [if_pos (show (p_gos 0 (p_go P).2).1 = true from rfl), hg, if_neg (by decide)]
    · rw [if_neg hg]
      refine ⟨S1, p1, f1, ?_⟩
      have hg' : (p_go P).1 = false := by simpa using hg
      rw [hg', if_pos (show i_b false = 0 from rfl), m_gd (by decide), if_neg (show ¬ (false, (p_go P).2).1 = true from Bool.false_ne_true)]
  | m + 1, n, i, S, P, hi, hn, hp, hh => by
    obtain ⟨n, rfl⟩ : ∃ j, n = j + 1 := ⟨n - 1, by omega⟩
    have e1 : ¬ (Int32.ofNat B) ≤ nI i := nI_ge (b := B) (by omega) (by omega)
    rw [F_X1_empties_11, if_neg e1, m_gd (m_inb (by omega) (by omega)), m_lt, m_ix (by omega), hh i (by omega), p_cnt]
    by_cases hz : h i = 0
    · rw [if_pos hz, if_pos hz, Nat.zero_add, F_X1_empties_38, nI_1]
      exact C_empties_loop hB m n (i + 1) S P (by omega) (by omega) hp hh
    · obtain ⟨S1, a1, p1, f1⟩ := C_go (B := B) hp
      rw [if_neg hz, if_neg hz, a1, m_bn, show 1 + p_cnt h m (i + 1) + 1 = (p_cnt h m (i + 1) + 1) + 1 by omega, p_gos]
      by_cases hg : (p_go P).1 = true
      · rw [if_pos hg, hg, if_neg (by decide), F_X1_empties_38, nI_1]
        obtain ⟨S2, p2, f2, a2⟩ := C_empties_loop (h := h) hB m n (i + 1) S1 (p_go P).2 (by omega) (by omega) p1 (by rw [f1.1]; exact hh)
        exact ⟨S2, p2, z_pc_tr f1 f2, a2⟩
      · have hg' : (p_go P).1 = false := by simpa using hg
        rw [if_neg hg]
        exact ⟨S1, p1, f1, by rw [hg', if_pos (show i_b false = 0 from rfl), m_gd (by decide), if_neg (show ¬ (false, (p_go P).2).1 = true from Bool.false_ne_true)]⟩
theorem K_home_loop {c : Int32} {h : Nat → Int32} : ∀ (m n i : Nat) (S : z_S) (P : m_P), i + m = 96 → m < n → pK S P c → (∀ b, b < 96 → S.1 65 b = h b) →
    ∃ S', pK S' (p_gos (p_cnt h m i + 1) P).2 c ∧ z_pk S S' ∧ F_X6_home_11 B n (nI i) S = if (p_gos (p_cnt h m i + 1) P).1 = true then F_X6_home_52 B z_n 0 S' else some (.inl (some 0), S')
  | 0, n, i, S, P, hi, hn, hp, hh => by
    obtain ⟨n, rfl⟩ : ∃ j, n = j + 1 := ⟨n - 1, by omega⟩
    obtain ⟨S1, a1, p1, f1⟩ := K_go (B := B) hp
    have e1 : (96 : Int32) ≤ nI i := by rw [m_c96]; exact nI_le (by omega) (by omega)
    rw [F_X6_home_11, if_pos e1, a1, m_bn, p_cnt, p_gos]
    by_cases hg : (p_go P).1 = true
    · rw [if_pos hg]
      refine ⟨S1, p1, f1, ?_⟩
      rw [if_pos (show (p_gos 0 (p_go P).2).1 = true from rfl), hg, if_neg (by decide)]
    · rw [if_neg hg]
      refine ⟨S1, p1, f1, ?_⟩
      have hg' : (p_go P).1 = false := by simpa using hg
      rw [hg', if_pos (show i_b false = 0 from rfl), m_gd (by decide), if_neg (show ¬ (false, (p_go P).2).1 = true from Bool.false_ne_true)]
  | m + 1, n, i, S, P, hi, hn, hp, hh => by
    obtain ⟨n, rfl⟩ : ∃ j, n = j + 1 := ⟨n - 1, by omega⟩
    have e1 : ¬ (96 : Int32) ≤ nI i := by rw [m_c96]; exact nI_ge (by omega) (by omega)
    rw [F_X6_home_11, if_neg e1, m_gd (m_inb (by omega) (by omega)), m_lt, m_ix (by omega), hh i (by omega), p_cnt]
    by_cases hz : h i = 0
    · rw [if_pos hz, if_pos hz, Nat.zero_add, F_X6_home_35, nI_1]
      exact K_home_loop m n (i + 1) S P (by omega) (by omega) hp hh
    · obtain ⟨S1, a1, p1, f1⟩ := K_go (B := B) hp
      rw [if_neg hz, if_neg hz, a1, m_bn, show 1 + p_cnt h m (i + 1) + 1 = (p_cnt h m (i + 1) + 1) + 1 by omega, p_gos]
      by_cases hg : (p_go P).1 = true
      · rw [if_pos hg, hg, if_neg (by decide), F_X6_home_35, nI_1]
        obtain ⟨S2, p2, f2, a2⟩ := K_home_loop (c := c) (h := h) m n (i + 1) S1 (p_go P).2 (by omega) (by omega) p1 (by rw [f1.1]; exact hh)
        exact ⟨S2, p2, z_pk_tr f1 f2, a2⟩
      · have hg' : (p_go P).1 = false := by simpa using hg
        rw [if_neg hg]
        exact ⟨S1, p1, f1, by rw [hg', if_pos (show i_b false = 0 from rfl), m_gd (by decide), if_neg (show ¬ (false, (p_go P).2).1 = true from Bool.false_ne_true)]⟩
/-- and is cleared -/
theorem C_clear_loop (hB : B ≤ 96) : ∀ (m n i : Nat) (S : z_S), i + m = B → m < n → (∀ b, b < i → S.1 56 b = 0) →
    ∃ g, (∀ b, b < B → g b = 0) ∧ F_X1_empties_55 B n (nI i) S = some (.inl (some 1), z_ui (z_ua S 56 g) 55 2 0)
  | 0, n, i, S, hi, hn, hz => by
    obtain ⟨n, rfl⟩ : ∃ j, n = j + 1 := ⟨n - 1, by omega⟩
    have e1 : (Int32.ofNat B) ≤ nI i := nI_le (a := B) (by omega) (by omega)
    refine ⟨S.1 56, fun b hb => hz b (by omega), ?_⟩
    rw [F_X1_empties_55, if_pos e1, m_lt, m_gd (by decide), z_ua_same]
  | m + 1, n, i, S, hi, hn, hz => by
    obtain ⟨n, rfl⟩ : ∃ j, n = j + 1 := ⟨n - 1, by omega⟩
    have e1 : ¬ (Int32.ofNat B) ≤ nI i := nI_ge (b := B) (by omega) (by omega)
    have ev : vp_nar .boolean 0 = (0 : Int32) := by decide
    obtain ⟨g, g1, g2⟩ := C_clear_loop hB m n (i + 1) (z_ua S 56 (upd (S.1 56) i 0)) (by omega) (by omega) (fun b hb => by
      rw [m_ua1, if_pos rfl]
      by_cases e : b = i
      · rw [e, pk_us]
      · rw [pk_un e]; exact hz b (by omega))
    rw [z_ua_ua] at g2
    refine ⟨g, g1, ?_⟩
    rw [F_X1_empties_55, if_neg e1, m_gd (m_inb (by omega) (by omega)), m_lt, m_ix (by omega), ev, nI_1]
    exact g2
theorem K_clear_loop : ∀ (m n i : Nat) (S : z_S), i + m = 96 → m < n → (∀ b, b < i → S.1 65 b = 0) →
    ∃ g, (∀ b, b < 96 → g b = 0) ∧ F_X6_home_52 B n (nI i) S = some (.inl (some 1), z_ui (z_ua S 65 g) 60 9 0)
  | 0, n, i, S, hi, hn, hz => by
    obtain ⟨n, rfl⟩ : ∃ j, n = j + 1 := ⟨n - 1, by omega⟩
    have e1 : (96 : Int32) ≤ nI i := by rw [m_c96]; exact nI_le (by omega) (by omega)
    refine ⟨S.1 65, fun b hb => hz b (by omega), ?_⟩
    rw [F_X6_home_52, if_pos e1, m_lt, m_gd (by decide), z_ua_same]
  | m + 1, n, i, S, hi, hn, hz => by
    obtain ⟨n, rfl⟩ : ∃ j, n = j + 1 := ⟨n - 1, by omega⟩
    have e1 : ¬ (96 : Int32) ≤ nI i := by rw [m_c96]; exact nI_ge (by omega) (by omega)
    have ev : vp_nar .boolean 0 = (0 : Int32) := by decide
    obtain ⟨g, g1, g2⟩ := K_clear_loop m n (i + 1) (z_ua S 65 (upd (S.1 65) i 0)) (by omega) (by omega) (fun b hb => by
      rw [m_ua1, if_pos rfl]
      by_cases e : b = i
      · rw [e, pk_us]
      · rw [pk_un e]; exact hz b (by omega))
    rw [z_ua_ua] at g2
    refine ⟨g, g1, ?_⟩
    rw [F_X6_home_52, if_neg e1, m_gd (m_inb (by omega) (by omega)), m_lt, m_ix (by omega), ev, nI_1]
    exact g2
end PW
/-- the journal goes home -/
def p_home (B : Nat) (P : m_P) : Bool × m_P := if P.2.2.2.1 = 0 then (true, P) else
  if (p_gos (p_cnt P.2.2.2.2.2 B 0 + 1) P).1 = true then (true, (p_gos (p_cnt P.2.2.2.2.2 B 0 + 1) P).2.1, (p_gos (p_cnt P.2.2.2.2.2 B 0 + 1) P).2.2.1, (p_gos (p_cnt P.2.2.2.2.2 B 0 + 1) P).2.2.2.1, 0, P.2.2.2.2.1, fun _ => 0) else (false, (p_gos (p_cnt P.2.2.2.2.2 B 0 + 1) P).2)
def jC (B : Nat) (S : z_S) (P : m_P) : Prop := pC S P ∧ S.2.1 55 2 = nI P.2.2.2.1 ∧ S.2.1 55 3 = P.2.2.2.2.1 ∧ ∀ b, b < B → S.1 56 b = P.2.2.2.2.2 b
def jK (S : z_S) (P : m_P) (c : Int32) : Prop := pK S P c ∧ S.2.1 60 9 = nI P.2.2.2.1 ∧ S.2.1 60 14 = P.2.2.2.2.1 ∧ ∀ b, b < 96 → S.1 65 b = P.2.2.2.2.2 b
/-- only power and journal change -/
def z_jc (S S' : z_S) : Prop := (∀ a, a ≠ 56 → S'.1 a = S.1 a) ∧ S'.2.2 = S.2.2 ∧ ∀ a k, a ≠ 57 → (a ≠ 55 ∨ (k ≠ 2 ∧ k ≠ 3)) → S'.2.1 a k = S.2.1 a k
def z_jk (S S' : z_S) : Prop := (∀ a, a ≠ 65 → S'.1 a = S.1 a) ∧ S'.2.2 = S.2.2 ∧ ∀ a k, (a ≠ 60 ∨ k < 9) → S'.2.1 a k = S.2.1 a k
theorem z_jc_rf {S : z_S} : z_jc S S := ⟨fun _ _ => rfl, rfl, fun _ _ _ _ => rfl⟩
theorem z_jk_rf {S : z_S} : z_jk S S := ⟨fun _ _ => rfl, rfl, fun _ _ _ => rfl⟩
theorem z_jc_tr {S S1 S2 : z_S} (h1 : z_jc S S1) (h2 : z_jc S1 S2) : z_jc S S2 := ⟨fun a h => (h2.1 a h).trans (h1.1 a h), h2.2.1.trans h1.2.1, fun a k h h' => (h2.2.2 a k h h').trans (h1.2.2 a k h h')⟩
theorem z_jk_tr {S S1 S2 : z_S} (h1 : z_jk S S1) (h2 : z_jk S1 S2) : z_jk S S2 := ⟨fun a h => (h2.1 a h).trans (h1.1 a h), h2.2.1.trans h1.2.1, fun a k h => (h2.2.2 a k h).trans (h1.2.2 a k h)⟩
theorem z_jc_pc {S S' : z_S} (h : z_pc S S') : z_jc S S' := ⟨fun a _ => by rw [h.1], h.2.1, fun a k h1 _ => h.2.2 a k h1⟩
theorem z_jk_pk {S S' : z_S} (h : z_pk S S') : z_jk S S' := ⟨fun a _ => by rw [h.1], h.2.1, fun a k h1 => h.2.2 a k (by omega)⟩
section HM
variable {B : Nat} {S : z_S} {P : m_P}
theorem C_empties (hB : B ≤ 96) (hu : P.2.2.2.1 < 2 ^ 31) (h : jC B S P) : ∃ S', F_X1_empties B S = some (.inl (some (i_b (p_home B P).1)), S') ∧ jC B S' (p_home B P).2 ∧ z_jc S S' := by
  obtain ⟨h1, h2, h3, h4⟩ := h
  unfold F_X1_empties p_home
  rw [h2]
  by_cases e : P.2.2.2.1 = 0
  · rw [if_pos (show nI P.2.2.2.1 = 0 by rw [e]; rfl), if_pos e, m_gd (by decide)]
    exact ⟨S, rfl, ⟨h1, h2, h3, h4⟩, z_jc_rf⟩
  · rw [if_neg (fun z => e ((nI_eq hu (by omega)).mp (z.trans m_c0))), if_neg e]
    obtain ⟨S1, p1, f1, a1⟩ := C_empties_loop (h := P.2.2.2.2.2) hB B z_n 0 S P (by omega) (by unfold z_n; omega) h1 h4
    have a1' : F_X1_empties_11 B z_n 0 S = _ := a1
    have hh := gos_hold (n := p_cnt P.2.2.2.2.2 B 0 + 1) (P := P)
    rw [a1']
    by_cases hg : (p_gos (p_cnt P.2.2.2.2.2 B 0 + 1) P).1 = true
    · rw [if_pos hg, if_pos hg]
      obtain ⟨g, g1, g2⟩ := C_clear_loop hB B z_n 0 S1 (by omega) (by unfold z_n; omega) (fun b hb => by omega)
      have g2' : F_X1_empties_55 B z_n 0 S1 = some (.inl (some 1), z_ui (z_ua S1 56 g) 55 2 0) := g2
      refine ⟨_, g2', ⟨⟨?_, ?_, ?_⟩, ?_, ?_, fun b hb => ?_⟩, fun a ha => ?_, ?_, fun a k ha hk => ?_⟩
      · rw [m_ui2, if_neg (by decide)]; exact p1.1
      · rw [m_ui2, if_neg (by decide)]; exact p1.2.1
      · rw [m_ui2, if_neg (by decide)]; exact p1.2.2
      · rw [m_ui2, if_pos rfl, if_pos rfl]; rfl
      · rw [m_ui2, if_pos rfl, if_neg (by decide)]
        show S1.2.1 55 3 = _
        rw [f1.2.2 _ _ (by decide)]; exact h3
      · show (z_ua S1 56 g).1 56 b = 0
        rw [m_ua1, if_pos rfl]; exact g1 b hb
      · show (z_ua S1 56 g).1 a = _
        rw [m_ua1, if_neg ha, f1.1]
      · show S1.2.2 = _
        exact f1.2.1
      · rw [m_ui2]
        by_cases e1 : a = 55
        · rw [if_pos e1, if_neg (by omega), e1]
          show S1.2.1 55 k = _
          exact f1.2.2 _ _ (by decide)
        · rw [if_neg e1]
          show S1.2.1 a k = _
          exact f1.2.2 _ _ ha
    · rw [if_neg hg, if_neg hg]
      refine ⟨S1, rfl, ⟨p1, ?_, ?_, fun b hb => ?_⟩, z_jc_pc f1⟩
      · rw [f1.2.2 _ _ (by decide), h2]
        show nI P.2.2.2.1 = nI (p_gos (p_cnt P.2.2.2.2.2 B 0 + 1) P).2.2.2.2.1
        rw [hh]
      · rw [f1.2.2 _ _ (by decide), h3]
        show P.2.2.2.2.1 = (p_gos (p_cnt P.2.2.2.2.2 B 0 + 1) P).2.2.2.2.2.1
        rw [hh]
      · rw [f1.1, h4 b hb]
        show P.2.2.2.2.2 b = (p_gos (p_cnt P.2.2.2.2.2 B 0 + 1) P).2.2.2.2.2.2 b
        rw [hh]
theorem cnt_96 {h : Nat → Int32} (hB : B ≤ 96) (hz : ∀ b, B ≤ b → h b = 0) : p_cnt h 96 0 = p_cnt h B 0 := by
  rw [show 96 = B + (96 - B) by omega, cnt_app, cnt_0 (n := 96 - B) (k := 0 + B) (fun b hb => hz b (by omega))]
  omega
theorem K_home {c : Int32} (hB : B ≤ 96) (hu : P.2.2.2.1 < 2 ^ 31) (hz : ∀ b, B ≤ b → P.2.2.2.2.2 b = 0) (h : jK S P c) : ∃ S', F_X6_home B S = some (.inl (some (i_b (p_home B P).1)), S') ∧ jK S' (p_home B P).2 c ∧ z_jk S S' := by
  obtain ⟨h1, h2, h3, h4⟩ := h
  unfold F_X6_home p_home
  rw [h2]
  by_cases e : P.2.2.2.1 = 0
  · rw [if_pos (show nI P.2.2.2.1 = 0 by rw [e]; rfl), if_pos e, m_gd (by decide)]
    exact ⟨S, rfl, ⟨h1, h2, h3, h4⟩, z_jk_rf⟩
  · rw [if_neg (fun z => e ((nI_eq hu (by omega)).mp (z.trans m_c0))), if_neg e]
    obtain ⟨S1, p1, f1, a1⟩ := K_home_loop (B := B) (h := P.2.2.2.2.2) 96 z_n 0 S P (by omega) (by unfold z_n; omega) h1 h4
    rw [cnt_96 hB hz] at p1 a1
    have a1' : F_X6_home_11 B z_n 0 S = _ := a1
    have hh := gos_hold (n := p_cnt P.2.2.2.2.2 B 0 + 1) (P := P)
    rw [a1']
    by_cases hg : (p_gos (p_cnt P.2.2.2.2.2 B 0 + 1) P).1 = true
    · rw [if_pos hg, if_pos hg]
      obtain ⟨g, g1, g2⟩ := K_clear_loop (B := B) 96 z_n 0 S1 (by omega) (by unfold z_n; omega) (fun b hb => by omega)
      have g2' : F_X6_home_52 B z_n 0 S1 = some (.inl (some 1), z_ui (z_ua S1 65 g) 60 9 0) := g2
      refine ⟨_, g2', ⟨⟨?_, ?_, ?_, ?_⟩, ?_, ?_, fun b hb => ?_⟩, fun a ha => ?_, ?_, fun a k ha => ?_⟩
      · rw [m_ui2, if_pos rfl, if_neg (by decide)]; exact p1.1
      · rw [m_ui2, if_pos rfl, if_neg (by decide)]; exact p1.2.1
      · rw [m_ui2, if_pos rfl, if_neg (by decide)]; exact p1.2.2.1
      · rw [m_ui2, if_pos rfl, if_neg (by decide)]; exact p1.2.2.2
      · rw [m_ui2, if_pos rfl, if_pos rfl]; rfl
      · rw [m_ui2, if_pos rfl, if_neg (by decide)]
        show S1.2.1 60 14 = _
        rw [f1.2.2 _ _ (by decide)]; exact h3
      · show (z_ua S1 65 g).1 65 b = 0
        rw [m_ua1, if_pos rfl]; exact g1 b hb
      · show (z_ua S1 65 g).1 a = _
        rw [m_ua1, if_neg ha, f1.1]
      · show S1.2.2 = _
        exact f1.2.1
      · rw [m_ui2]
        by_cases e1 : a = 60
        · rw [if_pos e1, if_neg (by omega), e1]
          show S1.2.1 60 k = _
          exact f1.2.2 _ _ (by omega)
        · rw [if_neg e1]
          show S1.2.1 a k = _
          exact f1.2.2 _ _ (by omega)
    · rw [if_neg hg, if_neg hg]
      refine ⟨S1, rfl, ⟨p1, ?_, ?_, fun b hb => ?_⟩, z_jk_pk f1⟩
      · rw [f1.2.2 _ _ (by decide), h2]
        show nI P.2.2.2.1 = nI (p_gos (p_cnt P.2.2.2.2.2 B 0 + 1) P).2.2.2.2.1
        rw [hh]
      · rw [f1.2.2 _ _ (by decide), h3]
        show P.2.2.2.2.1 = (p_gos (p_cnt P.2.2.2.2.2 B 0 + 1) P).2.2.2.2.2.1
        rw [hh]
      · rw [f1.1, h4 b hb]
        show P.2.2.2.2.2 b = (p_gos (p_cnt P.2.2.2.2.2 B 0 + 1) P).2.2.2.2.2.2 b
        rw [hh]
theorem home_ok {J : Nat} (h1 : P.1 = 0 ∨ P.1 = 1) (h2 : P.2.2.2.1 ≤ J) (h3 : ∀ b, P.2.2.2.2.2 b = 0 ∨ P.2.2.2.2.2 b = 1) (h4 : ∀ b, B ≤ b → P.2.2.2.2.2 b = 0) : ((p_home B P).2.1 = 0 ∨ (p_home B P).2.1 = 1) ∧ (p_home B P).2.2.2.2.1 ≤ J ∧ (∀ b, (p_home B P).2.2.2.2.2.2 b = 0 ∨ (p_home B P).2.2.2.2.2.2 b = 1) ∧ ∀ b, B ≤ b → (p_home B P).2.2.2.2.2.2 b = 0 := by
  have hh := gos_hold (n := p_cnt P.2.2.2.2.2 B 0 + 1) (P := P)
  unfold p_home
  split
  · exact ⟨h1, h2, h3, h4⟩
  · split
    · exact ⟨gos_off h1, Nat.zero_le _, fun _ => Or.inl rfl, fun _ _ => rfl⟩
    · refine ⟨gos_off h1, ?_, ?_, ?_⟩
      · show (p_gos (p_cnt P.2.2.2.2.2 B 0 + 1) P).2.2.2.2.1 ≤ J
        rw [hh]; exact h2
      · show ∀ b, (p_gos (p_cnt P.2.2.2.2.2 B 0 + 1) P).2.2.2.2.2.2 b = 0 ∨ _
        rw [hh]; exact h3
      · show ∀ b, B ≤ b → (p_gos (p_cnt P.2.2.2.2.2 B 0 + 1) P).2.2.2.2.2.2 b = 0
        rw [hh]; exact h4
end HM
