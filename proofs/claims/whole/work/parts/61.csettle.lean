/-! The class: a leaf with too much gives way, as the abstract one does. -/
section CS
variable {B t : Nat} {S S' : z_S} {T T' : m_T}
theorem tsI_same {b : Nat} {L : List m_It} (e : tI T b = L) : tsI T b L = T := by
  have : va_up T.2.2.1 b L = T.2.2.1 := by rw [← e]; exact va_up_same
  simp only [tsI, this]
theorem tsI4 {p q : Nat} {a b c d : List m_It} (h : p ≠ q) : tsI (tsI (tsI (tsI T p a) q b) p c) q d = tsI (tsI T p c) q d := by
  simp only [tsI, up4 h]
theorem tsI_2 {a l : Nat} {A L : List m_It} (hal : a ≠ l) (ha : tI T a = A) (hl : tI T l = L) : tsI (tsI T a A) l L = T := by
  rw [tsI_same ha, tsI_same hl]
theorem C_fits_none {v : Int32} : F_X4_fits B t v (-1) S = some (.inl (some 0), S) := by
  unfold F_X4_fits
  rw [if_pos rfl, F_X4_fits_30, F_X4_fits_31, m_gd (by decide)]
theorem C_fits {l a i : Nat} {x : m_It} (hB : B ≤ 96) (hT : c_T B t S T) (hl : l < B) (ha : a < B) (ul : tU T l = 2) (ua : tU T a = 2) (hi : (tI T l)[i]? = some x) (h1 : m_cost (tI T a) < 2 ^ 20) (h2 : x.2.1 < 2 ^ 20) : F_X4_fits B t (nI (l * 14 + i)) (nI a) S = some (.inl (some (if m_cost (tI T a) + (8 + x.2.1) ≤ 120 then 1 else 0)), S) := by
  obtain ⟨l3, l4, l9, l10, l11, ln⟩ := hT.2.2.2.1 l hl ul
  have hil : i < (tI T l).length := (List.getElem?_eq_some_iff.mp hi).1
  have e10 : S.1 (t + 10) (l * 14 + i) = nI x.2.1 := l10 i _ (by rw [List.getElem?_map, hi]; rfl)
  have e4 : S.1 (t + 4) a = nI (m_cost (tI T a)) := (hT.2.2.2.1 a ha ua).2.1
  have es : nI (m_cost (tI T a)) + 8 + nI x.2.1 = nI (m_cost (tI T a) + 8 + x.2.1) := by rw [m_c8, nI_add, nI_add]
  unfold F_X4_fits
  rw [if_neg (m_ne1 (by omega)), m_gd (m_inb ha (by omega)), m_lt, m_ix (i := a) (by omega), e4, m_gd (m_inb (by omega) (by omega)), m_lt, m_ix (i := l * 14 + i) (by omega), e10, es]
  by_cases hc : m_cost (tI T a) + (8 + x.2.1) ≤ 120
  · rw [if_neg (by rw [m_c120]; exact nI_nlt (by omega) (by omega)), if_pos hc, F_X4_fits_31, m_gd (by decide)]
  · rw [if_pos (by rw [m_c120]; exact nI_lt (by omega) (by omega)), if_neg hc, F_X4_fits_30, F_X4_fits_31, m_gd (by decide)]
theorem C_left_loop {l a : Nat} {v4 : Int32} (hB : B ≤ 96) (hl : l < B) (ha : a < B) (hal : a ≠ l) : ∀ (L A : List m_It) (n i : Nat) (T : m_T) (S : z_S), tI T l = L → tI T a = A → tU T l = 2 → tU T a = 2 → c_T B t S T → i + L.length ≤ 14 → L.length < n → (∀ x ∈ L, m_ig x) → (∀ x ∈ A, m_ig x) → m_cost A ≤ 120 → m_cost L ≤ 168 →
    ∃ S', F_X4_relieve_23 B t n (nI l) (nI (l * 14)) (nI a) v4 (nI i) S = F_X4_relieve_69 B t (nI l) (nI (l * 14)) v4 S' ∧ c_T B t S' (tsI (tsI T a (a_gl A L).1) l (a_gl A L).2) ∧ m_fr t S S'
  | [], A, n, i, T, S, eL, eA, ul, ua, hT, hi, hn, gL, gA, cA, cL => by
    obtain ⟨n, rfl⟩ : ∃ k, n = k + 1 := ⟨n - 1, by omega⟩
    have e4 : S.1 (t + 4) l = nI 0 := by rw [(hT.2.2.2.1 l hl ul).2.1, eL]; rfl
    refine ⟨S, ?_, by rw [show a_gl A [] = (A, []) from rfl, tsI_2 hal eA eL]; exact hT, m_fr_rf⟩
    rw [F_X4_relieve_23]
    by_cases h14 : 14 ≤ nI i
    · rw [if_pos h14]
    · rw [if_neg h14, m_gd (m_inb hl (by omega)), m_lt, m_ix (by omega), e4, if_pos (by decide)]
  | x :: L, A, n, i, T, S, eL, eA, ul, ua, hT, hi, hn, gL, gA, cA, cL => by
    obtain ⟨n, rfl⟩ : ∃ k, n = k + 1 := ⟨n - 1, by omega⟩
    rw [List.length_cons] at hi hn
    have h14 : ¬ (14 : Int32) ≤ nI i := by rw [m_c14]; exact nI_ge (by omega) (by omega)
    have e4 : S.1 (t + 4) l = nI (m_cost (x :: L)) := by rw [(hT.2.2.2.1 l hl ul).2.1, eL]
    have hx := gL x List.mem_cons_self
    rw [F_X4_relieve_23, if_neg h14, m_gd (m_inb hl (by omega)), m_lt, m_ix (by omega), e4, a_gl]
    by_cases hc : m_cost (x :: L) ≤ 120
    · rw [if_pos (by rw [m_c120]; exact nI_le hc (by omega)), if_neg (fun h => by omega)]
      exact ⟨S, rfl, by rw [tsI_2 hal eA eL]; exact hT, m_fr_rf⟩
    · rw [if_neg (by rw [m_c120]; exact nI_ge (by omega) (by omega))]
      have ef := C_fits (l := l) (a := a) (i := 0) (x := x) hB hT hl ha ul ua (by rw [eL]; rfl) (by rw [eA]; omega) (by have := hx.2.1; omega)
      rw [Nat.add_zero, eA] at ef
      rw [ef, m_bn]
      by_cases hf : m_cost A + (8 + x.2.1) ≤ 120
      · rw [if_pos hf, if_neg (show ¬ (1 : Int32) = 0 by decide), if_pos ⟨by omega, hf⟩]
        have lA := m_cost_few gA
        have e3 : S.1 (t + 3) a = nI A.length := by rw [(hT.2.2.2.1 a ha ua).1, eA]
        obtain ⟨S1, s1, s2, s3⟩ := C_shiftItem (f := l) (i := 0) (g := a) (j := A.length) (x := x) hB hT hl ha (Ne.symm hal) ul ua (by rw [eL]; rfl) (by rw [eA]; exact Nat.le_refl _) (by rw [eA]; omega)
        rw [eA, eL] at s2
        have s2' : c_T B t S1 (tsI (tsI T a (A ++ [x])) l L) := by
          have e1 : A.insertIdx A.length x = A ++ [x] := by simp
          rw [e1] at s2
          exact s2
        obtain ⟨S2, r1, r2, r3⟩ := C_left_loop (v4 := v4) hB hl ha hal L (A ++ [x]) n (i + 1) (tsI (tsI T a (A ++ [x])) l L) S1 tI_eq (by rw [tI_ne hal, tI_eq]) ul ua s2' (by omega) (by omega) (fun y hy => gL y (List.mem_cons_of_mem _ hy)) (fun y hy => by
          rcases List.mem_append.mp hy with e | e
          · exact gA y e
          · rw [List.mem_singleton.mp e]; exact hx) (by rw [m_cost_app, m_cost_cons, m_cost_nil]; omega) (by rw [m_cost_cons] at cL; omega)
        rw [tsI4 hal] at r2
        refine ⟨S2, ?_, r2, m_fr_tr s3 r3⟩
        rw [m_gd (m_inb ha (by omega)), m_lt, m_ix (by omega), e3]
        have s1' : F_X4_shiftItem B t (nI l) 0 (nI a) (nI A.length) S = some (.inl none, S1) := s1
        rw [s1', m_bo, nI_1]
        exact r1
      · rw [if_neg hf, if_pos rfl, if_neg (fun h => hf h.2)]
        exact ⟨S, rfl, by rw [tsI_2 hal eA eL]; exact hT, m_fr_rf⟩
theorem C_left_none {l : Nat} {v2 v4 : Int32} (hl : l < B) (hB : B ≤ 96) : F_X4_relieve_23 B t z_n (nI l) v2 (-1) v4 0 S = F_X4_relieve_69 B t (nI l) v2 v4 S := by
  have hz : z_n = 99999 + 1 := rfl
  rw [hz, F_X4_relieve_23, if_neg (by decide), m_gd (m_inb hl (by omega)), m_lt, C_fits_none, m_bn]
  split
  · rfl
  · rw [if_pos rfl]
theorem C_right_loop {l a : Nat} (hB : B ≤ 96) (hl : l < B) (ha : a < B) (hal : a ≠ l) : ∀ (k : Nat) (L C : List m_It) (n i : Nat) (T : m_T) (S : z_S), L.length = k → tI T l = L → tI T a = C → tU T l = 2 → tU T a = 2 → c_T B t S T → i + k ≤ 14 → k < n → (∀ x ∈ L, m_ig x) → (∀ x ∈ C, m_ig x) → m_cost C ≤ 120 → m_cost L ≤ 168 →
    ∃ S', F_X4_relieve_72 B t n (nI l) (nI (l * 14)) (nI a) (nI i) S = F_X4_relieve_131 B t (nI l) S' ∧ c_T B t S' (tsI (tsI T a (a_gr k L C).2) l (a_gr k L C).1) ∧ m_fr t S S'
  | 0, L, C, n, i, T, S, lk, eL, eC, ul, ua, hT, hi, hn, gL, gC, cC, cL => by
    obtain ⟨n, rfl⟩ : ∃ k, n = k + 1 := ⟨n - 1, by omega⟩
    have hL : L = [] := List.eq_nil_of_length_eq_zero lk
    have e4 : S.1 (t + 4) l = nI 0 := by rw [(hT.2.2.2.1 l hl ul).2.1, eL, hL]; rfl
    refine ⟨S, ?_, by rw [show a_gr 0 L C = (L, C) from rfl, tsI_2 hal eC eL]; exact hT, m_fr_rf⟩
    rw [F_X4_relieve_72]
    by_cases h14 : 14 ≤ nI i
    · rw [if_pos h14]
    · rw [if_neg h14, m_gd (m_inb hl (by omega)), m_lt, m_ix (by omega), e4, if_pos (by decide)]
  | k + 1, L, C, n, i, T, S, lk, eL, eC, ul, ua, hT, hi, hn, gL, gC, cC, cL => by
    obtain ⟨n, rfl⟩ : ∃ k, n = k + 1 := ⟨n - 1, by omega⟩
    have hne : L ≠ [] := fun e => by rw [e] at lk; cases lk
    obtain ⟨D, x, hD⟩ := l_last hne
    have hgl : L.getLast? = some x := by rw [hD]; simp
    have hdl : L.dropLast = D := by rw [hD]; simp
    have lD : D.length = k := by rw [hD, List.length_append] at lk; simpa using lk
    have hx := gL x (by rw [hD]; simp)
    have hLk : L[k]? = some x := by rw [hD, ← lD]; simp
    have hLe : L.eraseIdx k = D := by rw [hD, ← lD, List.eraseIdx_append_of_length_le (Nat.le_refl _)]; simp
    have h14 : ¬ (14 : Int32) ≤ nI i := by rw [m_c14]; exact nI_ge (by omega) (by omega)
    have e4 : S.1 (t + 4) l = nI (m_cost L) := by rw [(hT.2.2.2.1 l hl ul).2.1, eL]
    have e3 : S.1 (t + 3) l = nI (k + 1) := by rw [(hT.2.2.2.1 l hl ul).1, eL, lk]
    rw [F_X4_relieve_72, if_neg h14, m_gd (m_inb hl (by omega)), m_lt, m_ix (by omega), e4, a_gr, hgl]
    simp only []
    by_cases hc : m_cost L ≤ 120
    · rw [if_pos (by rw [m_c120]; exact nI_le hc (by omega)), if_neg (fun h => by omega)]
      exact ⟨S, rfl, by rw [tsI_2 hal eC eL]; exact hT, m_fr_rf⟩
    · rw [if_neg (by rw [m_c120]; exact nI_ge (by omega) (by omega)), m_gd (m_inb hl (by omega)), m_lt, e3]
      have ef := C_fits (l := l) (a := a) (i := k) (x := x) hB hT hl ha ul ua (by rw [eL]; exact hLk) (by rw [eC]; omega) (by have := hx.2.1; omega)
      rw [eC] at ef
      have ev : nI (l * 14) + nI (k + 1) - 1 = nI (l * 14 + k) := by
        rw [nI_add, m_c1, pk_sub (by omega)]; rfl
      rw [ev, ef, m_bn]
      by_cases hf : m_cost C + (8 + x.2.1) ≤ 120
      · rw [if_pos hf, if_neg (show ¬ (1 : Int32) = 0 by decide), if_pos ⟨by omega, hf⟩]
        have lC := m_cost_few gC
        obtain ⟨S1, s1, s2, s3⟩ := C_shiftItem (f := l) (i := k) (g := a) (j := 0) (x := x) hB hT hl ha (Ne.symm hal) ul ua (by rw [eL]; exact hLk) (Nat.zero_le _) (by rw [eC]; omega)
        rw [eC, eL, hLe] at s2
        have s2' : c_T B t S1 (tsI (tsI T a (x :: C)) l D) := s2
        obtain ⟨S2, r1, r2, r3⟩ := C_right_loop hB hl ha hal k D (x :: C) n (i + 1) (tsI (tsI T a (x :: C)) l D) S1 lD tI_eq (by rw [tI_ne hal, tI_eq]) ul ua s2' (by omega) (by omega) (fun y hy => gL y (by rw [hD]; exact List.mem_append_left _ hy)) (fun y hy => by
          rcases List.mem_cons.mp hy with e | e
          · rw [e]; exact hx
          · exact gC y e) (by rw [m_cost_cons]; omega) (by rw [hD, m_cost_app] at cL; omega)
        rw [tsI4 hal] at r2
        rw [hdl]
        refine ⟨S2, ?_, r2, m_fr_tr s3 r3⟩
        have es : nI (k + 1) - 1 = nI k := by rw [m_c1, pk_sub (by omega)]; rfl
        have s1' : F_X4_shiftItem B t (nI l) (nI k) (nI a) 0 S = some (.inl none, S1) := s1
        rw [m_gd (m_inb hl (by omega)), m_lt, e3, es, s1', m_bo, nI_1]
        exact r1
      · rw [if_neg hf, if_pos rfl, if_neg (fun h => hf h.2)]
        exact ⟨S, rfl, by rw [tsI_2 hal eC eL]; exact hT, m_fr_rf⟩
theorem C_right_none {l : Nat} {v2 : Int32} (hl : l < B) (hB : B ≤ 96) : F_X4_relieve_72 B t z_n (nI l) v2 (-1) 0 S = F_X4_relieve_131 B t (nI l) S := by
  have hz : z_n = 99999 + 1 := rfl
  rw [hz, F_X4_relieve_72, if_neg (by decide), m_gd (m_inb hl (by omega)), m_lt, m_gd (m_inb hl (by omega)), m_lt, C_fits_none, m_bn]
  split
  · rfl
  · rw [if_pos rfl]
theorem C_cut_loop {l a : Nat} (hB : B ≤ 96) (hl : l < B) (ha : a < B) (hal : a ≠ l) : ∀ (k : Nat) (L C : List m_It) (n i : Nat) (T : m_T) (S : z_S), L.length = k → tI T l = L → tI T a = C → tU T l = 2 → tU T a = 2 → c_T B t S T → i + k ≤ 14 → k < n → (∀ x ∈ L, m_ig x) → (∀ x ∈ C, m_ig x) → m_cost L + m_cost C ≤ 168 →
    ∃ S', F_X4_relieve_162 B t n (nI l) (nI a) (nI i) S = F_X4_relieve_202 B t (nI l) (nI a) S' ∧ c_T B t S' (tsI (tsI T a (a_gr k L C).2) l (a_gr k L C).1) ∧ m_fr t S S'
  | 0, L, C, n, i, T, S, lk, eL, eC, ul, ua, hT, hi, hn, gL, gC, cL => by
    obtain ⟨n, rfl⟩ : ∃ k, n = k + 1 := ⟨n - 1, by omega⟩
    have hL : L = [] := List.eq_nil_of_length_eq_zero lk
    have e4 : S.1 (t + 4) l = nI 0 := by rw [(hT.2.2.2.1 l hl ul).2.1, eL, hL]; rfl
    refine ⟨S, ?_, by rw [show a_gr 0 L C = (L, C) from rfl, tsI_2 hal eC eL]; exact hT, m_fr_rf⟩
    rw [F_X4_relieve_162]
    by_cases h14 : 14 ≤ nI i
    · rw [if_pos h14]
    · rw [if_neg h14, m_gd (m_inb hl (by omega)), m_lt, m_ix (by omega), e4, if_pos (by decide)]
  | k + 1, L, C, n, i, T, S, lk, eL, eC, ul, ua, hT, hi, hn, gL, gC, cL => by
    obtain ⟨n, rfl⟩ : ∃ k, n = k + 1 := ⟨n - 1, by omega⟩
    have hne : L ≠ [] := fun e => by rw [e] at lk; cases lk
    obtain ⟨D, x, hD⟩ := l_last hne
    have hgl : L.getLast? = some x := by rw [hD]; simp
    have hdl : L.dropLast = D := by rw [hD]; simp
    have lD : D.length = k := by rw [hD, List.length_append] at lk; simpa using lk
    have hx := gL x (by rw [hD]; simp)
    have hLk : L[k]? = some x := by rw [hD, ← lD]; simp
    have hLe : L.eraseIdx k = D := by rw [hD, ← lD, List.eraseIdx_append_of_length_le (Nat.le_refl _)]; simp
    have h14 : ¬ (14 : Int32) ≤ nI i := by rw [m_c14]; exact nI_ge (by omega) (by omega)
    have e4 : S.1 (t + 4) l = nI (m_cost L) := by rw [(hT.2.2.2.1 l hl ul).2.1, eL]
    have e3 : S.1 (t + 3) l = nI (k + 1) := by rw [(hT.2.2.2.1 l hl ul).1, eL, lk]
    rw [F_X4_relieve_162, if_neg h14, m_gd (m_inb hl (by omega)), m_lt, m_ix (by omega), e4, a_gr, hgl]
    simp only []
    by_cases hc : m_cost L ≤ 120
    · rw [if_pos (by rw [m_c120]; exact nI_le hc (by omega)), if_neg (fun h => by omega)]
      exact ⟨S, rfl, by rw [tsI_2 hal eC eL]; exact hT, m_fr_rf⟩
    · have hx2 := hx.2.1
      rw [if_neg (by rw [m_c120]; exact nI_ge (by omega) (by omega)), m_gd (m_inb hl (by omega)), m_lt, e3, if_pos ⟨by omega, by omega⟩]
      have lC := m_cost_few gC
      obtain ⟨S1, s1, s2, s3⟩ := C_shiftItem (f := l) (i := k) (g := a) (j := 0) (x := x) hB hT hl ha (Ne.symm hal) ul ua (by rw [eL]; exact hLk) (Nat.zero_le _) (by rw [eC]; omega)
      rw [eC, eL, hLe] at s2
      have s2' : c_T B t S1 (tsI (tsI T a (x :: C)) l D) := s2
      obtain ⟨S2, r1, r2, r3⟩ := C_cut_loop hB hl ha hal k D (x :: C) n (i + 1) (tsI (tsI T a (x :: C)) l D) S1 lD tI_eq (by rw [tI_ne hal, tI_eq]) ul ua s2' (by omega) (by omega) (fun y hy => gL y (by rw [hD]; exact List.mem_append_left _ hy)) (fun y hy => by
        rcases List.mem_cons.mp hy with e | e
        · rw [e]; exact hx
        · exact gC y e) (by rw [hD, m_cost_app, m_cost_cons, m_cost_nil] at cL; rw [m_cost_cons]; omega)
      rw [tsI4 hal] at r2
      rw [hdl]
      refine ⟨S2, ?_, r2, m_fr_tr s3 r3⟩
      have es : nI (k + 1) - 1 = nI k := by rw [m_c1, pk_sub (by omega)]; rfl
      have s1' : F_X4_shiftItem B t (nI l) (nI k) (nI a) 0 S = some (.inl none, S1) := s1
      rw [es, s1', m_bo, nI_1]
      exact r1
/-- what is left of a leaf with too much: a new leaf -/
theorem C_settle2 {l : Nat} (hB : B ≤ 96) (hT : c_T B t S T) (hs : m_sk B 0 0 T) (hl : l ∈ tR T 0) (hv : a_lv T l 168) (hlen : (tI T l).length ≤ 14) :
    (∀ T', a_settle2 B T l = some T' → ∃ S', F_X4_relieve_131 B t (nI l) S = some (.inl (some 1), S') ∧ c_T B t S' T' ∧ m_fr t S S') ∧ (a_settle2 B T l = none → ∃ S', F_X4_relieve_131 B t (nI l) S = some (.inl (some 0), S') ∧ m_fr t S S') := by
  obtain ⟨l1, l2, l3, l4⟩ := hs.2.2.2.1 0 l hl
  rw [if_pos rfl] at l4
  obtain ⟨v1, v2, v3⟩ := hv
  have e4 : S.1 (t + 4) l = nI (m_cost (tI T l)) := (hT.2.2.2.1 l l2 l4).2.1
  have hu : ∀ b, b < B → tU T b < 2 ^ 31 := fun b hb => by have := hs.2.2.2.2.2.2.2.2.2.2.2 b hb; omega
  unfold F_X4_relieve_131 a_settle2
  rw [m_gd (m_inb l2 (by omega)), m_lt, m_ix (by omega), e4]
  by_cases hc : m_cost (tI T l) ≤ 120
  · have g : ¬ (120 : Int32) < nI (m_cost (tI T l)) := by rw [m_c120]; exact nI_nlt (by omega) (by omega)
    rw [if_neg g, m_gd (by decide), if_pos hc]
    exact ⟨fun T' h => ⟨S, rfl, by rw [← Option.some.inj h]; exact hT, m_fr_rf⟩, fun h => by cases h⟩
  · have g : (120 : Int32) < nI (m_cost (tI T l)) := by rw [m_c120]; exact nI_lt (by omega) (by omega)
    rw [if_pos g, if_neg hc]
    cases hf : m_free T B with
    | none =>
      rw [C_takeBlock_none hB (by omega) hT hu hf, m_bn, if_pos rfl, m_gd (by decide)]
      exact ⟨fun T' h => (by cases h), fun _ => ⟨S, rfl, m_fr_rf⟩⟩
    | some f =>
      have hfo := free_ok hf
      have hfn : ∀ g, f ∉ tR T g := fun g => sk_fr hs hfo.2.2
      have hfl : f ≠ l := fun e => hfn 0 (e ▸ hl)
      obtain ⟨S2, e2, c2, f2⟩ := C_takeBlock (v := 2) hB (by omega) hT hu hf (hfn 0)
      have e2' : F_X4_takeBlock B t 2 S = some (.inl (some (nI f)), S2) := e2
      rw [e2', m_bn, if_neg (m_ne1 (by omega))]
      have eIl : tI (m_take T f 2) l = tI T l := l_up_n (Ne.symm hfl)
      have eIf : tI (m_take T f 2) f = [] := l_up_s
      have hig := fl_ig v2 hl
      obtain ⟨S3, e3, c3, f3⟩ := C_cut_loop hB l2 hfo.2.1 hfl (tI T l).length (tI T l) [] z_n 0 (m_take T f 2) S2 rfl eIl eIf (by rw [show tU (m_take T f 2) l = tU T l from l_up_n (Ne.symm hfl)]; exact l4) l_up_s c2 (by omega) (by unfold z_n; omega) hig (fun x hx => by cases hx) (by rw [m_cost_nil]; omega)
      have e3' : F_X4_relieve_162 B t z_n (nI l) (nI f) 0 S2 = F_X4_relieve_202 B t (nI l) (nI f) S3 := e3
      rw [e3']
      have c3' : c_T B t S3 (a_cut T l f) := c3
      obtain ⟨k1, k2, k3⟩ : m_sk B f 0 (a_line (a_cut T l f) l f) ∧ m_nx (tR (a_line (a_cut T l f) l f) 0) l = some f ∧ tR (a_line (a_cut T l f) l f) 0 = m_insA l f (tR T 0) := sk_leaf (L1 := (a_gr (tI T l).length (tI T l) []).1) (L2 := (a_gr (tI T l).length (tI T l) []).2) hs hl hfo
      obtain ⟨i1, i2⟩ := C_addNode_loop (t := t) hB 8 z_n 0 l f (a_cut T l f) S3 rfl (by unfold z_n; omega) c3' k1 hl (hfn 0)
      unfold F_X4_relieve_202 F_X4_addNode
      constructor
      · intro T' ha
        obtain ⟨S4, w1, w2, w3⟩ := i1 T' ha
        have w1' : F_X4_addNode_8 B t z_n (nI f) (nI l) 0 S3 = some (.inl (some 1), S4) := w1
        exact ⟨S4, by rw [w1', m_bn, m_gd (by decide)], w2, m_fr_tr f2 (m_fr_tr f3 w3)⟩
      · intro ha
        obtain ⟨S4, w1, w3⟩ := i2 ha
        have w1' : F_X4_addNode_8 B t z_n (nI f) (nI l) 0 S3 = some (.inl (some 0), S4) := w1
        exact ⟨S4, by rw [w1', m_bn, m_gd (by decide)], m_fr_tr f2 (m_fr_tr f3 w3)⟩
theorem C_relieve {l : Nat} (hB : B ≤ 96) (hT : c_T B t S T) (hs : m_sk B 0 0 T) (hl : l ∈ tR T 0) (hv : a_lv T l 168) (hlen : (tI T l).length ≤ 14) :
    (∀ T', a_settle B T l = some T' → ∃ S', F_X4_relieve B t (nI l) S = some (.inl (some 1), S') ∧ c_T B t S' T' ∧ m_fr t S S') ∧ (a_settle B T l = none → ∃ S', F_X4_relieve B t (nI l) S = some (.inl (some 0), S') ∧ m_fr t S S') := by
  obtain ⟨l1, l2, l3, l4⟩ := hs.2.2.2.1 0 l hl
  rw [if_pos rfl] at l4
  have hnd := hs.2.2.2.2.2.1 0
  have leafU : ∀ b ∈ tR T 0, b < B ∧ tU T b = 2 := fun b hb => by
    obtain ⟨b1, b2, b3, b4⟩ := hs.2.2.2.1 0 b hb
    rw [if_pos rfl] at b4
    exact ⟨b2, b4⟩
  obtain ⟨-, -, q6, q7⟩ := hT.2.2.2.2.2 l l2 (Or.inl l4)
  rw [l3] at q6 q7
  have e14 : nI l * 14 = nI (l * 14) := by rw [m_c14, pk_mul]
  have start : F_X4_relieve B t (nI l) S = F_X4_relieve_23 B t z_n (nI l) (nI (l * 14)) (oI (m_pv (tR T 0) l)) (oI (m_nx (tR T 0) l)) 0 S := by
    unfold F_X4_relieve
    rw [m_gd (m_inb l2 (by omega)), m_lt, m_ix (by omega), q6, m_gd (m_inb l2 (by omega)), m_lt, q7, e14]
  rw [start]
  have v2 := hv.2.1
  have hig := fl_ig v2 hl
  -- to the left
  obtain ⟨S1, a1, a2, a3⟩ : ∃ S', F_X4_relieve_23 B t z_n (nI l) (nI (l * 14)) (oI (m_pv (tR T 0) l)) (oI (m_nx (tR T 0) l)) 0 S = F_X4_relieve_69 B t (nI l) (nI (l * 14)) (oI (m_nx (tR T 0) l)) S' ∧ c_T B t S' (a_left T l (m_pv (tR T 0) l)) ∧ m_fr t S S' := by
    cases ha : m_pv (tR T 0) l with
    | none => exact ⟨S, C_left_none l2 hB, hT, m_fr_rf⟩
    | some a =>
      have hx : m_nx (tR T 0) a = some l := (nx_pv hnd).mpr ha
      have hal : a ≠ l := fun e => nx_ne hnd (e ▸ hx : m_nx (tR T 0) a = some a)
      have ham : a ∈ tR T 0 := nx_src hx
      have w := C_left_loop (v4 := oI (m_nx (tR T 0) l)) hB l2 (leafU a ham).1 hal (tI T l) (tI T a) z_n 0 T S rfl rfl l4 (leafU a ham).2 hT (by omega) (by unfold z_n; omega) hig (fl_ig v2 ham) ((hv.1 a ham).2 hal) hv.2.2
      exact w
  obtain ⟨i1, f1, v1, n1⟩ := left_ok hs hl hv
  have s1 := it_sk i1 hs
  generalize hT1 : a_left T l (m_pv (tR T 0) l) = T1 at a2 i1 f1 v1 n1 s1
  have hR : tR T1 = tR T := i1.2.2.2.2.1
  have hU : tU T1 = tU T := i1.1
  have hl1 : l ∈ tR T1 0 := by rw [hR]; exact hl
  have hig1 := fl_ig v1.2.1 hl1
  rw [a1, F_X4_relieve_69]
  -- to the right
  obtain ⟨S2, b1, b2, b3⟩ : ∃ S', F_X4_relieve_72 B t z_n (nI l) (nI (l * 14)) (oI (m_nx (tR T 0) l)) 0 S1 = F_X4_relieve_131 B t (nI l) S' ∧ c_T B t S' (a_right T1 l (m_nx (tR T 0) l)) ∧ m_fr t S1 S' := by
    cases ha : m_nx (tR T 0) l with
    | none => exact ⟨S1, C_right_none l2 hB, a2, m_fr_rf⟩
    | some a =>
      have ham : a ∈ tR T 0 := List.mem_of_mem_tail (nx_mem ha)
      have hal : a ≠ l := fun e => nx_ne hnd (e ▸ ha : m_nx (tR T 0) a = some a)
      have ham1 : a ∈ tR T1 0 := by rw [hR]; exact ham
      have w := C_right_loop hB l2 (leafU a ham).1 hal (tI T1 l).length (tI T1 l) (tI T1 a) z_n 0 T1 S1 rfl rfl rfl (by rw [hU]; exact l4) (by rw [hU]; exact (leafU a ham).2) a2 (by omega) (by unfold z_n; omega) hig1 (fl_ig v1.2.1 ham1) ((v1.1 a ham1).2 hal) v1.2.2
      exact w
  obtain ⟨i2, f2, v2', n2⟩ := right_ok s1 hl1 v1
  rw [hR] at i2 f2 v2' n2
  have s2 := it_sk i2 s1
  have hl2 : l ∈ tR (a_right T1 l (m_nx (tR T 0) l)) 0 := by rw [i2.2.2.2.2.1]; exact hl1
  obtain ⟨j1, j2⟩ := C_settle2 hB b2 s2 hl2 v2' (by omega)
  have ea : a_settle B T l = a_settle2 B (a_right T1 l (m_nx (tR T 0) l)) l := by unfold a_settle; rw [hT1]
  rw [b1, ea]
  constructor
  · intro T' h
    obtain ⟨S', w1, w2, w3⟩ := j1 T' h
    exact ⟨S', w1, w2, m_fr_tr a3 (m_fr_tr b3 w3)⟩
  · intro h
    obtain ⟨S', w1, w3⟩ := j2 h
    exact ⟨S', w1, m_fr_tr a3 (m_fr_tr b3 w3)⟩
end CS
