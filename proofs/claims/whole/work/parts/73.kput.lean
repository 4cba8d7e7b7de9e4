/-! The reference: compare, leafOf, find, put, remove, resize are the abstract ones. -/
theorem m_sub_sign {a b : Nat} (ha : a < 2 ^ 30) (hb : b < 2 ^ 30) : (nI a - nI b = 0 ↔ a = b) ∧ (0 < nI a - nI b ↔ b < a) := by
  by_cases h : b ≤ a
  · rw [pk_sub h, m_c0]
    refine ⟨⟨fun e => ?_, fun e => by rw [e, Nat.sub_self]⟩, ⟨fun e => ?_, fun e => nI_lt (by omega) (by omega)⟩⟩
    · have := (nI_eq (by omega) (by omega)).mp e
      omega
    · by_cases h2 : b < a
      · exact h2
      · rw [show a - b = 0 by omega] at e
        exact absurd e (nI_nlt (Nat.le_refl _) (by omega))
  · have e1 : (nI a - nI b).toInt = (a : Int) - b := by
      rw [Int32.toInt_sub, nI_toInt (by omega), nI_toInt (by omega)]
      rw [Int.bmod_def]
      split <;> omega
    refine ⟨⟨fun e => ?_, fun e => by omega⟩, ⟨fun e => ?_, fun e => by omega⟩⟩
    · rw [e] at e1
      have : (0 : Int32).toInt = 0 := by decide
      omega
    · have h2 := Int32.lt_iff_toInt_lt.mp e
      have : (0 : Int32).toInt = 0 := by decide
      omega
theorem bef_lt {k : Nat} : ∀ {L : List m_It} {i : Nat} {y : m_It}, L[i]? = some y → i < m_bef L k → y.1 < k
  | [], i, y, h, _ => by simp at h
  | a :: L, i, y, h, hi => by
    rw [m_bef, List.takeWhile_cons] at hi
    by_cases hlt : a.1 < k
    · rw [decide_eq_true hlt, if_pos rfl, List.length_cons] at hi
      cases i with
      | zero => rw [List.getElem?_cons_zero] at h; rw [← Option.some.inj h]; exact hlt
      | succ i =>
        rw [List.getElem?_cons_succ] at h
        exact bef_lt (k := k) h (by rw [m_bef]; omega)
    · rw [decide_eq_false hlt] at hi
      simp at hi
theorem bef_ge {k : Nat} : ∀ {L : List m_It} {i : Nat} {y : m_It}, m_so L → L[i]? = some y → m_bef L k ≤ i → k ≤ y.1
  | [], i, y, _, h, _ => by simp at h
  | a :: L, i, y, hs, h, hi => by
    obtain ⟨h1, h2⟩ := List.pairwise_cons.mp hs
    rw [m_bef, List.takeWhile_cons] at hi
    by_cases hlt : a.1 < k
    · rw [decide_eq_true hlt, if_pos rfl, List.length_cons] at hi
      cases i with
      | zero => omega
      | succ i =>
        rw [List.getElem?_cons_succ] at h
        exact bef_ge (k := k) h2 h (by rw [m_bef]; omega)
    · cases i with
      | zero => rw [List.getElem?_cons_zero] at h; rw [← Option.some.inj h]; omega
      | succ i =>
        rw [List.getElem?_cons_succ] at h
        have := h1 y (List.mem_of_getElem? h)
        omega
theorem bef_le {k : Nat} {L : List m_It} : m_bef L k ≤ L.length := (List.takeWhile_sublist _).length_le
section KP
variable {B : Nat} {S : z_S} {T : m_T} {f : Nat → Int32}
theorem K_compare {b i y k : Nat} (hb : b < 96) (hi : i < 16) (h1 : f (4620 + (16 * b + i)) = nI (y / 4000)) (h2 : f (6156 + (16 * b + i)) = nI (y / 1000 % 4)) (h3 : f (7692 + (16 * b + i)) = nI (y % 1000)) (hy : y < 2 ^ 20) (hk : k < 2 ^ 20) :
    ∃ r, F_X6_compare B (nI b) (nI i) (nI (k / 4000)) (nI (k / 1000 % 4)) (nI (k % 1000)) (z_ua S 61 f) = some (.inl (some r), z_ua S 61 f) ∧ (r = 0 ↔ y = k) ∧ (0 < r ↔ k < y) := by
  have e : (16 : Int32) * nI b + nI i = nI (16 * b + i) := by rw [m_c16, pk_mul, nI_add]
  have e1 : (4620 : Int32) + nI (16 * b + i) = nI (4620 + (16 * b + i)) := by rw [m_c4620, nI_add]
  have e2 : (6156 : Int32) + nI (16 * b + i) = nI (6156 + (16 * b + i)) := by rw [m_c6156, nI_add]
  have e3 : (7692 : Int32) + nI (16 * b + i) = nI (7692 + (16 * b + i)) := by rw [m_c7692, nI_add]
  unfold F_X6_compare
  rw [e, e1, m_gd (m_inb (by omega) (by omega)), m_lt, m_ix (i := 4620 + (16 * b + i)) (by omega), z_ua_at, h1]
  by_cases c1 : y / 4000 = k / 4000
  · rw [if_pos (by rw [c1]), e2, m_gd (m_inb (by omega) (by omega)), m_lt, m_ix (i := 6156 + (16 * b + i)) (by omega), h2]
    by_cases c2 : y / 1000 % 4 = k / 1000 % 4
    · obtain ⟨s1, s2⟩ := m_sub_sign (a := y % 1000) (b := k % 1000) (by omega) (by omega)
      rw [if_pos (by rw [c2]), e3, m_gd (m_inb (by omega) (by omega)), m_lt, m_ix (i := 7692 + (16 * b + i)) (by omega), h3, F_X6_compare_86]
      exact ⟨_, rfl, by rw [s1]; omega, by rw [s2]; omega⟩
    · obtain ⟨s1, s2⟩ := m_sub_sign (a := y / 1000 % 4) (b := k / 1000 % 4) (by omega) (by omega)
      rw [if_neg (fun z => c2 ((nI_eq (by omega) (by omega)).mp z)), m_gd (m_inb (by omega) (by omega)), m_lt, F_X6_compare_86]
      exact ⟨_, rfl, by rw [s1]; omega, by rw [s2]; omega⟩
  · obtain ⟨s1, s2⟩ := m_sub_sign (a := y / 4000) (b := k / 4000) (by omega) (by omega)
    rw [if_neg (fun z => c1 ((nI_eq (by omega) (by omega)).mp z)), m_gd (m_inb (by omega) (by omega)), m_lt, F_X6_compare_86]
    exact ⟨_, rfl, by rw [s1]; omega, by rw [s2]; omega⟩
/-- compare, at an item of a leaf -/
theorem K_cmp {X Y b i k : Nat} {y : m_It} (hB : B ≤ 96) (hT : k_T B X Y f T) (hb : b < B) (ub : tU T b = 2) (hi : (tI T b)[i]? = some y) (hy : y.1 < 2 ^ 20) (hk : k < 2 ^ 20) :
    ∃ r, F_X6_compare B (nI b) (nI i) (nI (k / 4000)) (nI (k / 1000 % 4)) (nI (k % 1000)) (z_ua S 61 f) = some (.inl (some r), z_ua S 61 f) ∧ (r = 0 ↔ y.1 = k) ∧ (0 < r ↔ k < y.1) := by
  obtain ⟨q1, q2, q3⟩ := hT.2.2.1 b hb ub
  have hil : i < (tI T b).length := (List.getElem?_eq_some_iff.mp hi).1
  have at' : ∀ a, a < 5 → f (4620 + 1536 * a + (16 * b + i)) = k_c a y := fun a ha => q2 a ha i _ (by rw [List.getElem?_map, hi]; rfl)
  exact K_compare (by omega) (by omega) (at' 0 (by omega)) (at' 1 (by omega)) (at' 2 (by omega)) hy hk
/-- one leaf of the row -/
theorem K_leaf_step {b i k n : Nat} {v : Int32} (hB : B ≤ 96) (h : m_ok B T) (hT : k_T B 0 0 f T) (hk : k < 2 ^ 20) (hb : (tR T 0)[i]? = some b) :
    F_X6_leafOf_13 B (n + 1) (nI (k / 4000)) (nI (k / 1000 % 4)) (nI (k % 1000)) v (nI i) (z_ua S 61 f) = F_X6_leafOf_13 B n (nI (k / 4000)) (nI (k / 1000 % 4)) (nI (k % 1000)) (if m_fk T b ≤ k then nI b else v) (nI (i + 1)) (z_ua S 61 f) := by
  have hbm : b ∈ tR T 0 := List.mem_of_getElem? hb
  have hil : i < (tR T 0).length := (List.getElem?_eq_some_iff.mp hb).1
  obtain ⟨b1, b2, b3, b4, b5⟩ := ok_row h b hbm
  obtain ⟨r1, r2, r3⟩ := hT.2.2.2.2.2.1 0 (by omega)
  have eb : f (12300 + i) = nI b := by
    have := r2 i (nI b) (by rw [List.getElem?_map, hb]; rfl)
    simpa using this
  have r1' : f 13068 = nI (tR T 0).length := r1
  have ec : f (3852 + b) = nI (tI T b).length := K_cntL hT b1 b2
  have ln : (tI T b).length ≤ 16 := (hT.2.2.1 b b1 b2).2.2
  obtain ⟨y, L, hI⟩ : ∃ y L, tI T b = y :: L := by
    cases hc : tI T b with
    | nil => exact absurd hc b4
    | cons y L => exact ⟨y, L, rfl⟩
  have hfk : m_fk T b = y.1 := by rw [m_fk, hI]; rfl
  have hy := (fl_ig h.2.2.1 hbm y (by rw [hI]; exact List.mem_cons_self)).2.2.1
  obtain ⟨r, c1, c2, c3⟩ := K_cmp (S := S) (i := 0) (k := k) hB hT b1 b2 (y := y) (by rw [hI]; rfl) (by omega) hk
  have c1' : F_X6_compare B (nI b) 0 (nI (k / 4000)) (nI (k / 1000 % 4)) (nI (k % 1000)) (z_ua S 61 f) = some (.inl (some r), z_ua S 61 f) := c1
  have e1 : (12300 : Int32) + nI i = nI (12300 + i) := by rw [m_c12300, nI_add]
  have e2 : (3852 : Int32) + nI b = nI (3852 + b) := by rw [m_c3852, nI_add]
  have hpos : 1 ≤ (tI T b).length := by rw [hI]; simp
  rw [F_X6_leafOf_13, m_gd (by decide), m_lt, show z_ix (13068 : Int32) = 13068 from m_ix (i := 13068) (by omega), z_ua_at, r1', if_neg (nI_ge (by omega) (by omega)), e1, m_gd (m_inb (by omega) (by omega)), m_lt, m_ix (i := 12300 + i) (by omega), eb, e2, m_gd (m_inb (by omega) (by omega)), m_lt, m_ix (i := 3852 + b) (by omega), ec]
  have g0 : ¬ nI (tI T b).length ≤ 0 := by rw [m_c0]; exact nI_ge (by omega) (by omega)
  rw [if_neg g0, c1', m_bn]
  by_cases hc : m_fk T b ≤ k
  · rw [if_neg (fun z => by have := c3.mp z; omega), if_pos hc, F_X6_leafOf_73, nI_1]
  · rw [if_pos (c3.mpr (by omega)), if_neg hc, F_X6_leafOf_71, F_X6_leafOf_73, nI_1]
theorem K_leafOf_rest {k : Nat} {v : Int32} (hB : B ≤ 96) (h : m_ok B T) (hT : k_T B 0 0 f T) (hk : k < 2 ^ 20) : ∀ (L pre : List Nat) (n : Nat), tR T 0 = pre ++ L → L.length < n → (∀ b ∈ L, ¬ m_fk T b ≤ k) → F_X6_leafOf_13 B n (nI (k / 4000)) (nI (k / 1000 % 4)) (nI (k % 1000)) v (nI pre.length) (z_ua S 61 f) = some (.inl (some v), z_ua S 61 f)
  | [], pre, n, hR, hn, _ => by
    obtain ⟨n, rfl⟩ : ∃ j, n = j + 1 := ⟨n - 1, by omega⟩
    obtain ⟨r1, r2, r3⟩ := hT.2.2.2.2.2.1 0 (by omega)
    have r1' : f 13068 = nI pre.length := by rw [List.append_nil] at hR; rw [← hR]; exact r1
    have hl : pre.length ≤ 96 := by rw [List.append_nil] at hR; rw [← hR]; exact r3
    rw [F_X6_leafOf_13, m_gd (by decide), m_lt, show z_ix (13068 : Int32) = 13068 from m_ix (i := 13068) (by omega), z_ua_at, r1', if_pos (nI_le (Nat.le_refl _) (by omega))]
  | b :: L, pre, n, hR, hn, hl => by
    obtain ⟨n, rfl⟩ : ∃ j, n = j + 1 := ⟨n - 1, by omega⟩
    rw [List.length_cons] at hn
    rw [K_leaf_step hB h hT hk (b := b) (by rw [hR]; simp), if_neg (hl b List.mem_cons_self)]
    have := K_leafOf_rest (v := v) hB h hT hk L (pre ++ [b]) n (by rw [hR]; simp) (by omega) (fun c hc => hl c (List.mem_cons_of_mem _ hc))
    rw [List.length_append, List.length_singleton] at this
    exact this
theorem K_leafOf_loop {k : Nat} (hB : B ≤ 96) (h : m_ok B T) (hT : k_T B 0 0 f T) (hk : k < 2 ^ 20) : ∀ (L pre : List Nat) (cur n : Nat), tR T 0 = pre ++ cur :: L → L.length < n → F_X6_leafOf_13 B n (nI (k / 4000)) (nI (k / 1000 % 4)) (nI (k % 1000)) (nI cur) (nI (pre.length + 1)) (z_ua S 61 f) = some (.inl (some (nI (m_lf T k cur L))), z_ua S 61 f)
  | [], pre, cur, n, hR, hn => by
    have := K_leafOf_rest (S := S) (v := nI cur) hB h hT hk [] (pre ++ [cur]) n (by rw [hR]; simp) hn (fun b hb => by cases hb)
    rw [List.length_append, List.length_singleton] at this
    exact this
  | b :: L, pre, cur, n, hR, hn => by
    obtain ⟨n, rfl⟩ : ∃ j, n = j + 1 := ⟨n - 1, by omega⟩
    rw [List.length_cons] at hn
    have hbi : (tR T 0)[pre.length + 1]? = some b := by rw [hR]; simp
    rw [K_leaf_step hB h hT hk hbi, m_lf]
    by_cases hc : m_fk T b ≤ k
    · rw [if_pos hc, if_pos hc]
      have := K_leafOf_loop hB h hT hk L (pre ++ [cur]) b n (by rw [hR]; simp) (by omega)
      rw [List.length_append, List.length_singleton] at this
      exact this
    · rw [if_neg hc, if_neg hc]
      have := K_leafOf_rest (S := S) (v := nI cur) hB h hT hk L (pre ++ [cur, b]) n (by rw [hR]; simp) (by omega) (fun c hcm => ?_)
      · rw [List.length_append] at this
        exact this
      · have hbm : b ∈ tR T 0 := by rw [hR]; simp
        have hcm' : c ∈ tR T 0 := by rw [hR]; simp [hcm]
        have hso := h.2.2.2
        obtain ⟨y, M, hI⟩ : ∃ y M, tI T b = y :: M := by
          cases hc : tI T b with
          | nil => exact absurd hc (h.2.1 b hbm).1
          | cons y L => exact ⟨y, L, rfl⟩
        obtain ⟨z, N, hJ⟩ : ∃ z N, tI T c = z :: N := by
          cases hc : tI T c with
          | nil => exact absurd hc (h.2.1 c hcm').1
          | cons y L => exact ⟨y, L, rfl⟩
        have hF : flat T = (pre ++ [cur]).flatMap (tI T) ++ (y :: (M ++ L.flatMap (tI T))) := by
          unfold flat
          rw [hR, show pre ++ cur :: b :: L = (pre ++ [cur]) ++ b :: L by simp, List.flatMap_append, List.flatMap_cons, hI]; rfl
        unfold m_so at hso
        rw [hF] at hso
        have q4 := (List.pairwise_cons.mp (List.pairwise_append.mp hso).2.1).1 z (List.mem_append_right _ (l_fm_mem.mpr ⟨c, hcm, by rw [hJ]; exact List.mem_cons_self⟩))
        have f1 : m_fk T b = y.1 := by rw [m_fk, hI]; rfl
        have f2 : m_fk T c = z.1 := by rw [m_fk, hJ]; rfl
        rw [f1] at hc
        rw [f2]
        omega
theorem K_leafOf {k : Nat} (hB : B ≤ 96) (h : m_ok B T) (hT : k_T B 0 0 f T) (hk : k < 2 ^ 20) : F_X6_leafOf B (nI (k / 4000)) (nI (k / 1000 % 4)) (nI (k % 1000)) (z_ua S 61 f) = some (.inl (some (nI (a_leaf T k))), z_ua S 61 f) := by
  obtain ⟨l0, L, hR, hL, ea⟩ := ok_leaf (k := k) h
  obtain ⟨r1, r2, r3⟩ := hT.2.2.2.2.2.1 0 (by omega)
  have e0 : f 12300 = nI l0 := by
    have := r2 0 (nI l0) (by rw [hR]; rfl)
    simpa using this
  have hz : z_n = 99999 + 1 := rfl
  have st := K_leaf_step (S := S) (i := 0) (n := 99999) (v := nI l0) hB h hT hk (b := l0) (by rw [hR]; rfl)
  rw [← hz] at st
  have st' : F_X6_leafOf_13 B z_n (nI (k / 4000)) (nI (k / 1000 % 4)) (nI (k % 1000)) (nI l0) 0 (z_ua S 61 f) = F_X6_leafOf_13 B 99999 (nI (k / 4000)) (nI (k / 1000 % 4)) (nI (k % 1000)) (if m_fk T l0 ≤ k then nI l0 else nI l0) (nI (0 + 1)) (z_ua S 61 f) := st
  have key := K_leafOf_loop (S := S) hB h hT hk L [] l0 99999 hR (by omega)
  unfold F_X6_leafOf
  rw [m_gd (by decide), m_lt, show z_ix (12300 : Int32) = 12300 from m_ix (i := 12300) (by omega), z_ua_at, e0, st', ite_self, ea]
  exact key
/-- find: there, at its place -/
theorem K_find_loop {l k j : Nat} {y : m_It} (hB : B ≤ 96) (hT : k_T B 0 0 f T) (hl : l < B) (ul : tU T l = 2) (hk : k < 2 ^ 20) (hb : ∀ z ∈ tI T l, z.1 < 2 ^ 20) (hj : (tI T l)[j]? = some y) (hy : y.1 = k) (hlt : ∀ i z, i < j → (tI T l)[i]? = some z → z.1 ≠ k) : ∀ (m n i : Nat), i + m = j → m < n → F_X6_find_12 B n (nI (k / 4000)) (nI (k / 1000 % 4)) (nI (k % 1000)) (nI l) (nI i) (z_ua S 61 f) = some (.inl (some (nI j)), z_ua S 61 f)
  | m, n, i, hi, hm => by
    obtain ⟨n, rfl⟩ : ∃ j, n = j + 1 := ⟨n - 1, by omega⟩
    have hjl : j < (tI T l).length := (List.getElem?_eq_some_iff.mp hj).1
    have ln : (tI T l).length ≤ 16 := (hT.2.2.1 l hl ul).2.2
    have e2 : (3852 : Int32) + nI l = nI (3852 + l) := by rw [m_c3852, nI_add]
    have hil : i < (tI T l).length := by omega
    obtain ⟨r, c1, c2, c3⟩ := K_cmp (S := S) (i := i) (k := k) hB hT hl ul (y := (tI T l)[i]) (List.getElem?_eq_getElem hil) (hb _ (List.getElem_mem hil)) hk
    rw [F_X6_find_12, e2, m_gd (m_inb (by omega) (by omega)), m_lt, m_ix (i := 3852 + l) (by omega), z_ua_at, K_cntL hT hl ul, if_neg (nI_ge (by omega) (by omega)), c1, m_bn]
    cases m with
    | zero =>
      have e : i = j := by omega
      subst e
      have e9 : (tI T l)[i] = y := by rw [List.getElem?_eq_getElem hil] at hj; exact Option.some.inj hj
      rw [if_pos (c2.mpr (by rw [e9]; exact hy))]
    | succ m =>
      have := hlt i _ (by omega) (List.getElem?_eq_getElem hil)
      rw [if_neg (fun z => this (c2.mp z)), nI_1]
      exact K_find_loop hB hT hl ul hk hb hj hy hlt m n (i + 1) (by omega) (by omega)
theorem K_find_none {l k : Nat} (hB : B ≤ 96) (hT : k_T B 0 0 f T) (hl : l < B) (ul : tU T l = 2) (hk : k < 2 ^ 20) (hb : ∀ z ∈ tI T l, z.1 < 2 ^ 20 ∧ z.1 ≠ k) : ∀ (m n i : Nat), i + m = (tI T l).length → m < n → F_X6_find_12 B n (nI (k / 4000)) (nI (k / 1000 % 4)) (nI (k % 1000)) (nI l) (nI i) (z_ua S 61 f) = some (.inl (some (-1)), z_ua S 61 f)
  | m, n, i, hi, hm => by
    obtain ⟨n, rfl⟩ : ∃ j, n = j + 1 := ⟨n - 1, by omega⟩
    have ln : (tI T l).length ≤ 16 := (hT.2.2.1 l hl ul).2.2
    have e2 : (3852 : Int32) + nI l = nI (3852 + l) := by rw [m_c3852, nI_add]
    rw [F_X6_find_12, e2, m_gd (m_inb (by omega) (by omega)), m_lt, m_ix (i := 3852 + l) (by omega), z_ua_at, K_cntL hT hl ul]
    cases m with
    | zero => rw [if_pos (nI_le (by omega) (by omega))]
    | succ m =>
      have hil : i < (tI T l).length := by omega
      have hz := hb _ (List.getElem_mem hil)
      obtain ⟨r, c1, c2, c3⟩ := K_cmp (S := S) (i := i) (k := k) hB hT hl ul (y := (tI T l)[i]) (List.getElem?_eq_getElem hil) hz.1 hk
      rw [if_neg (nI_ge (by omega) (by omega)), c1, m_bn, if_neg (fun z => hz.2 (c2.mp z)), nI_1]
      exact K_find_none hB hT hl ul hk hb m n (i + 1) (by omega) (by omega)
theorem K_findT {k : Nat} (hB : B ≤ 96) (h : m_ok B T) (hT : k_T B 0 0 f T) (hk : k < 2 ^ 20) :
    ((∃ y ∈ flat T, y.1 = k) → F_X6_find B (nI (k / 4000)) (nI (k / 1000 % 4)) (nI (k % 1000)) (z_ua S 61 f) = some (.inl (some (nI (m_bef (tI T (a_leaf T k)) k))), z_ua S 61 f)) ∧ ((∀ y ∈ flat T, y.1 ≠ k) → F_X6_find B (nI (k / 4000)) (nI (k / 1000 % 4)) (nI (k % 1000)) (z_ua S 61 f) = some (.inl (some (-1)), z_ua S 61 f)) := by
  obtain ⟨hl, -, FA, FC, hF, hU, hA, hC, hso, hin⟩ := leaf_ok (k := k) h
  obtain ⟨l2, l4, l3, -, -⟩ := ok_row h _ hl
  have hb : ∀ z ∈ tI T (a_leaf T k), z.1 < 2 ^ 20 := fun z hz => by have := (fl_ig h.2.2.1 hl z hz).2.2.1; omega
  have ln : (tI T (a_leaf T k)).length ≤ 16 := (hT.2.2.1 _ l2 l4).2.2
  unfold F_X6_find
  rw [K_leafOf hB h hT hk, m_bn]
  constructor
  · intro he
    obtain ⟨y, hy, hyk⟩ := bef_at hso (hin he)
    have hble := bef_le (k := k) (L := tI T (a_leaf T k))
    exact K_find_loop (S := S) hB hT l2 l4 hk hb hy hyk (fun i z hi hz e => by have := bef_lt hz hi; omega) (m_bef (tI T (a_leaf T k)) k) z_n 0 (by omega) (by unfold z_n; omega)
  · intro hn
    exact K_find_none (S := S) hB hT l2 l4 hk (fun z hz => ⟨hb z hz, hn z (l_fm_mem.mpr ⟨_, hl, hz⟩)⟩) (tI T (a_leaf T k)).length z_n 0 (by omega) (by unfold z_n; omega)
theorem K_put_loop {l k : Nat} {L : List m_It} {v4 v5 : Int32} (hl : l < 96) (hso : m_so L) (hn : L.length ≤ 15) (hno : ∀ y ∈ L, y.1 ≠ k) (hb : ∀ z ∈ L, z.1 < 2 ^ 20) (hk : k < 2 ^ 20) (hL : k_lf f l L) : ∀ (m n i : Nat) (g : Nat → Int32), i = m_bef L k + m → i ≤ L.length → m < n → k_op f g (fun v => va_cpy v v (16 * l + i) (16 * l + i + 1) (L.length - i)) →
    ∃ g', F_X6_put_22 B n (nI (k / 4000)) (nI (k / 1000 % 4)) (nI (k % 1000)) v4 v5 (nI l) (nI i) (z_ua S 61 g) = F_X6_put_71 B (nI (k / 4000)) (nI (k / 1000 % 4)) (nI (k % 1000)) v4 v5 (nI l) (nI (m_bef L k)) (z_ua S 61 g') ∧ k_op f g' (fun v => va_cpy v v (16 * l + m_bef L k) (16 * l + m_bef L k + 1) (L.length - m_bef L k))
  | m, n, i, g, hi, hil, hm, hop => by
    obtain ⟨n, rfl⟩ : ∃ j, n = j + 1 := ⟨n - 1, by omega⟩
    rw [F_X6_put_22]
    by_cases h0 : i = 0
    · have hb0 : m_bef L k = 0 := by omega
      rw [if_pos (by rw [h0]; decide)]
      exact ⟨g, by rw [h0, hb0], by rw [hb0]; rw [h0] at hop; exact hop⟩
    · obtain ⟨i, rfl⟩ : ∃ j, i = j + 1 := ⟨i - 1, by omega⟩
      have hil2 : i < L.length := by omega
      have e1 : nI (i + 1) - 1 = nI i := nI_pred i
      have at' : ∀ a, a < 5 → g (4620 + 1536 * a + (16 * l + i)) = k_c a L[i] := fun a ha => by
        rw [hop.1 a (16 * l + i) ha (by omega)]
        show va_cpy (k_v f a) (k_v f a) (16 * l + (i + 1)) (16 * l + (i + 1) + 1) (L.length - (i + 1)) (16 * l + i) = _
        rw [pk_cpy_out (by omega)]
        exact hL.2.1 a ha i _ (by rw [List.getElem?_map, List.getElem?_eq_getElem hil2]; rfl)
      have hz1 := hno _ (List.getElem_mem hil2)
      obtain ⟨r, c1, c2, c3⟩ := K_compare (B := B) (S := S) (f := g) (b := l) (i := i) (y := L[i].1) (k := k) hl (by omega) (at' 0 (by omega)) (at' 1 (by omega)) (at' 2 (by omega)) (hb _ (List.getElem_mem hil2)) hk
      have g0 : ¬ nI (i + 1) ≤ 0 := by rw [m_c0]; exact nI_ge (by omega) (by omega)
      rw [if_neg g0, e1, c1, m_bn]
      cases m with
      | zero =>
        have := bef_lt (k := k) (List.getElem?_eq_getElem hil2) (by omega)
        have hr : r ≤ 0 := Int32.not_lt.mp (fun z => by have := c3.mp z; omega)
        rw [if_pos hr]
        have e9 : i + 1 = m_bef L k := by omega
        exact ⟨g, by rw [e9], by rw [← e9]; exact hop⟩
      | succ m =>
        have := bef_ge (k := k) hso (List.getElem?_eq_getElem hil2) (by omega)
        have hr : ¬ r ≤ 0 := fun z => Int32.not_lt.mpr z (c3.mpr (by omega))
        have e2 : (16 : Int32) * nI l + nI (i + 1) = nI (16 * l + (i + 1)) := by rw [m_c16, pk_mul, nI_add]
        have e3 : nI (16 * l + (i + 1)) - 1 = nI (16 * l + i) := nI_pred (16 * l + i)
        have e4 : nI (i + 1) + -1 = nI i := pk_m1 i
        obtain ⟨g2, a2, hop2⟩ := K_copy (B := B) (S := z_ua S 61 g) (p := 16 * l + i) (q := 16 * l + (i + 1)) (by omega) (by omega)
        rw [z_ua_at] at hop2
        rw [z_ua_ua] at a2
        have hop3 := k_op_eq (k_op_cp (by omega) hop hop2) (H := fun v => va_cpy v v (16 * l + i) (16 * l + i + 1) (L.length - i)) (fun v r hr => by
          have := m_shup (f := v) (o := 16 * l) (j := i + 1) (n := L.length) (by omega) hil
          rw [show i + 1 - 1 = i by omega, show 16 * l + (i + 1) - 1 = 16 * l + i by omega] at this
          rw [← this, pk_cpy_out (by omega)])
        rw [if_neg hr, e2, e3, a2, m_bo, e4]
        exact K_put_loop hl hso hn hno hb hk hL m n i g2 (by omega) (by omega) (by omega) hop3
/-- an item is put in, ahead of settling -/
theorem K_put0 {x : m_It} (hB : B ≤ 96) (h : m_ok B T) (hT : k_T B 0 0 f T) (hx : m_ig x) (hno : ∀ y ∈ flat T, y.1 ≠ x.1) :
    ∃ f', F_X6_put B (nI (x.1 / 4000)) (nI (x.1 / 1000 % 4)) (nI (x.1 % 1000)) (nI x.2.1) (nI (x.2.2.getD 0)) (z_ua S 61 f) = (z_bo (F_X6_settle B (nI (a_leaf T x.1)) (z_ua S 61 f')) fun S16 => (some (.inl none, S16))) ∧ k_T B 0 0 f' (tsI T (a_leaf T x.1) (s_ins x (tI T (a_leaf T x.1)))) ∧ k_fr f f' := by
  have hk : x.1 < 2 ^ 20 := by have := hx.2.2.1; omega
  obtain ⟨p1, p2, p3, p4, p5⟩ := put_pre h hx
  obtain ⟨l2, l4, l3, -, -⟩ := ok_row h _ p2
  obtain ⟨hl, -, FA, FC, hF, hU, hA, hC, hso, hin⟩ := leaf_ok (k := x.1) h
  have hb : ∀ z ∈ tI T (a_leaf T x.1), z.1 < 2 ^ 20 := fun z hz => by have := (fl_ig h.2.2.1 hl z hz).2.2.1; omega
  have hno' : ∀ y ∈ tI T (a_leaf T x.1), y.1 ≠ x.1 := fun y hy => hno y (l_fm_mem.mpr ⟨_, hl, hy⟩)
  have hL := hT.2.2.1 _ l2 l4
  have hble := bef_le (k := x.1) (L := tI T (a_leaf T x.1))
  have start := K_leafOf (S := S) hB h hT hk
  generalize hl0 : a_leaf T x.1 = l at *
  obtain ⟨g, a1, hop⟩ := K_put_loop (B := B) (S := S) (l := l) (k := x.1) (v4 := nI x.2.1) (v5 := nI (x.2.2.getD 0)) (by omega) hso (by omega) hno' hb hk hL ((tI T l).length - m_bef (tI T l) x.1) z_n (tI T l).length f (by omega) (Nat.le_refl _) (by unfold z_n; omega) (k_op_eq k_op_rf (fun v r hr => by rw [Nat.sub_self, m_cpy0]))
  generalize hj : m_bef (tI T l) x.1 = j at *
  have e0 : (16 : Int32) * nI l + nI j = nI (16 * l + j) := by rw [m_c16, pk_mul, nI_add]
  have e1 : (4620 : Int32) + nI (16 * l + j) = nI (4620 + (16 * l + j)) := by rw [m_c4620, nI_add]
  have e2 : (6156 : Int32) + nI (16 * l + j) = nI (6156 + (16 * l + j)) := by rw [m_c6156, nI_add]
  have e3 : (7692 : Int32) + nI (16 * l + j) = nI (7692 + (16 * l + j)) := by rw [m_c7692, nI_add]
  have e4 : (9228 : Int32) + nI (16 * l + j) = nI (9228 + (16 * l + j)) := by rw [m_c9228, nI_add]
  have e5 : (10764 : Int32) + nI (16 * l + j) = nI (10764 + (16 * l + j)) := by rw [m_c10764, nI_add]
  have e6 : (3852 : Int32) + nI l = nI (3852 + l) := by rw [m_c3852, nI_add]
  generalize hg5 : upd (upd (upd (upd (upd g (4620 + (16 * l + j)) (nI (x.1 / 4000))) (6156 + (16 * l + j)) (nI (x.1 / 1000 % 4))) (7692 + (16 * l + j)) (nI (x.1 % 1000))) (9228 + (16 * l + j)) (nI x.2.1)) (10764 + (16 * l + j)) (nI (x.2.2.getD 0)) = g5
  have ec : g5 (3852 + l) = nI (tI T l).length := by
    rw [← hg5, pk_un (by omega), pk_un (by omega), pk_un (by omega), pk_un (by omega), pk_un (by omega), hop.2 _ (by omega)]
    exact hL.1
  have st : ∀ a r, a < 5 → r < 1536 → g5 (4620 + 1536 * a + r) = upd (va_cpy (k_v f a) (k_v f a) (16 * l + j) (16 * l + j + 1) ((tI T l).length - j)) (16 * l + j) (k_c a x) r := fun a r ha hr => by
    have hg := hop.1 a r ha hr
    have hg' : g (4620 + 1536 * a + r) = va_cpy (k_v f a) (k_v f a) (16 * l + j) (16 * l + j + 1) ((tI T l).length - j) r := hg
    by_cases er : r = 16 * l + j
    · subst er
      rw [pk_us, ← hg5]
      match a, ha with
      | 0, _ =>
        show upd (upd (upd (upd (upd g _ _) _ _) _ _) _ _) _ _ (4620 + (16 * l + j)) = nI (x.1 / 4000)
        rw [pk_un (by omega), pk_un (by omega), pk_un (by omega), pk_un (by omega), pk_us]
      | 1, _ =>
        show upd (upd (upd (upd (upd g _ _) _ _) _ _) _ _) _ _ (6156 + (16 * l + j)) = nI (x.1 / 1000 % 4)
        rw [pk_un (by omega), pk_un (by omega), pk_un (by omega), pk_us]
      | 2, _ =>
        show upd (upd (upd (upd (upd g _ _) _ _) _ _) _ _) _ _ (7692 + (16 * l + j)) = nI (x.1 % 1000)
        rw [pk_un (by omega), pk_un (by omega), pk_us]
      | 3, _ =>
        show upd (upd (upd (upd (upd g _ _) _ _) _ _) _ _) _ _ (9228 + (16 * l + j)) = nI x.2.1
        rw [pk_un (by omega), pk_us]
      | 4, _ =>
        show upd (upd (upd (upd (upd g _ _) _ _) _ _) _ _) _ _ (10764 + (16 * l + j)) = nI (x.2.2.getD 0)
        rw [pk_us]
    · rw [pk_un er, ← hg', ← hg5, pk_un (by omega), pk_un (by omega), pk_un (by omega), pk_un (by omega), pk_un (by omega)]
  have so : ∀ z, (z < 4620 ∨ 12300 ≤ z) → g5 z = f z := fun z hz => by
    rw [← hg5, pk_un (by omega), pk_un (by omega), pk_un (by omega), pk_un (by omega), pk_un (by omega), hop.2 z hz]
  have hlen : ((tI T l).insertIdx j x).length = (tI T l).length + 1 := List.length_insertIdx_of_le_length hble x
  refine ⟨upd g5 (3852 + l) (nI ((tI T l).length + 1)), ?_, ?_, fun z hz => by rw [pk_un (by omega), so z (by omega)]⟩
  · unfold F_X6_put
    rw [start, m_bn, e6, m_gd (m_inb (by omega) (by omega)), m_lt, m_ix (i := 3852 + l) (by omega), z_ua_at, hL.1, a1, F_X6_put_71, e0, e1, m_gd (m_inb (by omega) (by omega)), m_lt, m_ix (i := 4620 + (16 * l + j)) (by omega), z_ua_at, z_ua_ua, e2, m_gd (m_inb (by omega) (by omega)), m_lt, m_ix (i := 6156 + (16 * l + j)) (by omega), z_ua_at, z_ua_ua, e3, m_gd (m_inb (by omega) (by omega)), m_lt, m_ix (i := 7692 + (16 * l + j)) (by omega), z_ua_at, z_ua_ua, e4, m_gd (m_inb (by omega) (by omega)), m_lt, m_ix (i := 9228 + (16 * l + j)) (by omega), z_ua_at, z_ua_ua, e5, m_gd (m_inb (by omega) (by omega)), m_lt, m_ix (i := 10764 + (16 * l + j)) (by omega)]
    simp only [z_ua_at, z_ua_ua, hg5]
    rw [e6, m_gd (m_inb (by omega) (by omega)), m_lt, m_ix (i := 3852 + l) (by omega), ec, m_gd (m_inb (by omega) (by omega)), m_lt, nI_1]
  · have eins : s_ins x (tI T l) = (tI T l).insertIdx j x := by rw [← hj, si_bef]
    rw [eins]
    refine k_T_its hB hT rfl rfl rfl rfl rfl rfl (fun z hz hno => ?_) (fun c hc hcu => ?_)
    · rw [pk_un (hno l l2 l4), so z hz]
    · by_cases ecl : c = l
      · subst ecl
        rw [tI_eq]
        refine ⟨by rw [pk_us, hlen], fun a ha => ?_, by omega⟩
        rw [m_map_ins]
        have := m_l_ins (x := k_c a x) (i := j) (hL.2.1 a ha) (by simpa using hble)
        rw [List.length_map] at this
        refine m_l_kept this (fun z hz => ?_)
        rw [List.length_insertIdx_of_le_length (by simpa using hble), List.length_map] at hz
        show upd g5 (3852 + c) _ (4620 + 1536 * a + (16 * c + z)) = _
        rw [pk_un (by omega), st a (16 * c + z) ha (by omega)]
      · rw [tI_ne ecl]
        obtain ⟨q1, q2, q3⟩ := hT.2.2.1 c hc hcu
        refine ⟨by rw [pk_un (by omega), so _ (by omega)]; exact q1, fun a ha => m_l_kept (q2 a ha) (fun z hz => ?_), q3⟩
        rw [List.length_map] at hz
        show upd g5 (3852 + l) _ (4620 + 1536 * a + (16 * c + z)) = f (4620 + 1536 * a + (16 * c + z))
        rw [pk_un (by omega), st a (16 * c + z) ha (by omega), pk_un (by omega), pk_cpy_out (by omega)]; rfl
theorem K_putT {x : m_It} (hB : B ≤ 96) (h0 : S.2.1 60 1 = nI B) (h7 : S.2.1 60 7 = 0) (h : m_ok B T) (hT : k_T B 0 0 f T) (hx : m_ig x) (hno : ∀ y ∈ flat T, y.1 ≠ x.1) :
    (∀ T', a_put B T x = some T' → ∃ f', F_X6_put B (nI (x.1 / 4000)) (nI (x.1 / 1000 % 4)) (nI (x.1 % 1000)) (nI x.2.1) (nI (x.2.2.getD 0)) (z_ua S 61 f) = some (.inl none, z_ua S 61 f') ∧ k_T B 0 0 f' T' ∧ k_fr f f') ∧ (a_put B T x = none → ∃ f', F_X6_put B (nI (x.1 / 4000)) (nI (x.1 / 1000 % 4)) (nI (x.1 % 1000)) (nI x.2.1) (nI (x.2.2.getD 0)) (z_ua S 61 f) = some (.inl none, z_ui (z_ua S 61 f') 60 7 1)) := by
  obtain ⟨f1, a1, t1, r1⟩ := K_put0 (S := S) hB h hT hx hno
  obtain ⟨p1, p2, p3, p4, p5⟩ := put_pre h hx
  obtain ⟨j1, j2⟩ := K_settle (S := S) hB h0 h7 t1 p1 p2 p3
  rw [a1]
  constructor
  · intro T' ha
    obtain ⟨f2, w1, w2, w3⟩ := j1 T' ha
    exact ⟨f2, by rw [w1, m_bo], w2, k_fr_tr r1 w3⟩
  · intro ha
    obtain ⟨f2, w1⟩ := j2 ha
    exact ⟨f2, by rw [w1, m_bo]⟩
theorem K_removeT {k : Nat} (hB : B ≤ 96) (h : m_ok B T) (hT : k_T B 0 0 f T) (hk : k < 2 ^ 20) (hin : ∃ y ∈ flat T, y.1 = k) (h2 : ∃ y ∈ flat T, y.1 ≠ k) :
    ∃ f', F_X6_remove B (nI (k / 4000)) (nI (k / 1000 % 4)) (nI (k % 1000)) (z_ua S 61 f) = some (.inl none, z_ua S 61 f') ∧ k_T B 0 0 f' (a_del B T k) ∧ k_fr f f' := by
  obtain ⟨p1, p2, p3, p4, p5, p6, y, hy, hyk⟩ := del_pre h hin h2
  obtain ⟨l2, l4, l3, -, -⟩ := ok_row h _ p2
  have hlt : m_bef (tI T (a_leaf T k)) k < (tI T (a_leaf T k)).length := (List.getElem?_eq_some_iff.mp hy).1
  obtain ⟨f1, a1, t1, r1⟩ := KT_drop (S := S) hB hT l2 l4 hlt
  rw [sd_bef p6 ⟨y, List.mem_of_getElem? hy, hyk⟩] at t1
  obtain ⟨f2, a2, t2, r2⟩ := K_lookAt (S := S) hB t1 p1 p2 p3
  refine ⟨f2, ?_, t2, k_fr_tr r1 r2⟩
  unfold F_X6_remove
  rw [K_leafOf hB h hT hk, m_bn, (K_findT hB h hT hk).1 hin, m_bn, a1, m_bo, a2, m_bo]
theorem K_resize_same {v1 v2 v : Int32} (h7 : S.2.1 60 7 = 0) : F_X6_resize B v1 v2 v v (z_ua S 61 f) = some (.inl none, z_ua S 61 f) := by
  have z7 : (z_ua S 61 f).2.1 60 7 = 0 := h7
  unfold F_X6_resize
  rw [if_pos z7, if_pos rfl, F_X6_resize_13]
theorem K_resize_full {v1 v2 v w : Int32} (h7 : ¬ S.2.1 60 7 = 0) : F_X6_resize B v1 v2 v w S = some (.inl none, S) := by
  unfold F_X6_resize
  rw [if_neg h7, F_X6_resize_13]
theorem K_resize_new {k b : Nat} (hB : B ≤ 96) (h0 : S.2.1 60 1 = nI B) (h7 : S.2.1 60 7 = 0) (h : m_ok B T) (hT : k_T B 0 0 f T) (hx : m_ig (k, b, none)) (hk0 : k % 1000 = 0) (hno : ∀ y ∈ flat T, y.1 ≠ k) :
    (∀ T', a_put B T (k, b, none) = some T' → ∃ f', F_X6_resize B (nI (k / 4000)) (nI (k / 1000 % 4)) 0 (nI b) (z_ua S 61 f) = some (.inl none, z_ua S 61 f') ∧ k_T B 0 0 f' T' ∧ k_fr f f') ∧ (a_put B T (k, b, none) = none → ∃ f', F_X6_resize B (nI (k / 4000)) (nI (k / 1000 % 4)) 0 (nI b) (z_ua S 61 f) = some (.inl none, z_ui (z_ua S 61 f') 60 7 1)) := by
  have z7 : (z_ua S 61 f).2.1 60 7 = 0 := h7
  have hb1 : 1 ≤ b := hx.1
  have hb2 : b ≤ 40 := hx.2.1
  have hz : ¬ (0 : Int32) = nI b := fun e => by
    have := (nI_eq (a := 0) (b := b) (by omega) (by omega)).mp (m_c0 ▸ e)
    omega
  obtain ⟨j1, j2⟩ := K_putT (S := S) hB h0 h7 h hT hx hno
  have e0 : nI (((k, b, none) : m_It).1 % 1000) = 0 := by
    show nI (k % 1000) = 0
    rw [hk0]; rfl
  rw [e0] at j1 j2
  unfold F_X6_resize
  rw [if_pos z7, if_neg hz, if_pos rfl]
  constructor
  · intro T' ha
    obtain ⟨f', w1, w2, w3⟩ := j1 T' ha
    have w1' : F_X6_put B (nI (k / 4000)) (nI (k / 1000 % 4)) 0 (nI b) 0 (z_ua S 61 f) = some (.inl none, z_ua S 61 f') := w1
    exact ⟨f', by rw [w1', m_bo, F_X6_resize_100], w2, w3⟩
  · intro ha
    obtain ⟨f', w1⟩ := j2 ha
    have w1' : F_X6_put B (nI (k / 4000)) (nI (k / 1000 % 4)) 0 (nI b) 0 (z_ua S 61 f) = some (.inl none, z_ui (z_ua S 61 f') 60 7 1) := w1
    exact ⟨f', by rw [w1', m_bo, F_X6_resize_100]⟩
theorem K_resize_del {k a : Nat} (hB : B ≤ 96) (h7 : S.2.1 60 7 = 0) (h : m_ok B T) (hT : k_T B 0 0 f T) (hk : k < 2 ^ 20) (hk0 : k % 1000 = 0) (ha : 1 ≤ a ∧ a ≤ 40) (hin : ∃ y ∈ flat T, y.1 = k) (h2 : ∃ y ∈ flat T, y.1 ≠ k) :
    ∃ f', F_X6_resize B (nI (k / 4000)) (nI (k / 1000 % 4)) (nI a) 0 (z_ua S 61 f) = some (.inl none, z_ua S 61 f') ∧ k_T B 0 0 f' (a_del B T k) ∧ k_fr f f' := by
  have z7 : (z_ua S 61 f).2.1 60 7 = 0 := h7
  have hz : ¬ nI a = 0 := fun e => by
    have := (nI_eq (a := a) (b := 0) (by omega) (by omega)).mp (e.trans m_c0)
    omega
  obtain ⟨f1, a1, t1, r1⟩ := K_removeT (S := S) hB h hT hk hin h2
  rw [hk0] at a1
  have a1' : F_X6_remove B (nI (k / 4000)) (nI (k / 1000 % 4)) 0 (z_ua S 61 f) = some (.inl none, z_ua S 61 f1) := a1
  refine ⟨f1, ?_, t1, r1⟩
  unfold F_X6_resize
  rw [if_pos z7, if_neg hz, if_neg hz, if_pos rfl, a1', m_bo, F_X6_resize_100]
/-- an item's size is stored -/
theorem K_resized {X Y l i b : Nat} {y : m_It} (hB : B ≤ 96) (hT : k_T B X Y f T) (hl : l < B) (ul : tU T l = 2) (hy : (tI T l)[i]? = some y) : k_T B X Y (upd f (9228 + 16 * l + i) (nI b)) (tsI T l ((tI T l).set i (y.1, b, y.2.2))) := by
  obtain ⟨q1, q2, q3⟩ := hT.2.2.1 l hl ul
  have hil : i < (tI T l).length := (List.getElem?_eq_some_iff.mp hy).1
  refine k_T_its hB hT rfl rfl rfl rfl rfl rfl (fun z hz hno => pk_un (by omega)) (fun c hc hcu => ?_)
  by_cases ecl : c = l
  · subst ecl
    rw [tI_eq]
    refine ⟨by rw [List.length_set, pk_un (by omega)]; exact q1, fun a ha j v hv => ?_, by rw [List.length_set]; exact q3⟩
    rw [List.getElem?_map] at hv
    show upd f (9228 + 16 * c + i) (nI b) (4620 + 1536 * a + (16 * c + j)) = v
    by_cases ej : j = i
    · subst ej
      rw [List.getElem?_set_self hil] at hv
      have hv' : v = k_c a (y.1, b, y.2.2) := (Option.some.inj hv).symm
      rw [hv']
      by_cases e3 : a = 3
      · subst e3
        rw [show 4620 + 1536 * 3 + (16 * c + j) = 9228 + 16 * c + j by omega, pk_us]; rfl
      · rw [pk_un (by omega)]
        have := q2 a ha j (k_c a y) (by rw [List.getElem?_map, hy]; rfl)
        have e9 : k_c a (y.1, b, y.2.2) = k_c a y := by
          match a, ha, e3 with
          | 0, _, _ => rfl
          | 1, _, _ => rfl
          | 2, _, _ => rfl
          | 3, _, e3 => exact absurd rfl e3
          | 4, _, _ => rfl
        rw [e9]
        exact this
    · rw [List.getElem?_set_ne (Ne.symm ej)] at hv
      have hjl : j < (tI T c).length := by
        cases hj : (tI T c)[j]? with
        | none => rw [hj] at hv; cases hv
        | some w => exact (List.getElem?_eq_some_iff.mp hj).1
      rw [pk_un (by omega)]
      exact q2 a ha j v (by rw [List.getElem?_map]; exact hv)
  · rw [tI_ne ecl]
    obtain ⟨w1, w2, w3⟩ := hT.2.2.1 c hc hcu
    refine ⟨by rw [pk_un (by omega)]; exact w1, fun a ha => m_l_kept (w2 a ha) (fun z hz => ?_), w3⟩
    rw [List.length_map] at hz
    show upd f (9228 + 16 * l + i) (nI b) (4620 + 1536 * a + (16 * c + z)) = f (4620 + 1536 * a + (16 * c + z))
    exact pk_un (by omega)
theorem K_resize_set {k a b : Nat} (hB : B ≤ 96) (h7 : S.2.1 60 7 = 0) (h : m_ok B T) (hT : k_T B 0 0 f T) (hk : k < 2 ^ 20) (hk0 : k % 1000 = 0) (ha : 1 ≤ a ∧ a ≤ 40) (hb : 1 ≤ b ∧ b ≤ 40) (hab : a ≠ b) (hin : ∃ y ∈ flat T, y.1 = k) :
    ∃ f1, F_X6_resize B (nI (k / 4000)) (nI (k / 1000 % 4)) (nI a) (nI b) (z_ua S 61 f) = (if nI b ≤ nI a then
            z_bo (F_X6_lookAt B (nI (a_leaf T k)) (z_ua S 61 f1)) fun S10 =>
            (F_X6_resize_100 B S10)
          else
            z_bo (F_X6_settle B (nI (a_leaf T k)) (z_ua S 61 f1)) fun S13 =>
            (F_X6_resize_100 B S13)) ∧ k_T B 0 0 f1 (tsI T (a_leaf T k) (s_set k b (tI T (a_leaf T k)))) ∧ k_fr f f1 := by
  have z7 : (z_ua S 61 f).2.1 60 7 = 0 := h7
  obtain ⟨p1, p2, p3, p4, p5, y, hy, hyk⟩ := more_pre h hin hb
  obtain ⟨l2, l4, l3, -, -⟩ := ok_row h _ p2
  have hlt : m_bef (tI T (a_leaf T k)) k < (tI T (a_leaf T k)).length := (List.getElem?_eq_some_iff.mp hy).1
  have t1 := K_resized (b := b) hB hT l2 l4 hy
  rw [ss_bef hy hyk] at t1
  have hz : ∀ v, 1 ≤ v → v ≤ 40 → ¬ nI v = 0 := fun v h1 h2 e => by
    have := (nI_eq (a := v) (b := 0) (by omega) (by omega)).mp (e.trans m_c0)
    omega
  have hne : ¬ nI a = nI b := fun e => hab ((nI_eq (by omega) (by omega)).mp e)
  have e1 : (9228 : Int32) + 16 * nI (a_leaf T k) + nI (m_bef (tI T (a_leaf T k)) k) = nI (9228 + 16 * a_leaf T k + m_bef (tI T (a_leaf T k)) k) := by rw [m_c9228, m_c16, pk_mul, nI_add, nI_add]
  have s1 := K_leafOf (S := S) hB h hT hk
  have s2 := (K_findT (S := S) hB h hT hk).1 hin
  rw [hk0] at s1 s2
  have s1' : F_X6_leafOf B (nI (k / 4000)) (nI (k / 1000 % 4)) 0 (z_ua S 61 f) = some (.inl (some (nI (a_leaf T k))), z_ua S 61 f) := s1
  have s2' : F_X6_find B (nI (k / 4000)) (nI (k / 1000 % 4)) 0 (z_ua S 61 f) = some (.inl (some (nI (m_bef (tI T (a_leaf T k)) k))), z_ua S 61 f) := s2
  refine ⟨_, ?_, t1, k_fr_u (by omega)⟩
  unfold F_X6_resize
  rw [if_pos z7, if_neg hne, if_neg (hz a ha.1 ha.2), if_neg (hz b hb.1 hb.2), s1', m_bn, s2', m_bn, e1, m_gd (m_inb (by omega) (by omega)), m_lt, m_ix (i := 9228 + 16 * a_leaf T k + m_bef (tI T (a_leaf T k)) k) (by omega), z_ua_at, z_ua_ua]
theorem K_resize_more {k a b : Nat} (hB : B ≤ 96) (h0 : S.2.1 60 1 = nI B) (h7 : S.2.1 60 7 = 0) (h : m_ok B T) (hT : k_T B 0 0 f T) (hk : k < 2 ^ 20) (hk0 : k % 1000 = 0) (ha : 1 ≤ a) (hab : a < b) (hb : b ≤ 40) (hin : ∃ y ∈ flat T, y.1 = k) :
    (∀ T', a_more B T k b = some T' → ∃ f', F_X6_resize B (nI (k / 4000)) (nI (k / 1000 % 4)) (nI a) (nI b) (z_ua S 61 f) = some (.inl none, z_ua S 61 f') ∧ k_T B 0 0 f' T' ∧ k_fr f f') ∧ (a_more B T k b = none → ∃ f', F_X6_resize B (nI (k / 4000)) (nI (k / 1000 % 4)) (nI a) (nI b) (z_ua S 61 f) = some (.inl none, z_ui (z_ua S 61 f') 60 7 1)) := by
  obtain ⟨f1, a1, t1, r1⟩ := K_resize_set (S := S) hB h7 h hT hk hk0 ⟨ha, by omega⟩ ⟨by omega, hb⟩ (by omega) hin
  obtain ⟨p1, p2, p3, p4, p5, y, hy, hyk⟩ := more_pre (b := b) h hin ⟨by omega, hb⟩
  obtain ⟨j1, j2⟩ := K_settle (S := S) hB h0 h7 t1 p1 p2 p3
  rw [a1, if_neg (nI_ge (by omega) (by omega))]
  constructor
  · intro T' ht
    obtain ⟨f2, w1, w2, w3⟩ := j1 T' ht
    exact ⟨f2, by rw [w1, m_bo, F_X6_resize_100], w2, k_fr_tr r1 w3⟩
  · intro ht
    obtain ⟨f2, w1⟩ := j2 ht
    exact ⟨f2, by rw [w1, m_bo, F_X6_resize_100]⟩
theorem K_resize_less {k a b : Nat} (hB : B ≤ 96) (h7 : S.2.1 60 7 = 0) (h : m_ok B T) (hT : k_T B 0 0 f T) (hk : k < 2 ^ 20) (hk0 : k % 1000 = 0) (hb : 1 ≤ b) (hab : b < a) (ha : a ≤ 40) (hin : ∃ y ∈ flat T, y.1 = k) (hall : ∀ y ∈ flat T, y.1 = k → y.2.1 = a) :
    ∃ f', F_X6_resize B (nI (k / 4000)) (nI (k / 1000 % 4)) (nI a) (nI b) (z_ua S 61 f) = some (.inl none, z_ua S 61 f') ∧ k_T B 0 0 f' (a_less B T k b) ∧ k_fr f f' := by
  obtain ⟨f1, a1, t1, r1⟩ := K_resize_set (S := S) hB h7 h hT hk hk0 ⟨by omega, ha⟩ ⟨hb, by omega⟩ (by omega) hin
  obtain ⟨p1, p2, p3, p4, p5, y, hy, hyk⟩ := more_pre (b := b) h hin ⟨hb, by omega⟩
  have hlo := less_pre (b := b) h hin ⟨hb, by omega⟩ (fun y hy hyk => by rw [hall y hy hyk]; omega)
  obtain ⟨f2, a2, t2, r2⟩ := K_lookAt (S := S) hB t1 p1 p2 hlo
  exact ⟨f2, by rw [a1, if_pos (nI_le (by omega) (by omega)), a2, m_bo, F_X6_resize_100], t2, k_fr_tr r1 r2⟩
end KP
