/-! Changed blocks: the reference finds just these too. -/
section SK4
variable {B : Nat} {S : z_S} {T Tc : m_T} {O Oc : m_O}
theorem K_alike0 {a k : Nat} (hk : a + k < 2 ^ 31) : ∀ (m n i : Nat), i + m = k → m < n → F_X6_isAlike_5 B n (nI a) (nI k) 0 (nI (a + i)) S = some (.inl (some 0), S)
  | 0, n, i, hi, hn => by
    obtain ⟨n, rfl⟩ : ∃ j, n = j + 1 := ⟨n - 1, by omega⟩
    rw [F_X6_isAlike_5, nI_add, if_pos (nI_le (by omega) (by omega)), m_gd (by decide)]
  | m + 1, n, i, hi, hn => by
    obtain ⟨n, rfl⟩ : ∃ j, n = j + 1 := ⟨n - 1, by omega⟩
    rw [F_X6_isAlike_5, nI_add, if_neg (nI_ge (by omega) (by omega)), if_pos rfl, F_X6_isAlike_38, F_X6_isAlike_39, nI_1]
    exact K_alike0 hk m n (i + 1) (by omega) (by omega)
theorem K_alike1 {a k : Nat} (hk : a + k ≤ 25366) : ∀ (m n i : Nat), i + m = k → m < n → ∃ c : Bool, F_X6_isAlike_5 B n (nI a) (nI k) 1 (nI (a + i)) S = some (.inl (some (i_b c)), S) ∧ (c = true ↔ ∀ j, i ≤ j → j < k → S.1 61 (a + j) = S.1 63 (a + j))
  | 0, n, i, hi, hn => by
    obtain ⟨n, rfl⟩ : ∃ j, n = j + 1 := ⟨n - 1, by omega⟩
    rw [F_X6_isAlike_5, nI_add, if_pos (nI_le (by omega) (by omega)), m_gd (by decide)]
    exact ⟨true, rfl, ⟨fun _ j h1 h2 => by omega, fun _ => rfl⟩⟩
  | m + 1, n, i, hi, hn => by
    obtain ⟨n, rfl⟩ : ∃ j, n = j + 1 := ⟨n - 1, by omega⟩
    have iz : z_inb (nI (a + i)) 25366 = true := m_inb (by omega) (by omega)
    rw [F_X6_isAlike_5, nI_add, if_neg (nI_ge (by omega) (by omega)), if_neg (by decide), m_gd iz, m_lt, m_ix (by omega), m_gd iz, m_lt]
    by_cases e : S.1 61 (a + i) = S.1 63 (a + i)
    · obtain ⟨c, c1, c2⟩ := K_alike1 (k := k) hk m n (i + 1) (by omega) (by omega)
      rw [if_pos e, F_X6_isAlike_39, nI_1]
      refine ⟨c, c1, c2.trans ⟨fun w j g1 g2 => ?_, fun w j g1 g2 => w j (by omega) g2⟩⟩
      by_cases ej : j = i
      · rw [ej]; exact e
      · exact w j (by omega) g2
    · have := K_alike0 (B := B) (S := S) (a := a) (k := k) (by omega) m n (i + 1) (by omega) (by omega)
      rw [if_neg e, F_X6_isAlike_38, F_X6_isAlike_39, nI_1]
      exact ⟨false, this, ⟨fun w => (by cases w), fun w => absurd (w i (Nat.le_refl _) (by omega)) e⟩⟩
theorem K_isAlike {a k : Nat} (hk : a + k ≤ 25366) : ∃ c : Bool, F_X6_isAlike B (nI a) (nI k) S = some (.inl (some (i_b c)), S) ∧ (c = true ↔ ∀ j, j < k → S.1 61 (a + j) = S.1 63 (a + j)) := by
  obtain ⟨c, c1, c2⟩ := K_alike1 (B := B) (S := S) hk k z_n 0 (by omega) (by unfold z_n; omega)
  exact ⟨c, c1, c2.trans ⟨fun w j hj => w j (Nat.zero_le _) hj, fun w j _ hj => w j hj⟩⟩
theorem K_alike_one {a : Nat} (hk : a + 1 ≤ 25366) : ∃ c : Bool, F_X6_isAlike B (nI a) 1 S = some (.inl (some (i_b c)), S) ∧ (c = true ↔ S.1 61 a = S.1 63 a) := by
  obtain ⟨c, c1, c2⟩ := K_isAlike (B := B) (S := S) (k := 1) hk
  exact ⟨c, c1, c2.trans ⟨fun w => w 0 (by omega), fun w j hj => by rw [show j = 0 by omega]; exact w⟩⟩
theorem K_isBodyAlike {y : m_It} (hB : B ≤ 96) (hok : m_ok B T) (hi : m_im B T O) (hokc : m_ok B Tc) (hic : m_im B Tc Oc) (h : k_O B (S.1 61) T O) (hc : k_O B (S.1 63) Tc Oc) (hy : y ∈ flat T) (hyc : y ∈ flat Tc) : ∃ c : Bool, F_X6_isBodyAlike B (nI (y.1 / 4000)) (nI (y.1 / 1000 % 4)) S = some (.inl (some (i_b c)), S) ∧ (c = true ↔ m_sb O Oc y) := by
  have it1 := hi.2.2.2.2.1 y hy
  have it2 := hic.2.2.2.2.1 y hyc
  have g := hok.2.2.1 y hy
  have o2 : y.1 / 4000 ≤ 60 := by have := g.2.2.1; omega
  have o1 := it1.1
  obtain ⟨b1, b2, -, -⟩ := im_LZ hB hok hi it1.2.1
  obtain ⟨d1, d2, -, -⟩ := im_LZ hB hokc hic it2.2.1
  have q1 := hi.2.1 (y.1 / 4000)
  have q2 := hic.2.1 (y.1 / 4000)
  unfold F_X6_isBodyAlike
  obtain hs | hs | hs | hs : y.1 / 1000 % 4 = 0 ∨ y.1 / 1000 % 4 = 1 ∨ y.1 / 1000 % 4 = 2 ∨ y.1 / 1000 % 4 = 3 := by omega
  · have f96 : (96 : Int32) + nI (y.1 / 4000) = nI (96 + y.1 / 4000) := by rw [m_c96, nI_add]
    have f157 : (157 : Int32) + nI (y.1 / 4000) = nI (157 + y.1 / 4000) := by rw [m_c157, nI_add]
    have f218 : (218 : Int32) + nI (y.1 / 4000) = nI (218 + y.1 / 4000) := by rw [m_c218, nI_add]
    obtain ⟨c1, a1, e1⟩ := K_alike_one (B := B) (S := S) (a := 96 + y.1 / 4000) (by omega)
    obtain ⟨c2, a2, e2⟩ := K_alike_one (B := B) (S := S) (a := 157 + y.1 / 4000) (by omega)
    obtain ⟨c3, a3, e3⟩ := K_alike_one (B := B) (S := S) (a := 218 + y.1 / 4000) (by omega)
    have p1 : S.1 61 (96 + y.1 / 4000) = S.1 63 (96 + y.1 / 4000) ↔ oK O (y.1 / 4000) = oK Oc (y.1 / 4000) := by rw [h.1 _ o1 o2, hc.1 _ o1 o2]; exact nI_eq (by omega) (by omega)
    have p2 : S.1 61 (157 + y.1 / 4000) = S.1 63 (157 + y.1 / 4000) ↔ oL O (y.1 / 4000) = oL Oc (y.1 / 4000) := by rw [(h.2.1 _ o1 o2 it1.2.1).1, (hc.2.1 _ o1 o2 it2.2.1).1]; exact nI_eq (by omega) (by omega)
    have p3 : S.1 61 (218 + y.1 / 4000) = S.1 63 (218 + y.1 / 4000) ↔ oZ O (y.1 / 4000) = oZ Oc (y.1 / 4000) := by rw [(h.2.1 _ o1 o2 it1.2.1).2.1, (hc.2.1 _ o1 o2 it2.2.1).2.1]; exact nI_eq (by omega) (by omega)
    rw [hs, if_pos (show nI 0 = 0 from rfl), f96, a1, m_bn]
    cases c1 with
    | false =>
      rw [if_pos (show i_b false = 0 from rfl), F_X6_isBodyAlike_46, F_X6_isBodyAlike_47, m_gd (by decide)]
      exact ⟨false, rfl, ⟨fun w => (by cases w), fun w => by have := e1.mpr (p1.mpr (w.1 hs).1); cases this⟩⟩
    | true =>
      rw [if_neg (show ¬ i_b true = 0 by decide), f157, a2, m_bn]
      cases c2 with
      | false =>
        rw [if_pos (show i_b false = 0 from rfl), F_X6_isBodyAlike_46, F_X6_isBodyAlike_47, m_gd (by decide)]
        exact ⟨false, rfl, ⟨fun w => (by cases w), fun w => by have := e2.mpr (p2.mpr (w.1 hs).2.1); cases this⟩⟩
      | true =>
        rw [if_neg (show ¬ i_b true = 0 by decide), f218, a3, m_bn]
        cases c3 with
        | false =>
          rw [if_pos (show i_b false = 0 from rfl), F_X6_isBodyAlike_46, F_X6_isBodyAlike_47, m_gd (by decide)]
          exact ⟨false, rfl, ⟨fun w => (by cases w), fun w => by have := e3.mpr (p3.mpr (w.1 hs).2.2); cases this⟩⟩
        | true =>
          rw [if_neg (show ¬ i_b true = 0 by decide), F_X6_isBodyAlike_47, m_gd (by decide)]
          exact ⟨true, rfl, ⟨fun _ => ⟨fun _ => ⟨p1.mp (e1.mp rfl), p2.mp (e2.mp rfl), p3.mp (e3.mp rfl)⟩, fun z => by omega, fun z => by omega⟩, fun _ => rfl⟩⟩
  · rw [hs, if_neg (by decide), if_neg (by decide), if_pos (show nI 1 = 1 from rfl), F_X6_isBodyAlike_121, F_X6_isBodyAlike_126, m_gd (by decide)]
    exact ⟨true, rfl, ⟨fun _ => ⟨fun z => by omega, fun z => by omega, fun z => by omega⟩, fun _ => rfl⟩⟩
  · obtain ⟨k1, y1⟩ := it1.2.2.2.2.1 hs
    obtain ⟨k2, y2⟩ := it2.2.2.2.2.1 hs
    have x1 : y.2.1 = 2 * (oP O (y.1 / 4000)).length := congrArg (fun z : m_It => z.2.1) y1
    have x2 : y.2.1 = 2 * (oP Oc (y.1 / 4000)).length := congrArg (fun z : m_It => z.2.1) y2
    have hl : (oP O (y.1 / 4000)).length = (oP Oc (y.1 / 4000)).length := by omega
    have h16 := im_len hi k1
    have f279 : (279 : Int32) + nI (y.1 / 4000) = nI (279 + y.1 / 4000) := by rw [m_c279, nI_add]
    have f340 : (340 : Int32) + 16 * nI (y.1 / 4000) = nI (340 + 16 * (y.1 / 4000)) := by rw [m_c340, m_c16, pk_mul, nI_add]
    obtain ⟨c1, a1, e1⟩ := K_alike_one (B := B) (S := S) (a := 279 + y.1 / 4000) (by omega)
    have v1 := (h.2.1 _ o1 o2 it1.2.1).2.2
    have v2 := (hc.2.1 _ o1 o2 it2.2.1).2.2
    have hc1 : c1 = true := e1.mpr (by rw [v1, v2, hl])
    subst hc1
    obtain ⟨c, a2, e2⟩ := K_isAlike (B := B) (S := S) (a := 340 + 16 * (y.1 / 4000)) (k := (oP O (y.1 / 4000)).length) (by omega)
    have key := ml_eq hl (h.2.2.1 _ o1 o2 k1) (hc.2.2.1 _ o1 o2 k2) (fun x hx => by have := hi.2.2.2.2.2.2.2.2.2.2.2.2.2.2.2.1 _ k1 x hx; omega) (fun x hx => by have := hic.2.2.2.2.2.2.2.2.2.2.2.2.2.2.2.1 _ k2 x hx; omega)
    rw [hs, if_neg (by decide), if_pos (show nI 2 = 2 from rfl), f279, a1, m_bn, if_neg (show ¬ i_b true = 0 by decide), m_gd (m_inb (by omega) (by omega)), m_lt, m_ix (by omega), v1, f340, a2, m_bn]
    cases c with
    | false =>
      rw [if_pos (show i_b false = 0 from rfl), F_X6_isBodyAlike_95, F_X6_isBodyAlike_126, m_gd (by decide)]
      exact ⟨false, rfl, ⟨fun w => (by cases w), fun w => by have := e2.mpr (key.mpr (w.2.1 hs)); cases this⟩⟩
    | true =>
      rw [if_neg (show ¬ i_b true = 0 by decide), F_X6_isBodyAlike_126, m_gd (by decide)]
      exact ⟨true, rfl, ⟨fun _ => ⟨fun z => by omega, fun _ => key.mp (e2.mp rfl), fun z => by omega⟩, fun _ => rfl⟩⟩
  · obtain ⟨k1, y1⟩ := it1.2.2.2.2.2 hs
    obtain ⟨k2, y2⟩ := it2.2.2.2.2.2 hs
    have x1 : y.2.1 = m_tl (oZ O (y.1 / 4000)) := congrArg (fun z : m_It => z.2.1) y1
    have x2 : y.2.1 = m_tl (oZ Oc (y.1 / 4000)) := congrArg (fun z : m_It => z.2.1) y2
    have hpos := g.1
    have f1316 : (1316 : Int32) + 40 * nI (y.1 / 4000) = nI (1316 + 40 * (y.1 / 4000)) := by rw [m_c1316, m_c40, pk_mul, nI_add]
    obtain ⟨c, a2, e2⟩ := K_isAlike (B := B) (S := S) (a := 1316 + 40 * (y.1 / 4000)) (k := 40) (by omega)
    have a2' : F_X6_isAlike B (nI (1316 + 40 * (y.1 / 4000))) 40 S = some (.inl (some (i_b c)), S) := a2
    have h40 := tl_le (z := oZ O (y.1 / 4000))
    have key : (∀ j, j < 40 → S.1 61 (1316 + 40 * (y.1 / 4000) + j) = S.1 63 (1316 + 40 * (y.1 / 4000) + j)) ↔ ∀ r, r < y.2.1 → oE O (y.1 / 4000) r = oE Oc (y.1 / 4000) r := by
      constructor
      · intro w r hr
        have := w r (by omega)
        rw [h.2.2.2.2 _ o1 o2 k1 (by omega) r (by omega), hc.2.2.2.2 _ o1 o2 k2 (by omega) r (by omega), if_pos (by omega), if_pos (by omega)] at this
        exact this
      · intro w j hj
        rw [h.2.2.2.2 _ o1 o2 k1 (by omega) j hj, hc.2.2.2.2 _ o1 o2 k2 (by omega) j hj, ← x1, ← x2]
        by_cases e : j < y.2.1
        · rw [if_pos e, if_pos e]; exact w j e
        · rw [if_neg e, if_neg e]
    rw [hs, if_neg (by decide), if_neg (by decide), if_neg (by decide), f1316, a2', m_bn]
    cases c with
    | false =>
      rw [if_pos (show i_b false = 0 from rfl), F_X6_isBodyAlike_126, m_gd (by decide)]
      exact ⟨false, rfl, ⟨fun w => (by cases w), fun w => by have := e2.mpr (key.mpr (w.2.2 hs)); cases this⟩⟩
    | true =>
      rw [if_neg (show ¬ i_b true = 0 by decide), F_X6_isBodyAlike_121, F_X6_isBodyAlike_126, m_gd (by decide)]
      exact ⟨true, rfl, ⟨fun _ => ⟨fun z => by omega, fun z => by omega, fun _ => key.mp (e2.mp rfl)⟩, fun _ => rfl⟩⟩
theorem key3 {x y : Nat} (h1 : x / 4000 = y / 4000) (h2 : x / 1000 % 4 = y / 1000 % 4) (h3 : x % 1000 = y % 1000) : x = y := by omega
theorem K_isLeafAlike {b : Nat} (hB : B ≤ 96) (hok : m_ok B T) (hi : m_im B T O) (hokc : m_ok B Tc) (hic : m_im B Tc Oc) (hT : k_T B 0 0 (S.1 61) T) (hC : k_T B 0 0 (S.1 63) Tc) (h : k_O B (S.1 61) T O) (hc : k_O B (S.1 63) Tc Oc) (hb : b ∈ tR T 0) (hbc : b ∈ tR Tc 0) (hl : (tI T b).length = (tI Tc b).length) : ∃ c : Bool, F_X6_isLeafAlike B (nI b) S = some (.inl (some (i_b c)), S) ∧ (c = true ↔ tI T b = tI Tc b ∧ ∀ y ∈ tI T b, m_sb O Oc y) := by
  obtain ⟨b2, b4, -, b5, -⟩ := ok_row hok b hb
  obtain ⟨-, b4c, -, -, -⟩ := ok_row hokc b hbc
  obtain ⟨l1, l2, l3⟩ := hT.2.2.1 b b2 b4
  obtain ⟨n1, n2, n3⟩ := hC.2.2.1 b b2 b4c
  have hpos : 1 ≤ (tI T b).length := by
    cases hc : tI T b with
    | nil => exact absurd hc b5
    | cons y L => simp
  generalize hn : (tI T b).length = n at *
  have at1 : ∀ a, a < 5 → ∀ i x, (tI T b)[i]? = some x → S.1 61 (4620 + 1536 * a + (16 * b + i)) = k_c a x := fun a ha i x hx => l2 a ha i _ (by rw [List.getElem?_map, hx]; rfl)
  have at2 : ∀ a, a < 5 → ∀ i x, (tI Tc b)[i]? = some x → S.1 63 (4620 + 1536 * a + (16 * b + i)) = k_c a x := fun a ha i x hx => n2 a ha i _ (by rw [List.getElem?_map, hx]; rfl)
  have e16 : (16 : Int32) * nI b = nI (16 * b) := by rw [m_c16, pk_mul]
  have e38 : (3852 : Int32) + nI b = nI (3852 + b) := by rw [m_c3852, nI_add]
  have f0 : (4620 : Int32) + nI (16 * b) = nI (4620 + 16 * b) := by rw [m_c4620, nI_add]
  have f1 : (6156 : Int32) + nI (16 * b) = nI (6156 + 16 * b) := by rw [m_c6156, nI_add]
  have f2 : (7692 : Int32) + nI (16 * b) = nI (7692 + 16 * b) := by rw [m_c7692, nI_add]
  have f3 : (9228 : Int32) + nI (16 * b) = nI (9228 + 16 * b) := by rw [m_c9228, nI_add]
  obtain ⟨c0, a0, q0⟩ := K_isAlike (B := B) (S := S) (a := 4620 + 16 * b) (k := n) (by omega)
  obtain ⟨c1, a1, q1⟩ := K_isAlike (B := B) (S := S) (a := 6156 + 16 * b) (k := n) (by omega)
  obtain ⟨c2, a2, q2⟩ := K_isAlike (B := B) (S := S) (a := 7692 + 16 * b) (k := n) (by omega)
  obtain ⟨c3, a3, q3⟩ := K_isAlike (B := B) (S := S) (a := 9228 + 16 * b) (k := n) (by omega)
  have same : tI T b = tI Tc b → c0 = true ∧ c1 = true ∧ c2 = true ∧ c3 = true := fun w => by
    have gen : ∀ a, a < 5 → ∀ j, j < n → S.1 61 (4620 + 1536 * a + (16 * b + j)) = S.1 63 (4620 + 1536 * a + (16 * b + j)) := fun a ha j hj => by
      have hx := List.getElem?_eq_getElem (show j < (tI T b).length by omega)
      rw [at1 a ha j _ hx, at2 a ha j _ (by rw [← w]; exact hx)]
    refine ⟨q0.mpr (fun j hj => ?_), q1.mpr (fun j hj => ?_), q2.mpr (fun j hj => ?_), q3.mpr (fun j hj => ?_)⟩
    · have := gen 0 (by omega) j hj; rw [show 4620 + 1536 * 0 + (16 * b + j) = 4620 + 16 * b + j by omega] at this; exact this
    · have := gen 1 (by omega) j hj; rw [show 4620 + 1536 * 1 + (16 * b + j) = 6156 + 16 * b + j by omega] at this; exact this
    · have := gen 2 (by omega) j hj; rw [show 4620 + 1536 * 2 + (16 * b + j) = 7692 + 16 * b + j by omega] at this; exact this
    · have := gen 3 (by omega) j hj; rw [show 4620 + 1536 * 3 + (16 * b + j) = 9228 + 16 * b + j by omega] at this; exact this
  have hz : z_n = 99999 + 1 := rfl
  have zero : F_X6_isLeafAlike_72 B (F_X6_isLeafAlike_73 B ) (nI (16 * b)) (nI n) S = some (.inl (some 0), S) := by
    rw [F_X6_isLeafAlike_72, F_X6_isLeafAlike_73, hz, F_X6_isLeafAlike_78, if_neg (by rw [m_c0]; exact nI_ge (by omega) (by omega)), if_pos rfl, F_X6_isLeafAlike_168, m_gd (by decide)]
  unfold F_X6_isLeafAlike
  rw [e38, m_gd (m_inb (by omega) (by omega)), m_lt, m_ix (by omega), l1, e16, f0, a0, m_bn]
  cases c0 with
  | false =>
    rw [if_pos (show i_b false = 0 from rfl), zero]
    exact ⟨false, rfl, ⟨fun w => (by cases w), fun w => by have := (same w.1).1; cases this⟩⟩
  | true =>
    rw [if_neg (show ¬ i_b true = 0 by decide), f1, a1, m_bn]
    cases c1 with
    | false =>
      rw [if_pos (show i_b false = 0 from rfl), zero]
      exact ⟨false, rfl, ⟨fun w => (by cases w), fun w => by have := (same w.1).2.1; cases this⟩⟩
    | true =>
      rw [if_neg (show ¬ i_b true = 0 by decide), f2, a2, m_bn]
      cases c2 with
      | false =>
        rw [if_pos (show i_b false = 0 from rfl), zero]
        exact ⟨false, rfl, ⟨fun w => (by cases w), fun w => by have := (same w.1).2.2.1; cases this⟩⟩
      | true =>
        rw [if_neg (show ¬ i_b true = 0 by decide), f3, a3, m_bn]
        cases c3 with
        | false =>
          rw [if_pos (show i_b false = 0 from rfl), zero]
          exact ⟨false, rfl, ⟨fun w => (by cases w), fun w => by have := (same w.1).2.2.2; cases this⟩⟩
        | true =>
          rw [if_neg (show ¬ i_b true = 0 by decide), F_X6_isLeafAlike_73]
          have r0 := q0.mp rfl
          have r1 := q1.mp rfl
          have r2 := q2.mp rfl
          have r3 := q3.mp rfl
          -- keys and sizes are alike
          have kb : ∀ i x y, (tI T b)[i]? = some x → (tI Tc b)[i]? = some y → x.1 = y.1 ∧ x.2.1 = y.2.1 ∧ m_ig x ∧ m_ig y := fun i x y hx hy => by
            have hin : i < n := by rw [← hn]; exact (List.getElem?_eq_some_iff.mp hx).1
            have gx := fl_ig hok.2.2.1 hb x (List.mem_of_getElem? hx)
            have gy := fl_ig hokc.2.2.1 hbc y (List.mem_of_getElem? hy)
            have w0 := r0 i hin
            have w1 := r1 i hin
            have w2 := r2 i hin
            have w3 := r3 i hin
            rw [show 4620 + 16 * b + i = 4620 + 1536 * 0 + (16 * b + i) by omega, at1 0 (by omega) i x hx, at2 0 (by omega) i y hy] at w0
            rw [show 6156 + 16 * b + i = 4620 + 1536 * 1 + (16 * b + i) by omega, at1 1 (by omega) i x hx, at2 1 (by omega) i y hy] at w1
            rw [show 7692 + 16 * b + i = 4620 + 1536 * 2 + (16 * b + i) by omega, at1 2 (by omega) i x hx, at2 2 (by omega) i y hy] at w2
            rw [show 9228 + 16 * b + i = 4620 + 1536 * 3 + (16 * b + i) by omega, at1 3 (by omega) i x hx, at2 3 (by omega) i y hy] at w3
            have gx3 := gx.2.2.1
            have gy3 := gy.2.2.1
            have gx2 := gx.2.1
            have gy2 := gy.2.1
            have v0 := (nI_eq (a := x.1 / 4000) (b := y.1 / 4000) (by omega) (by omega)).mp w0
            have v1 := (nI_eq (a := x.1 / 1000 % 4) (b := y.1 / 1000 % 4) (by omega) (by omega)).mp w1
            have v2 := (nI_eq (a := x.1 % 1000) (b := y.1 % 1000) (by omega) (by omega)).mp w2
            have v3 := (nI_eq (a := x.2.1) (b := y.2.1) (by omega) (by omega)).mp w3
            exact ⟨key3 v0 v1 v2, v3, gx, gy⟩
          have cont0 : ∀ m i, F_X6_isLeafAlike_78 B (m + 1) (nI (16 * b)) (nI n) 0 (nI i) S = some (.inl (some 0), S) := fun m i => by
            rw [F_X6_isLeafAlike_78]
            split
            · rw [F_X6_isLeafAlike_168, m_gd (by decide)]
            · rw [if_pos rfl, F_X6_isLeafAlike_168, m_gd (by decide)]
          have step : ∀ m i, i < n → ∃ d : Bool, F_X6_isLeafAlike_78 B (m + 1 + 1) (nI (16 * b)) (nI n) 1 (nI i) S = (if d = true then F_X6_isLeafAlike_78 B (m + 1) (nI (16 * b)) (nI n) 1 (nI (i + 1)) S else some (.inl (some 0), S)) ∧ (d = true ↔ ∀ x y, (tI T b)[i]? = some x → (tI Tc b)[i]? = some y → x = y ∧ m_sb O Oc x) := fun m i hin => by
            have hx := List.getElem?_eq_getElem (show i < (tI T b).length by omega)
            have hy := List.getElem?_eq_getElem (show i < (tI Tc b).length by omega)
            generalize (tI T b)[i] = x at hx
            generalize (tI Tc b)[i] = y at hy
            obtain ⟨k1, k2, gx, gy⟩ := kb i x y hx hy
            have xm := l_fm_mem.mpr ⟨b, hb, List.mem_of_getElem? hx⟩
            have ym := l_fm_mem.mpr ⟨b, hbc, List.mem_of_getElem? hy⟩
            have ix := hi.2.2.2.2.1 x xm
            have iy := hic.2.2.2.2.1 y ym
            have x0 : S.1 61 (4620 + 16 * b + i) = nI (x.1 / 4000) := by rw [show 4620 + 16 * b + i = 4620 + 1536 * 0 + (16 * b + i) by omega]; exact at1 0 (by omega) i x hx
            have x1 : S.1 61 (6156 + 16 * b + i) = nI (x.1 / 1000 % 4) := by rw [show 6156 + 16 * b + i = 4620 + 1536 * 1 + (16 * b + i) by omega]; exact at1 1 (by omega) i x hx
            have x4 : S.1 61 (10764 + 16 * b + i) = nI (x.2.2.getD 0) := by rw [show 10764 + 16 * b + i = 4620 + 1536 * 4 + (16 * b + i) by omega]; exact at1 4 (by omega) i x hx
            have y4 : S.1 63 (10764 + 16 * b + i) = nI (y.2.2.getD 0) := by rw [show 10764 + 16 * b + i = 4620 + 1536 * 4 + (16 * b + i) by omega]; exact at2 4 (by omega) i y hy
            have g0 : (4620 : Int32) + nI (16 * b) + nI i = nI (4620 + 16 * b + i) := by rw [f0, nI_add]
            have g1 : (6156 : Int32) + nI (16 * b) + nI i = nI (6156 + 16 * b + i) := by rw [f1, nI_add]
            have g4 : (10764 : Int32) + nI (16 * b) + nI i = nI (10764 + 16 * b + i) := by rw [m_c10764, nI_add, nI_add]
            -- the rest, once the items are equal
            have rest : x = y → ∃ d : Bool, F_X6_isLeafAlike_122 B (F_X6_isLeafAlike_159 B (F_X6_isLeafAlike_160 B (F_X6_isLeafAlike_78 B (m + 1)) ) ) (F_X6_isLeafAlike_160 B (F_X6_isLeafAlike_78 B (m + 1)) ) (nI (16 * b)) (nI n) (nI i) S = (if d = true then F_X6_isLeafAlike_78 B (m + 1) (nI (16 * b)) (nI n) 1 (nI (i + 1)) S else some (.inl (some 0), S)) ∧ (d = true ↔ ∀ x' y', (tI T b)[i]? = some x' → (tI Tc b)[i]? = some y' → x' = y' ∧ m_sb O Oc x') := fun exy => by
              obtain ⟨d, d1, d2⟩ := K_isBodyAlike (S := S) hB hok hi hokc hic h hc xm (exy ▸ ym)
              refine ⟨d, ?_, d2.trans ⟨fun w x' y' hx' hy' => ?_, fun w => (w x y hx hy).2⟩⟩
              · rw [F_X6_isLeafAlike_122, g0, m_gd (m_inb (by omega) (by omega)), m_lt, m_ix (by omega), x0, g1, m_gd (m_inb (by omega) (by omega)), m_lt, m_ix (by omega), x1, d1, m_bn]
                cases d with
                | false => rw [if_pos (show i_b false = 0 from rfl), F_X6_isLeafAlike_159, F_X6_isLeafAlike_160, nI_1, cont0]; rfl
                | true => rw [if_neg (show ¬ i_b true = 0 by decide), F_X6_isLeafAlike_160, nI_1]; rfl
              · rw [hx] at hx'; rw [hy] at hy'
                rw [← Option.some.inj hx', ← Option.some.inj hy']
                exact ⟨exy, w⟩
            rw [F_X6_isLeafAlike_78, if_neg (nI_ge hin (by omega)), if_neg (by decide), g1, m_gd (m_inb (by omega) (by omega)), m_lt, m_ix (by omega), x1]
            by_cases hs : x.1 / 1000 % 4 = 1
            · obtain ⟨-, -, t, ht, t1, t2, -⟩ := ix.2.2.2.1 hs
              obtain ⟨-, -, t', ht', t1', t2', -⟩ := iy.2.2.2.1 (by rw [← k1]; exact hs)
              obtain ⟨c, c1, c2⟩ := K_alike_one (B := B) (S := S) (a := 10764 + 16 * b + i) (by omega)
              rw [if_pos (by rw [hs]; rfl), g4, c1, m_bn]
              rw [x4, y4, ht, ht'] at c2
              cases c with
              | false =>
                rw [if_pos (show i_b false = 0 from rfl), F_X6_isLeafAlike_159, F_X6_isLeafAlike_160, nI_1, cont0]
                refine ⟨false, rfl, ⟨fun w => (by cases w), fun w => ?_⟩⟩
                have exy := (w x y hx hy).1
                rw [exy, ht'] at ht
                have := c2.mpr (by show nI t = nI t'; rw [Option.some.inj ht])
                cases this
              | true =>
                rw [if_neg (show ¬ i_b true = 0 by decide)]
                have ett : t = t' := (nI_eq (a := t) (b := t') (by omega) (by omega)).mp (c2.mp rfl)
                exact rest (Prod.ext k1 (Prod.ext k2 (by rw [ht, ht', ett])))
            · have hs' : ¬ nI (x.1 / 1000 % 4) = 1 := fun z => hs ((nI_eq (by omega) (by omega)).mp (z.trans m_c1))
              have none' : ∀ (z : m_It) (Oz : m_O), m_it Oz z → z.1 / 1000 % 4 ≠ 1 → z.2.2 = none := fun z Oz hz hz1 => by
                obtain q | q | q : z.1 / 1000 % 4 = 0 ∨ z.1 / 1000 % 4 = 2 ∨ z.1 / 1000 % 4 = 3 := by omega
                · exact congrArg (fun z : m_It => z.2.2) (hz.2.2.1 q)
                · exact congrArg (fun z : m_It => z.2.2) (hz.2.2.2.2.1 q).2
                · exact congrArg (fun z : m_It => z.2.2) (hz.2.2.2.2.2 q).2
              rw [if_neg hs']
              exact rest (Prod.ext k1 (Prod.ext k2 (by rw [none' x O ix hs, none' y Oc iy (by rw [← k1]; exact hs)])))
          obtain ⟨d, d1, d2⟩ := z_all (N := n) (P := fun i => ∀ x y, (tI T b)[i]? = some x → (tI Tc b)[i]? = some y → x = y ∧ m_sb O Oc x) (S := S) (G := fun m i => F_X6_isLeafAlike_78 B (m + 1) (nI (16 * b)) (nI n) 1 (nI i) S) (fun m i hi' hp => by
            obtain ⟨d, d1, d2⟩ := step m i hi'
            show F_X6_isLeafAlike_78 B (m + 1 + 1) (nI (16 * b)) (nI n) 1 (nI i) S = _
            rw [d1, if_pos (d2.mpr hp)]) (fun m i hi' hp => by
            obtain ⟨d, d1, d2⟩ := step m i hi'
            show F_X6_isLeafAlike_78 B (m + 1 + 1) (nI (16 * b)) (nI n) 1 (nI i) S = _
            rw [d1, if_neg (fun z => hp (d2.mp z))]) (fun m => by
            show F_X6_isLeafAlike_78 B (m + 1 + 1) (nI (16 * b)) (nI n) 1 (nI n) S = _
            rw [F_X6_isLeafAlike_78, if_pos (nI_le (Nat.le_refl _) (by omega)), F_X6_isLeafAlike_168, m_gd (by decide)]) n 99999 0 (by omega) (by omega)
          refine ⟨d, d1, d2.trans ⟨fun w => ?_, fun w j _ hj x y hx hy => ?_⟩⟩
          · have eI : tI T b = tI Tc b := list_eq (by omega) (fun i hi' x y hx hy => (w i (Nat.zero_le _) (by omega) x y hx hy).1)
            refine ⟨eI, fun y hy => ?_⟩
            obtain ⟨j, hj, ej⟩ := List.getElem_of_mem hy
            have hx : (tI T b)[j]? = some y := by rw [List.getElem?_eq_getElem hj, ej]
            exact (w j (Nat.zero_le _) (by omega) y y hx (by rw [← eI]; exact hx)).2
          · rw [← w.1] at hy
            have exy : x = y := by rw [hx] at hy; exact Option.some.inj hy
            exact ⟨exy, w.2 x (List.mem_of_getElem? hx)⟩
end SK4
