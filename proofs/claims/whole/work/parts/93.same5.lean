/-! Changed blocks: inner nodes in the reference; how many are changed. -/
section SK5
variable {B : Nat} {S : z_S} {T Tc : m_T} {O Oc : m_O}
theorem K_firstBelow_loop {a1 : Nat} (hB : B ≤ 96) (hok : m_ok B T) (hT : k_T B 0 0 (S.1 a1) T) : ∀ (h n x : Nat), h < n → x ∈ tR T h → ∃ l, l ∈ tR T 0 ∧ m_fb T h x = m_fk T l ∧ F_X6_firstBelow_2 B a1 25366 n (nI x) S = some (.inl (some (nI (16 * l))), S)
  | 0, n, x, hn, hx => by
    obtain ⟨n, rfl⟩ : ∃ j, n = j + 1 := ⟨n - 1, by omega⟩
    obtain ⟨x2, x4, -, x5, -⟩ := ok_row hok x hx
    have e1 : (3756 : Int32) + nI x = nI (3756 + x) := by rw [m_c3756, nI_add]
    have e16 : (16 : Int32) * nI x = nI (16 * x) := by rw [m_c16, pk_mul]
    refine ⟨x, hx, rfl, ?_⟩
    rw [F_X6_firstBelow_2, e1, m_gd (m_inb (by omega) (by omega)), m_lt, m_ix (by omega), hT.2.1 x x2, sk_kh hok.1 hx, if_pos (show nI (0 + 1) ≤ 1 by decide), e16]
  | h + 1, n, x, hn, hx => by
    obtain ⟨n, rfl⟩ : ∃ j, n = j + 1 := ⟨n - 1, by omega⟩
    obtain ⟨x1, x2, x3, x4⟩ := hok.1.2.2.2.1 _ x hx
    rw [if_neg (by omega)] at x4
    have h6 := hok.1.1
    have hle := sk_le hok.1 hx
    have h10 := (hok.1.2.2.2.2.2.2.2.2.2.1 h x hx (by omega)).1
    obtain ⟨c, L, hK⟩ : ∃ c L, tK T x = c :: L := by
      cases hc : tK T x with
      | nil => rw [hc] at h10; simp at h10
      | cons c L => exact ⟨c, L, rfl⟩
    have hcm := (sk_kid hok.1 hx (c := c) (by rw [hK]; exact List.mem_cons_self)).2.1
    have e1 : (3756 : Int32) + nI x = nI (3756 + x) := by rw [m_c3756, nI_add]
    have e2 : (4044 : Int32) + 6 * nI x = nI (4044 + 6 * x) := by rw [m_c4044, m_c6, pk_mul, nI_add]
    have e8 : S.1 a1 (4044 + 6 * x) = nI c := by have := (hT.2.2.2.1 x x2 (by omega) x4).2.1 0 (nI c) (by rw [hK]; rfl); simpa using this
    obtain ⟨l, l1, l2, l3⟩ := K_firstBelow_loop hB hok hT h n c (by omega) hcm
    refine ⟨l, l1, by rw [m_fb, hK]; exact l2, ?_⟩
    rw [F_X6_firstBelow_2, e1, m_gd (m_inb (by omega) (by omega)), m_lt, m_ix (i := 3756 + x) (by omega), hT.2.1 x x2, sk_kh hok.1 hx, if_neg (by rw [m_c1]; exact nI_ge (by omega) (by omega)), e2, m_gd (m_inb (by omega) (by omega)), m_lt, m_ix (i := 4044 + 6 * x) (by omega), e8, l3]
theorem K_firstBelow {a1 h x : Nat} (hB : B ≤ 96) (hok : m_ok B T) (hT : k_T B 0 0 (S.1 a1) T) (hx : x ∈ tR T h) : ∃ l, l < B ∧ F_X6_firstBelow B a1 25366 (nI x) S = some (.inl (some (nI (16 * l))), S) ∧ S.1 a1 (4620 + 16 * l) = nI (m_fb T (tH T x) x / 4000) ∧ S.1 a1 (6156 + 16 * l) = nI (m_fb T (tH T x) x / 1000 % 4) ∧ S.1 a1 (7692 + 16 * l) = nI (m_fb T (tH T x) x % 1000) := by
  have h6 := hok.1.1
  have hle := sk_le hok.1 hx
  have xh := (hok.1.2.2.2.1 _ x hx).2.2.1
  obtain ⟨l, l1, l2, l3⟩ := K_firstBelow_loop hB hok hT h z_n x (by unfold z_n; omega) hx
  obtain ⟨b2, b4, -, b5, -⟩ := ok_row hok l l1
  obtain ⟨y, L, hI⟩ : ∃ y L, tI T l = y :: L := by
    cases hc : tI T l with
    | nil => exact absurd hc b5
    | cons y L => exact ⟨y, L, rfl⟩
  have hfk : m_fk T l = y.1 := by rw [m_fk, hI]; rfl
  have at1 : ∀ a, a < 5 → S.1 a1 (4620 + 1536 * a + (16 * l + 0)) = k_c a y := fun a ha => (hT.2.2.1 l b2 b4).2.1 a ha 0 _ (by rw [hI]; rfl)
  rw [xh, l2, hfk]
  exact ⟨l, b2, l3, at1 0 (by omega), by have := at1 1 (by omega); rw [show 4620 + 1536 * 1 + (16 * l + 0) = 6156 + 16 * l by omega] at this; exact this, by have := at1 2 (by omega); rw [show 4620 + 1536 * 2 + (16 * l + 0) = 7692 + 16 * l by omega] at this; exact this⟩
theorem K_isInnerAlike {b h hc : Nat} (hB : B ≤ 96) (hok : m_ok B T) (hokc : m_ok B Tc) (hT : k_T B 0 0 (S.1 61) T) (hC : k_T B 0 0 (S.1 63) Tc) (hb : b ∈ tR T (h + 1)) (hbc : b ∈ tR Tc (hc + 1)) (hl : (tK T b).length = (tK Tc b).length) : ∃ c : Bool, F_X6_isInnerAlike B (nI b) S = some (.inl (some (i_b c)), S) ∧ (c = true ↔ tK T b = tK Tc b ∧ ∀ c ∈ tK T b, m_fb T (tH T c) c = m_fb Tc (tH Tc c) c) := by
  obtain ⟨b1, b2, b3, b4⟩ := hok.1.2.2.2.1 _ b hb
  obtain ⟨d1, d2, d3, d4⟩ := hokc.1.2.2.2.1 _ b hbc
  rw [if_neg (by omega)] at b4 d4
  obtain ⟨l1, l2, l3⟩ := hT.2.2.2.1 b b2 (by omega) b4
  obtain ⟨n1, n2, n3⟩ := hC.2.2.2.1 b b2 (by omega) d4
  have h10 := (hok.1.2.2.2.2.2.2.2.2.2.1 h b hb (by omega)).1
  have e38 : (3852 : Int32) + nI b = nI (3852 + b) := by rw [m_c3852, nI_add]
  have e40 : (4044 : Int32) + 6 * nI b = nI (4044 + 6 * b) := by rw [m_c4044, m_c6, pk_mul, nI_add]
  have kB : ∀ x ∈ tK T b, x < 2 ^ 31 := fun x hx => by have := (hok.1.2.2.2.1 _ x (sk_kid hok.1 hb hx).2.1).2.1; omega
  have kBc : ∀ x ∈ tK Tc b, x < 2 ^ 31 := fun x hx => by have := (hokc.1.2.2.2.1 _ x (sk_kid hokc.1 hbc hx).2.1).2.1; omega
  generalize hn : (tK T b).length = n at *
  obtain ⟨c0, a0, q0⟩ := K_isAlike (B := B) (S := S) (a := 4044 + 6 * b) (k := n) (by omega)
  have key := ml_eq (hn.trans hl) l2 n2 kB kBc
  rw [hn] at key
  have q0' := q0.trans key
  have hz : z_n = 99999 + 1 := rfl
  have cont0 : ∀ m i, F_X6_isInnerAlike_28 B (m + 1) (nI b) (nI n) 0 (nI i) S = some (.inl (some 0), S) := fun m i => by
    rw [F_X6_isInnerAlike_28]
    split
    · rw [F_X6_isInnerAlike_175, m_gd (by decide)]
    · rw [if_pos rfl, F_X6_isInnerAlike_175, m_gd (by decide)]
  unfold F_X6_isInnerAlike
  rw [e38, m_gd (m_inb (by omega) (by omega)), m_lt, m_ix (by omega), l1, e40, a0, m_bn]
  cases c0 with
  | false =>
    have := cont0 99999 0
    rw [← hz] at this
    exact ⟨false, this, ⟨fun w => (by cases w), fun w => by have := q0'.mpr w.1; cases this⟩⟩
  | true =>
    have eK := q0'.mp rfl
    have step : ∀ m i, i < n → ∃ d : Bool, F_X6_isInnerAlike_28 B (m + 1 + 1) (nI b) (nI n) 1 (nI i) S = (if d = true then F_X6_isInnerAlike_28 B (m + 1) (nI b) (nI n) 1 (nI (i + 1)) S else some (.inl (some 0), S)) ∧ (d = true ↔ ∀ c, (tK T b)[i]? = some c → m_fb T (tH T c) c = m_fb Tc (tH Tc c) c) := fun m i hin => by
      have hx := List.getElem?_eq_getElem (show i < (tK T b).length by omega)
      have xm := List.getElem_mem (show i < (tK T b).length by omega)
      generalize (tK T b)[i] = x at hx xm
      have hy : (tK Tc b)[i]? = some x := by rw [← eK]; exact hx
      have kx := (sk_kid hok.1 hb xm).2.1
      have ky := (sk_kid hokc.1 hbc (by rw [← eK]; exact xm)).2.1
      have x8 : S.1 61 (4044 + 6 * b + i) = nI x := l2 i _ (by rw [List.getElem?_map, hx]; rfl)
      have y8 : S.1 63 (4044 + 6 * b + i) = nI x := n2 i _ (by rw [List.getElem?_map, hy]; rfl)
      obtain ⟨p, pB, p1, p2, p3, p4⟩ := K_firstBelow (a1 := 61) hB hok hT kx
      obtain ⟨q, qB, q1, q2, q3, q4⟩ := K_firstBelow (a1 := 63) hB hokc hC ky
      have fx := fb_lt (h := h) (x := x) hok kx
      have fy := fb_lt (h := h) (x := x) hokc ky
      rw [← (hok.1.2.2.2.1 _ x kx).2.2.1] at fx
      rw [← (hokc.1.2.2.2.1 _ x ky).2.2.1] at fy
      have w0 : (4044 : Int32) + 6 * nI b + nI i = nI (4044 + 6 * b + i) := by rw [e40, nI_add]
      have v0 : ∀ z, (4620 : Int32) + nI (16 * z) = nI (4620 + 16 * z) := fun z => by rw [m_c4620, nI_add]
      have v1 : ∀ z, (6156 : Int32) + nI (16 * z) = nI (6156 + 16 * z) := fun z => by rw [m_c6156, nI_add]
      have v2 : ∀ z, (7692 : Int32) + nI (16 * z) = nI (7692 + 16 * z) := fun z => by rw [m_c7692, nI_add]
      generalize hfx : m_fb T (tH T x) x = X at *
      generalize hfy : m_fb Tc (tH Tc x) x = Y at *
      have bad : X ≠ Y → ∃ d : Bool, F_X6_isInnerAlike_167 B (F_X6_isInnerAlike_168 B (F_X6_isInnerAlike_28 B (m + 1)) ) (nI b) (nI n) (nI i) S = (if d = true then F_X6_isInnerAlike_28 B (m + 1) (nI b) (nI n) 1 (nI (i + 1)) S else some (.inl (some 0), S)) ∧ (d = true ↔ ∀ c, (tK T b)[i]? = some c → m_fb T (tH T c) c = m_fb Tc (tH Tc c) c) := fun hne => by
        rw [F_X6_isInnerAlike_167, F_X6_isInnerAlike_168, nI_1, cont0]
        exact ⟨false, rfl, ⟨fun w => (by cases w), fun w => absurd (hfx.symm.trans ((w x hx).trans hfy)) hne⟩⟩
      rw [F_X6_isInnerAlike_28, if_neg (nI_ge hin (by omega)), if_neg (by decide), w0, m_gd (m_inb (by omega) (by omega)), m_lt, m_ix (i := 4044 + 6 * b + i) (by omega), x8, p1, m_bn, m_gd (m_inb (by omega) (by omega)), m_lt, y8, q1, m_bn, v0, m_gd (m_inb (by omega) (by omega)), m_lt, m_ix (i := 4620 + 16 * p) (by omega), p2, v0, m_gd (m_inb (by omega) (by omega)), m_lt, m_ix (i := 4620 + 16 * q) (by omega), q2]
      by_cases g0 : X / 4000 = Y / 4000
      · rw [if_pos (by rw [g0]), v1, m_gd (m_inb (by omega) (by omega)), m_lt, m_ix (i := 6156 + 16 * p) (by omega), p3, v1, m_gd (m_inb (by omega) (by omega)), m_lt, m_ix (i := 6156 + 16 * q) (by omega), q3]
        by_cases g1 : X / 1000 % 4 = Y / 1000 % 4
        · rw [if_pos (by rw [g1]), v2, m_gd (m_inb (by omega) (by omega)), m_lt, m_ix (i := 7692 + 16 * p) (by omega), p4, v2, m_gd (m_inb (by omega) (by omega)), m_lt, m_ix (i := 7692 + 16 * q) (by omega), q4]
          by_cases g2 : X % 1000 = Y % 1000
          · rw [if_pos (by rw [g2]), F_X6_isInnerAlike_168, nI_1]
            refine ⟨true, rfl, ⟨fun _ c hc1 => ?_, fun _ => rfl⟩⟩
            rw [hx] at hc1
            rw [← Option.some.inj hc1, hfx, hfy]
            exact key3 g0 g1 g2
          · rw [if_neg (fun z => g2 ((nI_eq (by omega) (by omega)).mp z))]
            exact bad (fun z => g2 (by rw [z]))
        · rw [if_neg (fun z => g1 ((nI_eq (by omega) (by omega)).mp z))]
          exact bad (fun z => g1 (by rw [z]))
      · rw [if_neg (fun z => g0 ((nI_eq (by omega) (by omega)).mp z))]
        exact bad (fun z => g0 (by rw [z]))
    obtain ⟨d, e1, e2⟩ := z_all (N := n) (P := fun i => ∀ c, (tK T b)[i]? = some c → m_fb T (tH T c) c = m_fb Tc (tH Tc c) c) (S := S) (G := fun m i => F_X6_isInnerAlike_28 B (m + 1) (nI b) (nI n) 1 (nI i) S) (fun m i hi' hp => by
      obtain ⟨d, e1, e2⟩ := step m i hi'
      show F_X6_isInnerAlike_28 B (m + 1 + 1) (nI b) (nI n) 1 (nI i) S = _
      rw [e1, if_pos (e2.mpr hp)]) (fun m i hi' hp => by
      obtain ⟨d, e1, e2⟩ := step m i hi'
      show F_X6_isInnerAlike_28 B (m + 1 + 1) (nI b) (nI n) 1 (nI i) S = _
      rw [e1, if_neg (fun z => hp (e2.mp z))]) (fun m => by
      show F_X6_isInnerAlike_28 B (m + 1 + 1) (nI b) (nI n) 1 (nI n) S = _
      rw [F_X6_isInnerAlike_28, if_pos (nI_le (Nat.le_refl _) (by omega)), F_X6_isInnerAlike_175, m_gd (by decide)]) n 99999 0 (by omega) (by omega)
    refine ⟨d, e1, e2.trans ⟨fun w => ⟨eK, fun c hcm => ?_⟩, fun w j _ hj c hc1 => w.2 c (List.mem_of_getElem? hc1)⟩⟩
    obtain ⟨j, hj, ej⟩ := List.getElem_of_mem hcm
    exact w j (Nat.zero_le _) (by omega) c (by rw [List.getElem?_eq_getElem hj, ej])
theorem K_isChanged {b : Nat} (hB : B ≤ 96) (hok : m_ok B T) (hi : m_im B T O) (hokc : m_ok B Tc) (hic : m_im B Tc Oc) (hT : k_T B 0 0 (S.1 61) T) (hC : k_T B 0 0 (S.1 63) Tc) (h : k_O B (S.1 61) T O) (hc : k_O B (S.1 63) Tc Oc) (hb : b < B) : ∃ c : Bool, F_X6_isChanged B (nI b) S = some (.inl (some (i_b c)), S) ∧ (c = true ↔ tU T b ≠ 0 ∧ ¬ m_same B T O Tc Oc b) := by
  have l1 := hok.1.2.2.2.2.2.2.2.2.2.2.2
  have l2 := hokc.1.2.2.2.2.2.2.2.2.2.2.2
  have e0 : (0 : Int32) + nI b = nI b := by rw [m_c0, nI_add, Nat.zero_add]
  have use1 : ∀ c, c < 96 → S.1 61 c = nI (if c < B ∧ tU T c ≠ 0 then 1 else 0) := hT.1
  have use2 : ∀ c, c < 96 → S.1 63 c = nI (if c < B ∧ tU Tc c ≠ 0 then 1 else 0) := hC.1
  unfold F_X6_isChanged
  rw [e0, m_gd (m_inb (by omega) (by omega)), m_lt, m_ix (by omega), use1 b (by omega)]
  by_cases u0 : tU T b = 0
  · rw [if_neg (show ¬ (b < B ∧ tU T b ≠ 0) from fun z => z.2 u0), if_pos (show nI 0 = 0 from rfl), m_gd (by decide)]
    exact ⟨false, rfl, ⟨fun w => (by cases w), fun w => absurd u0 w.1⟩⟩
  · rw [if_pos (show b < B ∧ tU T b ≠ 0 from ⟨hb, u0⟩), if_neg (show ¬ nI 1 = 0 by decide)]
    by_cases hb0 : b = 0
    · have t0 : tU T b = 1 := by rw [hb0]; exact hok.1.2.2.2.2.2.2.2.2.2.2.1
      have t0c : tU Tc b = 1 := by rw [hb0]; exact hokc.1.2.2.2.2.2.2.2.2.2.2.1
      have rb := sk_rb hok.1
      have rbc := sk_rb hokc.1
      obtain ⟨c1, a1, q1⟩ := K_isAlike (B := B) (S := S) (a := 0) (k := 96) (by omega)
      obtain ⟨c2, a2, q2⟩ := K_alike_one (B := B) (S := S) (a := 13076) (by omega)
      have a1' : F_X6_isAlike B 0 96 S = some (.inl (some (i_b c1)), S) := a1
      have a2' : F_X6_isAlike B 13076 1 S = some (.inl (some (i_b c2)), S) := a2
      have p1 : c1 = true ↔ ∀ c, c < B → (tU T c = 0 ↔ tU Tc c = 0) := q1.trans ⟨fun w c hc' => by
          have := w c (by omega)
          rw [Nat.zero_add, use1 c (by omega), use2 c (by omega)] at this
          by_cases x1 : tU T c = 0 <;> by_cases x2 : tU Tc c = 0
          · exact ⟨fun _ => x2, fun _ => x1⟩
          · rw [if_neg (fun z => z.2 x1), if_pos ⟨hc', x2⟩] at this; exact absurd this (by decide)
          · rw [if_pos ⟨hc', x1⟩, if_neg (fun z => z.2 x2)] at this; exact absurd this (by decide)
          · exact ⟨fun z => absurd z x1, fun z => absurd z x2⟩, fun w c hc' => by
          rw [Nat.zero_add, use1 c hc', use2 c hc']
          by_cases hcB : c < B
          · have := w c hcB
            by_cases x1 : tU T c = 0
            · rw [if_neg (fun z => z.2 x1), if_neg (fun z => z.2 (this.mp x1))]
            · rw [if_pos ⟨hcB, x1⟩, if_pos ⟨hcB, fun z => x1 (this.mpr z)⟩]
          · rw [if_neg (fun z => hcB z.1), if_neg (fun z => hcB z.1)]⟩
      have p2 : c2 = true ↔ tX T = tX Tc := q2.trans (by rw [hT.2.2.2.2.2.2.1, hC.2.2.2.2.2.2.1]; exact nI_eq (by omega) (by omega))
      have ms : m_same B T O Tc Oc b ↔ c1 = true ∧ c2 = true := ⟨fun w => ⟨p1.mpr (w.2.1 t0).2, p2.mpr (w.2.1 t0).1⟩, fun w => ⟨t0.trans t0c.symm, fun _ => ⟨p2.mp w.2, p1.mp w.1⟩, fun z => by omega, fun z => by omega, fun z => by omega⟩⟩
      rw [if_pos (show nI b = 0 by rw [hb0]; rfl), a1', m_bn]
      cases c1 with
      | false =>
        rw [if_pos (show i_b false = 0 from rfl), F_X6_isChanged_38, F_X6_isChanged_43, m_gd (by decide)]
        exact ⟨true, rfl, ⟨fun _ => ⟨u0, fun w => by have := (ms.mp w).1; cases this⟩, fun _ => rfl⟩⟩
      | true =>
        rw [if_neg (show ¬ i_b true = 0 by decide), a2', m_bn]
        cases c2 with
        | false =>
          rw [if_pos (show i_b false = 0 from rfl), F_X6_isChanged_38, F_X6_isChanged_43, m_gd (by decide)]
          exact ⟨true, rfl, ⟨fun _ => ⟨u0, fun w => by have := (ms.mp w).2; cases this⟩, fun _ => rfl⟩⟩
        | true =>
          rw [if_neg (show ¬ i_b true = 0 by decide), F_X6_isChanged_43, m_gd (by decide)]
          exact ⟨false, rfl, ⟨fun w => (by cases w), fun w => absurd (ms.mpr ⟨rfl, rfl⟩) w.2⟩⟩
    · have hbn : ¬ nI b = 0 := fun z => hb0 ((nI_eq (by omega) (by omega)).mp (z.trans m_c0))
      have n1 := hi.1 b (by omega)
      have n1c := hic.1 b (by omega)
      have l1b := l1 b hb
      have l2b := l2 b hb
      rw [if_neg hbn, m_gd (m_inb (by omega) (by omega)), m_lt, use2 b (by omega)]
      by_cases v0 : tU Tc b = 0
      · rw [if_neg (show ¬ (b < B ∧ tU Tc b ≠ 0) from fun z => z.2 v0), if_pos (show nI 0 = 0 from rfl), F_X6_isChanged_68, m_gd (by decide)]
        exact ⟨true, rfl, ⟨fun _ => ⟨u0, fun w => u0 (w.1.trans v0)⟩, fun _ => rfl⟩⟩
      · have e37 : (3756 : Int32) + nI b = nI (3756 + b) := by rw [m_c3756, nI_add]
        have e38 : (3852 : Int32) + nI b = nI (3852 + b) := by rw [m_c3852, nI_add]
        obtain ⟨c1, a1, q1⟩ := K_alike_one (B := B) (S := S) (a := 3756 + b) (by omega)
        have kh : ∀ (T' : m_T), m_ok B T' → k_h T' b ≤ 7 ∧ (tU T' b = 2 → k_h T' b = 1) ∧ (tU T' b = 3 → k_h T' b = tH T' b + 1 ∧ 1 ≤ tH T' b) ∧ (tU T' b = 4 → k_h T' b = 0) ∧ (tU T' b = 0 → k_h T' b = 0) := fun T' hk => by
          have h6 := hk.1.1
          refine ⟨?_, fun z => by unfold k_h; rw [if_pos z], fun z => ?_, fun z => by unfold k_h; rw [if_neg (by omega), if_neg (by omega)], fun z => by unfold k_h; rw [if_neg (by omega), if_neg (by omega)]⟩
          · unfold k_h
            by_cases w2 : tU T' b = 2
            · rw [if_pos w2]; omega
            · by_cases w3 : tU T' b = 3
              · obtain ⟨g, hg⟩ := sk_u3 hk.1 hb w3
                have := sk_le hk.1 hg
                have := (hk.1.2.2.2.1 _ b hg).2.2.1
                rw [if_neg w2, if_pos w3]; omega
              · rw [if_neg w2, if_neg w3]; omega
          · obtain ⟨g, hg⟩ := sk_u3 hk.1 hb z
            have := (hk.1.2.2.2.1 _ b hg).2.2.1
            exact ⟨by unfold k_h; rw [if_neg (by omega), if_pos z], by omega⟩
        obtain ⟨k0, k2, k3, k4, -⟩ := kh T hok
        obtain ⟨m0, m2, m3, m4, -⟩ := kh Tc hokc
        have p1 : c1 = true ↔ k_h T b = k_h Tc b := q1.trans (by rw [hT.2.1 b hb, hC.2.1 b hb]; exact nI_eq (by omega) (by omega))
        rw [if_pos (show b < B ∧ tU Tc b ≠ 0 from ⟨hb, v0⟩), if_neg (show ¬ nI 1 = 0 by decide), e37, a1, m_bn]
        cases c1 with
        | false =>
          rw [if_pos (show i_b false = 0 from rfl), F_X6_isChanged_68, m_gd (by decide)]
          refine ⟨true, rfl, ⟨fun _ => ⟨u0, fun w => ?_⟩, fun _ => rfl⟩⟩
          have : k_h T b = k_h Tc b := by
            have eu := w.1
            obtain z | z | z : tU T b = 2 ∨ tU T b = 3 ∨ tU T b = 4 := by omega
            · rw [k2 z, m2 (by omega)]
            · rw [(k3 z).1, (m3 (by omega)).1, (w.2.2.2.1 z).1]
            · rw [k4 z, m4 (by omega)]
          have := p1.mpr this
          cases this
        | true =>
          have ek := p1.mp rfl
          rw [if_neg (show ¬ i_b true = 0 by decide), m_gd (m_inb (by omega) (by omega)), m_lt, m_ix (i := 3756 + b) (by omega), hT.2.1 b hb]
          obtain us | us | us : tU T b = 2 ∨ tU T b = 3 ∨ tU T b = 4 := by omega
          · -- leaf
            have uc : tU Tc b = 2 := by
              have := k2 us
              obtain z | z | z : tU Tc b = 2 ∨ tU Tc b = 3 ∨ tU Tc b = 4 := by omega
              · exact z
              · have := m3 z; omega
              · have := m4 z; omega
            have hbr := sk_u2 hok.1 hb us
            have hbrc := sk_u2 hokc.1 hb uc
            obtain ⟨c2, a2, q2⟩ := K_alike_one (B := B) (S := S) (a := 3852 + b) (by omega)
            have ln1 := (hT.2.2.1 b hb us).2.2
            have ln2 := (hC.2.2.1 b hb uc).2.2
            have p2 : c2 = true ↔ (tI T b).length = (tI Tc b).length := q2.trans (by rw [K_cntL hT hb us, K_cntL hC hb uc]; exact nI_eq (by omega) (by omega))
            rw [k2 us, if_neg (show ¬ nI 1 = 0 by decide), e38, a2, m_bn]
            cases c2 with
            | false =>
              rw [if_pos (show i_b false = 0 from rfl), F_X6_isChanged_154, F_X6_isChanged_159, m_gd (by decide)]
              exact ⟨true, rfl, ⟨fun _ => ⟨u0, fun w => by have := p2.mpr (by rw [(w.2.2.1 us).1]); cases this⟩, fun _ => rfl⟩⟩
            | true =>
              obtain ⟨c3, a3, q3⟩ := K_isLeafAlike hB hok hi hokc hic hT hC h hc hbr hbrc (p2.mp rfl)
              have ms : m_same B T O Tc Oc b ↔ c3 = true := ⟨fun w => q3.mpr (w.2.2.1 us), fun w => ⟨us.trans uc.symm, fun z => by omega, fun _ => q3.mp w, fun z => by omega, fun z => by omega⟩⟩
              rw [if_neg (show ¬ i_b true = 0 by decide), m_gd (m_inb (by omega) (by omega)), m_lt, hT.2.1 b hb, k2 us, if_pos (show nI 1 = 1 from rfl), a3, m_bn]
              cases c3 with
              | false =>
                rw [if_pos (show i_b false = 0 from rfl), F_X6_isChanged_154, F_X6_isChanged_159, m_gd (by decide)]
                exact ⟨true, rfl, ⟨fun _ => ⟨u0, fun w => by have := ms.mp w; cases this⟩, fun _ => rfl⟩⟩
              | true =>
                rw [if_neg (show ¬ i_b true = 0 by decide), F_X6_isChanged_158, F_X6_isChanged_159, m_gd (by decide)]
                exact ⟨false, rfl, ⟨fun w => (by cases w), fun w => absurd (ms.mpr rfl) w.2⟩⟩
          · -- inner
            have k3' := k3 us
            have uc : tU Tc b = 3 := by
              obtain z | z | z : tU Tc b = 2 ∨ tU Tc b = 3 ∨ tU Tc b = 4 := by omega
              · have := m2 z; omega
              · exact z
              · have := m4 z; omega
            have m3' := m3 uc
            obtain ⟨g, hg⟩ := sk_u3 hok.1 hb us
            obtain ⟨gc, hgc⟩ := sk_u3 hokc.1 hb uc
            obtain ⟨c2, a2, q2⟩ := K_alike_one (B := B) (S := S) (a := 3852 + b) (by omega)
            have ln1 := (hT.2.2.2.1 b hb (by omega) us).2.2
            have ln2 := (hC.2.2.2.1 b hb (by omega) uc).2.2
            have p2 : c2 = true ↔ (tK T b).length = (tK Tc b).length := q2.trans (by rw [K_cnt hT hb (by omega) us, K_cnt hC hb (by omega) uc]; exact nI_eq (by omega) (by omega))
            have z1 : ¬ nI (k_h T b) = 0 := fun z => by have := (nI_eq (by omega) (by omega)).mp (z.trans m_c0); omega
            have z2 : ¬ nI (k_h T b) = 1 := fun z => by have := (nI_eq (by omega) (by omega)).mp (z.trans m_c1); omega
            rw [if_neg z1, e38, a2, m_bn]
            cases c2 with
            | false =>
              rw [if_pos (show i_b false = 0 from rfl), F_X6_isChanged_154, F_X6_isChanged_159, m_gd (by decide)]
              exact ⟨true, rfl, ⟨fun _ => ⟨u0, fun w => by have := p2.mpr (by rw [(w.2.2.2.1 us).2.1]); cases this⟩, fun _ => rfl⟩⟩
            | true =>
              obtain ⟨c3, a3, q3⟩ := K_isInnerAlike hB hok hokc hT hC hg hgc (p2.mp rfl)
              have ms : m_same B T O Tc Oc b ↔ c3 = true := ⟨fun w => q3.mpr (w.2.2.2.1 us).2, fun w => ⟨us.trans uc.symm, fun z => by omega, fun z => by omega, fun _ => ⟨by omega, q3.mp w⟩, fun z => by omega⟩⟩
              rw [if_neg (show ¬ i_b true = 0 by decide), m_gd (m_inb (by omega) (by omega)), m_lt, hT.2.1 b hb, if_neg z2, a3, m_bn]
              cases c3 with
              | false =>
                rw [if_pos (show i_b false = 0 from rfl), F_X6_isChanged_154, F_X6_isChanged_159, m_gd (by decide)]
                exact ⟨true, rfl, ⟨fun _ => ⟨u0, fun w => by have := ms.mp w; cases this⟩, fun _ => rfl⟩⟩
              | true =>
                rw [if_neg (show ¬ i_b true = 0 by decide), F_X6_isChanged_158, F_X6_isChanged_159, m_gd (by decide)]
                exact ⟨false, rfl, ⟨fun w => (by cases w), fun w => absurd (ms.mpr rfl) w.2⟩⟩
          · -- data
            have k4' := k4 us
            have uc : tU Tc b = 4 := by
              obtain z | z | z : tU Tc b = 2 ∨ tU Tc b = 3 ∨ tU Tc b = 4 := by omega
              · have := m2 z; omega
              · have := m3 z; omega
              · exact z
            have e13 : (13078 : Int32) + 128 * nI b = nI (13078 + 128 * b) := by rw [m_c13078, m_c128, pk_mul, nI_add]
            obtain ⟨c2, a2, q2⟩ := K_isAlike (B := B) (S := S) (a := 13078 + 128 * b) (k := 128) (by omega)
            have a2' : F_X6_isAlike B (nI (13078 + 128 * b)) 128 S = some (.inl (some (i_b c2)), S) := a2
            have ms : m_same B T O Tc Oc b ↔ c2 = true := ⟨fun w => q2.mpr (fun j hj => by rw [h.2.2.2.1 b hb us j hj, hc.2.2.2.1 b hb uc j hj]; exact w.2.2.2.2 us j hj), fun w => ⟨us.trans uc.symm, fun z => by omega, fun z => by omega, fun z => by omega, fun _ r hr => by
              have := q2.mp w r hr
              rw [h.2.2.2.1 b hb us r hr, hc.2.2.2.1 b hb uc r hr] at this
              exact this⟩⟩
            rw [k4', if_pos (show nI 0 = 0 from rfl), e13, a2', m_bn]
            cases c2 with
            | false =>
              rw [if_pos (show i_b false = 0 from rfl), F_X6_isChanged_107, m_gd (by decide)]
              exact ⟨true, rfl, ⟨fun _ => ⟨u0, fun w => by have := ms.mp w; cases this⟩, fun _ => rfl⟩⟩
            | true =>
              rw [if_neg (show ¬ i_b true = 0 by decide), F_X6_isChanged_107, m_gd (by decide)]
              exact ⟨false, rfl, ⟨fun w => (by cases w), fun w => absurd (ms.mpr rfl) w.2⟩⟩
end SK5
section MK5
variable {B J : Nat} {S : z_S} {A : m_A} {ch : Nat → Bool}
theorem K_isCh {b : Nat} (hT : k_T B 0 0 (S.1 61) A.1.1) (hO : k_O B (S.1 61) A.1.1 A.1.2) (hC : k_T B 0 0 (S.1 63) A.2.1.1) (hOc : k_O B (S.1 63) A.2.1.1 A.2.1.2) (hA : AI B J A) (hch : m_chd B A ch) (hb : b < B) : F_X6_isChanged B (nI b) S = some (.inl (some (i_b (ch b))), S) := by
  obtain ⟨c, c1, c2⟩ := K_isChanged hA.1.2.1 hA.2.1.1 hA.2.1.2 hA.2.2.1.1 hA.2.2.1.2 hT hC hO hOc hb
  have : c = ch b := by
    have e := c2.trans (hch b hb).symm
    cases hc : c with
    | false =>
      cases hd : ch b with
      | false => rfl
      | true => rw [hc, hd] at e; exact absurd (e.mpr rfl) (by simp)
    | true => rw [hc] at e; exact (e.mp rfl).symm
  rw [← this]
  exact c1
theorem K_changed_loop (h : KI B J S A) (hA : AI B J A) (hch : m_chd B A ch) : ∀ (m n i u : Nat), i + m = B → m < n → F_X6_changed_4 B n (nI u) (nI i) S = some (.inl (some (nI (u + p_cnt (fun b => i_b (ch b)) m i))), S)
  | 0, n, i, u, hi, hn => by
    obtain ⟨n, rfl⟩ : ∃ j, n = j + 1 := ⟨n - 1, by omega⟩
    have hB := hA.1.2.1
    rw [F_X6_changed_4, h.1.1, if_pos (nI_le (by omega) (by omega)), p_cnt, Nat.add_zero]
  | m + 1, n, i, u, hi, hn => by
    obtain ⟨n, rfl⟩ : ∃ j, n = j + 1 := ⟨n - 1, by omega⟩
    have hB := hA.1.2.1
    have hiB : i < B := by omega
    rw [F_X6_changed_4, h.1.1, if_neg (nI_ge hiB (by omega)), K_isCh h.2.1.1 h.2.1.2 h.2.2.1.1 h.2.2.1.2 hA hch hiB, m_bn, p_cnt]
    cases hc : ch i with
    | false =>
      rw [if_pos (show i_b false = 0 from rfl), if_pos (show i_b false = 0 from rfl), F_X6_changed_26, nI_1, m_c0, nI_add, Nat.add_zero, K_changed_loop h hA hch m n (i + 1) u (by omega) (by omega), Nat.zero_add]
    | true =>
      rw [if_neg (show ¬ i_b true = 0 by decide), if_neg (show ¬ i_b true = 0 by decide), F_X6_changed_26, nI_1, nI_1, K_changed_loop h hA hch m n (i + 1) (u + 1) (by omega) (by omega), Nat.add_assoc]
theorem K_changed (h : KI B J S A) (hA : AI B J A) (hch : m_chd B A ch) : F_X6_changed B S = some (.inl (some (nI (p_cnt (fun b => i_b (ch b)) B 0))), S) := by
  have hB := hA.1.2.1
  have := K_changed_loop h hA hch B z_n 0 0 (by omega) (by unfold z_n; omega)
  rw [Nat.zero_add] at this
  exact this
end MK5
