/-! Changed blocks: the class, on. -/
theorem i32_pm1 {a b : Int32} (h : a - 1 = b - 1) : a = b := by
  have : a - 1 + 1 = b - 1 + 1 := by rw [h]
  rw [Int32.sub_add_cancel, Int32.sub_add_cancel] at this
  exact this
section SM2
variable {B : Nat} {S : z_S} {T Tc : m_T} {O Oc : m_O}
theorem im_LZ {o : Nat} (hB : B ≤ 96) (hok : m_ok B T) (hi : m_im B T O) (ho : oK O o ≠ 0) : oL O o < 2 ^ 20 ∧ oZ O o < 2 ^ 20 ∧ 1 ≤ o ∧ o ≤ 60 := by
  have hfew := flat_few hok hB
  have h1 := hi.2.2.2.2.2.2.2.2.2.2.1 o ho
  have h2 : m_nT (flat T) o ≤ (flat T).length := List.countP_le_length
  have hk := hi.2.1 o
  refine ⟨?_, ?_, ?_, ?_⟩
  · rw [h1]; split <;> omega
  · by_cases e : oK O o = 2
    · have := im_z hi e; omega
    · have h3 := (hi.2.2.2.2.2.2.2.2.2.1 o (by omega)).2
      have h4 : m_nE (flat T) o ≤ (flat T).length := List.countP_le_length
      omega
  · by_cases e : o = 0
    · exact absurd (hi.2.2.2.1 o (Or.inl e)) ho
    · omega
  · by_cases e : 60 < o
    · exact absurd (hi.2.2.2.1 o (Or.inr e)) ho
    · omega
theorem C_sameStat {o : Nat} (hB : B ≤ 96) (hok : m_ok B T) (hi : m_im B T O) (hokc : m_ok B Tc) (hic : m_im B Tc Oc) (h : c_O B 1 S T O) (hc : c_O B 22 S Tc Oc) (k1 : oK O o ≠ 0) (k2 : oK Oc o ≠ 0) : ∃ c : Bool, F_X2_sameStat B 14 35 (nI o) S = some (.inl (some (i_b c)), S) ∧ (c = true ↔ oK O o = oK Oc o ∧ oL O o = oL Oc o ∧ oZ O o = oZ Oc o) := by
  obtain ⟨b1, b2, o1, o2⟩ := im_LZ hB hok hi k1
  obtain ⟨d1, d2, -, -⟩ := im_LZ hB hokc hic k2
  have q1 := hi.2.1 o
  have q2 := hic.2.1 o
  have iz : z_inb (nI o) 61 = true := m_inb (by omega) (by omega)
  have xz : z_ix (nI o) = o := m_ix (by omega)
  have v1 : S.1 (14 + 1) o = nI (oK O o) - 1 := h.1 o o1 o2
  have w1 : S.1 (35 + 1) o = nI (oK Oc o) - 1 := hc.1 o o1 o2
  have v2 : S.1 (14 + 2) o = nI (oL O o) := (h.2.1 o o1 o2 k1).1
  have w2 : S.1 (35 + 2) o = nI (oL Oc o) := (hc.2.1 o o1 o2 k2).1
  have v3 : S.1 (14 + 3) o = nI (oZ O o) := (h.2.1 o o1 o2 k1).2
  have w3 : S.1 (35 + 3) o = nI (oZ Oc o) := (hc.2.1 o o1 o2 k2).2
  unfold F_X2_sameStat
  rw [m_gd iz, m_lt, xz, v1, m_gd iz, m_lt, w1]
  by_cases e1 : oK O o = oK Oc o
  · rw [if_pos (by rw [e1]), m_gd iz, m_lt, v2, m_gd iz, m_lt, w2]
    by_cases e2 : oL O o = oL Oc o
    · rw [if_pos (by rw [e2]), m_gd iz, m_lt, v3, m_gd iz, m_lt, w3]
      by_cases e3 : oZ O o = oZ Oc o
      · rw [if_pos (by rw [e3]), F_X2_sameStat_50, m_gd (by decide)]
        exact ⟨true, rfl, ⟨fun _ => ⟨e1, e2, e3⟩, fun _ => rfl⟩⟩
      · rw [if_neg (fun z => e3 ((nI_eq (by omega) (by omega)).mp z)), F_X2_sameStat_49, F_X2_sameStat_50, m_gd (by decide)]
        exact ⟨false, rfl, ⟨fun w => (by cases w), fun w => absurd w.2.2 e3⟩⟩
    · rw [if_neg (fun z => e2 ((nI_eq (by omega) (by omega)).mp z)), F_X2_sameStat_49, F_X2_sameStat_50, m_gd (by decide)]
      exact ⟨false, rfl, ⟨fun w => (by cases w), fun w => absurd w.2.1 e2⟩⟩
  · rw [if_neg (fun z => e1 ((nI_eq (by omega) (by omega)).mp (i32_pm1 z))), F_X2_sameStat_49, F_X2_sameStat_50, m_gd (by decide)]
    exact ⟨false, rfl, ⟨fun w => (by cases w), fun w => absurd w.1 e1⟩⟩
theorem ml_eq {f g : Nat → Int32} {o : Nat} {L M : List Nat} (hl : L.length = M.length) (hf : m_l f o (L.map nI)) (hg : m_l g o (M.map nI)) (bL : ∀ x ∈ L, x < 2 ^ 31) (bM : ∀ x ∈ M, x < 2 ^ 31) : (∀ r, r < L.length → f (o + r) = g (o + r)) ↔ L = M := by
  constructor
  · intro w
    refine list_eq hl (fun i hi x y hx hy => ?_)
    have e1 := hf i (nI x) (by rw [List.getElem?_map, hx]; rfl)
    have e2 := hg i (nI y) (by rw [List.getElem?_map, hy]; rfl)
    have := w i hi
    rw [e1, e2] at this
    exact (nI_eq (bL x (List.mem_of_getElem? hx)) (bM y (List.mem_of_getElem? hy))).mp this
  · intro e r hr
    subst e
    have hx := List.getElem?_eq_getElem hr
    rw [hf r (nI L[r]) (by rw [List.getElem?_map, hx]; rfl), hg r (nI L[r]) (by rw [List.getElem?_map, hx]; rfl)]
theorem C_sameBody {b i : Nat} {y : m_It} (hB : B ≤ 96) (hok : m_ok B T) (hi : m_im B T O) (hokc : m_ok B Tc) (hic : m_im B Tc Oc) (hT : c_T B 2 S T) (h : c_O B 1 S T O) (hc : c_O B 22 S Tc Oc) (hb : b ∈ tR T 0) (hbc : b ∈ tR Tc 0) (hy : (tI T b)[i]? = some y) (hyc : (tI Tc b)[i]? = some y) : ∃ c : Bool, F_X0_sameBody B 1 22 (nI (b * 14 + i)) S = some (.inl (some (i_b c)), S) ∧ (c = true ↔ m_sb O Oc y) := by
  obtain ⟨b2, b4, -, -, -⟩ := ok_row hok b hb
  obtain ⟨l3, l4, l9, l10, l11, ln⟩ := hT.2.2.2.1 b b2 b4
  have hil := (List.getElem?_eq_some_iff.mp hy).1
  have hym := l_fm_mem.mpr ⟨b, hb, List.mem_of_getElem? hy⟩
  have hymc := l_fm_mem.mpr ⟨b, hbc, List.mem_of_getElem? hyc⟩
  have g := hok.2.2.1 y hym
  have it1 := hi.2.2.2.2.1 y hym
  have it2 := hic.2.2.2.2.1 y hymc
  have hky : y.1 < 2 ^ 31 := by have := g.2.2.1; omega
  have x9 : S.1 (1 + 10) (b * 14 + i) = nI y.1 := l9 i _ (by rw [List.getElem?_map, hy]; rfl)
  have x10 : S.1 (1 + 11) (b * 14 + i) = nI y.2.1 := l10 i _ (by rw [List.getElem?_map, hy]; rfl)
  have iz : z_inb (nI (b * 14 + i)) (14 * B) = true := m_inb (by omega) (by omega)
  have xz : z_ix (nI (b * 14 + i)) = b * 14 + i := m_ix (by omega)
  have o2 : y.1 / 4000 ≤ 60 := by have := g.2.2.1; omega
  have o1 := it1.1
  unfold F_X0_sameBody
  rw [m_gd iz, m_lt, xz, x9, C_objectOf hky, m_bn, m_gd iz, m_lt, x9, C_kindOf hky, m_bn]
  obtain hs | hs | hs | hs : y.1 / 1000 % 4 = 0 ∨ y.1 / 1000 % 4 = 1 ∨ y.1 / 1000 % 4 = 2 ∨ y.1 / 1000 % 4 = 3 := by omega
  · obtain ⟨c, c1, c2⟩ := C_sameStat (o := y.1 / 4000) hB hok hi hokc hic h hc it1.2.1 it2.2.1
    have c1' : F_X2_sameStat B (1 + 13) (22 + 13) (nI (y.1 / 4000)) S = some (.inl (some (i_b c)), S) := c1
    rw [hs, if_pos (show nI 0 = 0 from rfl), c1', m_bn]
    refine ⟨c, ?_, c2.trans ⟨fun w => ⟨fun _ => w, fun z => by omega, fun z => by omega⟩, fun w => w.1 hs⟩⟩
    cases c <;> rw [m_gd (by decide)]
  · rw [hs, if_neg (by decide), if_pos (show nI 1 = 1 from rfl), m_gd (by decide)]
    exact ⟨true, rfl, ⟨fun _ => ⟨fun z => by omega, fun z => by omega, fun z => by omega⟩, fun _ => rfl⟩⟩
  · obtain ⟨k1, y1⟩ := it1.2.2.2.2.1 hs
    obtain ⟨k2, y2⟩ := it2.2.2.2.2.1 hs
    have e1 : y.2.1 = 2 * (oP O (y.1 / 4000)).length := congrArg (fun z : m_It => z.2.1) y1
    have e2 : y.2.1 = 2 * (oP Oc (y.1 / 4000)).length := congrArg (fun z : m_It => z.2.1) y2
    have hl : (oP O (y.1 / 4000)).length = (oP Oc (y.1 / 4000)).length := by omega
    have h16 := im_len hi k1
    obtain ⟨c, c1, c2⟩ := C_samePointers (B := B) (S := S) (o := y.1 / 4000) (k := (oP O (y.1 / 4000)).length) o2 h16
    have ed : nI y.2.1 / 2 = nI (oP O (y.1 / 4000)).length := by
      rw [m_c2, pk_div (by omega) (by omega) (by omega), e1, Nat.mul_div_cancel_left _ (by omega)]
    have c1' : F_X2_samePointers B (1 + 13) (22 + 13) (nI (y.1 / 4000)) (nI (oP O (y.1 / 4000)).length) S = some (.inl (some (i_b c)), S) := c1
    rw [hs, if_neg (by decide), if_neg (by decide), if_pos (show nI 2 = 2 from rfl), m_gd iz, m_lt, x10, ed, c1', m_bn]
    have key := ml_eq hl (h.2.2.2.1 _ o1 o2 k1) (hc.2.2.2.1 _ o1 o2 k2) (fun x hx => by have := hi.2.2.2.2.2.2.2.2.2.2.2.2.2.2.2.1 _ k1 x hx; omega) (fun x hx => by have := hic.2.2.2.2.2.2.2.2.2.2.2.2.2.2.2.1 _ k2 x hx; omega)
    refine ⟨c, ?_, (c2.trans key).trans ⟨fun w => ⟨fun z => by omega, fun _ => w, fun z => by omega⟩, fun w => w.2.1 hs⟩⟩
    cases c <;> rw [m_gd (by decide)]
  · obtain ⟨k1, y1⟩ := it1.2.2.2.2.2 hs
    obtain ⟨k2, y2⟩ := it2.2.2.2.2.2 hs
    have e1 : y.2.1 = m_tl (oZ O (y.1 / 4000)) := congrArg (fun z : m_It => z.2.1) y1
    have e2 : y.2.1 = m_tl (oZ Oc (y.1 / 4000)) := congrArg (fun z : m_It => z.2.1) y2
    have h40 := tl_le (z := oZ O (y.1 / 4000))
    obtain ⟨c, c1, c2⟩ := C_sameBytes (B := B) (S := S) (a1 := 21) (m1 := 2440) (a2 := 42) (m2 := 2440) (o := y.1 / 4000 * 40) (k := y.2.1) (by omega) (by omega) (by omega) (by omega) (by omega)
    have e40 : nI (y.1 / 4000) * 40 = nI (y.1 / 4000 * 40) := by rw [m_c40, pk_mul]
    have c1' : F_X0_sameBytes B (1 + 20) 2440 (22 + 20) 2440 (nI (y.1 / 4000 * 40)) (nI y.2.1) S = some (.inl (some (i_b c)), S) := c1
    rw [hs, if_neg (by decide), if_neg (by decide), if_neg (by decide), if_pos (show nI 3 = 3 from rfl), m_gd iz, m_lt, x10, e40, c1', m_bn]
    refine ⟨c, ?_, c2.trans ⟨fun w => ⟨fun z => by omega, fun z => by omega, fun _ r hr => ?_⟩, fun w r hr => ?_⟩⟩
    · cases c <;> rw [m_gd (by decide)]
    · exact (rB_inj (h.2.2.2.2.2 _ o1 o2 k1 r (by omega)) (hc.2.2.2.2.2 _ o1 o2 k2 r (by omega))).mp (w r hr)
    · exact (rB_inj (h.2.2.2.2.2 _ o1 o2 k1 r (by omega)) (hc.2.2.2.2.2 _ o1 o2 k2 r (by omega))).mpr (w.2.2 hs r hr)
theorem C_sameLeaf {b : Nat} (hB : B ≤ 96) (hok : m_ok B T) (hi : m_im B T O) (hokc : m_ok B Tc) (hic : m_im B Tc Oc) (hT : c_T B 2 S T) (hC : c_T B 23 S Tc) (h : c_O B 1 S T O) (hc : c_O B 22 S Tc Oc) (hb : b ∈ tR T 0) (hbc : b ∈ tR Tc 0) : ∃ c : Bool, F_X0_sameLeaf B 1 22 (nI b) S = some (.inl (some (i_b c)), S) ∧ (c = true ↔ tI T b = tI Tc b ∧ ∀ y ∈ tI T b, m_sb O Oc y) := by
  obtain ⟨b2, b4, -, -, -⟩ := ok_row hok b hb
  obtain ⟨-, b4c, -, -, -⟩ := ok_row hokc b hbc
  have hL := hT.2.2.2.1 b b2 b4
  obtain ⟨c, c1, c2⟩ := C_sameItems hB b2 hL (hC.2.2.2.1 b b2 b4c) (fl_ig hok.2.2.1 hb) (fl_ig hokc.2.2.1 hbc)
  have ln : (tI T b).length ≤ 14 := hL.2.2.2.2.2
  have l3 : S.1 (1 + 4) b = nI (tI T b).length := hL.1
  unfold F_X0_sameLeaf
  have c1' : F_X4_sameItems B (1 + 1) (22 + 1) (nI b) S = some (.inl (some (i_b c)), S) := c1
  rw [c1', m_bn]
  cases c with
  | false =>
    rw [if_pos (show i_b false = 0 from rfl), m_gd (by decide)]
    exact ⟨false, rfl, ⟨fun w => (by cases w), fun w => absurd (c2.mpr w.1) (by simp)⟩⟩
  | true =>
    have e := c2.mp rfl
    rw [if_neg (show ¬ i_b true = 0 by decide)]
    have step : ∀ n i, i < (tI T b).length → (∃ d : Bool, F_X0_sameLeaf_19 B 1 22 (n + 1) (nI b) (nI i) S = (if d = true then F_X0_sameLeaf_19 B 1 22 n (nI b) (nI (i + 1)) S else some (.inl (some 0), S)) ∧ (d = true ↔ ∀ y, (tI T b)[i]? = some y → m_sb O Oc y)) := fun n i hi' => by
      have hy := List.getElem?_eq_getElem hi'
      have hyc : (tI Tc b)[i]? = some (tI T b)[i] := by rw [← e]; exact hy
      obtain ⟨d, d1, d2⟩ := C_sameBody hB hok hi hokc hic hT h hc hb hbc hy hyc
      have e14 : nI b * 14 + nI i = nI (b * 14 + i) := by rw [m_c14, pk_mul, nI_add]
      refine ⟨d, ?_, d2.trans ⟨fun w y hy' => ?_, fun w => w _ hy⟩⟩
      · rw [F_X0_sameLeaf_19, m_gd (m_inb b2 (by omega)), m_lt, m_ix (by omega), l3, if_neg (nI_ge hi' (by omega)), e14, d1, m_bn]
        cases d with
        | false => rw [if_pos (show i_b false = 0 from rfl), m_gd (by decide)]; rfl
        | true => rw [if_neg (show ¬ i_b true = 0 by decide), nI_1]; rfl
      · rw [hy] at hy'; rw [← Option.some.inj hy']; exact w
    obtain ⟨d, d1, d2⟩ := z_all (N := (tI T b).length) (P := fun i => ∀ y, (tI T b)[i]? = some y → m_sb O Oc y) (S := S) (G := fun n i => F_X0_sameLeaf_19 B 1 22 n (nI b) (nI i) S) (fun n i hi' hp => by
      obtain ⟨d, d1, d2⟩ := step n i hi'
      show F_X0_sameLeaf_19 B 1 22 (n + 1) (nI b) (nI i) S = _
      rw [d1, if_pos (d2.mpr hp)]) (fun n i hi' hp => by
      obtain ⟨d, d1, d2⟩ := step n i hi'
      show F_X0_sameLeaf_19 B 1 22 (n + 1) (nI b) (nI i) S = _
      rw [d1, if_neg (fun z => hp (d2.mp z))]) (fun n => by
      show F_X0_sameLeaf_19 B 1 22 (n + 1) (nI b) (nI (tI T b).length) S = _
      rw [F_X0_sameLeaf_19, m_gd (m_inb b2 (by omega)), m_lt, m_ix (by omega), l3, if_pos (nI_le (Nat.le_refl _) (by omega)), m_gd (by decide)]) (tI T b).length z_n 0 (by omega) (by unfold z_n; omega)
    refine ⟨d, d1, d2.trans ⟨fun w => ⟨e, fun y hy => ?_⟩, fun w j _ hj y hy => w.2 y (List.mem_of_getElem? hy)⟩⟩
    obtain ⟨j, hj, ej⟩ := List.getElem_of_mem hy
    exact w j (Nat.zero_le _) hj y (by rw [List.getElem?_eq_getElem hj, ej])
theorem C_firstKey_loop {t : Nat} (hB : B ≤ 96) (hok : m_ok B T) (hT : c_T B t S T) : ∀ (h n x : Nat), h < n → x ∈ tR T h → F_X4_firstKeyBelow_9 B t n (nI x) (nI h) S = some (.inl (some (nI (m_fb T h x))), S)
  | 0, n, x, hn, hx => by
    obtain ⟨n, rfl⟩ : ∃ j, n = j + 1 := ⟨n - 1, by omega⟩
    obtain ⟨x2, x4, -, x5, -⟩ := ok_row hok x hx
    obtain ⟨l3, l4, l9, l10, l11, ln⟩ := hT.2.2.2.1 x x2 x4
    obtain ⟨y, L, hI⟩ : ∃ y L, tI T x = y :: L := by
      cases hc : tI T x with
      | nil => exact absurd hc x5
      | cons y L => exact ⟨y, L, rfl⟩
    have e9 : S.1 (t + 9) (x * 14) = nI y.1 := by have := l9 0 (nI y.1) (by rw [hI]; rfl); simpa using this
    have e14 : nI x * 14 = nI (x * 14) := by rw [m_c14, pk_mul]
    rw [F_X4_firstKeyBelow_9, if_pos (by decide), e14, m_gd (m_inb (by omega) (by omega)), m_lt, m_ix (by omega), e9, m_fb, m_fk, hI]; rfl
  | h + 1, n, x, hn, hx => by
    obtain ⟨n, rfl⟩ : ∃ j, n = j + 1 := ⟨n - 1, by omega⟩
    obtain ⟨x1, x2, x3, x4⟩ := hok.1.2.2.2.1 _ x hx
    rw [if_neg (by omega)] at x4
    have h6 := hok.1.1
    have hle := sk_le hok.1 hx
    have h10 := (hok.1.2.2.2.2.2.2.2.2.2.1 h x hx (by omega)).1
    obtain ⟨c, L, hK⟩ : ∃ c L, tK T x = c :: L := by
      cases hc : tK T x with
      | nil => rw [hc] at h10; simp at h10
      | cons c L => exact ⟨c, L, rfl⟩
    have hcm := (sk_kid hok.1 hx (c := c) (by rw [hK]; exact List.mem_cons_self)).2.1
    have e8 : S.1 (t + 8) (x * 6) = nI c := by have := (hT.2.2.2.2.1 x x2 x4).2.2.1 0 (nI c) (by rw [hK]; rfl); simpa using this
    have e6 : nI x * 6 = nI (x * 6) := by rw [m_c6, pk_mul]
    rw [F_X4_firstKeyBelow_9, if_neg (by rw [m_c0]; exact nI_ge (by omega) (by omega)), e6, m_gd (m_inb (by omega) (by omega)), m_lt, m_ix (by omega), e8, show nI (h + 1) + -1 = nI h from pk_m1 h, C_firstKey_loop hB hok hT h n c (by omega) hcm, m_fb, hK]; rfl
theorem C_firstKey {t h x : Nat} (hB : B ≤ 96) (hok : m_ok B T) (hT : c_T B t S T) (hx : x ∈ tR T h) : F_X4_firstKeyBelow B t (nI x) S = some (.inl (some (nI (m_fb T (tH T x) x))), S) := by
  obtain ⟨x1, x2, x3, x4⟩ := hok.1.2.2.2.1 _ x hx
  have ux : tU T x = 2 ∨ tU T x = 3 := by rw [x4]; split <;> simp
  have h6 := hok.1.1
  have hle := sk_le hok.1 hx
  unfold F_X4_firstKeyBelow
  rw [m_gd (m_inb x2 (by omega)), m_lt, m_ix (by omega), (hT.2.2.2.2.2 x x2 ux).1, x3, C_firstKey_loop hB hok hT h z_n x (by unfold z_n; omega) hx]
theorem fb_lt {h x : Nat} (hok : m_ok B T) : ∀ {h x : Nat}, x ∈ tR T h → m_fb T h x < 2 ^ 20
  | 0, x, hx => by
    obtain ⟨x2, x4, -, x5, -⟩ := ok_row hok x hx
    rw [m_fb, m_fk]
    cases hI : tI T x with
    | nil => exact absurd hI x5
    | cons y L =>
      have := (fl_ig hok.2.2.1 hx y (by rw [hI]; exact List.mem_cons_self)).2.2.1
      show y.1 < 2 ^ 20
      omega
  | h + 1, x, hx => by
    have x1 := (hok.1.2.2.2.1 _ x hx).1
    have h10 := (hok.1.2.2.2.2.2.2.2.2.2.1 h x hx (by omega)).1
    rw [m_fb]
    cases hK : tK T x with
    | nil => rw [hK] at h10; simp at h10
    | cons c L => exact fb_lt hok (h := h) (x := c) ((sk_kid hok.1 hx (c := c) (by rw [hK]; exact List.mem_cons_self)).2.1)
theorem C_sameInner {b h hc : Nat} (hB : B ≤ 96) (hok : m_ok B T) (hokc : m_ok B Tc) (hT : c_T B 2 S T) (hC : c_T B 23 S Tc) (hb : b ∈ tR T (h + 1)) (hbc : b ∈ tR Tc (hc + 1)) : ∃ c : Bool, F_X4_sameInner B 2 23 (nI b) S = some (.inl (some (i_b c)), S) ∧ (c = true ↔ tH T b = tH Tc b ∧ tK T b = tK Tc b ∧ ∀ c ∈ tK T b, m_fb T (tH T c) c = m_fb Tc (tH Tc c) c) := by
  obtain ⟨b1, b2, b3, b4⟩ := hok.1.2.2.2.1 _ b hb
  obtain ⟨d1, d2, d3, d4⟩ := hokc.1.2.2.2.1 _ b hbc
  rw [if_neg (by omega)] at b4 d4
  have h6 := hok.1.1
  have hle := sk_le hok.1 hb
  have h6c := hokc.1.1
  have hlec := sk_le hokc.1 hbc
  obtain ⟨l3, l4, l8, ln⟩ := hT.2.2.2.2.1 b b2 b4
  obtain ⟨m3, m4, m8, mn⟩ := hC.2.2.2.2.1 b b2 d4
  have eh : S.1 (2 + 2) b = nI (tH T b) := (hT.2.2.2.2.2 b b2 (Or.inr b4)).1
  have ehc : S.1 (23 + 2) b = nI (tH Tc b) := (hC.2.2.2.2.2 b b2 (Or.inr d4)).1
  have iz : z_inb (nI b) B = true := m_inb b2 (by omega)
  have xz : z_ix (nI b) = b := m_ix (by omega)
  unfold F_X4_sameInner
  rw [m_gd iz, m_lt, xz, eh, m_gd iz, m_lt, ehc]
  by_cases e1 : tH T b = tH Tc b
  · rw [if_pos (by rw [e1]), m_gd iz, m_lt, show S.1 (2 + 3) b = _ from l3, m_gd iz, m_lt, show S.1 (23 + 3) b = _ from m3]
    by_cases e2 : (tK T b).length = (tK Tc b).length
    · rw [if_pos (by rw [e2])]
      have e6 : nI b * 6 = nI (b * 6) := by rw [m_c6, pk_mul]
      have bnd : nI b * 6 + nI (tK T b).length = nI (b * 6 + (tK T b).length) := by rw [m_c6, pk_mul, nI_add]
      have step : ∀ n i, i < (tK T b).length → ∃ d : Bool, F_X4_sameInner_37 B 2 23 (n + 1) (nI b) (nI (b * 6 + i)) S = (if d = true then F_X4_sameInner_37 B 2 23 n (nI b) (nI (b * 6 + (i + 1))) S else some (.inl (some 0), S)) ∧ (d = true ↔ ∀ c c', (tK T b)[i]? = some c → (tK Tc b)[i]? = some c' → c = c' ∧ m_fb T (tH T c) c = m_fb Tc (tH Tc c') c') := fun n i hi' => by
        have hi2 : i < (tK Tc b).length := by omega
        have hx := List.getElem?_eq_getElem hi'
        have hy := List.getElem?_eq_getElem hi2
        have kx := (sk_kid hok.1 hb (List.getElem_mem hi')).2.1
        have ky := (sk_kid hokc.1 hbc (List.getElem_mem hi2)).2.1
        generalize (tK T b)[i] = x at hx kx
        generalize (tK Tc b)[i] = y at hy ky
        have x8 : S.1 (2 + 8) (b * 6 + i) = nI x := l8 i _ (by rw [List.getElem?_map, hx]; rfl)
        have y8 : S.1 (23 + 8) (b * 6 + i) = nI y := m8 i _ (by rw [List.getElem?_map, hy]; rfl)
        have xB := (hok.1.2.2.2.1 _ x kx).2.1
        have yB := (hokc.1.2.2.2.1 _ y ky).2.1
        have xh := (hok.1.2.2.2.1 _ x kx).2.2.1
        have yh := (hokc.1.2.2.2.1 _ y ky).2.2.1
        have fx := fb_lt (h := h) (x := x) hok kx
        have fy := fb_lt (h := h) (x := x) hokc ky
        rw [← xh] at fx
        rw [← yh] at fy
        have jz : z_inb (nI (b * 6 + i)) (6 * B) = true := m_inb (by omega) (by omega)
        have wz : z_ix (nI (b * 6 + i)) = b * 6 + i := m_ix (by omega)
        rw [F_X4_sameInner_37, m_gd iz, m_lt, xz, show S.1 (2 + 3) b = _ from l3, bnd, if_neg (nI_ge (by omega) (by omega)), m_gd jz, m_lt, wz, x8, m_gd jz, m_lt, y8]
        by_cases q1 : x = y
        · rw [if_pos (by rw [q1]), m_gd jz, m_lt, C_firstKey hB hok hT kx, m_bn, m_gd jz, m_lt, y8, C_firstKey hB hokc hC ky, m_bn]
          by_cases q2 : m_fb T (tH T x) x = m_fb Tc (tH Tc y) y
          · rw [if_pos (by rw [q2]), nI_1]
            refine ⟨true, rfl, ⟨fun _ c c' hc1 hc2 => ?_, fun _ => rfl⟩⟩
            rw [hx] at hc1; rw [hy] at hc2
            rw [← Option.some.inj hc1, ← Option.some.inj hc2]
            exact ⟨q1, q2⟩
          · rw [if_neg (fun z => q2 ((nI_eq (by omega) (by omega)).mp z)), F_X4_sameInner_90, m_gd (by decide)]
            exact ⟨false, rfl, ⟨fun w => (by cases w), fun w => absurd (w x y hx hy).2 q2⟩⟩
        · rw [if_neg (fun z => q1 ((nI_eq (by omega) (by omega)).mp z)), F_X4_sameInner_90, m_gd (by decide)]
          exact ⟨false, rfl, ⟨fun w => (by cases w), fun w => absurd (w x y hx hy).1 q1⟩⟩
      obtain ⟨d, d1, d2⟩ := z_all (N := (tK T b).length) (P := fun i => ∀ c c', (tK T b)[i]? = some c → (tK Tc b)[i]? = some c' → c = c' ∧ m_fb T (tH T c) c = m_fb Tc (tH Tc c') c') (S := S) (G := fun n i => F_X4_sameInner_37 B 2 23 n (nI b) (nI (b * 6 + i)) S) (fun n i hi' hp => by
        obtain ⟨d, d1, d2⟩ := step n i hi'
        show F_X4_sameInner_37 B 2 23 (n + 1) (nI b) (nI (b * 6 + i)) S = _
        rw [d1, if_pos (d2.mpr hp)]) (fun n i hi' hp => by
        obtain ⟨d, d1, d2⟩ := step n i hi'
        show F_X4_sameInner_37 B 2 23 (n + 1) (nI b) (nI (b * 6 + i)) S = _
        rw [d1, if_neg (fun z => hp (d2.mp z))]) (fun n => by
        show F_X4_sameInner_37 B 2 23 (n + 1) (nI b) (nI (b * 6 + (tK T b).length)) S = _
        rw [F_X4_sameInner_37, m_gd iz, m_lt, xz, show S.1 (2 + 3) b = _ from l3, bnd, if_pos (nI_le (Nat.le_refl _) (by omega)), m_gd (by decide)]) (tK T b).length z_n 0 (by omega) (by unfold z_n; omega)
      rw [e6]
      refine ⟨d, d1, d2.trans ⟨fun w => ?_, fun w j _ hj c c' hc1 hc2 => ?_⟩⟩
      · have eK : tK T b = tK Tc b := list_eq e2 (fun i hi' x y hx hy => (w i (Nat.zero_le _) hi' x y hx hy).1)
        refine ⟨e1, eK, fun c hcm => ?_⟩
        obtain ⟨j, hj, ej⟩ := List.getElem_of_mem hcm
        have hx : (tK T b)[j]? = some c := by rw [List.getElem?_eq_getElem hj, ej]
        exact (w j (Nat.zero_le _) hj c c hx (by rw [← eK]; exact hx)).2
      · rw [← w.2.1] at hc2
        have ec : c = c' := by rw [hc1] at hc2; exact Option.some.inj hc2
        subst ec
        exact ⟨rfl, w.2.2 c (List.mem_of_getElem? hc1)⟩
    · rw [if_neg (fun z => e2 ((nI_eq (by omega) (by omega)).mp z)), F_X4_sameInner_30, m_gd (by decide)]
      exact ⟨false, rfl, ⟨fun w => (by cases w), fun w => absurd (by rw [w.2.1]) e2⟩⟩
  · rw [if_neg (fun z => e1 ((nI_eq (by omega) (by omega)).mp z)), F_X4_sameInner_30, m_gd (by decide)]
    exact ⟨false, rfl, ⟨fun w => (by cases w), fun w => absurd w.1 e1⟩⟩
end SM2
