/-! The class's tree over lists: the first node of a height, the leaf that a key belongs to. -/
theorem nx_app {x : Nat} : ∀ {pre post : List Nat}, (pre ++ x :: post).Nodup → m_nx (pre ++ x :: post) x = post.head?
  | [], post, _ => nx_hd
  | a :: pre, post, hd => by
    have ⟨h1, h2⟩ := List.nodup_cons.mp (by simpa using hd : (a :: (pre ++ x :: post)).Nodup)
    have hne : x ≠ a := fun e => h1 (by rw [← e]; simp)
    rw [List.cons_append, nx_tl hne]
    exact nx_app h2
/-- the first nodes of the rows hang one below another, from the root down -/
def m_lm (B : Nat) (T : m_T) : Prop := (tR T (tH T (tX T))).head? = some (tX T) ∧ tX T < B ∧ (tU T (tX T) = 2 ∨ tU T (tX T) = 3) ∧ tH T (tX T) < 8 ∧ ∀ h, h < tH T (tX T) → ∀ p, (tR T (h + 1)).head? = some p → p < B ∧ tU T p = 3 ∧ ∃ c, (tK T p)[0]? = some c ∧ (tR T h).head? = some c
section CT5
variable {B t : Nat} {S S' : z_S} {T : m_T}
theorem C_leftmost_loop {h0 : Nat} (hB : B ≤ 96) (hT : c_T B t S T) (hm : m_lm B T) {x : Nat} (hx : (tR T h0).head? = some x) : ∀ (m n p : Nat), h0 + m ≤ tH T (tX T) → m < n → (tR T (h0 + m)).head? = some p → F_X4_leftmost_15 B t n (nI h0) (nI p) (nI (h0 + m)) S = some (.inl (some (nI x)), S)
  | 0, n, p, hh, hn, hp => by
    obtain ⟨n, rfl⟩ : ∃ m, n = m + 1 := ⟨n - 1, by omega⟩
    have h8 := hm.2.2.2.1
    have g : nI h0 ≤ nI h0 := nI_le (Nat.le_refl _) (by omega)
    have e : p = x := Option.some.inj (hp.symm.trans hx)
    subst e
    simp only [F_X4_leftmost_15, Nat.add_zero, g, if_true]
  | m + 1, n, p, hh, hn, hp => by
    obtain ⟨n, rfl⟩ : ∃ m, n = m + 1 := ⟨n - 1, by omega⟩
    have h8 := hm.2.2.2.1
    obtain ⟨hpB, hpu, c, hc, hrow⟩ := hm.2.2.2.2 (h0 + m) (by omega) p (by rw [show h0 + m + 1 = h0 + (m + 1) by omega]; exact hp)
    obtain ⟨q3, q4, q8, qn⟩ := hT.2.2.2.2.1 p hpB hpu
    have g : ¬ nI (h0 + (m + 1)) ≤ nI h0 := nI_ge (by omega) (by omega)
    have e8 : S.1 (t + 8) (p * 6) = nI c := by
      have := q8 0 (nI c) (by rw [List.getElem?_map, hc]; rfl)
      simpa using this
    have e6 : nI p * 6 = nI (p * 6) := by rw [m_c6, pk_mul]
    have i1 : z_inb (nI (p * 6)) (6 * B) = true := m_inb (by omega) (by omega)
    have x1 : (nI (p * 6)).toNatClampNeg = p * 6 := nI_clamp (by omega)
    have y : nI (h0 + (m + 1)) + -1 = nI (h0 + m) := pk_m1 (h0 + m)
    rw [F_X4_leftmost_15]
    simp only [g, if_false, if_true, z_lt, z_gd, e6, i1, x1, e8, y]
    exact C_leftmost_loop hB hT hm hx m n c (by omega) (by omega) hrow
theorem C_leftmost {h0 x : Nat} (hB : B ≤ 96) (hT : c_T B t S T) (hm : m_lm B T) (hh : h0 ≤ tH T (tX T)) (hx : (tR T h0).head? = some x) : F_X4_leftmost B t (nI h0) S = some (.inl (some (nI x)), S) := by
  obtain ⟨k1, k2, k3, k4, -⟩ := id hm
  have e12 := hT.2.1
  have e2 := (hT.2.2.2.2.2 (tX T) k2 k3).1
  have i1 : z_inb (nI (tX T)) B = true := m_inb k2 (by omega)
  have x1 : (nI (tX T)).toNatClampNeg = tX T := nI_clamp (by omega)
  have key := C_leftmost_loop hB hT hm hx (tH T (tX T) - h0) z_n (tX T) (by omega) (by unfold z_n; omega) (by rw [show h0 + (tH T (tX T) - h0) = tH T (tX T) by omega]; exact k1)
  rw [show h0 + (tH T (tX T) - h0) = tH T (tX T) by omega] at key
  simp only [F_X4_leftmost, e12, z_lt, z_gd, i1, x1, e2, if_true]
  exact key
/-- the first key of a leaf -/
def m_fk (T : m_T) (b : Nat) : Nat := ((tI T b).head?.map Prod.fst).getD 0
/-- the last leaf from cur on whose first key is not behind k, as long as that goes -/
def m_lf (T : m_T) (k : Nat) : Nat → List Nat → Nat
  | cur, [] => cur
  | cur, n :: L => if m_fk T n ≤ k then m_lf T k n L else cur
theorem C_leafOf_loop {k : Nat} (hB : B ≤ 96) (hT : c_T B t S T) (hk : k < 2 ^ 31) (hd : (tR T 0).Nodup) (hr : ∀ x ∈ tR T 0, x < B ∧ tU T x = 2 ∧ tH T x = 0 ∧ tI T x ≠ [] ∧ m_fk T x < 2 ^ 31) : ∀ (post pre : List Nat) (cur n i : Nat), tR T 0 = pre ++ cur :: post → i + post.length < B → post.length < n → F_X4_leafOf_8 B t n (nI k) (nI cur) (nI i) S = some (.inl (some (nI (m_lf T k cur post))), S)
  | [], pre, cur, n, i, hrow, hi, hn => by
    obtain ⟨n, rfl⟩ : ∃ m, n = m + 1 := ⟨n - 1, by omega⟩
    obtain ⟨c1, c2, c3, c4, -⟩ := hr cur (by rw [hrow]; simp)
    have hnx : m_nx (tR T 0) cur = none := by rw [hrow, nx_app (by rw [← hrow]; exact hd)]; rfl
    have e7 : S.1 (t + 7) cur = -1 := by
      have := (hT.2.2.2.2.2 cur c1 (Or.inl c2)).2.2.2
      rw [c3, hnx] at this
      exact this
    have e0 := hT.1
    have g : ¬ nI B ≤ nI i := nI_ge (by simpa using hi) (by omega)
    have i1 : z_inb (nI cur) B = true := m_inb c1 (by omega)
    have x1 : (nI cur).toNatClampNeg = cur := nI_clamp (by omega)
    simp only [F_X4_leafOf_8, F_X4_leafOf_44, e0, g, if_false, if_true, z_lt, z_gd, i1, x1, e7, m_lf]
  | nx :: post, pre, cur, n, i, hrow, hi, hn => by
    obtain ⟨n, rfl⟩ : ∃ m, n = m + 1 := ⟨n - 1, by omega⟩
    simp only [List.length_cons] at hi hn
    obtain ⟨c1, c2, c3, c4, -⟩ := hr cur (by rw [hrow]; simp)
    obtain ⟨d1, d2, d3, d4, d5⟩ := hr nx (by rw [hrow]; simp)
    have hnx : m_nx (tR T 0) cur = some nx := by rw [hrow, nx_app (by rw [← hrow]; exact hd)]; rfl
    have e7 : S.1 (t + 7) cur = nI nx := by
      have := (hT.2.2.2.2.2 cur c1 (Or.inl c2)).2.2.2
      rw [c3, hnx] at this
      exact this
    obtain ⟨l3, l4, l9, -⟩ := hT.2.2.2.1 nx d1 d2
    have e9 : S.1 (t + 9) (nx * 14) = nI (m_fk T nx) := by
      cases hI : tI T nx with
      | nil => exact absurd hI d4
      | cons y ys =>
        have := l9 0 (nI y.1) (by rw [hI]; rfl)
        simpa [m_fk, hI] using this
    have e0 := hT.1
    have g : ¬ nI B ≤ nI i := nI_ge (by omega) (by omega)
    have i1 : z_inb (nI cur) B = true := m_inb c1 (by omega)
    have x1 : (nI cur).toNatClampNeg = cur := nI_clamp (by omega)
    have n1 : ¬ nI nx = -1 := m_ne1 (by omega)
    have e14 : nI nx * 14 = nI (nx * 14) := by rw [m_c14, pk_mul]
    have i2 : z_inb (nI (nx * 14)) (14 * B) = true := m_inb (by omega) (by omega)
    have x2 : (nI (nx * 14)).toNatClampNeg = nx * 14 := nI_clamp (by omega)
    have hz : nI (m_fk T nx) ≤ nI k ↔ m_fk T nx ≤ k := nI_leI d5 hk
    have y : nI i + 1 = nI (i + 1) := nI_1 i
    rw [F_X4_leafOf_8]
    by_cases hle : m_fk T nx ≤ k
    · have hz1 := hz.mpr hle
      simp only [e0, g, if_false, if_true, z_lt, z_gd, i1, x1, e7, n1, e14, i2, x2, e9, hz1, y, m_lf, hle]
      exact C_leafOf_loop hB hT hk hd hr post (pre ++ [cur]) nx n (i + 1) (by rw [hrow]; simp) (by omega) (by omega)
    · have hz1 : ¬ nI (m_fk T nx) ≤ nI k := fun z => hle (hz.mp z)
      simp only [e0, g, if_false, if_true, z_lt, z_gd, i1, x1, e7, n1, e14, i2, x2, e9, hz1, F_X4_leafOf_44, m_lf, hle]
theorem C_leafOf {k l0 : Nat} {L : List Nat} (hB : B ≤ 96) (hT : c_T B t S T) (hm : m_lm B T) (hk : k < 2 ^ 31) (hd : (tR T 0).Nodup) (hr : ∀ x ∈ tR T 0, x < B ∧ tU T x = 2 ∧ tH T x = 0 ∧ tI T x ≠ [] ∧ m_fk T x < 2 ^ 31) (hrow : tR T 0 = l0 :: L) (hlen : L.length < B) : F_X4_leafOf B t (nI k) S = some (.inl (some (nI (m_lf T k l0 L))), S) := by
  have e := C_leftmost (x := l0) hB hT hm (Nat.zero_le _) (by rw [hrow]; rfl)
  rw [nI_0] at e
  unfold F_X4_leafOf
  rw [e, m_bn]
  have key := C_leafOf_loop hB hT hk hd hr L [] l0 z_n 0 hrow (by omega) (by unfold z_n; omega)
  rw [nI_0] at key
  exact key
/-- the place of a key: its leaf's block times 14, and its index, if it is there -/
theorem C_slotOf {k l0 : Nat} {L : List Nat} (hB : B ≤ 96) (hT : c_T B t S T) (hm : m_lm B T) (hk : k < 2 ^ 31) (hd : (tR T 0).Nodup) (hr : ∀ x ∈ tR T 0, x < B ∧ tU T x = 2 ∧ tH T x = 0 ∧ tI T x ≠ [] ∧ m_fk T x < 2 ^ 31) (hkey : ∀ x ∈ tR T 0, ∀ y ∈ tI T x, y.1 < 2 ^ 31) (hrow : tR T 0 = l0 :: L) (hlen : L.length < B) {b i : Nat} (hb : m_lf T k l0 L = b) (hbr : b ∈ tR T 0) (hi : m_bef (tI T b) k = i) :
    ((∃ y, (tI T b)[i]? = some y ∧ y.1 = k) → F_X4_slotOf B t (nI k) S = some (.inl (some (nI (b * 14 + i))), S)) ∧ ((∀ y, (tI T b)[i]? = some y → y.1 ≠ k) → F_X4_slotOf B t (nI k) S = some (.inl (some (-1)), S)) := by
  obtain ⟨b1, b2, b3, b4, b5⟩ := hr b hbr
  obtain ⟨l3, l4, l9, l10, l11, ln⟩ := hT.2.2.2.1 b b1 b2
  have e1 := C_leafOf hB hT hm hk hd hr hrow hlen
  rw [hb] at e1
  have e2 := C_placeIn hB hT b1 b2 hk (hkey b hbr)
  rw [hi] at e2
  have hile : i ≤ (tI T b).length := by rw [← hi]; exact (List.takeWhile_sublist _).length_le
  have i1 : z_inb (nI b) B = true := m_inb b1 (by omega)
  have x1 : (nI b).toNatClampNeg = b := nI_clamp (by omega)
  have e14 : nI b * 14 + nI i = nI (b * 14 + i) := by rw [m_c14, pk_mul, nI_add]
  have z10 : ¬ (1 : Int32) = 0 := by decide
  by_cases hil : i < (tI T b).length
  · have g : ¬ nI (tI T b).length ≤ nI i := nI_ge hil (by omega)
    have i2 : z_inb (nI (b * 14 + i)) (14 * B) = true := m_inb (by omega) (by omega)
    have x2 : (nI (b * 14 + i)).toNatClampNeg = b * 14 + i := nI_clamp (by omega)
    have e9 : S.1 (t + 9) (b * 14 + i) = nI (tI T b)[i].1 := l9 i _ (by rw [List.getElem?_map, List.getElem?_eq_getElem hil]; rfl)
    have hz : nI (tI T b)[i].1 = nI k ↔ (tI T b)[i].1 = k := nI_eq (hkey b hbr _ (List.getElem_mem hil)) hk
    constructor
    · rintro ⟨y, hy, hyk⟩
      rw [List.getElem?_eq_getElem hil] at hy
      cases hy
      have hz1 := hz.mpr hyk
      simp only [F_X4_slotOf, e1, e2, z_bn, z_lt, z_gd, i1, x1, l3, g, if_true, if_false, e14, i2, x2, e9, hz1, F_X4_slotOf_43, z10, F_X4_slotOf_60]
    · intro hno
      have hz1 : ¬ nI (tI T b)[i].1 = nI k := fun z => hno _ (List.getElem?_eq_getElem hil) (hz.mp z)
      simp only [F_X4_slotOf, e1, e2, z_bn, z_lt, z_gd, i1, x1, l3, g, if_true, if_false, e14, i2, x2, e9, hz1, F_X4_slotOf_42, F_X4_slotOf_43, F_X4_slotOf_60]
  · have g : nI (tI T b).length ≤ nI i := nI_le (by omega) (by omega)
    constructor
    · rintro ⟨y, hy, hyk⟩
      exact absurd (List.getElem?_eq_some_iff.mp hy).1 hil
    · intro hno
      simp only [F_X4_slotOf, e1, e2, z_bn, z_lt, z_gd, i1, x1, l3, g, if_true, F_X4_slotOf_42, F_X4_slotOf_43, F_X4_slotOf_60]
end CT5
