/-! The reference's smallest methods, on: children taken out, rows, costs, a block taken. -/
section KM2
variable {B : Nat} {S : z_S}
theorem K_takeChild_loop {p i n : Nat} {v : Int32} (hp : p < 96) (hn : n ≤ 6) (hi : i < n) : ∀ (m k j : Nat) (S : z_S), m < k → j + m + 1 = n → i ≤ j → S.1 61 (3852 + p) = nI n → F_X6_takeChild_19 B k (nI p) v (nI j) (z_ua S 61 (va_cpy (S.1 61) (S.1 61) (4044 + 6 * p + i + 1) (4044 + 6 * p + i) (j - i))) = some (.inl (some v), z_ua S 61 (upd (va_cpy (S.1 61) (S.1 61) (4044 + 6 * p + i + 1) (4044 + 6 * p + i) (n - 1 - i)) (3852 + p) (nI (n - 1))))
  | 0, k, j, S, hk, hm, hij, h3 => by
    obtain ⟨k, rfl⟩ : ∃ j, k = j + 1 := ⟨k - 1, by omega⟩
    have e2 : (3852 : Int32) + nI p = nI (3852 + p) := by rw [m_c3852, nI_add]
    have i2 : z_inb (nI (3852 + p)) 25366 = true := m_inb (by omega) (by omega)
    have x2 : (nI (3852 + p)).toNatClampNeg = 3852 + p := nI_clamp (by omega)
    have ej : j - i = n - 1 - i := by omega
    rw [ej]
    have r : va_cpy (S.1 61) (S.1 61) (4044 + 6 * p + i + 1) (4044 + 6 * p + i) (n - 1 - i) (3852 + p) = nI n := by rw [pk_cpy_out (by omega)]; exact h3
    have y : nI j + 1 = nI (j + 1) := nI_1 j
    have g : nI n ≤ nI (j + 1) := nI_le (by omega) (by omega)
    have y2 : nI n - 1 = nI (n - 1) := by rw [m_c1]; exact pk_sub (by omega)
    rw [F_X6_takeChild_19]
    simp only [z_lt, z_gd, e2, i2, x2, if_true, z_ua_at, z_ua_ua, r, y, g, y2]
  | m + 1, k, j, S, hk, hm, hij, h3 => by
    obtain ⟨k, rfl⟩ : ∃ j, k = j + 1 := ⟨k - 1, by omega⟩
    have e2 : (3852 : Int32) + nI p = nI (3852 + p) := by rw [m_c3852, nI_add]
    have i2 : z_inb (nI (3852 + p)) 25366 = true := m_inb (by omega) (by omega)
    have x2 : (nI (3852 + p)).toNatClampNeg = 3852 + p := nI_clamp (by omega)
    have r : va_cpy (S.1 61) (S.1 61) (4044 + 6 * p + i + 1) (4044 + 6 * p + i) (j - i) (3852 + p) = nI n := by rw [pk_cpy_out (by omega)]; exact h3
    have y : nI j + 1 = nI (j + 1) := nI_1 j
    have g : ¬ nI n ≤ nI (j + 1) := nI_ge (by omega) (by omega)
    have e : (4044 : Int32) + 6 * nI p + nI j = nI (4044 + 6 * p + j) := by rw [m_c4044, m_c6, pk_mul, nI_add, nI_add]
    have e1 : nI (4044 + 6 * p + j) + 1 = nI (4044 + 6 * p + j + 1) := nI_1 _
    have i3 : z_inb (nI (4044 + 6 * p + j)) 25366 = true := m_inb (by omega) (by omega)
    have i4 : z_inb (nI (4044 + 6 * p + j + 1)) 25366 = true := m_inb (by omega) (by omega)
    have x3 : (nI (4044 + 6 * p + j)).toNatClampNeg = 4044 + 6 * p + j := nI_clamp (by omega)
    have x4 : (nI (4044 + 6 * p + j + 1)).toNatClampNeg = 4044 + 6 * p + j + 1 := nI_clamp (by omega)
    have r2 : va_cpy (S.1 61) (S.1 61) (4044 + 6 * p + i + 1) (4044 + 6 * p + i) (j - i) (4044 + 6 * p + j + 1) = S.1 61 (4044 + 6 * p + j + 1) := pk_cpy_out (by omega)
    have sh := m_shdn (f := S.1 61) (o := 4044 + 6 * p) (i := i) (j := j) hij
    rw [F_X6_takeChild_19]
    simp only [z_lt, z_gd, e2, i2, x2, if_true, if_false, z_ua_at, z_ua_ua, r, y, g, e, e1, i3, i4, x3, x4, r2, sh]
    exact K_takeChild_loop hp hn hi m k (j + 1) S (by omega) (by omega) (by omega) h3
theorem K_takeChild {p i n c : Nat} (hp : p < 96) (hn : n ≤ 6) (hi : i < n) (h3 : S.1 61 (3852 + p) = nI n) (hc : S.1 61 (4044 + 6 * p + i) = nI c) : F_X6_takeChild B (nI p) (nI i) S = some (.inl (some (nI c)), z_ua S 61 (upd (va_cpy (S.1 61) (S.1 61) (4044 + 6 * p + i + 1) (4044 + 6 * p + i) (n - 1 - i)) (3852 + p) (nI (n - 1)))) := by
  have e : (4044 : Int32) + 6 * nI p + nI i = nI (4044 + 6 * p + i) := by rw [m_c4044, m_c6, pk_mul, nI_add, nI_add]
  have i1 : z_inb (nI (4044 + 6 * p + i)) 25366 = true := m_inb (by omega) (by omega)
  have x1 : (nI (4044 + 6 * p + i)).toNatClampNeg = 4044 + 6 * p + i := nI_clamp (by omega)
  have key := K_takeChild_loop (B := B) (v := nI c) hp hn hi (n - 1 - i) z_n i S (by unfold z_n; omega) (by omega) (Nat.le_refl _) h3
  rw [Nat.sub_self, m_cpy0, z_ua_same] at key
  simp only [F_X6_takeChild, z_lt, z_gd, e, i1, x1, hc, if_true]
  exact key
theorem K_lineUp_loop {h o i n : Nat} {v : Int32} (hh : h < 8) (ho : o = 12300 + 96 * h) (hn : n < 96) (hi : i ≤ n) : ∀ (m k : Nat) (S : z_S), m < k → i + m ≤ n → S.1 61 (13068 + h) = nI n → F_X6_lineUp_37 B k v (nI h) (nI o) (nI i) (nI (i + m)) (z_ua S 61 (va_cpy (S.1 61) (S.1 61) (o + (i + m)) (o + (i + m) + 1) (n - (i + m)))) = some (.inl none, z_ua S 61 (upd (upd (va_cpy (S.1 61) (S.1 61) (o + i) (o + i + 1) (n - i)) (o + i) v) (13068 + h) (nI (n + 1))))
  | 0, k, S, hk, hm, h3 => by
    obtain ⟨k, rfl⟩ : ∃ j, k = j + 1 := ⟨k - 1, by omega⟩
    have e2 : (13068 : Int32) + nI h = nI (13068 + h) := by rw [m_c13068, nI_add]
    have i1 : z_inb (nI (o + i)) 25366 = true := m_inb (by omega) (by omega)
    have i2 : z_inb (nI (13068 + h)) 25366 = true := m_inb (by omega) (by omega)
    have x1 : (nI (o + i)).toNatClampNeg = o + i := nI_clamp (by omega)
    have x2 : (nI (13068 + h)).toNatClampNeg = 13068 + h := nI_clamp (by omega)
    have g : nI i ≤ nI i := nI_le (Nat.le_refl _) (by omega)
    have r1 : upd (va_cpy (S.1 61) (S.1 61) (o + i) (o + i + 1) (n - i)) (o + i) v (13068 + h) = nI n := by rw [pk_un (by omega), pk_cpy_out (by omega)]; exact h3
    have y1 : nI n + 1 = nI (n + 1) := nI_1 n
    simp only [F_X6_lineUp_37, g, z_lt, z_gd, nI_add, e2, i1, i2, x1, x2, if_true, z_ua_at, z_ua_ua, Nat.add_zero, r1, y1]
  | m + 1, k, S, hk, hm, h3 => by
    obtain ⟨k, rfl⟩ : ∃ j, k = j + 1 := ⟨k - 1, by omega⟩
    have g : ¬ nI (i + (m + 1)) ≤ nI i := nI_ge (by omega) (by omega)
    have e1 : nI (o + (i + (m + 1))) - 1 = nI (o + (i + (m + 1)) - 1) := by rw [m_c1]; exact pk_sub (by omega)
    have i1 : z_inb (nI (o + (i + (m + 1)))) 25366 = true := m_inb (by omega) (by omega)
    have i2 : z_inb (nI (o + (i + (m + 1)) - 1)) 25366 = true := m_inb (by omega) (by omega)
    have x1 : (nI (o + (i + (m + 1)))).toNatClampNeg = o + (i + (m + 1)) := nI_clamp (by omega)
    have x2 : (nI (o + (i + (m + 1)) - 1)).toNatClampNeg = o + (i + (m + 1)) - 1 := nI_clamp (by omega)
    have y : nI (i + (m + 1)) + -1 = nI (i + m) := pk_m1 (i + m)
    have r : va_cpy (S.1 61) (S.1 61) (o + (i + (m + 1))) (o + (i + (m + 1)) + 1) (n - (i + (m + 1))) (o + (i + (m + 1)) - 1) = S.1 61 (o + (i + (m + 1)) - 1) := pk_cpy_out (by omega)
    have sh := m_shup (f := S.1 61) (o := o) (j := i + (m + 1)) (n := n) (by omega) hm
    have e9 : i + (m + 1) - 1 = i + m := by omega
    rw [e9] at sh
    have eo : nI o + nI (i + (m + 1)) = nI (o + (i + (m + 1))) := nI_add _ _
    rw [F_X6_lineUp_37]
    simp only [g, z_lt, z_gd, eo, e1, i1, i2, x1, x2, if_true, if_false, z_ua_at, z_ua_ua, r, sh, y]
    exact K_lineUp_loop hh ho hn hi m k S (by omega) (by omega) h3
theorem K_lineUp {f b h : Nat} {L : List Nat} (hf : f < 96) (hb : b < 96) (hhf : S.1 61 (3756 + f) = nI (h + 1)) (hhb : S.1 61 (3756 + b) = nI (h + 1)) (h8 : h < 8) (hL : m_l (S.1 61) (12300 + 96 * h) (L.map nI)) (hc : S.1 61 (13068 + h) = nI L.length) (hn : L.length < 96) (hx : ∀ x ∈ L, x < 2 ^ 31) (hm : b ∈ L) :
    F_X6_lineUp B (nI f) (nI b) S = some (.inl none, z_ua S 61 (upd (upd (va_cpy (S.1 61) (S.1 61) (12300 + 96 * h + (L.idxOf b + 1)) (12300 + 96 * h + (L.idxOf b + 1) + 1) (L.length - (L.idxOf b + 1))) (12300 + 96 * h + (L.idxOf b + 1)) (nI f)) (13068 + h) (nI (L.length + 1)))) := by
  have hil : L.idxOf b < L.length := List.idxOf_lt_length_iff.mpr hm
  have e : (12300 : Int32) + 96 * nI h = nI (12300 + 96 * h) := by rw [m_c12300, m_c96, pk_mul, nI_add]
  have e2 : (13068 : Int32) + nI h = nI (13068 + h) := by rw [m_c13068, nI_add]
  have i2 : z_inb (nI (13068 + h)) 25366 = true := m_inb (by omega) (by omega)
  have x2 : (nI (13068 + h)).toNatClampNeg = 13068 + h := nI_clamp (by omega)
  have y : nI (L.idxOf b) + 1 = nI (L.idxOf b + 1) := nI_1 _
  have key := K_lineUp_loop (B := B) (v := nI f) (o := 12300 + 96 * h) (i := L.idxOf b + 1) (n := L.length) h8 rfl hn (by omega) (L.length - (L.idxOf b + 1)) z_n S (by unfold z_n; omega) (by omega) hc
  have e9 : L.idxOf b + 1 + (L.length - (L.idxOf b + 1)) = L.length := by omega
  rw [e9, Nat.sub_self, m_cpy0, z_ua_same] at key
  unfold F_X6_lineUp
  rw [K_height hf hhf]
  simp only [z_bn]
  rw [K_placeOf hb hhb h8 hL (by omega) hx hm]
  simp only [z_lt, z_gd, e, e2, i2, x2, hc, y, if_true]
  exact key
theorem K_lineOff_loop {h o i n : Nat} (hh : h < 8) (ho : o = 12300 + 96 * h) (hn : n ≤ 96) (hi : i < n) : ∀ (m k j : Nat) (S : z_S), m < k → j + m + 1 = n → i ≤ j → S.1 61 (13068 + h) = nI n → F_X6_lineOff_22 B k (nI h) (nI o) (nI j) (z_ua S 61 (va_cpy (S.1 61) (S.1 61) (o + i + 1) (o + i) (j - i))) = some (.inl none, z_ua S 61 (upd (va_cpy (S.1 61) (S.1 61) (o + i + 1) (o + i) (n - 1 - i)) (13068 + h) (nI (n - 1))))
  | 0, k, j, S, hk, hm, hij, h3 => by
    obtain ⟨k, rfl⟩ : ∃ j, k = j + 1 := ⟨k - 1, by omega⟩
    have e2 : (13068 : Int32) + nI h = nI (13068 + h) := by rw [m_c13068, nI_add]
    have i2 : z_inb (nI (13068 + h)) 25366 = true := m_inb (by omega) (by omega)
    have x2 : (nI (13068 + h)).toNatClampNeg = 13068 + h := nI_clamp (by omega)
    have ej : j - i = n - 1 - i := by omega
    rw [ej]
    have r : va_cpy (S.1 61) (S.1 61) (o + i + 1) (o + i) (n - 1 - i) (13068 + h) = nI n := by rw [pk_cpy_out (by omega)]; exact h3
    have y : nI j + 1 = nI (j + 1) := nI_1 j
    have g : nI n ≤ nI (j + 1) := nI_le (by omega) (by omega)
    have y2 : nI n - 1 = nI (n - 1) := by rw [m_c1]; exact pk_sub (by omega)
    rw [F_X6_lineOff_22]
    simp only [z_lt, z_gd, e2, i2, x2, if_true, z_ua_at, z_ua_ua, r, y, g, y2]
  | m + 1, k, j, S, hk, hm, hij, h3 => by
    obtain ⟨k, rfl⟩ : ∃ j, k = j + 1 := ⟨k - 1, by omega⟩
    have e2 : (13068 : Int32) + nI h = nI (13068 + h) := by rw [m_c13068, nI_add]
    have i2 : z_inb (nI (13068 + h)) 25366 = true := m_inb (by omega) (by omega)
    have x2 : (nI (13068 + h)).toNatClampNeg = 13068 + h := nI_clamp (by omega)
    have r : va_cpy (S.1 61) (S.1 61) (o + i + 1) (o + i) (j - i) (13068 + h) = nI n := by rw [pk_cpy_out (by omega)]; exact h3
    have y : nI j + 1 = nI (j + 1) := nI_1 j
    have g : ¬ nI n ≤ nI (j + 1) := nI_ge (by omega) (by omega)
    have e : nI o + nI j = nI (o + j) := nI_add _ _
    have e1 : nI (o + j) + 1 = nI (o + j + 1) := nI_1 _
    have i3 : z_inb (nI (o + j)) 25366 = true := m_inb (by omega) (by omega)
    have i4 : z_inb (nI (o + j + 1)) 25366 = true := m_inb (by omega) (by omega)
    have x3 : (nI (o + j)).toNatClampNeg = o + j := nI_clamp (by omega)
    have x4 : (nI (o + j + 1)).toNatClampNeg = o + j + 1 := nI_clamp (by omega)
    have r2 : va_cpy (S.1 61) (S.1 61) (o + i + 1) (o + i) (j - i) (o + j + 1) = S.1 61 (o + j + 1) := pk_cpy_out (by omega)
    have sh := m_shdn (f := S.1 61) (o := o) (i := i) (j := j) hij
    rw [F_X6_lineOff_22]
    simp only [z_lt, z_gd, e2, i2, x2, if_true, if_false, z_ua_at, z_ua_ua, r, y, g, e, e1, i3, i4, x3, x4, r2, sh]
    exact K_lineOff_loop hh ho hn hi m k (j + 1) S (by omega) (by omega) (by omega) h3
theorem K_lineOff {b h : Nat} {L : List Nat} (hb : b < 96) (hhb : S.1 61 (3756 + b) = nI (h + 1)) (h8 : h < 8) (hL : m_l (S.1 61) (12300 + 96 * h) (L.map nI)) (hc : S.1 61 (13068 + h) = nI L.length) (hn : L.length ≤ 96) (hx : ∀ x ∈ L, x < 2 ^ 31) (hm : b ∈ L) :
    F_X6_lineOff B (nI b) S = some (.inl none, z_ua S 61 (upd (va_cpy (S.1 61) (S.1 61) (12300 + 96 * h + L.idxOf b + 1) (12300 + 96 * h + L.idxOf b) (L.length - 1 - L.idxOf b)) (13068 + h) (nI (L.length - 1)))) := by
  have hil : L.idxOf b < L.length := List.idxOf_lt_length_iff.mpr hm
  have e : (12300 : Int32) + 96 * nI h = nI (12300 + 96 * h) := by rw [m_c12300, m_c96, pk_mul, nI_add]
  have key := K_lineOff_loop (B := B) (o := 12300 + 96 * h) (i := L.idxOf b) (n := L.length) h8 rfl hn hil (L.length - 1 - L.idxOf b) z_n (L.idxOf b) S (by unfold z_n; omega) (by omega) (Nat.le_refl _) hc
  rw [Nat.sub_self, m_cpy0, z_ua_same] at key
  unfold F_X6_lineOff
  rw [K_height hb hhb]
  simp only [z_bn]
  rw [K_placeOf hb hhb h8 hL hn hx hm]
  simp only [e]
  exact key
theorem K_isIn {v lo hi : Int32} : F_X6_isIn B v lo hi S = some (.inl (some (if lo ≤ v ∧ v ≤ hi then 1 else 0)), S) := by
  by_cases h1 : v < lo
  · have g1 : ¬ lo ≤ v := Int32.not_le.mpr h1
    simp [F_X6_isIn, F_X6_isIn_15, F_X6_isIn_14, h1, g1, z_gd, z_b01]
  · have g1 : lo ≤ v := Int32.not_lt.mp h1
    by_cases h2 : hi < v
    · have g2 : ¬ v ≤ hi := Int32.not_le.mpr h2
      simp [F_X6_isIn, F_X6_isIn_15, F_X6_isIn_14, h1, h2, g2, z_gd, z_b01]
    · have g2 : v ≤ hi := Int32.not_lt.mp h2
      simp [F_X6_isIn, F_X6_isIn_15, h1, h2, g1, g2, z_gd, z_b01]
end KM2
