/-! The reference's smallest methods over its one array (place 61). -/
theorem m_c61 : (61 : Int32) = nI 61 := rfl
theorem m_c340 : (340 : Int32) = nI 340 := rfl
theorem m_c218 : (218 : Int32) = nI 218 := rfl
theorem m_c279 : (279 : Int32) = nI 279 := rfl
theorem m_c157 : (157 : Int32) = nI 157 := rfl
theorem m_c1316 : (1316 : Int32) = nI 1316 := rfl
theorem m_c3756 : (3756 : Int32) = nI 3756 := rfl
theorem m_c3852 : (3852 : Int32) = nI 3852 := rfl
theorem m_c3948 : (3948 : Int32) = nI 3948 := rfl
theorem m_c4044 : (4044 : Int32) = nI 4044 := rfl
theorem m_c4620 : (4620 : Int32) = nI 4620 := rfl
theorem m_c6156 : (6156 : Int32) = nI 6156 := rfl
theorem m_c7692 : (7692 : Int32) = nI 7692 := rfl
theorem m_c9228 : (9228 : Int32) = nI 9228 := rfl
theorem m_c10764 : (10764 : Int32) = nI 10764 := rfl
theorem m_c12300 : (12300 : Int32) = nI 12300 := rfl
theorem m_c13068 : (13068 : Int32) = nI 13068 := rfl
theorem m_c13076 : (13076 : Int32) = nI 13076 := rfl
theorem m_c13077 : (13077 : Int32) = nI 13077 := rfl
theorem m_c13078 : (13078 : Int32) = nI 13078 := rfl
theorem z_ua_ua {S : z_S} {a : Nat} {f g : Nat → Int32} : z_ua (z_ua S a f) a g = z_ua S a g := by
  simp only [z_ua]
  rw [bx_uu]
theorem z_ua_at {S : z_S} {a : Nat} {f : Nat → Int32} : (z_ua S a f).1 a = f := by simp [m_ua1]
theorem z_ua_same {S : z_S} {a : Nat} : z_ua S a (S.1 a) = S := by
  have : va_up S.1 a (S.1 a) = S.1 := by
    funext b
    simp only [va_up]
    by_cases h : b = a
    · rw [if_pos h, h]
    · rw [if_neg h]
  simp only [z_ua, this]
/-- one step of moving up, one step of moving down -/
theorem m_shup {f : Nat → Int32} {o j n : Nat} (h1 : 1 ≤ j) (h2 : j ≤ n) : upd (va_cpy f f (o + j) (o + j + 1) (n - j)) (o + j) (f (o + j - 1)) = va_cpy f f (o + (j - 1)) (o + (j - 1) + 1) (n - (j - 1)) := by
  funext x
  by_cases hx : x = o + j
  · subst hx
    rw [pk_us, pk_cpy_in (by omega) (by omega)]
    congr 1
    omega
  · rw [pk_un hx]
    by_cases h3 : o + j + 1 ≤ x ∧ x < o + j + 1 + (n - j)
    · rw [pk_cpy_in h3.1 h3.2, pk_cpy_in (by omega) (by omega)]
      congr 1
      omega
    · rw [pk_cpy_out (by omega), pk_cpy_out (by omega)]
theorem m_shdn {f : Nat → Int32} {o i j : Nat} (h : i ≤ j) : upd (va_cpy f f (o + i + 1) (o + i) (j - i)) (o + j) (f (o + j + 1)) = va_cpy f f (o + i + 1) (o + i) (j + 1 - i) := by
  funext x
  by_cases hx : x = o + j
  · subst hx
    rw [pk_us, pk_cpy_in (by omega) (by omega)]
    congr 1
    omega
  · rw [pk_un hx]
    by_cases h3 : o + i ≤ x ∧ x < o + i + (j - i)
    · rw [pk_cpy_in h3.1 h3.2, pk_cpy_in (by omega) (by omega)]
    · rw [pk_cpy_out (by omega), pk_cpy_out (by omega)]
theorem m_cpy0 {f : Nat → Int32} {a b : Nat} : va_cpy f f a b 0 = f := by
  funext x
  rw [pk_cpy_out (by omega)]
section KM
variable {B : Nat} {S : z_S}
theorem K_free {b : Nat} (hb : b < 96) : F_X6_free B (nI b) S = some (.inl none, z_ua S 61 (upd (upd (upd (S.1 61) b 0) (3756 + b) 0) (3852 + b) 0)) := by
  have e0 : (0 : Int32) + nI b = nI b := by rw [m_c0, nI_add, Nat.zero_add]
  have e1 : (3756 : Int32) + nI b = nI (3756 + b) := by rw [m_c3756, nI_add]
  have e2 : (3852 : Int32) + nI b = nI (3852 + b) := by rw [m_c3852, nI_add]
  have i0 : z_inb (nI b) 25366 = true := m_inb (by omega) (by omega)
  have i1 : z_inb (nI (3756 + b)) 25366 = true := m_inb (by omega) (by omega)
  have i2 : z_inb (nI (3852 + b)) 25366 = true := m_inb (by omega) (by omega)
  have x0 : (nI b).toNatClampNeg = b := nI_clamp (by omega)
  have x1 : (nI (3756 + b)).toNatClampNeg = 3756 + b := nI_clamp (by omega)
  have x2 : (nI (3852 + b)).toNatClampNeg = 3852 + b := nI_clamp (by omega)
  simp only [F_X6_free, z_lt, z_gd, e0, e1, e2, i0, i1, i2, x0, x1, x2, if_true, z_ua_at, z_ua_ua]
theorem K_height {b h : Nat} (hb : b < 96) (hh : S.1 61 (3756 + b) = nI (h + 1)) : F_X6_height B (nI b) S = some (.inl (some (nI h)), S) := by
  have e1 : (3756 : Int32) + nI b = nI (3756 + b) := by rw [m_c3756, nI_add]
  have i1 : z_inb (nI (3756 + b)) 25366 = true := m_inb (by omega) (by omega)
  have x1 : (nI (3756 + b)).toNatClampNeg = 3756 + b := nI_clamp (by omega)
  have y : nI (h + 1) - 1 = nI h := nI_pred h
  simp only [F_X6_height, z_lt, z_gd, e1, i1, x1, hh, y, if_true]
/-- a search in a row: it ends where the node stands -/
theorem K_find {o c : Nat} {L : List Nat} (ho : o + L.length < 25366) (hl : m_l (S.1 61) o (L.map nI)) (hc : c < 2 ^ 31) (hx : ∀ x ∈ L, x < 2 ^ 31) (G : Nat → Int32 → z_S → Option (z_O × z_S)) (hG : ∀ n i, i < L.length → G (n + 1) (nI i) S = if S.1 61 (o + i) = nI c then some (.inl (some (nI i)), S) else G n (nI (i + 1)) S) : ∀ (m n i : Nat), i + m = L.length → m ≤ n → c ∈ L.drop i → G n (nI i) S = some (.inl (some (nI (i + (L.drop i).idxOf c))), S)
  | 0, n, i, hi, hm, hmem => by
    rw [List.drop_eq_nil_of_le (by omega)] at hmem
    cases hmem
  | m + 1, n, i, hi, hm, hmem => by
    obtain ⟨n, rfl⟩ : ∃ m, n = m + 1 := ⟨n - 1, by omega⟩
    have hil : i < L.length := by omega
    have e8 : S.1 61 (o + i) = nI L[i] := hl i _ (by rw [List.getElem?_map, List.getElem?_eq_getElem hil]; rfl)
    have hz : nI L[i] = nI c ↔ L[i] = c := nI_eq (hx _ (List.getElem_mem hil)) hc
    have ed : L.drop i = L[i] :: L.drop (i + 1) := List.drop_eq_getElem_cons hil
    rw [ed] at hmem ⊢
    rw [hG n i hil, e8, List.idxOf_cons]
    by_cases hlc : L[i] = c
    · rw [if_pos (hz.mpr hlc)]
      have hb : (L[i] == c) = true := by simpa using hlc
      rw [hb]
      simp
    · rw [if_neg (fun h => hlc (hz.mp h))]
      have hm2 : c ∈ L.drop (i + 1) := by
        rcases List.mem_cons.mp hmem with h | h
        · exact absurd h.symm hlc
        · exact h
      rw [K_find ho hl hc hx G hG m n (i + 1) (by omega) (by omega) hm2]
      have hb : (L[i] == c) = false := by simpa using hlc
      rw [hb]
      simp only [cond_false]
      congr 5
      omega
theorem K_placeOf {b h : Nat} {L : List Nat} (hb : b < 96) (hh : S.1 61 (3756 + b) = nI (h + 1)) (h8 : h < 8) (hL : m_l (S.1 61) (12300 + 96 * h) (L.map nI)) (hn : L.length ≤ 96) (hx : ∀ x ∈ L, x < 2 ^ 31) (hm : b ∈ L) : F_X6_placeOf B (nI b) S = some (.inl (some (nI (L.idxOf b))), S) := by
  unfold F_X6_placeOf
  rw [K_height hb hh]
  simp only [z_bn]
  have e : (12300 : Int32) + 96 * nI h = nI (12300 + 96 * h) := by rw [m_c12300, m_c96, pk_mul, nI_add]
  rw [e]
  have key := K_find (S := S) (o := 12300 + 96 * h) (c := b) (L := L) (by omega) hL (by omega) hx (fun n v S => F_X6_placeOf_15 B n (nI b) (nI (12300 + 96 * h)) v S) (fun n i hi => by
    have i1 : z_inb (nI (12300 + 96 * h + i)) 25366 = true := m_inb (by omega) (by omega)
    have x1 : (nI (12300 + 96 * h + i)).toNatClampNeg = 12300 + 96 * h + i := nI_clamp (by omega)
    have y1 : nI i + 1 = nI (i + 1) := nI_1 i
    simp only [F_X6_placeOf_15, z_lt, z_gd, nI_add, i1, x1, y1, if_true]) L.length z_n 0 (by omega) (by unfold z_n; omega) (by simpa using hm)
  simpa [nI_0] using key
theorem K_childPlace {p c : Nat} {L : List Nat} (hp : p < 96) (hL : m_l (S.1 61) (4044 + 6 * p) (L.map nI)) (hn : L.length ≤ 6) (hc : c < 2 ^ 31) (hx : ∀ x ∈ L, x < 2 ^ 31) (hm : c ∈ L) : F_X6_childPlace B (nI p) (nI c) S = some (.inl (some (nI (L.idxOf c))), S) := by
  unfold F_X6_childPlace
  have key := K_find (S := S) (o := 4044 + 6 * p) (c := c) (L := L) (by omega) hL hc hx (fun n v S => F_X6_childPlace_2 B n (nI p) (nI c) v S) (fun n i hi => by
    have e : (4044 : Int32) + 6 * nI p + nI i = nI (4044 + 6 * p + i) := by rw [m_c4044, m_c6, pk_mul, nI_add, nI_add]
    have i1 : z_inb (nI (4044 + 6 * p + i)) 25366 = true := m_inb (by omega) (by omega)
    have x1 : (nI (4044 + 6 * p + i)).toNatClampNeg = 4044 + 6 * p + i := nI_clamp (by omega)
    have y1 : nI i + 1 = nI (i + 1) := nI_1 i
    simp only [F_X6_childPlace_2, z_lt, z_gd, e, i1, x1, y1, if_true]) L.length z_n 0 (by omega) (by unfold z_n; omega) (by simpa using hm)
  simpa [nI_0] using key
theorem K_child_loop {p i c n : Nat} (hp : p < 96) (hc : c < 96) (hn : n ≤ 5) (hi : i ≤ n) : ∀ (m k : Nat) (S : z_S), m < k → i + m ≤ n → S.1 61 (3852 + p) = nI n → F_X6_child_12 B k (nI p) (nI i) (nI c) (nI (i + m)) (z_ua S 61 (va_cpy (S.1 61) (S.1 61) (4044 + 6 * p + (i + m)) (4044 + 6 * p + (i + m) + 1) (n - (i + m)))) = some (.inl none, z_ua S 61 (upd (upd (upd (va_cpy (S.1 61) (S.1 61) (4044 + 6 * p + i) (4044 + 6 * p + i + 1) (n - i)) (4044 + 6 * p + i) (nI c)) (3852 + p) (nI (n + 1))) (3948 + c) (nI p)))
  | 0, k, S, hk, hm, h3 => by
    obtain ⟨k, rfl⟩ : ∃ j, k = j + 1 := ⟨k - 1, by omega⟩
    have e : (4044 : Int32) + 6 * nI p + nI i = nI (4044 + 6 * p + i) := by rw [m_c4044, m_c6, pk_mul, nI_add, nI_add]
    have e2 : (3852 : Int32) + nI p = nI (3852 + p) := by rw [m_c3852, nI_add]
    have e3 : (3948 : Int32) + nI c = nI (3948 + c) := by rw [m_c3948, nI_add]
    have i1 : z_inb (nI (4044 + 6 * p + i)) 25366 = true := m_inb (by omega) (by omega)
    have i2 : z_inb (nI (3852 + p)) 25366 = true := m_inb (by omega) (by omega)
    have i3 : z_inb (nI (3948 + c)) 25366 = true := m_inb (by omega) (by omega)
    have x1 : (nI (4044 + 6 * p + i)).toNatClampNeg = 4044 + 6 * p + i := nI_clamp (by omega)
    have x2 : (nI (3852 + p)).toNatClampNeg = 3852 + p := nI_clamp (by omega)
    have x3 : (nI (3948 + c)).toNatClampNeg = 3948 + c := nI_clamp (by omega)
    have g : nI i ≤ nI i := nI_le (Nat.le_refl _) (by omega)
    have r1 : ∀ f : Nat → Int32, upd (va_cpy f f (4044 + 6 * p + i) (4044 + 6 * p + i + 1) (n - i)) (4044 + 6 * p + i) (nI c) (3852 + p) = f (3852 + p) := fun f => by rw [pk_un (by omega), pk_cpy_out (by omega)]
    have y1 : nI n + 1 = nI (n + 1) := nI_1 n
    simp only [F_X6_child_12, g, z_lt, z_gd, e, e2, e3, i1, i2, i3, x1, x2, x3, if_true, z_ua_at, z_ua_ua, Nat.add_zero, r1, h3, y1]
  | m + 1, k, S, hk, hm, h3 => by
    obtain ⟨k, rfl⟩ : ∃ j, k = j + 1 := ⟨k - 1, by omega⟩
    have g : ¬ nI (i + (m + 1)) ≤ nI i := nI_ge (by omega) (by omega)
    have e : (4044 : Int32) + 6 * nI p + nI (i + (m + 1)) = nI (4044 + 6 * p + (i + (m + 1))) := by rw [m_c4044, m_c6, pk_mul, nI_add, nI_add]
    have e1 : nI (4044 + 6 * p + (i + (m + 1))) - 1 = nI (4044 + 6 * p + (i + (m + 1)) - 1) := by rw [m_c1]; exact pk_sub (by omega)
    have i1 : z_inb (nI (4044 + 6 * p + (i + (m + 1)))) 25366 = true := m_inb (by omega) (by omega)
    have i2 : z_inb (nI (4044 + 6 * p + (i + (m + 1)) - 1)) 25366 = true := m_inb (by omega) (by omega)
    have x1 : (nI (4044 + 6 * p + (i + (m + 1)))).toNatClampNeg = 4044 + 6 * p + (i + (m + 1)) := nI_clamp (by omega)
    have x2 : (nI (4044 + 6 * p + (i + (m + 1)) - 1)).toNatClampNeg = 4044 + 6 * p + (i + (m + 1)) - 1 := nI_clamp (by omega)
    have y : nI (i + (m + 1)) + -1 = nI (i + m) := pk_m1 (i + m)
    have r : va_cpy (S.1 61) (S.1 61) (4044 + 6 * p + (i + (m + 1))) (4044 + 6 * p + (i + (m + 1)) + 1) (n - (i + (m + 1))) (4044 + 6 * p + (i + (m + 1)) - 1) = S.1 61 (4044 + 6 * p + (i + (m + 1)) - 1) := pk_cpy_out (by omega)
    have sh := m_shup (f := S.1 61) (o := 4044 + 6 * p) (j := i + (m + 1)) (n := n) (by omega) hm
    have e9 : i + (m + 1) - 1 = i + m := by omega
    rw [e9] at sh
    rw [F_X6_child_12]
    simp only [g, z_lt, z_gd, e, e1, i1, i2, x1, x2, if_true, if_false, z_ua_at, z_ua_ua, r, sh, y]
    exact K_child_loop hp hc hn hi m k S (by omega) (by omega) h3
theorem K_child {p i c n : Nat} (hp : p < 96) (hc : c < 96) (hn : n ≤ 5) (hi : i ≤ n) (h3 : S.1 61 (3852 + p) = nI n) : F_X6_child B (nI p) (nI i) (nI c) S = some (.inl none, z_ua S 61 (upd (upd (upd (va_cpy (S.1 61) (S.1 61) (4044 + 6 * p + i) (4044 + 6 * p + i + 1) (n - i)) (4044 + 6 * p + i) (nI c)) (3852 + p) (nI (n + 1))) (3948 + c) (nI p))) := by
  have e2 : (3852 : Int32) + nI p = nI (3852 + p) := by rw [m_c3852, nI_add]
  have i2 : z_inb (nI (3852 + p)) 25366 = true := m_inb (by omega) (by omega)
  have x2 : (nI (3852 + p)).toNatClampNeg = 3852 + p := nI_clamp (by omega)
  have key := K_child_loop (B := B) hp hc hn hi (n - i) z_n S (by unfold z_n; omega) (by omega) h3
  have e : i + (n - i) = n := by omega
  rw [e, Nat.sub_self, m_cpy0, z_ua_same] at key
  simp only [F_X6_child, z_lt, z_gd, e2, i2, x2, h3, if_true]
  exact key
end KM
