/-! Checks of objects and names; look, read, about: class and reference answer alike. -/
theorem m_in {p : Int32} {lo hi : Nat} (h1 : nI lo ≤ p) (h2 : p ≤ nI hi) (hh : hi < 2 ^ 31) (hl : lo < 2 ^ 31) : ∃ o, p = nI o ∧ lo ≤ o ∧ o ≤ hi := by
  have e1 := Int32.le_iff_toInt_le.mp h1
  have e2 := Int32.le_iff_toInt_le.mp h2
  rw [nI_toInt hl] at e1
  rw [nI_toInt hh] at e2
  refine ⟨p.toInt.toNat, m_n _ (by omega) (by omega), by omega, by omega⟩
theorem m_nle {p : Int32} {lo : Nat} (h : ¬ nI lo ≤ p) : p < nI lo := Int32.not_le.mp h
def d_k (O : m_O) (p : Int32) : Nat := if 1 ≤ p ∧ p ≤ 60 then oK O p.toNatClampNeg else 0
theorem dk_nI {O : m_O} {o : Nat} (h1 : 1 ≤ o) (h2 : o ≤ 60) : d_k O (nI o) = oK O o := by
  unfold d_k
  rw [if_pos ⟨by rw [m_c1]; exact nI_le h1 (by omega), by rw [m_c60]; exact nI_le h2 (by omega)⟩, nI_clamp (by omega)]
theorem dk_out {O : m_O} {p : Int32} (h : ¬ (1 ≤ p ∧ p ≤ 60)) : d_k O p = 0 := by unfold d_k; rw [if_neg h]
theorem dk_some {O : m_O} {p : Int32} (h : d_k O p ≠ 0) : ∃ o, p = nI o ∧ 1 ≤ o ∧ o ≤ 60 ∧ oK O o = d_k O p := by
  have h' := h
  unfold d_k at h'
  by_cases e : 1 ≤ p ∧ p ≤ 60
  · obtain ⟨o, ho, h1, h2⟩ := m_in (lo := 1) (hi := 60) (by rw [← m_c1]; exact e.1) (by rw [← m_c60]; exact e.2) (by omega) (by omega)
    exact ⟨o, ho, h1, h2, by rw [ho, dk_nI h1 h2]⟩
  · rw [if_neg e] at h'
    exact absurd rfl h'
/-- what an entry tells -/
def d_e (T : m_T) (o n : Nat) : Option Nat := ((flat T).find? (fun y => decide (y.1 = (o * 4 + 1) * 1000 + n))).bind (fun y => y.2.2)
def d_ea (T : m_T) (o : Nat) (p : Int32) : Int32 := if 0 ≤ p ∧ p < 1000 then oI (d_e T o p.toNatClampNeg) else -1
theorem so_uniq {L : List m_It} (h : m_so L) {x y : m_It} (hx : x ∈ L) (hy : y ∈ L) (e : x.1 = y.1) : x = y := by
  induction L with
  | nil => cases hx
  | cons a L ih =>
    obtain ⟨h1, h2⟩ := List.pairwise_cons.mp h
    rcases List.mem_cons.mp hx with w | w <;> rcases List.mem_cons.mp hy with v | v
    · rw [w, v]
    · have := h1 y v; rw [w] at e; omega
    · have := h1 x w; rw [v] at e; omega
    · exact ih h2 w v
theorem de_some {B : Nat} {T : m_T} {o n : Nat} {y : m_It} (h : m_ok B T) (hy : y ∈ flat T) (e : y.1 = (o * 4 + 1) * 1000 + n) : d_e T o n = y.2.2 := by
  unfold d_e
  cases hf : (flat T).find? (fun y => decide (y.1 = (o * 4 + 1) * 1000 + n)) with
  | none =>
    have := List.find?_eq_none.mp hf y hy
    simp [e] at this
  | some z =>
    have hz := List.find?_some hf
    have hm := List.mem_of_find?_eq_some hf
    have hzk : z.1 = (o * 4 + 1) * 1000 + n := by simpa using hz
    rw [so_uniq h.2.2.2 hm hy (hzk.trans e.symm)]; rfl
theorem de_none {T : m_T} {o n : Nat} (h : ∀ y ∈ flat T, y.1 ≠ (o * 4 + 1) * 1000 + n) : d_e T o n = none := by
  unfold d_e
  rw [List.find?_eq_none.mpr (fun y hy => by simpa using h y hy)]; rfl
theorem i32_sub0 {a b : Int32} : a - b = 0 ↔ a = b := by
  constructor
  · intro h
    have : a - b + b = 0 + b := by rw [h]
    rw [Int32.sub_add_cancel, Int32.zero_add] at this
    exact this
  · intro h
    rw [h, Int32.sub_self]
section CL2
variable {B J : Nat} {S S' : z_S} {A : m_A} {T : m_T} {O : m_O} {f : Nat → Int32}
theorem dk_le {p : Int32} (hi : m_im B T O) : d_k O p ≤ 2 := by
  unfold d_k
  split
  · exact hi.2.1 _
  · omega
theorem kind_m1 {k : Nat} (h : k ≤ 2) : (nI k - 1 = -1 ↔ k = 0) ∧ (nI k - 1 = 0 ↔ k = 1) ∧ (nI k - 1 = 1 ↔ k = 2) := by
  obtain rfl | rfl | rfl : k = 0 ∨ k = 1 ∨ k = 2 := by omega
  all_goals decide
theorem C_isThere {p : Int32} (hi : m_im B T O) (h : c_O B 1 S T O) : F_X2_isThere B 14 p S = some (.inl (some (if d_k O p = 0 then 0 else 1)), S) := by
  unfold F_X2_isThere
  by_cases h1 : p < 1
  · rw [if_pos h1, F_X2_isThere_25, F_X2_isThere_26, m_gd (by decide), if_pos (dk_out (fun e => Int32.not_lt.mpr e.1 h1))]
  · rw [if_neg h1]
    by_cases h2 : 60 < p
    · rw [if_pos h2, F_X2_isThere_25, F_X2_isThere_26, m_gd (by decide), if_pos (dk_out (fun e => Int32.not_lt.mpr e.2 h2))]
    · obtain ⟨o, ho, o1, o2⟩ := m_in (p := p) (lo := 1) (hi := 60) (by rw [← m_c1]; exact Int32.not_lt.mp h1) (by rw [← m_c60]; exact Int32.not_lt.mp h2) (by omega) (by omega)
      subst ho
      obtain ⟨k1, k2, k3⟩ := kind_m1 (hi.2.1 o)
      rw [if_neg h2, m_gd (m_inb (by omega) (by omega)), m_lt, m_ix (by omega), show S.1 (14 + 1) o = nI (oK O o) - 1 from h.1 o o1 o2, dk_nI o1 o2]
      by_cases e : oK O o = 0
      · rw [if_pos (k1.mpr e), F_X2_isThere_25, F_X2_isThere_26, m_gd (by decide), if_pos e]
      · rw [if_neg (fun z => e (k1.mp z)), F_X2_isThere_26, m_gd (by decide), if_neg e]
theorem C_needDirectory {p : Int32} (hi : m_im B T O) (h : c_O B 1 S T O) : F_X5_needDirectory B p S = some ((if d_k O p = 1 then .inl none else .inr E_I), S) := by
  unfold F_X5_needDirectory
  rw [C_isThere hi h, m_bn]
  by_cases e : d_k O p = 0
  · rw [if_pos e, if_pos rfl, F_X5_needDirectory_29, if_neg (by omega)]; rfl
  · obtain ⟨o, ho, o1, o2, o3⟩ := dk_some e
    obtain ⟨k1, k2, k3⟩ := kind_m1 (hi.2.1 o)
    subst ho
    rw [if_neg e, if_neg (by decide), m_gd (m_inb (by omega) (by omega)), m_lt, m_ix (by omega), show S.1 15 o = nI (oK O o) - 1 from h.1 o o1 o2, ← o3]
    by_cases e1 : oK O o = 1
    · rw [if_pos (k2.mpr e1), if_pos e1]
    · rw [if_neg (fun z => e1 (k2.mp z)), F_X5_needDirectory_29, if_neg e1]; rfl
theorem C_needFile {p : Int32} (hi : m_im B T O) (h : c_O B 1 S T O) : F_X5_needFile B p S = some ((if d_k O p = 2 then .inl none else .inr E_I), S) := by
  unfold F_X5_needFile
  rw [C_isThere hi h, m_bn]
  by_cases e : d_k O p = 0
  · rw [if_pos e, if_pos rfl, F_X5_needFile_30, if_neg (by omega)]; rfl
  · obtain ⟨o, ho, o1, o2, o3⟩ := dk_some e
    obtain ⟨k1, k2, k3⟩ := kind_m1 (hi.2.1 o)
    subst ho
    rw [if_neg e, if_neg (by decide), m_gd (m_inb (by omega) (by omega)), m_lt, m_ix (by omega), show S.1 15 o = nI (oK O o) - 1 from h.1 o o1 o2, ← o3]
    by_cases e1 : oK O o = 2
    · rw [if_pos (k3.mpr e1), if_pos e1]
    · rw [if_neg (fun z => e1 (k3.mp z)), F_X5_needFile_30, if_neg e1]; rfl
theorem k_01 {k : Nat} (h : k ≤ 2) : (nI k ≤ 0 ↔ k = 0) ∧ (nI k = 1 ↔ k = 1) ∧ (nI k = 2 ↔ k = 2) := by
  obtain rfl | rfl | rfl : k = 0 ∨ k = 1 ∨ k = 2 := by omega
  all_goals decide
theorem K_isObject {p : Int32} (hi : m_im B T O) (h : k_O B (S.1 61) T O) : F_X6_isObject B p S = some (.inl (some (if d_k O p = 0 then 0 else 1)), S) := by
  unfold F_X6_isObject
  rw [K_isIn, m_bn]
  by_cases h1 : 1 ≤ p ∧ p ≤ 60
  · obtain ⟨o, ho, o1, o2⟩ := m_in (p := p) (lo := 1) (hi := 60) (by rw [← m_c1]; exact h1.1) (by rw [← m_c60]; exact h1.2) (by omega) (by omega)
    subst ho
    have e1 : (96 : Int32) + nI o = nI (96 + o) := by rw [m_c96, nI_add]
    obtain ⟨k1, k2, k3⟩ := k_01 (hi.2.1 o)
    rw [if_pos h1, if_neg (by decide), e1, m_gd (m_inb (by omega) (by omega)), m_lt, m_ix (by omega), h.1 o o1 o2, dk_nI o1 o2]
    by_cases e : oK O o = 0
    · rw [if_pos (k1.mpr e), F_X6_isObject_26, F_X6_isObject_27, m_gd (by decide), if_pos e]
    · rw [if_neg (fun z => e (k1.mp z)), F_X6_isObject_27, m_gd (by decide), if_neg e]
  · rw [if_neg h1, if_pos rfl, F_X6_isObject_26, F_X6_isObject_27, m_gd (by decide), if_pos (dk_out h1)]
theorem K_isDirectory {p : Int32} (hi : m_im B T O) (h : k_O B (S.1 61) T O) : F_X6_isDirectory B p S = some (.inl (some (if d_k O p = 1 then 1 else 0)), S) := by
  unfold F_X6_isDirectory
  rw [K_isObject hi h, m_bn]
  by_cases e : d_k O p = 0
  · rw [if_pos e, if_pos rfl, F_X6_isDirectory_25, F_X6_isDirectory_26, m_gd (by decide), if_neg (by omega)]
  · obtain ⟨o, ho, o1, o2, o3⟩ := dk_some e
    obtain ⟨k1, k2, k3⟩ := k_01 (hi.2.1 o)
    subst ho
    have e1 : (96 : Int32) + nI o = nI (96 + o) := by rw [m_c96, nI_add]
    rw [if_neg e, if_neg (by decide), e1, m_gd (m_inb (by omega) (by omega)), m_lt, m_ix (by omega), h.1 o o1 o2, ← o3]
    by_cases e1 : oK O o = 1
    · rw [if_pos (k2.mpr e1), F_X6_isDirectory_26, m_gd (by decide), if_pos e1]
    · rw [if_neg (fun z => e1 (k2.mp z)), F_X6_isDirectory_25, F_X6_isDirectory_26, m_gd (by decide), if_neg e1]
theorem K_isFile {p : Int32} (hi : m_im B T O) (h : k_O B (S.1 61) T O) : F_X6_isFile B p S = some (.inl (some (if d_k O p = 2 then 1 else 0)), S) := by
  unfold F_X6_isFile
  rw [K_isObject hi h, m_bn]
  by_cases e : d_k O p = 0
  · rw [if_pos e, if_pos rfl, F_X6_isFile_25, F_X6_isFile_26, m_gd (by decide), if_neg (by omega)]
  · obtain ⟨o, ho, o1, o2, o3⟩ := dk_some e
    obtain ⟨k1, k2, k3⟩ := k_01 (hi.2.1 o)
    subst ho
    have e1 : (96 : Int32) + nI o = nI (96 + o) := by rw [m_c96, nI_add]
    rw [if_neg e, if_neg (by decide), e1, m_gd (m_inb (by omega) (by omega)), m_lt, m_ix (by omega), h.1 o o1 o2, ← o3]
    by_cases e1 : oK O o = 2
    · rw [if_pos (k3.mpr e1), F_X6_isFile_26, m_gd (by decide), if_pos e1]
    · rw [if_neg (fun z => e1 (k3.mp z)), F_X6_isFile_25, F_X6_isFile_26, m_gd (by decide), if_neg e1]
theorem C_keyOf {o k n : Nat} : F_X5_keyOf B (nI o) (nI k) (nI n) S = some (.inl (some (nI ((o * 4 + k) * 1000 + n))), S) := by
  unfold F_X5_keyOf
  rw [m_c4, pk_mul, nI_add, m_c1000, pk_mul, nI_add]
theorem C_toldBy {o : Nat} {p : Int32} (hB : B ≤ 96) (hk : m_ok B T) (hi : m_im B T O) (hT : c_T B 2 S T) (o2 : o ≤ 60) : F_X5_toldBy B (nI o) p S = some (.inl (some (d_ea T o p)), S) := by
  unfold F_X5_toldBy d_ea
  by_cases h1 : p < 0
  · rw [if_pos h1, F_X5_toldBy_11, if_neg (fun e => Int32.not_lt.mpr e.1 h1)]
  · rw [if_neg h1]
    by_cases h2 : p < 1000
    · obtain ⟨n, hn, n1, n2⟩ := m_in (p := p) (lo := 0) (hi := 999) (by rw [← m_c0]; exact Int32.not_lt.mp h1) (by
        have := Int32.lt_iff_toInt_lt.mp h2
        refine Int32.le_iff_toInt_le.mpr ?_
        rw [nI_toInt (by omega)]
        have e9 : (1000 : Int32).toInt = 1000 := by decide
        omega) (by omega) (by omega)
      subst hn
      have hc := C_keyOf (B := B) (S := S) (o := o) (k := 1) (n := n)
      have hc' : F_X5_keyOf B (nI o) 1 (nI n) S = some (.inl (some (nI ((o * 4 + 1) * 1000 + n))), S) := hc
      rw [if_pos h2, hc', m_bn, if_pos ⟨Int32.not_lt.mp h1, h2⟩, nI_clamp (by omega)]
      by_cases hin : ∃ y ∈ flat T, y.1 = (o * 4 + 1) * 1000 + n
      · obtain ⟨e1, y, hy, hyk⟩ := C_slot hB hk hT (k := (o * 4 + 1) * 1000 + n) (by omega) hin
        have hl := (leaf_ok (k := (o * 4 + 1) * 1000 + n) hk).1
        obtain ⟨l2, l4, -, -, -⟩ := ok_row hk _ hl
        have hlt := (List.getElem?_eq_some_iff.mp hy).1
        obtain ⟨-, -, -, -, q11, qn⟩ := hT.2.2.2.1 _ l2 l4
        have ev := q11 _ (oI y.2.2) (by rw [List.getElem?_map, hy]; rfl)
        rw [e1, m_bn, if_neg (m_ne1 (by omega)), m_gd (m_inb (by omega) (by omega)), m_lt, m_ix (by omega), show S.1 13 _ = oI y.2.2 from ev, F_X5_toldBy_51, de_some hk (l_fm_mem.mpr ⟨_, hl, List.mem_of_getElem? hy⟩) hyk]
      · have hno : ∀ y ∈ flat T, y.1 ≠ (o * 4 + 1) * 1000 + n := fun y hy e => hin ⟨y, hy, e⟩
        rw [C_noslot hB hk hT (by omega) hno, m_bn, if_pos rfl, F_X5_toldBy_51, de_none hno]; rfl
    · rw [if_neg h2, F_X5_toldBy_11, if_neg (fun e => h2 e.2)]
/-- compare, find and leafOf at any numbers -/
theorem K_cmp_any {b i : Nat} {y : m_It} {v1 v2 v3 : Int32} (hB : B ≤ 96) (hT : k_T B 0 0 f T) (hb : b < B) (ub : tU T b = 2) (hi : (tI T b)[i]? = some y) : ∃ r, F_X6_compare B (nI b) (nI i) v1 v2 v3 (z_ua S 61 f) = some (.inl (some r), z_ua S 61 f) ∧ (r = 0 → nI (y.1 % 1000) = v3) := by
  obtain ⟨q1, q2, q3⟩ := hT.2.2.1 b hb ub
  have hil : i < (tI T b).length := (List.getElem?_eq_some_iff.mp hi).1
  have at' : ∀ a, a < 5 → f (4620 + 1536 * a + (16 * b + i)) = k_c a y := fun a ha => q2 a ha i _ (by rw [List.getElem?_map, hi]; rfl)
  have h1 : f (4620 + (16 * b + i)) = nI (y.1 / 4000) := at' 0 (by omega)
  have h2 : f (6156 + (16 * b + i)) = nI (y.1 / 1000 % 4) := at' 1 (by omega)
  have h3 : f (7692 + (16 * b + i)) = nI (y.1 % 1000) := at' 2 (by omega)
  have e : (16 : Int32) * nI b + nI i = nI (16 * b + i) := by rw [m_c16, pk_mul, nI_add]
  have e1 : (4620 : Int32) + nI (16 * b + i) = nI (4620 + (16 * b + i)) := by rw [m_c4620, nI_add]
  have e2 : (6156 : Int32) + nI (16 * b + i) = nI (6156 + (16 * b + i)) := by rw [m_c6156, nI_add]
  have e3 : (7692 : Int32) + nI (16 * b + i) = nI (7692 + (16 * b + i)) := by rw [m_c7692, nI_add]
  unfold F_X6_compare
  rw [e, e1, m_gd (m_inb (by omega) (by omega)), m_lt, m_ix (i := 4620 + (16 * b + i)) (by omega), z_ua_at, h1]
  by_cases c1 : nI (y.1 / 4000) = v1
  · rw [if_pos c1, e2, m_gd (m_inb (by omega) (by omega)), m_lt, m_ix (i := 6156 + (16 * b + i)) (by omega), h2]
    by_cases c2 : nI (y.1 / 1000 % 4) = v2
    · rw [if_pos c2, e3, m_gd (m_inb (by omega) (by omega)), m_lt, m_ix (i := 7692 + (16 * b + i)) (by omega), h3, F_X6_compare_86]
      exact ⟨_, rfl, fun z => i32_sub0.mp z⟩
    · rw [if_neg c2, m_gd (m_inb (by omega) (by omega)), m_lt, F_X6_compare_86]
      exact ⟨_, rfl, fun z => absurd (i32_sub0.mp z) c2⟩
  · rw [if_neg c1, m_gd (m_inb (by omega) (by omega)), m_lt, F_X6_compare_86]
    exact ⟨_, rfl, fun z => absurd (i32_sub0.mp z) c1⟩
theorem K_leafOf_any {v1 v2 v3 : Int32} (hB : B ≤ 96) (h : m_ok B T) (hT : k_T B 0 0 f T) : ∀ (L pre : List Nat) (n c : Nat), tR T 0 = pre ++ L → L.length < n → c ∈ tR T 0 → ∃ l, l ∈ tR T 0 ∧ F_X6_leafOf_13 B n v1 v2 v3 (nI c) (nI pre.length) (z_ua S 61 f) = some (.inl (some (nI l)), z_ua S 61 f)
  | [], pre, n, c, hR, hn, hc => by
    obtain ⟨n, rfl⟩ : ∃ j, n = j + 1 := ⟨n - 1, by omega⟩
    obtain ⟨r1, r2, r3⟩ := hT.2.2.2.2.2.1 0 (by omega)
    have r1' : f 13068 = nI pre.length := by rw [List.append_nil] at hR; rw [← hR]; exact r1
    have hl : pre.length ≤ 96 := by rw [List.append_nil] at hR; rw [← hR]; exact r3
    exact ⟨c, hc, by rw [F_X6_leafOf_13, m_gd (by decide), m_lt, show z_ix (13068 : Int32) = 13068 from m_ix (i := 13068) (by omega), z_ua_at, r1', if_pos (nI_le (Nat.le_refl _) (by omega))]⟩
  | b :: L, pre, n, c, hR, hn, hc => by
    obtain ⟨n, rfl⟩ : ∃ j, n = j + 1 := ⟨n - 1, by omega⟩
    rw [List.length_cons] at hn
    have hbm : b ∈ tR T 0 := by rw [hR]; simp
    obtain ⟨b1, b2, b3, b4, b5⟩ := ok_row h b hbm
    obtain ⟨r1, r2, r3⟩ := hT.2.2.2.2.2.1 0 (by omega)
    have hbi : (tR T 0)[pre.length]? = some b := by rw [hR]; simp
    have hil : pre.length < (tR T 0).length := (List.getElem?_eq_some_iff.mp hbi).1
    have eb : f (12300 + pre.length) = nI b := by
      have := r2 pre.length (nI b) (by rw [List.getElem?_map, hbi]; rfl)
      simpa using this
    have r1' : f 13068 = nI (tR T 0).length := r1
    have ec : f (3852 + b) = nI (tI T b).length := K_cntL hT b1 b2
    have ln : (tI T b).length ≤ 16 := (hT.2.2.1 b b1 b2).2.2
    obtain ⟨y, M, hI⟩ : ∃ y M, tI T b = y :: M := by
      cases hc : tI T b with
      | nil => exact absurd hc b4
      | cons y L => exact ⟨y, L, rfl⟩
    have hpos : 1 ≤ (tI T b).length := by rw [hI]; simp
    obtain ⟨r, c1, -⟩ := K_cmp_any (S := S) (i := 0) (y := y) (v1 := v1) (v2 := v2) (v3 := v3) hB hT b1 b2 (by rw [hI]; rfl)
    have c1' : F_X6_compare B (nI b) 0 v1 v2 v3 (z_ua S 61 f) = some (.inl (some r), z_ua S 61 f) := c1
    have e1 : (12300 : Int32) + nI pre.length = nI (12300 + pre.length) := by rw [m_c12300, nI_add]
    have e2 : (3852 : Int32) + nI b = nI (3852 + b) := by rw [m_c3852, nI_add]
    have g0 : ¬ nI (tI T b).length ≤ 0 := by rw [m_c0]; exact nI_ge (by omega) (by omega)
    have ih := fun c hc => K_leafOf_any (v1 := v1) (v2 := v2) (v3 := v3) hB h hT L (pre ++ [b]) n c (by rw [hR]; simp) (by omega) hc
    rw [List.length_append, List.length_singleton] at ih
    rw [F_X6_leafOf_13, m_gd (by decide), m_lt, show z_ix (13068 : Int32) = 13068 from m_ix (i := 13068) (by omega), z_ua_at, r1', if_neg (nI_ge (by omega) (by omega)), e1, m_gd (m_inb (by omega) (by omega)), m_lt, m_ix (i := 12300 + pre.length) (by omega), eb, e2, m_gd (m_inb (by omega) (by omega)), m_lt, m_ix (i := 3852 + b) (by omega), ec, if_neg g0, c1', m_bn]
    by_cases hr : 0 < r
    · rw [if_pos hr, F_X6_leafOf_71, F_X6_leafOf_73, nI_1]
      exact ih c hc
    · rw [if_neg hr, F_X6_leafOf_73, nI_1]
      exact ih b hbm
theorem K_find_any {l : Nat} {v1 v2 v3 : Int32} (hB : B ≤ 96) (hT : k_T B 0 0 f T) (hl : l < B) (ul : tU T l = 2) (hb : ∀ z ∈ tI T l, nI (z.1 % 1000) ≠ v3) : ∀ (m n i : Nat), i + m = (tI T l).length → m < n → F_X6_find_12 B n v1 v2 v3 (nI l) (nI i) (z_ua S 61 f) = some (.inl (some (-1)), z_ua S 61 f)
  | m, n, i, hi, hm => by
    obtain ⟨n, rfl⟩ : ∃ j, n = j + 1 := ⟨n - 1, by omega⟩
    have ln : (tI T l).length ≤ 16 := (hT.2.2.1 l hl ul).2.2
    have e2 : (3852 : Int32) + nI l = nI (3852 + l) := by rw [m_c3852, nI_add]
    rw [F_X6_find_12, e2, m_gd (m_inb (by omega) (by omega)), m_lt, m_ix (i := 3852 + l) (by omega), z_ua_at, K_cntL hT hl ul]
    cases m with
    | zero => rw [if_pos (nI_le (by omega) (by omega))]
    | succ m =>
      have hil : i < (tI T l).length := by omega
      have hz := hb _ (List.getElem_mem hil)
      obtain ⟨r, c1, c2⟩ := K_cmp_any (S := S) (i := i) (v1 := v1) (v2 := v2) (v3 := v3) hB hT hl ul (y := (tI T l)[i]) (List.getElem?_eq_getElem hil)
      rw [if_neg (nI_ge (by omega) (by omega)), c1, m_bn, if_neg (fun z => hz (c2 z)), nI_1]
      exact K_find_any hB hT hl ul hb m n (i + 1) (by omega) (by omega)
theorem K_entry {o : Nat} {p : Int32} (hB : B ≤ 96) (hk : m_ok B T) (hi : m_im B T O) (hT : k_T B 0 0 f T) (o2 : o ≤ 60) : F_X6_entry B (nI o) p (z_ua S 61 f) = some (.inl (some (d_ea T o p)), z_ua S 61 f) := by
  unfold F_X6_entry d_ea
  by_cases h0 : 0 ≤ p ∧ p < 1000
  · obtain ⟨n, hn, n1, n2⟩ := m_in (p := p) (lo := 0) (hi := 999) (by rw [← m_c0]; exact h0.1) (by
        have := Int32.lt_iff_toInt_lt.mp h0.2
        refine Int32.le_iff_toInt_le.mpr ?_
        rw [nI_toInt (by omega)]
        have e9 : (1000 : Int32).toInt = 1000 := by decide
        omega) (by omega) (by omega)
    subst hn
    rw [if_pos h0, nI_clamp (by omega)]
    have d1 : ((o * 4 + 1) * 1000 + n) / 4000 = o := by omega
    have d2 : ((o * 4 + 1) * 1000 + n) / 1000 % 4 = 1 := by omega
    have d3 : ((o * 4 + 1) * 1000 + n) % 1000 = n := by omega
    obtain ⟨w1, w2⟩ := K_findT (S := S) (k := (o * 4 + 1) * 1000 + n) hB hk hT (by omega)
    have w3 := K_leafOf (S := S) (k := (o * 4 + 1) * 1000 + n) hB hk hT (by omega)
    rw [d1, d2, d3] at w1 w2 w3
    have w1' : (∃ y ∈ flat T, y.1 = (o * 4 + 1) * 1000 + n) → F_X6_find B (nI o) 1 (nI n) (z_ua S 61 f) = some (.inl (some (nI (m_bef (tI T (a_leaf T ((o * 4 + 1) * 1000 + n))) ((o * 4 + 1) * 1000 + n)))), z_ua S 61 f) := w1
    have w2' : (∀ y ∈ flat T, y.1 ≠ (o * 4 + 1) * 1000 + n) → F_X6_find B (nI o) 1 (nI n) (z_ua S 61 f) = some (.inl (some (-1)), z_ua S 61 f) := w2
    have w3' : F_X6_leafOf B (nI o) 1 (nI n) (z_ua S 61 f) = some (.inl (some (nI (a_leaf T ((o * 4 + 1) * 1000 + n)))), z_ua S 61 f) := w3
    by_cases hin : ∃ y ∈ flat T, y.1 = (o * 4 + 1) * 1000 + n
    · obtain ⟨hl, -, FA, FC, hF, hU, hA, hC, hso, hin'⟩ := leaf_ok (k := (o * 4 + 1) * 1000 + n) hk
      obtain ⟨y, hy, hyk⟩ := bef_at hso (hin' hin)
      obtain ⟨l2, l4, -, -, -⟩ := ok_row hk _ hl
      have hlt := (List.getElem?_eq_some_iff.mp hy).1
      obtain ⟨q1, q2, q3⟩ := hT.2.2.1 _ l2 l4
      have hym := l_fm_mem.mpr ⟨_, hl, List.mem_of_getElem? hy⟩
      have hit := hi.2.2.2.2.1 y hym
      obtain ⟨-, -, t, ht, t1, t2, -⟩ := hit.2.2.2.1 (by rw [hyk]; exact d2)
      have ev : f (10764 + 16 * a_leaf T ((o * 4 + 1) * 1000 + n) + m_bef (tI T (a_leaf T ((o * 4 + 1) * 1000 + n))) ((o * 4 + 1) * 1000 + n)) = nI t := by
        have := q2 4 (by omega) _ (k_c 4 y) (by rw [List.getElem?_map, hy]; rfl)
        have e9 : k_c 4 y = nI t := by show nI (y.2.2.getD 0) = nI t; rw [ht]; rfl
        rw [e9] at this
        rw [← this]
        show f _ = f _
        congr 1
        omega
      have e5 : (10764 : Int32) + 16 * nI (a_leaf T ((o * 4 + 1) * 1000 + n)) + nI (m_bef (tI T (a_leaf T ((o * 4 + 1) * 1000 + n))) ((o * 4 + 1) * 1000 + n)) = nI (10764 + 16 * a_leaf T ((o * 4 + 1) * 1000 + n) + m_bef (tI T (a_leaf T ((o * 4 + 1) * 1000 + n))) ((o * 4 + 1) * 1000 + n)) := by rw [m_c10764, m_c16, pk_mul, nI_add, nI_add]
      have g0 : (0 : Int32) ≤ nI (m_bef (tI T (a_leaf T ((o * 4 + 1) * 1000 + n))) ((o * 4 + 1) * 1000 + n)) := m_ge0 (by omega)
      rw [w1' hin, m_bn, if_pos g0, w3', m_bn, e5, m_gd (m_inb (by omega) (by omega)), m_lt, m_ix (by omega), z_ua_at, ev, F_X6_entry_37, de_some hk hym hyk, ht]; rfl
    · have hno : ∀ y ∈ flat T, y.1 ≠ (o * 4 + 1) * 1000 + n := fun y hy e => hin ⟨y, hy, e⟩
      rw [w2' hno, m_bn, if_neg (by decide), F_X6_entry_37, de_none hno]; rfl
  · rw [if_neg h0]
    obtain ⟨l0, L, hR, hL, -⟩ := ok_leaf (k := 0) hk
    obtain ⟨r1, r2, r3⟩ := hT.2.2.2.2.2.1 0 (by omega)
    have e0 : f 12300 = nI l0 := by
      have := r2 0 (nI l0) (by rw [hR]; rfl)
      simpa using this
    have hlen := sk_len hk.1 (h := 0)
    obtain ⟨l, hl, a1⟩ := K_leafOf_any (S := S) (v1 := nI o) (v2 := 1) (v3 := p) hB hk hT (tR T 0) [] z_n l0 rfl (by unfold z_n; omega) (by rw [hR]; simp)
    have a1' : F_X6_leafOf_13 B z_n (nI o) 1 p (nI l0) 0 (z_ua S 61 f) = some (.inl (some (nI l)), z_ua S 61 f) := a1
    obtain ⟨l2, l4, -, -, -⟩ := ok_row hk _ hl
    have ln : (tI T l).length ≤ 16 := (hT.2.2.1 l l2 l4).2.2
    have a2 := K_find_any (S := S) (v1 := nI o) (v2 := 1) (v3 := p) hB hT l2 l4 (fun z hz e => h0 (by
      rw [← e, m_c0, m_c1000]
      exact ⟨nI_le (by omega) (by omega), nI_lt (by omega) (by omega)⟩)) (tI T l).length z_n 0 (by omega) (by unfold z_n; omega)
    have a2' : F_X6_find_12 B z_n (nI o) 1 p (nI l) 0 (z_ua S 61 f) = some (.inl (some (-1)), z_ua S 61 f) := a2
    unfold F_X6_find F_X6_leafOf
    rw [m_gd (by decide), m_lt, show z_ix (12300 : Int32) = 12300 from m_ix (i := 12300) (by omega), z_ua_at, e0, a1', m_bn, a2', m_bn, if_neg (by decide), F_X6_entry_37]
theorem K_isName {p : Int32} : F_X6_isName B p S = some (.inl (some (if 0 ≤ p ∧ p ≤ 999 then 1 else 0)), S) := by
  unfold F_X6_isName
  rw [K_isIn, m_bn]
  split <;> rw [m_gd (by decide)]
theorem nm_lt {p : Int32} : p < 1000 ↔ p ≤ 999 := by
  rw [Int32.lt_iff_toInt_lt, Int32.le_iff_toInt_le]
  have e1 : (1000 : Int32).toInt = 1000 := by decide
  have e2 : (999 : Int32).toInt = 999 := by decide
  omega
/-- look -/
def A_look (A : m_A) (p1 p2 : Int32) : Nat × Int32 := if A.2.2.1 = 0 then (if d_k A.1.2 p1 = 1 then (0, d_ea A.1.1 p1.toNatClampNeg p2) else (2, 0)) else (1, 0)
theorem G_look_c {p1 p2 : Int32} (h : CI B J S A) (hA : AI B J A) : F_X5_look B p1 p2 S = some (r_o [E_U, E_I] (A_look A p1 p2).1 (A_look A p1 p2).2, S) := by
  unfold F_X5_look A_look
  rw [C_needPower h hA]
  by_cases e : A.2.2.1 = 0
  · rw [if_pos e, if_pos e, m_bv, C_needDirectory hA.2.1.2 h.2.1.2]
    by_cases e1 : d_k A.1.2 p1 = 1
    · obtain ⟨o, ho, o1, o2, o3⟩ := dk_some (O := A.1.2) (p := p1) (by omega)
      rw [if_pos e1, if_pos e1, m_bv]
      subst ho
      rw [C_toldBy hA.1.2.1 hA.2.1.1 hA.2.1.2 h.2.1.1 o2, m_bn, nI_clamp (by omega)]; rfl
    · rw [if_neg e1, if_neg e1, m_bvx]; rfl
  · rw [if_neg e, if_neg e, m_bvx]; rfl
theorem G_look_k {p1 p2 : Int32} (h : KI B J S A) (hA : AI B J A) : ∃ v S2, F_X6_look B p1 p2 S = some (.inl (some v), S2) ∧ KI B J S2 A ∧ z_kf S S2 ∧ S2.2.1 60 0 = nI (A_look A p1 p2).1 ∧ ((A_look A p1 p2).1 = 0 → v = (A_look A p1 p2).2) := by
  unfold F_X6_look A_look
  rw [h.2.2.2.1]
  by_cases e : A.2.2.1 = 0
  · rw [if_pos e, if_pos e, K_isDirectory hA.2.1.2 h.2.1.2, m_bn]
    by_cases e1 : d_k A.1.2 p1 = 1
    · obtain ⟨o, ho, o1, o2, o3⟩ := dk_some (O := A.1.2) (p := p1) (by omega)
      rw [if_pos e1, if_pos e1, if_neg (by decide), F_X6_look_25, m_lt, z_thr, if_pos (by decide), K_isName, m_bn]
      refine ⟨_, z_ui S 60 0 0, ?_, KI_thr h, z_kf_ui (by decide), z_thr, fun _ => rfl⟩
      by_cases e2 : 0 ≤ p2 ∧ p2 ≤ 999
      · subst ho
        have hE := K_entry (S := z_ui S 60 0 0) (f := S.1 61) (o := o) (p := p2) hA.1.2.1 hA.2.1.1 hA.2.1.2 h.2.1.1 o2
        have hs : z_ua (z_ui S 60 0 0) 61 (S.1 61) = z_ui S 60 0 0 := z_ua_same (S := z_ui S 60 0 0)
        rw [hs] at hE
        rw [if_pos e2, if_neg (by decide), hE, m_bn, F_X6_look_57, nI_clamp (by omega)]
      · rw [if_neg e2, if_pos rfl, F_X6_look_57, d_ea, if_neg (fun z => e2 ⟨z.1, nm_lt.mp z.2⟩)]
    · rw [if_neg e1, if_neg e1, if_pos rfl, F_X6_look_25, m_lt, z_thr, if_neg (by decide), F_X6_look_57]
      exact ⟨_, _, rfl, KI_thr h, z_kf_ui (by decide), z_thr, fun z => by cases z⟩
  · rw [if_neg e, if_neg e, F_X6_look_25, m_lt, z_thr, if_neg (by decide), F_X6_look_57]
    exact ⟨_, _, rfl, KI_thr h, z_kf_ui (by decide), z_thr, fun z => by cases z⟩
end CL2
