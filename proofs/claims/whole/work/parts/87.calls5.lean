/-! item and name: class and reference answer alike. -/
section CL5
variable {B J : Nat} {S S' : z_S} {A : m_A} {T : m_T} {O : m_O} {f : Nat → Int32}
theorem hd_nx {L pre : List Nat} {l : Nat} (hd : (pre ++ l :: L).Nodup) : m_nx (pre ++ l :: L) l = L.head? := nx_app hd
theorem C_slotFrom_loop (hB : B ≤ 96) (h : m_ok B T) (hT : c_T B 2 S T) : ∀ (L pre : List Nat) (n i k : Nat), tR T 0 = pre ++ L → L.length < n → i + L.length < B → k < 2 ^ 31 → F_X4_slotFrom_14 B 2 n (nI k) (oI L.head?) (nI i) S = some (.inl (some (d_is (d_i T L k))), S)
  | [], pre, n, i, k, hR, hn, hi, hk => by
    obtain ⟨n, rfl⟩ : ∃ j, n = j + 1 := ⟨n - 1, by omega⟩
    rw [List.length_nil] at hi
    rw [F_X4_slotFrom_14, hT.1, if_neg (nI_ge (by omega) (by omega)), if_pos (show oI ([] : List Nat).head? = -1 from rfl), F_X4_slotFrom_73]; rfl
  | l :: L, pre, n, i, k, hR, hn, hi, hk => by
    obtain ⟨n, rfl⟩ : ∃ j, n = j + 1 := ⟨n - 1, by omega⟩
    rw [List.length_cons] at hn hi
    have hlm : l ∈ tR T 0 := by rw [hR]; simp
    obtain ⟨l2, l4, l3, -, -⟩ := ok_row h l hlm
    have e3 : S.1 5 l = nI (tI T l).length := (hT.2.2.2.1 l l2 l4).1
    have ln : (tI T l).length ≤ 14 := (hT.2.2.2.1 l l2 l4).2.2.2.2.2
    have e7 : S.1 9 l = oI L.head? := by
      have := (hT.2.2.2.2.2 l l2 (Or.inl l4)).2.2.2
      have hnd := h.1.2.2.2.2.2.1 0
      rw [hR] at hnd
      rw [l3, hR, nx_app hnd] at this
      exact this
    rw [F_X4_slotFrom_14, hT.1, if_neg (nI_ge (by omega) (by omega)), show oI (l :: L).head? = nI l from rfl, if_neg (m_ne1 (by omega)), m_gd (m_inb l2 (by omega)), m_lt, m_ix (by omega), show S.1 (2 + 3) l = nI (tI T l).length from e3, d_i]
    by_cases hc : k < (tI T l).length
    · rw [if_neg (nI_ge hc (by omega)), if_pos hc, m_c14, pk_mul, nI_add]; rfl
    · rw [if_pos (nI_le (by omega) hk), if_neg hc, m_gd (m_inb l2 (by omega)), m_lt, m_gd (m_inb l2 (by omega)), m_lt, show S.1 (2 + 7) l = oI L.head? from e7, pk_sub (by omega), nI_1]
      exact C_slotFrom_loop hB h hT L (pre ++ [l]) n (i + 1) (k - (tI T l).length) (by rw [hR]; simp) (by omega) (by omega) (by omega)
theorem C_slotFrom {l k : Nat} {L pre : List Nat} (hB : B ≤ 96) (h : m_ok B T) (hT : c_T B 2 S T) (hR : tR T 0 = pre ++ l :: L) (hk : k < 2 ^ 31) : F_X4_slotFrom B 2 (nI l) (nI k) S = some (.inl (some (d_is (d_i T (l :: L) k))), S) := by
  have hlen := sk_len h.1 (h := 0)
  rw [hR, List.length_append] at hlen
  unfold F_X4_slotFrom
  rw [if_pos (m_ge0 hk)]
  exact C_slotFrom_loop hB h hT (l :: L) pre z_n 0 k hR (by unfold z_n; omega) (by omega) hk
theorem r1000 {z : Nat} (h : z < 2 ^ 31) : nI z - nI z / 1000 * 1000 = nI (z % 1000) := by rw [m_c1000]; exact pk_rem h (by omega) (by omega)
theorem C_objectOf {k : Nat} (h : k < 2 ^ 31) : F_X5_objectOf B (nI k) S = some (.inl (some (nI (k / 4000))), S) := by
  unfold F_X5_objectOf
  rw [m_c1000, pk_div h (by omega) (by omega), m_c4, pk_div (by omega) (by omega) (by omega), Nat.div_div_eq_div_mul]
theorem C_kindOf {k : Nat} (h : k < 2 ^ 31) : F_X5_kindOf B (nI k) S = some (.inl (some (nI (k / 1000 % 4))), S) := by
  unfold F_X5_kindOf
  rw [m_c1000, pk_div h (by omega) (by omega), m_c4, pk_rem (by omega) (by omega) (by omega)]
theorem C_nameOf {k : Nat} (h : k < 2 ^ 31) : F_X5_nameOf B (nI k) S = some (.inl (some (nI (k % 1000))), S) := by
  unfold F_X5_nameOf
  rw [r1000 h]
/-- what is told of an item -/
def d_y (b : Nat) (y : m_It) (p : Int32) : Int32 := if p = 0 then nI (y.1 / 4000) else if p = 1 then nI (y.1 / 1000 % 4) else if p = 2 then nI (y.1 % 1000) else if p = 3 then nI y.2.1 else nI b
def d_it (T : m_T) (p1 : Int32) : Option (Nat × Nat) := if 0 ≤ p1 then d_i T (tR T 0) p1.toNatClampNeg else none
def A_item (A : m_A) (p1 p2 : Int32) : Nat × Int32 := if A.2.2.1 = 0 then (match d_it A.1.1 p1 with
    | none => (2, 0)
    | some (b, j) => if 0 ≤ p2 ∧ p2 ≤ 4 then (0, d_y b ((tI A.1.1 b).getD j (0, 0, none)) p2) else (3, 0)) else (1, 0)
theorem i32_four {p : Int32} (h : 0 ≤ p ∧ p ≤ 4) : p = 0 ∨ p = 1 ∨ p = 2 ∨ p = 3 ∨ p = 4 := by
  obtain ⟨k, hk, -, hlt⟩ := m_in (p := p) (lo := 0) (hi := 4) (by rw [← m_c0]; exact h.1) (by rw [← m_c4]; exact h.2) (by omega) (by omega)
  subst hk
  obtain rfl | rfl | rfl | rfl | rfl : k = 0 ∨ k = 1 ∨ k = 2 ∨ k = 3 ∨ k = 4 := by omega
  all_goals simp [nI]
theorem G_item_c {p1 p2 : Int32} (h : CI B J S A) (hA : AI B J A) : F_X5_item B p1 p2 S = some (r_o [E_U, E_I, E_A] (A_item A p1 p2).1 (A_item A p1 p2).2, S) := by
  have hok := hA.2.1.1
  have hB := hA.1.2.1
  have hT := h.2.1.1
  unfold F_X5_item A_item
  rw [C_needPower h hA]
  by_cases e : A.2.2.1 = 0
  · obtain ⟨l0, L, hR, hL, -⟩ := ok_leaf (k := 0) hok
    have eL : F_X4_leftmost B 2 0 S = some (.inl (some (nI l0)), S) := C_leftmost (h0 := 0) (x := l0) hB hT (sk_lm hok.1) (Nat.zero_le _) (by rw [hR]; rfl)
    rw [if_pos e, if_pos e, m_bv, eL, m_bn]
    by_cases h1 : 0 ≤ p1
    · obtain ⟨k, hk, hk2⟩ := i32_nn h1
      subst hk
      have hdi : d_it A.1.1 (nI k) = d_i A.1.1 (l0 :: L) k := by unfold d_it; rw [if_pos h1, nI_clamp hk2, hR]
      rw [C_slotFrom (pre := []) hB hok hT hR hk2, m_bn, hdi]
      cases hd : d_i A.1.1 (l0 :: L) k with
      | none => rw [if_pos (show d_is none = -1 from rfl)]; rfl
      | some q =>
        obtain ⟨b, j⟩ := q
        obtain ⟨bm, y, hy, -⟩ := di_some hd
        rw [← hR] at bm
        obtain ⟨b2, b4, -, -, -⟩ := ok_row hok b bm
        obtain ⟨q3, q4, q9, q10, q11, qn⟩ := hT.2.2.2.1 b b2 b4
        have hjl := (List.getElem?_eq_some_iff.mp hy).1
        have hky := ok_keys hok b bm y (List.mem_of_getElem? hy)
        have v9 : S.1 11 (b * 14 + j) = nI y.1 := q9 j _ (by rw [List.getElem?_map, hy]; rfl)
        have v10 : S.1 12 (b * 14 + j) = nI y.2.1 := q10 j _ (by rw [List.getElem?_map, hy]; rfl)
        have hyd : (tI A.1.1 b).getD j (0, 0, none) = y := by rw [List.getD_eq_getElem?_getD, hy]; rfl
        rw [show d_is (some (b, j)) = nI (b * 14 + j) from rfl, if_neg (m_ne1 (by omega))]
        simp only [hyd]
        have iz : z_inb (nI (b * 14 + j)) (14 * B) = true := m_inb (by omega) (by omega)
        have xz : z_ix (nI (b * 14 + j)) = b * 14 + j := m_ix (by omega)
        by_cases e3 : 0 ≤ p2 ∧ p2 ≤ 4
        · rw [if_pos e3]
          obtain rfl | rfl | rfl | rfl | rfl := i32_four e3
          · rw [if_pos rfl, m_gd iz, m_lt, xz, v9, C_objectOf hky, m_bn]; rfl
          · rw [if_neg (by decide), if_pos rfl, m_gd iz, m_lt, xz, v9, C_kindOf hky, m_bn]; rfl
          · rw [if_neg (by decide), if_neg (by decide), if_pos rfl, m_gd iz, m_lt, xz, v9, C_nameOf hky, m_bn]; rfl
          · rw [if_neg (by decide), if_neg (by decide), if_neg (by decide), if_pos rfl, m_gd iz, m_lt, xz, v10]; rfl
          · have ed : nI (b * 14 + j) / 14 = nI b := by
              rw [m_c14, pk_div (by omega) (by omega) (by omega)]
              congr 1
              omega
            rw [if_neg (by decide), if_neg (by decide), if_neg (by decide), if_neg (by decide), if_pos rfl, ed]; rfl
        · have n0 : p2 ≠ 0 := fun z => e3 (by rw [z]; decide)
          have n1 : p2 ≠ 1 := fun z => e3 (by rw [z]; decide)
          have n2 : p2 ≠ 2 := fun z => e3 (by rw [z]; decide)
          have n3 : p2 ≠ 3 := fun z => e3 (by rw [z]; decide)
          have n4 : p2 ≠ 4 := fun z => e3 (by rw [z]; decide)
          rw [if_neg e3, if_neg n0, if_neg n1, if_neg n2, if_neg n3, if_neg n4]; rfl
    · have hdi : d_it A.1.1 p1 = none := by unfold d_it; rw [if_neg h1]
      unfold F_X4_slotFrom
      rw [if_neg h1, m_bn, if_pos rfl, hdi]; rfl
  · rw [if_neg e, if_neg e, m_bvx]; rfl
theorem K_items_loop (hB : B ≤ 96) (h : m_ok B T) (hT : k_T B 0 0 (S.1 61) T) : ∀ (L pre : List Nat) (n u : Nat), tR T 0 = pre ++ L → L.length < n → F_X6_items_4 B n (nI u) (nI pre.length) S = some (.inl (some (nI (u + (L.flatMap (tI T)).length))), S)
  | [], pre, n, u, hR, hn => by
    obtain ⟨n, rfl⟩ : ∃ j, n = j + 1 := ⟨n - 1, by omega⟩
    obtain ⟨r1, r2, r3⟩ := hT.2.2.2.2.2.1 0 (by omega)
    rw [List.append_nil] at hR
    have r1' : S.1 61 13068 = nI pre.length := by rw [← hR]; exact r1
    have hl : pre.length ≤ 96 := by rw [← hR]; exact r3
    rw [F_X6_items_4, m_gd (by decide), m_lt, show z_ix (13068 : Int32) = 13068 from m_ix (i := 13068) (by omega), r1', if_pos (nI_le (Nat.le_refl _) (by omega))]; rfl
  | b :: L, pre, n, u, hR, hn => by
    obtain ⟨n, rfl⟩ : ∃ j, n = j + 1 := ⟨n - 1, by omega⟩
    rw [List.length_cons] at hn
    have hbm : b ∈ tR T 0 := by rw [hR]; simp
    obtain ⟨b1, b2, b3, b4, b5⟩ := ok_row h b hbm
    obtain ⟨r1, r2, r3⟩ := hT.2.2.2.2.2.1 0 (by omega)
    have hbi : (tR T 0)[pre.length]? = some b := by rw [hR]; simp
    have hil : pre.length < (tR T 0).length := (List.getElem?_eq_some_iff.mp hbi).1
    have eb : S.1 61 (12300 + pre.length) = nI b := by
      have := r2 pre.length (nI b) (by rw [List.getElem?_map, hbi]; rfl)
      simpa using this
    have r1' : S.1 61 13068 = nI (tR T 0).length := r1
    have ec : S.1 61 (3852 + b) = nI (tI T b).length := K_cntL hT b1 b2
    have e1 : (12300 : Int32) + nI pre.length = nI (12300 + pre.length) := by rw [m_c12300, nI_add]
    have e2 : (3852 : Int32) + nI b = nI (3852 + b) := by rw [m_c3852, nI_add]
    have ih := K_items_loop hB h hT L (pre ++ [b]) n (u + (tI T b).length) (by rw [hR]; simp) (by omega)
    rw [List.length_append, List.length_singleton] at ih
    rw [F_X6_items_4, m_gd (by decide), m_lt, show z_ix (13068 : Int32) = 13068 from m_ix (i := 13068) (by omega), r1', if_neg (nI_ge (by omega) (by omega)), e1, m_gd (m_inb (by omega) (by omega)), m_lt, m_ix (i := 12300 + pre.length) (by omega), eb, e2, m_gd (m_inb (by omega) (by omega)), m_lt, m_ix (i := 3852 + b) (by omega), ec, nI_add, nI_1, ih, List.flatMap_cons, List.length_append, Nat.add_assoc]
theorem K_items (hB : B ≤ 96) (h : m_ok B T) (hT : k_T B 0 0 (S.1 61) T) : F_X6_items B S = some (.inl (some (nI (flat T).length)), S) := by
  have hlen := sk_len h.1 (h := 0)
  have := K_items_loop hB h hT (tR T 0) [] z_n 0 rfl (by unfold z_n; omega)
  rw [Nat.zero_add] at this
  exact this
theorem flat_few (h : m_ok B T) (hB : B ≤ 96) : (flat T).length ≤ 1400 := by
  have key : ∀ L : List Nat, (∀ b ∈ L, b ∈ tR T 0) → (L.flatMap (tI T)).length ≤ 14 * L.length := by
    intro L
    induction L with
    | nil => intro _; simp
    | cons a L ih =>
      intro hm
      have h1 := ih (fun b hb => hm b (List.mem_cons_of_mem _ hb))
      have ha := hm a List.mem_cons_self
      have h2 := m_cost_few (fl_ig h.2.2.1 ha)
      have h3 := (h.2.1 a ha).2
      rw [List.flatMap_cons, List.length_append, List.length_cons]
      omega
  have h1 := key (tR T 0) (fun _ hb => hb)
  have h2 := sk_len h.1 (h := 0)
  unfold flat
  omega
theorem K_item_loop {p : Int32} (hB : B ≤ 96) (h : m_ok B T) (hT : k_T B 0 0 (S.1 61) T) (hp : 0 ≤ p ∧ p ≤ 4) : ∀ (L pre : List Nat) (n k b j : Nat), tR T 0 = pre ++ L → L.length < n → k < 2 ^ 31 → d_i T L k = some (b, j) → F_X6_item_61 B n p (nI pre.length) (nI k) S = some (.inl (some (d_y b ((tI T b).getD j (0, 0, none)) p)), S)
  | [], pre, n, k, b, j, hR, hn, hk, hd => by cases hd
  | l :: L, pre, n, k, b, j, hR, hn, hk, hd => by
    obtain ⟨n, rfl⟩ : ∃ j, n = j + 1 := ⟨n - 1, by omega⟩
    rw [List.length_cons] at hn
    have hbm : l ∈ tR T 0 := by rw [hR]; simp
    obtain ⟨b1, b2, b3, b4, b5⟩ := ok_row h l hbm
    obtain ⟨r1, r2, r3⟩ := hT.2.2.2.2.2.1 0 (by omega)
    have hbi : (tR T 0)[pre.length]? = some l := by rw [hR]; simp
    have hil : pre.length < (tR T 0).length := (List.getElem?_eq_some_iff.mp hbi).1
    have eb : S.1 61 (12300 + pre.length) = nI l := by
      have := r2 pre.length (nI l) (by rw [List.getElem?_map, hbi]; rfl)
      simpa using this
    have ec : S.1 61 (3852 + l) = nI (tI T l).length := K_cntL hT b1 b2
    have ln : (tI T l).length ≤ 16 := (hT.2.2.1 l b1 b2).2.2
    have e1 : (12300 : Int32) + nI pre.length = nI (12300 + pre.length) := by rw [m_c12300, nI_add]
    have e2 : (3852 : Int32) + nI l = nI (3852 + l) := by rw [m_c3852, nI_add]
    rw [d_i] at hd
    rw [F_X6_item_61, e1, m_gd (m_inb (by omega) (by omega)), m_lt, m_ix (i := 12300 + pre.length) (by omega), eb, e2, m_gd (m_inb (by omega) (by omega)), m_lt, m_ix (i := 3852 + l) (by omega), ec]
    by_cases hc : k < (tI T l).length
    · rw [if_pos hc] at hd
      have h1 : l = b := congrArg Prod.fst (Option.some.inj hd)
      have h2 : k = j := congrArg Prod.snd (Option.some.inj hd)
      subst h1; subst h2
      have hy : (tI T l)[k]? = some (tI T l)[k] := List.getElem?_eq_getElem hc
      have at' : ∀ a, a < 5 → S.1 61 (4620 + 1536 * a + (16 * l + k)) = k_c a (tI T l)[k] := fun a ha => (hT.2.2.1 l b1 b2).2.1 a ha k _ (by rw [List.getElem?_map, hy]; rfl)
      have hyd : (tI T l).getD k (0, 0, none) = (tI T l)[k] := by rw [List.getD_eq_getElem?_getD, hy]; rfl
      have e0 : (16 : Int32) * nI l + nI k = nI (16 * l + k) := by rw [m_c16, pk_mul, nI_add]
      rw [if_pos (nI_lt hc (by omega)), m_gd (m_inb (by omega) (by omega)), m_lt, hyd]
      obtain rfl | rfl | rfl | rfl | rfl := i32_four hp
      · have e3 : (4620 : Int32) + nI (16 * l + k) = nI (4620 + (16 * l + k)) := by rw [m_c4620, nI_add]
        rw [if_pos rfl, e0, e3, m_gd (m_inb (by omega) (by omega)), m_lt, m_ix (by omega), show S.1 61 (4620 + (16 * l + k)) = _ from at' 0 (by omega), F_X6_item_214]; rfl
      · have e3 : (6156 : Int32) + nI (16 * l + k) = nI (6156 + (16 * l + k)) := by rw [m_c6156, nI_add]
        rw [if_neg (by decide), if_pos rfl, e0, e3, m_gd (m_inb (by omega) (by omega)), m_lt, m_ix (by omega), show S.1 61 (6156 + (16 * l + k)) = _ from at' 1 (by omega), F_X6_item_214]; rfl
      · have e3 : (7692 : Int32) + nI (16 * l + k) = nI (7692 + (16 * l + k)) := by rw [m_c7692, nI_add]
        rw [if_neg (by decide), if_neg (by decide), if_pos rfl, e0, e3, m_gd (m_inb (by omega) (by omega)), m_lt, m_ix (by omega), show S.1 61 (7692 + (16 * l + k)) = _ from at' 2 (by omega), F_X6_item_214]; rfl
      · have e3 : (9228 : Int32) + nI (16 * l + k) = nI (9228 + (16 * l + k)) := by rw [m_c9228, nI_add]
        rw [if_neg (by decide), if_neg (by decide), if_neg (by decide), if_pos rfl, e0, e3, m_gd (m_inb (by omega) (by omega)), m_lt, m_ix (by omega), show S.1 61 (9228 + (16 * l + k)) = _ from at' 3 (by omega), F_X6_item_214]; rfl
      · rw [if_neg (by decide), if_neg (by decide), if_neg (by decide), if_neg (by decide), F_X6_item_214]; rfl
    · rw [if_neg hc] at hd
      have ih := K_item_loop hB h hT hp L (pre ++ [l]) n (k - (tI T l).length) b j (by rw [hR]; simp) (by omega) (by omega) hd
      rw [List.length_append, List.length_singleton] at ih
      rw [if_neg (nI_nlt (by omega) hk), m_gd (m_inb (by omega) (by omega)), m_lt, e2, m_gd (m_inb (by omega) (by omega)), m_lt, m_ix (i := 3852 + l) (by omega), ec, pk_sub (by omega), nI_1]
      exact ih
theorem G_item_k {p1 p2 : Int32} (h : KI B J S A) (hA : AI B J A) : ∃ v S2, F_X6_item B p1 p2 S = some (.inl (some v), S2) ∧ KI B J S2 A ∧ z_kf S S2 ∧ S2.2.1 60 0 = nI (A_item A p1 p2).1 ∧ ((A_item A p1 p2).1 = 0 → v = (A_item A p1 p2).2) := by
  have hok := hA.2.1.1
  have hB := hA.1.2.1
  have hfew := flat_few hok hB
  have bad : ∀ (v1 v2 c : Int32) (n : Nat) (w : Int32), c = nI n → n ≠ 0 → n < 5 → ∃ v S2, F_X6_item_44 B v1 v2 c S = some (.inl (some v), S2) ∧ KI B J S2 A ∧ z_kf S S2 ∧ S2.2.1 60 0 = nI n ∧ (n = 0 → v = w) := fun v1 v2 c n w hc hn hn5 => by
    have hc0 : ¬ c ≤ 0 := by rw [hc, m_c0]; exact nI_ge (by omega) (by omega)
    rw [F_X6_item_44, m_lt, z_thr, if_neg hc0]
    exact ⟨_, _, rfl, KI_thr h, z_kf_ui (by decide), by rw [z_thr, hc], fun z => absurd z hn⟩
  unfold F_X6_item A_item
  rw [h.2.2.2.1]
  by_cases e : A.2.2.1 = 0
  · rw [if_pos e, if_pos e, K_items hB hok h.2.1.1, m_bn, K_isIn, m_bn]
    by_cases h1 : 0 ≤ p1
    · obtain ⟨k, hk, hk2⟩ := i32_nn h1
      subst hk
      have hdi : d_it A.1.1 (nI k) = d_i A.1.1 (tR A.1.1 0) k := by unfold d_it; rw [if_pos h1, nI_clamp hk2]
      rw [hdi]
      cases hd : d_i A.1.1 (tR A.1.1 0) k with
      | none =>
        have hle : (flat A.1.1).length ≤ k := di_none hd
        have g1 : ¬ ((0 : Int32) ≤ nI k ∧ nI k ≤ nI (flat A.1.1).length - 1) := fun w => by
          have := (m_le1 (by omega) h1).mp w.2
          exact absurd this (nI_nlt hle hk2)
        rw [if_neg g1, if_pos rfl]
        exact bad _ _ 2 2 _ rfl (by omega) (by omega)
      | some q =>
        obtain ⟨b, j⟩ := q
        obtain ⟨bm, y, hy, hyf⟩ := di_some hd
        have hkl : k < (flat A.1.1).length := (List.getElem?_eq_some_iff.mp hyf).1
        have g1 : (0 : Int32) ≤ nI k ∧ nI k ≤ nI (flat A.1.1).length - 1 := ⟨h1, (m_le1 (by omega) h1).mpr (nI_lt hkl (by omega))⟩
        rw [if_pos g1, if_neg (show ¬ (1 : Int32) = 0 by decide), K_isIn, m_bn]
        simp only []
        by_cases e3 : 0 ≤ p2 ∧ p2 ≤ 4
        · have hlen := sk_len hok.1 (h := 0)
          have a1 := K_item_loop (S := z_ui S 60 0 0) hB hok h.2.1.1 e3 (tR A.1.1 0) [] z_n k b j rfl (by unfold z_n; omega) hk2 hd
          have a1' : F_X6_item_61 B z_n p2 0 (nI k) (z_ui S 60 0 0) = some (.inl (some (d_y b ((tI A.1.1 b).getD j (0, 0, none)) p2)), z_ui S 60 0 0) := a1
          rw [if_pos e3, if_pos e3, if_neg (show ¬ (1 : Int32) = 0 by decide), F_X6_item_44, m_lt, z_thr, if_pos (by decide), a1']
          exact ⟨_, _, rfl, KI_thr h, z_kf_ui (by decide), z_thr, fun _ => rfl⟩
        · rw [if_neg e3, if_neg e3, if_pos rfl]
          exact bad _ _ 3 3 _ rfl (by omega) (by omega)
    · have hdi : d_it A.1.1 p1 = none := by unfold d_it; rw [if_neg h1]
      have g1 : ¬ ((0 : Int32) ≤ p1 ∧ p1 ≤ nI (flat A.1.1).length - 1) := fun w => h1 w.1
      rw [if_neg g1, if_pos rfl, hdi]
      exact bad _ _ 2 2 _ rfl (by omega) (by omega)
  · rw [if_neg e, if_neg e]
    exact bad _ _ 1 1 _ rfl (by omega) (by omega)
end CL5
