/-! The reference's smallest methods, on: neighbours, costs, a block taken, items moved. -/
theorem idx_nx : ∀ {L : List Nat} {b : Nat}, L.Nodup → b ∈ L → m_nx L b = L[L.idxOf b + 1]?
  | [], b, _, h => by cases h
  | a :: L, b, hd, h => by
    have ⟨h1, h2⟩ := List.nodup_cons.mp hd
    by_cases e : b = a
    · subst e
      rw [nx_hd, List.idxOf_cons_self]
      cases L <;> rfl
    · have hb : b ∈ L := by
        rcases List.mem_cons.mp h with h | h
        · exact absurd h e
        · exact h
      have hne : (a == b) = false := by simpa using fun z => e z.symm
      rw [nx_tl e, idx_nx h2 hb, List.idxOf_cons, hne]
      simp
theorem idx_pv : ∀ {L : List Nat} {b : Nat}, L.Nodup → b ∈ L → m_pv L b = if L.idxOf b = 0 then none else L[L.idxOf b - 1]?
  | [], b, _, h => by cases h
  | a :: L, b, hd, h => by
    have ⟨h1, h2⟩ := List.nodup_cons.mp hd
    by_cases e : b = a
    · subst e
      have hp : m_pv (b :: L) b = none := by
        cases hz : m_pv (b :: L) b with
        | none => rfl
        | some y => exact absurd (pv_mem hz).2 h1
      rw [hp, List.idxOf_cons_self, if_pos rfl]
    · have hb : b ∈ L := by
        rcases List.mem_cons.mp h with h | h
        · exact absurd h e
        · exact h
      have hne : (a == b) = false := by simpa using fun z => e z.symm
      rw [List.idxOf_cons, hne]
      simp only [cond_false]
      rw [if_neg (by omega), pv_cons]
      cases L with
      | nil => cases hb
      | cons c L =>
        by_cases ec : b = c
        · subst ec
          rw [List.head?_cons, if_pos rfl, List.idxOf_cons_self]
          rfl
        · have hne2 : (c == b) = false := by simpa using fun z => ec z.symm
          have ih := idx_pv h2 hb
          rw [List.head?_cons, if_neg (fun z => ec (Option.some.inj z).symm), ih, List.idxOf_cons, hne2]
          simp only [cond_false]
          rw [if_neg (by omega)]
          simp
theorem m_m1a : nI 0 + -1 = -1 := by decide
theorem m_m1b : ¬ (0 : Int32) ≤ -1 := by decide
theorem m_10 : ¬ (1 : Int32) = 0 := by decide
section KM3
variable {B : Nat} {S : z_S}
theorem K_beside_gen {b h : Nat} {L : List Nat} {v w : Int32} (hb : b < 96) (hhb : S.1 61 (3756 + b) = nI (h + 1)) (h8 : h < 8) (hL : m_l (S.1 61) (12300 + 96 * h) (L.map nI)) (hc : S.1 61 (13068 + h) = nI L.length) (hn : L.length ≤ 96) (hx : ∀ x ∈ L, x < 2 ^ 31) (hm : b ∈ L) (hw : nI (L.idxOf b) + v = w) :
    (¬ (0 ≤ w ∧ w ≤ nI (L.length - 1)) → F_X6_beside B (nI b) v S = some (.inl (some (-1)), S)) ∧ ∀ k, w = nI k → k < L.length → F_X6_beside B (nI b) v S = some (.inl (some (S.1 61 (12300 + 96 * h + k))), S) := by
  have hil : L.idxOf b < L.length := List.idxOf_lt_length_iff.mpr hm
  have e : (12300 : Int32) + 96 * nI h = nI (12300 + 96 * h) := by rw [m_c12300, m_c96, pk_mul, nI_add]
  have e2 : (13068 : Int32) + nI h = nI (13068 + h) := by rw [m_c13068, nI_add]
  have i2 : z_inb (nI (13068 + h)) 25366 = true := m_inb (by omega) (by omega)
  have x2 : (nI (13068 + h)).toNatClampNeg = 13068 + h := nI_clamp (by omega)
  have y2 : nI L.length - 1 = nI (L.length - 1) := by rw [m_c1]; exact pk_sub (by omega)
  have base : F_X6_beside B (nI b) v S = z_bn (F_X6_isIn B w 0 (nI (L.length - 1)) S) fun r9 S10 => if r9 = 0 then F_X6_beside_56 B (-1) S10 else z_gd (z_inb (nI (12300 + 96 * h) + w) 25366) (z_lt (S10.1 61 (z_ix (nI (12300 + 96 * h) + w))) fun x13 => (F_X6_beside_56 B x13 S10)) := by
    unfold F_X6_beside
    rw [K_height hb hhb, m_bn, K_placeOf hb hhb h8 hL hn hx hm, m_bn, e2, hw, e]
    rw [m_gd i2, m_lt, m_ix (by omega), hc, y2]
  rw [base, K_isIn, m_bn]
  constructor
  · intro hno
    rw [if_neg hno, if_pos rfl]; rfl
  · intro k hk hkl
    have g0 : (0 : Int32) ≤ nI k := m_ge0 (by omega)
    have g1 : nI k ≤ nI (L.length - 1) := nI_le (by omega) (by omega)
    have i3 : z_inb (nI (12300 + 96 * h + k)) 25366 = true := m_inb (by omega) (by omega)
    have q1 : (if (0 : Int32) ≤ nI k ∧ nI k ≤ nI (L.length - 1) then (1 : Int32) else 0) = 1 := if_pos ⟨g0, g1⟩
    rw [hk, q1, if_neg m_10, nI_add, m_gd i3, m_lt, m_ix (by omega)]; rfl
theorem K_beside_next {b h : Nat} {L : List Nat} (hb : b < 96) (hhb : S.1 61 (3756 + b) = nI (h + 1)) (h8 : h < 8) (hL : m_l (S.1 61) (12300 + 96 * h) (L.map nI)) (hc : S.1 61 (13068 + h) = nI L.length) (hn : L.length ≤ 96) (hd : L.Nodup) (hx : ∀ x ∈ L, x < 2 ^ 31) (hm : b ∈ L) : F_X6_beside B (nI b) 1 S = some (.inl (some (oI (m_nx L b))), S) := by
  have hil : L.idxOf b < L.length := List.idxOf_lt_length_iff.mpr hm
  have key := K_beside_gen (B := B) (v := 1) hb hhb h8 hL hc hn hx hm (nI_1 (L.idxOf b))
  rw [idx_nx hd hm]
  by_cases hl : L.idxOf b + 1 < L.length
  · have e3 : S.1 61 (12300 + 96 * h + (L.idxOf b + 1)) = nI L[L.idxOf b + 1] := hL _ _ (by rw [List.getElem?_map, List.getElem?_eq_getElem hl]; rfl)
    rw [key.2 _ rfl hl, List.getElem?_eq_getElem hl, e3]; rfl
  · have g1 : ¬ nI (L.idxOf b + 1) ≤ nI (L.length - 1) := nI_ge (by omega) (by omega)
    rw [key.1 (fun z => g1 z.2), List.getElem?_eq_none (show L.length ≤ L.idxOf b + 1 by omega)]; rfl
theorem K_beside_prev {b h : Nat} {L : List Nat} (hb : b < 96) (hhb : S.1 61 (3756 + b) = nI (h + 1)) (h8 : h < 8) (hL : m_l (S.1 61) (12300 + 96 * h) (L.map nI)) (hc : S.1 61 (13068 + h) = nI L.length) (hn : L.length ≤ 96) (hd : L.Nodup) (hx : ∀ x ∈ L, x < 2 ^ 31) (hm : b ∈ L) : F_X6_beside B (nI b) (-1) S = some (.inl (some (oI (m_pv L b))), S) := by
  have hil : L.idxOf b < L.length := List.idxOf_lt_length_iff.mpr hm
  rw [idx_pv hd hm]
  by_cases h0 : L.idxOf b = 0
  · have key := K_beside_gen (B := B) (v := -1) (w := -1) hb hhb h8 hL hc hn hx hm (by rw [h0]; exact m_m1a)
    rw [key.1 (fun z => m_m1b z.1), if_pos h0]; rfl
  · obtain ⟨k, hk⟩ : ∃ k, L.idxOf b = k + 1 := ⟨L.idxOf b - 1, by omega⟩
    have key := K_beside_gen (B := B) (v := -1) (w := nI k) hb hhb h8 hL hc hn hx hm (by rw [hk]; exact pk_m1 k)
    have hl : k < L.length := by omega
    have e3 : S.1 61 (12300 + 96 * h + k) = nI L[k] := hL _ _ (by rw [List.getElem?_map, List.getElem?_eq_getElem hl]; rfl)
    have ek : L.idxOf b - 1 = k := by omega
    rw [key.2 k rfl hl, if_neg h0, ek, List.getElem?_eq_getElem hl, e3]; rfl
theorem K_used_loop {b : Nat} {L : List m_It} (hb : b < 96) (h3 : S.1 61 (3852 + b) = nI L.length) (hbd : m_l (S.1 61) (9228 + 16 * b) (L.map fun x => nI x.2.1)) (hn : L.length ≤ 16) : ∀ (m n i u : Nat), i + m = L.length → m < n → F_X6_used_4 B n (nI b) (nI u) (nI i) S = some (.inl (some (nI (u + m_cost (L.drop i)))), S)
  | 0, n, i, u, hi, hm => by
    obtain ⟨n, rfl⟩ : ∃ m, n = m + 1 := ⟨n - 1, by omega⟩
    have e2 : (3852 : Int32) + nI b = nI (3852 + b) := by rw [m_c3852, nI_add]
    have i2 : z_inb (nI (3852 + b)) 25366 = true := m_inb (by omega) (by omega)
    have x2 : (nI (3852 + b)).toNatClampNeg = 3852 + b := nI_clamp (by omega)
    have g : nI L.length ≤ nI i := nI_le (by omega) (by omega)
    rw [List.drop_eq_nil_of_le (by omega)]
    simp only [F_X6_used_4, z_lt, z_gd, e2, i2, x2, h3, g, if_true, m_cost, List.map_nil, List.sum_nil, Nat.add_zero]
  | m + 1, n, i, u, hi, hm => by
    obtain ⟨n, rfl⟩ : ∃ m, n = m + 1 := ⟨n - 1, by omega⟩
    have hil : i < L.length := by omega
    have e2 : (3852 : Int32) + nI b = nI (3852 + b) := by rw [m_c3852, nI_add]
    have i2 : z_inb (nI (3852 + b)) 25366 = true := m_inb (by omega) (by omega)
    have x2 : (nI (3852 + b)).toNatClampNeg = 3852 + b := nI_clamp (by omega)
    have g : ¬ nI L.length ≤ nI i := nI_ge (by omega) (by omega)
    have e : (9228 : Int32) + 16 * nI b + nI i = nI (9228 + 16 * b + i) := by rw [m_c9228, m_c16, pk_mul, nI_add, nI_add]
    have i1 : z_inb (nI (9228 + 16 * b + i)) 25366 = true := m_inb (by omega) (by omega)
    have x1 : (nI (9228 + 16 * b + i)).toNatClampNeg = 9228 + 16 * b + i := nI_clamp (by omega)
    have e9 : S.1 61 (9228 + 16 * b + i) = nI L[i].2.1 := hbd i _ (by rw [List.getElem?_map, List.getElem?_eq_getElem hil]; rfl)
    have y : nI u + (8 + nI L[i].2.1) = nI (u + (8 + L[i].2.1)) := by rw [m_c8, nI_add, nI_add]
    have y1 : nI i + 1 = nI (i + 1) := nI_1 i
    rw [F_X6_used_4]
    simp only [z_lt, z_gd, e2, i2, x2, h3, g, if_true, if_false, e, i1, x1, e9, y, y1]
    rw [K_used_loop hb h3 hbd hn m n (i + 1) (u + (8 + L[i].2.1)) (by omega) (by omega), List.drop_eq_getElem_cons hil]
    simp only [m_cost, List.map_cons, List.sum_cons, Nat.add_assoc]
theorem K_used {b : Nat} {L : List m_It} (hb : b < 96) (h3 : S.1 61 (3852 + b) = nI L.length) (hbd : m_l (S.1 61) (9228 + 16 * b) (L.map fun x => nI x.2.1)) (hn : L.length ≤ 16) : F_X6_used B (nI b) S = some (.inl (some (nI (m_cost L))), S) := by
  have := K_used_loop (B := B) hb h3 hbd hn L.length z_n 0 0 (by omega) (by unfold z_n; omega)
  simpa [F_X6_used, nI_0] using this
theorem K_take_loop {u : Nat → Nat} (hB : B ≤ 96) (h0 : S.2.1 60 1 = nI B) (hU : ∀ b, b < B → S.1 61 b = nI (if u b = 0 then 0 else 1)) : ∀ (m n k : Nat), k + m = B → m < n →
    (m_fr0 u m k = none → F_X6_take_2 B n (nI k) S = some (.inl (some (-1)), z_ui S 60 7 1)) ∧
    ∀ b, m_fr0 u m k = some b → F_X6_take_2 B n (nI k) S = some (.inl (some (nI b)), z_ua S 61 (upd (upd (upd (S.1 61) b 1) (3756 + b) 0) (3852 + b) 0))
  | 0, n, k, hk, hn => by
    obtain ⟨n, rfl⟩ : ∃ m, n = m + 1 := ⟨n - 1, by omega⟩
    refine ⟨fun _ => ?_, fun b hb => by simp [m_fr0] at hb⟩
    have e : nI B ≤ nI k := nI_le (by omega) (by omega)
    have z1 : z_b01 1 = true := by decide
    simp only [F_X6_take_2, h0, e, z_lt, z_gd, z1, if_true]
  | m + 1, n, k, hk, hn => by
    obtain ⟨n, rfl⟩ : ∃ m, n = m + 1 := ⟨n - 1, by omega⟩
    have e : ¬ nI B ≤ nI k := nI_ge (by omega) (by omega)
    have e0 : (0 : Int32) + nI k = nI k := by rw [m_c0, nI_add, Nat.zero_add]
    have e1 : (3756 : Int32) + nI k = nI (3756 + k) := by rw [m_c3756, nI_add]
    have e2 : (3852 : Int32) + nI k = nI (3852 + k) := by rw [m_c3852, nI_add]
    have i0 : z_inb (nI k) 25366 = true := m_inb (by omega) (by omega)
    have i1 : z_inb (nI (3756 + k)) 25366 = true := m_inb (by omega) (by omega)
    have i2 : z_inb (nI (3852 + k)) 25366 = true := m_inb (by omega) (by omega)
    have x0 : (nI k).toNatClampNeg = k := nI_clamp (by omega)
    have x1 : (nI (3756 + k)).toNatClampNeg = 3756 + k := nI_clamp (by omega)
    have x2 : (nI (3852 + k)).toNatClampNeg = 3852 + k := nI_clamp (by omega)
    have eu := hU k (by omega)
    have y1 : nI k + 1 = nI (k + 1) := nI_1 k
    by_cases huk : u k = 0
    · rw [if_pos huk] at eu
      have eu' : S.1 61 k = 0 := eu
      refine ⟨fun h => by simp [m_fr0, huk] at h, fun b hb => ?_⟩
      have hb2 : k = b := by simpa [m_fr0, huk] using hb
      subst hb2
      simp only [F_X6_take_2, h0, e, z_lt, z_gd, e0, e1, e2, i0, i1, i2, x0, x1, x2, eu', if_true, if_false, z_ua_at, z_ua_ua]
    · rw [if_neg huk] at eu
      have hz1 : ¬ S.1 61 k = 0 := by rw [eu]; decide
      have hr : F_X6_take_2 B (n + 1) (nI k) S = F_X6_take_2 B n (nI (k + 1)) S := by
        rw [F_X6_take_2]
        simp only [h0, e, z_lt, z_gd, e0, i0, x0, hz1, if_true, if_false, y1]
      rw [hr]
      have ih := K_take_loop (u := u) hB h0 hU m n (k + 1) (by omega) (by omega)
      simpa [m_fr0, huk] using ih
end KM3
