/-! read and about: class and reference answer alike. -/
theorem tl_at {z k : Nat} (hk : k < z) (h : m_dt z ≤ k / 128) : k % 128 < m_tl z := by
  unfold m_dt at h
  by_cases e : 0 < z % 128 ∧ m_tl z = 0
  · rw [if_pos e] at h
    omega
  · rw [if_neg e] at h
    have h1 : k / 128 = z / 128 := by omega
    have h2 : 0 < z % 128 := by omega
    have h3 : m_tl z ≠ 0 := fun w => e ⟨h2, w⟩
    have h4 : m_tl z = z % 128 := by
      unfold m_tl at h3 ⊢
      split
      · rfl
      · rename_i hn; rw [if_neg hn] at h3; exact absurd rfl h3
    omega
def d_b (O : m_O) (o k : Nat) : Int32 := if (oP O o).length ≤ k / 128 then oE O o (k % 128) else oD O ((oP O o).getD (k / 128) 0) (k % 128)
def o_tl (O : m_O) (o : Nat) : Nat := if oK O o = 2 then m_tl (oZ O o) else 0
section CL3
variable {B J : Nat} {S S' : z_S} {A : m_A} {T : m_T} {O : m_O} {f : Nat → Int32}
theorem im_z (hi : m_im B T O) {o : Nat} (ho : oK O o = 2) : oZ O o ≤ 2048 := (hi.2.2.2.2.2.2.2.2.1 o ho).2
theorem C_dataOf {t o : Nat} (hi : m_im B T O) (h : c_O B t S T O) (o1 : 1 ≤ o) (o2 : o ≤ 60) (hk : oK O o ≠ 0) : F_X2_dataOf B (t + 13) (nI o) S = some (.inl (some (nI (oP O o).length)), S) := by
  have hk2 := hi.2.1 o
  obtain ⟨k1, k2, k3⟩ := kind_m1 hk2
  unfold F_X2_dataOf
  rw [m_gd (m_inb (by omega) (by omega)), m_lt, m_ix (by omega), show S.1 (t + 13 + 1) o = nI (oK O o) - 1 from h.1 o o1 o2]
  by_cases e : oK O o = 2
  · have hz := im_z hi e
    rw [if_pos (k3.mpr e), m_gd (m_inb (by omega) (by omega)), m_lt, show S.1 (t + 13 + 3) o = nI (oZ O o) from (h.2.1 o o1 o2 hk).2, C_dataBlocks (by omega), m_bn, F_X2_dataOf_23, (hi.2.2.2.2.2.2.2.2.1 o e).1]
  · have e1 : oK O o = 1 := by omega
    rw [if_neg (fun z => e (k3.mp z)), F_X2_dataOf_23, (hi.2.2.2.2.2.2.2.2.2.1 o e1).1]; rfl
theorem C_tailOf {t o : Nat} (hi : m_im B T O) (h : c_O B t S T O) (o1 : 1 ≤ o) (o2 : o ≤ 60) (hk : oK O o ≠ 0) : F_X2_tailOf B (t + 13) (nI o) S = some (.inl (some (nI (o_tl O o))), S) := by
  have hk2 := hi.2.1 o
  obtain ⟨k1, k2, k3⟩ := kind_m1 hk2
  unfold F_X2_tailOf o_tl
  rw [m_gd (m_inb (by omega) (by omega)), m_lt, m_ix (by omega), show S.1 (t + 13 + 1) o = nI (oK O o) - 1 from h.1 o o1 o2]
  by_cases e : oK O o = 2
  · have hz := im_z hi e
    rw [if_pos (k3.mpr e), m_gd (m_inb (by omega) (by omega)), m_lt, show S.1 (t + 13 + 3) o = nI (oZ O o) from (h.2.1 o o1 o2 hk).2, C_tailBytes (by omega), m_bn, F_X2_tailOf_23, if_pos e]
  · rw [if_neg (fun z => e (k3.mp z)), F_X2_tailOf_23, if_neg e]; rfl
theorem C_byteOf {o k : Nat} (hB : B ≤ 96) (hi : m_im B T O) (h : c_O B 1 S T O) (o1 : 1 ≤ o) (o2 : o ≤ 60) (hk : oK O o = 2) (hz : k < oZ O o) : F_X0_byteOf B 1 (nI o) (nI k) S = some (.inl (some (d_b O o k)), S) := by
  have hz2 := im_z hi hk
  have hlen := (hi.2.2.2.2.2.2.2.2.1 o hk).1
  have hl16 := im_len hi hk
  have htl := tl_le (z := oZ O o)
  have c40 : nI o * 40 + nI (k % 128) = nI (o * 40 + k % 128) := by rw [m_c40, pk_mul, nI_add]
  have c16 : nI o * 16 + nI (k / 128) = nI (o * 16 + k / 128) := by rw [m_c16, pk_mul, nI_add]
  unfold F_X0_byteOf d_b
  rw [C_dataOf hi h o1 o2 (by omega), m_bn, d128 (by omega)]
  by_cases e : (oP O o).length ≤ k / 128
  · have hr := tl_at hz (by omega)
    rw [if_pos (nI_le e (by omega)), if_pos e]
    have e2 : nI k - nI (k / 128) * 128 = nI (k % 128) := by rw [← d128 (by omega), r128 (by omega)]
    rw [e2, c40, m_gd (m_inb (by omega) (by omega)), m_lt, m_ix (by omega), ((h.2.2.2.2.2 o o1 o2 hk _ hr).1)]
  · have e2 : nI k - nI (k / 128) * 128 = nI (k % 128) := by rw [← d128 (by omega), r128 (by omega)]
    have hlt : k / 128 < (oP O o).length := by omega
    have hg : (oP O o)[k / 128]? = some (oP O o)[k / 128] := List.getElem?_eq_getElem hlt
    have hp : S.1 19 (o * 16 + k / 128) = nI (oP O o)[k / 128] := h.2.2.2.1 o o1 o2 hk _ _ (by rw [List.getElem?_map, hg]; rfl)
    obtain ⟨b1, b2, b3⟩ := hi.2.2.2.2.2.2.2.2.2.2.2.2.2.2.2.1 o hk _ (List.getElem_mem hlt)
    have hd : (oP O o).getD (k / 128) 0 = (oP O o)[k / 128] := by rw [List.getD_eq_getElem?_getD, hg]; rfl
    have c128 : nI (oP O o)[k / 128] * 128 + nI (k % 128) = nI ((oP O o)[k / 128] * 128 + k % 128) := by rw [m_c128, pk_mul, nI_add]
    rw [if_neg (nI_ge (by omega) (by omega)), if_neg e, c16, m_gd (m_inb (by omega) (by omega)), m_lt, m_ix (i := o * 16 + k / 128) (by omega), hp, e2, c128, m_gd (m_inb (by omega) (by omega)), m_lt, m_ix (by omega), hd, ((h.2.2.2.2.1 _ b2 b3 (k % 128) (by omega)).1)]
theorem K_byteOf {o k : Nat} (hB : B ≤ 96) (hi : m_im B T O) (h : k_O B (S.1 61) T O) (o1 : 1 ≤ o) (o2 : o ≤ 60) (hk : oK O o = 2) (hz : k < oZ O o) : F_X6_byteOf B (nI o) (nI k) S = some (.inl (some (d_b O o k)), S) := by
  have hz2 := im_z hi hk
  have hlen := (hi.2.2.2.2.2.2.2.2.1 o hk).1
  have hl16 := im_len hi hk
  have htl := tl_le (z := oZ O o)
  have e1 : (279 : Int32) + nI o = nI (279 + o) := by rw [m_c279, nI_add]
  have c40 : (1316 : Int32) + 40 * nI o + nI (k % 128) = nI (1316 + 40 * o + k % 128) := by rw [m_c1316, m_c40, pk_mul, nI_add, nI_add]
  have c16 : (340 : Int32) + 16 * nI o + nI (k / 128) = nI (340 + 16 * o + k / 128) := by rw [m_c340, m_c16, pk_mul, nI_add, nI_add]
  have e2 : nI k - nI (k / 128) * 128 = nI (k % 128) := by rw [← d128 (by omega), r128 (by omega)]
  unfold F_X6_byteOf d_b
  rw [e1, m_gd (m_inb (by omega) (by omega)), m_lt, m_ix (i := 279 + o) (by omega), (h.2.1 o o1 o2 (by omega)).2.2, d128 (by omega)]
  by_cases e : (oP O o).length ≤ k / 128
  · have hr := tl_at hz (by omega)
    have := h.2.2.2.2 o o1 o2 hk (by omega) (k % 128) (by omega)
    rw [if_pos hr] at this
    rw [if_pos (nI_le e (by omega)), if_pos e, e2, c40, m_gd (m_inb (by omega) (by omega)), m_lt, m_ix (by omega), this, F_X6_byteOf_78]
  · have hlt : k / 128 < (oP O o).length := by omega
    have hg : (oP O o)[k / 128]? = some (oP O o)[k / 128] := List.getElem?_eq_getElem hlt
    have hp : S.1 61 (340 + 16 * o + k / 128) = nI (oP O o)[k / 128] := h.2.2.1 o o1 o2 hk _ _ (by rw [List.getElem?_map, hg]; rfl)
    obtain ⟨b1, b2, b3⟩ := hi.2.2.2.2.2.2.2.2.2.2.2.2.2.2.2.1 o hk _ (List.getElem_mem hlt)
    have hd : (oP O o).getD (k / 128) 0 = (oP O o)[k / 128] := by rw [List.getD_eq_getElem?_getD, hg]; rfl
    have c128 : (13078 : Int32) + 128 * nI (oP O o)[k / 128] + nI (k % 128) = nI (13078 + 128 * (oP O o)[k / 128] + k % 128) := by rw [m_c13078, m_c128, pk_mul, nI_add, nI_add]
    rw [if_neg (nI_ge (by omega) (by omega)), if_neg e, c16, m_gd (m_inb (by omega) (by omega)), m_lt, m_ix (i := 340 + 16 * o + k / 128) (by omega), hp, e2, c128, m_gd (m_inb (by omega) (by omega)), m_lt, m_ix (by omega), h.2.2.2.1 _ b2 b3 (k % 128) (by omega), F_X6_byteOf_78, hd]
/-- read -/
def A_read (A : m_A) (p1 p2 : Int32) : Nat × Int32 := if A.2.2.1 = 0 then (if d_k A.1.2 p1 = 2 then (if 0 ≤ p2 ∧ p2 < nI (oZ A.1.2 p1.toNatClampNeg) then (0, d_b A.1.2 p1.toNatClampNeg p2.toNatClampNeg) else (2, 0)) else (2, 0)) else (1, 0)
theorem m_below {p : Int32} {z : Nat} (h1 : 0 ≤ p) (h2 : p < nI z) (hz : z < 2 ^ 31) : ∃ k, p = nI k ∧ k < z := by
  have e1 := Int32.le_iff_toInt_le.mp h1
  have e2 := Int32.lt_iff_toInt_lt.mp h2
  rw [nI_toInt hz] at e2
  have e3 : (0 : Int32).toInt = 0 := by decide
  exact ⟨p.toInt.toNat, m_n _ (by omega) (by omega), by omega⟩
theorem m_le1 {p : Int32} {z : Nat} (hz : z < 2 ^ 31) (h1 : 0 ≤ p) : p ≤ nI z - 1 ↔ p < nI z := by
  have e1 := Int32.le_iff_toInt_le.mp h1
  have e3 : (0 : Int32).toInt = 0 := by decide
  rw [Int32.lt_iff_toInt_lt, Int32.le_iff_toInt_le, nI_toInt hz]
  by_cases e : z = 0
  · subst e
    have : (nI 0 - 1).toInt = -1 := by decide
    rw [this]; omega
  · obtain ⟨w, rfl⟩ : ∃ w, z = w + 1 := ⟨z - 1, by omega⟩
    rw [nI_pred, nI_toInt (by omega)]; omega
theorem G_read_c {p1 p2 : Int32} (h : CI B J S A) (hA : AI B J A) : F_X5_read B p1 p2 S = some (r_o [E_U, E_I] (A_read A p1 p2).1 (A_read A p1 p2).2, S) := by
  unfold F_X5_read A_read
  rw [C_needPower h hA]
  by_cases e : A.2.2.1 = 0
  · rw [if_pos e, if_pos e, m_bv, C_needFile hA.2.1.2 h.2.1.2]
    by_cases e1 : d_k A.1.2 p1 = 2
    · obtain ⟨o, ho, o1, o2, o3⟩ := dk_some (O := A.1.2) (p := p1) (by omega)
      subst ho
      have hk : oK A.1.2 o = 2 := o3.trans e1
      have hz := im_z hA.2.1.2 hk
      rw [if_pos e1, if_pos e1, m_bv, nI_clamp (by omega)]
      by_cases h1 : p2 < 0
      · rw [if_pos h1, F_X5_read_29, if_neg (fun w => Int32.not_lt.mpr w.1 h1)]; rfl
      · rw [if_neg h1, m_gd (m_inb (by omega) (by omega)), m_lt, m_ix (by omega), show S.1 17 o = nI (oZ A.1.2 o) from (h.2.1.2.2.1 o o1 o2 (by omega)).2]
        by_cases h2 : p2 < nI (oZ A.1.2 o)
        · obtain ⟨k, hk2, hkz⟩ := m_below (Int32.not_lt.mp h1) h2 (by omega)
          rw [if_pos h2, if_pos ⟨Int32.not_lt.mp h1, h2⟩]
          subst hk2
          rw [C_byteOf hA.1.2.1 hA.2.1.2 h.2.1.2 o1 o2 hk hkz, m_bn, nI_clamp (by omega)]; rfl
        · rw [if_neg h2, F_X5_read_29, if_neg (fun w => h2 w.2)]; rfl
    · rw [if_neg e1, if_neg e1, m_bvx]; rfl
  · rw [if_neg e, if_neg e, m_bvx]; rfl
theorem G_read_k {p1 p2 : Int32} (h : KI B J S A) (hA : AI B J A) : ∃ v S2, F_X6_read B p1 p2 S = some (.inl (some v), S2) ∧ KI B J S2 A ∧ z_kf S S2 ∧ S2.2.1 60 0 = nI (A_read A p1 p2).1 ∧ ((A_read A p1 p2).1 = 0 → v = (A_read A p1 p2).2) := by
  unfold F_X6_read A_read
  rw [h.2.2.2.1]
  by_cases e : A.2.2.1 = 0
  · rw [if_pos e, if_pos e, K_isFile hA.2.1.2 h.2.1.2, m_bn]
    by_cases e1 : d_k A.1.2 p1 = 2
    · obtain ⟨o, ho, o1, o2, o3⟩ := dk_some (O := A.1.2) (p := p1) (by omega)
      subst ho
      have hk : oK A.1.2 o = 2 := o3.trans e1
      have hz := im_z hA.2.1.2 hk
      have e2 : (218 : Int32) + nI o = nI (218 + o) := by rw [m_c218, nI_add]
      rw [if_pos e1, if_pos e1, if_neg (by decide), nI_clamp (by omega), e2, m_gd (m_inb (by omega) (by omega)), m_lt, m_ix (by omega), (h.2.1.2.2.1 o o1 o2 (by omega)).2.1, K_isIn, m_bn]
      by_cases h1 : 0 ≤ p2
      · by_cases h2 : p2 < nI (oZ A.1.2 o)
        · obtain ⟨k, hk2, hkz⟩ := m_below h1 h2 (by omega)
          subst hk2
          have g1 : (0 : Int32) ≤ nI k ∧ nI k ≤ nI (oZ A.1.2 o) - 1 := ⟨h1, (m_le1 (by omega) h1).mpr h2⟩
          have g2 : (0 : Int32) ≤ nI k ∧ nI k < nI (oZ A.1.2 o) := ⟨h1, h2⟩
          rw [if_pos g1, if_neg (show ¬ (1 : Int32) = 0 by decide), if_pos g2, F_X6_read_45, m_lt, z_thr, if_pos (by decide), K_byteOf (S := z_ui S 60 0 0) hA.1.2.1 hA.2.1.2 h.2.1.2 o1 o2 hk hkz, m_bn, F_X6_read_65, nI_clamp (by omega)]
          exact ⟨_, _, rfl, KI_thr h, z_kf_ui (by decide), z_thr, fun _ => rfl⟩
        · have g1 : ¬ ((0 : Int32) ≤ p2 ∧ p2 ≤ nI (oZ A.1.2 o) - 1) := fun w => h2 ((m_le1 (by omega) h1).mp w.2)
          have g2 : ¬ ((0 : Int32) ≤ p2 ∧ p2 < nI (oZ A.1.2 o)) := fun w => h2 w.2
          rw [if_neg g1, if_pos rfl, if_neg g2, F_X6_read_40, F_X6_read_45, m_lt, z_thr, if_neg (by decide), F_X6_read_65]
          exact ⟨_, _, rfl, KI_thr h, z_kf_ui (by decide), z_thr, fun z => by cases z⟩
      · have g1 : ¬ ((0 : Int32) ≤ p2 ∧ p2 ≤ nI (oZ A.1.2 o) - 1) := fun w => h1 w.1
        have g2 : ¬ ((0 : Int32) ≤ p2 ∧ p2 < nI (oZ A.1.2 o)) := fun w => h1 w.1
        rw [if_neg g1, if_pos rfl, if_neg g2, F_X6_read_40, F_X6_read_45, m_lt, z_thr, if_neg (by decide), F_X6_read_65]
        exact ⟨_, _, rfl, KI_thr h, z_kf_ui (by decide), z_thr, fun z => by cases z⟩
    · rw [if_neg e1, if_neg e1, if_pos rfl, F_X6_read_40, F_X6_read_45, m_lt, z_thr, if_neg (by decide), F_X6_read_65]
      exact ⟨_, _, rfl, KI_thr h, z_kf_ui (by decide), z_thr, fun z => by cases z⟩
  · rw [if_neg e, if_neg e, F_X6_read_45, m_lt, z_thr, if_neg (by decide), F_X6_read_65]
    exact ⟨_, _, rfl, KI_thr h, z_kf_ui (by decide), z_thr, fun z => by cases z⟩
/-- about -/
def d_a (O : m_O) (o : Nat) (p : Int32) : Int32 := if p = 0 then nI (oK O o) - 1 else if p = 1 then nI (oL O o) else if p = 2 then nI (oZ O o) else if p = 3 then nI (oP O o).length else if p = 4 then nI (o_tl O o) else nI ((oP O o).getD (p - 5).toNatClampNeg 0)
def A_about (A : m_A) (p1 p2 : Int32) : Nat × Int32 := if A.2.2.1 = 0 then (if d_k A.1.2 p1 = 0 then (2, 0) else if p2 < 0 then (3, 0) else if p2 < 5 ∨ p2 - 5 < nI (oP A.1.2 p1.toNatClampNeg).length then (0, d_a A.1.2 p1.toNatClampNeg p2) else (2, 0)) else (1, 0)
theorem i32_five {p : Int32} (h : ¬ p < 5) : ∃ k, p = nI (k + 5) ∧ p - 5 = nI k ∧ k + 5 < 2 ^ 31 := by
  have e1 := Int32.le_iff_toInt_le.mp (Int32.not_lt.mp h)
  have e3 : (5 : Int32).toInt = 5 := by decide
  have e4 := Int32.toInt_lt p
  have e5 : p = nI ((p.toInt - 5).toNat + 5) := m_n _ (by omega) (by omega)
  refine ⟨(p.toInt - 5).toNat, e5, ?_, by omega⟩
  have e6 : nI ((p.toInt - 5).toNat + 5) - 5 = nI (p.toInt - 5).toNat := by rw [m_c5, pk_sub (by omega)]; rfl
  rw [← e5] at e6
  exact e6
theorem i32_small {p : Int32} (h0 : ¬ p < 0) (h5 : p < 5) : p = 0 ∨ p = 1 ∨ p = 2 ∨ p = 3 ∨ p = 4 := by
  obtain ⟨k, hk, hlt⟩ := m_below (z := 5) (Int32.not_lt.mp h0) (by rw [← m_c5]; exact h5) (by omega)
  subst hk
  obtain rfl | rfl | rfl | rfl | rfl : k = 0 ∨ k = 1 ∨ k = 2 ∨ k = 3 ∨ k = 4 := by omega
  all_goals simp [nI]
theorem five_ne {p : Int32} (h : ¬ p < 5) : p ≠ 0 ∧ p ≠ 1 ∧ p ≠ 2 ∧ p ≠ 3 ∧ p ≠ 4 := by
  refine ⟨fun e => h ?_, fun e => h ?_, fun e => h ?_, fun e => h ?_, fun e => h ?_⟩ <;> rw [e] <;> decide
theorem G_about_c {p1 p2 : Int32} (h : CI B J S A) (hA : AI B J A) : F_X5_about B p1 p2 S = some (r_o [E_U, E_I, E_A] (A_about A p1 p2).1 (A_about A p1 p2).2, S) := by
  unfold F_X5_about A_about
  rw [C_needPower h hA]
  by_cases e : A.2.2.1 = 0
  · rw [if_pos e, if_pos e, m_bv, C_isThere hA.2.1.2 h.2.1.2, m_bn]
    by_cases e1 : d_k A.1.2 p1 = 0
    · rw [if_pos e1, if_pos rfl, if_pos e1]; rfl
    · obtain ⟨o, ho, o1, o2, o3⟩ := dk_some e1
      subst ho
      have hk : oK A.1.2 o ≠ 0 := by omega
      rw [if_neg e1, if_neg (by decide), if_neg e1, nI_clamp (by omega)]
      by_cases h1 : p2 < 0
      · rw [if_neg (Int32.not_le.mpr h1), if_pos h1]; rfl
      · rw [if_pos (Int32.not_lt.mp h1), if_neg h1]
        have iz : z_inb (nI o) 61 = true := m_inb (by omega) (by omega)
        have xz : z_ix (nI o) = o := m_ix (by omega)
        have v0 : S.1 15 o = nI (oK A.1.2 o) - 1 := h.2.1.2.1 o o1 o2
        have v1 : S.1 16 o = nI (oL A.1.2 o) := (h.2.1.2.2.1 o o1 o2 hk).1
        have v2 : S.1 17 o = nI (oZ A.1.2 o) := (h.2.1.2.2.1 o o1 o2 hk).2
        have v3 : F_X2_dataOf B 14 (nI o) S = some (.inl (some (nI (oP A.1.2 o).length)), S) := C_dataOf hA.2.1.2 h.2.1.2 o1 o2 hk
        have v4 : F_X2_tailOf B 14 (nI o) S = some (.inl (some (nI (o_tl A.1.2 o))), S) := C_tailOf hA.2.1.2 h.2.1.2 o1 o2 hk
        by_cases h5 : p2 < 5
        · rw [if_pos (Or.inl h5)]
          obtain rfl | rfl | rfl | rfl | rfl := i32_small h1 h5
          · rw [if_pos rfl, m_gd iz, m_lt, xz, v0]; rfl
          · rw [if_neg (by decide), if_pos rfl, m_gd iz, m_lt, xz, v1]; rfl
          · rw [if_neg (by decide), if_neg (by decide), if_pos rfl, m_gd iz, m_lt, xz, v2]; rfl
          · rw [if_neg (by decide), if_neg (by decide), if_neg (by decide), if_pos rfl, v3, m_bn]; rfl
          · rw [if_neg (by decide), if_neg (by decide), if_neg (by decide), if_neg (by decide), if_pos rfl, v4, m_bn]; rfl
        · obtain ⟨n0, n1, n2, n3, n4⟩ := five_ne h5
          rw [if_neg n0, if_neg n1, if_neg n2, if_neg n3, if_neg n4, v3, m_bn]
          by_cases h6 : p2 - 5 < nI (oP A.1.2 o).length
          · obtain ⟨k, hk1, hk2, hk3⟩ := i32_five h5
            have hle : (oP A.1.2 o).length ≤ 16 := by
              have hk2' := hA.2.1.2.2.1 o
              by_cases e2 : oK A.1.2 o = 2
              · exact im_len hA.2.1.2 e2
              · rw [(hA.2.1.2.2.2.2.2.2.2.2.2.2.1 o (by omega)).1]; simp
            have hkl : k < (oP A.1.2 o).length := by
              rw [hk2] at h6
              by_cases hc : k < (oP A.1.2 o).length
              · exact hc
              · exact absurd h6 (nI_nlt (by omega) (by omega))
            have e2 : oK A.1.2 o = 2 := by
              have hk2' := hA.2.1.2.2.1 o
              by_cases e2 : oK A.1.2 o = 2
              · exact e2
              · rw [(hA.2.1.2.2.2.2.2.2.2.2.2.2.1 o (by omega)).1] at hkl; simp at hkl
            have hg : (oP A.1.2 o)[k]? = some (oP A.1.2 o)[k] := List.getElem?_eq_getElem hkl
            have hp : S.1 19 (o * 16 + k) = nI (oP A.1.2 o)[k] := h.2.1.2.2.2.2.1 o o1 o2 e2 _ _ (by rw [List.getElem?_map, hg]; rfl)
            have ex : nI o * 16 + p2 - 5 = nI (o * 16 + k) := by
              rw [hk1, m_c16, pk_mul, nI_add, m_c5, pk_sub (by omega)]
              congr 1
            rw [if_pos h6, if_pos (Or.inr h6), ex, m_gd (m_inb (by omega) (by omega)), m_lt, m_ix (by omega), hp, d_a, if_neg n0, if_neg n1, if_neg n2, if_neg n3, if_neg n4, hk2, nI_clamp (by omega), List.getD_eq_getElem?_getD, hg]; rfl
          · rw [if_neg h6, if_neg (fun w => by rcases w with w | w; exact h5 w; exact h6 w)]; rfl
  · rw [if_neg e, if_neg e, m_bvx]; rfl
theorem G_about_k {p1 p2 : Int32} (h : KI B J S A) (hA : AI B J A) : ∃ v S2, F_X6_about B p1 p2 S = some (.inl (some v), S2) ∧ KI B J S2 A ∧ z_kf S S2 ∧ S2.2.1 60 0 = nI (A_about A p1 p2).1 ∧ ((A_about A p1 p2).1 = 0 → v = (A_about A p1 p2).2) := by
  have bad : ∀ (v1 v2 c : Int32) (n : Nat) (w : Int32), c = nI n → n ≠ 0 → n < 5 → ∃ v S2, F_X6_about_54 B v1 v2 c S = some (.inl (some v), S2) ∧ KI B J S2 A ∧ z_kf S S2 ∧ S2.2.1 60 0 = nI n ∧ (n = 0 → v = w) := fun v1 v2 c n w hc hn hn5 => by
    have hc0 : ¬ c ≤ 0 := by rw [hc, m_c0]; exact nI_ge (by omega) (by omega)
    rw [F_X6_about_54, m_lt, z_thr, if_neg hc0]
    exact ⟨_, _, rfl, KI_thr h, z_kf_ui (by decide), by rw [z_thr, hc], fun z => absurd z hn⟩
  unfold F_X6_about A_about
  rw [h.2.2.2.1]
  by_cases e : A.2.2.1 = 0
  · rw [if_pos e, if_pos e, K_isObject hA.2.1.2 h.2.1.2, m_bn]
    by_cases e1 : d_k A.1.2 p1 = 0
    · rw [if_pos e1, if_pos rfl, if_pos e1, F_X6_about_41]
      exact bad _ _ 2 2 _ rfl (by omega) (by omega)
    · obtain ⟨o, ho, o1, o2, o3⟩ := dk_some e1
      subst ho
      have hk : oK A.1.2 o ≠ 0 := by omega
      have hkK := hA.2.1.2.2.1 o
      have f96 : (96 : Int32) + nI o = nI (96 + o) := by rw [m_c96, nI_add]
      have f157 : (157 : Int32) + nI o = nI (157 + o) := by rw [m_c157, nI_add]
      have f218 : (218 : Int32) + nI o = nI (218 + o) := by rw [m_c218, nI_add]
      have f279 : (279 : Int32) + nI o = nI (279 + o) := by rw [m_c279, nI_add]
      have v0 : S.1 61 (96 + o) = nI (oK A.1.2 o) := h.2.1.2.1 o o1 o2
      obtain ⟨v1, v2, v3⟩ := h.2.1.2.2.1 o o1 o2 hk
      rw [if_neg e1, if_neg (by decide), if_neg e1, nI_clamp (by omega)]
      have good : (p2 < 5 ∨ p2 - 5 < nI (oP A.1.2 o).length) → ¬ p2 < 0 → ∃ v S2, F_X6_about_54 B (nI o) p2 0 S = some (.inl (some v), S2) ∧ KI B J S2 A ∧ z_kf S S2 ∧ S2.2.1 60 0 = nI 0 ∧ (0 = 0 → v = d_a A.1.2 o p2) := fun h6 h1 => by
        rw [F_X6_about_54, m_lt, z_thr, if_pos (by decide)]
        have fin : ∀ v, v = d_a A.1.2 o p2 → ∃ v' S2, some ((.inl (some v) : z_O), z_ui S 60 0 0) = some (.inl (some v'), S2) ∧ KI B J S2 A ∧ z_kf S S2 ∧ S2.2.1 60 0 = nI 0 ∧ (0 = 0 → v' = d_a A.1.2 o p2) := fun v hv => ⟨v, _, rfl, KI_thr h, z_kf_ui (by decide), z_thr, fun _ => hv⟩
        by_cases h5 : p2 < 5
        · obtain rfl | rfl | rfl | rfl | rfl := i32_small h1 h5
          · rw [if_pos rfl, f96, m_gd (m_inb (by omega) (by omega)), m_lt, m_ix (by omega), show (z_ui S 60 0 0).1 61 (96 + o) = nI (oK A.1.2 o) from v0]
            exact fin _ rfl
          · rw [if_neg (by decide), if_pos rfl, f157, m_gd (m_inb (by omega) (by omega)), m_lt, m_ix (by omega), show (z_ui S 60 0 0).1 61 (157 + o) = nI (oL A.1.2 o) from v1]
            exact fin _ rfl
          · rw [if_neg (by decide), if_neg (by decide), if_pos rfl, f218, m_gd (m_inb (by omega) (by omega)), m_lt, m_ix (by omega), show (z_ui S 60 0 0).1 61 (218 + o) = nI (oZ A.1.2 o) from v2]
            exact fin _ rfl
          · rw [if_neg (by decide), if_neg (by decide), if_neg (by decide), if_pos rfl, f279, m_gd (m_inb (by omega) (by omega)), m_lt, m_ix (by omega), show (z_ui S 60 0 0).1 61 (279 + o) = nI (oP A.1.2 o).length from v3]
            exact fin _ rfl
          · rw [if_neg (by decide), if_neg (by decide), if_neg (by decide), if_neg (by decide), if_pos rfl, f96, m_gd (m_inb (by omega) (by omega)), m_lt, m_ix (i := 96 + o) (by omega), show (z_ui S 60 0 0).1 61 (96 + o) = nI (oK A.1.2 o) from v0]
            obtain ⟨k1, k2, k3⟩ := k_01 hkK
            by_cases e2 : oK A.1.2 o = 2
            · have hz := im_z hA.2.1.2 e2
              rw [if_pos (k3.mpr e2), f218, m_gd (m_inb (by omega) (by omega)), m_lt, m_ix (by omega), show (z_ui S 60 0 0).1 61 (218 + o) = nI (oZ A.1.2 o) from v2, K_tailOf (by omega), m_bn, F_X6_about_175]
              exact fin _ (by show _ = nI (o_tl A.1.2 o); rw [o_tl, if_pos e2])
            · rw [if_neg (fun z => e2 (k3.mp z)), F_X6_about_175]
              exact fin _ (by show _ = nI (o_tl A.1.2 o); rw [o_tl, if_neg e2]; rfl)
        · obtain ⟨n0, n1, n2, n3, n4⟩ := five_ne h5
          have h6' : p2 - 5 < nI (oP A.1.2 o).length := by
            rcases h6 with w | w
            · exact absurd w h5
            · exact w
          obtain ⟨k, hk1, hk2, hk3⟩ := i32_five h5
          have hle : (oP A.1.2 o).length ≤ 16 := by
            by_cases e2 : oK A.1.2 o = 2
            · exact im_len hA.2.1.2 e2
            · rw [(hA.2.1.2.2.2.2.2.2.2.2.2.2.1 o (by omega)).1]; simp
          have hkl : k < (oP A.1.2 o).length := by
            rw [hk2] at h6'
            by_cases hc : k < (oP A.1.2 o).length
            · exact hc
            · exact absurd h6' (nI_nlt (by omega) (by omega))
          have e2 : oK A.1.2 o = 2 := by
            by_cases e2 : oK A.1.2 o = 2
            · exact e2
            · rw [(hA.2.1.2.2.2.2.2.2.2.2.2.2.1 o (by omega)).1] at hkl; simp at hkl
          have hg : (oP A.1.2 o)[k]? = some (oP A.1.2 o)[k] := List.getElem?_eq_getElem hkl
          have hp : S.1 61 (340 + 16 * o + k) = nI (oP A.1.2 o)[k] := h.2.1.2.2.2.1 o o1 o2 e2 _ _ (by rw [List.getElem?_map, hg]; rfl)
          have ex : (340 : Int32) + 16 * nI o + p2 - 5 = nI (340 + 16 * o + k) := by
            rw [hk1, m_c340, m_c16, pk_mul, nI_add, nI_add, m_c5, pk_sub (by omega)]
            congr 1
          rw [if_neg n0, if_neg n1, if_neg n2, if_neg n3, if_neg n4, ex, m_gd (m_inb (by omega) (by omega)), m_lt, m_ix (by omega), show (z_ui S 60 0 0).1 61 (340 + 16 * o + k) = nI (oP A.1.2 o)[k] from hp]
          exact fin _ (by rw [d_a, if_neg n0, if_neg n1, if_neg n2, if_neg n3, if_neg n4, hk2, nI_clamp (by omega), List.getD_eq_getElem?_getD, hg]; rfl)
      by_cases h1 : p2 < 0
      · have h5 : p2 < 5 := by
          rw [Int32.lt_iff_toInt_lt] at h1 ⊢
          have e3 : (5 : Int32).toInt = 5 := by decide
          have e4 : (0 : Int32).toInt = 0 := by decide
          omega
        rw [if_pos h5, if_pos h1, F_X6_about_45, if_neg (Int32.not_le.mpr h1)]
        exact bad _ _ 3 3 _ rfl (by omega) (by omega)
      · rw [if_neg h1]
        by_cases h5 : p2 < 5
        · rw [if_pos h5, if_pos (Or.inl h5), F_X6_about_45, if_pos (Int32.not_lt.mp h1)]
          exact good (Or.inl h5) h1
        · rw [if_neg h5, f279, m_gd (m_inb (by omega) (by omega)), m_lt, m_ix (i := 279 + o) (by omega), v3]
          by_cases h6 : p2 - 5 < nI (oP A.1.2 o).length
          · rw [if_pos h6, if_pos (Or.inr h6), F_X6_about_45, if_pos (Int32.not_lt.mp h1)]
            exact good (Or.inr h6) h1
          · rw [if_neg h6, if_neg (fun w => by rcases w with w | w; exact h5 w; exact h6 w), F_X6_about_41]
            exact bad _ _ 2 2 _ rfl (by omega) (by omega)
  · rw [if_neg e, if_neg e]
    exact bad _ _ 1 1 _ rfl (by omega) (by omega)
end CL3
