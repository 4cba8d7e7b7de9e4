/-! Bytes: gathered, and laid again, in the class. -/
/-- behind a file's end its last block is zero -/
def m_z (O : m_O) : Prop := ∀ o, oK O o = 2 → ∀ i b r, (oP O o)[i]? = some b → r < 128 → oZ O o ≤ 128 * i + r → oD O b r = 0
def o_W (O : m_O) (o : Nat) : Nat → Int32 := fun k => if k < oZ O o then d_b O o k else 0
theorem rB_0 : rB 0 0 := ⟨by decide, by decide⟩
theorem dt_tl {z : Nat} : z ≤ 128 * m_dt z + m_tl z ∧ (m_tl z ≠ 0 → z = 128 * m_dt z + m_tl z) := by
  have h1 := Nat.div_add_mod z 128
  have h2 := Nat.mod_lt z (show 0 < 128 by omega)
  by_cases e0 : m_tl z = 0
  · refine ⟨?_, fun h => absurd e0 h⟩
    unfold m_dt
    rw [e0]
    by_cases e : 0 < z % 128
    · rw [if_pos ⟨e, rfl⟩]; omega
    · rw [if_neg (fun w => e w.1)]; omega
  · have e1 : m_tl z = z % 128 := by
      unfold m_tl at e0 ⊢
      split
      · rfl
      · rename_i hn; rw [if_neg hn] at e0; exact absurd rfl e0
    have e2 : m_dt z = z / 128 := by
      unfold m_dt
      rw [if_neg (fun w => e0 w.2)]; rfl
    rw [e1, e2]
    exact ⟨by omega, fun _ => by omega⟩
section BY
variable {B J : Nat} {S S' S0 S1 S2 : z_S} {A : m_A} {T T' T1 T2 : m_T} {O O' : m_O} {f f' g : Nat → Int32}
theorem C_fill_loop {m1 : Nat} (hm : m1 < 2 ^ 31) : ∀ (m n i : Nat) (S : z_S), i + m = m1 → m < n → ∃ g, F_J7_fill_031fb_5 B 59 m1 n 0 (nI i) (nI m1) S = some (.inl none, z_ua S 59 g) ∧ (∀ j, i ≤ j → j < m1 → g j = 0) ∧ ∀ j, j < i → g j = S.1 59 j
  | 0, n, i, S, hi, hn => by
    obtain ⟨n, rfl⟩ : ∃ j, n = j + 1 := ⟨n - 1, by omega⟩
    exact ⟨S.1 59, by rw [F_J7_fill_031fb_5, if_pos (nI_le (by omega) (by omega)), z_ua_same], fun j _ _ => by omega, fun _ _ => rfl⟩
  | m + 1, n, i, S, hi, hn => by
    obtain ⟨n, rfl⟩ : ∃ j, n = j + 1 := ⟨n - 1, by omega⟩
    obtain ⟨g, a1, a2, a3⟩ := C_fill_loop hm m n (i + 1) (z_ua S 59 (upd (S.1 59) i 0)) (by omega) (by omega)
    refine ⟨g, ?_, fun j h1 h2 => ?_, fun j hj => ?_⟩
    · rw [F_J7_fill_031fb_5, if_neg (nI_ge (by omega) (by omega)), m_gd (m_inb (by omega) (by omega)), m_lt, m_ix (by omega), nI_1, show vp_nar .byte 0 = 0 from rfl, a1, z_ua_ua]
    · by_cases e : j = i
      · rw [e, a3 i (by omega), z_ua_at, pk_us]
      · exact a2 j (by omega) h2
    · rw [a3 j (by omega), z_ua_at, pk_un (by omega)]
theorem C_gather_loop {o : Nat} (hB : B ≤ 96) (hi : m_im B T O) (h : c_O B 1 S T O) (hz : m_z O) (o1 : 1 ≤ o) (o2 : o ≤ 60) (hk : oK O o = 2) : ∀ (m n i : Nat) (g : Nat → Int32), i + m = (oP O o).length → m < n → (∀ j, j < 2048 → rB (g j) (if j < 128 * i then o_W O o j else 0)) →
    ∃ g', F_X0_gather_17 B 1 59 2048 n (nI o) (nI (oP O o).length) (nI i) (z_ua S 59 g) = some (.inl none, z_ua S 59 g') ∧ ∀ j, j < 2048 → rB (g' j) (o_W O o j)
  | 0, n, i, g, hm, hn, hg => by
    obtain ⟨n, rfl⟩ : ∃ j, n = j + 1 := ⟨n - 1, by omega⟩
    have hl16 := im_len hi hk
    have hlen := (hi.2.2.2.2.2.2.2.2.1 o hk).1
    have htl := tl_le (z := oZ O o)
    have hz2 := im_z hi hk
    obtain ⟨d1, d2⟩ := dt_tl (z := oZ O o)
    have hc : c_O B 1 (z_ua S 59 g) T O := c_O_cg h (fun a h1 h2 => by rw [m_ua1, if_neg (by omega)])
    have ht := C_tailOf hi hc o1 o2 (by omega)
    have ot : o_tl O o = m_tl (oZ O o) := if_pos hk
    rw [ot] at ht
    have c1 : nI o * 40 = nI (o * 40) := by rw [m_c40, pk_mul]
    have c2 : nI (oP O o).length * 128 = nI ((oP O o).length * 128) := by rw [m_c128, pk_mul]
    have room : (oP O o).length * 128 + m_tl (oZ O o) ≤ 2048 := by
      by_cases e : m_tl (oZ O o) = 0
      · omega
      · have := d2 e; omega
    refine ⟨_, by rw [F_X0_gather_17, if_pos (nI_le (by omega) (by omega)), ht, m_bn, c1, c2, m_gd (m_cok (by omega) room (by omega) (by omega)), m_lt, m_ix (by omega), m_ix (by omega), m_ix (by omega), z_ua_ua], fun j hj => ?_⟩
    by_cases e1 : j < (oP O o).length * 128
    · rw [pk_cpy_out (Or.inl e1), z_ua_at]
      have := hg j hj
      rw [if_pos (by omega)] at this
      exact this
    · by_cases e2 : j < (oP O o).length * 128 + m_tl (oZ O o)
      · rw [pk_cpy_in (by omega) e2, m_ua1, if_neg (by decide)]
        have e3 := d2 (by omega)
        have hj2 : j < oZ O o := by omega
        unfold o_W d_b
        rw [if_pos hj2, if_pos (by omega), show j % 128 = j - (oP O o).length * 128 by omega]
        exact h.2.2.2.2.2 o o1 o2 hk _ (by omega)
      · rw [pk_cpy_out (Or.inr (by omega)), z_ua_at]
        have := hg j hj
        rw [if_neg (by omega)] at this
        unfold o_W
        rw [if_neg (by omega)]
        exact this
  | m + 1, n, i, g, hm, hn, hg => by
    obtain ⟨n, rfl⟩ : ∃ j, n = j + 1 := ⟨n - 1, by omega⟩
    have hl16 := im_len hi hk
    have hlt : i < (oP O o).length := by omega
    have hget : (oP O o)[i]? = some (oP O o)[i] := List.getElem?_eq_getElem hlt
    have hp : S.1 19 (o * 16 + i) = nI (oP O o)[i] := h.2.2.2.1 o o1 o2 hk _ _ (by rw [List.getElem?_map, hget]; rfl)
    obtain ⟨b1, b2, b3⟩ := hi.2.2.2.2.2.2.2.2.2.2.2.2.2.2.2.1 o hk _ (List.getElem_mem hlt)
    have hD : ∀ r, r < 128 → o_W O o (128 * i + r) = oD O (oP O o)[i] r := fun r hr => by
      unfold o_W d_b
      by_cases e : 128 * i + r < oZ O o
      · rw [if_pos e, if_neg (by omega), show (128 * i + r) / 128 = i by omega, show (128 * i + r) % 128 = r by omega, List.getD_eq_getElem?_getD, hget]; rfl
      · rw [if_neg e]; exact (hz o hk i _ r hget hr (by omega)).symm
    generalize (oP O o)[i] = b at hp b1 b2 b3 hD
    have c0 : nI o * 16 + nI i = nI (o * 16 + i) := by rw [m_c16, pk_mul, nI_add]
    have c1 : nI b * 128 = nI (b * 128) := by rw [m_c128, pk_mul]
    have c2 : nI i * 128 = nI (i * 128) := by rw [m_c128, pk_mul]
    obtain ⟨g', a1, a2⟩ := C_gather_loop hB hi h hz o1 o2 hk m n (i + 1) (va_cpy (S.1 20) g (b * 128) (i * 128) 128) (by omega) (by omega) (fun j hj => by
      by_cases e1 : j < i * 128
      · rw [pk_cpy_out (Or.inl e1), if_pos (by omega)]
        have := hg j hj
        rw [if_pos (by omega)] at this
        exact this
      · by_cases e2 : j < i * 128 + 128
        · rw [pk_cpy_in (by omega) e2, if_pos (by omega), show j = 128 * i + (j - i * 128) by omega, hD _ (by omega), show b * 128 + (128 * i + (j - i * 128) - i * 128) = b * 128 + (j - i * 128) by omega]
          exact h.2.2.2.2.1 b b2 b3 _ (by omega)
        · rw [pk_cpy_out (Or.inr (by omega)), if_neg (by omega)]
          have := hg j hj
          rw [if_neg (by omega)] at this
          exact this)
    refine ⟨g', ?_, a2⟩
    have e20 : (z_ua S 59 g).1 (1 + 19) = S.1 20 := by rw [m_ua1, if_neg (by decide)]
    have e19 : (z_ua S 59 g).1 (1 + 18) = S.1 19 := by rw [m_ua1, if_neg (by decide)]
    rw [F_X0_gather_17, if_neg (nI_ge (by omega) (by omega)), c0, m_gd (m_inb (by omega) (by omega)), m_lt, m_ix (i := o * 16 + i) (by omega), e19, hp, c1, c2, m_c128, m_gd (m_cok (by omega) (by omega) (by omega) (by omega)), m_lt, m_ix (i := b * 128) (by omega), m_ix (i := i * 128) (by omega), m_ix (i := 128) (by omega), e20, z_ua_at, z_ua_ua, nI_1]
    exact a1
theorem C_gather {o : Nat} (hB : B ≤ 96) (hi : m_im B T O) (h : c_O B 1 S T O) (hz : m_z O) (o1 : 1 ≤ o) (o2 : o ≤ 60) (hk : oK O o = 2) : ∃ g, F_X0_gather B 1 59 2048 (nI o) S = some (.inl none, z_ua S 59 g) ∧ ∀ j, j < 2048 → rB (g j) (o_W O o j) := by
  have hl16 := im_len hi hk
  obtain ⟨g, a1, a2, -⟩ := C_fill_loop (B := B) (m1 := 2048) (by omega) 2048 z_n 0 S (by omega) (by unfold z_n; omega)
  have a1' : F_J7_fill_031fb B 59 2048 0 S = some (.inl none, z_ua S 59 g) := a1
  obtain ⟨g', b1, b2⟩ := C_gather_loop hB hi h hz o1 o2 hk (oP O o).length z_n 0 g (by omega) (by unfold z_n; omega) (fun j hj => by rw [a2 j (by omega) hj, if_neg (by omega)]; exact rB_0)
  have b1' : F_X0_gather_17 B 1 59 2048 z_n (nI o) (nI (oP O o).length) 0 (z_ua S 59 g) = _ := b1
  refine ⟨g', ?_, b2⟩
  unfold F_X0_gather
  rw [C_dataOf hi h o1 o2 (by omega), m_bn, a1', m_bo, b1']
end BY
