/-! Bytes laid in the class. -/
theorem l_ix {b : Nat} : ∀ {L : List Nat} {i : Nat}, L.Nodup → L[i]? = some b → L.idxOf b = i
  | [], i, _, h => by simp at h
  | a :: L, 0, _, h => by
    have : a = b := by simpa using h
    rw [this]; simp [List.idxOf_cons]
  | a :: L, i + 1, hn, h => by
    rw [List.getElem?_cons_succ] at h
    obtain ⟨n1, n2⟩ := List.nodup_cons.mp hn
    have hne : a ≠ b := fun e => n1 (e ▸ List.mem_of_getElem? h)
    have := l_ix n2 h
    rw [List.idxOf_cons, this, beq_eq_false_iff_ne.mpr hne]; rfl
def o_chg (O : m_O) (o z : Nat) (P : List Nat) (W : Nat → Int32) : m_O := (oK O, oL O, va_up (oZ O) o z, oU O, va_up (oP O) o P, (fun b r => if b ∈ P then W (128 * P.idxOf b + r) else oD O b r), va_up (oE O) o (fun r => W (128 * P.length + r)))
section LA
variable {B J : Nat} {S S' S0 S1 S2 : z_S} {A : m_A} {T T' T1 T2 : m_T} {O O' : m_O} {f f' g : Nat → Int32}
theorem C_data2 {o z : Nat} (o2 : o ≤ 60) (hz : z < 2 ^ 31) (h15 : S.1 15 o = 1) (h17 : S.1 17 o = nI z) : F_X2_dataOf B 14 (nI o) S = some (.inl (some (nI (m_dt z))), S) := by
  unfold F_X2_dataOf
  rw [m_gd (m_inb (by omega) (by omega)), m_lt, m_ix (by omega), h15, if_pos rfl, m_gd (m_inb (by omega) (by omega)), m_lt, h17, C_dataBlocks hz, m_bn, F_X2_dataOf_23]
theorem C_tail2 {o z : Nat} (o2 : o ≤ 60) (hz : z < 2 ^ 31) (h15 : S.1 15 o = 1) (h17 : S.1 17 o = nI z) : F_X2_tailOf B 14 (nI o) S = some (.inl (some (nI (m_tl z))), S) := by
  unfold F_X2_tailOf
  rw [m_gd (m_inb (by omega) (by omega)), m_lt, m_ix (by omega), h15, if_pos rfl, m_gd (m_inb (by omega) (by omega)), m_lt, h17, C_tailBytes hz, m_bn, F_X2_tailOf_23]
theorem C_lay_loop {o z : Nat} {P : List Nat} (hB : B ≤ 96) (o2 : o ≤ 60) (hz : z ≤ 2048) (h15 : S.1 15 o = 1) (h17 : S.1 17 o = nI z) (hl : m_l (S.1 19) (o * 16) (P.map nI)) (hP : P.length = m_dt z) (hn : P.Nodup) (hp : ∀ b ∈ P, b < B) : ∀ (m n i : Nat) (d : Nat → Int32), i + m = P.length → m < n → (∀ j b, P[j]? = some b → j < i → ∀ r, r < 128 → d (b * 128 + r) = S.1 59 (128 * j + r)) → (∀ b, b ∉ P.take i → ∀ r, r < 128 → d (b * 128 + r) = S.1 20 (b * 128 + r)) →
    ∃ d' e, F_X0_lay_12 B 1 59 2048 n (nI o) (nI P.length) (nI i) (z_ua S 20 d) = some (.inl none, z_ua (z_ua S 20 d') 21 e) ∧ (∀ j b, P[j]? = some b → ∀ r, r < 128 → d' (b * 128 + r) = S.1 59 (128 * j + r)) ∧ (∀ b, b ∉ P → ∀ r, r < 128 → d' (b * 128 + r) = S.1 20 (b * 128 + r)) ∧ (∀ r, r < m_tl z → e (o * 40 + r) = S.1 59 (128 * P.length + r)) ∧ ∀ j, (j < o * 40 ∨ o * 40 + 40 ≤ j) → e j = S.1 21 j
  | 0, n, i, d, hm, hn', h1, h2 => by
    obtain ⟨n, rfl⟩ : ∃ j, n = j + 1 := ⟨n - 1, by omega⟩
    have hl16 := dt_le hz
    have htl := tl_le (z := z)
    obtain ⟨d1, d2⟩ := dt_tl (z := z)
    have hi : i = P.length := by omega
    subst hi
    have ht : F_X2_tailOf B (1 + 13) (nI o) (z_ua S 20 d) = some (.inl (some (nI (m_tl z))), z_ua S 20 d) := C_tail2 o2 (by omega) (by rw [m_ua1, if_neg (by decide)]; exact h15) (by rw [m_ua1, if_neg (by decide)]; exact h17)
    have c1 : nI o * 40 = nI (o * 40) := by rw [m_c40, pk_mul]
    have c2 : nI P.length * 128 = nI (P.length * 128) := by rw [m_c128, pk_mul]
    have room : P.length * 128 + m_tl z ≤ 2048 := by
      by_cases e : m_tl z = 0
      · omega
      · have := d2 e; omega
    have e59 : (z_ua S 20 d).1 59 = S.1 59 := by rw [m_ua1, if_neg (by decide)]
    have e21 : (z_ua S 20 d).1 (1 + 20) = S.1 21 := by rw [m_ua1, if_neg (by decide)]
    refine ⟨d, va_cpy (S.1 59) (S.1 21) (P.length * 128) (o * 40) (m_tl z), by rw [F_X0_lay_12, if_pos (nI_le (by omega) (by omega)), ht, m_bn, c1, c2, m_gd (m_cok room (by omega) (by omega) (by omega)), m_lt, m_ix (by omega), m_ix (by omega), m_ix (by omega), e59, e21], fun j b hj => h1 j b hj (List.getElem?_eq_some_iff.mp hj).1, ?_, fun r hr => ?_, fun j hj => pk_cpy_out (by omega)⟩
    · rw [List.take_length] at h2; exact h2
    · rw [pk_cpy_in (by omega) (by omega), show P.length * 128 + (o * 40 + r - o * 40) = 128 * P.length + r by omega]
  | m + 1, n, i, d, hm, hn', h1, h2 => by
    obtain ⟨n, rfl⟩ : ∃ j, n = j + 1 := ⟨n - 1, by omega⟩
    have hl16 := dt_le hz
    have hlt : i < P.length := by omega
    have hget : P[i]? = some P[i] := List.getElem?_eq_getElem hlt
    have hv : S.1 19 (o * 16 + i) = nI P[i] := hl _ _ (by rw [List.getElem?_map, hget]; rfl)
    have hb := hp _ (List.getElem_mem hlt)
    generalize P[i] = b at hget hv hb
    have c0 : nI o * 16 + nI i = nI (o * 16 + i) := by rw [m_c16, pk_mul, nI_add]
    have c1 : nI b * 128 = nI (b * 128) := by rw [m_c128, pk_mul]
    have c2 : nI i * 128 = nI (i * 128) := by rw [m_c128, pk_mul]
    have et : P.take (i + 1) = P.take i ++ [b] := by rw [List.take_succ, hget]; rfl
    obtain ⟨d', e, a1, a2, a3, a4, a5⟩ := C_lay_loop hB o2 hz h15 h17 hl hP hn hp m n (i + 1) (va_cpy (S.1 59) d (i * 128) (b * 128) 128) (by omega) (by omega) (fun j b' hj hji r hr => by
      by_cases ej : j = i
      · have : b' = b := by rw [ej, hget] at hj; exact (Option.some.inj hj).symm
        rw [this, ej, pk_cpy_in (by omega) (by omega), show i * 128 + (b * 128 + r - b * 128) = 128 * i + r by omega]
      · have hne : b' ≠ b := fun e => ej (by rw [← l_ix hn hj, ← l_ix hn hget, e])
        rw [pk_cpy_out (by omega)]
        exact h1 j b' hj (by omega) r hr) (fun b' hb' r hr => by
      rw [et] at hb'
      have hne : b' ≠ b := fun e => hb' (by rw [e]; simp)
      rw [pk_cpy_out (by omega)]
      exact h2 b' (fun w => hb' (List.mem_append_left _ w)) r hr)
    refine ⟨d', e, ?_, a2, a3, a4, a5⟩
    have e59 : (z_ua S 20 d).1 59 = S.1 59 := by rw [m_ua1, if_neg (by decide)]
    have e19 : (z_ua S 20 d).1 (1 + 18) = S.1 19 := by rw [m_ua1, if_neg (by decide)]
    have e20 : (z_ua S 20 d).1 (1 + 19) = d := z_ua_at
    rw [F_X0_lay_12, if_neg (nI_ge (by omega) (by omega)), c0, m_gd (m_inb (by omega) (by omega)), m_lt, m_ix (i := o * 16 + i) (by omega), e19, hv, c1, c2, m_c128, m_gd (m_cok (by omega) (by omega) (by omega) (by omega)), m_lt, m_ix (i := b * 128) (by omega), m_ix (i := i * 128) (by omega), m_ix (i := 128) (by omega), e59, e20, nI_1]
    have e3 : z_ua (z_ua S 20 d) (1 + 19) (va_cpy (S.1 59) d (i * 128) (b * 128) 128) = z_ua S 20 (va_cpy (S.1 59) d (i * 128) (b * 128) 128) := z_ua_ua
    rw [e3]
    exact a1
theorem C_lay {o z : Nat} {P : List Nat} (hB : B ≤ 96) (o2 : o ≤ 60) (hz : z ≤ 2048) (h15 : S.1 15 o = 1) (h17 : S.1 17 o = nI z) (hl : m_l (S.1 19) (o * 16) (P.map nI)) (hP : P.length = m_dt z) (hn : P.Nodup) (hp : ∀ b ∈ P, b < B) :
    ∃ d' e, F_X0_lay B 1 59 2048 (nI o) S = some (.inl none, z_ua (z_ua S 20 d') 21 e) ∧ (∀ j b, P[j]? = some b → ∀ r, r < 128 → d' (b * 128 + r) = S.1 59 (128 * j + r)) ∧ (∀ b, b ∉ P → ∀ r, r < 128 → d' (b * 128 + r) = S.1 20 (b * 128 + r)) ∧ (∀ r, r < m_tl z → e (o * 40 + r) = S.1 59 (128 * P.length + r)) ∧ ∀ j, (j < o * 40 ∨ o * 40 + 40 ≤ j) → e j = S.1 21 j := by
  have hl16 := dt_le hz
  obtain ⟨d', e, a1, a2⟩ := C_lay_loop (S := S) hB o2 hz h15 h17 hl hP hn hp P.length z_n 0 (S.1 20) (by omega) (by unfold z_n; omega) (fun j b _ hj => by omega) (fun _ _ _ _ => rfl)
  refine ⟨d', e, ?_, a2⟩
  rw [z_ua_same] at a1
  have a1' : F_X0_lay_12 B 1 59 2048 z_n (nI o) (nI P.length) 0 S = _ := a1
  unfold F_X0_lay
  rw [show (1 + 13) = 14 from rfl, C_data2 o2 (by omega) h15 h17, m_bn, ← hP, a1']
/-- the objects behind a change of a file, in the class -/
theorem c_O_chg {o z : Nat} {P : List Nat} {W : Nat → Int32} (hi : m_im B T O) (h : c_O B 1 S T O) (hk : oK O o = 2) (o1 : 1 ≤ o) (o2 : o ≤ 60) (hz : z ≤ 2048) (hP : P.length = m_dt z) (hn : P.Nodup) (hp : ∀ b ∈ P, b < B) (hu : ∀ b, b ∉ P → tU T2 b = 4 → tU T b = 4) (hW : ∀ k, k < 2048 → rB (g k) (W k))
    (e15 : S'.1 15 = S.1 15) (e16 : S'.1 16 = S.1 16) (e17 : S'.1 17 = upd (S.1 17) o (nI z)) (e18 : S'.1 18 = S.1 18) (e19 : m_l (S'.1 19) (o * 16) (P.map nI)) (e19' : ∀ j, (j < o * 16 ∨ o * 16 + 16 ≤ j) → S'.1 19 j = S.1 19 j) (e20 : ∀ j b, P[j]? = some b → ∀ r, r < 128 → S'.1 20 (b * 128 + r) = g (128 * j + r)) (e20' : ∀ b, b ∉ P → ∀ r, r < 128 → S'.1 20 (b * 128 + r) = S.1 20 (b * 128 + r)) (e21 : ∀ r, r < m_tl z → S'.1 21 (o * 40 + r) = g (128 * P.length + r)) (e21' : ∀ j, (j < o * 40 ∨ o * 40 + 40 ≤ j) → S'.1 21 j = S.1 21 j) : c_O B 1 S' T2 (o_chg O o z P W) := by
  have hl16 := dt_le hz
  obtain ⟨d1, d2⟩ := dt_tl (z := z)
  obtain ⟨g1, g2, g3, g4, g5, g6⟩ := h
  have Zo : oZ (o_chg O o z P W) o = z := l_up_s
  have Zn : ∀ x, x ≠ o → oZ (o_chg O o z P W) x = oZ O x := fun x hx => l_up_n hx
  have Po : oP (o_chg O o z P W) o = P := l_up_s
  have Pn : ∀ x, x ≠ o → oP (o_chg O o z P W) x = oP O x := fun x hx => l_up_n hx
  have Eo : oE (o_chg O o z P W) o = fun r => W (128 * P.length + r) := l_up_s
  have En : ∀ x, x ≠ o → oE (o_chg O o z P W) x = oE O x := fun x hx => l_up_n hx
  refine ⟨fun x x1 x2 => ?_, fun x x1 x2 hx => ⟨?_, ?_⟩, fun x x1 x2 hx => ?_, fun x x1 x2 hx => ?_, fun b hb hub r hr => ?_, fun x x1 x2 hx r hr => ?_⟩
  · show S'.1 15 x = _
    rw [e15]; exact g1 x x1 x2
  · show S'.1 16 x = _
    rw [e16]; exact (g2 x x1 x2 hx).1
  · show S'.1 17 x = _
    rw [e17]
    by_cases e : x = o
    · rw [e, pk_us, Zo]
    · rw [pk_un e, Zn x e]; exact (g2 x x1 x2 hx).2
  · show S'.1 18 x = _
    rw [e18]; exact g3 x x1 x2 hx
  · show m_l (S'.1 19) _ _
    by_cases e : x = o
    · rw [e, Po]; exact e19
    · rw [Pn x e]
      have := im_len hi hx
      exact m_l_kept (g4 x x1 x2 hx) (fun j hj => e19' _ (by rw [List.length_map] at hj; omega))
  · show rB (S'.1 20 _) (if b ∈ P then W (128 * P.idxOf b + r) else oD O b r)
    by_cases e : b ∈ P
    · obtain ⟨j, hj⟩ := List.getElem?_of_mem e
      have hjl := (List.getElem?_eq_some_iff.mp hj).1
      rw [if_pos e, l_ix hn hj, e20 j b hj r hr]
      exact hW _ (by omega)
    · rw [if_neg e, e20' b e r hr]
      exact g5 b hb (hu b e hub) r hr
  · show rB (S'.1 21 _) _
    by_cases e : x = o
    · subst e
      rw [Zo] at hr
      rw [Eo, e21 r hr]
      have := d2 (by omega)
      exact hW _ (by omega)
    · rw [Zn x e] at hr
      have := tl_le (z := oZ O x)
      rw [En x e, e21' _ (by omega)]
      exact g6 x x1 x2 hx r hr
end LA
