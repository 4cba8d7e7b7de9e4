/-! A file changes: the reference. -/
section KL
variable {B J : Nat} {S S' S0 S1 S2 : z_S} {A : m_A} {T T' T1 T2 : m_T} {O O' : m_O} {f f' g : Nat → Int32}
theorem K_gather_loop {o : Nat} (hB : B ≤ 96) (hi : m_im B T O) (h : k_O B (S.1 61) T O) (o1 : 1 ≤ o) (o2 : o ≤ 60) (hk : oK O o = 2) : ∀ (m n i : Nat) (g : Nat → Int32), i + m = 2560 → m < n → (∀ j, j < i → g j = o_W O o j) → ∃ g', F_X6_gather_2 B n (nI o) (nI i) (z_ua S 64 g) = some (.inl none, z_ua S 64 g') ∧ ∀ j, j < 2560 → g' j = o_W O o j
  | 0, n, i, g, hm, hn, hg => by
    obtain ⟨n, rfl⟩ : ∃ j, n = j + 1 := ⟨n - 1, by omega⟩
    exact ⟨g, by rw [F_X6_gather_2, if_pos (by rw [show (2560 : Int32) = nI 2560 from rfl]; exact nI_le (by omega) (by omega))], fun j hj => hg j (by omega)⟩
  | m + 1, n, i, g, hm, hn, hg => by
    obtain ⟨n, rfl⟩ : ∃ j, n = j + 1 := ⟨n - 1, by omega⟩
    have hz2 := im_z hi hk
    have e218 : (218 : Int32) + nI o = nI (218 + o) := by rw [m_c218, nI_add]
    have e61 : (z_ua S 64 g).1 61 = S.1 61 := by rw [m_ua1, if_neg (by decide)]
    obtain ⟨g', a1, a2⟩ := K_gather_loop hB hi h o1 o2 hk m n (i + 1) (upd g i (o_W O o i)) (by omega) (by omega) (fun j hj => by
      by_cases e : j = i
      · rw [e, pk_us]
      · rw [pk_un e]; exact hg j (by omega))
    refine ⟨g', ?_, a2⟩
    rw [F_X6_gather_2, if_neg (by rw [show (2560 : Int32) = nI 2560 from rfl]; exact nI_ge (by omega) (by omega)), e218, m_gd (m_inb (by omega) (by omega)), m_lt, m_ix (by omega), e61, (h.2.1 o o1 o2 (by omega)).2.1]
    by_cases e : oZ O o ≤ i
    · have w0 : o_W O o i = 0 := if_neg (by omega)
      rw [w0] at a1
      rw [if_pos (nI_le e (by omega)), F_X6_gather_38, m_gd (m_inb (by omega) (by omega)), m_lt, m_ix (by omega), z_ua_at, z_ua_ua, nI_1]
      exact a1
    · have w0 : o_W O o i = d_b O o i := if_pos (by omega)
      rw [w0] at a1
      rw [if_neg (nI_ge (by omega) (by omega)), K_byteOf hB hi (by rw [e61]; exact h) o1 o2 hk (by omega), m_bn, F_X6_gather_38, m_gd (m_inb (by omega) (by omega)), m_lt, m_ix (by omega), z_ua_at, z_ua_ua, nI_1]
      exact a1
theorem K_gather {o : Nat} (hB : B ≤ 96) (hi : m_im B T O) (h : k_O B (S.1 61) T O) (o1 : 1 ≤ o) (o2 : o ≤ 60) (hk : oK O o = 2) : ∃ g, F_X6_gather B (nI o) S = some (.inl none, z_ua S 64 g) ∧ ∀ j, j < 2560 → g j = o_W O o j := by
  have := K_gather_loop hB hi h o1 o2 hk 2560 z_n 0 (S.1 64) (by omega) (by unfold z_n; omega) (fun j hj => by omega)
  rw [z_ua_same] at this
  exact this
theorem K_dataL {o w : Nat} {v2 v3 v4 : Int32} {P : List Nat} (hB : B ≤ 96) (hB1 : 1 ≤ B) (o1 : 1 ≤ o) (o2 : o ≤ 60) (hw : w ≤ 16) (hP : P.length ≤ 16) (h0 : S.2.1 60 1 = nI B) (h7 : S.2.1 60 7 = 0) (hok : m_ok B T) (hp : ∀ b ∈ P, b < B) (hn : P.Nodup) (hp4 : ∀ b ∈ P, 1 ≤ b ∧ b < B ∧ tU T b = 4) (hT : k_T B 0 0 f T) (hc : f (279 + o) = nI P.length) (hl : m_l f (340 + 16 * o) (P.map nI)) :
    (∀ q, a_data B T P w = some q → ∃ f', F_X6_lay_32 B z_n (nI o) v2 v3 v4 (nI w) (z_ua S 61 f) = F_X6_lay_185 B z_n (nI o) v2 v3 v4 (nI w) 0 (z_ua S 61 f') ∧ k_T B 0 0 f' q.1 ∧ f' (279 + o) = nI w ∧ m_l f' (340 + 16 * o) (q.2.map nI) ∧ k_D o f f') ∧ (a_data B T P w = none → ∃ f', F_X6_lay_32 B z_n (nI o) v2 v3 v4 (nI w) (z_ua S 61 f) = some (.inl none, z_ui (z_ua S 61 f') 60 7 1)) := by
  have hz : z_n = 99999 + 1 := rfl
  have h7' : ∀ g, (z_ua S 61 g).2.1 60 7 = 0 := fun _ => h7
  have e279 : (279 : Int32) + nI o = nI (279 + o) := by rw [m_c279, nI_add]
  by_cases e : P.length ≤ w
  · obtain ⟨g1, g2⟩ := K_lay_grow (v2 := v2) (v3 := v3) (v4 := v4) hB hB1 o1 o2 hw h0 h7 (w - P.length) z_n f T P (by omega) (by unfold z_n; omega) hok hT hc hl
    refine ⟨fun q ha => ?_, fun ha => g2 (by unfold a_data at ha; rw [if_pos e] at ha; exact ha)⟩
    have ha' : a_tk B (w - P.length) T P = some (q.1, q.2) := by unfold a_data at ha; rw [if_pos e] at ha; exact ha
    obtain ⟨f', a1, a2, a3, a4, a5⟩ := g1 q.1 q.2 ha'
    refine ⟨f', ?_, a2, a3, a4, a5⟩
    have l122 : F_X6_lay_122 B z_n (nI o) v2 v3 v4 (nI w) (z_ua S 61 f') = F_X6_lay_185 B z_n (nI o) v2 v3 v4 (nI w) 0 (z_ua S 61 f') := by
      rw [hz, F_X6_lay_122, e279, m_gd (m_inb (by omega) (by omega)), m_lt, m_ix (by omega), z_ua_at, a3, if_pos (nI_le (by omega) (by omega)), hz]
    rw [a1, F_X6_lay_114, if_pos (h7' _), l122]
  · have ha : a_data B T P w = some (a_rel (P.drop w).reverse T, P.take w) := by unfold a_data; rw [if_neg e]
    refine ⟨fun q hq => ?_, fun hq => by rw [ha] at hq; cases hq⟩
    rw [ha] at hq
    have := Option.some.inj hq
    subst this
    obtain ⟨f', a1, a2, a3, a4, a5⟩ := K_lay_free (S := S) (w := w) (v2 := v2) (v3 := v3) (v4 := v4) (P := P) hB o1 o2 hP hp (P.length - w) z_n f T (by omega) (by unfold z_n; omega) hT (by rw [hc]; congr 1; omega) hl
    rw [show w + (P.length - w) = P.length by omega, List.take_length] at a2
    have l32 : F_X6_lay_32 B z_n (nI o) v2 v3 v4 (nI w) (z_ua S 61 f) = F_X6_lay_114 B (nI o) v2 v3 v4 (nI w) (z_ua S 61 f) := by
      rw [hz, F_X6_lay_32, e279, m_gd (m_inb (by omega) (by omega)), m_lt, m_ix (by omega), z_ua_at, hc, if_pos (nI_le (by omega) (by omega))]
    refine ⟨f', by rw [l32, F_X6_lay_114, if_pos (h7' _), a1], a2, a3, ?_, a5⟩
    intro i x hx
    refine a4 i x ?_
    rw [List.map_take, List.getElem?_take] at hx
    split at hx
    · exact hx
    · cases hx
theorem K_lay_bytes {o z : Nat} {v3 v4 : Int32} {P : List Nat} {W : Nat → Int32} (hB : B ≤ 96) (o1 : 1 ≤ o) (o2 : o ≤ 60) (hz : z ≤ 2048) (hP : P.length = m_dt z) (hn : P.Nodup) (hp : ∀ b ∈ P, b < B) (hW : ∀ k, k < z → S.1 64 k = W k) (hW0 : ∀ k, z ≤ k → k < 2048 → W k = 0) : ∀ (m n i : Nat) (f : Nat → Int32), i + m = 128 * P.length → m < n → m_l f (340 + 16 * o) (P.map nI) →
    ∃ f', F_X6_lay_185 B n (nI o) (nI z) v3 v4 (nI P.length) (nI i) (z_ua S 61 f) = F_X6_lay_262 B z_n (nI o) (nI z) v3 v4 (nI P.length) 0 (z_ua S 61 f') ∧ (∀ j, j < 13078 → f' j = f j) ∧ (∀ j b r, P[j]? = some b → r < 128 → f' (13078 + 128 * b + r) = if i ≤ 128 * j + r then W (128 * j + r) else f (13078 + 128 * b + r)) ∧ ∀ b, b ∉ P → ∀ r, r < 128 → f' (13078 + 128 * b + r) = f (13078 + 128 * b + r)
  | 0, n, i, f, hm, hn', hl => by
    obtain ⟨n, rfl⟩ : ∃ j, n = j + 1 := ⟨n - 1, by omega⟩
    have hd16 := dt_le hz
    have c1 : (128 : Int32) * nI P.length = nI (128 * P.length) := by rw [m_c128, pk_mul]
    refine ⟨f, by rw [F_X6_lay_185, c1, if_pos (nI_le (by omega) (by omega))], fun _ _ => rfl, fun j b r hj hr => ?_, fun _ _ _ _ => rfl⟩
    have := (List.getElem?_eq_some_iff.mp hj).1
    rw [if_neg (by omega)]
  | m + 1, n, i, f, hm, hn', hl => by
    obtain ⟨n, rfl⟩ : ∃ j, n = j + 1 := ⟨n - 1, by omega⟩
    have hd16 := dt_le hz
    have c1 : (128 : Int32) * nI P.length = nI (128 * P.length) := by rw [m_c128, pk_mul]
    have hlt : i / 128 < P.length := by omega
    have hget : P[i / 128]? = some P[i / 128] := List.getElem?_eq_getElem hlt
    have hv : f (340 + 16 * o + i / 128) = nI P[i / 128] := hl _ _ (by rw [List.getElem?_map, hget]; rfl)
    have hb := hp _ (List.getElem_mem hlt)
    generalize P[i / 128] = b at hget hv hb
    have c16 : (340 : Int32) + 16 * nI o + nI (i / 128) = nI (340 + 16 * o + i / 128) := by rw [m_c340, m_c16, pk_mul, nI_add, nI_add]
    have e2 : nI i - nI (i / 128) * 128 = nI (i % 128) := by rw [← d128 (by omega), r128 (by omega)]
    have c128 : (13078 : Int32) + 128 * nI b + nI (i % 128) = nI (13078 + 128 * b + i % 128) := by rw [m_c13078, m_c128, pk_mul, nI_add, nI_add]
    obtain ⟨f', a1, a2, a3, a4⟩ := K_lay_bytes (v3 := v3) (v4 := v4) hB o1 o2 hz hP hn hp hW hW0 m n (i + 1) (upd f (13078 + 128 * b + i % 128) (W i)) (by omega) (by omega) (m_l_kept hl (fun k hk => by rw [List.length_map] at hk; exact pk_un (by omega)))
    refine ⟨f', ?_, fun j hj => by rw [a2 j hj, pk_un (by omega)], fun j b' r hj hr => ?_, fun b' hb' r hr => ?_⟩
    · rw [F_X6_lay_185, c1, if_neg (nI_ge (by omega) (by omega)), d128 (by omega), c16, m_gd (m_inb (by omega) (by omega)), m_lt, m_ix (i := 340 + 16 * o + i / 128) (by omega), z_ua_at, hv, e2, c128]
      by_cases e : z ≤ i
      · rw [hW0 i e (by omega)] at a1
        rw [if_pos (nI_le e (by omega)), F_X6_lay_252, m_gd (m_inb (by omega) (by omega)), m_lt, m_ix (by omega), z_ua_at, z_ua_ua, nI_1]
        exact a1
      · have e64 : (z_ua S 61 f).1 64 = S.1 64 := by rw [m_ua1, if_neg (by decide)]
        rw [if_neg (nI_ge (by omega) (by omega)), m_gd (m_inb (by omega) (by omega)), m_lt, m_ix (i := i) (by omega), e64, hW i (by omega), F_X6_lay_252, m_gd (m_inb (by omega) (by omega)), m_lt, m_ix (by omega), z_ua_at, z_ua_ua, nI_1]
        exact a1
    · rw [a3 j b' r hj hr]
      by_cases e : i + 1 ≤ 128 * j + r
      · rw [if_pos e, if_pos (by omega)]
      · rw [if_neg e]
        by_cases e3 : i ≤ 128 * j + r
        · have ei : i = 128 * j + r := by omega
          have ej : i / 128 = j := by omega
          have er : i % 128 = r := by omega
          have eb : b' = b := by rw [ej] at hget; rw [hget] at hj; exact (Option.some.inj hj).symm
          rw [if_pos e3, eb, er, pk_us, ei]
        · rw [if_neg e3]
          refine pk_un (fun w => ?_)
          have eb : b' = b := by omega
          have er : r = i % 128 := by omega
          have : j = i / 128 := by rw [← l_ix hn hj, ← l_ix hn hget, eb]
          omega
    · rw [a4 b' hb' r hr, pk_un]
      intro w
      have : b' = b := by omega
      exact hb' (this ▸ List.mem_of_getElem? hget)
theorem K_lay_tail {o z : Nat} {v3 v4 : Int32} {L : Nat} {W : Nat → Int32} (o1 : 1 ≤ o) (o2 : o ≤ 60) (hz : z ≤ 2048) (hL : L = m_dt z) (hW : ∀ k, k < z → S.1 64 k = W k) : ∀ (m n i : Nat) (f : Nat → Int32), i + m = 40 → m < n →
    ∃ f', F_X6_lay_262 B n (nI o) (nI z) v3 v4 (nI L) (nI i) (z_ua S 61 f) = F_X6_lay_262 B (n - m) (nI o) (nI z) v3 v4 (nI L) 40 (z_ua S 61 f') ∧ (∀ j, (j < 1316 + 40 * o + i ∨ 1356 + 40 * o ≤ j) → f' j = f j) ∧ ∀ r, i ≤ r → r < 40 → f' (1316 + 40 * o + r) = if r < m_tl z then W (128 * L + r) else 0
  | 0, n, i, f, hm, hn => by
    have : i = 40 := by omega
    subst this
    exact ⟨f, rfl, fun _ _ => rfl, fun r h1 h2 => by omega⟩
  | m + 1, n, i, f, hm, hn => by
    obtain ⟨n, rfl⟩ : ∃ j, n = j + 1 := ⟨n - 1, by omega⟩
    have hd16 := dt_le hz
    have htl := tl_le (z := z)
    obtain ⟨d1, d2⟩ := dt_tl (z := z)
    have c40 : (1316 : Int32) + 40 * nI o + nI i = nI (1316 + 40 * o + i) := by rw [m_c1316, m_c40, pk_mul, nI_add, nI_add]
    have c1 : (128 : Int32) * nI L + nI i = nI (128 * L + i) := by rw [m_c128, pk_mul, nI_add]
    obtain ⟨f', a1, a2, a3⟩ := K_lay_tail (v3 := v3) (v4 := v4) o1 o2 hz hL hW m n (i + 1) (upd f (1316 + 40 * o + i) (if i < m_tl z then W (128 * L + i) else 0)) (by omega) (by omega)
    refine ⟨f', ?_, fun j hj => by rw [a2 j (by omega), pk_un (by omega)], fun r h1 h2 => ?_⟩
    · rw [show n + 1 - (m + 1) = n - m by omega, ← a1, F_X6_lay_262, if_neg (by rw [m_c40]; exact nI_ge (by omega) (by omega)), K_tailOf (by omega), m_bn]
      by_cases e : i < m_tl z
      · have := d2 (by omega)
        have e64 : (z_ua S 61 f).1 64 = S.1 64 := by rw [m_ua1, if_neg (by decide)]
        rw [if_neg (nI_ge e (by omega)), c1, m_gd (m_inb (by omega) (by omega)), m_lt, m_ix (i := 128 * L + i) (by omega), e64, hW _ (by omega), c40, F_X6_lay_311, m_gd (m_inb (by omega) (by omega)), m_lt, m_ix (by omega), z_ua_at, z_ua_ua, nI_1, if_pos e]
      · rw [if_pos (nI_le (by omega) (by omega)), c40, F_X6_lay_311, m_gd (m_inb (by omega) (by omega)), m_lt, m_ix (by omega), z_ua_at, z_ua_ua, nI_1, if_neg e]
    · by_cases e : r = i
      · rw [e, a2 _ (by omega), pk_us]
      · exact a3 r (by omega) h2
end KL
