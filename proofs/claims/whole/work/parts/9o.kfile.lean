/-! A file changes: the reference, whole. -/
section KF
variable {B J : Nat} {S S' S0 S1 S2 : z_S} {A : m_A} {T T' T1 T2 : m_T} {O O' : m_O} {f f' g : Nat → Int32}
theorem k_O_chg {o z : Nat} {P : List Nat} {W : Nat → Int32} (hB : B ≤ 96) (hi : m_im B T O) (h : k_O B f T O) (hk : oK O o = 2) (o1 : 1 ≤ o) (o2 : o ≤ 60) (hz : z ≤ 2048) (hP : P.length = m_dt z) (hn : P.Nodup) (hu : ∀ b, b ∉ P → tU T2 b = 4 → tU T b = 4)
    (he : ∀ j, (96 ≤ j ∧ j < 3756) → j ≠ 218 + o → j ≠ 279 + o → ¬ (340 + 16 * o ≤ j ∧ j < 356 + 16 * o) → ¬ (1316 + 40 * o ≤ j ∧ j < 1356 + 40 * o) → f' j = f j) (e218 : f' (218 + o) = nI z) (e279 : f' (279 + o) = nI (m_dt z)) (e340 : m_l f' (340 + 16 * o) (P.map nI)) (eD : ∀ j b r, P[j]? = some b → r < 128 → f' (13078 + 128 * b + r) = W (128 * j + r)) (eD' : ∀ b, b ∉ P → ∀ r, r < 128 → f' (13078 + 128 * b + r) = f (13078 + 128 * b + r)) (eE : ∀ r, r < 40 → f' (1316 + 40 * o + r) = if r < m_tl z then W (128 * P.length + r) else 0) : k_O B f' T2 (o_chg O o z P W) := by
  have hl16 := dt_le hz
  obtain ⟨g1, g2, g3, g4, g5⟩ := h
  have Zo : oZ (o_chg O o z P W) o = z := l_up_s
  have Zn : ∀ x, x ≠ o → oZ (o_chg O o z P W) x = oZ O x := fun x hx => l_up_n hx
  have Po : oP (o_chg O o z P W) o = P := l_up_s
  have Pn : ∀ x, x ≠ o → oP (o_chg O o z P W) x = oP O x := fun x hx => l_up_n hx
  have Eo : oE (o_chg O o z P W) o = fun r => W (128 * P.length + r) := l_up_s
  have En : ∀ x, x ≠ o → oE (o_chg O o z P W) x = oE O x := fun x hx => l_up_n hx
  refine ⟨fun x x1 x2 => ?_, fun x x1 x2 hx => ?_, fun x x1 x2 hx => ?_, fun b hb hub r hr => ?_, fun x x1 x2 hx ht r hr => ?_⟩
  · rw [he _ (by omega) (by omega) (by omega) (by omega) (by omega)]; exact g1 x x1 x2
  · obtain ⟨q1, q2, q3⟩ := g2 x x1 x2 hx
    refine ⟨by rw [he _ (by omega) (by omega) (by omega) (by omega) (by omega)]; exact q1, ?_, ?_⟩
    · by_cases e : x = o
      · rw [e, Zo]; exact e218
      · rw [Zn x e, he _ (by omega) (by omega) (by omega) (by omega) (by omega)]; exact q2
    · by_cases e : x = o
      · rw [e, Po, hP]; exact e279
      · rw [Pn x e, he _ (by omega) (by omega) (by omega) (by omega) (by omega)]; exact q3
  · by_cases e : x = o
    · rw [e, Po]; exact e340
    · rw [Pn x e]
      have := im_len hi hx
      refine m_l_kept (g3 x x1 x2 hx) (fun j hj => ?_)
      rw [List.length_map] at hj
      exact he _ (by omega) (by omega) (by omega) (by omega) (by omega)
  · show _ = if b ∈ P then W (128 * P.idxOf b + r) else oD O b r
    by_cases e : b ∈ P
    · obtain ⟨j, hj⟩ := List.getElem?_of_mem e
      rw [if_pos e, l_ix hn hj, eD j b r hj hr]
    · rw [if_neg e, eD' b e r hr]
      exact g4 b hb (hu b e hub) r hr
  · by_cases e : x = o
    · subst e
      rw [Zo, Eo]; exact eE r hr
    · rw [Zn x e] at ht ⊢
      rw [En x e, he _ (by omega) (by omega) (by omega) (by omega) (by omega)]
      exact g5 x x1 x2 hx ht r hr
theorem K_lay {o z : Nat} {W : Nat → Int32} (h : KI B J S0 A) (hA : AI B J A) (hr : rK S0 S) (e61 : S.1 61 = S0.1 61) (h7 : S.2.1 60 7 = 0) (hk : oK A.1.2 o = 2) (o1 : 1 ≤ o) (o2 : o ≤ 60) (hz : z ≤ 2048) (hW : ∀ k, k < z → S.1 64 k = W k) (hW0 : ∀ k, z ≤ k → k < 2048 → W k = 0) :
    (∀ q, a_chg B A.1.1 A.1.2 o z W = some q → ∃ f', F_X6_lay B (nI o) (nI z) S = some (.inl none, z_ua S 61 f') ∧ k_T B 0 0 f' q.1 ∧ k_O B f' q.1 q.2 ∧ f' (218 + o) = nI z ∧ f' (279 + o) = nI (m_dt z)) ∧ (a_chg B A.1.1 A.1.2 o z W = none → ∃ S', F_X6_lay B (nI o) (nI z) S = some (.inl none, S') ∧ rK S0 S' ∧ ¬ S'.2.1 60 7 = 0) := by
  have hB := hA.1.2.1
  have hB1 : 1 ≤ B := by have := hA.1.1; omega
  have hok := hA.2.1.1
  have hi := hA.2.1.2
  have hl16 := im_len hi hk
  have hd16 := dt_le hz
  have htl := tl_le (z := z)
  have htl2 := tl_le (z := oZ A.1.2 o)
  have hz2 := im_z hi hk
  have hT0 : k_T B 0 0 (S.1 61) A.1.1 := by rw [e61]; exact h.2.1.1
  have hO0 : k_O B (S.1 61) A.1.1 A.1.2 := by rw [e61]; exact h.2.1.2
  have hB0 : S.2.1 60 1 = nI B := (hr.2.1 60 1 (by decide)).trans h.1.1
  have hp4 := hi.2.2.2.2.2.2.2.2.2.2.2.2.2.2.2.1 o hk
  have hnd := hi.2.2.2.2.2.2.2.2.2.2.2.2.2.2.2.2.1 o hk
  have e218 : (218 : Int32) + nI o = nI (218 + o) := by rw [m_c218, nI_add]
  have e279 : (279 : Int32) + nI o = nI (279 + o) := by rw [m_c279, nI_add]
  obtain ⟨-, qZ, qP⟩ := hO0.2.1 o o1 o2 (by omega)
  obtain ⟨g1, g2⟩ := K_dataL (S := S) (f := S.1 61) (v2 := nI z) (v3 := nI (oP A.1.2 o).length) (v4 := nI (m_tl (oZ A.1.2 o))) (w := m_dt z) hB hB1 o1 o2 hd16 hl16 hB0 h7 hok (fun b hb => (hp4 b hb).2.1) hnd hp4 hT0 qP (hO0.2.2.1 o o1 o2 hk)
  rw [z_ua_same] at g1 g2
  unfold F_X6_lay
  rw [e279, m_gd (m_inb (by omega) (by omega)), m_lt, m_ix (by omega), qP, e218, m_gd (m_inb (by omega) (by omega)), m_lt, m_ix (by omega), qZ, K_tailOf (by omega), m_bn, K_datasOf (by omega), m_bn]
  have full : ∀ g, ¬ (z_ui (z_ua S 61 g) 60 7 1).2.1 60 7 = 0 := fun g => by rw [m_ui2, if_pos rfl, if_pos rfl]; decide
  have rful : ∀ g, rK S0 (z_ui (z_ua S 61 g) 60 7 1) := fun g => rK_ui (rK_ua hr) (Or.inr rfl)
  unfold a_chg
  cases hda : a_data B A.1.1 (oP A.1.2 o) (m_dt z) with
  | none =>
    obtain ⟨f1, a1⟩ := g2 hda
    rw [a1]
    exact ⟨fun q hq => (by cases hq), fun _ => ⟨_, rfl, rful _, full _⟩⟩
  | some q0 =>
    obtain ⟨⟨k1, k2, k3, k4, k5, k6, k7⟩, kk⟩ := chg_ok (W := W) hB hok hi hk o1 o2 hz hda
    obtain ⟨f1, a1, a2, a3, a4, a5⟩ := g1 q0 hda
    obtain ⟨T1, P⟩ := q0
    simp only [] at k1 k2 k3 k4 k5 k6 k7 kk a2 a3 a4
    have hPl : nI (m_dt z) = nI P.length := by rw [k3]
    obtain ⟨f2, b1, b2, b3, b4⟩ := K_lay_bytes (S := S) (v3 := nI (oP A.1.2 o).length) (v4 := nI (m_tl (oZ A.1.2 o))) hB o1 o2 hz k3 k4 (fun b hb => (k5 b hb).2.1) hW hW0 (128 * P.length) z_n 0 f1 (by omega) (by unfold z_n; omega) a4
    obtain ⟨f3, c1, c2, c3⟩ := K_lay_tail (B := B) (S := S) (v3 := nI (oP A.1.2 o).length) (v4 := nI (m_tl (oZ A.1.2 o))) o1 o2 hz k3 hW 40 z_n 0 f2 (by omega) (by unfold z_n; omega)
    have b1' : F_X6_lay_185 B z_n (nI o) (nI z) (nI (oP A.1.2 o).length) (nI (m_tl (oZ A.1.2 o))) (nI P.length) 0 (z_ua S 61 f1) = F_X6_lay_262 B z_n (nI o) (nI z) (nI (oP A.1.2 o).length) (nI (m_tl (oZ A.1.2 o))) (nI P.length) 0 (z_ua S 61 f2) := b1
    have c1' : F_X6_lay_262 B z_n (nI o) (nI z) (nI (oP A.1.2 o).length) (nI (m_tl (oZ A.1.2 o))) (nI P.length) 0 (z_ua S 61 f2) = _ := c1
    have hz40 : z_n - 40 = 99959 + 1 := rfl
    have m1 : (2 : Int32) * nI (oP A.1.2 o).length = nI (2 * (oP A.1.2 o).length) := by rw [m_c2, pk_mul]
    have m2 : (2 : Int32) * nI P.length = nI (2 * m_dt z) := by rw [m_c2, pk_mul, k3]
    have t4 : k_T B 0 0 (upd f3 (218 + o) (nI z)) T1 := k_T_fr hB a2 (fun j hj => by rw [pk_un (by omega), c2 j (by omega), b2 j (by omega)])
    obtain ⟨j1, j2⟩ := K_shape (S := S) (b := 2 * m_dt z) hB hB0 h7 k1 t4 k6 (by omega) (by omega) (by omega) (by omega) k7
    rw [show (o * 4000 + 2000) / 4000 = o by omega, show (o * 4000 + 2000) / 1000 % 4 = 2 by omega, ← m_c2] at j1 j2
    rw [a1, hPl, b1', c1', hz40, F_X6_lay_262, if_pos (by decide), e218, m_gd (m_inb (by omega) (by omega)), m_lt, m_ix (by omega), z_ua_at, z_ua_ua, m1, m2]
    cases hs2 : a_shp B T1 (o * 4000 + 2000) (2 * (oP A.1.2 o).length) (2 * m_dt z) with
    | none =>
      obtain ⟨f5, d1⟩ := j2 hs2
      rw [d1, m_bo, K_tailOf (by omega), m_bn, K_resize_full (full f5), m_bo]
      exact ⟨fun q hq => (by simp only [hs2] at hq; cases hq), fun _ => ⟨_, rfl, rful _, full _⟩⟩
    | some T2 =>
      obtain ⟨f5, d1, d2, d3⟩ := j1 T2 hs2
      obtain ⟨⟨l1, l2, l3⟩, ll⟩ := kk T2 hs2
      obtain ⟨i1, i2⟩ := K_shape (S := S) (b := m_tl z) hB hB0 h7 l1 d2 l2 htl2 htl (by omega) (by omega) l3
      rw [show (o * 4000 + 3000) / 4000 = o by omega, show (o * 4000 + 3000) / 1000 % 4 = 3 by omega, ← show (3 : Int32) = nI 3 from rfl] at i1 i2
      rw [d1, m_bo, K_tailOf (by omega), m_bn]
      cases hs3 : a_shp B T2 (o * 4000 + 3000) (m_tl (oZ A.1.2 o)) (m_tl z) with
      | none =>
        obtain ⟨f6, n1⟩ := i2 hs3
        rw [n1, m_bo]
        exact ⟨fun q hq => (by simp only [hs2, hs3] at hq; cases hq), fun _ => ⟨_, rfl, rful _, full _⟩⟩
      | some T3 =>
        obtain ⟨f6, n1, n2, n3⟩ := i1 T3 hs3
        obtain ⟨w1, w2, w3⟩ := ll T3 hs3
        rw [n1, m_bo]
        refine ⟨fun q hq => ?_, fun hq => (by simp only [hs2, hs3] at hq; cases hq)⟩
        simp only [hs2, hs3] at hq
        have hq' := Option.some.inj hq
        subst hq'
        have fr : ∀ j, ((96 ≤ j ∧ j < 3756) ∨ 13078 ≤ j) → f6 j = upd f3 (218 + o) (nI z) j := fun j hj => (n3 j hj).trans (d3 j hj)
        have x218 : f6 (218 + o) = nI z := by rw [fr _ (by omega), pk_us]
        have x279 : f6 (279 + o) = nI (m_dt z) := by rw [fr _ (by omega), pk_un (by omega), c2 _ (by omega), b2 _ (by omega)]; exact a3
        refine ⟨f6, rfl, n2, ?_, x218, x279.trans hPl⟩
        refine k_O_chg (f := S.1 61) hB hi hO0 hk o1 o2 hz k3 k4 w3 (fun j j1 j2 j3 j4 j5 => ?_) x218 x279 ?_ (fun j b r hj hr => ?_) (fun b hb r hr => ?_) (fun r hr => ?_)
        · rw [fr j (Or.inl j1), pk_un j2, c2 j (by omega), b2 j (by omega)]
          exact a5 j (Or.inl j1) j3 j4
        · refine m_l_kept a4 (fun k hk => ?_)
          rw [List.length_map] at hk
          rw [fr _ (by omega), pk_un (by omega), c2 _ (by omega), b2 _ (by omega)]
        · rw [fr _ (by omega), pk_un (by omega), c2 _ (by omega), b3 j b r hj hr, if_pos (by omega)]
        · rw [fr _ (by omega), pk_un (by omega), c2 _ (by omega), b4 b hb r hr]
          exact a5 _ (by omega) (by omega) (by omega)
        · rw [fr _ (by omega), pk_un (by omega), c3 r (by omega) hr]
end KF
