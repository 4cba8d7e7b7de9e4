/-! A file changes: the class. -/
section CF
variable {B J : Nat} {S S' S0 S1 S2 : z_S} {A : m_A} {T T' T1 T2 : m_T} {O O' : m_O} {f f' g : Nat → Int32}
theorem C_keep2 (h : CI B J S A) (hA : AI B J A) : ∃ S1, F_X5_keep B S = some (.inl none, S1) ∧ rC B A.1.1 S S1 ∧ c_T B 2 S1 A.1.1 ∧ S1.1 59 = S.1 59 := by
  obtain ⟨S1, a1, f1, t1⟩ := C_copyT (S := S) (t := 43) (u := 2) hA.1.2.1 (fun i j hi hj e => by omega) h.1.2.1
  refine ⟨S1, ?_, ⟨fun a ha _ => f1.1 a (by omega), fun a k hk => f1.2.1 a k (by omega), f1.2.2, t1 _ h.2.1.1⟩, c_T_cg h.2.1.1 (fun a _ _ => f1.1 a (by omega)) (f1.2.1 _ _ (by omega)) (f1.2.1 _ _ (by omega)), f1.1 59 (by omega)⟩
  unfold F_X5_keep
  rw [a1, m_bo]
theorem c_O_19 {o : Nat} (hi : m_im B T O) (h : c_O B 1 S T O) (hk : oK O o = 2) (hg : ∀ j, (j < o * 16 + (oP O o).length ∨ o * 16 + 16 ≤ j) → g j = S.1 19 j) : c_O B 1 (z_ua S 19 g) T O := by
  obtain ⟨g1, g2, g3, g4, g5, g6⟩ := h
  have n : ∀ a, a ≠ 19 → (z_ua S 19 g).1 a = S.1 a := fun a ha => by rw [m_ua1, if_neg ha]
  refine ⟨fun x x1 x2 => ?_, fun x x1 x2 hx => ?_, fun x x1 x2 hx => ?_, fun x x1 x2 hx => ?_, fun b hb hu r hr => ?_, fun x x1 x2 hx r hr => ?_⟩
  · rw [n _ (by decide)]; exact g1 x x1 x2
  · rw [n _ (by decide), n _ (by decide)]; exact g2 x x1 x2 hx
  · rw [n _ (by decide)]; exact g3 x x1 x2 hx
  · have hl := im_len hi hx
    rw [show (z_ua S 19 g).1 (1 + 18) = g from z_ua_at]
    refine m_l_kept (g4 x x1 x2 hx) (fun j hj => hg _ ?_)
    rw [List.length_map] at hj
    by_cases e : x = o
    · rw [e] at hj ⊢; omega
    · omega
  · rw [n _ (by decide)]; exact g5 b hb hu r hr
  · rw [n _ (by decide)]; exact g6 x x1 x2 hx r hr
theorem CI_19 {o : Nat} (h : CI B J S A) (hA : AI B J A) (hk : oK A.1.2 o = 2) (hg : ∀ j, (j < o * 16 + (oP A.1.2 o).length ∨ o * 16 + 16 ≤ j) → g j = S.1 19 j) : CI B J (z_ua S 19 g) A := by
  have hc := c_O_19 hA.2.1.2 h.2.1.2 hk hg
  have n : ∀ a, a ≠ 19 → (z_ua S 19 g).1 a = S.1 a := fun a ha => by rw [m_ua1, if_neg ha]
  obtain ⟨a1, ⟨b1, -⟩, ⟨c1, c2⟩, p1, p2, p3, p4, p5, p6⟩ := h
  exact ⟨a1, ⟨c_T_cg b1 (fun a h1 h2 => n a (by omega)) rfl rfl, hc⟩, ⟨c_T_cg c1 (fun a h1 h2 => n a (by omega)) rfl rfl, c_O_cg c2 (fun a h1 h2 => n a (by omega))⟩, p1, p2, p3, p4, p5, fun b hb => by rw [n 56 (by decide)]; exact p6 b hb⟩
theorem rC_19 {o l : Nat} (hr : rC B T S S1) (hd : d_F o l S1 S2) : rC B T (z_ua S 19 (S2.1 19)) S2 := by
  obtain ⟨h1, h2, h3, h4⟩ := hr
  obtain ⟨⟨d1, d2, d3⟩, -⟩ := hd
  have q : ∀ a, a ≤ 2 ∨ 13 < a → a ≠ 19 → S2.1 a = S1.1 a := fun a ha e => by
    have := d1 a (by omega)
    rw [m_ua1, if_neg e] at this
    exact this
  refine ⟨fun a ha h9 => ?_, fun a k hk => ?_, d3.trans h3, c_T_cg h4 (fun a x1 x2 => q a (by omega) (by omega)) (d2 _ _ (by omega)) (d2 _ _ (by omega))⟩
  · by_cases e : a = 19
    · rw [e, z_ua_at]
    · rw [m_ua1, if_neg e, q a (by omega) e]
      exact h1 a ha h9
  · exact (d2 a k (by omega)).trans (h2 a k hk)
theorem d_F_59 {o l : Nat} (hd : d_F o l S1 S2) : S2.1 59 = S1.1 59 := by
  have := hd.1.1 59 (by omega)
  rw [m_ua1, if_neg (by decide)] at this
  exact this
theorem C_changeFile {o z : Nat} {W : Nat → Int32} (h : CI B J S A) (hA : AI B J A) (hk : oK A.1.2 o = 2) (o1 : 1 ≤ o) (o2 : o ≤ 60) (hz : z ≤ 2048) (hW : ∀ k, k < 2048 → rB (S.1 59 k) (W k)) :
    (∀ q, a_chg B A.1.1 A.1.2 o z W = some q → ∃ S1, F_X5_changeFile B (nI o) (nI z) S = some (.inl none, S1) ∧ CI B J S1 (q, A.2) ∧ z_cf S S1) ∧ (a_chg B A.1.1 A.1.2 o z W = none → ∃ S1, F_X5_changeFile B (nI o) (nI z) S = some (.inr E_S, S1) ∧ CI B J S1 A ∧ z_cf S S1) := by
  have hB := hA.1.2.1
  have hB1 : 1 ≤ B := by have := hA.1.1; omega
  have hok := hA.2.1.1
  have hi := hA.2.1.2
  have hl16 := im_len hi hk
  have hd16 := dt_le hz
  have htl := tl_le (z := z)
  have htl2 := tl_le (z := oZ A.1.2 o)
  have e1 : F_X2_dataOf B 14 (nI o) S = _ := C_dataOf hi h.2.1.2 o1 o2 (by omega)
  have e2 : F_X2_tailOf B 14 (nI o) S = some (.inl (some (nI (m_tl (oZ A.1.2 o)))), S) := by
    have := C_tailOf hi h.2.1.2 o1 o2 (show oK A.1.2 o ≠ 0 by omega)
    rw [show o_tl A.1.2 o = m_tl (oZ A.1.2 o) from if_pos hk] at this
    exact this
  obtain ⟨S1, a1, r1, t1, z1⟩ := C_keep2 h hA
  have hO1 := rC_O r1 rfl h.2.1.2
  obtain ⟨cd1, cd2⟩ := C_changeData (o := o) (w := m_dt z) hB hB1 o2 hd16 hl16 hok (hi.2.2.2.2.2.2.2.2.2.2.2.2.2.2.2.2.1 o hk) (hi.2.2.2.2.2.2.2.2.2.2.2.2.2.2.2.1 o hk) t1 (hO1.2.2.2.1 o o1 o2 hk)
  unfold F_X5_changeFile
  rw [e1, m_bn, e2, m_bn, a1, m_bo, C_dataBlocks (by omega), m_bn]
  have g19 : ∀ {X : z_S}, d_F o (oP A.1.2 o).length S1 X → CI B J (z_ua S 19 (X.1 19)) A := fun {X} hd => CI_19 h hA hk (fun j hj => by
    rw [hd.2 j hj]
    exact congrFun (r1.1 19 (by omega) (by decide)) j)
  have no : ∀ {X Y : z_S}, d_F o (oP A.1.2 o).length S1 X → m_fr 2 X Y → ∃ S3, F_X5_changeFile_99 B (F_X5_changeFile_100 B) (nI o) (nI z) Y = some (.inr E_S, S3) ∧ CI B J S3 A ∧ z_cf S S3 := fun {X Y} hd hf => by
    obtain ⟨S3, c1, c2, c3⟩ := C_noRoom (g19 hd) hA (rC_tr (rC_19 r1 hd) hf)
    exact ⟨S3, by rw [F_X5_changeFile_99, F_X5_changeFile_100, c1, m_bvx], c2, z_cf_tr (z_cf_ua (by decide)) c3⟩
  unfold a_chg
  cases hda : a_data B A.1.1 (oP A.1.2 o) (m_dt z) with
  | none =>
    obtain ⟨S2, b1, b2⟩ := cd2 hda
    rw [b1, m_bn, if_pos rfl]
    exact ⟨fun q hq => (by cases hq), fun _ => no b2 m_fr_rf⟩
  | some q0 =>
    obtain ⟨⟨k1, k2, k3, k4, k5, k6, k7⟩, kk⟩ := chg_ok (W := W) hB hok hi hk o1 o2 hz hda
    obtain ⟨T1, P⟩ := q0
    obtain ⟨S2, b1, b2, b3, b4⟩ := cd1 T1 P hda
    have q2 : F_X5_keyOf B (nI o) 2 0 S2 = some (.inl (some (nI (o * 4000 + 2000))), S2) := by
      have := C_keyOf (B := B) (S := S2) (o := o) (k := 2) (n := 0)
      rw [show (o * 4 + 2) * 1000 + 0 = o * 4000 + 2000 by omega] at this
      exact this
    obtain ⟨j1, j2⟩ := C_shape (S := S2) (b := 2 * m_dt z) hB k1 b2 k6 (by omega) (by omega) (by omega) k7
    have m1 : (2 : Int32) * nI (oP A.1.2 o).length = nI (2 * (oP A.1.2 o).length) := by rw [m_c2, pk_mul]
    have m2 : (2 : Int32) * nI (m_dt z) = nI (2 * m_dt z) := by rw [m_c2, pk_mul]
    rw [b1, m_bn, if_neg (show ¬ (1 : Int32) = 0 by decide), q2, m_bn, C_dataBlocks (by omega), m_bn, m1, m2]
    simp only []
    cases hs2 : a_shp B T1 (o * 4000 + 2000) (2 * (oP A.1.2 o).length) (2 * m_dt z) with
    | none =>
      obtain ⟨S3, c1, c2⟩ := j2 hs2
      rw [c1, m_bn, if_pos rfl]
      exact ⟨fun q hq => (by cases hq), fun _ => no b3 c2⟩
    | some T2 =>
      obtain ⟨S3, c1, c2, c3⟩ := j1 T2 hs2
      obtain ⟨⟨l1, l2, l3⟩, ll⟩ := kk T2 hs2
      have q3 : F_X5_keyOf B (nI o) 3 0 S3 = some (.inl (some (nI (o * 4000 + 3000))), S3) := by
        have := C_keyOf (B := B) (S := S3) (o := o) (k := 3) (n := 0)
        rw [show (o * 4 + 3) * 1000 + 0 = o * 4000 + 3000 by omega] at this
        exact this
      obtain ⟨i1, i2⟩ := C_shape (S := S3) (b := m_tl z) hB l1 c2 l2 htl2 htl (by omega) l3
      rw [c1, m_bn, if_neg (show ¬ (1 : Int32) = 0 by decide), q3, m_bn, C_tailBytes (by omega), m_bn]
      simp only []
      cases hs3 : a_shp B T2 (o * 4000 + 3000) (m_tl (oZ A.1.2 o)) (m_tl z) with
      | none =>
        obtain ⟨S4, d1, d2⟩ := i2 hs3
        rw [d1, m_bn, if_pos rfl]
        exact ⟨fun q hq => (by cases hq), fun _ => no b3 (m_fr_tr c3 d2)⟩
      | some T3 =>
        obtain ⟨S4, d1, d2, d3⟩ := i1 T3 hs3
        obtain ⟨n1, n2, n3⟩ := ll T3 hs3
        have f4 : m_fr 2 S2 S4 := m_fr_tr c3 d3
        have r4 := rC_tr (rC_19 r1 b3) f4
        have hCI := g19 b3
        have hO4 : c_O B 1 S4 A.1.1 A.1.2 := rC_O r4 rfl hCI.2.1.2
        have e19 : S4.1 19 = S2.1 19 := f4.1 19 (by omega)
        have e59 : S4.1 59 = S.1 59 := (f4.1 59 (by omega)).trans ((d_F_59 b3).trans z1)
        have h15 : S4.1 15 o = 1 := by
          have := hO4.1 o o1 o2
          rw [hk] at this
          exact this.trans (by decide)
        obtain ⟨d', ee, y1, y2, y3, y4, y5⟩ := C_lay (B := B) (S := z_ua S4 17 (upd (S4.1 17) o (nI z))) (z := z) (P := P) hB o2 hz (by rw [m_ua1, if_neg (by decide)]; exact h15) (by rw [z_ua_at, pk_us]) (by rw [m_ua1, if_neg (by decide), e19]; exact b4) k3 k4 (fun b hb => (k5 b hb).2.1)
        have x59 : (z_ua S4 17 (upd (S4.1 17) o (nI z))).1 59 = S.1 59 := by rw [m_ua1, if_neg (by decide)]; exact e59
        have x20 : (z_ua S4 17 (upd (S4.1 17) o (nI z))).1 20 = S4.1 20 := by rw [m_ua1, if_neg (by decide)]
        have x21 : (z_ua S4 17 (upd (S4.1 17) o (nI z))).1 21 = S4.1 21 := by rw [m_ua1, if_neg (by decide)]
        rw [x59] at y2 y4
        rw [x20] at y3
        rw [x21] at y5
        rw [d1, m_bn, if_neg (show ¬ (1 : Int32) = 0 by decide), F_X5_changeFile_100, C_room (by decide), m_bv, m_gd (m_inb (by omega) (by omega)), m_lt, m_ix (by omega), y1, m_bo]
        refine ⟨fun q hq => ?_, fun hq => (by cases hq)⟩
        have hq' := Option.some.inj hq
        subst hq'
        obtain ⟨w1, w2⟩ := CI_fin (O' := o_chg A.1.2 o z P W) (S' := z_ua (z_ua (z_ua S4 17 (upd (S4.1 17) o (nI z))) 20 d') 21 ee) hCI r4 d2 (fun a ha => by rw [m_ua1, if_neg (by omega), m_ua1, if_neg (by omega), m_ua1, if_neg (by omega)]) rfl (by
          refine c_O_chg (S := S4) (g := S.1 59) hi hO4 hk o1 o2 hz k3 k4 (fun b hb => (k5 b hb).2.1) n3 hW (by simp [m_ua1]) (by simp [m_ua1]) (by simp [m_ua1]) (by simp [m_ua1]) (by simp [m_ua1]; rw [e19]; exact b4) (fun j _ => by simp [m_ua1]) (by simp [m_ua1]; exact y2) (by simp [m_ua1]; exact y3) (by simp [m_ua1]; exact y4) (by simp [m_ua1]; exact y5))
        exact ⟨_, rfl, w1, z_cf_tr (z_cf_ua (by decide)) w2⟩
end CF
