/-! What changes where only entries change: link, unlink, move. -/
section EN
variable {B J : Nat} {S S' S0 : z_S} {A : m_A} {T T1 T2 : m_T} {O O' : m_O} {f f' : Nat → Int32}
theorem im_ent (hi : m_im B T O) (eK : oK O' = oK O) (eP : oP O' = oP O) (eZ : ∀ x, oK O x = 2 → oZ O' x = oZ O x) (h4 : u4 T T2) (h1 : ∀ b, 1 ≤ b → tU T2 b ≠ 1) (hm : ∀ y, y.1 / 1000 % 4 ≠ 1 → (y ∈ flat T2 ↔ y ∈ flat T)) (hE : ∀ y ∈ flat T2, y.1 / 1000 % 4 = 1 → 1 ≤ y.1 / 4000 ∧ oK O (y.1 / 4000) = 1 ∧ y.2.1 = 3 ∧ ∃ t, y.2.2 = some t ∧ 1 ≤ t ∧ t ≤ 60 ∧ oK O t ≠ 0)
    (hZ : ∀ x, oK O x = 1 → oZ O' x = m_nE (flat T2) x) (hL : ∀ x, oK O x ≠ 0 → oL O' x = m_nT (flat T2) x + if x = 1 then 1 else 0) (hT : ∀ x, oK O x = 1 → m_nT (flat T2) x = if x = 1 then 0 else 1) (hU : oU O' 1 = none) (hU2 : ∀ y ∈ flat T2, ∀ o, y.2.2 = some o → oK O o = 1 → oU O' o = some (y.1 / 4000)) (hP : ∀ o, oK O o = 1 → ∃ L, m_path O' o L ∧ L.Nodup ∧ ∀ d ∈ L, oK O d = 1) : m_im B T2 O' := by
  obtain ⟨c1, c2, c3, c4, c5, c6, c7, c8, c9, c10, c11, c12, c13, c14, c15, c16, c17, c18⟩ := hi
  unfold m_im
  rw [eK, eP]
  refine ⟨h1, c2, c3, c4, fun y hy => ?_, fun x hx => ?_, fun x hx hl => ?_, fun x hx hl => ?_, fun x hx => ?_, fun x hx => ⟨(c10 x hx).1, hZ x hx⟩, hL, hT, hU, hU2, hP, fun x hx b hb => ?_, c17, c18⟩
  · by_cases e : y.1 / 1000 % 4 = 1
    · obtain ⟨q0, q1, q2, q3⟩ := hE y hy e
      unfold m_it
      rw [eK, eP, q1, e]
      exact ⟨q0, (by decide), fun z => (by cases z), fun _ => ⟨rfl, q2, q3⟩, fun z => (by cases z), fun z => (by cases z)⟩
    · have hit := c5 y ((hm y e).mp hy)
      unfold m_it
      rw [eK, eP]
      refine ⟨hit.1, hit.2.1, hit.2.2.1, fun z => absurd z e, hit.2.2.2.2.1, fun z => ?_⟩
      obtain ⟨a1, a2⟩ := hit.2.2.2.2.2 z
      exact ⟨a1, by rw [eZ _ a1]; exact a2⟩
  · exact (hm _ (by show (x * 4000) / 1000 % 4 ≠ 1; omega)).mpr (c6 x hx)
  · exact (hm _ (by show (x * 4000 + 2000) / 1000 % 4 ≠ 1; omega)).mpr (c7 x hx hl)
  · rw [eZ x hx] at hl ⊢
    exact (hm _ (by show (x * 4000 + 3000) / 1000 % 4 ≠ 1; omega)).mpr (c8 x hx hl)
  · rw [eZ x hx]; exact c9 x hx
  · obtain ⟨b1, b2, b3⟩ := c16 x hx b hb
    exact ⟨b1, b2, (h4 b).mpr b3⟩
theorem c_O_ent (h : c_O B 1 S T O) (eK : oK O' = oK O) (eP : oP O' = oP O) (eD : oD O' = oD O) (eE : oE O' = oE O) (eZ : ∀ x, oK O x = 2 → oZ O' x = oZ O x) (h4 : u4 T T2) (e15 : S'.1 15 = S.1 15) (e19 : S'.1 19 = S.1 19) (e20 : S'.1 20 = S.1 20) (e21 : S'.1 21 = S.1 21) (hL : ∀ x, 1 ≤ x → x ≤ 60 → oK O x ≠ 0 → S'.1 16 x = nI (oL O' x) ∧ S'.1 17 x = nI (oZ O' x)) (hU : ∀ x, 1 ≤ x → x ≤ 60 → oK O x = 1 → S'.1 18 x = oI (oU O' x)) : c_O B 1 S' T2 O' := by
  obtain ⟨g1, g2, g3, g4, g5, g6⟩ := h
  unfold c_O
  rw [eK, eP, eD, eE]
  refine ⟨fun x x1 x2 => ?_, hL, hU, fun x x1 x2 hx => ?_, fun b hb hu r hr => ?_, fun x x1 x2 hx r hr => ?_⟩
  · show S'.1 15 x = _
    rw [e15]; exact g1 x x1 x2
  · show m_l (S'.1 19) _ _
    rw [e19]; exact g4 x x1 x2 hx
  · show rB (S'.1 20 _) _
    rw [e20]; exact g5 b hb ((h4 b).mp hu) r hr
  · show rB (S'.1 21 _) _
    rw [eZ x hx] at hr
    rw [e21]; exact g6 x x1 x2 hx r hr
theorem k_O_ent (hB : B ≤ 96) (hi : m_im B T O) (h : k_O B f T O) (eK : oK O' = oK O) (eP : oP O' = oP O) (eD : oD O' = oD O) (eE : oE O' = oE O) (eZ : ∀ x, oK O x = 2 → oZ O' x = oZ O x) (h4 : u4 T T2) (he : ∀ j, ((96 ≤ j ∧ j < 157) ∨ (279 ≤ j ∧ j < 3756) ∨ 13078 ≤ j) → f' j = f j) (hL : ∀ x, 1 ≤ x → x ≤ 60 → oK O x ≠ 0 → f' (157 + x) = nI (oL O' x) ∧ f' (218 + x) = nI (oZ O' x)) : k_O B f' T2 O' := by
  obtain ⟨g1, g2, g3, g4, g5⟩ := h
  unfold k_O
  rw [eK, eP, eD, eE]
  refine ⟨fun x x1 x2 => ?_, fun x x1 x2 hx => ?_, fun x x1 x2 hx => ?_, fun b hb hu r hr => ?_, fun x x1 x2 hx ht r hr => ?_⟩
  · rw [he _ (by omega)]; exact g1 x x1 x2
  · obtain ⟨a1, a2⟩ := hL x x1 x2 hx
    exact ⟨a1, a2, by rw [he _ (by omega)]; exact (g2 x x1 x2 hx).2.2⟩
  · have hl : (oP O x).length ≤ 16 := by
      have := hi.2.2.2.2.2.2.2.2.1 x hx
      have h2 : m_dt (oZ O x) ≤ 16 := by
        have := this.2
        unfold m_dt
        split <;> omega
      omega
    refine m_l_kept (g3 x x1 x2 hx) (fun j hj => ?_)
    rw [List.length_map] at hj
    exact he _ (by omega)
  · rw [he _ (by omega)]; exact g4 b hb ((h4 b).mp hu) r hr
  · rw [eZ x hx] at ht ⊢
    rw [he _ (by omega)]; exact g5 x x1 x2 hx ht r hr
/-- a class's call that is granted ends -/
theorem CI_fin (h : CI B J S0 A) (hr : rC B A.1.1 S0 S) (hT : c_T B 2 S T2) (fo : ∀ a, (a < 15 ∨ 21 < a) → S'.1 a = S.1 a) (f2 : S'.2 = S.2) (hO : c_O B 1 S' T2 O') : CI B J S' ((T2, O'), A.2) ∧ z_cf S0 S' := by
  have hO0 : c_O B 1 S A.1.1 A.1.2 := rC_O hr rfl h.2.1.2
  have e2 : ∀ a k, S'.2.1 a k = S.2.1 a k := fun a k => by rw [f2]
  obtain ⟨c1, c2⟩ := h.2.2.1
  obtain ⟨⟨a1, a2, a3⟩, -, -, p1, p2, p3, p4, p5, p6⟩ := h
  have g2 := hr.2.1
  have g1 := hr.1
  have rr : ∀ a, (21 < a ∧ a ≤ 42) ∨ a = 56 → S'.1 a = S0.1 a := fun a ha => by rw [fo a (by omega)]; exact g1 a (by omega) (by omega)
  have r2 : ∀ a k, k ≠ 12 ∨ (a ≠ 2 ∧ a ≠ 43) → S'.2.1 a k = S0.2.1 a k := fun a k ha => by rw [e2]; exact g2 a k (by omega)
  refine ⟨⟨⟨by rw [r2 _ _ (by omega)]; exact a1, by rw [r2 _ _ (by omega)]; exact a2, by rw [r2 _ _ (by omega)]; exact a3⟩, ⟨c_T_cg hT (fun a h1 h2 => fo a (by omega)) (by rw [e2]) (by rw [e2]), hO⟩, ⟨c_T_cg c1 (fun a h1 h2 => rr a (by omega)) (r2 _ _ (by omega)) (r2 _ _ (by omega)), c_O_cg c2 (fun a h1 h2 => rr a (by omega))⟩, by rw [r2 _ _ (by omega)]; exact p1, by rw [r2 _ _ (by omega)]; exact p2, by rw [r2 _ _ (by omega)]; exact p3, by rw [r2 _ _ (by omega)]; exact p4, by rw [r2 _ _ (by omega)]; exact p5, fun b hb => by rw [rr 56 (by omega)]; exact p6 b hb⟩, ?_⟩
  exact z_cf_tr (rC_cf hr) ⟨fun a ha => fo a (by omega), fun a k _ => e2 a k, by rw [f2]⟩
end EN
