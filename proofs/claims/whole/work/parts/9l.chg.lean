/-! A file changes: abstract. -/
def a_chg (B : Nat) (T : m_T) (O : m_O) (o z : Nat) (W : Nat → Int32) : Option (m_T × m_O) := match a_data B T (oP O o) (m_dt z) with
  | none => none
  | some q => match a_shp B q.1 (o * 4000 + 2000) (2 * (oP O o).length) (2 * m_dt z) with
    | none => none
    | some T2 => match a_shp B T2 (o * 4000 + 3000) (m_tl (oZ O o)) (m_tl z) with
      | none => none
      | some T3 => some (T3, o_chg O o z q.2 W)
section CH
variable {B J : Nat} {A : m_A} {T T' T1 T2 T3 : m_T} {O O' : m_O}
theorem im_at2 {o : Nat} (hok : m_ok B T) (hi : m_im B T O) (hk : oK O o = 2) : i_at T (o * 4000 + 2000) (2 * (oP O o).length) := by
  refine ⟨fun h0 y hy e => ?_, fun h0 => hi.2.2.2.2.2.2.1 o hk (by omega)⟩
  have hit := (hi.2.2.2.2.1 y hy).2.2.2.2.1 (by rw [e]; omega)
  have hg := (hok.2.2.1 y hy).1
  rw [e, show (o * 4000 + 2000) / 4000 = o by omega] at hit
  rw [hit.2] at hg
  have : 1 ≤ 2 * (oP O o).length := hg
  omega
theorem im_at3 {o : Nat} (hok : m_ok B T) (hi : m_im B T O) (hk : oK O o = 2) : i_at T (o * 4000 + 3000) (m_tl (oZ O o)) := by
  refine ⟨fun h0 y hy e => ?_, fun h0 => hi.2.2.2.2.2.2.2.1 o hk h0⟩
  have hit := (hi.2.2.2.2.1 y hy).2.2.2.2.2 (by rw [e]; omega)
  have hg := (hok.2.2.1 y hy).1
  rw [e, show (o * 4000 + 3000) / 4000 = o by omega] at hit
  rw [hit.2] at hg
  have : 1 ≤ m_tl (oZ O o) := hg
  omega
theorem im_other {k : Nat} (hi : m_im B T O) (hk : k ≠ 4000) : ∃ y ∈ flat T, y.1 ≠ k := ⟨_, hi.2.2.2.2.2.1 1 (by rw [hi.2.2.1]; decide), by show 1 * 4000 ≠ k; omega⟩
theorem i_at_fl {k a : Nat} (h : i_at T k a) (hm : ∀ y : m_It, y.1 = k → (y ∈ flat T' ↔ y ∈ flat T)) : i_at T' k a := ⟨fun h0 y hy e => h.1 h0 y ((hm y e).mp hy) e, fun h0 => (hm _ rfl).mpr (h.2 h0)⟩
theorem im_chg {o z : Nat} {P : List Nat} {W : Nat → Int32} (hok3 : m_ok B T3) (hi : m_im B T O) (hk : oK O o = 2) (o1 : 1 ≤ o) (hz : z ≤ 2048) (hP : P.length = m_dt z) (hn : P.Nodup) (hm : ∀ y : m_It, y.1 ≠ o * 4000 + 2000 → y.1 ≠ o * 4000 + 3000 → (y ∈ flat T3 ↔ y ∈ flat T)) (a2 : i_at T3 (o * 4000 + 2000) (2 * m_dt z)) (a3 : i_at T3 (o * 4000 + 3000) (m_tl z)) (nE : ∀ x, m_nE (flat T3) x = m_nE (flat T) x) (nT : ∀ x, m_nT (flat T3) x = m_nT (flat T) x)
    (u0 : ∀ b ∈ P, 1 ≤ b ∧ b < B ∧ tU T3 b = 4) (u2 : ∀ b, b ∉ oP O o → b ∉ P → (tU T3 b = 4 ↔ tU T b = 4)) (u3 : ∀ b ∈ P, b ∈ oP O o ∨ tU T b = 0) (h1 : ∀ b, 1 ≤ b → tU T3 b ≠ 1) : m_im B T3 (o_chg O o z P W) := by
  obtain ⟨c1, c2, c3, c4, c5, c6, c7, c8, c9, c10, c11, c12, c13, c14, c15, c16, c17, c18⟩ := hi
  have Zo : oZ (o_chg O o z P W) o = z := l_up_s
  have Zn : ∀ x, x ≠ o → oZ (o_chg O o z P W) x = oZ O x := fun x hx => l_up_n hx
  have Po : oP (o_chg O o z P W) o = P := l_up_s
  have Pn : ∀ x, x ≠ o → oP (o_chg O o z P W) x = oP O x := fun x hx => l_up_n hx
  have eK : oK (o_chg O o z P W) = oK O := rfl
  have eU : oU (o_chg O o z P W) = oU O := rfl
  have eL : oL (o_chg O o z P W) = oL O := rfl
  have so3 := hok3.2.2.2
  have at2 : ∀ y ∈ flat T3, y.1 = o * 4000 + 2000 → y = (o * 4000 + 2000, 2 * m_dt z, none) := fun y hy e => by
    by_cases e0 : 2 * m_dt z = 0
    · exact absurd e (a2.1 e0 y hy)
    · exact so_uniq so3 hy (a2.2 e0) e
  have at3 : ∀ y ∈ flat T3, y.1 = o * 4000 + 3000 → y = (o * 4000 + 3000, m_tl z, none) := fun y hy e => by
    by_cases e0 : m_tl z = 0
    · exact absurd e (a3.1 e0 y hy)
    · exact so_uniq so3 hy (a3.2 e0) e
  have far : ∀ x b, oK O x = 2 → x ≠ o → b ∈ oP O x → b ∉ P ∧ b ∉ oP O o := fun x b hx hxo hb => by
    have hbo : b ∉ oP O o := fun w => hxo (c18 x o b hx hk hb w)
    refine ⟨fun w => ?_, hbo⟩
    rcases u3 b w with q | q
    · exact hbo q
    · rw [(c16 x hx b hb).2.2] at q; cases q
  refine ⟨h1, c2, c3, c4, fun y hy => ?_, fun x hx => ?_, fun x hx hl => ?_, fun x hx hl => ?_, fun x hx => ?_, fun x hx => ?_, fun x hx => ?_, fun x hx => ?_, c13, fun y hy x hx hx1 => ?_, fun x hx => ?_, fun x hx b hb => ?_, fun x hx => ?_, fun x x' b hx hx' hb hb' => ?_⟩
  · by_cases e2 : y.1 = o * 4000 + 2000
    · have q1 : y.1 / 4000 = o := by omega
      have q2 : y.1 / 1000 % 4 = 2 := by omega
      have q3 := at2 y hy e2
      unfold m_it
      rw [q1, q2, eK, Po, hP]
      exact ⟨o1, by omega, fun w => (by cases w), fun w => (by cases w), fun _ => ⟨hk, q3⟩, fun w => (by cases w)⟩
    · by_cases e3 : y.1 = o * 4000 + 3000
      · have q1 : y.1 / 4000 = o := by omega
        have q2 : y.1 / 1000 % 4 = 3 := by omega
        have q3 := at3 y hy e3
        unfold m_it
        rw [q1, q2, eK, Zo]
        exact ⟨o1, by omega, fun w => (by cases w), fun w => (by cases w), fun w => (by cases w), fun _ => ⟨hk, q3⟩⟩
      · have hit := c5 y ((hm y e2 e3).mp hy)
        refine ⟨hit.1, hit.2.1, hit.2.2.1, hit.2.2.2.1, fun w => ?_, fun w => ?_⟩
        · obtain ⟨b1, b2⟩ := hit.2.2.2.2.1 w
          have hne : y.1 / 4000 ≠ o := fun e => e2 (by rw [b2, e])
          exact ⟨b1, by rw [Pn _ hne]; exact b2⟩
        · obtain ⟨b1, b2⟩ := hit.2.2.2.2.2 w
          have hne : y.1 / 4000 ≠ o := fun e => e3 (by rw [b2, e])
          exact ⟨b1, by rw [Zn _ hne]; exact b2⟩
  · exact (hm _ (by show x * 4000 ≠ _; omega) (by show x * 4000 ≠ _; omega)).mpr (c6 x hx)
  · by_cases e : x = o
    · rw [e, Po] at hl ⊢
      rw [hP] at hl ⊢
      exact a2.2 (by omega)
    · rw [Pn x e] at hl ⊢
      exact (hm _ (by show x * 4000 + 2000 ≠ _; omega) (by show x * 4000 + 2000 ≠ _; omega)).mpr (c7 x hx hl)
  · by_cases e : x = o
    · rw [e, Zo] at hl ⊢
      exact a3.2 hl
    · rw [Zn x e] at hl ⊢
      exact (hm _ (by show x * 4000 + 3000 ≠ _; omega) (by show x * 4000 + 3000 ≠ _; omega)).mpr (c8 x hx hl)
  · by_cases e : x = o
    · rw [e, Po, Zo]; exact ⟨hP, hz⟩
    · rw [Pn x e, Zn x e]; exact c9 x hx
  · have e : x ≠ o := fun e => by rw [e] at hx; rw [eK, hk] at hx; cases hx
    rw [Pn x e, Zn x e, nE x]; exact c10 x hx
  · rw [eL, nT x]; exact c11 x hx
  · rw [nT x]; exact c12 x hx
  · have n2 : y.1 ≠ o * 4000 + 2000 := fun e => by rw [at2 y hy e] at hx; cases hx
    have n3 : y.1 ≠ o * 4000 + 3000 := fun e => by rw [at3 y hy e] at hx; cases hx
    exact c14 y ((hm y n2 n3).mp hy) x hx hx1
  · obtain ⟨L, p1, p2, p3⟩ := c15 x hx
    exact ⟨L, m_path_up (O := O) p1 (fun _ _ => rfl), p2, p3⟩
  · by_cases e : x = o
    · rw [e, Po] at hb; exact u0 b hb
    · rw [Pn x e] at hb
      obtain ⟨f1, f2⟩ := far x b hx e hb
      obtain ⟨b1, b2, b3⟩ := c16 x hx b hb
      exact ⟨b1, b2, (u2 b f2 f1).mpr b3⟩
  · by_cases e : x = o
    · rw [e, Po]; exact hn
    · rw [Pn x e]; exact c17 x hx
  · by_cases e : x = o
    · by_cases e' : x' = o
      · rw [e, e']
      · rw [e, Po] at hb
        rw [Pn x' e'] at hb'
        exact absurd hb (far x' b hx' e' hb').1
    · by_cases e' : x' = o
      · rw [e', Po] at hb'
        rw [Pn x e] at hb
        exact absurd hb' (far x b hx e hb).1
      · rw [Pn x e] at hb
        rw [Pn x' e'] at hb'
        exact c18 x x' b hx hx' hb hb'
/-- all that is known where a file's change is granted -/
theorem chg_ok {o z : Nat} {W : Nat → Int32} (hB : B ≤ 96) (hok : m_ok B T) (hi : m_im B T O) (hk : oK O o = 2) (o1 : 1 ≤ o) (o2 : o ≤ 60) (hz : z ≤ 2048) {q : m_T × List Nat} (hd : a_data B T (oP O o) (m_dt z) = some q) :
    (m_ok B q.1 ∧ flat q.1 = flat T ∧ q.2.length = m_dt z ∧ q.2.Nodup ∧ (∀ b ∈ q.2, 1 ≤ b ∧ b < B ∧ tU q.1 b = 4) ∧ i_at q.1 (o * 4000 + 2000) (2 * (oP O o).length) ∧ (∃ y ∈ flat q.1, y.1 ≠ o * 4000 + 2000)) ∧ ∀ T2, a_shp B q.1 (o * 4000 + 2000) (2 * (oP O o).length) (2 * m_dt z) = some T2 → (m_ok B T2 ∧ i_at T2 (o * 4000 + 3000) (m_tl (oZ O o)) ∧ ∃ y ∈ flat T2, y.1 ≠ o * 4000 + 3000) ∧ ∀ T3, a_shp B T2 (o * 4000 + 3000) (m_tl (oZ O o)) (m_tl z) = some T3 → m_ok B T3 ∧ m_im B T3 (o_chg O o z q.2 W) ∧ (∀ b, b ∉ q.2 → tU T3 b = 4 → tU T b = 4) := by
  have hl16 := im_len hi hk
  have hd16 := dt_le hz
  have htl := tl_le (z := z)
  have htl2 := tl_le (z := oZ O o)
  obtain ⟨T1, P⟩ := q
  obtain ⟨k1, k2, k3, k4, k5, k6, k7, k8, -⟩ := data_ok hok (hi.2.2.2.2.2.2.2.2.2.2.2.2.2.2.2.2.1 o hk) (hi.2.2.2.2.2.2.2.2.2.2.2.2.2.2.2.1 o hk) hd
  have at2 := im_at2 hok hi hk
  have at3 := im_at3 hok hi hk
  have at2' : i_at T1 (o * 4000 + 2000) (2 * (oP O o).length) := i_at_fl at2 (fun y _ => by rw [k2])
  have ot2 : ∃ y ∈ flat T1, y.1 ≠ o * 4000 + 2000 := by rw [k2]; exact im_other hi (by omega)
  refine ⟨⟨k1, k2, k3, k4, k5, at2', ot2⟩, fun T2 hs2 => ?_⟩
  obtain ⟨s1, s2, s3, s4, s5, s6⟩ := shp_ok hB k1 at2' (by omega) (by omega) (by omega) ot2 hs2
  have at3' : i_at T2 (o * 4000 + 3000) (m_tl (oZ O o)) := i_at_fl at3 (fun y hy => by rw [s3 y (by omega), k2])
  have ot3 : ∃ y ∈ flat T2, y.1 ≠ o * 4000 + 3000 := by
    refine ⟨(1 * 4000, 6, none), (s3 _ (by show 1 * 4000 ≠ _; omega)).mpr ?_, by show 1 * 4000 ≠ _; omega⟩
    rw [k2]; exact hi.2.2.2.2.2.1 1 (by rw [hi.2.2.1]; decide)
  refine ⟨⟨s1, at3', ot3⟩, fun T3 hs3 => ?_⟩
  obtain ⟨r1, r2, r3, r4, r5, r6⟩ := shp_ok hB s1 at3' (by omega) (by omega) (by omega) ot3 hs3
  have u43 : u4 T1 T3 := u4_tr s4 r4
  have uo : ∀ b, b ∉ oP O o → b ∉ P → (tU T3 b = 4 ↔ tU T b = 4) := fun b h1 h2 => by rw [u43 b, k6 b h1 h2]
  refine ⟨r1, im_chg (o := o) r1 hi hk o1 hz k3 k4 (fun y y2 y3 => by rw [r3 y y3, s3 y y2, k2]) (i_at_fl s2 (fun y hy => r3 y (by omega))) r2 (fun x => ?_) (fun x => ?_) (fun b hb => ?_) uo k7 ?_, fun b hb h4 => ?_⟩
  · unfold m_nE
    rw [r6 _ (fun c => by apply decide_eq_false; show ¬ (o * 4000 + 3000) / 1000 = _; omega), s6 _ (fun c => by apply decide_eq_false; show ¬ (o * 4000 + 2000) / 1000 = _; omega), k2]
  · unfold m_nT
    rw [r6 _ (fun c => rfl), s6 _ (fun c => rfl), k2]
  · obtain ⟨z1, z2, z3⟩ := k5 b hb
    exact ⟨z1, z2, (u43 b).mpr z3⟩
  · refine r5 (s5 (fun b hb => ?_))
    by_cases e : b ∈ P
    · show tU T1 b ≠ 1
      rw [(k5 b e).2.2]; decide
    · by_cases e2 : b ∈ oP O o
      · show tU T1 b ≠ 1
        rw [k8 b e2 e]; decide
      · show tU T1 b ≠ 1
        rw [k6 b e2 e]; exact hi.1 b hb
  · by_cases e2 : b ∈ oP O o
    · have h0 : tU T1 b = 0 := k8 b e2 hb
      have h5 := (u43 b).mp h4
      rw [h0] at h5; cases h5
    · exact (uo b e2 hb).mp h4
theorem z_chg {o z : Nat} {P : List Nat} {W : Nat → Int32} (hz : m_z O) (hP : P.length = m_dt z) (hz2 : z ≤ 2048) (hn : P.Nodup) (hW : ∀ k, z ≤ k → k < 2048 → W k = 0) (hfar : ∀ x b, oK O x = 2 → x ≠ o → b ∈ oP O x → b ∉ P) : m_z (o_chg O o z P W) := by
  have hd16 := dt_le hz2
  intro x hx i b r hi hr hle
  show (if b ∈ P then W (128 * P.idxOf b + r) else oD O b r) = 0
  by_cases e : x = o
  · rw [e, show oP (o_chg O o z P W) o = P from l_up_s] at hi
    rw [e, show oZ (o_chg O o z P W) o = z from l_up_s] at hle
    have hlt := (List.getElem?_eq_some_iff.mp hi).1
    rw [if_pos (List.mem_of_getElem? hi), l_ix hn hi]
    exact hW _ hle (by omega)
  · rw [show oP (o_chg O o z P W) x = oP O x from l_up_n e] at hi
    rw [show oZ (o_chg O o z P W) x = oZ O x from l_up_n e] at hle
    rw [if_neg (hfar x b hx e (List.mem_of_getElem? hi))]
    exact hz x hx i b r hi hr hle
end CH
