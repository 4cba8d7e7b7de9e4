/-! unlink: the class. -/
def A_unl2 (B : Nat) (A : m_A) (d n o : Nat) : Nat × Int32 × m_A := if oL A.1.2 o - 1 = 0 then (match a_fgt B (a_del B A.1.1 ((d * 4 + 1) * 1000 + n)) A.1.2 o with
  | none => (3, 0, A)
  | some T5 => (0, 0, (T5, o_fgt A.1.2 d o), A.2)) else (0, nI (oL A.1.2 o - 1), (a_del B A.1.1 ((d * 4 + 1) * 1000 + n), o_unl A.1.2 d o), A.2)
def A_unlink (B : Nat) (A : m_A) (p1 p2 : Int32) : Nat × Int32 × m_A := if A.2.2.1 = 0 then (if d_k A.1.2 p1 = 1 then (if d_ea A.1.1 p1.toNatClampNeg p2 = -1 then (2, 0, A) else (if oK A.1.2 (d_ea A.1.1 p1.toNatClampNeg p2).toNatClampNeg = 1 ∧ 0 < oZ A.1.2 (d_ea A.1.1 p1.toNatClampNeg p2).toNatClampNeg then (3, 0, A) else A_unl2 B A p1.toNatClampNeg p2.toNatClampNeg (d_ea A.1.1 p1.toNatClampNeg p2).toNatClampNeg)) else (2, 0, A)) else (1, 0, A)
section UL
variable {B J : Nat} {S S' S0 S1 S2 : z_S} {A : m_A} {T T' T1 T2 : m_T} {O O' : m_O} {f f' g : Nat → Int32}
/-- all that is known where unlink is granted -/
theorem unl_pre {d n o : Nat} (hA : AI B J A) (hd : oK A.1.2 d = 1) (hn : n < 1000) (hx : d_e A.1.1 d n = some o) (hne : ¬ (oK A.1.2 o = 1 ∧ 0 < oZ A.1.2 o)) :
    i_en d n o ∈ flat A.1.1 ∧ 1 ≤ o ∧ o ≤ 60 ∧ oK A.1.2 o ≠ 0 ∧ o ≠ d ∧ 1 ≤ oL A.1.2 o ∧ 1 ≤ oZ A.1.2 d ∧ (oK A.1.2 o = 1 → oZ A.1.2 o = 0) ∧ (m_ok B (a_del B A.1.1 ((d * 4 + 1) * 1000 + n)) ∧ flat (a_del B A.1.1 ((d * 4 + 1) * 1000 + n)) = s_del ((d * 4 + 1) * 1000 + n) (flat A.1.1) ∧ u4 A.1.1 (a_del B A.1.1 ((d * 4 + 1) * 1000 + n)) ∧ ∀ b, 1 ≤ b → tU (a_del B A.1.1 ((d * 4 + 1) * 1000 + n)) b ≠ 1) ∧
    (oL A.1.2 o - 1 ≠ 0 → m_im B (a_del B A.1.1 ((d * 4 + 1) * 1000 + n)) (o_unl A.1.2 d o)) ∧ ((oP A.1.2 o).Nodup ∧ (oP A.1.2 o).length ≤ 16 ∧ (∀ b ∈ oP A.1.2 o, 1 ≤ b ∧ b < B ∧ tU (a_del B A.1.1 ((d * 4 + 1) * 1000 + n)) b = 4) ∧ o_tl A.1.2 o ≤ 40 ∧ i_at (a_del B A.1.1 ((d * 4 + 1) * 1000 + n)) (o * 4000 + 3000) (o_tl A.1.2 o) ∧ i_at (a_del B A.1.1 ((d * 4 + 1) * 1000 + n)) (o * 4000 + 2000) (2 * (oP A.1.2 o).length) ∧ (o * 4000, 6, none) ∈ flat (a_del B A.1.1 ((d * 4 + 1) * 1000 + n)) ∧ ∃ y ∈ flat (a_del B A.1.1 ((d * 4 + 1) * 1000 + n)), y.1 / 4000 ≠ o) ∧
    (oL A.1.2 o - 1 = 0 → ∀ T5, a_fgt B (a_del B A.1.1 ((d * 4 + 1) * 1000 + n)) A.1.2 o = some T5 → m_ok B T5 ∧ m_im B T5 (o_fgt A.1.2 d o) ∧ ∀ b, tU T5 b = 4 → tU A.1.1 b = 4) := by
  have hB := hA.1.2.1
  have hok := hA.2.1.1
  have hi := hA.2.1.2
  obtain ⟨m1, m2, m3, m4, -⟩ := en_mem hi hn hx
  have hZ := en_Z hok hi hn m1 hd
  have hod : o ≠ d := fun e => hne (by rw [e]; exact ⟨hd, by omega⟩)
  obtain ⟨k1, k2, k3⟩ := del_ok hok ⟨_, m1, rfl⟩ (rt_ne hi hn)
  have k2' : flat (a_del B A.1.1 ((d * 4 + 1) * 1000 + n)) = s_del ((d * 4 + 1) * 1000 + n) (flat A.1.1) := k2
  have hu4 : u4 A.1.1 (a_del B A.1.1 ((d * 4 + 1) * 1000 + n)) := u4_ug k3
  have hu1 : ∀ b, 1 ≤ b → tU (a_del B A.1.1 ((d * 4 + 1) * 1000 + n)) b ≠ 1 := u1_ug k3 hi.1
  have k1' : m_ok B (a_del B A.1.1 ((d * 4 + 1) * 1000 + n)) := k1
  have mem : ∀ y, y ∈ flat (a_del B A.1.1 ((d * 4 + 1) * 1000 + n)) ↔ (y ∈ flat A.1.1 ∧ y.1 ≠ (d * 4 + 1) * 1000 + n) := fun y => by rw [k2', sd_mem hok.2.2.2]
  have q := nT_del (x := o) hok.2.2.2 m1
  rw [if_pos rfl] at q
  have hL := hi.2.2.2.2.2.2.2.2.2.2.1 o m4
  have hk12 : oK A.1.2 o = 1 ∨ oK A.1.2 o = 2 := by have := hi.2.1 o; omega
  have hP : (oP A.1.2 o).Nodup ∧ (oP A.1.2 o).length ≤ 16 ∧ (∀ b ∈ oP A.1.2 o, 1 ≤ b ∧ b < B ∧ tU (a_del B A.1.1 ((d * 4 + 1) * 1000 + n)) b = 4) ∧ o_tl A.1.2 o ≤ 40 := by
    rcases hk12 with w | w
    · have hp0 := (hi.2.2.2.2.2.2.2.2.2.1 o w).1
      rw [hp0]
      exact ⟨List.nodup_nil, by simp, fun b hb => (by cases hb), by unfold o_tl; rw [if_neg (by omega)]; omega⟩
    · exact ⟨hi.2.2.2.2.2.2.2.2.2.2.2.2.2.2.2.2.1 o w, im_len hi w, fun b hb => by
        obtain ⟨z1, z2, z3⟩ := hi.2.2.2.2.2.2.2.2.2.2.2.2.2.2.2.1 o w b hb
        exact ⟨z1, z2, (hu4 b).mpr z3⟩, by unfold o_tl; rw [if_pos w]; exact tl_le⟩
  have ats : i_at A.1.1 (o * 4000 + 3000) (o_tl A.1.2 o) ∧ i_at A.1.1 (o * 4000 + 2000) (2 * (oP A.1.2 o).length) := by
    rcases hk12 with w | w
    · have hp0 := (hi.2.2.2.2.2.2.2.2.2.1 o w).1
      have ht0 : o_tl A.1.2 o = 0 := if_neg (by omega)
      rw [hp0, ht0]
      refine ⟨⟨fun _ y hy e => ?_, fun z => absurd rfl z⟩, ⟨fun _ y hy e => ?_, fun z => absurd rfl z⟩⟩
      · have hit := ((hi.2.2.2.2.1 y hy).2.2.2.2.2 (by rw [e]; omega)).1
        rw [e, show (o * 4000 + 3000) / 4000 = o by omega, w] at hit; cases hit
      · have hit := ((hi.2.2.2.2.1 y hy).2.2.2.2.1 (by rw [e]; omega)).1
        rw [e, show (o * 4000 + 2000) / 4000 = o by omega, w] at hit; cases hit
    · rw [show o_tl A.1.2 o = m_tl (oZ A.1.2 o) from if_pos w]
      exact ⟨im_at3 hok hi w, im_at2 hok hi w⟩
  have a3' := i_at_fl ats.1 (T' := a_del B A.1.1 ((d * 4 + 1) * 1000 + n)) (fun y hy => by rw [mem]; exact ⟨fun w => w.1, fun w => ⟨w, by omega⟩⟩)
  have a2' := i_at_fl ats.2 (T' := a_del B A.1.1 ((d * 4 + 1) * 1000 + n)) (fun y hy => by rw [mem]; exact ⟨fun w => w.1, fun w => ⟨w, by omega⟩⟩)
  have hst : (o * 4000, 6, none) ∈ flat (a_del B A.1.1 ((d * 4 + 1) * 1000 + n)) := (mem _).mpr ⟨hi.2.2.2.2.2.1 o m4, by show o * 4000 ≠ _; omega⟩
  have hot : ∃ y ∈ flat (a_del B A.1.1 ((d * 4 + 1) * 1000 + n)), y.1 / 4000 ≠ o := ⟨(d * 4000, 6, none), (mem _).mpr ⟨hi.2.2.2.2.2.1 d (by omega), by show d * 4000 ≠ _; omega⟩, by show d * 4000 / 4000 ≠ o; omega⟩
  refine ⟨m1, m2, m3, m4, hod, by omega, hZ, fun w => by by_cases z : 0 < oZ A.1.2 o; exact absurd ⟨w, z⟩ hne; omega, ⟨k1', k2', hu4, hu1⟩, fun hl => ?_, ⟨hP.1, hP.2.1, hP.2.2.1, hP.2.2.2, a3', a2', hst, hot⟩, fun hl T5 hf => ?_⟩
  · have hk2 : oK A.1.2 o = 2 := by
      rcases hk12 with w | w
      · have c12 := hi.2.2.2.2.2.2.2.2.2.2.2.1 o w
        by_cases e : o = 1
        · rw [if_pos e] at c12; omega
        · rw [if_neg e] at c12 hL; omega
      · exact w
    exact im_unl hok hi hd hn m1 hk2 k2' hu4 hu1
  · obtain ⟨f1, f2, f3, f4, f5, f6⟩ := fgt_ok hB k1' hP.1 hP.2.1 hP.2.2.1 m3 hP.2.2.2 a3' a2' hst hot hf
    refine ⟨f1, im_fgt hok hi hd hn m1 m4 (fun w => by by_cases z : 0 < oZ A.1.2 o; exact absurd ⟨w, z⟩ hne; omega) (by omega) hod (fun y => by rw [f2, mem]) (fun x => ?_) (fun x => ?_) (fun b h1 h2 => f5 b ((hu4 b).mpr h1) h2) (f6 hu1), fun b hb => (hu4 b).mp (f4 b hb).1⟩
    · unfold m_nE
      rw [f3 _ (fun c => by apply decide_eq_false; show ¬ (o * 4000 + 2000) / 1000 = _; omega) (fun c => by apply decide_eq_false; show ¬ (o * 4000 + 3000) / 1000 = _; omega) (by apply decide_eq_false; show ¬ (o * 4000) / 1000 = _; omega), k2']
    · unfold m_nT
      rw [f3 _ (fun c => rfl) (fun c => rfl) rfl, k2']
theorem fgt_some {o : Nat} : ∃ T5, a_fgt B T O o = some T5 := by
  unfold a_fgt
  obtain ⟨q, hd⟩ := data_0 (B := B) (T := T) (P := oP O o)
  obtain ⟨T2, hs2⟩ := shp_0 (B := B) (T := q.1) (k := o * 4000 + 3000) (a := o_tl O o)
  obtain ⟨T3, hs3⟩ := shp_0 (B := B) (T := T2) (k := o * 4000 + 2000) (a := 2 * (oP O o).length)
  rw [hd]; simp only []
  rw [hs2]; simp only []
  rw [hs3]; exact ⟨_, rfl⟩
theorem G_unlink_a {p1 p2 : Int32} (hA : AI B J A) : AI B J (A_unlink B A p1 p2).2.2 := by
  have hok := hA.2.1.1
  unfold A_unlink
  split
  · split
    · rename_i e1
      obtain ⟨d, hd, d1, d2, d3⟩ := dk_some (O := A.1.2) (p := p1) (by omega)
      subst hd
      rw [nI_clamp (by omega)]
      split
      · exact hA
      · rename_i hx
        obtain ⟨n, hn, hn2⟩ := ea_in hx
        subst hn
        obtain ⟨o, x1, x2, x3⟩ := ea_some hok hn2 hx
        rw [x3, nI_clamp (by omega), nI_clamp (by omega)]
        split
        · exact hA
        · rename_i hne
          obtain ⟨-, -, -, -, -, -, -, -, ⟨k1, -⟩, ki, -, kf⟩ := unl_pre hA (d3.trans e1) hn2 x1 hne
          unfold A_unl2
          split
          · rename_i hl
            obtain ⟨T5, h5⟩ := fgt_some (B := B) (T := a_del B A.1.1 ((d * 4 + 1) * 1000 + n)) (O := A.1.2) (o := o)
            rw [h5]
            obtain ⟨q1, q2, -⟩ := kf hl T5 h5
            exact AI_im hA q1 q2
          · rename_i hl
            exact AI_im hA k1 (ki hl)
    · exact hA
  · exact hA
/-- a class's call ends that kept no tree -/
theorem CI_fin2 (h : CI B J S0 A) (h1 : ∀ a, (a ≤ 2 ∨ 21 < a) → S'.1 a = S0.1 a) (h2 : ∀ a k, ¬ (a = 2 ∧ k = 12) → S'.2.1 a k = S0.2.1 a k) (h3 : S'.2.2 = S0.2.2) (hT : c_T B 2 S' T2) (hO : c_O B 1 S' T2 O') : CI B J S' ((T2, O'), A.2) ∧ z_cf S0 S' := by
  obtain ⟨c1, c2⟩ := h.2.2.1
  obtain ⟨⟨a1, a2, a3⟩, -, -, p1, p2, p3, p4, p5, p6⟩ := h
  exact ⟨⟨⟨by rw [h2 _ _ (by omega)]; exact a1, by rw [h2 _ _ (by omega)]; exact a2, by rw [h2 _ _ (by omega)]; exact a3⟩, ⟨hT, hO⟩, ⟨c_T_cg c1 (fun a x1 x2 => h1 a (by omega)) (h2 _ _ (by omega)) (h2 _ _ (by omega)), c_O_cg c2 (fun a x1 x2 => h1 a (by omega))⟩, by rw [h2 _ _ (by omega)]; exact p1, by rw [h2 _ _ (by omega)]; exact p2, by rw [h2 _ _ (by omega)]; exact p3, by rw [h2 _ _ (by omega)]; exact p4, by rw [h2 _ _ (by omega)]; exact p5, fun b hb => by rw [h1 56 (by omega)]; exact p6 b hb⟩, fun a ha => h1 a (by omega), fun a k ha => h2 a k (by omega), h3⟩
theorem C_data3 {o : Nat} (o2 : o ≤ 60) (hk : oK O o = 1 ∨ oK O o = 2) (h15 : S.1 15 o = nI (oK O o) - 1) (h17 : oK O o = 2 → S.1 17 o = nI (oZ O o) ∧ oZ O o ≤ 2048 ∧ (oP O o).length = m_dt (oZ O o)) (hP : oK O o = 1 → oP O o = []) : F_X2_dataOf B 14 (nI o) S = some (.inl (some (nI (oP O o).length)), S) ∧ F_X2_tailOf B 14 (nI o) S = some (.inl (some (nI (o_tl O o))), S) := by
  rcases hk with w | w
  · have e15 : S.1 15 o = 0 := by rw [h15, w]; rfl
    rw [hP w, show o_tl O o = 0 from if_neg (by omega)]
    unfold F_X2_dataOf F_X2_tailOf
    rw [m_gd (m_inb (by omega) (by omega)), m_lt, m_ix (by omega), e15, if_neg (by decide), F_X2_dataOf_23, m_gd (m_inb (by omega) (by omega)), m_lt, if_neg (by decide), F_X2_tailOf_23]
    exact ⟨rfl, rfl⟩
  · obtain ⟨q1, q2, q3⟩ := h17 w
    have e15 : S.1 15 o = 1 := by rw [h15, w]; decide
    rw [q3, show o_tl O o = m_tl (oZ O o) from if_pos w]
    exact ⟨C_data2 o2 (by omega) e15 q1, C_tail2 o2 (by omega) e15 q1⟩
end UL
