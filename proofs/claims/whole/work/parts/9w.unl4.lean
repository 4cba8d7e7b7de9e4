/-! unlink: the reference. -/
section UK
variable {B J : Nat} {S S' S0 S1 S2 : z_S} {A : m_A} {T T' T1 T2 T5 : m_T} {O O' : m_O} {f f' g : Nat → Int32}
theorem K_unl_free {o : Nat} {v4 v5 : Int32} {P : List Nat} (hB : B ≤ 96) (o2 : o ≤ 60) (hP : P.length ≤ 16) (hp : ∀ b ∈ P, b < B) : ∀ (m n : Nat) (f : Nat → Int32) (T : m_T), m ≤ P.length → m < n → k_T B 0 0 f T → m_l f (340 + 16 * o) (P.map nI) →
    ∃ f' n', F_X6_unlink_202 B n (nI o) v4 v5 (nI m - 1) (z_ua S 61 f) = F_X6_unlink_202 B (n' + 1) (nI o) v4 v5 (-1) (z_ua S 61 f') ∧ k_T B 0 0 f' (a_rel (P.take m).reverse T) ∧ k_fr f f'
  | 0, n, f, T, hm, hn, hT, hl => by
    obtain ⟨n, rfl⟩ : ∃ j, n = j + 1 := ⟨n - 1, by omega⟩
    exact ⟨f, n, by rw [show nI 0 - 1 = (-1 : Int32) by decide], hT, k_fr_rf⟩
  | m + 1, n, f, T, hm, hn, hT, hl => by
    obtain ⟨n, rfl⟩ : ∃ j, n = j + 1 := ⟨n - 1, by omega⟩
    have hlt : m < P.length := by omega
    have hg : P[m]? = some P[m] := List.getElem?_eq_getElem hlt
    have v := hl m (nI P[m]) (by rw [List.getElem?_map, hg]; rfl)
    have hb := hp _ (List.getElem_mem hlt)
    have et : P.take (m + 1) = P.take m ++ [P[m]] := by rw [List.take_succ, hg]; rfl
    generalize P[m] = b at v hb et
    have e340 : ((340 : Int32) + 16 * nI o) + nI m = nI (340 + 16 * o + m) := by rw [m_c340, m_c16, pk_mul, nI_add, nI_add]
    obtain ⟨f2, a1, a2, a3⟩ := KT_free (S := S) (b := b) (Y' := 0) hB hT hb (Or.inl rfl)
    obtain ⟨f', n', b1, b2, b3⟩ := K_unl_free (v4 := v4) (v5 := v5) hB o2 hP hp m n f2 (tsU T b 0) (by omega) (by omega) a2 (m_l_kept hl (fun i hi => by rw [List.length_map] at hi; exact a3 _ (by omega)))
    refine ⟨f', n', ?_, by rw [et, List.reverse_append]; exact b2, k_fr_tr a3 b3⟩
    have e2 : nI m + -1 = nI m - 1 := (Int32.sub_eq_add_neg _ _).symm
    rw [nI_s1 (by omega), show m + 1 - 1 = m from rfl, F_X6_unlink_202, if_neg (by rw [m_c0]; exact nI_nlt (by omega) (by omega)), e340, m_gd (m_inb (by omega) (by omega)), m_lt, m_ix (by omega), z_ua_at, v, a1, m_bo, e2]
    exact b1
theorem data_0' {P : List Nat} : a_data B T P 0 = some (a_rel P.reverse T, []) := by
  unfold a_data
  cases P with
  | nil => rfl
  | cons a L => rw [if_neg (by simp)]; rfl
theorem K_forget {o : Nat} (hB : B ≤ 96) (h0 : S.2.1 60 1 = nI B) (h7 : S.2.1 60 7 = 0) (hok : m_ok B T) (hT : k_T B 0 0 f T) (hP : (oP O o).Nodup) (hP16 : (oP O o).length ≤ 16) (hp : ∀ b ∈ oP O o, 1 ≤ b ∧ b < B ∧ tU T b = 4) (o1 : 1 ≤ o) (o2 : o ≤ 60) (htl : o_tl O o ≤ 40) (a3 : i_at T (o * 4000 + 3000) (o_tl O o)) (a2 : i_at T (o * 4000 + 2000) (2 * (oP O o).length)) (hst : (o * 4000, 6, none) ∈ flat T) (hot : ∃ y ∈ flat T, y.1 / 4000 ≠ o) (h279 : f (279 + o) = nI (oP O o).length) (hl : m_l f (340 + 16 * o) ((oP O o).map nI)) (hf : a_fgt B T O o = some T5) :
    ∃ f', F_X6_unlink_182 B (nI o) (nI (o_tl O o)) (z_ua S 61 f) = some (.inl (some 0), z_ua S 61 (upd (upd (upd f' (96 + o) 0) (279 + o) 0) (218 + o) 0)) ∧ k_T B 0 0 f' T5 ∧ k_fr f f' := by
  unfold a_fgt at hf
  have hd := data_0' (B := B) (T := T) (P := oP O o)
  obtain ⟨k1, k2, k3, k4, k5, k6, k7, k8, -⟩ := data_ok hok hP hp hd
  rw [hd] at hf
  simp only [] at hf
  obtain ⟨y0, hy0, hy0o⟩ := hot
  obtain ⟨f1, n1, b1, b2, b3⟩ := K_unl_free (S := S) (v4 := nI (o_tl O o)) (v5 := nI (oP O o).length) hB o2 hP16 (fun b hb => (hp b hb).2.1) (oP O o).length z_n f T (Nat.le_refl _) (by unfold z_n; omega) hT hl
  rw [List.take_length] at b2
  generalize a_rel (oP O o).reverse T = T1 at k1 k2 k3 k4 k5 k6 k7 k8 b2 hf hd
  have a3' : i_at T1 (o * 4000 + 3000) (o_tl O o) := i_at_fl a3 (fun y _ => by rw [k2])
  obtain ⟨T2, hs2⟩ := shp_0 (B := B) (T := T1) (k := o * 4000 + 3000) (a := o_tl O o)
  have ot1 : ∃ y ∈ flat T1, y.1 ≠ o * 4000 + 3000 := ⟨y0, by rw [k2]; exact hy0, by omega⟩
  obtain ⟨s1, s2, s3, s4, s5, s6⟩ := shp_ok hB k1 a3' htl (by omega) (by omega) ot1 hs2
  have a2' : i_at T2 (o * 4000 + 2000) (2 * (oP O o).length) := i_at_fl a2 (fun y hy => by rw [s3 y (by omega), k2])
  have y2 : y0 ∈ flat T2 := (s3 y0 (by omega)).mpr (by rw [k2]; exact hy0)
  obtain ⟨T3, hs3⟩ := shp_0 (B := B) (T := T2) (k := o * 4000 + 2000) (a := 2 * (oP O o).length)
  have ot2 : ∃ y ∈ flat T2, y.1 ≠ o * 4000 + 2000 := ⟨y0, y2, by omega⟩
  obtain ⟨r1, r2, r3, r4, r5, r6⟩ := shp_ok hB s1 a2' (by omega) (by omega) (by omega) ot2 hs3
  rw [hs2] at hf
  simp only [] at hf
  rw [hs3] at hf
  have := Option.some.inj hf
  subst this
  have st2 : (o * 4000, 6, none) ∈ flat T2 := (s3 _ (by show o * 4000 ≠ _; omega)).mpr (by rw [k2]; exact hst)
  have st3 : (o * 4000, 6, none) ∈ flat T3 := (r3 _ (by show o * 4000 ≠ _; omega)).mpr st2
  obtain ⟨f2, c1, c2, c3⟩ := (K_shape (S := S) (b := 0) hB h0 h7 k1 b2 a3' htl (by omega) (by omega) (by omega) ot1).1 T2 hs2
  obtain ⟨f3, d1, d2, d3⟩ := (K_shape (S := S) (b := 0) hB h0 h7 s1 c2 a2' (by omega) (by omega) (by omega) (by omega) ot2).1 T3 hs3
  obtain ⟨f4, e1, e2, e3⟩ := K_removeT (S := S) (k := o * 4000) hB r1 d2 (by omega) ⟨_, st3, rfl⟩ ⟨y0, (r3 y0 (by omega)).mpr y2, by omega⟩
  rw [show (o * 4000 + 3000) / 4000 = o by omega, show (o * 4000 + 3000) / 1000 % 4 = 3 by omega] at c1
  rw [show (o * 4000 + 2000) / 4000 = o by omega, show (o * 4000 + 2000) / 1000 % 4 = 2 by omega] at d1
  rw [show (o * 4000) / 4000 = o by omega, show (o * 4000) / 1000 % 4 = 0 by omega, show (o * 4000) % 1000 = 0 by omega] at e1
  have c1' : F_X6_resize B (nI o) 3 (nI (o_tl O o)) 0 (z_ua S 61 f1) = some (.inl none, z_ua S 61 f2) := c1
  have d1' : F_X6_resize B (nI o) 2 (nI (2 * (oP O o).length)) 0 (z_ua S 61 f2) = some (.inl none, z_ua S 61 f3) := d1
  have e1' : F_X6_remove B (nI o) 0 0 (z_ua S 61 f3) = some (.inl none, z_ua S 61 f4) := e1
  have m1 : (2 : Int32) * nI (oP O o).length = nI (2 * (oP O o).length) := by rw [m_c2, pk_mul]
  have q96 : (96 : Int32) + nI o = nI (96 + o) := by rw [m_c96, nI_add]
  have q279 : (279 : Int32) + nI o = nI (279 + o) := by rw [m_c279, nI_add]
  have q218 : (218 : Int32) + nI o = nI (218 + o) := by rw [m_c218, nI_add]
  refine ⟨f4, ?_, e2, k_fr_tr b3 (k_fr_tr c3 (k_fr_tr d3 e3))⟩
  rw [F_X6_unlink_182, q279, m_gd (m_inb (by omega) (by omega)), m_lt, m_ix (by omega), z_ua_at, h279, b1, F_X6_unlink_202, if_pos (show (-1 : Int32) < 0 by decide), c1', m_bo, m1, d1', m_bo, e1', m_bo, q96, m_gd (m_inb (by omega) (by omega)), m_lt, m_ix (by omega), q279, m_gd (m_inb (by omega) (by omega)), m_lt, m_ix (by omega), q218, m_gd (m_inb (by omega) (by omega)), m_lt, m_ix (by omega)]
  simp only [z_ua_at, z_ua_ua]
theorem K_unl_go {d n o : Nat} (h : KI B J S A) (hA : AI B J A) (hdk : oK A.1.2 d = 1) (d1 : 1 ≤ d) (d2 : d ≤ 60) (hn2 : n < 1000) (x1 : d_e A.1.1 d n = some o) (hne : ¬ (oK A.1.2 o = 1 ∧ 0 < oZ A.1.2 o)) :
    ∃ v S2, F_X6_unlink_77 B (nI d) (nI n) (nI o) 0 S = some (.inl (some v), S2) ∧ KI B J S2 (A_unl2 B A d n o).2.2 ∧ z_kf S S2 ∧ S2.2.1 60 0 = nI (A_unl2 B A d n o).1 ∧ ((A_unl2 B A d n o).1 = 0 → v = (A_unl2 B A d n o).2.1) := by
  have hok := hA.2.1.1
  have hi := hA.2.1.2
  have hB := hA.1.2.1
  obtain ⟨m1, m2, m3, m4, hod, hL1, hZ1, hZ0, ⟨t1, t2, t3, t4⟩, ki, ⟨kp1, kp2, kp3, kp4, kp5, kp6, kp7, kp8⟩, kf⟩ := unl_pre hA hdk hn2 x1 hne
  have hk12 : oK A.1.2 o = 1 ∨ oK A.1.2 o = 2 := by have := hi.2.1 o; omega
  have hfew := flat_few hok hB
  have hLs : oL A.1.2 o < 2 ^ 31 := by
    have := hi.2.2.2.2.2.2.2.2.2.2.1 o m4
    have hEl : m_nT (flat A.1.1) o ≤ (flat A.1.1).length := List.countP_le_length
    split at this <;> omega
  obtain ⟨S1, b1, b2, b3, b4, b5⟩ := K_begin (B := B) (z_ui S 60 0 0)
  have hI := KI_thr (v := 0) h
  have hB0 : S1.2.1 60 1 = nI B := (b2.2.1 60 1 (by decide)).trans hI.1.1
  have e61 : S1.1 61 = S.1 61 := b3
  obtain ⟨f1, c1, c2, c3⟩ := K_removeT (S := S1) (f := S1.1 61) (k := (d * 4 + 1) * 1000 + n) hB hok (by rw [e61]; exact h.2.1.1) (by omega) ⟨_, m1, rfl⟩ (rt_ne hi hn2)
  rw [show ((d * 4 + 1) * 1000 + n) / 4000 = d by omega, show ((d * 4 + 1) * 1000 + n) / 1000 % 4 = 1 by omega, show ((d * 4 + 1) * 1000 + n) % 1000 = n by omega, ← m_c1, z_ua_same] at c1
  have base : ∀ j, ((96 ≤ j ∧ j < 3756) ∨ 13078 ≤ j) → f1 j = S.1 61 j := fun j hj => by rw [c3 j hj, e61]
  have hO := h.2.1.2
  have q218 : (218 : Int32) + nI d = nI (218 + d) := by rw [m_c218, nI_add]
  have q218o : (218 : Int32) + nI o = nI (218 + o) := by rw [m_c218, nI_add]
  have q157 : (157 : Int32) + nI o = nI (157 + o) := by rw [m_c157, nI_add]
  have q96 : (96 : Int32) + nI o = nI (96 + o) := by rw [m_c96, nI_add]
  have f218 : f1 (218 + d) = nI (oZ A.1.2 d) := by rw [base _ (by omega)]; exact (hO.2.1 d d1 d2 (by omega)).2.1
  have f157 : f1 (157 + o) = nI (oL A.1.2 o) := by rw [base _ (by omega)]; exact (hO.2.1 o m2 m3 m4).1
  rw [F_X6_unlink_77, m_lt, z_thr, if_pos (show (0 : Int32) ≤ 0 by decide), b1, m_bo, c1, m_bo, q218, m_gd (m_inb (by omega) (by omega)), m_lt, m_ix (i := 218 + d) (by omega), m_gd (m_inb (by omega) (by omega)), m_lt, q157, m_gd (m_inb (by omega) (by omega)), m_lt, m_ix (i := 157 + o) (by omega), m_gd (m_inb (by omega) (by omega)), m_lt, m_gd (m_inb (by omega) (by omega)), m_lt]
  simp only [z_ua_at, z_ua_ua]
  rw [f218, nI_s1 hZ1, pk_un (show 157 + o ≠ 218 + d by omega), f157, nI_s1 hL1, pk_us]
  have t4' : k_T B 0 0 (upd (upd f1 (218 + d) (nI (oZ A.1.2 d - 1))) (157 + o) (nI (oL A.1.2 o - 1))) (a_del B A.1.1 ((d * 4 + 1) * 1000 + n)) := k_T_fr hB c2 (fun j hj => by rw [pk_un (by omega), pk_un (by omega)])
  have gn : ∀ j, ((96 ≤ j ∧ j < 3756) ∨ 13078 ≤ j) → j ≠ 218 + d → j ≠ 157 + o → upd (upd f1 (218 + d) (nI (oZ A.1.2 d - 1))) (157 + o) (nI (oL A.1.2 o - 1)) j = S.1 61 j := fun j hj h1 h2 => by rw [pk_un h2, pk_un h1]; exact base j hj
  have gd : upd (upd f1 (218 + d) (nI (oZ A.1.2 d - 1))) (157 + o) (nI (oL A.1.2 o - 1)) (218 + d) = nI (oZ A.1.2 d - 1) := by rw [pk_un (by omega), pk_us]
  have go : upd (upd f1 (218 + d) (nI (oZ A.1.2 d - 1))) (157 + o) (nI (oL A.1.2 o - 1)) (157 + o) = nI (oL A.1.2 o - 1) := pk_us
  generalize upd (upd f1 (218 + d) (nI (oZ A.1.2 d - 1))) (157 + o) (nI (oL A.1.2 o - 1)) = f2 at t4' gn gd go ⊢
  have w218 : ∀ x, 1 ≤ x → x ≤ 60 → oK A.1.2 x ≠ 0 → f2 (218 + x) = nI (va_up (oZ A.1.2) d (oZ A.1.2 d - 1) x) := fun x y1 y2 hx => by
    by_cases ex : x = d
    · rw [ex, gd, l_up_s]
    · rw [gn _ (by omega) (by omega) (by omega), l_up_n ex]; exact (hO.2.1 x y1 y2 hx).2.1
  have w157 : ∀ x, 1 ≤ x → x ≤ 60 → oK A.1.2 x ≠ 0 → f2 (157 + x) = nI (va_up (oL A.1.2) o (oL A.1.2 o - 1) x) := fun x y1 y2 hx => by
    by_cases ex : x = o
    · rw [ex, go, l_up_s]
    · rw [gn _ (by omega) (by omega) (by omega), l_up_n ex]; exact (hO.2.1 x y1 y2 hx).1
  have h70 : S1.2.1 60 0 = nI 0 := by rw [b5, z_thr]; rfl
  unfold A_unl2
  by_cases hl : oL A.1.2 o - 1 = 0
  · obtain ⟨T5, h5⟩ := fgt_some (B := B) (T := a_del B A.1.1 ((d * 4 + 1) * 1000 + n)) (O := A.1.2) (o := o)
    obtain ⟨q1, q2, q3⟩ := kf hl T5 h5
    have g279 : f2 (279 + o) = nI (oP A.1.2 o).length := by rw [gn _ (by omega) (by omega) (by omega)]; exact (hO.2.1 o m2 m3 m4).2.2
    have gl : m_l f2 (340 + 16 * o) ((oP A.1.2 o).map nI) := by
      rcases hk12 with w | w
      · rw [(hi.2.2.2.2.2.2.2.2.2.1 o w).1]; exact m_l_nil
      · exact m_l_kept (hO.2.2.1 o m2 m3 w) (fun j hj => by rw [List.length_map] at hj; exact gn _ (by omega) (by omega) (by omega))
    obtain ⟨f3, u1, u2, u3⟩ := K_forget (S := S1) (O := A.1.2) hB hB0 b4 t1 t4' kp1 kp2 kp3 m2 m3 kp4 kp5 kp6 kp7 kp8 g279 gl h5
    have hz0 : nI (oL A.1.2 o - 1) ≤ 0 := by rw [hl]; decide
    have g96 : f2 (96 + o) = nI (oK A.1.2 o) := by rw [gn _ (by omega) (by omega) (by omega)]; exact hO.1 o m2 m3
    have step : (if nI (oK A.1.2 o) = 2 then z_gd (z_inb (nI (218 + o)) 25366) (z_lt (f2 (218 + o)) fun x21 => (z_bn (F_X6_tailOf B x21 (z_ua S1 61 f2)) fun r22 S23 => (F_X6_unlink_182 B (nI o) r22 S23))) else F_X6_unlink_182 B (nI o) 0 (z_ua S1 61 f2)) = F_X6_unlink_182 B (nI o) (nI (o_tl A.1.2 o)) (z_ua S1 61 f2) := by
      rcases hk12 with w | w
      · rw [w, if_neg (by decide), show o_tl A.1.2 o = 0 from if_neg (by omega)]; rfl
      · have hz2 := im_z hi w
        rw [w, if_pos (by decide), m_gd (m_inb (by omega) (by omega)), m_lt, w218 o m2 m3 m4, l_up_n hod, K_tailOf (by omega), m_bn, show o_tl A.1.2 o = m_tl (oZ A.1.2 o) from if_pos w]
    rw [if_pos hl, if_pos hz0, q96, m_gd (m_inb (by omega) (by omega)), m_lt, m_ix (i := 96 + o) (by omega), g96, q218o, m_ix (i := 218 + o) (by omega), step, u1, h5]
    refine ⟨_, _, rfl, KI_rK hI (rK_ua b2) ?_ ?_, z_kf_tr (z_kf_ui (by decide)) (rK_kf (rK_ua b2)), h70, fun _ => rfl⟩
    · rw [z_ua_at]
      exact k_T_fr hB u2 (fun j hj => by rw [pk_un (by omega), pk_un (by omega), pk_un (by omega)])
    · rw [z_ua_at]
      have Kn : ∀ x, x ≠ o → oK (o_fgt A.1.2 d o) x = oK A.1.2 x := fun x hx => l_up_n hx
      have Ko : oK (o_fgt A.1.2 d o) o = 0 := l_up_s
      have Kx : ∀ x, oK (o_fgt A.1.2 d o) x ≠ 0 → x ≠ o := fun x hx e => hx (e ▸ Ko)
      have fn : ∀ j, ((96 ≤ j ∧ j < 3756) ∨ 13078 ≤ j) → j ≠ 96 + o → j ≠ 279 + o → j ≠ 218 + o → upd (upd (upd f3 (96 + o) 0) (279 + o) 0) (218 + o) 0 j = f2 j := fun j hj h1 h2 h3 => by rw [pk_un h3, pk_un h2, pk_un h1]; exact u3 j hj
      obtain ⟨g1, g2, g3, g4, g5⟩ := hO
      refine ⟨fun x y1 y2 => ?_, fun x y1 y2 hx => ?_, fun x y1 y2 hx => ?_, fun b hb hu r hr => ?_, fun x y1 y2 hx ht r hr => ?_⟩
      · by_cases ex : x = o
        · rw [ex, pk_un (by omega), pk_un (by omega), pk_us, Ko]; rfl
        · rw [fn _ (by omega) (by omega) (by omega) (by omega), gn _ (by omega) (by omega) (by omega), Kn x ex]; exact g1 x y1 y2
      · have ex := Kx x hx
        rw [Kn x ex] at hx
        rw [fn (157 + x) (by omega) (by omega) (by omega) (by omega), fn (218 + x) (by omega) (by omega) (by omega) (by omega), fn (279 + x) (by omega) (by omega) (by omega) (by omega)]
        exact ⟨w157 x y1 y2 hx, w218 x y1 y2 hx, by rw [gn _ (by omega) (by omega) (by omega)]; exact (g2 x y1 y2 hx).2.2⟩
      · have ex := Kx x (by omega)
        rw [Kn x ex] at hx
        have hl16 := im_len hi hx
        refine m_l_kept (g3 x y1 y2 hx) (fun j hj => ?_)
        rw [List.length_map] at hj
        have hj' : j < (oP A.1.2 x).length := hj
        rw [fn _ (by omega) (by omega) (by omega) (by omega), gn _ (by omega) (by omega) (by omega)]
      · rw [fn _ (by omega) (by omega) (by omega) (by omega), gn _ (by omega) (by omega) (by omega)]
        exact g4 b hb (q3 b hu) r hr
      · have ex := Kx x (by omega)
        rw [Kn x ex] at hx
        have e2 : x ≠ d := fun e => by rw [e, hdk] at hx; cases hx
        rw [show oZ (o_fgt A.1.2 d o) x = oZ A.1.2 x from l_up_n e2] at ht ⊢
        rw [fn _ (by omega) (by omega) (by omega) (by omega), gn _ (by omega) (by omega) (by omega)]
        exact g5 x y1 y2 hx ht r hr
  · have hz0 : ¬ nI (oL A.1.2 o - 1) ≤ 0 := nI_nle (by omega) (by omega)
    rw [if_neg hl, if_neg hz0, m_gd (m_inb (by omega) (by omega)), m_lt]
    refine ⟨_, _, rfl, KI_rK hI (rK_ua b2) (by rw [z_ua_at]; exact t4') ?_, z_kf_tr (z_kf_ui (by decide)) (rK_kf (rK_ua b2)), h70, fun _ => rfl⟩
    rw [z_ua_at]
    exact k_O_ent hB hi hO rfl rfl rfl rfl (fun x hx => l_up_n (fun e => by rw [e, hdk] at hx; cases hx)) t3 (fun j hj => gn j (by omega) (by omega) (by omega)) (fun x y1 y2 hx => ⟨w157 x y1 y2 hx, w218 x y1 y2 hx⟩)
theorem G_unlink_k {p1 p2 : Int32} (h : KI B J S A) (hA : AI B J A) : ∃ v S2, F_X6_unlink B p1 p2 S = some (.inl (some v), S2) ∧ KI B J S2 (A_unlink B A p1 p2).2.2 ∧ z_kf S S2 ∧ S2.2.1 60 0 = nI (A_unlink B A p1 p2).1 ∧ ((A_unlink B A p1 p2).1 = 0 → v = (A_unlink B A p1 p2).2.1) := by
  have hok := hA.2.1.1
  have hi := hA.2.1.2
  have hB := hA.1.2.1
  have bad : ∀ (v1 v2 v3 c : Int32) (n : Nat) (w : Int32), c = nI n → n ≠ 0 → n < 5 → ∃ v S2, F_X6_unlink_77 B v1 v2 v3 c S = some (.inl (some v), S2) ∧ KI B J S2 A ∧ z_kf S S2 ∧ S2.2.1 60 0 = nI n ∧ (n = 0 → v = w) := fun v1 v2 v3 c n w hc hn hn5 => by
    have hc0 : ¬ c ≤ 0 := fun z => by
      rw [hc, m_c0] at z
      exact absurd z (nI_nle (by omega) (by omega))
    rw [F_X6_unlink_77, m_lt, z_thr, if_neg hc0]
    exact ⟨_, _, rfl, KI_thr h, z_kf_ui (by decide), by rw [z_thr, hc], fun z => absurd z hn⟩
  unfold F_X6_unlink A_unlink
  rw [h.2.2.2.1]
  by_cases e : A.2.2.1 = 0
  · rw [if_pos e, if_pos e, K_isDirectory hi h.2.1.2, m_bn]
    by_cases e1 : d_k A.1.2 p1 = 1
    · obtain ⟨d, hd, d1, d2, d3⟩ := dk_some (O := A.1.2) (p := p1) (by omega)
      subst hd
      have hdk : oK A.1.2 d = 1 := d3.trans e1
      have hE : F_X6_entry B (nI d) p2 S = some (.inl (some (d_ea A.1.1 d p2)), S) := by
        have := K_entry (S := S) (f := S.1 61) (o := d) (p := p2) hB hok hi h.2.1.1 d2
        rw [z_ua_same] at this
        exact this
      rw [if_pos e1, if_pos e1, if_neg (show ¬ (1 : Int32) = 0 by decide), hE, m_bn, F_X6_unlink_25, h.2.2.2.1, if_pos e, nI_clamp (show d < 2 ^ 31 by omega)]
      by_cases hx : d_ea A.1.1 d p2 = -1
      · rw [hx, if_neg (show ¬ (0 : Int32) ≤ -1 by decide), if_pos rfl]
        exact bad _ _ _ _ 2 _ rfl (by omega) (by omega)
      · obtain ⟨n, hn, hn2⟩ := ea_in hx
        subst hn
        obtain ⟨o, x1, x2, x3⟩ := ea_some hok hn2 hx
        obtain ⟨m1, m2, m3, m4, m5⟩ := en_mem hi hn2 x1
        have q96 : (96 : Int32) + nI o = nI (96 + o) := by rw [m_c96, nI_add]
        have q218 : (218 : Int32) + nI o = nI (218 + o) := by rw [m_c218, nI_add]
        have hfew := flat_few hok hB
        rw [if_neg hx, x3, if_pos (m_ge0 (show o < 2 ^ 31 by omega)), q96, m_gd (m_inb (by omega) (by omega)), m_lt, m_ix (i := 96 + o) (by omega), h.2.1.2.1 o m2 m3, nI_clamp (show o < 2 ^ 31 by omega), nI_clamp (show n < 2 ^ 31 by omega)]
        by_cases hk1 : oK A.1.2 o = 1
        · have hZs : oZ A.1.2 o < 2 ^ 31 := by
            have := (hi.2.2.2.2.2.2.2.2.2.1 o hk1).2
            have hEl : m_nE (flat A.1.1) o ≤ (flat A.1.1).length := List.countP_le_length
            omega
          rw [if_pos (show nI (oK A.1.2 o) = 1 by rw [hk1]; rfl), q218, m_gd (m_inb (by omega) (by omega)), m_lt, m_ix (i := 218 + o) (by omega), (h.2.1.2.2.1 o m2 m3 m4).2.1]
          by_cases hz : 0 < oZ A.1.2 o
          · have hne : oK A.1.2 o = 1 ∧ 0 < oZ A.1.2 o := ⟨hk1, hz⟩
            rw [if_neg (nI_nle hz hZs), if_pos hne]
            exact bad _ _ _ _ 3 _ rfl (by omega) (by omega)
          · have hne : ¬ (oK A.1.2 o = 1 ∧ 0 < oZ A.1.2 o) := fun w => hz w.2
            rw [if_pos (show nI (oZ A.1.2 o) ≤ 0 by rw [show oZ A.1.2 o = 0 by omega]; decide), F_X6_unlink_76, if_neg hne]
            exact K_unl_go h hA hdk d1 d2 hn2 x1 hne
        · have hne : ¬ (oK A.1.2 o = 1 ∧ 0 < oZ A.1.2 o) := fun w => hk1 w.1
          have g : ¬ nI (oK A.1.2 o) = 1 := fun z => hk1 ((nI_eq (by have := hi.2.1 o; omega) (by omega)).mp (z.trans m_c1))
          rw [if_neg g, F_X6_unlink_76, if_neg hne]
          exact K_unl_go h hA hdk d1 d2 hn2 x1 hne
    · rw [if_neg e1, if_neg e1, if_pos rfl, F_X6_unlink_15, F_X6_unlink_25, h.2.2.2.1, if_pos e, if_neg (show ¬ (0 : Int32) ≤ -1 by decide)]
      exact bad _ _ _ _ 2 _ rfl (by omega) (by omega)
  · rw [if_neg e, if_neg e, F_X6_unlink_15, F_X6_unlink_25, h.2.2.2.1, if_neg e]
    exact bad _ _ _ _ 1 _ rfl (by omega) (by omega)
end UK
