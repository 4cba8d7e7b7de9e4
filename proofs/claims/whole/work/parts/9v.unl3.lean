/-! unlink: the class's call. -/
section UC
variable {B J : Nat} {S S' S0 S1 S2 : z_S} {A : m_A} {T T' T1 T2 T5 : m_T} {O O' : m_O} {f f' g : Nat → Int32}
theorem C_forget {o : Nat} (hB : B ≤ 96) (hB1 : 1 ≤ B) (hok : m_ok B T) (hT : c_T B 2 S T) (hP : (oP O o).Nodup) (hP16 : (oP O o).length ≤ 16) (hp : ∀ b ∈ oP O o, 1 ≤ b ∧ b < B ∧ tU T b = 4) (o1 : 1 ≤ o) (o2 : o ≤ 60) (htl : o_tl O o ≤ 40) (a3 : i_at T (o * 4000 + 3000) (o_tl O o)) (a2 : i_at T (o * 4000 + 2000) (2 * (oP O o).length)) (hst : (o * 4000, 6, none) ∈ flat T) (hot : ∃ y ∈ flat T, y.1 / 4000 ≠ o)
    (hk : oK O o = 1 ∨ oK O o = 2) (h15 : S.1 15 o = nI (oK O o) - 1) (h17 : oK O o = 2 → S.1 17 o = nI (oZ O o) ∧ oZ O o ≤ 2048 ∧ (oP O o).length = m_dt (oZ O o)) (hP1 : oK O o = 1 → oP O o = []) (hl : m_l (S.1 19) (o * 16) ((oP O o).map nI)) (hf : a_fgt B T O o = some T5) :
    ∃ S', F_X5_forget B (nI o) S = some (.inl none, S') ∧ c_T B 2 S' T5 ∧ S'.1 15 = upd (S.1 15) o (-1) ∧ (∀ a, (a ≤ 2 ∨ 13 < a) → a ≠ 15 → a ≠ 19 → S'.1 a = S.1 a) ∧ (∀ j, (j < o * 16 ∨ o * 16 + 16 ≤ j) → S'.1 19 j = S.1 19 j) ∧ (∀ a k, ¬ (a = 2 ∧ k = 12) → S'.2.1 a k = S.2.1 a k) ∧ S'.2.2 = S.2.2 := by
  unfold a_fgt at hf
  obtain ⟨q, hd⟩ := data_0 (B := B) (T := T) (P := oP O o)
  obtain ⟨T1, P1⟩ := q
  obtain ⟨k1, k2, k3, k4, k5, k6, k7, k8, -⟩ := data_ok hok hP hp hd
  rw [hd] at hf
  simp only [] at hf
  obtain ⟨y0, hy0, hy0o⟩ := hot
  obtain ⟨S1, b1, b2, b3, -⟩ := (C_changeData (o := o) (w := 0) hB hB1 o2 (by omega) hP16 hok hP hp hT hl).1 T1 P1 hd
  have n1 : ∀ a, (a ≤ 2 ∨ 13 < a) → a ≠ 19 → S1.1 a = S.1 a := fun a ha e => by
    have := b3.1.1 a (by omega)
    rw [m_ua1, if_neg e] at this
    exact this
  have a3' : i_at T1 (o * 4000 + 3000) (o_tl O o) := i_at_fl a3 (fun y _ => by rw [k2])
  obtain ⟨T2, hs2⟩ := shp_0 (B := B) (T := T1) (k := o * 4000 + 3000) (a := o_tl O o)
  have ot1 : ∃ y ∈ flat T1, y.1 ≠ o * 4000 + 3000 := ⟨y0, by rw [k2]; exact hy0, by omega⟩
  obtain ⟨s1, s2, s3, s4, s5, s6⟩ := shp_ok hB k1 a3' htl (by omega) (by omega) ot1 hs2
  have a2' : i_at T2 (o * 4000 + 2000) (2 * (oP O o).length) := i_at_fl a2 (fun y hy => by rw [s3 y (by omega), k2])
  have y2 : y0 ∈ flat T2 := (s3 y0 (by omega)).mpr (by rw [k2]; exact hy0)
  obtain ⟨T3, hs3⟩ := shp_0 (B := B) (T := T2) (k := o * 4000 + 2000) (a := 2 * (oP O o).length)
  have ot2 : ∃ y ∈ flat T2, y.1 ≠ o * 4000 + 2000 := ⟨y0, y2, by omega⟩
  obtain ⟨r1, r2, r3, r4, r5, r6⟩ := shp_ok hB s1 a2' (by omega) (by omega) (by omega) ot2 hs3
  rw [hs2] at hf
  simp only [] at hf
  rw [hs3] at hf
  have := Option.some.inj hf
  subst this
  have st2 : (o * 4000, 6, none) ∈ flat T2 := (s3 _ (by show o * 4000 ≠ _; omega)).mpr (by rw [k2]; exact hst)
  have st3 : (o * 4000, 6, none) ∈ flat T3 := (r3 _ (by show o * 4000 ≠ _; omega)).mpr st2
  obtain ⟨S2, c1, c2, c3⟩ := (C_shape (S := S1) (b := 0) hB k1 b2 a3' htl (by omega) (by omega) ot1).1 T2 hs2
  obtain ⟨S3, d1, d2, d3⟩ := (C_shape (S := S2) (b := 0) hB s1 c2 a2' (by omega) (by omega) (by omega) ot2).1 T3 hs3
  obtain ⟨S4, e1, e2, e3⟩ := C_takeOut (S := S3) (k := o * 4000) hB r1 d2 (by omega) ⟨_, st3, rfl⟩ ⟨y0, (r3 y0 (by omega)).mpr y2, by omega⟩
  have f4 : m_fr 2 S1 S4 := m_fr_tr c3 (m_fr_tr d3 e3)
  have n4 : ∀ a, (a ≤ 2 ∨ 13 < a) → a ≠ 19 → S4.1 a = S.1 a := fun a ha e => (f4.1 a (by omega)).trans (n1 a ha e)
  have b1' : F_X5_changeData B (nI o) (nI (oP O o).length) 0 S = some (.inl (some 1), S1) := b1
  have q3 : F_X5_keyOf B (nI o) 3 0 S1 = some (.inl (some (nI (o * 4000 + 3000))), S1) := by
    have := C_keyOf (B := B) (S := S1) (o := o) (k := 3) (n := 0)
    rw [show (o * 4 + 3) * 1000 + 0 = o * 4000 + 3000 by omega] at this
    exact this
  have q2 : F_X5_keyOf B (nI o) 2 0 S2 = some (.inl (some (nI (o * 4000 + 2000))), S2) := by
    have := C_keyOf (B := B) (S := S2) (o := o) (k := 2) (n := 0)
    rw [show (o * 4 + 2) * 1000 + 0 = o * 4000 + 2000 by omega] at this
    exact this
  have q0 : F_X5_keyOf B (nI o) 0 0 S3 = some (.inl (some (nI (o * 4000))), S3) := by
    have := C_keyOf (B := B) (S := S3) (o := o) (k := 0) (n := 0)
    rw [show (o * 4 + 0) * 1000 + 0 = o * 4000 by omega] at this
    exact this
  have c1' : F_X4_reshape B 2 (nI (o * 4000 + 3000)) (nI (o_tl O o)) 0 S1 = some (.inl (some 1), S2) := c1
  have d1' : F_X4_reshape B 2 (nI (o * 4000 + 2000)) (nI (2 * (oP O o).length)) 0 S2 = some (.inl (some 1), S3) := d1
  have m1 : (2 : Int32) * nI (oP O o).length = nI (2 * (oP O o).length) := by rw [m_c2, pk_mul]
  have t0 := (C_data3 (B := B) o2 hk h15 h17 hP1).1
  have t1 := (C_data3 (B := B) (S := S1) o2 hk (by rw [n1 15 (by omega) (by decide)]; exact h15) (fun w => by rw [n1 17 (by omega) (by decide)]; exact h17 w) hP1).2
  refine ⟨z_ua S4 15 (upd (S4.1 15) o (-1)), ?_, c_T_cg e2 (fun a x1 x2 => by rw [m_ua1, if_neg (by omega)]) rfl rfl, by rw [z_ua_at, n4 15 (by omega) (by decide)], fun a ha h5 h9 => by rw [m_ua1, if_neg h5]; exact n4 a ha h9, fun j hj => ?_, fun a k hk => ?_, ?_⟩
  · unfold F_X5_forget
    rw [t0, m_bn, b1', m_bn, q3, m_bn, t1, m_bn, c1', m_bn, q2, m_bn, m1, d1', m_bn, q0, m_bn, e1, m_bo, m_gd (m_inb (by omega) (by omega)), m_lt, m_ix (by omega)]
  · rw [m_ua1, if_neg (by decide), f4.1 19 (by omega)]
    exact b3.2 j (by omega)
  · exact (f4.2.1 a k hk).trans (b3.1.2.1 a k hk)
  · exact f4.2.2.trans b3.1.2.2
theorem G_unlink_c {p1 p2 : Int32} (h : CI B J S A) (hA : AI B J A) : ∃ S1, F_X5_unlink B p1 p2 S = some (r_o [E_U, E_I, E_S] (A_unlink B A p1 p2).1 (A_unlink B A p1 p2).2.1, S1) ∧ CI B J S1 (A_unlink B A p1 p2).2.2 ∧ z_cf S S1 := by
  have hB := hA.1.2.1
  have hB1 : 1 ≤ B := by have := hA.1.1; omega
  have hok := hA.2.1.1
  have hi := hA.2.1.2
  unfold F_X5_unlink A_unlink
  rw [C_needPower h hA]
  by_cases e : A.2.2.1 = 0
  · rw [if_pos e, if_pos e, m_bv, C_needDirectory hi h.2.1.2]
    by_cases e1 : d_k A.1.2 p1 = 1
    · obtain ⟨d, hd, d1, d2, d3⟩ := dk_some (O := A.1.2) (p := p1) (by omega)
      subst hd
      have hdk : oK A.1.2 d = 1 := d3.trans e1
      rw [if_pos e1, if_pos e1, m_bv, C_needEntry hB hok hi h.2.1.1 d2, nI_clamp (show d < 2 ^ 31 by omega)]
      by_cases hx : d_ea A.1.1 d p2 = -1
      · rw [if_pos hx, if_pos hx, m_bix]
        exact ⟨S, rfl, h, z_cf_rf⟩
      · obtain ⟨n, hn, hn2⟩ := ea_in hx
        subst hn
        obtain ⟨o, x1, x2, x3⟩ := ea_some hok hn2 hx
        obtain ⟨m1, m2, m3, m4, m5⟩ := en_mem hi hn2 x1
        have hO := h.2.1.2
        have k15 : S.1 15 o = nI (oK A.1.2 o) - 1 := hO.1 o m2 m3
        have k17 : ∀ x, 1 ≤ x → x ≤ 60 → oK A.1.2 x ≠ 0 → S.1 17 x = nI (oZ A.1.2 x) := fun x h1 h2 hk => (hO.2.1 x h1 h2 hk).2
        have k16 : ∀ x, 1 ≤ x → x ≤ 60 → oK A.1.2 x ≠ 0 → S.1 16 x = nI (oL A.1.2 x) := fun x h1 h2 hk => (hO.2.1 x h1 h2 hk).1
        have hk12 : oK A.1.2 o = 1 ∨ oK A.1.2 o = 2 := by have := hi.2.1 o; omega
        have hfew := flat_few hok hB
        rw [if_neg hx, if_neg hx, m_bi, x3, m_gd (m_inb (by omega) (by omega)), m_lt, m_ix (by omega), k15, nI_clamp (show o < 2 ^ 31 by omega), nI_clamp (show n < 2 ^ 31 by omega)]
        by_cases hne : oK A.1.2 o = 1 ∧ 0 < oZ A.1.2 o
        · have hZs : oZ A.1.2 o < 2 ^ 31 := by
            have := (hi.2.2.2.2.2.2.2.2.2.1 o hne.1).2
            have hEl : m_nE (flat A.1.1) o ≤ (flat A.1.1).length := List.countP_le_length
            omega
          rw [if_pos ((kind_m1 (hi.2.1 o)).2.1.mpr hne.1), if_pos hne, m_gd (m_inb (by omega) (by omega)), m_lt, k17 o m2 m3 m4, if_neg (nI_nle hne.2 hZs)]
          exact ⟨S, rfl, h, z_cf_rf⟩
        · obtain ⟨-, -, -, -, hod, hL1, hZ1, hZ0, ⟨t1, t2, t3, t4⟩, ki, ⟨kp1, kp2, kp3, kp4, kp5, kp6, kp7, kp8⟩, kf⟩ := unl_pre hA hdk hn2 x1 hne
          have go : (if nI (oK A.1.2 o) - 1 = 0 then z_gd (z_inb (nI o) 61) (z_lt (S.1 17 o) fun x13 => (if x13 ≤ 0 then F_X5_unlink_55 B (nI d) (nI n) (nI o) S else some (.inr "java/lang/IllegalStateException", S))) else F_X5_unlink_55 B (nI d) (nI n) (nI o) S) = F_X5_unlink_55 B (nI d) (nI n) (nI o) S := by
            by_cases hk1 : oK A.1.2 o = 1
            · rw [if_pos ((kind_m1 (hi.2.1 o)).2.1.mpr hk1), m_gd (m_inb (by omega) (by omega)), m_lt, k17 o m2 m3 m4, hZ0 hk1, if_pos (show nI 0 ≤ 0 by decide)]
            · rw [if_neg (fun w => hk1 ((kind_m1 (hi.2.1 o)).2.1.mp w))]
          rw [go, if_neg hne]
          have hk1 : F_X5_keyOf B (nI d) 1 (nI n) S = some (.inl (some (nI ((d * 4 + 1) * 1000 + n))), S) := C_keyOf (B := B) (S := S) (o := d) (k := 1) (n := n)
          obtain ⟨S2, b1, b2, b3⟩ := C_takeOut (k := (d * 4 + 1) * 1000 + n) hB hok h.2.1.1 (by omega) ⟨_, m1, rfl⟩ (rt_ne hi hn2)
          have z17 : S2.1 17 = S.1 17 := b3.1 17 (by omega)
          have z16 : S2.1 16 = S.1 16 := b3.1 16 (by omega)
          rw [F_X5_unlink_55, hk1, m_bn, b1, m_bo, m_gd (m_inb (by omega) (by omega)), m_lt, m_ix (i := d) (by omega), z17, k17 d d1 d2 (by omega), nI_s1 hZ1, m_gd (m_inb (by omega) (by omega)), m_lt, m_gd (m_inb (by omega) (by omega)), m_lt, m_ix (i := o) (by omega)]
          have g16 : (z_ua S2 17 (upd (S.1 17) d (nI (oZ A.1.2 d - 1)))).1 16 = S.1 16 := by rw [m_ua1, if_neg (by decide)]; exact z16
          rw [g16, k16 o m2 m3 m4, nI_s1 hL1, m_gd (m_inb (by omega) (by omega)), m_lt, m_gd (m_inb (by omega) (by omega)), m_lt, z_ua_at, pk_us]
          have hLs : oL A.1.2 o < 2 ^ 31 := by
            have := hi.2.2.2.2.2.2.2.2.2.2.1 o m4
            have hEl : m_nT (flat A.1.1) o ≤ (flat A.1.1).length := List.countP_le_length
            split at this <;> omega
          have w17 : ∀ x, 1 ≤ x → x ≤ 60 → oK A.1.2 x ≠ 0 → upd (S.1 17) d (nI (oZ A.1.2 d - 1)) x = nI (va_up (oZ A.1.2) d (oZ A.1.2 d - 1) x) := fun x q1 q2 q3 => by
            by_cases ex : x = d
            · rw [ex, pk_us, l_up_s]
            · rw [pk_un ex, l_up_n ex]; exact k17 x q1 q2 q3
          have w16 : ∀ x, 1 ≤ x → x ≤ 60 → oK A.1.2 x ≠ 0 → upd (S.1 16) o (nI (oL A.1.2 o - 1)) x = nI (va_up (oL A.1.2) o (oL A.1.2 o - 1) x) := fun x q1 q2 q3 => by
            by_cases ex : x = o
            · rw [ex, pk_us, l_up_s]
            · rw [pk_un ex, l_up_n ex]; exact k16 x q1 q2 q3
          generalize hS3 : z_ua (z_ua S2 17 (upd (S.1 17) d (nI (oZ A.1.2 d - 1)))) 16 (upd (S.1 16) o (nI (oL A.1.2 o - 1))) = S3
          have v16 : S3.1 16 = upd (S.1 16) o (nI (oL A.1.2 o - 1)) := by rw [← hS3, z_ua_at]
          have v17 : S3.1 17 = upd (S.1 17) d (nI (oZ A.1.2 d - 1)) := by rw [← hS3, m_ua1, if_neg (by decide), z_ua_at]
          have vn : ∀ a, (a ≤ 2 ∨ 13 < a) → a ≠ 16 → a ≠ 17 → S3.1 a = S.1 a := fun a ha h6 h7 => by rw [← hS3, m_ua1, if_neg h6, m_ua1, if_neg h7]; exact b3.1 a (by omega)
          have vf : ∀ a k, ¬ (a = 2 ∧ k = 12) → S3.2.1 a k = S.2.1 a k := fun a k hk => by rw [← hS3]; exact b3.2.1 a k hk
          have vl : S3.2.2 = S.2.2 := by rw [← hS3]; exact b3.2.2
          have vT : c_T B 2 S3 (a_del B A.1.1 ((d * 4 + 1) * 1000 + n)) := by rw [← hS3]; exact c_T_cg b2 (fun a x1 x2 => by rw [m_ua1, if_neg (by omega), m_ua1, if_neg (by omega)]) rfl rfl
          unfold A_unl2
          by_cases hl : oL A.1.2 o - 1 = 0
          · obtain ⟨T5, h5⟩ := fgt_some (B := B) (T := a_del B A.1.1 ((d * 4 + 1) * 1000 + n)) (O := A.1.2) (o := o)
            obtain ⟨q1, q2, q3⟩ := kf hl T5 h5
            obtain ⟨S4, c1, c2, c3, c4, c5, c6, c7⟩ := C_forget (S := S3) (O := A.1.2) hB hB1 t1 vT kp1 kp2 kp3 m2 m3 kp4 kp5 kp6 kp7 kp8 hk12 (by rw [vn 15 (by omega) (by decide) (by decide)]; exact k15) (fun w => ⟨by rw [v17, pk_un hod]; exact k17 o m2 m3 m4, im_z hi w, (hi.2.2.2.2.2.2.2.2.1 o w).1⟩) (fun w => (hi.2.2.2.2.2.2.2.2.2.1 o w).1) (by
              rw [vn 19 (by omega) (by decide) (by decide)]
              rcases hk12 with w | w
              · rw [(hi.2.2.2.2.2.2.2.2.2.1 o w).1]; exact m_l_nil
              · exact hO.2.2.2.1 o m2 m3 w) h5
            have hz0 : nI (oL A.1.2 o - 1) = 0 := by rw [hl]; rfl
            rw [if_pos hl, hz0, if_pos rfl, c1, m_bo, F_X5_unlink_112, h5]
            obtain ⟨u1', u2'⟩ := CI_fin2 (S' := S4) (O' := o_fgt A.1.2 d o) (T2 := T5) h (fun a ha => by rw [c4 a (by omega) (by omega) (by omega)]; exact vn a (by omega) (by omega) (by omega)) (fun a k hk => (c6 a k hk).trans (vf a k hk)) (c7.trans vl) c2 (by
              have Kn : ∀ x, x ≠ o → oK (o_fgt A.1.2 d o) x = oK A.1.2 x := fun x hx => l_up_n hx
              have Ko : oK (o_fgt A.1.2 d o) o = 0 := l_up_s
              have Kx : ∀ x, oK (o_fgt A.1.2 d o) x ≠ 0 → x ≠ o := fun x hx e => hx (e ▸ Ko)
              obtain ⟨g1, g2, g3, g4, g5, g6⟩ := hO
              refine ⟨fun x y1 y2 => ?_, fun x y1 y2 hx => ?_, fun x y1 y2 hx => ?_, fun x y1 y2 hx => ?_, fun b hb hu r hr => ?_, fun x y1 y2 hx r hr => ?_⟩
              · show S4.1 15 x = _
                rw [c3, vn 15 (by omega) (by decide) (by decide)]
                by_cases ex : x = o
                · rw [ex, pk_us, Ko]; rfl
                · rw [pk_un ex, Kn x ex]; exact g1 x y1 y2
              · have ex := Kx x hx
                rw [Kn x ex] at hx
                show S4.1 16 x = _ ∧ S4.1 17 x = _
                rw [c4 16 (by omega) (by decide) (by decide), c4 17 (by omega) (by decide) (by decide), v16, v17]
                exact ⟨w16 x y1 y2 hx, w17 x y1 y2 hx⟩
              · have ex := Kx x (by omega)
                rw [Kn x ex] at hx
                show S4.1 18 x = _
                rw [c4 18 (by omega) (by decide) (by decide), vn 18 (by omega) (by decide) (by decide)]
                exact g3 x y1 y2 hx
              · have ex := Kx x (by omega)
                rw [Kn x ex] at hx
                have hl16 := im_len hi hx
                show m_l (S4.1 19) _ _
                refine m_l_kept (g4 x y1 y2 hx) (fun j hj => ?_)
                rw [List.length_map] at hj
                have hj' : j < (oP A.1.2 x).length := hj
                rw [c5 _ (by omega), vn 19 (by omega) (by decide) (by decide)]
              · show rB (S4.1 20 _) _
                rw [c4 20 (by omega) (by decide) (by decide), vn 20 (by omega) (by decide) (by decide)]
                exact g5 b hb (q3 b hu) r hr
              · have ex := Kx x (by omega)
                rw [Kn x ex] at hx
                have e2 : x ≠ d := fun e => by rw [e, hdk] at hx; cases hx
                rw [show oZ (o_fgt A.1.2 d o) x = oZ A.1.2 x from l_up_n e2] at hr
                show rB (S4.1 21 _) _
                rw [c4 21 (by omega) (by decide) (by decide), vn 21 (by omega) (by decide) (by decide)]
                exact g6 x y1 y2 hx r hr)
            exact ⟨S4, rfl, u1', u2'⟩
          · have hz0 : ¬ nI (oL A.1.2 o - 1) = 0 := fun w => hl ((nI_eq (by omega) (by omega)).mp (w.trans m_c0))
            rw [if_neg hl, if_neg hz0, F_X5_unlink_112]
            obtain ⟨u1', u2'⟩ := CI_fin2 (S' := S3) (O' := o_unl A.1.2 d o) (T2 := a_del B A.1.1 ((d * 4 + 1) * 1000 + n)) h (fun a ha => vn a (by omega) (by omega) (by omega)) vf vl vT (c_O_ent hO rfl rfl rfl rfl (fun x hx => l_up_n (fun e => by rw [e, hdk] at hx; cases hx)) t3 (vn 15 (by omega) (by decide) (by decide)) (vn 19 (by omega) (by decide) (by decide)) (vn 20 (by omega) (by decide) (by decide)) (vn 21 (by omega) (by decide) (by decide)) (fun x y1 y2 hx => by rw [v16, v17]; exact ⟨w16 x y1 y2 hx, w17 x y1 y2 hx⟩) (fun x y1 y2 hx => by rw [vn 18 (by omega) (by decide) (by decide)]; exact hO.2.2.1 x y1 y2 hx))
            exact ⟨S3, rfl, u1', u2'⟩
    · rw [if_neg e1, if_neg e1, m_bvx]
      exact ⟨S, rfl, h, z_cf_rf⟩
  · rw [if_neg e, if_neg e, m_bvx]
    exact ⟨S, rfl, h, z_cf_rf⟩
end UC
