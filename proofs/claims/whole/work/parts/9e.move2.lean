/-! move: the class's call and the reference's. -/
section MV2
variable {B J : Nat} {S S' S0 : z_S} {A : m_A} {T T1 T2 : m_T} {O O' : m_O} {f f' : Nat → Int32}
theorem nI_s1 {n : Nat} (h : 1 ≤ n) : nI n - 1 = nI (n - 1) := by rw [m_c1]; exact pk_sub h
theorem en_Z {d n o : Nat} (hok : m_ok B T) (hi : m_im B T O) (hn : n < 1000) (hx : i_en d n o ∈ flat T) (hd : oK O d = 1) : 1 ≤ oZ O d := by
  have q := nE_del (x := d) hok.2.2.2 hx hn
  have q2 := (hi.2.2.2.2.2.2.2.2.2.1 d hd).2
  rw [if_pos rfl] at q
  omega
theorem G_move_c {p1 p2 p3 p4 : Int32} (h : CI B J S A) (hA : AI B J A) : ∃ S1, F_X5_move B p1 p2 p3 p4 S = some (r_o [E_U, E_I, E_A, E_S] (A_move B A p1 p2 p3 p4).1 (A_move B A p1 p2 p3 p4).2.1, S1) ∧ CI B J S1 (A_move B A p1 p2 p3 p4).2.2 ∧ z_cf S S1 := by
  have hB := hA.1.2.1
  have hok := hA.2.1.1
  have hi := hA.2.1.2
  unfold F_X5_move A_move
  rw [C_needPower h hA]
  by_cases e : A.2.2.1 = 0
  · rw [if_pos e, if_pos e, m_bv, C_needDirectory hi h.2.1.2]
    by_cases e1 : d_k A.1.2 p1 = 1
    · obtain ⟨d, hd, d1, d2, d3⟩ := dk_some (O := A.1.2) (p := p1) (by omega)
      subst hd
      rw [if_pos e1, if_pos e1, m_bv, C_needDirectory hi h.2.1.2]
      by_cases e3 : d_k A.1.2 p3 = 1
      · obtain ⟨t, ht, t1, t2, t3⟩ := dk_some (O := A.1.2) (p := p3) (by omega)
        subst ht
        rw [if_pos e3, if_pos e3, m_bv, C_needEntry hB hok hi h.2.1.1 d2, nI_clamp (show d < 2 ^ 31 by omega), nI_clamp (show t < 2 ^ 31 by omega)]
        by_cases hx : d_ea A.1.1 d p2 = -1
        · rw [if_pos hx, if_pos hx, m_bix]
          exact ⟨S, rfl, h, z_cf_rf⟩
        · obtain ⟨n, hn, hn2⟩ := ea_in hx
          subst hn
          obtain ⟨o, x1, x2, x3⟩ := ea_some hok hn2 hx
          obtain ⟨m1, m2, m3, m4, m5⟩ := en_mem hi hn2 x1
          rw [if_neg hx, if_neg hx, m_bi, x3, C_needName, nI_clamp (show o < 2 ^ 31 by omega), nI_clamp (show n < 2 ^ 31 by omega)]
          by_cases hp4 : 0 ≤ p4 ∧ p4 < 1000
          · obtain ⟨m, hm, hm2⟩ := m_below hp4.1 (z := 1000) (by rw [← m_c1000]; exact hp4.2) (by omega)
            subst hm
            rw [if_pos hp4, if_pos hp4, m_bv, C_needNoEntry hB hok hi h.2.1.1 t2, nI_clamp (show m < 2 ^ 31 by omega)]
            by_cases hea : d_ea A.1.1 t (nI m) = -1
            · have hen := (ea_m1 hok hm2).mp hea
              have hdk : oK A.1.2 d = 1 := d3.trans e1
              have htk : oK A.1.2 t = 1 := t3.trans e3
              rw [if_pos hea, if_pos hea, m_bv, C_holds hi h.2.1.2 m3 htk, m_bn]
              by_cases hw : w_in A.1.2 o 60 t = true
              · rw [if_pos hw, if_pos hw, if_neg (show ¬ (1 : Int32) = 0 by decide)]
                exact ⟨S, rfl, h, z_cf_rf⟩
              · obtain ⟨k1, k2, k3, k4⟩ := move_ok hA hdk hn2 x1 htk t1 t2 hm2 hen (by simpa using hw)
                obtain ⟨S1, a1, r1, tt1⟩ := C_keep h hA
                have hk1 : F_X5_keyOf B (nI d) 1 (nI n) S1 = some (.inl (some (nI ((d * 4 + 1) * 1000 + n))), S1) := C_keyOf (B := B) (S := S1) (o := d) (k := 1) (n := n)
                obtain ⟨S2, b1, b2, b3⟩ := C_takeOut (k := (d * 4 + 1) * 1000 + n) hB hok tt1 (by omega) ⟨_, m1, rfl⟩ (rt_ne hi hn2)
                have r2 := rC_tr r1 b3
                have hk2 : F_X5_keyOf B (nI t) 1 (nI m) S2 = some (.inl (some (nI (i_en t m o).1)), S2) := C_keyOf (B := B) (S := S2) (o := t) (k := 1) (n := m)
                obtain ⟨j1, j2⟩ := C_putIn (x := i_en t m o) hB k1 b2 (ig_en t2 hm2 m3)
                rw [if_neg hw, if_neg hw, if_pos rfl, a1, m_bo, hk1, m_bn, b1, m_bo, hk2, m_bn]
                unfold A_move2
                cases hp : a_put B (a_del B A.1.1 ((d * 4 + 1) * 1000 + n)) (i_en t m o) with
                | none =>
                  obtain ⟨S3, c1, c2⟩ := j2 hp
                  have c1' : F_X4_putIn B 2 (nI (i_en t m o).1) 3 (nI o) S2 = some (.inl (some 0), S3) := c1
                  obtain ⟨S4, f1, f2, f3⟩ := C_noRoom h hA (rC_tr r2 c2)
                  rw [c1', m_bn, f1, m_bvx]
                  exact ⟨S4, rfl, f2, f3⟩
                | some T2 =>
                  obtain ⟨S3, c1, c2, c3⟩ := j1 T2 hp
                  have c1' : F_X4_putIn B 2 (nI (i_en t m o).1) 3 (nI o) S2 = some (.inl (some 1), S3) := c1
                  have r3 := rC_tr r2 c3
                  obtain ⟨q1, q2, q3⟩ := k4 T2 hp
                  have hO0 : c_O B 1 S3 A.1.1 A.1.2 := rC_O r3 rfl h.2.1.2
                  have hZ1 := en_Z hok hi hn2 m1 hdk
                  have z17 : ∀ x, 1 ≤ x → x ≤ 60 → oK A.1.2 x ≠ 0 → S3.1 17 x = nI (oZ A.1.2 x) := fun x x1 x2 hx => (hO0.2.1 x x1 x2 hx).2
                  have z15 : S3.1 15 o = nI (oK A.1.2 o) - 1 := hO0.1 o m2 m3
                  have v17 : ∀ x, 1 ≤ x → x ≤ 60 → oK A.1.2 x ≠ 0 → upd (S3.1 17) d (nI (oZ A.1.2 d - 1)) x = nI (va_up (oZ A.1.2) d (oZ A.1.2 d - 1) x) := fun x x1 x2 hx => by
                    by_cases e : x = d
                    · rw [e, pk_us, l_up_s]
                    · rw [pk_un e, l_up_n e]; exact z17 x x1 x2 hx
                  rw [c1', m_bn, C_room (by decide), m_bv, m_gd (m_inb (by omega) (by omega)), m_lt, m_ix (i := d) (by omega), z17 d d1 d2 (by omega), nI_s1 hZ1, m_gd (m_inb (by omega) (by omega)), m_lt, m_gd (m_inb (by omega) (by omega)), m_lt, m_ix (i := t) (by omega), z_ua_at, v17 t t1 t2 (by omega), nI_1, m_gd (m_inb (by omega) (by omega)), m_lt, m_gd (m_inb (by omega) (by omega)), m_lt, m_ix (i := o) (by omega), z_ua_ua]
                  have g15 : (z_ua S3 17 (upd (upd (S3.1 17) d (nI (oZ A.1.2 d - 1))) t (nI (va_up (oZ A.1.2) d (oZ A.1.2 d - 1) t + 1)))).1 15 o = nI (oK A.1.2 o) - 1 := by rw [m_ua1, if_neg (by decide), z15]
                  have eZ2 : ∀ x, oK A.1.2 x = 2 → oZ (o_move A.1.2 d t o) x = oZ A.1.2 x := fun x hx => (l_up_n (fun e => by rw [e, htk] at hx; cases hx)).trans (l_up_n (fun e => by rw [e, hdk] at hx; cases hx))
                  have w17 : ∀ x, 1 ≤ x → x ≤ 60 → oK A.1.2 x ≠ 0 → upd (upd (S3.1 17) d (nI (oZ A.1.2 d - 1))) t (nI (va_up (oZ A.1.2) d (oZ A.1.2 d - 1) t + 1)) x = nI (oZ (o_move A.1.2 d t o) x) := fun x x1 x2 hx => by
                    show _ = nI (va_up (va_up (oZ A.1.2) d (oZ A.1.2 d - 1)) t (va_up (oZ A.1.2) d (oZ A.1.2 d - 1) t + 1) x)
                    by_cases e : x = t
                    · rw [e, pk_us, l_up_s]
                    · rw [pk_un e, l_up_n e]; exact v17 x x1 x2 hx
                  generalize hg : upd (upd (S3.1 17) d (nI (oZ A.1.2 d - 1))) t (nI (va_up (oZ A.1.2) d (oZ A.1.2 d - 1) t + 1)) = g at g15 w17 ⊢
                  rw [g15]
                  by_cases hko : oK A.1.2 o = 1
                  · have e0 : nI (oK A.1.2 o) - 1 = 0 := by rw [hko]; rfl
                    rw [if_pos e0, m_gd (m_inb (by omega) (by omega)), m_lt, F_X5_move_151]
                    obtain ⟨w1, w2⟩ := CI_fin (O' := o_move A.1.2 d t o) (S' := z_ua (z_ua S3 17 g) 18 (upd ((z_ua S3 17 g).1 18) o (nI t))) h r3 c2 (fun a ha => by rw [m_ua1, if_neg (by omega), m_ua1, if_neg (by omega)]) rfl (by
                      refine c_O_ent hO0 rfl rfl rfl rfl eZ2 q2 (by simp [m_ua1]) (by simp [m_ua1]) (by simp [m_ua1]) (by simp [m_ua1]) (fun x x1 x2 hx => ⟨?_, ?_⟩) (fun x x1 x2 hx => ?_)
                      · rw [m_ua1, if_neg (by decide), m_ua1, if_neg (by decide)]; exact (hO0.2.1 x x1 x2 hx).1
                      · rw [m_ua1, if_neg (by decide), z_ua_at]; exact w17 x x1 x2 hx
                      · rw [z_ua_at, m_ua1, if_neg (by decide)]
                        show _ = oI ((if oK A.1.2 o = 1 then va_up (oU A.1.2) o (some t) else oU A.1.2) x)
                        rw [if_pos hko]
                        by_cases e : x = o
                        · rw [e, pk_us, l_up_s]; rfl
                        · rw [pk_un e, l_up_n e]; exact hO0.2.2.1 x x1 x2 hx)
                    exact ⟨_, rfl, w1, w2⟩
                  · have e0 : ¬ nI (oK A.1.2 o) - 1 = 0 := fun z => hko ((kind_m1 (hi.2.1 o)).2.1.mp z)
                    rw [if_neg e0, F_X5_move_151]
                    obtain ⟨w1, w2⟩ := CI_fin (O' := o_move A.1.2 d t o) (S' := z_ua S3 17 g) h r3 c2 (fun a ha => by rw [m_ua1, if_neg (by omega)]) rfl (by
                      refine c_O_ent hO0 rfl rfl rfl rfl eZ2 q2 (by simp [m_ua1]) (by simp [m_ua1]) (by simp [m_ua1]) (by simp [m_ua1]) (fun x x1 x2 hx => ⟨?_, ?_⟩) (fun x x1 x2 hx => ?_)
                      · rw [m_ua1, if_neg (by decide)]; exact (hO0.2.1 x x1 x2 hx).1
                      · rw [z_ua_at]; exact w17 x x1 x2 hx
                      · rw [m_ua1, if_neg (by decide)]
                        show _ = oI ((if oK A.1.2 o = 1 then va_up (oU A.1.2) o (some t) else oU A.1.2) x)
                        rw [if_neg hko]; exact hO0.2.2.1 x x1 x2 hx)
                    exact ⟨_, rfl, w1, w2⟩
            · rw [if_neg hea, if_neg hea, m_bvx]
              exact ⟨S, rfl, h, z_cf_rf⟩
          · rw [if_neg hp4, if_neg hp4, m_bvx]
            exact ⟨S, rfl, h, z_cf_rf⟩
      · rw [if_neg e3, if_neg e3, m_bvx]
        exact ⟨S, rfl, h, z_cf_rf⟩
    · rw [if_neg e1, if_neg e1, m_bvx]
      exact ⟨S, rfl, h, z_cf_rf⟩
  · rw [if_neg e, if_neg e, m_bvx]
    exact ⟨S, rfl, h, z_cf_rf⟩
/-- the reference's move, granted -/
theorem K_move_go {d n t m o : Nat} (h : KI B J S A) (hA : AI B J A) (hdk : oK A.1.2 d = 1) (d1 : 1 ≤ d) (d2 : d ≤ 60) (hn2 : n < 1000) (x1 : d_e A.1.1 d n = some o) (htk : oK A.1.2 t = 1) (t1 : 1 ≤ t) (t2 : t ≤ 60) (hm2 : m < 1000) (hen : d_e A.1.1 t m = none) (hw : w_in A.1.2 o 60 t = false) :
    ∃ v S2, F_X6_move_108 B (nI d) (nI n) (nI t) (nI m) (nI o) 0 S = some (.inl (some v), S2) ∧ KI B J S2 (A_move2 B A d n t m o).2.2 ∧ z_kf S S2 ∧ S2.2.1 60 0 = nI (A_move2 B A d n t m o).1 ∧ ((A_move2 B A d n t m o).1 = 0 → v = (A_move2 B A d n t m o).2.1) := by
  have hok := hA.2.1.1
  have hi := hA.2.1.2
  have hB := hA.1.2.1
  obtain ⟨m1, m2, m3, m4, m5⟩ := en_mem hi hn2 x1
  obtain ⟨k1, k2, k3, k4⟩ := move_ok hA hdk hn2 x1 htk t1 t2 hm2 hen hw
  obtain ⟨S1, b1, b2, b3, b4, b5⟩ := K_begin (B := B) (z_ui S 60 0 0)
  have hI := KI_thr (v := 0) h
  have hB0 : S1.2.1 60 1 = nI B := (b2.2.1 60 1 (by decide)).trans hI.1.1
  have e61 : S1.1 61 = S.1 61 := b3
  obtain ⟨f1, c1, c2, c3⟩ := K_removeT (S := S1) (f := S1.1 61) (k := (d * 4 + 1) * 1000 + n) hB hok (by rw [e61]; exact h.2.1.1) (by omega) ⟨_, m1, rfl⟩ (rt_ne hi hn2)
  rw [show ((d * 4 + 1) * 1000 + n) / 4000 = d by omega, show ((d * 4 + 1) * 1000 + n) / 1000 % 4 = 1 by omega, show ((d * 4 + 1) * 1000 + n) % 1000 = n by omega, ← m_c1, z_ua_same] at c1
  have hZ1 := en_Z hok hi hn2 m1 hdk
  have f218 : f1 (218 + d) = nI (oZ A.1.2 d) := by rw [c3 _ (by omega), e61]; exact (h.2.1.2.2.1 d d1 d2 (by omega)).2.1
  have e2 : (218 : Int32) + nI d = nI (218 + d) := by rw [m_c218, nI_add]
  have e3 : (218 : Int32) + nI t = nI (218 + t) := by rw [m_c218, nI_add]
  rw [F_X6_move_108, m_lt, z_thr, if_pos (show (0 : Int32) ≤ 0 by decide), b1, m_bo, c1, m_bo, e2, m_gd (m_inb (by omega) (by omega)), m_lt, m_ix (i := 218 + d) (by omega), m_gd (m_inb (by omega) (by omega)), m_lt, e3]
  simp only [z_ua_at, z_ua_ua]
  rw [f218, nI_s1 hZ1]
  have tt : k_T B 0 0 (upd f1 (218 + d) (nI (oZ A.1.2 d - 1))) (a_del B A.1.1 ((d * 4 + 1) * 1000 + n)) := k_T_fr hB c2 (fun j hj => pk_un (by omega))
  obtain ⟨i1, i2⟩ := K_putT (S := S1) (x := i_en t m o) hB hB0 b4 k1 tt (ig_en t2 hm2 m3) k3
  have y1 : (i_en t m o).1 / 4000 = t := by show ((t * 4 + 1) * 1000 + m) / 4000 = t; omega
  have y2 : (i_en t m o).1 / 1000 % 4 = 1 := by show ((t * 4 + 1) * 1000 + m) / 1000 % 4 = 1; omega
  have y3 : (i_en t m o).1 % 1000 = m := by show ((t * 4 + 1) * 1000 + m) % 1000 = m; omega
  have y4 : nI (i_en t m o).2.1 = 3 := rfl
  have y5 : nI ((i_en t m o).2.2.getD 0) = nI o := rfl
  rw [y1, y2, y3, y4, y5, ← m_c1] at i1 i2
  unfold A_move2
  cases hp : a_put B (a_del B A.1.1 ((d * 4 + 1) * 1000 + n)) (i_en t m o) with
  | none =>
    obtain ⟨f5, g1⟩ := i2 hp
    rw [g1, m_bo, m_gd (m_inb (by omega) (by omega)), m_lt, m_ix (i := 218 + t) (by omega), m_gd (m_inb (by omega) (by omega)), m_lt]
    have h8 : ¬ (z_ui (z_ua S1 61 f5) 60 7 1).2.1 60 7 = 0 := by rw [m_ui2, if_pos rfl, if_pos rfl]; decide
    have r8 : rK (z_ui S 60 0 0) (z_ui (z_ua S1 61 f5) 60 7 1) := rK_ui (rK_ua b2) (Or.inr rfl)
    have key : ∀ g : Nat → Int32, ∃ S2, F_X6_ended B 4 (z_ua (z_ui (z_ua S1 61 f5) 60 7 1) 61 g) = some (.inl (some 0), S2) ∧ KI B J S2 A ∧ z_kf (z_ui S 60 0 0) S2 ∧ S2.2.1 60 0 = 4 := fun g => K_ended_no hI hA (rK_ua r8) h8
    obtain ⟨S2, d4, d5, d6, d7⟩ := key _
    rw [d4, m_bn, if_pos rfl, F_X6_move_184]
    exact ⟨_, _, rfl, d5, z_kf_tr (z_kf_ui (by decide)) d6, d7, fun z => (by cases z)⟩
  | some T2 =>
    obtain ⟨f5, g1, g2, g3⟩ := i1 T2 hp
    obtain ⟨q1, q2, q3⟩ := k4 T2 hp
    have base : ∀ j, ((96 ≤ j ∧ j < 3756) ∨ 13078 ≤ j) → f5 j = upd (S.1 61) (218 + d) (nI (oZ A.1.2 d - 1)) j := fun j hj => by
      rw [g3 j hj]
      by_cases e : j = 218 + d
      · rw [e, pk_us, pk_us]
      · rw [pk_un e, pk_un e, c3 j hj, e61]
    have v218 : ∀ x, 1 ≤ x → x ≤ 60 → oK A.1.2 x ≠ 0 → f5 (218 + x) = nI (va_up (oZ A.1.2) d (oZ A.1.2 d - 1) x) := fun x x1 x2 hx => by
      rw [base _ (by omega)]
      by_cases e : x = d
      · rw [e, pk_us, l_up_s]
      · rw [pk_un (by omega), l_up_n e]; exact (h.2.1.2.2.1 x x1 x2 hx).2.1
    rw [g1, m_bo, m_gd (m_inb (by omega) (by omega)), m_lt, m_ix (i := 218 + t) (by omega), m_gd (m_inb (by omega) (by omega)), m_lt]
    simp only [z_ua_at, z_ua_ua]
    rw [v218 t t1 t2 (by omega), nI_1]
    have h7 : (z_ua S1 61 (upd f5 (218 + t) (nI (va_up (oZ A.1.2) d (oZ A.1.2 d - 1) t + 1)))).2.1 60 7 = 0 := b4
    rw [K_ended_ok h7, m_bn, if_neg (show ¬ (1 : Int32) = 0 by decide), F_X6_move_184]
    refine ⟨_, _, rfl, KI_rK hI (rK_ua b2) ?_ ?_, z_kf_tr (z_kf_ui (by decide)) (rK_kf (rK_ua b2)), (show S1.2.1 60 0 = nI 0 by rw [b5, z_thr]; rfl), fun _ => rfl⟩
    · rw [z_ua_at]
      exact k_T_fr hB g2 (fun j hj => pk_un (by omega))
    · rw [z_ua_at]
      refine k_O_ent hB hi h.2.1.2 rfl rfl rfl rfl (fun x hx => (l_up_n (fun e => by rw [e, htk] at hx; cases hx)).trans (l_up_n (fun e => by rw [e, hdk] at hx; cases hx))) q2 (fun j hj => ?_) (fun x x1 x2 hx => ⟨?_, ?_⟩)
      · rw [pk_un (by omega), base _ (by omega), pk_un (by omega)]
      · rw [pk_un (by omega), base _ (by omega), pk_un (by omega)]; exact (h.2.1.2.2.1 x x1 x2 hx).1
      · show _ = nI (va_up (va_up (oZ A.1.2) d (oZ A.1.2 d - 1)) t (va_up (oZ A.1.2) d (oZ A.1.2 d - 1) t + 1) x)
        by_cases e : x = t
        · rw [e, pk_us, l_up_s]
        · rw [pk_un (by omega), l_up_n e]; exact v218 x x1 x2 hx
theorem G_move_k {p1 p2 p3 p4 : Int32} (h : KI B J S A) (hA : AI B J A) : ∃ v S2, F_X6_move B p1 p2 p3 p4 S = some (.inl (some v), S2) ∧ KI B J S2 (A_move B A p1 p2 p3 p4).2.2 ∧ z_kf S S2 ∧ S2.2.1 60 0 = nI (A_move B A p1 p2 p3 p4).1 ∧ ((A_move B A p1 p2 p3 p4).1 = 0 → v = (A_move B A p1 p2 p3 p4).2.1) := by
  have hok := hA.2.1.1
  have hi := hA.2.1.2
  have hB := hA.1.2.1
  have bad : ∀ (v1 v2 v3 v4 v5 c : Int32) (n : Nat) (w : Int32), c = nI n → n ≠ 0 → n < 5 → ∃ v S2, F_X6_move_108 B v1 v2 v3 v4 v5 c S = some (.inl (some v), S2) ∧ KI B J S2 A ∧ z_kf S S2 ∧ S2.2.1 60 0 = nI n ∧ (n = 0 → v = w) := fun v1 v2 v3 v4 v5 c n w hc hn hn5 => by
    have hc0 : ¬ c ≤ 0 := fun z => by
      rw [hc, m_c0] at z
      exact absurd z (nI_nle (by omega) (by omega))
    rw [F_X6_move_108, m_lt, z_thr, if_neg hc0]
    exact ⟨_, _, rfl, KI_thr h, z_kf_ui (by decide), by rw [z_thr, hc], fun z => absurd z hn⟩
  unfold F_X6_move A_move
  rw [h.2.2.2.1]
  by_cases e : A.2.2.1 = 0
  · rw [if_pos e, if_pos e, K_isDirectory hi h.2.1.2, m_bn]
    by_cases e1 : d_k A.1.2 p1 = 1
    · obtain ⟨d, hd, d1, d2, d3⟩ := dk_some (O := A.1.2) (p := p1) (by omega)
      subst hd
      have hdk : oK A.1.2 d = 1 := d3.trans e1
      have hE : ∀ x p, x ≤ 60 → F_X6_entry B (nI x) p S = some (.inl (some (d_ea A.1.1 x p)), S) := fun x p hx => by
        have := K_entry (S := S) (f := S.1 61) (o := x) (p := p) hB hok hi h.2.1.1 hx
        rw [z_ua_same] at this
        exact this
      rw [if_pos e1, if_pos e1, if_neg (show ¬ (1 : Int32) = 0 by decide), hE d p2 d2, m_bn, F_X6_move_25, h.2.2.2.1, if_pos e, nI_clamp (show d < 2 ^ 31 by omega)]
      by_cases hx : d_ea A.1.1 d p2 = -1
      · rw [hx, if_pos (show (-1 : Int32) < 0 by decide), F_X6_move_52]
        have goal := bad (nI d) p2 p3 p4 (-1) 2 2 0 rfl (by omega) (by omega)
        split
        · rw [if_pos rfl]; exact goal
        · exact goal
      · obtain ⟨n, hn, hn2⟩ := ea_in hx
        subst hn
        obtain ⟨o, x1, x2, x3⟩ := ea_some hok hn2 hx
        obtain ⟨m1, m2, m3, m4, m5⟩ := en_mem hi hn2 x1
        rw [if_neg hx, x3, if_neg (show ¬ nI o < 0 by rw [m_c0]; exact nI_nlt (by omega) (by omega)), K_isDirectory hi h.2.1.2, m_bn]
        by_cases e3 : d_k A.1.2 p3 = 1
        · obtain ⟨t, ht, t1, t2, t3⟩ := dk_some (O := A.1.2) (p := p3) (by omega)
          subst ht
          have htk : oK A.1.2 t = 1 := t3.trans e3
          rw [if_pos e3, if_pos e3, if_neg (show ¬ (1 : Int32) = 0 by decide), K_isName, m_bn, nI_clamp (show t < 2 ^ 31 by omega), nI_clamp (show o < 2 ^ 31 by omega), nI_clamp (show n < 2 ^ 31 by omega)]
          by_cases hp4 : 0 ≤ p4 ∧ p4 < 1000
          · obtain ⟨m, hm, hm2⟩ := m_below hp4.1 (z := 1000) (by rw [← m_c1000]; exact hp4.2) (by omega)
            subst hm
            have g1 : (0 : Int32) ≤ nI m ∧ nI m ≤ 999 := ⟨hp4.1, by rw [show (999 : Int32) = nI 999 from rfl]; exact nI_le (by omega) (by omega)⟩
            rw [if_pos g1, if_pos hp4, if_neg (show ¬ (1 : Int32) = 0 by decide), hE t (nI m) t2, m_bn, nI_clamp (show m < 2 ^ 31 by omega)]
            by_cases hea : d_ea A.1.1 t (nI m) = -1
            · have hen := (ea_m1 hok hm2).mp hea
              have e96 : (96 : Int32) + nI o = nI (96 + o) := by rw [m_c96, nI_add]
              rw [hea, if_neg (show ¬ (0 : Int32) ≤ -1 by decide), if_pos rfl, e96, m_gd (m_inb (by omega) (by omega)), m_lt, m_ix (i := 96 + o) (by omega), h.2.1.2.1 o m2 m3]
              by_cases hko : oK A.1.2 o = 1
              · rw [if_pos (show nI (oK A.1.2 o) = 1 by rw [hko]; rfl), K_isWithin hB hok hi h.2.1.1 m3 htk, m_bn]
                by_cases hw : w_in A.1.2 o 60 t = true
                · rw [if_pos hw, if_pos hw, if_neg (show ¬ (1 : Int32) = 0 by decide), F_X6_move_103]
                  exact bad _ _ _ _ _ _ 4 _ rfl (by omega) (by omega)
                · rw [if_neg hw, if_neg hw, if_pos rfl, F_X6_move_107]
                  exact K_move_go h hA hdk d1 d2 hn2 x1 htk t1 t2 hm2 hen (by simpa using hw)
              · have hw := w_file hi htk hko
                have g : ¬ nI (oK A.1.2 o) = 1 := fun z => hko ((nI_eq (by have := hi.2.1 o; omega) (by omega)).mp (z.trans m_c1))
                rw [if_neg g, if_neg (show ¬ w_in A.1.2 o 60 t = true by rw [hw]; decide), F_X6_move_107]
                exact K_move_go h hA hdk d1 d2 hn2 x1 htk t1 t2 hm2 hen hw
            · have g2 : (0 : Int32) ≤ d_ea A.1.1 t (nI m) := by
                obtain ⟨x, -, x1, x2⟩ := ea_some hok hm2 hea
                rw [x2]; exact m_ge0 (by omega)
              rw [if_pos g2, if_neg hea, F_X6_move_103]
              exact bad _ _ _ _ _ _ 4 _ rfl (by omega) (by omega)
          · have g1 : ¬ ((0 : Int32) ≤ p4 ∧ p4 ≤ 999) := fun w => hp4 ⟨w.1, nm_lt.mpr w.2⟩
            rw [if_neg g1, if_neg hp4, if_pos rfl]
            exact bad _ _ _ _ _ _ 3 _ rfl (by omega) (by omega)
        · rw [if_neg e3, if_neg e3, if_pos rfl, F_X6_move_52]
          exact bad _ _ _ _ _ _ 2 _ rfl (by omega) (by omega)
    · rw [if_neg e1, if_neg e1, if_pos rfl, F_X6_move_15, F_X6_move_25, h.2.2.2.1, if_pos e, if_pos (show (-1 : Int32) < 0 by decide), F_X6_move_52]
      exact bad _ _ _ _ _ _ 2 _ rfl (by omega) (by omega)
  · rw [if_neg e, if_neg e, F_X6_move_15, F_X6_move_25, h.2.2.2.1, if_neg e]
    exact bad _ _ _ _ _ _ 1 _ rfl (by omega) (by omega)
end MV2
