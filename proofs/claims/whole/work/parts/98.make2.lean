/-! make: the class's call and the reference's. -/
section MK2
variable {B J : Nat} {S S' S0 : z_S} {A : m_A} {T T1 T2 : m_T} {O : m_O}
theorem C_needName {p : Int32} : F_X5_needName B p S = some ((if 0 ≤ p ∧ p < 1000 then .inl none else .inr E_A), S) := by
  unfold F_X5_needName
  by_cases h1 : p < 0
  · rw [if_pos h1, F_X5_needName_11, if_neg (fun e => Int32.not_lt.mpr e.1 h1)]; rfl
  · rw [if_neg h1]
    by_cases h2 : p < 1000
    · rw [if_pos h2, if_pos ⟨Int32.not_lt.mp h1, h2⟩]
    · rw [if_neg h2, F_X5_needName_11, if_neg (fun e => h2 e.2)]; rfl
theorem C_needNoEntry {o : Nat} {p : Int32} (hB : B ≤ 96) (hk : m_ok B T) (hi : m_im B T O) (hT : c_T B 2 S T) (o2 : o ≤ 60) : F_X5_needNoEntry B (nI o) p S = some ((if d_ea T o p = -1 then .inl none else .inr E_S), S) := by
  unfold F_X5_needNoEntry
  rw [C_toldBy hB hk hi hT o2, m_bn]
  split <;> rfl
theorem c_O_make {d o k : Nat} (hi : m_im B T O) (h : c_O B 1 S T2 O) (hd : oK O d = 1) (d1 : 1 ≤ d) (d2 : d ≤ 60) (ho : oK O o = 0) (o1 : 1 ≤ o) (o2 : o ≤ 60) (hk : k = 1 ∨ k = 2) (e15 : S'.1 15 = upd (S.1 15) o (nI k - 1)) (e16 : S'.1 16 = upd (S.1 16) o 1) (e17 : S'.1 17 = upd (upd (S.1 17) o 0) d (nI (oZ O d) + 1)) (e18 : S'.1 18 = upd (S.1 18) o (nI d)) (e19 : S'.1 19 = S.1 19) (e20 : S'.1 20 = S.1 20) (e21 : S'.1 21 = S.1 21) : c_O B 1 S' T2 (o_make O d o k) := by
  have hod : o ≠ d := fun e => by rw [e, hd] at ho; cases ho
  obtain ⟨g1, g2, g3, g4, g5, g6⟩ := h
  have Kn : ∀ x, x ≠ o → oK (o_make O d o k) x = oK O x := fun x hx => l_up_n hx
  have Ko : oK (o_make O d o k) o = k := l_up_s
  have Ln : ∀ x, x ≠ o → oL (o_make O d o k) x = oL O x := fun x hx => l_up_n hx
  have Zn : ∀ x, x ≠ o → x ≠ d → oZ (o_make O d o k) x = oZ O x := fun x h1 h2 => by show va_up (va_up (oZ O) o 0) d _ x = _; rw [l_up_n h2, l_up_n h1]
  have Zo : oZ (o_make O d o k) o = 0 := by show va_up (va_up (oZ O) o 0) d _ o = _; rw [l_up_n hod, l_up_s]
  have Zd : oZ (o_make O d o k) d = oZ O d + 1 := l_up_s
  refine ⟨fun x x1 x2 => ?_, fun x x1 x2 hx => ⟨?_, ?_⟩, fun x x1 x2 hx => ?_, fun x x1 x2 hx => ?_, fun b hb hu r hr => ?_, fun x x1 x2 hx r hr => ?_⟩
  · show S'.1 15 x = _
    rw [e15]
    by_cases e : x = o
    · rw [e, pk_us, Ko]
    · rw [pk_un e, Kn x e]; exact g1 x x1 x2
  · show S'.1 16 x = _
    rw [e16]
    by_cases e : x = o
    · rw [e, pk_us, show oL (o_make O d o k) o = 1 from l_up_s]; rfl
    · rw [Kn x e] at hx
      rw [pk_un e, Ln x e]; exact (g2 x x1 x2 hx).1
  · show S'.1 17 x = _
    rw [e17]
    by_cases e : x = d
    · rw [e, pk_us, Zd, nI_1]
    · rw [pk_un e]
      by_cases e2 : x = o
      · rw [e2, pk_us, Zo]; rfl
      · rw [Kn x e2] at hx
        rw [pk_un e2, Zn x e2 e]; exact (g2 x x1 x2 hx).2
  · show S'.1 18 x = _
    rw [e18]
    by_cases e : x = o
    · rw [e, pk_us, show oU (o_make O d o k) o = some d from l_up_s]; rfl
    · rw [Kn x e] at hx
      rw [pk_un e, show oU (o_make O d o k) x = oU O x from l_up_n e]; exact g3 x x1 x2 hx
  · show m_l (S'.1 19) _ _
    rw [e19]
    by_cases e : x = o
    · rw [e, show oP (o_make O d o k) o = [] from l_up_s]; exact m_l_nil
    · rw [Kn x e] at hx
      rw [show oP (o_make O d o k) x = oP O x from l_up_n e]; exact g4 x x1 x2 hx
  · show rB (S'.1 20 _) _
    rw [e20]; exact g5 b hb hu r hr
  · show rB (S'.1 21 _) _
    rw [e21]
    by_cases e : x = o
    · rw [e, Zo, show m_tl 0 = 0 from rfl] at hr; exact absurd hr (Nat.not_lt_zero _)
    · rw [Kn x e] at hx
      have e2 : x ≠ d := fun z => by rw [z, hd] at hx; cases hx
      rw [Zn x e e2] at hr
      exact g6 x x1 x2 hx r hr
theorem C_make_end {d o : Nat} {v3 : Int32} (h : CI B J S0 A) (hA : AI B J A) (hr : rC B A.1.1 S0 S) (hT : c_T B 2 S T2) (h4 : u4 A.1.1 T2) (hd : oK A.1.2 d = 1) (d1 : 1 ≤ d) (d2 : d ≤ 60) (ho : oK A.1.2 o = 0) (o1 : 1 ≤ o) (o2 : o ≤ 60) : ∃ S1, F_X5_make_103 B (nI d) v3 (nI o) 1 S = some (.inl (some (nI o)), S1) ∧ CI B J S1 ((T2, o_make A.1.2 d o (if v3 = 0 then 2 else 1)), A.2) ∧ z_cf S0 S1 := by
  have hi := hA.2.1.2
  have hod : o ≠ d := fun e => by rw [e, hd] at ho; cases ho
  have hO0 : c_O B 1 S T2 A.1.2 := c_O_u4 (rC_O hr rfl h.2.1.2) h4
  have iz : z_inb (nI o) 61 = true := m_inb (by omega) (by omega)
  have xz : z_ix (nI o) = o := m_ix (by omega)
  have key : ∀ kd : Int32, ∀ k : Nat, (k = 1 ∨ k = 2) → kd = nI k - 1 → ∃ S1, F_X5_make_124 B (nI d) (nI o) kd (nI o) S = some (.inl (some (nI o)), S1) ∧ CI B J S1 ((T2, o_make A.1.2 d o k), A.2) ∧ z_cf S0 S1 := fun kd k hk hkd => by
    have v17 : (z_ua (z_ua (z_ua (z_ua S (14 + 1) (upd (S.1 (14 + 1)) o kd)) (14 + 2) (upd ((z_ua S (14 + 1) (upd (S.1 (14 + 1)) o kd)).1 (14 + 2)) o 1)) (14 + 3) (upd ((z_ua (z_ua S (14 + 1) (upd (S.1 (14 + 1)) o kd)) (14 + 2) (upd ((z_ua S (14 + 1) (upd (S.1 (14 + 1)) o kd)).1 (14 + 2)) o 1)).1 (14 + 3)) o 0)) (14 + 4) (upd ((z_ua (z_ua (z_ua S (14 + 1) (upd (S.1 (14 + 1)) o kd)) (14 + 2) (upd ((z_ua S (14 + 1) (upd (S.1 (14 + 1)) o kd)).1 (14 + 2)) o 1)) (14 + 3) (upd ((z_ua (z_ua S (14 + 1) (upd (S.1 (14 + 1)) o kd)) (14 + 2) (upd ((z_ua S (14 + 1) (upd (S.1 (14 + 1)) o kd)).1 (14 + 2)) o 1)).1 (14 + 3)) o 0)).1 (14 + 4)) o (nI d))).1 17 d = nI (oZ A.1.2 d) := by
      simp only [m_ua1]
      simp
      rw [pk_un (Ne.symm hod)]
      exact (hO0.2.1 d d1 d2 (by omega)).2
    refine ⟨_, by
      unfold F_X5_make_124 F_X2_begin
      rw [m_gd iz, m_lt, xz, m_gd iz, m_lt, m_gd iz, m_lt, m_gd iz, m_lt, m_bo, m_gd (m_inb (by omega) (by omega)), m_lt, m_ix (i := d) (by omega), v17, m_gd (m_inb (by omega) (by omega)), m_lt], ?_, ?_⟩
    · have hC := c_O_make (S' := z_ua (z_ua (z_ua (z_ua (z_ua S 15 (upd (S.1 15) o kd)) 16 (upd (S.1 16) o 1)) 17 (upd (S.1 17) o 0)) 18 (upd (S.1 18) o (nI d))) 17 (upd (upd (S.1 17) o 0) d (nI (oZ A.1.2 d) + 1))) hi hO0 hd d1 d2 ho o1 o2 hk (by simp [m_ua1, hkd]) (by simp [m_ua1]) (by simp [m_ua1]) (by simp [m_ua1]) (by simp [m_ua1]) (by simp [m_ua1]) (by simp [m_ua1])
      have hr' : rC B A.1.1 S0 S := hr
      obtain ⟨⟨a1, a2, a3⟩, -, ⟨c1, c2⟩, e1, e2, e3, e4, e5, e6⟩ := CI_rC h hr hT hO0
      have fo : ∀ a, (a < 15 ∨ 18 < a) → (z_ua (z_ua (z_ua (z_ua (z_ua S 15 (upd (S.1 15) o kd)) 16 (upd (S.1 16) o 1)) 17 (upd (S.1 17) o 0)) 18 (upd (S.1 18) o (nI d))) 17 (upd (upd (S.1 17) o 0) d (nI (oZ A.1.2 d) + 1))).1 a = S.1 a := fun a ha => by
        simp only [m_ua1]
        rw [if_neg (by omega), if_neg (by omega), if_neg (by omega), if_neg (by omega), if_neg (by omega)]
      have es : (z_ua (z_ua (z_ua (z_ua (z_ua S (14 + 1) (upd (S.1 (14 + 1)) o kd)) (14 + 2) (upd ((z_ua S (14 + 1) (upd (S.1 (14 + 1)) o kd)).1 (14 + 2)) o 1)) (14 + 3) (upd ((z_ua (z_ua S (14 + 1) (upd (S.1 (14 + 1)) o kd)) (14 + 2) (upd ((z_ua S (14 + 1) (upd (S.1 (14 + 1)) o kd)).1 (14 + 2)) o 1)).1 (14 + 3)) o 0)) (14 + 4) (upd ((z_ua (z_ua (z_ua S (14 + 1) (upd (S.1 (14 + 1)) o kd)) (14 + 2) (upd ((z_ua S (14 + 1) (upd (S.1 (14 + 1)) o kd)).1 (14 + 2)) o 1)) (14 + 3) (upd ((z_ua (z_ua S (14 + 1) (upd (S.1 (14 + 1)) o kd)) (14 + 2) (upd ((z_ua S (14 + 1) (upd (S.1 (14 + 1)) o kd)).1 (14 + 2)) o 1)).1 (14 + 3)) o 0)).1 (14 + 4)) o (nI d))) 17 (upd ((z_ua (z_ua (z_ua (z_ua S (14 + 1) (upd (S.1 (14 + 1)) o kd)) (14 + 2) (upd ((z_ua S (14 + 1) (upd (S.1 (14 + 1)) o kd)).1 (14 + 2)) o 1)) (14 + 3) (upd ((z_ua (z_ua S (14 + 1) (upd (S.1 (14 + 1)) o kd)) (14 + 2) (upd ((z_ua S (14 + 1) (upd (S.1 (14 + 1)) o kd)).1 (14 + 2)) o 1)).1 (14 + 3)) o 0)) (14 + 4) (upd ((z_ua (z_ua (z_ua S (14 + 1) (upd (S.1 (14 + 1)) o kd)) (14 + 2) (upd ((z_ua S (14 + 1) (upd (S.1 (14 + 1)) o kd)).1 (14 + 2)) o 1)) (14 + 3) (upd ((z_ua (z_ua S (14 + 1) (upd (S.1 (14 + 1)) o kd)) (14 + 2) (upd ((z_ua S (14 + 1) (upd (S.1 (14 + 1)) o kd)).1 (14 + 2)) o 1)).1 (14 + 3)) o 0)).1 (14 + 4)) o (nI d))).1 17) d (nI (oZ A.1.2 d) + 1))) = z_ua (z_ua (z_ua (z_ua (z_ua S 15 (upd (S.1 15) o kd)) 16 (upd (S.1 16) o 1)) 17 (upd (S.1 17) o 0)) 18 (upd (S.1 18) o (nI d))) 17 (upd (upd (S.1 17) o 0) d (nI (oZ A.1.2 d) + 1)) := by simp [m_ua1]
      rw [es]
      exact ⟨⟨a1, a2, a3⟩, ⟨c_T_cg hT (fun a h1 h2 => fo a (by omega)) rfl rfl, hC⟩, ⟨c_T_cg c1 (fun a h1 h2 => fo a (by omega)) rfl rfl, c_O_cg c2 (fun a h1 h2 => fo a (by omega))⟩, e1, e2, e3, e4, e5, fun b hb => by rw [fo 56 (by omega)]; exact e6 b hb⟩
    · exact z_cf_tr (rC_cf hr) (z_cf_tr (z_cf_ua (by decide)) (z_cf_tr (z_cf_ua (by decide)) (z_cf_tr (z_cf_ua (by decide)) (z_cf_tr (z_cf_ua (by decide)) (z_cf_ua (by decide))))))
  unfold F_X5_make_103
  rw [C_room (by decide), m_bv]
  by_cases e : v3 = 0
  · rw [if_pos e, if_pos e]
    exact key 1 2 (Or.inr rfl) (by decide)
  · rw [if_neg e, if_neg e]
    exact key 0 1 (Or.inl rfl) (by decide)
theorem G_make_c {p1 p2 p3 : Int32} (h : CI B J S A) (hA : AI B J A) : ∃ S1, F_X5_make B p1 p2 p3 S = some (r_o [E_U, E_I, E_A, E_S] (A_make B A p1 p2 p3).1 (A_make B A p1 p2 p3).2.1, S1) ∧ CI B J S1 (A_make B A p1 p2 p3).2.2 ∧ z_cf S S1 := by
  have hB := hA.1.2.1
  have hok := hA.2.1.1
  have hi := hA.2.1.2
  unfold F_X5_make A_make
  rw [C_needPower h hA]
  by_cases e : A.2.2.1 = 0
  · rw [if_pos e, if_pos e, m_bv, C_needDirectory hi h.2.1.2]
    by_cases e1 : d_k A.1.2 p1 = 1
    · obtain ⟨d, hd, d1, d2, d3⟩ := dk_some (O := A.1.2) (p := p1) (by omega)
      subst hd
      rw [if_pos e1, if_pos e1, m_bv, C_needName]
      by_cases hp2 : 0 ≤ p2 ∧ p2 < 1000
      · obtain ⟨n, hn, hn2⟩ := m_below hp2.1 (z := 1000) (by rw [← m_c1000]; exact hp2.2) (by omega)
        subst hn
        rw [if_pos hp2, if_pos hp2, m_bv, C_needNoEntry hB hok hi h.2.1.1 d2, nI_clamp (by omega), nI_clamp (by omega)]
        by_cases hea : d_ea A.1.1 d (nI n) = -1
        · have hen := (ea_m1 hok hn2).mp hea
          have hdk : oK A.1.2 d = 1 := d3.trans e1
          have hlf := C_leastFree_loop (S := S) hi h.2.1.2 60 z_n 1 (by omega) (by omega) (by unfold z_n; omega)
          have hlf' : F_X2_leastFree B 14 S = some (.inl (some (oI (m_fr0 (oK A.1.2) 60 1))), S) := hlf
          rw [if_pos hea, if_pos hea, m_bv, hlf', m_bn]
          unfold A_make3
          cases hf : m_fr0 (oK A.1.2) 60 1 with
          | none =>
            rw [if_pos (show oI none = -1 from rfl)]
            exact ⟨S, rfl, h, z_cf_rf⟩
          | some o =>
            obtain ⟨f1, f2, f3⟩ := fr0_spec hf
            obtain ⟨S1, a1, r1, t1⟩ := C_keep h hA
            have hk1 := C_keyOf (B := B) (S := S1) (o := o) (k := 0) (n := 0)
            have hk1' : F_X5_keyOf B (nI o) 0 0 S1 = some (.inl (some (nI (i_st o).1)), S1) := by
              rw [show (o * 4 + 0) * 1000 + 0 = (i_st o).1 by show (o * 4 + 0) * 1000 + 0 = o * 4000; omega] at hk1
              exact hk1
            obtain ⟨j1, j2⟩ := C_putIn (x := i_st o) hB hok t1 (ig_st (by omega))
            rw [show oI (some o) = nI o from rfl, if_neg (m_ne1 (by omega)), a1, m_bo, hk1', m_bn]
            simp only []
            unfold A_make4
            cases hp : a_put B A.1.1 (i_st o) with
            | none =>
              obtain ⟨S2, b1, b2⟩ := j2 hp
              have b1' : F_X4_putIn B 2 (nI (i_st o).1) 6 (-1) S1 = some (.inl (some 0), S2) := b1
              obtain ⟨S3, c1, c2, c3⟩ := C_noRoom h hA (rC_tr r1 b2)
              rw [b1', m_bn, if_pos rfl, F_X5_make_102, F_X5_make_103, c1, m_bvx]
              exact ⟨S3, rfl, c2, c3⟩
            | some T1 =>
              obtain ⟨S2, b1, b2, b3⟩ := j1 T1 hp
              have b1' : F_X4_putIn B 2 (nI (i_st o).1) 6 (-1) S1 = some (.inl (some 1), S2) := b1
              have r2 := rC_tr r1 b3
              obtain ⟨k1, k2, k3, k4⟩ := make_ok (k := if p3 = 0 then 2 else 1) hA hdk d2 hn2 hen f3 f1 (by omega) (by split <;> omega) hp
              have hk2 := C_keyOf (B := B) (S := S2) (o := d) (k := 1) (n := n)
              have hk2' : F_X5_keyOf B (nI d) 1 (nI n) S2 = some (.inl (some (nI (i_en d n o).1)), S2) := hk2
              obtain ⟨i1, i2⟩ := C_putIn (x := i_en d n o) hB k1 b2 (ig_en d2 hn2 (by omega))
              rw [b1', m_bn, if_neg (by decide), hk2', m_bn]
              simp only []
              cases hq : a_put B T1 (i_en d n o) with
              | none =>
                obtain ⟨S3, c1, c2⟩ := i2 hq
                have c1' : F_X4_putIn B 2 (nI (i_en d n o).1) 3 (nI o) S2 = some (.inl (some 0), S3) := c1
                obtain ⟨S4, e1, e2, e3⟩ := C_noRoom h hA (rC_tr r2 c2)
                rw [c1', m_bn, if_pos rfl, F_X5_make_102, F_X5_make_103, e1, m_bvx]
                exact ⟨S4, rfl, e2, e3⟩
              | some T2 =>
                obtain ⟨S3, c1, c2, c3⟩ := i1 T2 hq
                have c1' : F_X4_putIn B 2 (nI (i_en d n o).1) 3 (nI o) S2 = some (.inl (some 1), S3) := c1
                obtain ⟨q1, q2, q3⟩ := k4 T2 hq
                obtain ⟨S4, e1, e2, e3⟩ := C_make_end (v3 := p3) h hA (rC_tr r2 c3) c2 q2 hdk d1 d2 f3 f1 (by omega)
                rw [c1', m_bn, if_neg (by decide), e1]
                exact ⟨S4, rfl, e2, e3⟩
        · rw [if_neg hea, if_neg hea, m_bvx]
          exact ⟨S, rfl, h, z_cf_rf⟩
      · rw [if_neg hp2, if_neg hp2, m_bvx]
        exact ⟨S, rfl, h, z_cf_rf⟩
    · rw [if_neg e1, if_neg e1, m_bvx]
      exact ⟨S, rfl, h, z_cf_rf⟩
  · rw [if_neg e, if_neg e, m_bvx]
    exact ⟨S, rfl, h, z_cf_rf⟩
end MK2
