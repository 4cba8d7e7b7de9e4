/-! link: class and reference answer alike. -/
def o_link (O : m_O) (d o : Nat) : m_O := (oK O, va_up (oL O) o (oL O o + 1), va_up (oZ O) d (oZ O d + 1), oU O, oP O, oD O, oE O)
section LK
variable {B J : Nat} {S S' S0 : z_S} {A : m_A} {T T1 T2 : m_T} {O O' : m_O} {f f' : Nat → Int32}
theorem nE_en {F : List m_It} {d n o x : Nat} (hn : n < 1000) : m_nE (s_ins (i_en d n o) F) x = m_nE F x + if x = d then 1 else 0 := by
  unfold m_nE
  rw [cp_ins]
  congr 1
  by_cases e : x = d
  · rw [if_pos e, if_pos (by show decide (((d * 4 + 1) * 1000 + n) / 1000 = x * 4 + 1) = true; simp; omega)]
  · rw [if_neg e, if_neg (by show ¬ decide (((d * 4 + 1) * 1000 + n) / 1000 = x * 4 + 1) = true; simp; omega)]
theorem nT_en {F : List m_It} {d n o x : Nat} : m_nT (s_ins (i_en d n o) F) x = m_nT F x + if x = o then 1 else 0 := by
  unfold m_nT
  rw [cp_ins]
  congr 1
  by_cases e : x = o
  · rw [if_pos e, if_pos (by show decide (some o = some x) = true; simp [e])]
  · rw [if_neg e, if_neg (by show ¬ decide (some o = some x) = true; simp; omega)]
theorem im_link {d n o : Nat} (hi : m_im B T O) (hd : oK O d = 1) (hn : n < 1000) (ho : oK O o = 2) (d1 : 1 ≤ d) (o1 : 1 ≤ o) (o2 : o ≤ 60) (hF : flat T2 = s_ins (i_en d n o) (flat T)) (h4 : u4 T T2) (h1 : ∀ b, 1 ≤ b → tU T2 b ≠ 1) : m_im B T2 (o_link O d o) := by
  have y1 : (i_en d n o).1 / 4000 = d := by show ((d * 4 + 1) * 1000 + n) / 4000 = d; omega
  have y2 : (i_en d n o).1 / 1000 % 4 = 1 := by show ((d * 4 + 1) * 1000 + n) / 1000 % 4 = 1; omega
  have hod : o ≠ d := fun e => by rw [e, hd] at ho; cases ho
  have hox : ∀ x, oK O x = 1 → x ≠ o := fun x hx e => by rw [e, ho] at hx; cases hx
  obtain ⟨c1, c2, c3, c4, c5, c6, c7, c8, c9, c10, c11, c12, c13, c14, c15, c16, c17, c18⟩ := id hi
  refine im_ent hi rfl rfl (fun x hx => l_up_n (fun e => by rw [e, hd] at hx; cases hx)) h4 h1 (fun y hy => ?_) (fun y hy e => ?_) (fun x hx => ?_) (fun x hx => ?_) (fun x hx => ?_) c13 (fun y hy x hx hk => ?_) (fun x hx => (c15 x hx).imp (fun L hL => ⟨m_path_up (O := O) hL.1 (fun _ _ => rfl), hL.2⟩))
  · rw [hF, si_mem]
    exact ⟨fun w => w.resolve_left (fun e => hy (by rw [e]; exact y2)), Or.inr⟩
  · rw [hF, si_mem] at hy
    rcases hy with w | w
    · rw [w, y1]; exact ⟨d1, hd, rfl, o, rfl, o1, o2, by omega⟩
    · obtain ⟨q1, q2, q3, q4⟩ := c5 y w
      exact ⟨q1, q4.1 e⟩
  · rw [hF, nE_en hn, ← (c10 x hx).2]
    show va_up (oZ O) d _ x = _
    by_cases e : x = d
    · rw [e, l_up_s, if_pos rfl]
    · rw [l_up_n e, if_neg e, Nat.add_zero]
  · have := c11 x hx
    rw [hF, nT_en]
    show va_up (oL O) o _ x = _
    by_cases e : x = o
    · rw [e, l_up_s, if_pos rfl, ← e, this]; omega
    · rw [l_up_n e, if_neg e, Nat.add_zero]; exact this
  · rw [hF, nT_en, if_neg (hox x hx), Nat.add_zero]; exact c12 x hx
  · rw [hF, si_mem] at hy
    rcases hy with w | w
    · rw [w] at hx
      have : o = x := Option.some.inj hx
      exact absurd this.symm (hox x hk)
    · exact c14 y w x hx hk
/-- the answer, and what it leaves -/
def A_link2 (B : Nat) (A : m_A) (d n o : Nat) : Nat × Int32 × m_A := match a_put B A.1.1 (i_en d n o) with
  | none => (4, 0, A)
  | some T2 => (0, nI (oL A.1.2 o + 1), (T2, o_link A.1.2 d o), A.2)
def A_link (B : Nat) (A : m_A) (p1 p2 p3 : Int32) : Nat × Int32 × m_A := if A.2.2.1 = 0 then (if d_k A.1.2 p1 = 1 then (if d_k A.1.2 p3 = 2 then (if 0 ≤ p2 ∧ p2 < 1000 then (if d_ea A.1.1 p1.toNatClampNeg p2 = -1 then A_link2 B A p1.toNatClampNeg p2.toNatClampNeg p3.toNatClampNeg else (4, 0, A)) else (3, 0, A)) else (2, 0, A)) else (2, 0, A)) else (1, 0, A)
theorem link_ok {d n o : Nat} (hA : AI B J A) (hd : oK A.1.2 d = 1) (d1 : 1 ≤ d) (d2 : d ≤ 60) (hn : n < 1000) (hen : d_e A.1.1 d n = none) (ho : oK A.1.2 o = 2) (o1 : 1 ≤ o) (o2 : o ≤ 60) (h1 : a_put B A.1.1 (i_en d n o) = some T1) :
    m_ok B T1 ∧ u4 A.1.1 T1 ∧ m_im B T1 (o_link A.1.2 d o) := by
  obtain ⟨hb, ⟨hok, hi⟩, -⟩ := hA
  obtain ⟨k1, k2, k3⟩ := put_ok hb.2.1 hok (ig_en d2 hn o2) (en_none hok hi hen hn) h1
  exact ⟨k1, u4_uf k3, im_link hi hd hn ho d1 o1 o2 k2 (u4_uf k3) (u1_uf k3 hi.1)⟩
theorem G_link_a {p1 p2 p3 : Int32} (hA : AI B J A) : AI B J (A_link B A p1 p2 p3).2.2 := by
  unfold A_link
  split
  · split
    · rename_i e1
      obtain ⟨d, hd, d1, d2, d3⟩ := dk_some (O := A.1.2) (p := p1) (by omega)
      split
      · rename_i e3
        obtain ⟨o, ho, o1, o2, o3⟩ := dk_some (O := A.1.2) (p := p3) (by omega)
        split
        · rename_i hp2
          obtain ⟨n, hn, hn2⟩ := m_below hp2.1 (z := 1000) (by rw [← m_c1000]; exact hp2.2) (by omega)
          split
          · rename_i hea
            subst hd; subst hn; subst ho
            rw [nI_clamp (by omega)] at hea ⊢
            rw [nI_clamp (by omega), nI_clamp (by omega)]
            have hen := (ea_m1 hA.2.1.1 hn2).mp hea
            unfold A_link2
            split
            · exact hA
            · rename_i T1 h1
              obtain ⟨q1, q2, q3⟩ := link_ok hA (d3.trans e1) d1 d2 hn2 hen (o3.trans e3) o1 o2 h1
              exact AI_im hA q1 q3
          · exact hA
        · exact hA
      · exact hA
    · exact hA
  · exact hA
theorem G_link_c {p1 p2 p3 : Int32} (h : CI B J S A) (hA : AI B J A) : ∃ S1, F_X5_link B p1 p2 p3 S = some (r_o [E_U, E_I, E_A, E_S] (A_link B A p1 p2 p3).1 (A_link B A p1 p2 p3).2.1, S1) ∧ CI B J S1 (A_link B A p1 p2 p3).2.2 ∧ z_cf S S1 := by
  have hB := hA.1.2.1
  have hok := hA.2.1.1
  have hi := hA.2.1.2
  unfold F_X5_link A_link
  rw [C_needPower h hA]
  by_cases e : A.2.2.1 = 0
  · rw [if_pos e, if_pos e, m_bv, C_needDirectory hi h.2.1.2]
    by_cases e1 : d_k A.1.2 p1 = 1
    · obtain ⟨d, hd, d1, d2, d3⟩ := dk_some (O := A.1.2) (p := p1) (by omega)
      subst hd
      rw [if_pos e1, if_pos e1, m_bv, C_needFile hi h.2.1.2]
      by_cases e3 : d_k A.1.2 p3 = 2
      · obtain ⟨o, ho, o1, o2, o3⟩ := dk_some (O := A.1.2) (p := p3) (by omega)
        subst ho
        rw [if_pos e3, if_pos e3, m_bv, C_needName]
        by_cases hp2 : 0 ≤ p2 ∧ p2 < 1000
        · obtain ⟨n, hn, hn2⟩ := m_below hp2.1 (z := 1000) (by rw [← m_c1000]; exact hp2.2) (by omega)
          subst hn
          rw [if_pos hp2, if_pos hp2, m_bv, C_needNoEntry hB hok hi h.2.1.1 d2, nI_clamp (by omega), nI_clamp (by omega), nI_clamp (by omega)]
          by_cases hea : d_ea A.1.1 d (nI n) = -1
          · have hen := (ea_m1 hok hn2).mp hea
            have hdk : oK A.1.2 d = 1 := d3.trans e1
            have hok2 : oK A.1.2 o = 2 := o3.trans e3
            have hod : o ≠ d := fun e => by rw [e, hdk] at hok2; cases hok2
            obtain ⟨S1, a1, r1, t1⟩ := C_keep h hA
            have hk2 := C_keyOf (B := B) (S := S1) (o := d) (k := 1) (n := n)
            have hk2' : F_X5_keyOf B (nI d) 1 (nI n) S1 = some (.inl (some (nI (i_en d n o).1)), S1) := hk2
            obtain ⟨j1, j2⟩ := C_putIn (x := i_en d n o) hB hok t1 (ig_en d2 hn2 o2)
            rw [if_pos hea, if_pos hea, m_bv, a1, m_bo, hk2', m_bn]
            unfold A_link2
            cases hp : a_put B A.1.1 (i_en d n o) with
            | none =>
              obtain ⟨S2, b1, b2⟩ := j2 hp
              have b1' : F_X4_putIn B 2 (nI (i_en d n o).1) 3 (nI o) S1 = some (.inl (some 0), S2) := b1
              obtain ⟨S3, c1, c2, c3⟩ := C_noRoom h hA (rC_tr r1 b2)
              rw [b1', m_bn, c1, m_bvx]
              exact ⟨S3, rfl, c2, c3⟩
            | some T1 =>
              obtain ⟨S2, b1, b2, b3⟩ := j1 T1 hp
              have b1' : F_X4_putIn B 2 (nI (i_en d n o).1) 3 (nI o) S1 = some (.inl (some 1), S2) := b1
              have r2 := rC_tr r1 b3
              obtain ⟨q1, q2, q3⟩ := link_ok hA hdk d1 d2 hn2 hen hok2 o1 o2 hp
              have hO0 : c_O B 1 S2 A.1.1 A.1.2 := rC_O r2 rfl h.2.1.2
              have z17 : S2.1 17 d = nI (oZ A.1.2 d) := (hO0.2.1 d d1 d2 (by omega)).2
              have z16 : S2.1 16 o = nI (oL A.1.2 o) := (hO0.2.1 o o1 o2 (by omega)).1
              rw [b1', m_bn, C_room (by decide), m_bv, m_gd (m_inb (by omega) (by omega)), m_lt, m_ix (i := d) (by omega), z17, m_gd (m_inb (by omega) (by omega)), m_lt, m_gd (m_inb (by omega) (by omega)), m_lt, m_ix (i := o) (by omega), m_gd (m_inb (by omega) (by omega)), m_lt, m_gd (m_inb (by omega) (by omega)), m_lt]
              have g16 : (z_ua S2 17 (upd (S2.1 17) d (nI (oZ A.1.2 d) + 1))).1 16 = S2.1 16 := by rw [m_ua1, if_neg (by decide)]
              rw [g16, z16, nI_1, nI_1, z_ua_at, pk_us]
              obtain ⟨w1, w2⟩ := CI_fin (O' := o_link A.1.2 d o) (S' := z_ua (z_ua S2 17 (upd (S2.1 17) d (nI (oZ A.1.2 d + 1)))) 16 (upd (S2.1 16) o (nI (oL A.1.2 o + 1)))) h r2 b2 (fun a ha => by rw [m_ua1, if_neg (by omega), m_ua1, if_neg (by omega)]) rfl (by
                refine c_O_ent hO0 rfl rfl rfl rfl (fun x hx => l_up_n (fun e => by rw [e, hdk] at hx; cases hx)) q2 (by simp [m_ua1]) (by simp [m_ua1]) (by simp [m_ua1]) (by simp [m_ua1]) (fun x x1 x2 hx => ⟨?_, ?_⟩) (fun x x1 x2 hx => ?_)
                · rw [z_ua_at]
                  show _ = nI (va_up (oL A.1.2) o (oL A.1.2 o + 1) x)
                  by_cases e : x = o
                  · rw [e, pk_us, l_up_s]
                  · rw [pk_un e, l_up_n e]; exact (hO0.2.1 x x1 x2 hx).1
                · rw [m_ua1, if_neg (by decide), z_ua_at]
                  show _ = nI (va_up (oZ A.1.2) d (oZ A.1.2 d + 1) x)
                  by_cases e : x = d
                  · rw [e, pk_us, l_up_s]
                  · rw [pk_un e, l_up_n e]; exact (hO0.2.1 x x1 x2 hx).2
                · rw [m_ua1, if_neg (by decide), m_ua1, if_neg (by decide)]
                  exact hO0.2.2.1 x x1 x2 hx)
              exact ⟨_, rfl, w1, w2⟩
          · rw [if_neg hea, if_neg hea, m_bvx]
            exact ⟨S, rfl, h, z_cf_rf⟩
        · rw [if_neg hp2, if_neg hp2, m_bvx]
          exact ⟨S, rfl, h, z_cf_rf⟩
      · rw [if_neg e3, if_neg e3, m_bvx]
        exact ⟨S, rfl, h, z_cf_rf⟩
    · rw [if_neg e1, if_neg e1, m_bvx]
      exact ⟨S, rfl, h, z_cf_rf⟩
  · rw [if_neg e, if_neg e, m_bvx]
    exact ⟨S, rfl, h, z_cf_rf⟩
theorem G_link_k {p1 p2 p3 : Int32} (h : KI B J S A) (hA : AI B J A) : ∃ v S2, F_X6_link B p1 p2 p3 S = some (.inl (some v), S2) ∧ KI B J S2 (A_link B A p1 p2 p3).2.2 ∧ z_kf S S2 ∧ S2.2.1 60 0 = nI (A_link B A p1 p2 p3).1 ∧ ((A_link B A p1 p2 p3).1 = 0 → v = (A_link B A p1 p2 p3).2.1) := by
  have hok := hA.2.1.1
  have hi := hA.2.1.2
  have hB := hA.1.2.1
  have bad : ∀ (v1 v2 v3 c : Int32) (n : Nat) (w : Int32), c = nI n → n ≠ 0 → n < 5 → ∃ v S2, F_X6_link_58 B v1 v2 v3 c S = some (.inl (some v), S2) ∧ KI B J S2 A ∧ z_kf S S2 ∧ S2.2.1 60 0 = nI n ∧ (n = 0 → v = w) := fun v1 v2 v3 c n w hc hn hn5 => by
    have hc0 : ¬ c ≤ 0 := fun z => by
      rw [hc, m_c0] at z
      exact absurd z (nI_nle (by omega) (by omega))
    rw [F_X6_link_58, m_lt, z_thr, if_neg hc0]
    exact ⟨_, _, rfl, KI_thr h, z_kf_ui (by decide), by rw [z_thr, hc], fun z => absurd z hn⟩
  unfold F_X6_link A_link
  rw [h.2.2.2.1]
  by_cases e : A.2.2.1 = 0
  · rw [if_pos e, if_pos e, K_isDirectory hi h.2.1.2, m_bn]
    by_cases e1 : d_k A.1.2 p1 = 1
    · obtain ⟨d, hd, d1, d2, d3⟩ := dk_some (O := A.1.2) (p := p1) (by omega)
      subst hd
      have hdk : oK A.1.2 d = 1 := d3.trans e1
      rw [if_pos e1, if_pos e1, if_neg (show ¬ (1 : Int32) = 0 by decide), K_isFile hi h.2.1.2, m_bn]
      by_cases e3 : d_k A.1.2 p3 = 2
      · obtain ⟨o, ho, o1, o2, o3⟩ := dk_some (O := A.1.2) (p := p3) (by omega)
        subst ho
        have hok2 : oK A.1.2 o = 2 := o3.trans e3
        have hod : o ≠ d := fun e => by rw [e, hdk] at hok2; cases hok2
        rw [if_pos e3, if_pos e3, if_neg (show ¬ (1 : Int32) = 0 by decide), K_isName, m_bn]
        by_cases hp2 : 0 ≤ p2 ∧ p2 < 1000
        · obtain ⟨n, hn, hn2⟩ := m_below hp2.1 (z := 1000) (by rw [← m_c1000]; exact hp2.2) (by omega)
          subst hn
          have g1 : (0 : Int32) ≤ nI n ∧ nI n ≤ 999 := ⟨hp2.1, by rw [show (999 : Int32) = nI 999 from rfl]; exact nI_le (by omega) (by omega)⟩
          have hE : F_X6_entry B (nI d) (nI n) S = some (.inl (some (d_ea A.1.1 d (nI n))), S) := by
            have := K_entry (S := S) (f := S.1 61) (o := d) (p := nI n) hB hok hi h.2.1.1 d2
            rw [z_ua_same] at this
            exact this
          rw [if_pos g1, if_pos hp2, if_neg (show ¬ (1 : Int32) = 0 by decide), hE, m_bn, nI_clamp (by omega), nI_clamp (by omega), nI_clamp (by omega)]
          by_cases hea : d_ea A.1.1 d (nI n) = -1
          · have hen := (ea_m1 hok hn2).mp hea
            obtain ⟨S1, b1, b2, b3, b4, b5⟩ := K_begin (B := B) (z_ui S 60 0 0)
            have hI := KI_thr (v := 0) h
            have hB0 : S1.2.1 60 1 = nI B := (b2.2.1 60 1 (by decide)).trans hI.1.1
            have e61 : S1.1 61 = S.1 61 := b3
            obtain ⟨i1, i2⟩ := K_putT (S := S1) (f := S1.1 61) (x := i_en d n o) hB hB0 b4 hok (by rw [e61]; exact h.2.1.1) (ig_en d2 hn2 o2) (en_none hok hi hen hn2)
            have y1 : (i_en d n o).1 / 4000 = d := by show ((d * 4 + 1) * 1000 + n) / 4000 = d; omega
            have y2 : (i_en d n o).1 / 1000 % 4 = 1 := by show ((d * 4 + 1) * 1000 + n) / 1000 % 4 = 1; omega
            have y3 : (i_en d n o).1 % 1000 = n := by show ((d * 4 + 1) * 1000 + n) % 1000 = n; omega
            have y4 : nI (i_en d n o).2.1 = 3 := rfl
            have y5 : nI ((i_en d n o).2.2.getD 0) = nI o := rfl
            rw [y1, y2, y3, y4, y5, ← m_c1, z_ua_same] at i1 i2
            have e2 : (218 : Int32) + nI d = nI (218 + d) := by rw [m_c218, nI_add]
            have e7 : (157 : Int32) + nI o = nI (157 + o) := by rw [m_c157, nI_add]
            rw [hea, if_pos (show (-1 : Int32) < 0 by decide), if_pos rfl, F_X6_link_58, m_lt, z_thr, if_pos (show (0 : Int32) ≤ 0 by decide), b1, m_bo]
            unfold A_link2
            cases hp : a_put B A.1.1 (i_en d n o) with
            | none =>
              obtain ⟨f5, c1⟩ := i2 hp
              rw [c1, m_bo, e2, e7, m_gd (m_inb (by omega) (by omega)), m_lt, m_ix (i := 218 + d) (by omega), m_gd (m_inb (by omega) (by omega)), m_lt, m_gd (m_inb (by omega) (by omega)), m_lt, m_ix (i := 157 + o) (by omega), m_gd (m_inb (by omega) (by omega)), m_lt]
              have h8 : ¬ (z_ui (z_ua S1 61 f5) 60 7 1).2.1 60 7 = 0 := by rw [m_ui2, if_pos rfl, if_pos rfl]; decide
              have r8 : rK (z_ui S 60 0 0) (z_ui (z_ua S1 61 f5) 60 7 1) := rK_ui (rK_ua b2) (Or.inr rfl)
              have key : ∀ g : Nat → Int32, ∀ g' : Nat → Int32, ∃ S2, F_X6_ended B 4 (z_ua (z_ua (z_ui (z_ua S1 61 f5) 60 7 1) 61 g) 61 g') = some (.inl (some 0), S2) ∧ KI B J S2 A ∧ z_kf (z_ui S 60 0 0) S2 ∧ S2.2.1 60 0 = 4 := fun g g' => K_ended_no hI hA (rK_ua (rK_ua r8)) h8
              obtain ⟨S2, d4, d5, d6, d7⟩ := key _ _
              rw [d4, m_bn, if_pos rfl, F_X6_link_133]
              exact ⟨_, _, rfl, d5, z_kf_tr (z_kf_ui (by decide)) d6, d7, fun z => (by cases z)⟩
            | some T1 =>
              obtain ⟨f5, c1, c2, c3⟩ := i1 T1 hp
              obtain ⟨q1, q2, q3⟩ := link_ok hA hdk d1 d2 hn2 hen hok2 o1 o2 hp
              have f218 : f5 (218 + d) = nI (oZ A.1.2 d) := by rw [c3 _ (by omega), e61]; exact (h.2.1.2.2.1 d d1 d2 (by omega)).2.1
              have f157 : f5 (157 + o) = nI (oL A.1.2 o) := by rw [c3 _ (by omega), e61]; exact (h.2.1.2.2.1 o o1 o2 (by omega)).1
              rw [c1, m_bo, e2, e7, m_gd (m_inb (by omega) (by omega)), m_lt, m_ix (i := 218 + d) (by omega), m_gd (m_inb (by omega) (by omega)), m_lt, m_gd (m_inb (by omega) (by omega)), m_lt, m_ix (i := 157 + o) (by omega), m_gd (m_inb (by omega) (by omega)), m_lt]
              simp only [z_ua_at, z_ua_ua]
              rw [f218, pk_un (show 157 + o ≠ 218 + d by omega), f157, nI_1, nI_1]
              have h7 : (z_ua S1 61 (upd (upd f5 (218 + d) (nI (oZ A.1.2 d + 1))) (157 + o) (nI (oL A.1.2 o + 1)))).2.1 60 7 = 0 := b4
              rw [K_ended_ok h7, m_bn, if_neg (show ¬ (1 : Int32) = 0 by decide), m_gd (m_inb (by omega) (by omega)), m_lt, z_ua_at, pk_us, F_X6_link_133]
              refine ⟨_, _, rfl, KI_rK hI (rK_ua b2) ?_ ?_, z_kf_tr (z_kf_ui (by decide)) (rK_kf (rK_ua b2)), (show S1.2.1 60 0 = nI 0 by rw [b5, z_thr]; rfl), fun _ => rfl⟩
              · rw [z_ua_at]
                exact k_T_fr hB c2 (fun j hj => by rw [pk_un (by omega), pk_un (by omega)])
              · rw [z_ua_at]
                refine k_O_ent hB hi h.2.1.2 rfl rfl rfl rfl (fun x hx => l_up_n (fun e => by rw [e, hdk] at hx; cases hx)) q2 (fun j hj => ?_) (fun x x1 x2 hx => ⟨?_, ?_⟩)
                · rw [pk_un (by omega), pk_un (by omega), c3 _ (by omega), e61]
                · show _ = nI (va_up (oL A.1.2) o (oL A.1.2 o + 1) x)
                  by_cases e : x = o
                  · rw [e, pk_us, l_up_s]
                  · rw [pk_un (by omega), pk_un (by omega), l_up_n e, c3 _ (by omega), e61]; exact (h.2.1.2.2.1 x x1 x2 hx).1
                · show _ = nI (va_up (oZ A.1.2) d (oZ A.1.2 d + 1) x)
                  rw [pk_un (by omega)]
                  by_cases e : x = d
                  · rw [e, pk_us, l_up_s]
                  · rw [pk_un (by omega), l_up_n e, c3 _ (by omega), e61]; exact (h.2.1.2.2.1 x x1 x2 hx).2.1
          · have g2 : ¬ d_ea A.1.1 d (nI n) < 0 := by
              obtain ⟨x, -, x1, x2⟩ := ea_some hok hn2 hea
              rw [x2, m_c0]; exact nI_nlt (by omega) (by omega)
            rw [if_neg g2, if_neg hea]
            exact bad _ _ _ _ 4 _ rfl (by omega) (by omega)
        · have g1 : ¬ ((0 : Int32) ≤ p2 ∧ p2 ≤ 999) := fun w => hp2 ⟨w.1, nm_lt.mpr w.2⟩
          rw [if_neg g1, if_neg hp2, if_pos rfl]
          exact bad _ _ _ _ 3 _ rfl (by omega) (by omega)
      · rw [if_neg e3, if_neg e3, if_pos rfl, F_X6_link_28]
        exact bad _ _ _ _ 2 _ rfl (by omega) (by omega)
    · rw [if_neg e1, if_neg e1, if_pos rfl, F_X6_link_28]
      exact bad _ _ _ _ 2 _ rfl (by omega) (by omega)
  · rw [if_neg e, if_neg e]
    exact bad _ _ _ _ 1 _ rfl (by omega) (by omega)
end LK
