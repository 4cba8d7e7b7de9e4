/-! unlink: abstract. -/
def o_unl (O : m_O) (d o : Nat) : m_O := (oK O, va_up (oL O) o (oL O o - 1), va_up (oZ O) d (oZ O d - 1), oU O, oP O, oD O, oE O)
def o_fgt (O : m_O) (d o : Nat) : m_O := (va_up (oK O) o 0, va_up (oL O) o (oL O o - 1), va_up (oZ O) d (oZ O d - 1), oU O, oP O, oD O, oE O)
def a_fgt (B : Nat) (T : m_T) (O : m_O) (o : Nat) : Option m_T := match a_data B T (oP O o) 0 with
  | none => none
  | some q => match a_shp B q.1 (o * 4000 + 3000) (o_tl O o) 0 with
    | none => none
    | some T2 => match a_shp B T2 (o * 4000 + 2000) (2 * (oP O o).length) 0 with
      | none => none
      | some T3 => some (a_del B T3 (o * 4000))
section UN
variable {B J : Nat} {A : m_A} {T T' T1 T2 T3 T5 : m_T} {O O' : m_O}
theorem shp_0 {k a : Nat} : ∃ T', a_shp B T k a 0 = some T' := by
  unfold a_shp
  by_cases e : a = 0
  · exact ⟨T, if_pos e⟩
  · rw [if_neg e, if_neg e, if_pos rfl]; exact ⟨_, rfl⟩
theorem data_0 {P : List Nat} : ∃ q, a_data B T P 0 = some q := by
  unfold a_data
  by_cases e : P.length ≤ 0
  · rw [if_pos e, Nat.zero_sub]; exact ⟨_, rfl⟩
  · rw [if_neg e]; exact ⟨_, rfl⟩
theorem im_unl {d n o : Nat} (hok : m_ok B T) (hi : m_im B T O) (hd : oK O d = 1) (hn : n < 1000) (hx : i_en d n o ∈ flat T) (ho : oK O o = 2) (hF : flat T2 = s_del ((d * 4 + 1) * 1000 + n) (flat T)) (h4 : u4 T T2) (h1 : ∀ b, 1 ≤ b → tU T2 b ≠ 1) : m_im B T2 (o_unl O d o) := by
  have hso := hok.2.2.2
  have hox : ∀ x, oK O x = 1 → x ≠ o := fun x hx e => by rw [e, ho] at hx; cases hx
  obtain ⟨c1, c2, c3, c4, c5, c6, c7, c8, c9, c10, c11, c12, c13, c14, c15, c16, c17, c18⟩ := id hi
  have mem : ∀ y, y ∈ flat T2 ↔ (y ∈ flat T ∧ y.1 ≠ (d * 4 + 1) * 1000 + n) := fun y => by rw [hF, sd_mem hso]
  refine im_ent hi rfl rfl (fun x hx => l_up_n (fun e => by rw [e, hd] at hx; cases hx)) h4 h1 (fun y hy => ?_) (fun y hy e => ?_) (fun x hxk => ?_) (fun x hxk => ?_) (fun x hxk => ?_) c13 (fun y hy x hx hk => c14 y ((mem y).mp hy).1 x hx hk) (fun x hx => (c15 x hx).imp (fun L hL => ⟨m_path_up (O := O) hL.1 (fun _ _ => rfl), hL.2⟩))
  · rw [mem]; exact ⟨fun w => w.1, fun w => ⟨w, fun e => hy (by rw [e]; omega)⟩⟩
  · obtain ⟨q1, q2, q3, q4⟩ := c5 y ((mem y).mp hy).1
    exact ⟨q1, q4.1 e⟩
  · have q := nE_del (x := x) hso hx hn
    have q2 := (c10 x hxk).2
    rw [hF]
    show va_up (oZ O) d _ x = _
    by_cases e : x = d
    · rw [e, l_up_s]
      rw [if_pos e, e] at q
      rw [e] at q2
      omega
    · rw [l_up_n e]
      rw [if_neg e] at q
      omega
  · have q := nT_del (x := x) hso hx
    have q2 := c11 x hxk
    rw [hF]
    show va_up (oL O) o _ x = _
    by_cases e : x = o
    · rw [e, l_up_s]
      rw [if_pos e, e] at q
      rw [e] at q2
      omega
    · rw [l_up_n e]
      rw [if_neg e] at q
      omega
  · have q := nT_del (x := x) hso hx
    rw [if_neg (hox x hxk)] at q
    have := c12 x hxk
    rw [hF]; omega
/-- what is known behind the items of an object that is no more -/
theorem fgt_ok {o : Nat} (hB : B ≤ 96) (hok : m_ok B T) (hP : (oP O o).Nodup) (hP16 : (oP O o).length ≤ 16) (hp : ∀ b ∈ oP O o, 1 ≤ b ∧ b < B ∧ tU T b = 4) (o2 : o ≤ 60) (htl : o_tl O o ≤ 40) (a3 : i_at T (o * 4000 + 3000) (o_tl O o)) (a2 : i_at T (o * 4000 + 2000) (2 * (oP O o).length)) (hst : (o * 4000, 6, none) ∈ flat T) (hot : ∃ y ∈ flat T, y.1 / 4000 ≠ o) (hf : a_fgt B T O o = some T5) :
    m_ok B T5 ∧ (∀ y : m_It, y ∈ flat T5 ↔ y ∈ flat T ∧ y.1 ≠ o * 4000 ∧ y.1 ≠ o * 4000 + 2000 ∧ y.1 ≠ o * 4000 + 3000) ∧ (∀ p : m_It → Bool, (∀ c, p (o * 4000 + 2000, c, none) = false) → (∀ c, p (o * 4000 + 3000, c, none) = false) → p (o * 4000, 6, none) = false → (flat T5).countP p = (flat T).countP p) ∧ (∀ b, tU T5 b = 4 → tU T b = 4 ∧ b ∉ oP O o) ∧ (∀ b, tU T b = 4 → b ∉ oP O o → tU T5 b = 4) ∧ ((∀ b, 1 ≤ b → tU T b ≠ 1) → ∀ b, 1 ≤ b → tU T5 b ≠ 1) := by
  unfold a_fgt at hf
  obtain ⟨q, hd⟩ := data_0 (B := B) (T := T) (P := oP O o)
  obtain ⟨T1, P1⟩ := q
  obtain ⟨k1, k2, k3, k4, k5, k6, k7, k8, -⟩ := data_ok hok hP hp hd
  have hP1 : P1 = [] := List.length_eq_zero_iff.mp k3
  subst hP1
  rw [hd] at hf
  simp only [] at hf
  obtain ⟨y0, hy0, hy0o⟩ := hot
  have a3' : i_at T1 (o * 4000 + 3000) (o_tl O o) := i_at_fl a3 (fun y _ => by rw [k2])
  obtain ⟨T2, hs2⟩ := shp_0 (B := B) (T := T1) (k := o * 4000 + 3000) (a := o_tl O o)
  obtain ⟨s1, s2, s3, s4, s5, s6⟩ := shp_ok hB k1 a3' htl (by omega) (by omega) ⟨y0, by rw [k2]; exact hy0, by omega⟩ hs2
  have a2' : i_at T2 (o * 4000 + 2000) (2 * (oP O o).length) := i_at_fl a2 (fun y hy => by rw [s3 y (by omega), k2])
  have y2 : y0 ∈ flat T2 := (s3 y0 (by omega)).mpr (by rw [k2]; exact hy0)
  obtain ⟨T3, hs3⟩ := shp_0 (B := B) (T := T2) (k := o * 4000 + 2000) (a := 2 * (oP O o).length)
  obtain ⟨r1, r2, r3, r4, r5, r6⟩ := shp_ok hB s1 a2' (by omega) (by omega) (by omega) ⟨y0, y2, by omega⟩ hs3
  rw [hs2] at hf
  simp only [] at hf
  rw [hs3] at hf
  have := Option.some.inj hf
  subst this
  have st2 : (o * 4000, 6, none) ∈ flat T2 := (s3 _ (by show o * 4000 ≠ _; omega)).mpr (by rw [k2]; exact hst)
  have st3 : (o * 4000, 6, none) ∈ flat T3 := (r3 _ (by show o * 4000 ≠ _; omega)).mpr st2
  obtain ⟨d1, d2, d3⟩ := del_ok r1 ⟨_, st3, rfl⟩ ⟨y0, (r3 y0 (by omega)).mpr y2, by show y0.1 ≠ o * 4000; omega⟩
  have d2' : flat (a_del B T3 (o * 4000)) = s_del (o * 4000) (flat T3) := d2
  have u43 : u4 T1 (a_del B T3 (o * 4000)) := u4_tr s4 (u4_tr r4 (u4_ug d3))
  refine ⟨d1, fun y => ?_, fun p p2 p3 p0 => ?_, fun b hb => ?_, fun b hb hbo => ?_, fun h1 => u1_ug d3 (r5 (s5 (fun b hb => ?_)))⟩
  · rw [d2', sd_mem r1.2.2.2]
    constructor
    · rintro ⟨w1, w2⟩
      have n2 : y.1 ≠ o * 4000 + 2000 := r2.1 rfl y w1
      have w3 := (r3 y n2).mp w1
      have n3 : y.1 ≠ o * 4000 + 3000 := s2.1 rfl y w3
      have w4 := (s3 y n3).mp w3
      rw [k2] at w4
      exact ⟨w4, w2, n2, n3⟩
    · rintro ⟨w1, w2, w3, w4⟩
      exact ⟨(r3 y w3).mpr ((s3 y w4).mpr (by rw [k2]; exact w1)), w2⟩
  · have q := cp_del (p := p) r1.2.2.2 st3
    rw [p0] at q
    have q' : (s_del (o * 4000) (flat T3)).countP p = (flat T3).countP p := by simpa using q
    rw [d2', q', r6 p p2, s6 p p3, k2]
  · have h4 := (u43 b).mp hb
    by_cases e : b ∈ oP O o
    · rw [k8 b e (by simp)] at h4; cases h4
    · rw [k6 b e (by simp)] at h4; exact ⟨h4, e⟩
  · exact (u43 b).mpr (by rw [k6 b hbo (by simp)]; exact hb)
  · by_cases e : b ∈ oP O o
    · rw [k8 b e (by simp)]; decide
    · rw [k6 b e (by simp)]; exact h1 b hb
theorem path_via {o : Nat} : ∀ {L : List Nat} {x : Nat}, m_path O x L → o ∈ L → x ≠ o → ∃ w ∈ L, oU O w = some o
  | [], _, h, _, _ => h.elim
  | [a], x, h, hm, hne => by
    have : o = a := by simpa using hm
    exact absurd (h.1.symm.trans this.symm) hne
  | a :: b :: L, x, h, hm, hne => by
    obtain ⟨h1, h2, h3⟩ := h
    have hm2 : o ∈ b :: L := by
      rcases List.mem_cons.mp hm with w | w
      · exact absurd (h1.symm.trans w.symm) hne
      · exact w
    by_cases e : b = o
    · exact ⟨a, List.mem_cons_self, by rw [h1, h2, e]⟩
    · obtain ⟨w, w1, w2⟩ := path_via h3 hm2 e
      exact ⟨w, List.mem_cons_of_mem _ w1, w2⟩
theorem im_fgt {d n o : Nat} (hok : m_ok B T) (hi : m_im B T O) (hd : oK O d = 1) (hn : n < 1000) (hx : i_en d n o ∈ flat T) (ho : oK O o ≠ 0) (he : oK O o = 1 → oZ O o = 0) (hL : oL O o = 1) (hod : o ≠ d)
    (hm : ∀ y : m_It, y ∈ flat T5 ↔ (y ∈ flat T ∧ y.1 ≠ (d * 4 + 1) * 1000 + n) ∧ y.1 ≠ o * 4000 ∧ y.1 ≠ o * 4000 + 2000 ∧ y.1 ≠ o * 4000 + 3000) (nE : ∀ x, m_nE (flat T5) x = m_nE (s_del ((d * 4 + 1) * 1000 + n) (flat T)) x) (nT : ∀ x, m_nT (flat T5) x = m_nT (s_del ((d * 4 + 1) * 1000 + n) (flat T)) x) (u : ∀ b, tU T b = 4 → b ∉ oP O o → tU T5 b = 4) (h1 : ∀ b, 1 ≤ b → tU T5 b ≠ 1) : m_im B T5 (o_fgt O d o) := by
  have hso := hok.2.2.2
  obtain ⟨c1, c2, c3, c4, c5, c6, c7, c8, c9, c10, c11, c12, c13, c14, c15, c16, c17, c18⟩ := hi
  have Kn : ∀ x, x ≠ o → oK (o_fgt O d o) x = oK O x := fun x hx => l_up_n hx
  have Ko : oK (o_fgt O d o) o = 0 := l_up_s
  have Kx : ∀ x, oK (o_fgt O d o) x ≠ 0 → x ≠ o := fun x hx e => hx (e ▸ Ko)
  have Zn : ∀ x, x ≠ d → oZ (o_fgt O d o) x = oZ O x := fun x hx => l_up_n hx
  have eP : oP (o_fgt O d o) = oP O := rfl
  have eU : oU (o_fgt O d o) = oU O := rfl
  have tT := nT_del (x := o) hso hx
  rw [if_pos rfl] at tT
  have o1 : o ≠ 1 := fun e => by
    have := c12 1 c3
    rw [if_pos rfl, ← e] at this
    omega
  have cL := c11 o ho
  rw [if_neg o1, hL] at cL
  have nTo : m_nT (s_del ((d * 4 + 1) * 1000 + n) (flat T)) o = 0 := by omega
  have told : ∀ y ∈ flat T5, y.2.2 ≠ some o := fun y hy e => by
    obtain ⟨⟨w1, w2⟩, -⟩ := (hm y).mp hy
    have := List.countP_eq_zero.mp nTo y ((sd_mem hso).mpr ⟨w1, w2⟩)
    exact absurd (decide_eq_true e) this
  have noE : oK O o = 1 → ∀ y ∈ flat T, y.1 / 1000 ≠ o * 4 + 1 := fun hk y hy e => by
    have := (c10 o hk).2
    rw [he hk] at this
    exact absurd (decide_eq_true e) (List.countP_eq_zero.mp this.symm y hy)
  have own : ∀ y ∈ flat T5, y.1 / 4000 ≠ o := fun y hy e => by
    obtain ⟨⟨w1, -⟩, w3, w4, w5⟩ := (hm y).mp hy
    have hit := c5 y w1
    obtain q | q | q | q : y.1 / 1000 % 4 = 0 ∨ y.1 / 1000 % 4 = 1 ∨ y.1 / 1000 % 4 = 2 ∨ y.1 / 1000 % 4 = 3 := by omega
    · have := congrArg (fun z : m_It => z.1) (hit.2.2.1 q)
      simp only [] at this
      omega
    · have hk := (hit.2.2.2.1 q).1
      rw [e] at hk
      exact noE hk y w1 (by omega)
    · have := congrArg (fun z : m_It => z.1) (hit.2.2.2.2.1 q).2
      simp only [] at this
      omega
    · have := congrArg (fun z : m_It => z.1) (hit.2.2.2.2.2 q).2
      simp only [] at this
      omega
  have up : ∀ y : m_It, y ∈ flat T → y.1 / 4000 ≠ o → y.1 / 1000 % 4 ≠ 1 → y ∈ flat T5 := fun y hy h2 h3 => (hm y).mpr ⟨⟨hy, fun e => h3 (by rw [e]; omega)⟩, fun e => h2 (by omega), fun e => h2 (by omega), fun e => h2 (by omega)⟩
  refine ⟨h1, fun x => ?_, ?_, fun x hx => ?_, fun y hy => ?_, fun x hx => ?_, fun x hx hl => ?_, fun x hx hl => ?_, fun x hx => ?_, fun x hx => ?_, fun x hx => ?_, fun x hx => ?_, c13, fun y hy x hx hx1 => ?_, fun x hx => ?_, fun x hx b hb => ?_, fun x hx => ?_, fun x x' b hx hx' hb hb' => ?_⟩
  · by_cases e : x = o
    · rw [e, Ko]; omega
    · rw [Kn x e]; exact c2 x
  · rw [Kn 1 (Ne.symm o1)]; exact c3
  · by_cases e : x = o
    · rw [e, Ko]
    · rw [Kn x e]; exact c4 x hx
  · have hit := c5 y ((hm y).mp hy).1.1
    have hne := own y hy
    refine ⟨hit.1, by rw [Kn _ hne]; exact hit.2.1, hit.2.2.1, fun z => ?_, fun z => ?_, fun z => ?_⟩
    · obtain ⟨b1, b2, t, b3, b4, b5, b6⟩ := hit.2.2.2.1 z
      have hto : t ≠ o := fun e => told y hy (e ▸ b3)
      exact ⟨by rw [Kn _ hne]; exact b1, b2, t, b3, b4, b5, by rw [Kn t hto]; exact b6⟩
    · obtain ⟨b1, b2⟩ := hit.2.2.2.2.1 z
      exact ⟨by rw [Kn _ hne]; exact b1, b2⟩
    · obtain ⟨b1, b2⟩ := hit.2.2.2.2.2 z
      have : y.1 / 4000 ≠ d := fun e => by rw [e, hd] at b1; cases b1
      exact ⟨by rw [Kn _ hne]; exact b1, by rw [Zn _ this]; exact b2⟩
  · have e := Kx x hx
    rw [Kn x e] at hx
    exact up _ (c6 x hx) (by show x * 4000 / 4000 ≠ o; omega) (by show x * 4000 / 1000 % 4 ≠ 1; omega)
  · have e := Kx x (by omega)
    rw [Kn x e] at hx
    exact up _ (c7 x hx hl) (by show (x * 4000 + 2000) / 4000 ≠ o; omega) (by show (x * 4000 + 2000) / 1000 % 4 ≠ 1; omega)
  · have e := Kx x (by omega)
    rw [Kn x e] at hx
    have e2 : x ≠ d := fun e => by rw [e, hd] at hx; cases hx
    rw [Zn x e2] at hl ⊢
    exact up _ (c8 x hx hl) (by show (x * 4000 + 3000) / 4000 ≠ o; omega) (by show (x * 4000 + 3000) / 1000 % 4 ≠ 1; omega)
  · have e := Kx x (by omega)
    rw [Kn x e] at hx
    have e2 : x ≠ d := fun e => by rw [e, hd] at hx; cases hx
    rw [Zn x e2]; exact c9 x hx
  · have e := Kx x (by omega)
    rw [Kn x e] at hx
    refine ⟨(c10 x hx).1, ?_⟩
    have q := nE_del (x := x) hso ‹i_en d n o ∈ flat T› hn
    have q2 := (c10 x hx).2
    rw [nE x]
    show va_up (oZ O) d _ x = _
    by_cases e2 : x = d
    · rw [e2, l_up_s]
      rw [if_pos e2, e2] at q
      rw [e2] at q2
      omega
    · rw [l_up_n e2]
      rw [if_neg e2] at q
      omega
  · have e := Kx x hx
    rw [Kn x e] at hx
    have q := nT_del (x := x) hso ‹i_en d n o ∈ flat T›
    rw [if_neg e] at q
    rw [nT x, show oL (o_fgt O d o) x = oL O x from l_up_n e]
    have := c11 x hx
    omega
  · have e := Kx x (by omega)
    rw [Kn x e] at hx
    have q := nT_del (x := x) hso ‹i_en d n o ∈ flat T›
    rw [if_neg e] at q
    have := c12 x hx
    rw [nT x]; omega
  · have e := Kx x (by omega)
    rw [Kn x e] at hx1
    exact c14 y ((hm y).mp hy).1.1 x hx hx1
  · have e := Kx x (by omega)
    rw [Kn x e] at hx
    obtain ⟨L, p1, p2, p3⟩ := c15 x hx
    have hno : o ∉ L := fun hmo => by
      obtain ⟨w, w1, w2⟩ := path_via p1 hmo e
      have hk := p3 w w1
      have hko := p3 o hmo
      have hw1 : w ≠ 1 := fun e => by rw [e, c13] at w2; cases w2
      have hc := c12 w hk
      rw [if_neg hw1] at hc
      have hpos : 0 < m_nT (flat T) w := by omega
      obtain ⟨y, hy, hyw⟩ := List.countP_pos_iff.mp hpos
      have hyw' : y.2.2 = some w := of_decide_eq_true hyw
      have hu := c14 y hy w hyw' hk
      rw [w2] at hu
      have hyo : y.1 / 4000 = o := (Option.some.inj hu).symm
      have hit := c5 y hy
      obtain q | q | q | q : y.1 / 1000 % 4 = 0 ∨ y.1 / 1000 % 4 = 1 ∨ y.1 / 1000 % 4 = 2 ∨ y.1 / 1000 % 4 = 3 := by omega
      · have := congrArg (fun z : m_It => z.2.2) (hit.2.2.1 q)
        simp only [] at this
        rw [hyw'] at this; cases this
      · exact noE hko y hy (by omega)
      · have := congrArg (fun z : m_It => z.2.2) (hit.2.2.2.2.1 q).2
        simp only [] at this
        rw [hyw'] at this; cases this
      · have := congrArg (fun z : m_It => z.2.2) (hit.2.2.2.2.2 q).2
        simp only [] at this
        rw [hyw'] at this; cases this
    exact ⟨L, m_path_up (O := O) p1 (fun _ _ => rfl), p2, fun z hz => by rw [Kn z (fun e => hno (e ▸ hz))]; exact p3 z hz⟩
  · have e := Kx x (by omega)
    rw [Kn x e] at hx
    obtain ⟨b1, b2, b3⟩ := c16 x hx b hb
    refine ⟨b1, b2, u b b3 (fun w => ?_)⟩
    by_cases hk2 : oK O o = 2
    · exact e (c18 x o b hx hk2 hb w)
    · have hk1 : oK O o = 1 := by have := c2 o; omega
      rw [(c10 o hk1).1] at w; cases w
  · have e := Kx x (by omega)
    rw [Kn x e] at hx
    exact c17 x hx
  · have e := Kx x (by omega)
    have e' := Kx x' (by omega)
    rw [Kn x e] at hx
    rw [Kn x' e'] at hx'
    exact c18 x x' b hx hx' hb hb'
end UN
