/-! move: class and reference answer alike. -/
def o_move (O : m_O) (d t o : Nat) : m_O := (oK O, oL O, va_up (va_up (oZ O) d (oZ O d - 1)) t (va_up (oZ O) d (oZ O d - 1) t + 1), (if oK O o = 1 then va_up (oU O) o (some t) else oU O), oP O, oD O, oE O)
theorem path_det {O : m_O} : ∀ {L L' : List Nat} {x : Nat}, m_path O x L → m_path O x L' → L = L'
  | [], _, _, h, _ => h.elim
  | _, [], _, _, h => h.elim
  | [a], [b], x, h1, h2 => by rw [h1.1, h2.1]
  | [a], b :: c :: M, x, h1, h2 => by
    have := h2.2.1
    rw [h1.2] at this; cases this
  | b :: c :: M, [a], x, h1, h2 => by
    have := h1.2.1
    rw [h2.2] at this; cases this
  | a :: b :: M, a' :: b' :: M', x, h1, h2 => by
    obtain ⟨p1, p2, p3⟩ := h1
    obtain ⟨q1, q2, q3⟩ := h2
    have e : b = b' := Option.some.inj (p2.symm.trans q2)
    subst e
    rw [p1, q1, path_det p3 q3]
theorem path_sub {O : m_O} {z : Nat} : ∀ {L : List Nat} {x : Nat}, m_path O x L → z ∈ L → ∃ N, m_path O z N ∧ N.length ≤ L.length
  | [], _, h, _ => h.elim
  | [a], x, h, hz => by
    have : z = a := by simpa using hz
    exact ⟨[a], by rw [this, h.1] at *; exact ⟨rfl, h.2⟩, Nat.le_refl _⟩
  | a :: b :: M, x, h, hz => by
    rcases List.mem_cons.mp hz with w | w
    · exact ⟨a :: b :: M, by rw [w, h.1] at *; exact ⟨rfl, h.2⟩, Nat.le_refl _⟩
    · obtain ⟨N, n1, n2⟩ := path_sub h.2.2 w
      exact ⟨N, n1, by rw [List.length_cons]; omega⟩
theorem path_nodup {O : m_O} : ∀ {L : List Nat} {x : Nat}, m_path O x L → L.Nodup
  | [], _, _ => List.nodup_nil
  | [a], _, _ => by simp
  | a :: b :: M, x, h => by
    refine List.nodup_cons.mpr ⟨fun hz => ?_, path_nodup h.2.2⟩
    obtain ⟨N, n1, n2⟩ := path_sub h.2.2 hz
    have := path_det (L := a :: b :: M) (L' := N) h (by rw [← h.1]; exact n1)
    rw [← this] at n2
    simp only [List.length_cons] at n2
    omega
section MV
variable {B J : Nat} {S S' S0 : z_S} {A : m_A} {T T1 T2 : m_T} {O O' : m_O} {f f' : Nat → Int32}
theorem en_mem {d n o : Nat} (hi : m_im B T O) (hn : n < 1000) (h : d_e T d n = some o) : i_en d n o ∈ flat T ∧ 1 ≤ o ∧ o ≤ 60 ∧ oK O o ≠ 0 ∧ oK O d = 1 := by
  unfold d_e at h
  cases hf : (flat T).find? (fun y => decide (y.1 = (d * 4 + 1) * 1000 + n)) with
  | none => rw [hf] at h; cases h
  | some y =>
    rw [hf] at h
    have hm := List.mem_of_find?_eq_some hf
    have hk0 := List.find?_some hf
    have hk : y.1 = (d * 4 + 1) * 1000 + n := of_decide_eq_true hk0
    have ht : y.2.2 = some o := h
    obtain ⟨-, -, -, q, -, -⟩ := hi.2.2.2.2.1 y hm
    obtain ⟨q1, q2, t, q3, q4, q5, q6⟩ := q (by rw [hk]; omega)
    rw [ht] at q3
    have e : o = t := Option.some.inj q3
    subst e
    have : y = i_en d n o := by
      obtain ⟨y1, y2, y3⟩ := y
      simp only [] at hk q2 ht
      rw [hk, q2, ht]; rfl
    rw [hk, show ((d * 4 + 1) * 1000 + n) / 4000 = d by omega] at q1
    exact ⟨by rw [← this]; exact hm, q4, q5, q6, q1⟩
theorem rt_ne {d n : Nat} (hi : m_im B T O) (hn : n < 1000) : ∃ y ∈ flat T, y.1 ≠ (d * 4 + 1) * 1000 + n := ⟨_, hi.2.2.2.2.2.1 1 (by rw [hi.2.2.1]; decide), by show 1 * 4000 ≠ _; omega⟩
theorem nE_del {F : List m_It} {d n o x : Nat} (hs : m_so F) (hm : i_en d n o ∈ F) (hn : n < 1000) : m_nE (s_del ((d * 4 + 1) * 1000 + n) F) x + (if x = d then 1 else 0) = m_nE F x := by
  have := cp_del (p := fun y => decide (y.1 / 1000 = x * 4 + 1)) hs hm
  unfold m_nE
  rw [← this]
  congr 1
  by_cases e : x = d
  · rw [if_pos e, if_pos (by show decide (((d * 4 + 1) * 1000 + n) / 1000 = x * 4 + 1) = true; simp; omega)]
  · rw [if_neg e, if_neg (by show ¬ decide (((d * 4 + 1) * 1000 + n) / 1000 = x * 4 + 1) = true; simp; omega)]
theorem nT_del {F : List m_It} {d n o x : Nat} (hs : m_so F) (hm : i_en d n o ∈ F) : m_nT (s_del ((d * 4 + 1) * 1000 + n) F) x + (if x = o then 1 else 0) = m_nT F x := by
  have := cp_del (p := fun y => decide (y.2.2 = some x)) hs hm
  unfold m_nT
  rw [← this]
  congr 1
  by_cases e : x = o
  · rw [if_pos e, if_pos (by show decide (some o = some x) = true; simp [e])]
  · rw [if_neg e, if_neg (by show ¬ decide (some o = some x) = true; simp; omega)]
theorem im_move {d n t m o : Nat} (hso : m_so (flat T)) (hi : m_im B T O) (hd : oK O d = 1) (hn : n < 1000) (ht : oK O t = 1) (t1 : 1 ≤ t) (hm : m < 1000) (hxm : i_en d n o ∈ flat T) (ho : oK O o ≠ 0) (o1 : 1 ≤ o) (o2 : o ≤ 60) (hw : w_in O o 60 t = false) (hF : flat T2 = s_ins (i_en t m o) (s_del ((d * 4 + 1) * 1000 + n) (flat T))) (h4 : u4 T T2) (h1 : ∀ b, 1 ≤ b → tU T2 b ≠ 1) : m_im B T2 (o_move O d t o) := by
  have y1 : (i_en t m o).1 / 4000 = t := by show ((t * 4 + 1) * 1000 + m) / 4000 = t; omega
  have y2 : (i_en t m o).1 / 1000 % 4 = 1 := by show ((t * 4 + 1) * 1000 + m) / 1000 % 4 = 1; omega
  obtain ⟨Lt, l1, l2, l3⟩ := path_few hi ht
  have hoL : o ∉ Lt := by
    rw [w_in_path l1 l3] at hw
    exact of_decide_eq_false hw
  obtain ⟨c1, c2, c3, c4, c5, c6, c7, c8, c9, c10, c11, c12, c13, c14, c15, c16, c17, c18⟩ := id hi
  have mem : ∀ y, y ∈ flat T2 ↔ y = i_en t m o ∨ (y ∈ flat T ∧ y.1 ≠ (d * 4 + 1) * 1000 + n) := fun y => by rw [hF, si_mem, sd_mem hso]
  have nT : ∀ x, m_nT (flat T2) x = m_nT (flat T) x := fun x => by rw [hF, nT_en, nT_del hso hxm]
  have eUn : ∀ x, x ≠ o → oU (o_move O d t o) x = oU O x := fun x hx => by
    show (if oK O o = 1 then va_up (oU O) o (some t) else oU O) x = _
    split
    · exact l_up_n hx
    · rfl
  have eUo : oK O o = 1 → oU (o_move O d t o) o = some t := fun hk => by
    show (if oK O o = 1 then va_up (oU O) o (some t) else oU O) o = _
    rw [if_pos hk]; exact l_up_s
  have hz : oK O o = 1 → m_nT (s_del ((d * 4 + 1) * 1000 + n) (flat T)) o = 0 ∧ o ≠ 1 := fun hk => by
    have q := nT_del (x := o) hso hxm
    have q2 := c12 o hk
    rw [if_pos rfl] at q
    by_cases e : o = 1
    · rw [if_pos e] at q2; omega
    · rw [if_neg e] at q2; exact ⟨by omega, e⟩
  have hoo : ∀ x, oK O x = 1 → oK O o ≠ 1 → x ≠ o := fun x hx hk e => hk (e ▸ hx)
  refine im_ent hi rfl rfl (fun x hx => ?_) h4 h1 (fun y hy => ?_) (fun y hy e => ?_) (fun x hx => ?_) (fun x hx => by rw [nT x]; exact c11 x hx) (fun x hx => by rw [nT x]; exact c12 x hx) ?_ (fun y hy x hx hk => ?_) (fun x hx => ?_)
  · show va_up (va_up (oZ O) d _) t _ x = _
    rw [l_up_n (fun e => by rw [e, ht] at hx; cases hx), l_up_n (fun e => by rw [e, hd] at hx; cases hx)]
  · rw [mem]
    refine ⟨fun w => (w.resolve_left (fun e => hy (by rw [e]; exact y2))).1, fun w => Or.inr ⟨w, fun e => hy (by rw [e]; omega)⟩⟩
  · rcases (mem y).mp hy with w | ⟨w, -⟩
    · rw [w, y1]; exact ⟨t1, ht, rfl, o, rfl, o1, o2, ho⟩
    · obtain ⟨q1, q2, q3, q4⟩ := c5 y w
      exact ⟨q1, q4.1 e⟩
  · have q := nE_del (x := x) hso hxm hn
    have q2 := (c10 x hx).2
    rw [hF, nE_en hm]
    show va_up (va_up (oZ O) d _) t _ x = _
    have qd := nE_del (x := d) hso hxm hn
    have qd2 := (c10 d hd).2
    rw [if_pos rfl] at qd
    by_cases e : x = t
    · rw [e, l_up_s, if_pos rfl]
      by_cases e2 : t = d
      · rw [e2, l_up_s]; omega
      · rw [l_up_n e2, ← e]
        rw [if_neg (by omega)] at q
        omega
    · rw [l_up_n e, if_neg e]
      by_cases e2 : x = d
      · rw [e2, l_up_s]; omega
      · rw [l_up_n e2]
        rw [if_neg e2] at q
        omega
  · by_cases hk : oK O o = 1
    · rw [eUn 1 (Ne.symm (hz hk).2)]; exact c13
    · rw [eUn 1 (hoo 1 c3 hk)]; exact c13
  · rcases (mem y).mp hy with w | ⟨w, w2⟩
    · rw [w] at hx
      have : o = x := Option.some.inj hx
      subst this
      rw [eUo hk, w, y1]
    · by_cases e : x = o
      · subst e
        have q := (hz hk).1
        have hy2 : y ∈ s_del ((d * 4 + 1) * 1000 + n) (flat T) := (sd_mem hso).mpr ⟨w, w2⟩
        have := List.countP_eq_zero.mp q y hy2
        exact absurd (decide_eq_true hx) this
      · rw [eUn x e]; exact c14 y w x hx hk
  · have ex : ∀ (L : List Nat) (x : Nat), m_path O x L → (∀ z ∈ L, oK O z = 1) → ∃ L', m_path (o_move O d t o) x L' ∧ ∀ z ∈ L', oK O z = 1 := by
      intro L
      induction L with
      | nil => intro x h; exact h.elim
      | cons a M ih =>
        intro x hp hk
        by_cases e : x = o
        · subst e
          have hkx : oK O x = 1 := by
            obtain ⟨N, hN⟩ := m_path_hd hp
            exact hk x (by rw [hN]; exact List.mem_cons_self)
          obtain ⟨M', hM⟩ := m_path_hd l1
          have p' : m_path (o_move O d t x) t Lt := m_path_up (O := O) l1 (fun z hz => eUn z (fun e => hoL (e ▸ hz)))
          refine ⟨x :: Lt, ?_, fun z hz => ?_⟩
          · rw [hM] at p' ⊢
            exact ⟨rfl, eUo hkx, p'⟩
          · rcases List.mem_cons.mp hz with w | w
            · rw [w]; exact hkx
            · exact (l2 z w).1
        · cases M with
          | nil => exact ⟨[a], ⟨hp.1, by rw [eUn x e]; exact hp.2⟩, hk⟩
          | cons b M =>
            obtain ⟨L', q1, q2⟩ := ih b hp.2.2 (fun z hz => hk z (List.mem_cons_of_mem _ hz))
            obtain ⟨M', hM⟩ := m_path_hd q1
            refine ⟨x :: L', ?_, fun z hz => ?_⟩
            · rw [hM] at q1 ⊢
              exact ⟨rfl, by rw [eUn x e]; exact hp.2.1, q1⟩
            · rcases List.mem_cons.mp hz with w | w
              · rw [w, ← hp.1]; exact hk a List.mem_cons_self
              · exact q2 z w
    obtain ⟨L, p1, p2, p3⟩ := c15 x hx
    obtain ⟨L', q1, q2⟩ := ex L x p1 p3
    exact ⟨L', q1, path_nodup q1, q2⟩
/-- the answer, and what it leaves -/
def A_move2 (B : Nat) (A : m_A) (d n t m o : Nat) : Nat × Int32 × m_A := match a_put B (a_del B A.1.1 ((d * 4 + 1) * 1000 + n)) (i_en t m o) with
  | none => (4, 0, A)
  | some T2 => (0, nI o, (T2, o_move A.1.2 d t o), A.2)
def A_move (B : Nat) (A : m_A) (p1 p2 p3 p4 : Int32) : Nat × Int32 × m_A := if A.2.2.1 = 0 then (if d_k A.1.2 p1 = 1 then (if d_k A.1.2 p3 = 1 then (if d_ea A.1.1 p1.toNatClampNeg p2 = -1 then (2, 0, A) else (if 0 ≤ p4 ∧ p4 < 1000 then (if d_ea A.1.1 p3.toNatClampNeg p4 = -1 then (if w_in A.1.2 (d_ea A.1.1 p1.toNatClampNeg p2).toNatClampNeg 60 p3.toNatClampNeg = true then (4, 0, A) else A_move2 B A p1.toNatClampNeg p2.toNatClampNeg p3.toNatClampNeg p4.toNatClampNeg (d_ea A.1.1 p1.toNatClampNeg p2).toNatClampNeg) else (4, 0, A)) else (3, 0, A))) else (2, 0, A)) else (2, 0, A)) else (1, 0, A)
theorem move_ok {d n t m o : Nat} (hA : AI B J A) (hd : oK A.1.2 d = 1) (hn : n < 1000) (hx : d_e A.1.1 d n = some o) (ht : oK A.1.2 t = 1) (t1 : 1 ≤ t) (t2 : t ≤ 60) (hm : m < 1000) (hen : d_e A.1.1 t m = none) (hw : w_in A.1.2 o 60 t = false) :
    m_ok B (a_del B A.1.1 ((d * 4 + 1) * 1000 + n)) ∧ u4 A.1.1 (a_del B A.1.1 ((d * 4 + 1) * 1000 + n)) ∧ (∀ y ∈ flat (a_del B A.1.1 ((d * 4 + 1) * 1000 + n)), y.1 ≠ (i_en t m o).1) ∧ ∀ T2, a_put B (a_del B A.1.1 ((d * 4 + 1) * 1000 + n)) (i_en t m o) = some T2 → m_ok B T2 ∧ u4 A.1.1 T2 ∧ m_im B T2 (o_move A.1.2 d t o) := by
  obtain ⟨hb, ⟨hok, hi⟩, -⟩ := hA
  obtain ⟨e1, e2, e3, e4, -⟩ := en_mem hi hn hx
  obtain ⟨k1, k2, k3⟩ := del_ok hok ⟨_, e1, rfl⟩ (rt_ne hi hn)
  have k2' : flat (a_del B A.1.1 ((d * 4 + 1) * 1000 + n)) = s_del ((d * 4 + 1) * 1000 + n) (flat A.1.1) := k2
  have hno : ∀ y ∈ flat (a_del B A.1.1 ((d * 4 + 1) * 1000 + n)), y.1 ≠ (i_en t m o).1 := fun y hy => by
    rw [k2', sd_mem hok.2.2.2] at hy
    exact en_none hok hi hen hm y hy.1
  refine ⟨k1, u4_ug k3, hno, fun T2 h2 => ?_⟩
  obtain ⟨j1, j2, j3⟩ := put_ok hb.2.1 k1 (ig_en t2 hm e3) hno h2
  have h4 := u4_tr (u4_ug k3) (u4_uf j3)
  exact ⟨j1, h4, im_move hok.2.2.2 hi hd hn ht t1 hm e1 e4 e2 e3 hw (by rw [show flat T2 = s_ins (i_en t m o) (flat (a_del B A.1.1 ((d * 4 + 1) * 1000 + n))) from j2, k2']) h4 (u1_uf j3 (u1_ug k3 hi.1))⟩
theorem ea_in {d : Nat} {p : Int32} (h : ¬ d_ea T d p = -1) : ∃ n, p = nI n ∧ n < 1000 := by
  unfold d_ea at h
  by_cases e : 0 ≤ p ∧ p < 1000
  · exact m_below e.1 (z := 1000) (by rw [← m_c1000]; exact e.2) (by omega)
  · rw [if_neg e] at h; exact absurd rfl h
theorem G_move_a {p1 p2 p3 p4 : Int32} (hA : AI B J A) : AI B J (A_move B A p1 p2 p3 p4).2.2 := by
  have hok := hA.2.1.1
  unfold A_move
  split
  · split
    · rename_i e1
      obtain ⟨d, hd, d1, d2, d3⟩ := dk_some (O := A.1.2) (p := p1) (by omega)
      split
      · rename_i e3
        obtain ⟨t, ht, t1, t2, t3⟩ := dk_some (O := A.1.2) (p := p3) (by omega)
        split
        · exact hA
        · rename_i hx
          obtain ⟨n, hn, hn2⟩ := ea_in hx
          split
          · rename_i hp4
            obtain ⟨m, hm, hm2⟩ := m_below hp4.1 (z := 1000) (by rw [← m_c1000]; exact hp4.2) (by omega)
            split
            · rename_i hea
              subst hd; subst hn; subst ht; subst hm
              simp only [nI_clamp (show d < 2 ^ 31 by omega), nI_clamp (show t < 2 ^ 31 by omega), nI_clamp (show n < 2 ^ 31 by omega), nI_clamp (show m < 2 ^ 31 by omega)] at hea hx ⊢
              obtain ⟨o, x1, x2, x3⟩ := ea_some hok hn2 hx
              rw [x3, nI_clamp (by omega)]
              have hen := (ea_m1 hok hm2).mp hea
              split
              · exact hA
              · rename_i hw
                obtain ⟨-, -, -, q⟩ := move_ok hA (d3.trans e1) hn2 x1 (t3.trans e3) t1 t2 hm2 hen (by simpa using hw)
                unfold A_move2
                split
                · exact hA
                · rename_i T2 h2
                  obtain ⟨q1, -, q3⟩ := q T2 h2
                  exact AI_im hA q1 q3
            · exact hA
          · exact hA
      · exact hA
    · exact hA
  · exact hA
theorem C_needEntry {o : Nat} {p : Int32} (hB : B ≤ 96) (hk : m_ok B T) (hi : m_im B T O) (hT : c_T B 2 S T) (o2 : o ≤ 60) : F_X5_needEntry B (nI o) p S = some ((if d_ea T o p = -1 then .inr E_I else .inl (some (d_ea T o p))), S) := by
  unfold F_X5_needEntry
  rw [C_toldBy hB hk hi hT o2, m_bn]
  split <;> rfl
end MV
