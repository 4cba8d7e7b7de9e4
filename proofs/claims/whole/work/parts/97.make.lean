/-! make: class and reference answer alike. -/
def o_make (O : m_O) (d o k : Nat) : m_O := (va_up (oK O) o k, va_up (oL O) o 1, va_up (va_up (oZ O) o 0) d (oZ O d + 1), va_up (oU O) o (some d), va_up (oP O) o [], oD O, oE O)
def i_st (o : Nat) : m_It := (o * 4000, 6, none)
def i_en (d n o : Nat) : m_It := ((d * 4 + 1) * 1000 + n, 3, some o)
theorem ig_st {o : Nat} (h : o ≤ 60) : m_ig (i_st o) := ⟨by show 1 ≤ 6; omega, by show 6 ≤ 40; omega, by show o * 4000 < 244000; omega, fun x hx => by cases hx⟩
theorem ig_en {d n o : Nat} (hd : d ≤ 60) (hn : n < 1000) (ho : o ≤ 60) : m_ig (i_en d n o) := ⟨by show 1 ≤ 3; omega, by show 3 ≤ 40; omega, by show (d * 4 + 1) * 1000 + n < 244000; omega, fun x hx => by have : o = x := Option.some.inj hx; omega⟩
theorem fr0_none {u : Nat → Nat} : ∀ {n k : Nat}, m_fr0 u n k = none ↔ s_n (fun o => if u o = 0 then 0 else 1) n k = n
  | 0, k => by simp [m_fr0, s_n]
  | n + 1, k => by
    have hle : ∀ m j, s_n (fun o => if u o = 0 then 0 else 1) m j ≤ m := by
      intro m
      induction m with
      | zero => intro j; exact Nat.le_refl _
      | succ m ih =>
        intro j
        have := ih (j + 1)
        rw [s_n]
        split <;> omega
    have h1 := hle n (k + 1)
    rw [m_fr0, s_n]
    by_cases e : u k = 0
    · rw [if_pos e, if_pos e]
      exact ⟨fun z => (by cases z), fun z => by omega⟩
    · rw [if_neg e, if_neg e, fr0_none (n := n) (k := k + 1)]
      omega
theorem m_path_up {O O' : m_O} : ∀ {o : Nat} {L : List Nat}, m_path O o L → (∀ d ∈ L, oU O' d = oU O d) → m_path O' o L
  | _, [], h, _ => h
  | o, [a], h, hu => by
    obtain ⟨h1, h2⟩ := h
    subst h1
    exact ⟨rfl, by rw [hu a List.mem_cons_self]; exact h2⟩
  | o, a :: b :: L, h, hu => by
    obtain ⟨h1, h2, h3⟩ := h
    subst h1
    exact ⟨rfl, by rw [hu a List.mem_cons_self]; exact h2, m_path_up h3 (fun d hd => hu d (List.mem_cons_of_mem _ hd))⟩
theorem m_path_hd {O : m_O} {o : Nat} {L : List Nat} (h : m_path O o L) : ∃ M, L = o :: M := by
  match L, h with
  | [a], h => exact ⟨[], by rw [h.1]⟩
  | a :: b :: M, h => exact ⟨b :: M, by rw [h.1]⟩
section MK
variable {B J : Nat} {S S' S0 : z_S} {A : m_A} {T T1 T2 : m_T} {O : m_O}
theorem im_new {o : Nat} (hi : m_im B T O) (ho : oK O o = 0) : (∀ y ∈ flat T, y.1 / 4000 ≠ o) ∧ ∀ y ∈ flat T, y.2.2 ≠ some o := by
  constructor
  · intro y hy e
    have := (hi.2.2.2.2.1 y hy).2.1
    rw [e] at this
    exact this ho
  · intro y hy e
    have hit := hi.2.2.2.2.1 y hy
    obtain q | q | q | q : y.1 / 1000 % 4 = 0 ∨ y.1 / 1000 % 4 = 1 ∨ y.1 / 1000 % 4 = 2 ∨ y.1 / 1000 % 4 = 3 := by omega
    · have := congrArg (fun z : m_It => z.2.2) (hit.2.2.1 q)
      simp only [] at this
      rw [e] at this; cases this
    · obtain ⟨-, -, t, ht, -, -, hk⟩ := hit.2.2.2.1 q
      rw [e] at ht
      rw [← Option.some.inj ht] at hk
      exact hk ho
    · have := congrArg (fun z : m_It => z.2.2) (hit.2.2.2.2.1 q).2
      simp only [] at this
      rw [e] at this; cases this
    · have := congrArg (fun z : m_It => z.2.2) (hit.2.2.2.2.2 q).2
      simp only [] at this
      rw [e] at this; cases this
theorem cp_0 {p : m_It → Bool} {L : List m_It} (h : ∀ y ∈ L, p y = false) : L.countP p = 0 := by
  rw [List.countP_eq_zero]
  intro y hy
  rw [h y hy]
  exact Bool.false_ne_true
theorem im_make {d n o k : Nat} (hi : m_im B T O) (hd : oK O d = 1) (hd1 : d ≤ 60) (hn : n < 1000) (ho : oK O o = 0) (o1 : 1 ≤ o) (o2 : o ≤ 60) (hk : k = 1 ∨ k = 2) (hF : flat T2 = s_ins (i_en d n o) (s_ins (i_st o) (flat T))) (h4 : u4 T T2) (h1 : ∀ b, 1 ≤ b → tU T2 b ≠ 1) : m_im B T2 (o_make O d o k) := by
  obtain ⟨new1, new2⟩ := im_new hi ho
  have hod : o ≠ d := fun e => by rw [e, hd] at ho; cases ho
  have ho1 : o ≠ 1 := fun e => by rw [e, hi.2.2.1] at ho; cases ho
  have hd0 : 1 ≤ d := by
    by_cases e : d = 0
    · rw [hi.2.2.2.1 d (Or.inl e)] at hd; cases hd
    · omega
  obtain ⟨c1, c2, c3, c4, c5, c6, c7, c8, c9, c10, c11, c12, c13, c14, c15, c16, c17, c18⟩ := hi
  have eK : oK (o_make O d o k) = va_up (oK O) o k := rfl
  have eL : oL (o_make O d o k) = va_up (oL O) o 1 := rfl
  have eZ : oZ (o_make O d o k) = va_up (va_up (oZ O) o 0) d (oZ O d + 1) := rfl
  have eU : oU (o_make O d o k) = va_up (oU O) o (some d) := rfl
  have eP : oP (o_make O d o k) = va_up (oP O) o [] := rfl
  have Kn : ∀ x, x ≠ o → oK (o_make O d o k) x = oK O x := fun x hx => by rw [eK, l_up_n hx]
  have Ko : oK (o_make O d o k) o = k := by rw [eK, l_up_s]
  have Zn : ∀ x, x ≠ o → x ≠ d → oZ (o_make O d o k) x = oZ O x := fun x h1 h2 => by rw [eZ, l_up_n h2, l_up_n h1]
  have Zo : oZ (o_make O d o k) o = 0 := by rw [eZ, l_up_n hod, l_up_s]
  have Zd : oZ (o_make O d o k) d = oZ O d + 1 := by rw [eZ, l_up_s]
  have Pn : ∀ x, x ≠ o → oP (o_make O d o k) x = oP O x := fun x hx => by rw [eP, l_up_n hx]
  have Po : oP (o_make O d o k) o = [] := by rw [eP, l_up_s]
  have Kne : ∀ x, oK O x ≠ 0 → x ≠ o := fun x hx e => hx (e ▸ ho)
  have mem : ∀ y, y ∈ flat T2 ↔ y = i_en d n o ∨ y = i_st o ∨ y ∈ flat T := fun y => by rw [hF, si_mem, si_mem]
  have nE : ∀ x, m_nE (flat T2) x = m_nE (flat T) x + if x = d then 1 else 0 := fun x => by
    unfold m_nE
    rw [hF, cp_ins, cp_ins]
    have e1 : ¬ (decide ((i_st o).1 / 1000 = x * 4 + 1) = true) := by
      show ¬ decide (o * 4000 / 1000 = x * 4 + 1) = true
      simp
      omega
    rw [if_neg e1, Nat.add_zero]
    congr 1
    by_cases e : x = d
    · rw [if_pos e, if_pos (by show decide (((d * 4 + 1) * 1000 + n) / 1000 = x * 4 + 1) = true; simp; omega)]
    · rw [if_neg e, if_neg (by show ¬ decide (((d * 4 + 1) * 1000 + n) / 1000 = x * 4 + 1) = true; simp; omega)]
  have nT : ∀ x, m_nT (flat T2) x = m_nT (flat T) x + if x = o then 1 else 0 := fun x => by
    unfold m_nT
    rw [hF, cp_ins, cp_ins]
    have e1 : ¬ (decide ((i_st o).2.2 = some x) = true) := by show ¬ decide (none = some x) = true; simp
    rw [if_neg e1, Nat.add_zero]
    congr 1
    by_cases e : x = o
    · rw [if_pos e, if_pos (by show decide (some o = some x) = true; simp [e])]
    · rw [if_neg e, if_neg (by show ¬ decide (some o = some x) = true; simp; omega)]
  have nE0 : m_nE (flat T) o = 0 := cp_0 (fun y hy => by have := new1 y hy; simp; omega)
  have nT0 : m_nT (flat T) o = 0 := cp_0 (fun y hy => by have := new2 y hy; simpa using this)
  refine ⟨h1, fun x => ?_, ?_, fun x hx => ?_, fun y hy => ?_, fun x hx => ?_, fun x hx hl => ?_, fun x hx hl => ?_, fun x hx => ?_, fun x hx => ?_, fun x hx => ?_, fun x hx => ?_, ?_, fun y hy x hx hx1 => ?_, fun x hx => ?_, fun x hx b hb => ?_, fun x hx => ?_, fun x x' b hx hx' hb hb' => ?_⟩
  · by_cases e : x = o
    · rw [e, Ko]; omega
    · rw [Kn x e]; exact c2 x
  · rw [Kn 1 (Ne.symm ho1)]; exact c3
  · have : x ≠ o := by omega
    rw [Kn x this]; exact c4 x hx
  · rcases (mem y).mp hy with w | w | w
    · subst w
      have x1 : (i_en d n o).1 / 4000 = d := by show ((d * 4 + 1) * 1000 + n) / 4000 = d; omega
      have x2 : (i_en d n o).1 / 1000 % 4 = 1 := by show ((d * 4 + 1) * 1000 + n) / 1000 % 4 = 1; omega
      unfold m_it
      rw [x1, x2]
      refine ⟨hd0, by rw [Kn d (Ne.symm hod)]; omega, fun z => by omega, fun _ => ⟨by rw [Kn d (Ne.symm hod)]; exact hd, rfl, o, rfl, o1, o2, by rw [Ko]; omega⟩, fun z => by omega, fun z => by omega⟩
    · subst w
      have x1 : (i_st o).1 / 4000 = o := by show o * 4000 / 4000 = o; omega
      have x2 : (i_st o).1 / 1000 % 4 = 0 := by show o * 4000 / 1000 % 4 = 0; omega
      unfold m_it
      rw [x1, x2]
      exact ⟨o1, by rw [Ko]; omega, fun _ => rfl, fun z => by omega, fun z => by omega, fun z => by omega⟩
    · have hit := c5 y w
      have hne := new1 y w
      refine ⟨hit.1, by rw [Kn _ hne]; exact hit.2.1, hit.2.2.1, fun z => ?_, fun z => ?_, fun z => ?_⟩
      · obtain ⟨a1, a2, t, a3, a4, a5, a6⟩ := hit.2.2.2.1 z
        exact ⟨by rw [Kn _ hne]; exact a1, a2, t, a3, a4, a5, by rw [Kn t (Kne t a6)]; exact a6⟩
      · obtain ⟨a1, a2⟩ := hit.2.2.2.2.1 z
        exact ⟨by rw [Kn _ hne]; exact a1, by rw [Pn _ hne]; exact a2⟩
      · obtain ⟨a1, a2⟩ := hit.2.2.2.2.2 z
        have : y.1 / 4000 ≠ d := fun e => by rw [e, hd] at a1; cases a1
        exact ⟨by rw [Kn _ hne]; exact a1, by rw [Zn _ hne this]; exact a2⟩
  · by_cases e : x = o
    · subst e; exact (mem _).mpr (Or.inr (Or.inl rfl))
    · rw [Kn x e] at hx
      exact (mem _).mpr (Or.inr (Or.inr (c6 x hx)))
  · by_cases e : x = o
    · rw [e, Po] at hl; exact absurd rfl hl
    · rw [Kn x e] at hx
      rw [Pn x e] at hl ⊢
      exact (mem _).mpr (Or.inr (Or.inr (c7 x hx hl)))
  · by_cases e : x = o
    · rw [e, Zo] at hl; exact absurd rfl hl
    · rw [Kn x e] at hx
      have e2 : x ≠ d := fun e => by rw [e, hd] at hx; cases hx
      rw [Zn x e e2] at hl ⊢
      exact (mem _).mpr (Or.inr (Or.inr (c8 x hx hl)))
  · by_cases e : x = o
    · rw [e, Po, Zo]; exact ⟨rfl, by omega⟩
    · rw [Kn x e] at hx
      have e2 : x ≠ d := fun e => by rw [e, hd] at hx; cases hx
      rw [Pn x e, Zn x e e2]; exact c9 x hx
  · rw [nE x]
    by_cases e : x = o
    · rw [e, Po, Zo, nE0, if_neg hod]; exact ⟨rfl, rfl⟩
    · rw [Kn x e] at hx
      rw [Pn x e]
      refine ⟨(c10 x hx).1, ?_⟩
      by_cases e2 : x = d
      · rw [e2, Zd, if_pos rfl, (c10 d hd).2]
      · rw [Zn x e e2, if_neg e2, Nat.add_zero]; exact (c10 x hx).2
  · rw [nT x]
    by_cases e : x = o
    · rw [e, eL, l_up_s, nT0, if_pos rfl, if_neg ho1]
    · rw [Kn x e] at hx
      rw [eL, l_up_n e, if_neg e, Nat.add_zero]; exact c11 x hx
  · rw [nT x]
    by_cases e : x = o
    · rw [e, nT0, if_pos rfl, if_neg ho1]
    · rw [Kn x e] at hx
      rw [if_neg e, Nat.add_zero]; exact c12 x hx
  · rw [eU, l_up_n (Ne.symm ho1)]; exact c13
  · rcases (mem y).mp hy with w | w | w
    · subst w
      have ex : o = x := Option.some.inj hx
      subst ex
      rw [eU, l_up_s]
      congr 1
      show d = ((d * 4 + 1) * 1000 + n) / 4000
      omega
    · subst w; cases hx
    · have hxo : x ≠ o := fun e => new2 y w (e ▸ hx)
      rw [Kn x hxo] at hx1
      rw [eU, l_up_n hxo]; exact c14 y w x hx hx1
  · by_cases e : x = o
    · obtain ⟨L, p1, p2, p3⟩ := c15 d hd
      have hno : o ∉ L := fun hm => by rw [p3 o hm] at ho; cases ho
      obtain ⟨M, hM⟩ := m_path_hd p1
      have p1' : m_path (o_make O d o k) d L := m_path_up p1 (fun z hz => by rw [eU, l_up_n (show z ≠ o from fun e => hno (e ▸ hz))])
      refine ⟨o :: L, ?_, List.nodup_cons.mpr ⟨hno, p2⟩, fun z hz => ?_⟩
      · rw [e, hM]
        rw [hM] at p1'
        exact ⟨rfl, by rw [eU, l_up_s], p1'⟩
      · rcases List.mem_cons.mp hz with w | w
        · rw [w]; rw [e] at hx; exact hx
        · rw [Kn z (fun e => hno (e ▸ w))]; exact p3 z w
    · rw [Kn x e] at hx
      obtain ⟨L, p1, p2, p3⟩ := c15 x hx
      have hno : o ∉ L := fun hm => by rw [p3 o hm] at ho; cases ho
      exact ⟨L, m_path_up p1 (fun z hz => by rw [eU, l_up_n (show z ≠ o from fun e => hno (e ▸ hz))]), p2, fun z hz => by rw [Kn z (fun e => hno (e ▸ hz))]; exact p3 z hz⟩
  · by_cases e : x = o
    · rw [e, Po] at hb; cases hb
    · rw [Kn x e] at hx
      rw [Pn x e] at hb
      obtain ⟨b1, b2, b3⟩ := c16 x hx b hb
      exact ⟨b1, b2, (h4 b).mpr b3⟩
  · by_cases e : x = o
    · rw [e, Po]; exact List.nodup_nil
    · rw [Kn x e] at hx
      rw [Pn x e]; exact c17 x hx
  · have e : x ≠ o := fun e => by rw [e, Po] at hb; cases hb
    have e' : x' ≠ o := fun e => by rw [e, Po] at hb'; cases hb'
    rw [Kn x e] at hx
    rw [Kn x' e'] at hx'
    rw [Pn x e] at hb
    rw [Pn x' e'] at hb'
    exact c18 x x' b hx hx' hb hb'
/-- the answer, and what it leaves -/
def A_make4 (B : Nat) (A : m_A) (d n o k : Nat) : Nat × Int32 × m_A := match a_put B A.1.1 (i_st o) with
  | none => (4, 0, A)
  | some T1 => match a_put B T1 (i_en d n o) with
    | none => (4, 0, A)
    | some T2 => (0, nI o, (T2, o_make A.1.2 d o k), A.2)
def A_make3 (B : Nat) (A : m_A) (d n k : Nat) : Nat × Int32 × m_A := match m_fr0 (oK A.1.2) 60 1 with
  | none => (4, 0, A)
  | some o => A_make4 B A d n o k
def A_make (B : Nat) (A : m_A) (p1 p2 p3 : Int32) : Nat × Int32 × m_A := if A.2.2.1 = 0 then (if d_k A.1.2 p1 = 1 then (if 0 ≤ p2 ∧ p2 < 1000 then (if d_ea A.1.1 p1.toNatClampNeg p2 = -1 then A_make3 B A p1.toNatClampNeg p2.toNatClampNeg (if p3 = 0 then 2 else 1) else (4, 0, A)) else (3, 0, A)) else (2, 0, A)) else (1, 0, A)
theorem C_leastFree_loop (hi : m_im B T O) (h : c_O B 1 S T O) : ∀ (m n i : Nat), i + m = 61 → 1 ≤ i → m < n → F_X2_leastFree_2 B 14 n (nI i) S = some (.inl (some (oI (m_fr0 (oK O) m i))), S)
  | 0, n, i, hi', h1, hn => by
    obtain ⟨n, rfl⟩ : ∃ j, n = j + 1 := ⟨n - 1, by omega⟩
    rw [F_X2_leastFree_2, if_pos (by rw [m_c60]; exact nI_lt (by omega) (by omega))]; rfl
  | m + 1, n, i, hi', h1, hn => by
    obtain ⟨n, rfl⟩ : ∃ j, n = j + 1 := ⟨n - 1, by omega⟩
    obtain ⟨k1, -, -⟩ := kind_m1 (hi.2.1 i)
    rw [F_X2_leastFree_2, if_neg (by rw [m_c60]; exact nI_nlt (by omega) (by omega)), m_gd (m_inb (by omega) (by omega)), m_lt, m_ix (by omega), show S.1 (14 + 1) i = _ from h.1 i h1 (by omega), m_fr0]
    by_cases e : oK O i = 0
    · rw [if_pos (k1.mpr e), if_pos e]; rfl
    · rw [if_neg (fun z => e (k1.mp z)), if_neg e, nI_1]
      exact C_leastFree_loop hi h m n (i + 1) (by omega) (by omega) (by omega)
theorem en_none {d n : Nat} (hok : m_ok B T) (hi : m_im B T O) (h : d_e T d n = none) (hn : n < 1000) : ∀ y ∈ flat T, y.1 ≠ (d * 4 + 1) * 1000 + n := fun y hy e => by
  rw [de_some hok hy e] at h
  obtain ⟨-, -, t, ht, -⟩ := (hi.2.2.2.2.1 y hy).2.2.2.1 (by rw [e]; omega)
  rw [ht] at h; cases h
theorem st_none {o : Nat} (hi : m_im B T O) (ho : oK O o = 0) : ∀ y ∈ flat T, y.1 ≠ o * 4000 := fun y hy e => by
  have := (im_new hi ho).1 y hy
  omega
theorem ea_m1 {d n : Nat} (hok : m_ok B T) (hn : n < 1000) : d_ea T d (nI n) = -1 ↔ d_e T d n = none := by
  unfold d_ea
  rw [if_pos ⟨m_ge0 (by omega), by rw [m_c1000]; exact nI_lt hn (by omega)⟩, nI_clamp (by omega)]
  refine m_oI_eq (fun x hx => ?_)
  unfold d_e at hx
  cases hf : (flat T).find? (fun y => decide (y.1 = (d * 4 + 1) * 1000 + n)) with
  | none => rw [hf] at hx; cases hx
  | some y =>
    rw [hf] at hx
    have := (hok.2.2.1 y (List.mem_of_find?_eq_some hf)).2.2.2 x hx
    omega
theorem AI_im (hA : AI B J A) (h1 : m_ok B T2) (h2 : m_im B T2 O) : AI B J ((T2, O), A.2) := ⟨hA.1, ⟨h1, h2⟩, hA.2.2⟩
/-- all that is known where make is granted -/
theorem make_ok {d n o k : Nat} (hA : AI B J A) (hd : oK A.1.2 d = 1) (hd1 : d ≤ 60) (hn : n < 1000) (hen : d_e A.1.1 d n = none) (ho : oK A.1.2 o = 0) (o1 : 1 ≤ o) (o2 : o ≤ 60) (hk : k = 1 ∨ k = 2) (h1 : a_put B A.1.1 (i_st o) = some T1) :
    m_ok B T1 ∧ u4 A.1.1 T1 ∧ (∀ y ∈ flat T1, y.1 ≠ (i_en d n o).1) ∧ ∀ T2, a_put B T1 (i_en d n o) = some T2 → m_ok B T2 ∧ u4 A.1.1 T2 ∧ m_im B T2 (o_make A.1.2 d o k) := by
  obtain ⟨hb, ⟨hok, hi⟩, -⟩ := hA
  obtain ⟨k1, k2, k3⟩ := put_ok hb.2.1 hok (ig_st o2) (st_none hi ho) h1
  have hno : ∀ y ∈ flat T1, y.1 ≠ (i_en d n o).1 := fun y hy => by
    rw [k2] at hy
    rcases si_mem.mp hy with e | e
    · rw [e]; show o * 4000 ≠ (d * 4 + 1) * 1000 + n; omega
    · exact en_none hok hi hen hn y e
  refine ⟨k1, u4_uf k3, hno, fun T2 h2 => ?_⟩
  obtain ⟨j1, j2, j3⟩ := put_ok hb.2.1 k1 (ig_en hd1 hn o2) hno h2
  have h4 := u4_tr (u4_uf k3) (u4_uf j3)
  exact ⟨j1, h4, im_make hi hd hd1 hn ho o1 o2 hk (by rw [j2, k2]) h4 (u1_uf j3 (u1_uf k3 hi.1))⟩
theorem G_make_a {p1 p2 p3 : Int32} (hA : AI B J A) : AI B J (A_make B A p1 p2 p3).2.2 := by
  unfold A_make
  split
  · split
    · rename_i e1
      obtain ⟨d, hd, d1, d2, d3⟩ := dk_some (O := A.1.2) (p := p1) (by omega)
      split
      · rename_i hp2
        obtain ⟨n, hn, hn2⟩ := m_below hp2.1 (z := 1000) (by rw [← m_c1000]; exact hp2.2) (by omega)
        split
        · rename_i hea
          subst hd; subst hn
          rw [nI_clamp (by omega)] at hea ⊢
          rw [nI_clamp (by omega)]
          have hen := (ea_m1 hA.2.1.1 hn2).mp hea
          unfold A_make3
          split
          · exact hA
          · rename_i o hf
            obtain ⟨f1, f2, f3⟩ := fr0_spec hf
            unfold A_make4
            split
            · exact hA
            · rename_i T1 h1
              obtain ⟨-, -, -, q⟩ := make_ok (k := if p3 = 0 then 2 else 1) hA (d3.trans e1) d2 hn2 hen f3 f1 (by omega) (by split <;> omega) h1
              split
              · exact hA
              · rename_i T2 h2
                obtain ⟨q1, -, q3⟩ := q T2 h2
                exact AI_im hA q1 q3
        · exact hA
      · exact hA
    · exact hA
  · exact hA
end MK
