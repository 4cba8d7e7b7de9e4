/-! The class's tree over lists: what its arrays hold, and its smallest methods. -/
/-- an item: key, bytes of its body, the object that it tells -/
abbrev m_It : Type := Nat × Nat × Option Nat
/-- a tree: of each block its use, height, items, children, parent; the rows by height; the root -/
abbrev m_T : Type := (Nat → Nat) × (Nat → Nat) × (Nat → List m_It) × (Nat → List Nat) × (Nat → Option Nat) × (Nat → List Nat) × Nat
def tU (T : m_T) : Nat → Nat := T.1
def tH (T : m_T) : Nat → Nat := T.2.1
def tI (T : m_T) : Nat → List m_It := T.2.2.1
def tK (T : m_T) : Nat → List Nat := T.2.2.2.1
def tP (T : m_T) : Nat → Option Nat := T.2.2.2.2.1
def tR (T : m_T) : Nat → List Nat := T.2.2.2.2.2.1
def tX (T : m_T) : Nat := T.2.2.2.2.2.2
def tsI (T : m_T) (b : Nat) (L : List m_It) : m_T := (T.1, T.2.1, va_up T.2.2.1 b L, T.2.2.2)
def tsK (T : m_T) (b : Nat) (L : List Nat) : m_T := (T.1, T.2.1, T.2.2.1, va_up T.2.2.2.1 b L, T.2.2.2.2)
def tsP (T : m_T) (b : Nat) (p : Option Nat) : m_T := (T.1, T.2.1, T.2.2.1, T.2.2.2.1, va_up T.2.2.2.2.1 b p, T.2.2.2.2.2)
def tsR (T : m_T) (h : Nat) (L : List Nat) : m_T := (T.1, T.2.1, T.2.2.1, T.2.2.2.1, T.2.2.2.2.1, va_up T.2.2.2.2.2.1 h L, T.2.2.2.2.2.2)
def tsX (T : m_T) (r : Nat) : m_T := (T.1, T.2.1, T.2.2.1, T.2.2.2.1, T.2.2.2.2.1, T.2.2.2.2.2.1, r)
def tsU (T : m_T) (b u : Nat) : m_T := (va_up T.1 b u, T.2)
def tsH (T : m_T) (b h : Nat) : m_T := (T.1, va_up T.2.1 b h, T.2.2)
def m_cost (L : List m_It) : Nat := (L.map fun x => 8 + x.2.1).sum
/-- the neighbours in a row -/
def m_nx : List Nat → Nat → Option Nat
  | a :: b :: L, x => if x = a then some b else m_nx (b :: L) x
  | _, _ => none
def m_pv : List Nat → Nat → Option Nat
  | a :: b :: L, x => if x = b then some a else m_pv (b :: L) x
  | _, _ => none
/-- a leaf, an inner node, a tree in the class's arrays -/
def c_lf (t : Nat) (S : z_S) (b : Nat) (L : List m_It) : Prop := S.1 (t + 3) b = nI L.length ∧ S.1 (t + 4) b = nI (m_cost L) ∧ m_l (S.1 (t + 9)) (b * 14) (L.map fun x => nI x.1) ∧ m_l (S.1 (t + 10)) (b * 14) (L.map fun x => nI x.2.1) ∧ m_l (S.1 (t + 11)) (b * 14) (L.map fun x => oI x.2.2) ∧ L.length ≤ 14
def c_in (t : Nat) (S : z_S) (b : Nat) (L : List Nat) : Prop := S.1 (t + 3) b = nI L.length ∧ S.1 (t + 4) b = nI 0 ∧ m_l (S.1 (t + 8)) (b * 6) (L.map nI) ∧ L.length ≤ 6
def c_nd (t : Nat) (S : z_S) (T : m_T) (b : Nat) : Prop := S.1 (t + 2) b = nI (tH T b) ∧ S.1 (t + 5) b = oI (tP T b) ∧ S.1 (t + 6) b = oI (m_pv (tR T (tH T b)) b) ∧ S.1 (t + 7) b = oI (m_nx (tR T (tH T b)) b)
def c_T (B t : Nat) (S : z_S) (T : m_T) : Prop :=
  S.2.1 t 0 = nI B ∧ S.2.1 t 12 = nI (tX T) ∧ (∀ b, b < B → S.1 (t + 1) b = nI (tU T b)) ∧ (∀ b, b < B → tU T b = 2 → c_lf t S b (tI T b)) ∧ (∀ b, b < B → tU T b = 3 → c_in t S b (tK T b)) ∧ (∀ b, b < B → (tU T b = 2 ∨ tU T b = 3) → c_nd t S T b)
theorem m_cost_ins {L : List m_It} {i : Nat} {x : m_It} (h : i ≤ L.length) : m_cost (L.insertIdx i x) = m_cost L + (8 + x.2.1) := by
  induction L generalizing i with
  | nil =>
    have : i = 0 := by simpa using h
    subst this
    simp [m_cost]
  | cons a L ih =>
    cases i with
    | zero => simp [m_cost]; omega
    | succ i =>
      have := ih (i := i) (by simpa using h)
      simp only [m_cost, List.insertIdx_succ_cons, List.map_cons, List.sum_cons] at this ⊢
      omega
theorem m_cost_del {L : List m_It} {i : Nat} {x : m_It} (h : L[i]? = some x) : m_cost (L.eraseIdx i) + (8 + x.2.1) = m_cost L := by
  induction L generalizing i with
  | nil => simp at h
  | cons a L ih =>
    cases i with
    | zero =>
      have : a = x := by simpa using h
      subst this
      simp [m_cost]; omega
    | succ i =>
      have := ih (i := i) (by simpa using h)
      simp only [m_cost, List.eraseIdx_cons_succ, List.map_cons, List.sum_cons] at this ⊢
      omega
theorem m_map_ins {α β : Type} (g : α → β) (L : List α) (i : Nat) (x : α) : (L.insertIdx i x).map g = (L.map g).insertIdx i (g x) := by
  induction L generalizing i with
  | nil => cases i <;> simp
  | cons a L ih =>
    cases i with
    | zero => simp
    | succ i => simp [ih]
theorem m_map_del {α β : Type} (g : α → β) (L : List α) (i : Nat) : (L.eraseIdx i).map g = (L.map g).eraseIdx i := by
  induction L generalizing i with
  | nil => simp
  | cons a L ih =>
    cases i with
    | zero => simp
    | succ i => simp [ih]
theorem m_ins_far {f : Nat → Int32} {o i n j : Nat} {x : Int32} (h : j < o + i ∨ o + n + 1 ≤ j) (hi : i ≤ n) : upd (va_cpy f f (o + i) (o + i + 1) (n - i)) (o + i) x j = f j := by
  rw [pk_un (by omega), pk_cpy_out (by omega)]
theorem m_del_far {f : Nat → Int32} {o i n j : Nat} (h : j < o + i ∨ o + n ≤ j) (hi : i < n) : va_cpy f f (o + i + 1) (o + i) (n - i - 1) j = f j := by
  rw [pk_cpy_out (by omega)]
section CT
variable {B t : Nat} {S : z_S} {T : m_T}
theorem C_openSlot0 {l i n k bd : Nat} {tl : Int32} (hB : B ≤ 96) (hl : l < B) (h3 : S.1 (t + 3) l = nI n) (hi : i ≤ n) (hn : n < 14) {u : Nat} (h4 : S.1 (t + 4) l = nI u) :
    ∃ S', F_X4_openSlot B t (nI l) (nI i) (nI k) (nI bd) tl S = some (.inl none, S') ∧ S'.1 (t + 9) = upd (va_cpy (S.1 (t + 9)) (S.1 (t + 9)) (l * 14 + i) (l * 14 + i + 1) (n - i)) (l * 14 + i) (nI k) ∧ S'.1 (t + 10) = upd (va_cpy (S.1 (t + 10)) (S.1 (t + 10)) (l * 14 + i) (l * 14 + i + 1) (n - i)) (l * 14 + i) (nI bd) ∧ S'.1 (t + 11) = upd (va_cpy (S.1 (t + 11)) (S.1 (t + 11)) (l * 14 + i) (l * 14 + i + 1) (n - i)) (l * 14 + i) tl ∧
      S'.1 (t + 3) = upd (S.1 (t + 3)) l (nI (n + 1)) ∧ S'.1 (t + 4) = upd (S.1 (t + 4)) l (nI (u + (8 + bd))) ∧ (∀ a, a ≠ t + 3 → a ≠ t + 4 → a ≠ t + 9 → a ≠ t + 10 → a ≠ t + 11 → S'.1 a = S.1 a) ∧ S'.2 = S.2 := by
  have hA : z_inb (nI l) B = true := m_inb hl (by omega)
  have hx : nI l * 14 + nI i = nI (l * 14 + i) := by rw [m_c14, pk_mul, nI_add]
  have hx1 : nI (l * 14 + i) + 1 = nI (l * 14 + i + 1) := nI_1 _
  have hs : nI n - nI i = nI (n - i) := pk_sub hi
  have g1 : ¬ nI i < 0 := m_lt0 (by omega)
  have g2 : ¬ nI (n - i) < 0 := m_lt0 (by omega)
  have g3 : nI n < 14 := by rw [m_c14]; exact nI_lt hn (by omega)
  have hc : z_cok (nI (l * 14 + i)) (nI (l * 14 + i + 1)) (nI (n - i)) (14 * B) (14 * B) = true := m_cok (by omega) (by omega) (by omega) (by omega)
  have hj : z_inb (nI (l * 14 + i)) (14 * B) = true := m_inb (by omega) (by omega)
  have x1 : (nI l).toNatClampNeg = l := nI_clamp (by omega)
  have x2 : (nI (l * 14 + i)).toNatClampNeg = l * 14 + i := nI_clamp (by omega)
  have x3 : (nI (l * 14 + i + 1)).toNatClampNeg = l * 14 + i + 1 := nI_clamp (by omega)
  have x4 : (nI (n - i)).toNatClampNeg = n - i := nI_clamp (by omega)
  have y1 : nI n + 1 = nI (n + 1) := nI_1 n
  have y2 : nI u + (8 + nI bd) = nI (u + (8 + bd)) := by rw [m_c8, nI_add, nI_add]
  refine ⟨_, by simp only [F_X4_openSlot, z_lt, z_gd, hA, h3, h4, hx, hx1, hs, g1, g2, g3, hc, hj, x1, x2, x3, x4, m_ua1, Nat.add_left_cancel_iff, if_true, if_false, Nat.reduceEqDiff, y1, y2]; rfl, ?_⟩
  refine ⟨?_, ?_, ?_, ?_, ?_, fun a a1 a2 a3 a4 a5 => ?_, rfl⟩
  · simp [m_ua1]
  · simp [m_ua1]
  · simp [m_ua1]
  · simp [m_ua1]
  · simp [m_ua1]
  · simp [m_ua1, a1, a2, a3, a4, a5]
theorem C_openSlot {l i : Nat} {x : m_It} (hB : B ≤ 96) (h : c_T B t S T) (hl : l < B) (hu : tU T l = 2) (hi : i ≤ (tI T l).length) (hn : (tI T l).length < 14) :
    ∃ S', F_X4_openSlot B t (nI l) (nI i) (nI x.1) (nI x.2.1) (oI x.2.2) S = some (.inl none, S') ∧ c_T B t S' (tsI T l ((tI T l).insertIdx i x)) ∧ m_fr t S S' := by
  obtain ⟨h0, h12, hU, hL, hN, hD⟩ := h
  obtain ⟨l3, l4, l9, l10, l11, -⟩ := hL l hl hu
  obtain ⟨S', hF, f9, f10, f11, f3, f4, fo, f2⟩ := C_openSlot0 (k := x.1) (bd := x.2.1) (tl := oI x.2.2) hB hl l3 hi hn l4
  refine ⟨S', hF, ⟨?_, ?_, fun b hb => ?_, fun b hb hub => ?_, fun b hb hub => ?_, fun b hb hub => ?_⟩, fun a ha => fo a (by omega) (by omega) (by omega) (by omega) (by omega), fun a k _ => by rw [f2], by rw [f2]⟩
  · rw [f2]; exact h0
  · rw [f2]; exact h12
  · rw [fo (t + 1) (by omega) (by omega) (by omega) (by omega) (by omega)]; exact hU b hb
  · have hub2 : tU T b = 2 := hub
    by_cases hbl : b = l
    · subst hbl
      have e : tI (tsI T b ((tI T b).insertIdx i x)) b = (tI T b).insertIdx i x := by simp [tI, tsI, va_up]
      rw [e]
      have hlen : ((tI T b).insertIdx i x).length = (tI T b).length + 1 := List.length_insertIdx_of_le_length hi x
      refine ⟨?_, ?_, ?_, ?_, ?_, by omega⟩
      · rw [f3, pk_us, hlen]
      · rw [f4, pk_us, m_cost_ins hi]
      · rw [f9, m_map_ins]
        have := m_l_ins (x := nI x.1) (i := i) l9 (by simpa using hi)
        simpa using this
      · rw [f10, m_map_ins]
        have := m_l_ins (x := nI x.2.1) (i := i) l10 (by simpa using hi)
        simpa using this
      · rw [f11, m_map_ins]
        have := m_l_ins (x := oI x.2.2) (i := i) l11 (by simpa using hi)
        simpa using this
    · have e : tI (tsI T l ((tI T l).insertIdx i x)) b = tI T b := by simp [tI, tsI, va_up, hbl]
      rw [e]
      obtain ⟨q3, q4, q9, q10, q11, qn⟩ := hL b hb hub2
      refine ⟨?_, ?_, m_l_kept q9 (fun j hj => ?_), m_l_kept q10 (fun j hj => ?_), m_l_kept q11 (fun j hj => ?_), qn⟩
      · rw [f3, pk_un hbl]; exact q3
      · rw [f4, pk_un hbl]; exact q4
      · rw [f9]; rw [List.length_map] at hj; exact m_ins_far (by omega) hi
      · rw [f10]; rw [List.length_map] at hj; exact m_ins_far (by omega) hi
      · rw [f11]; rw [List.length_map] at hj; exact m_ins_far (by omega) hi
  · have hub2 : tU T b = 3 := hub
    have hbl : b ≠ l := fun e => by rw [e, hu] at hub2; cases hub2
    obtain ⟨q3, q4, q8, qn⟩ := hN b hb hub2
    refine ⟨?_, ?_, ?_, qn⟩
    · rw [f3, pk_un hbl]; exact q3
    · rw [f4, pk_un hbl]; exact q4
    · rw [fo (t + 8) (by omega) (by omega) (by omega) (by omega) (by omega)]; exact q8
  · obtain ⟨q2, q5, q6, q7⟩ := hD b hb hub
    refine ⟨?_, ?_, ?_, ?_⟩
    · rw [fo (t + 2) (by omega) (by omega) (by omega) (by omega) (by omega)]; exact q2
    · rw [fo (t + 5) (by omega) (by omega) (by omega) (by omega) (by omega)]; exact q5
    · rw [fo (t + 6) (by omega) (by omega) (by omega) (by omega) (by omega)]; exact q6
    · rw [fo (t + 7) (by omega) (by omega) (by omega) (by omega) (by omega)]; exact q7
end CT
