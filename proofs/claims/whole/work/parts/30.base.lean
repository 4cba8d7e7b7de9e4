/-! Pure rows for the printed functions: numbers, guards, lists in arrays. -/
theorem m_inb {i n : Nat} (h : i < n) (hn : n < 2 ^ 31) : z_inb (nI i) n = true := by
  unfold z_inb
  exact decide_eq_true (nI_in h hn)
theorem m_ix {i : Nat} (h : i < 2 ^ 31) : z_ix (nI i) = i := nI_clamp h
theorem m_gd {α : Type} {c : Bool} {x : Option α} (h : c = true) : z_gd c x = x := by unfold z_gd; rw [if_pos h]
theorem m_lt {α β : Type} {x : α} {f : α → β} : z_lt x f = f x := rfl
theorem m_bn {r : Int32} {S : z_S} {f : Int32 → z_S → Option (z_O × z_S)} : z_bn (some (.inl (some r), S)) f = f r S := rfl
theorem m_bo {S : z_S} {f : z_S → Option (z_O × z_S)} : z_bo (some (.inl none, S)) f = f S := rfl
theorem m_bi {r : Int32} {S : z_S} {f : Int32 → z_S → Option (z_O × z_S)} : z_bi (some (.inl (some r), S)) f = f r S := rfl
theorem m_bix {E : String} {S : z_S} {f : Int32 → z_S → Option (z_O × z_S)} : z_bi (some (.inr E, S)) f = some (.inr E, S) := rfl
theorem m_bv {S : z_S} {f : z_S → Option (z_O × z_S)} : z_bv (some (.inl none, S)) f = f S := rfl
theorem m_bvx {E : String} {S : z_S} {f : z_S → Option (z_O × z_S)} : z_bv (some (.inr E, S)) f = some (.inr E, S) := rfl
theorem m_cok {a b n n0 n1 : Nat} (h0 : a + n ≤ n0) (h1 : b + n ≤ n1) (hn0 : n0 < 2 ^ 31) (hn1 : n1 < 2 ^ 31) : z_cok (nI a) (nI b) (nI n) n0 n1 = true := by
  unfold z_cok
  refine decide_eq_true ⟨nI_pos (by omega), nI_pos (by omega), nI_pos (by omega), ?_, ?_⟩
  · rw [nI_clamp (by omega), nI_clamp (by omega)]; exact h0
  · rw [nI_clamp (by omega), nI_clamp (by omega)]; exact h1
/-- a place or none: NONE is -1 -/
def oI : Option Nat → Int32
  | none => -1
  | some n => nI n
theorem m_oI_none : oI none = -1 := rfl
theorem m_oI_some {n : Nat} : oI (some n) = nI n := rfl
theorem m_neg1_toInt : (-1 : Int32).toInt = -1 := by decide
theorem m_ne1 {n : Nat} (h : n < 2 ^ 31) : ¬ nI n = -1 := by
  intro e
  have e2 := congrArg Int32.toInt e
  rw [nI_toInt h, m_neg1_toInt] at e2
  omega
theorem m_oI_eq {o : Option Nat} (h : ∀ n, o = some n → n < 2 ^ 31) : oI o = -1 ↔ o = none := by
  cases o with
  | none => simp [oI]
  | some n => simp only [oI]; exact ⟨fun e => absurd e (m_ne1 (h n rfl)), fun e => by cases e⟩
theorem m_lt0 {n : Nat} (h : n < 2 ^ 31) : ¬ nI n < 0 := nI_pos h
theorem m_ge0 {n : Nat} (h : n < 2 ^ 31) : (0 : Int32) ≤ nI n := nI_pos' h
/-- numerals -/
theorem m_n (n : Nat) (h : n < 2 ^ 31) {x : Int32} (hx : x.toInt = n) : x = nI n := by
  apply Int32.toInt_inj.mp
  rw [hx, nI_toInt h]
theorem m_c0 : (0 : Int32) = nI 0 := rfl
theorem m_c1 : (1 : Int32) = nI 1 := rfl
theorem m_c2 : (2 : Int32) = nI 2 := rfl
theorem m_c3 : (3 : Int32) = nI 3 := rfl
theorem m_c4 : (4 : Int32) = nI 4 := rfl
theorem m_c5 : (5 : Int32) = nI 5 := rfl
theorem m_c6 : (6 : Int32) = nI 6 := rfl
theorem m_c7 : (7 : Int32) = nI 7 := rfl
theorem m_c8 : (8 : Int32) = nI 8 := rfl
theorem m_c14 : (14 : Int32) = nI 14 := rfl
theorem m_c16 : (16 : Int32) = nI 16 := rfl
theorem m_c72 : (72 : Int32) = nI 72 := rfl
theorem m_c96 : (96 : Int32) = nI 96 := rfl
theorem m_c120 : (120 : Int32) = nI 120 := rfl
theorem m_c1000 : (1000 : Int32) = nI 1000 := rfl
/-- a list laid in an array from place o on -/
def m_l (f : Nat → Int32) (o : Nat) (L : List Int32) : Prop := ∀ (i : Nat) (x : Int32), L[i]? = some x → f (o + i) = x
theorem m_l_nil {f : Nat → Int32} {o : Nat} : m_l f o [] := fun i x h => by simp at h
theorem m_l_kept {f g : Nat → Int32} {o : Nat} {L : List Int32} (h : m_l f o L) (hg : ∀ i, i < L.length → g (o + i) = f (o + i)) : m_l g o L := fun i x hx => by
  rw [hg i (List.getElem?_eq_some_iff.mp hx).1]
  exact h i x hx
/-- put in by a copy of the rest and a store -/
theorem m_l_ins {f : Nat → Int32} {o i : Nat} {L : List Int32} {x : Int32} (h : m_l f o L) (hi : i ≤ L.length) : m_l (upd (va_cpy f f (o + i) (o + i + 1) (L.length - i)) (o + i) x) o (L.insertIdx i x) := by
  intro j y hy
  rw [List.getElem?_insertIdx] at hy
  by_cases h1 : j < i
  · rw [if_pos h1] at hy
    rw [pk_un (by omega), pk_cpy_out (by omega)]
    exact h j y hy
  · rw [if_neg h1] at hy
    by_cases h2 : j = i
    · subst h2
      rw [if_pos rfl, if_pos hi] at hy
      cases hy
      exact pk_us
    · rw [if_neg h2] at hy
      have hl := (List.getElem?_eq_some_iff.mp hy).1
      rw [pk_un (by omega), pk_cpy_in (by omega) (by omega)]
      have e : o + i + (o + j - (o + i + 1)) = o + (j - 1) := by omega
      rw [e]
      exact h (j - 1) y hy
/-- taken out by a copy of the rest -/
theorem m_l_del {f : Nat → Int32} {o i : Nat} {L : List Int32} (h : m_l f o L) (hi : i < L.length) : m_l (va_cpy f f (o + i + 1) (o + i) (L.length - i - 1)) o (L.eraseIdx i) := by
  intro j y hy
  rw [List.getElem?_eraseIdx] at hy
  by_cases h1 : j < i
  · rw [if_pos h1] at hy
    rw [pk_cpy_out (by omega)]
    exact h j y hy
  · rw [if_neg h1] at hy
    have hl := (List.getElem?_eq_some_iff.mp hy).1
    rw [pk_cpy_in (by omega) (by omega)]
    have e : o + i + 1 + (o + j - (o + i)) = o + (j + 1) := by omega
    rw [e]
    exact h (j + 1) y hy
theorem m_l_set {f : Nat → Int32} {o i : Nat} {L : List Int32} {x : Int32} (h : m_l f o L) : m_l (upd f (o + i) x) o (L.set i x) := by
  intro j y hy
  by_cases h1 : j = i
  · subst h1
    have hl := (List.getElem?_eq_some_iff.mp hy).1
    rw [List.length_set] at hl
    rw [List.getElem?_set_self hl] at hy
    cases hy
    exact pk_us
  · rw [List.getElem?_set_ne (Ne.symm h1)] at hy
    rw [pk_un (by omega)]
    exact h j y hy
/-- the arrays and fields outside one tree stay -/
def m_fr (t : Nat) (S S' : z_S) : Prop := (∀ a, (a ≤ t ∨ t + 11 < a) → S'.1 a = S.1 a) ∧ (∀ a k, ¬ (a = t ∧ k = 12) → S'.2.1 a k = S.2.1 a k) ∧ S'.2.2 = S.2.2
theorem m_fr_rf {t : Nat} {S : z_S} : m_fr t S S := ⟨fun _ _ => rfl, fun _ _ _ => rfl, rfl⟩
theorem m_fr_tr {t : Nat} {S S1 S2 : z_S} (h1 : m_fr t S S1) (h2 : m_fr t S1 S2) : m_fr t S S2 := ⟨fun a h => (h2.1 a h).trans (h1.1 a h), fun a k h => (h2.2.1 a k h).trans (h1.2.1 a k h), h2.2.2.trans h1.2.2⟩
theorem m_fr_ua {t a : Nat} {S : z_S} {f : Nat → Int32} (h : t < a ∧ a ≤ t + 11) : m_fr t S (z_ua S a f) := ⟨fun b hb => by simp only [z_ua, va_up]; rw [if_neg (by omega)], fun _ _ _ => rfl, rfl⟩
theorem m_fr_root {t : Nat} {S : z_S} {v : Int32} : m_fr t S (z_ui S t 12 v) := ⟨fun _ _ => rfl, fun a k h => by
  simp only [z_ui, va_up]
  by_cases ha : a = t
  · subst ha
    rw [if_pos rfl]
    show (if k = 12 then v else S.2.1 a k) = S.2.1 a k
    rw [if_neg (fun e => h ⟨rfl, e⟩)]
  · rw [if_neg ha], rfl⟩
theorem m_ua1 {S : z_S} {a b : Nat} {f : Nat → Int32} : (z_ua S a f).1 b = if b = a then f else S.1 b := rfl
theorem m_ua2 {S : z_S} {a : Nat} {f : Nat → Int32} : (z_ua S a f).2 = S.2 := rfl
theorem m_ui1 {S : z_S} {a k : Nat} {v : Int32} : (z_ui S a k v).1 = S.1 := rfl
theorem m_ui2 {S : z_S} {a k b j : Nat} {v : Int32} : (z_ui S a k v).2.1 b j = if b = a then (if j = k then v else S.2.1 a j) else S.2.1 b j := by
  simp only [z_ui, va_up]
  by_cases h : b = a
  · rw [if_pos h, if_pos h]; rfl
  · rw [if_neg h, if_neg h]
