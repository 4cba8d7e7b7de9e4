/-! Whether a directory lies within an object: holds, above, isWithin. -/
def w_in (O : m_O) (o : Nat) : Nat → Nat → Bool
  | 0, _ => false
  | n + 1, t => if t = o then true else match oU O t with
    | none => false
    | some u => w_in O o n u
section WI
variable {B J : Nat} {S S' S0 : z_S} {A : m_A} {T T1 T2 : m_T} {O O' : m_O} {f f' : Nat → Int32}
theorem w_in_path {o : Nat} : ∀ {L : List Nat} {t n : Nat}, m_path O t L → L.length ≤ n → w_in O o n t = decide (o ∈ L)
  | [], _, _, h, _ => h.elim
  | [a], t, n, h, hn => by
    obtain ⟨h1, h2⟩ := h
    obtain ⟨n, rfl⟩ : ∃ j, n = j + 1 := ⟨n - 1, by simp at hn; omega⟩
    rw [w_in, h2, h1]
    by_cases e : t = o
    · rw [if_pos e]; simp [e]
    · rw [if_neg e]; simp; exact Ne.symm e
  | a :: b :: L, t, n, h, hn => by
    obtain ⟨h1, h2, h3⟩ := h
    obtain ⟨n, rfl⟩ : ∃ j, n = j + 1 := ⟨n - 1, by simp at hn; omega⟩
    rw [w_in, h2, h1]
    by_cases e : t = o
    · rw [if_pos e]; simp [e]
    · rw [if_neg e]
      simp only []
      rw [w_in_path h3 (by simp at hn ⊢; omega), decide_eq_decide, List.mem_cons (a := o) (b := t)]
      exact ⟨Or.inr, fun w => w.resolve_left (Ne.symm e)⟩
theorem path_few {t : Nat} (hi : m_im B T O) (ht : oK O t = 1) : ∃ L, m_path O t L ∧ (∀ d ∈ L, oK O d = 1 ∧ 1 ≤ d ∧ d ≤ 60) ∧ L.length ≤ 60 := by
  obtain ⟨L, p1, p2, p3⟩ := hi.2.2.2.2.2.2.2.2.2.2.2.2.2.2.1 t ht
  have hr : ∀ d ∈ L, oK O d = 1 ∧ 1 ≤ d ∧ d ≤ 60 := fun d hd => by
    have := p3 d hd
    refine ⟨this, ?_, ?_⟩
    · by_cases e : d = 0
      · rw [hi.2.2.2.1 d (Or.inl e)] at this; cases this
      · omega
    · by_cases e : 60 < d
      · rw [hi.2.2.2.1 d (Or.inr e)] at this; cases this
      · omega
  refine ⟨L, p1, hr, ?_⟩
  have := l_few (n := 61) (L := 0 :: L) (List.nodup_cons.mpr ⟨fun h => by have := (hr 0 h).2.1; omega, p2⟩) (fun x hx => by
    rcases List.mem_cons.mp hx with w | w
    · omega
    · have := (hr x w).2.2; omega)
  rw [List.length_cons] at this
  omega
theorem C_holds_loop {o : Nat} (ho : o < 2 ^ 31) (h : c_O B 1 S T O) : ∀ (L : List Nat) (t n k : Nat), k + L.length ≤ 60 → L.length < n → m_path O t L → (∀ d ∈ L, oK O d = 1 ∧ 1 ≤ d ∧ d ≤ 60) → F_X2_holds_5 B 14 n (nI o) (nI t) (nI k) S = some (.inl (some (if o ∈ L then 1 else 0)), S)
  | [], _, _, _, _, _, hp, _ => hp.elim
  | [a], t, n, k, hk, hn, hp, hd => by
    simp only [List.length_singleton] at hk hn
    obtain ⟨n, rfl⟩ : ∃ j, n = j + 2 := ⟨n - 2, by omega⟩
    obtain ⟨h1, h2⟩ := hp
    subst h1
    obtain ⟨d1, d2, d3⟩ := hd a List.mem_cons_self
    have e18 : S.1 (14 + 4) a = oI none := by rw [← h2]; exact h.2.2.1 a d2 d3 d1
    rw [F_X2_holds_5, if_neg (by rw [m_c60]; exact nI_ge (by omega) (by omega)), if_neg (m_ne1 (by omega))]
    by_cases e : a = o
    · rw [if_pos (by rw [e]), m_gd (by decide), if_pos (by rw [e]; exact List.mem_cons_self)]
    · rw [if_neg (fun z => e ((nI_eq (by omega) ho).mp z)), m_gd (m_inb (by omega) (by omega)), m_lt, m_ix (i := a) (by omega), e18, nI_1, F_X2_holds_5]
      rw [if_neg (show ¬ o ∈ [a] by simp; exact Ne.symm e)]
      by_cases e6 : (60 : Int32) ≤ nI (k + 1)
      · rw [if_pos e6, F_X2_holds_37, m_gd (by decide)]
      · rw [if_neg e6, if_pos (show oI none = -1 from rfl), F_X2_holds_37, m_gd (by decide)]
  | a :: b :: L, t, n, k, hk, hn, hp, hd => by
    simp only [List.length_cons] at hk hn
    obtain ⟨n, rfl⟩ : ∃ j, n = j + 1 := ⟨n - 1, by omega⟩
    obtain ⟨h1, h2, h3⟩ := hp
    subst h1
    obtain ⟨d1, d2, d3⟩ := hd a List.mem_cons_self
    have e18 : S.1 (14 + 4) a = nI b := by
      have : S.1 (14 + 4) a = oI (oU O a) := h.2.2.1 a d2 d3 d1
      rw [this, h2]; rfl
    rw [F_X2_holds_5, if_neg (by rw [m_c60]; exact nI_ge (by omega) (by omega)), if_neg (m_ne1 (by omega))]
    by_cases e : a = o
    · rw [if_pos (by rw [e]), m_gd (by decide), if_pos (by rw [e]; exact List.mem_cons_self)]
    · have ih := C_holds_loop ho h (b :: L) b n (k + 1) (by simp only [List.length_cons]; omega) (by simp only [List.length_cons]; omega) h3 (fun d w => hd d (List.mem_cons_of_mem _ w))
      rw [if_neg (fun z => e ((nI_eq (by omega) ho).mp z)), m_gd (m_inb (by omega) (by omega)), m_lt, m_ix (i := a) (by omega), e18, nI_1, ih]
      by_cases w : o ∈ b :: L
      · rw [if_pos w, if_pos (List.mem_cons_of_mem _ w)]
      · rw [if_neg w, if_neg (fun z => by rcases List.mem_cons.mp z with q | q; exact e q.symm; exact w q)]
theorem C_holds {o t : Nat} (hi : m_im B T O) (h : c_O B 1 S T O) (ho : o ≤ 60) (ht : oK O t = 1) : F_X2_holds B 14 (nI o) (nI t) S = some (.inl (some (if w_in O o 60 t = true then 1 else 0)), S) := by
  obtain ⟨L, p1, p2, p3⟩ := path_few hi ht
  have := C_holds_loop (B := B) (o := o) (by omega) h L t z_n 0 (by omega) (by unfold z_n; omega) p1 p2
  have this' : F_X2_holds B 14 (nI o) (nI t) S = _ := this
  rw [this', w_in_path p1 p3]
  by_cases e : o ∈ L
  · rw [if_pos e, if_pos (decide_eq_true e)]
  · rw [if_neg e, if_neg (fun z => e (of_decide_eq_true z))]
/-- items told of -/
def m_tell (t : Nat) (y : m_It) : Bool := decide (y.1 / 1000 % 4 = 1 ∧ y.2.2 = some t)
theorem K_above_in {t l i : Nat} {k2 : Int32 → Int32 → z_S → Option (z_O × z_S)} (hB : B ≤ 96) (hT : k_T B 0 0 (S.1 61) T) (hl : l < B) (ul : tU T l = 2) (t1 : 1 ≤ t) (t2 : t ≤ 60) (hb : ∀ z ∈ tI T l, m_ig z) : ∀ (m n j : Nat), j + m = (tI T l).length → m < n →
    (∀ y, ((tI T l).drop j).find? (m_tell t) = some y → F_X6_above_28 B k2 n (nI t) (nI i) (nI l) (nI j) S = some (.inl (some (nI (y.1 / 4000))), S)) ∧ (((tI T l).drop j).find? (m_tell t) = none → F_X6_above_28 B k2 n (nI t) (nI i) (nI l) (nI j) S = k2 (nI t) (nI (i + 1)) S)
  | 0, n, j, hj, hn => by
    obtain ⟨n, rfl⟩ : ∃ j, n = j + 1 := ⟨n - 1, by omega⟩
    have ln : (tI T l).length ≤ 16 := (hT.2.2.1 l hl ul).2.2
    have e2 : (3852 : Int32) + nI l = nI (3852 + l) := by rw [m_c3852, nI_add]
    have ed : (tI T l).drop j = [] := List.drop_eq_nil_of_le (by omega)
    rw [ed, F_X6_above_28, e2, m_gd (m_inb (by omega) (by omega)), m_lt, m_ix (by omega), K_cntL hT hl ul, if_pos (nI_le (by omega) (by omega)), nI_1]
    exact ⟨fun y hy => by simp at hy, fun _ => rfl⟩
  | m + 1, n, j, hj, hn => by
    obtain ⟨n, rfl⟩ : ∃ j, n = j + 1 := ⟨n - 1, by omega⟩
    have ln : (tI T l).length ≤ 16 := (hT.2.2.1 l hl ul).2.2
    have e2 : (3852 : Int32) + nI l = nI (3852 + l) := by rw [m_c3852, nI_add]
    have hjl : j < (tI T l).length := by omega
    have ed : (tI T l).drop j = (tI T l)[j] :: (tI T l).drop (j + 1) := List.drop_eq_getElem_cons hjl
    have hy : (tI T l)[j]? = some (tI T l)[j] := List.getElem?_eq_getElem hjl
    have at' : ∀ a, a < 5 → S.1 61 (4620 + 1536 * a + (16 * l + j)) = k_c a (tI T l)[j] := fun a ha => (hT.2.2.1 l hl ul).2.1 a ha j _ (by rw [List.getElem?_map, hy]; rfl)
    have hyb := hb _ (List.getElem_mem hjl)
    generalize (tI T l)[j] = y at ed at' hyb
    have a0 : S.1 61 (4620 + 16 * l + j) = nI (y.1 / 4000) := by rw [show 4620 + 16 * l + j = 4620 + 1536 * 0 + (16 * l + j) by omega]; exact at' 0 (by omega)
    have a1 : S.1 61 (6156 + 16 * l + j) = nI (y.1 / 1000 % 4) := by rw [show 6156 + 16 * l + j = 4620 + 1536 * 1 + (16 * l + j) by omega]; exact at' 1 (by omega)
    have a4 : S.1 61 (10764 + 16 * l + j) = nI (y.2.2.getD 0) := by rw [show 10764 + 16 * l + j = 4620 + 1536 * 4 + (16 * l + j) by omega]; exact at' 4 (by omega)
    have x0 : (4620 : Int32) + 16 * nI l + nI j = nI (4620 + 16 * l + j) := by rw [m_c4620, m_c16, pk_mul, nI_add, nI_add]
    have x1 : (6156 : Int32) + 16 * nI l + nI j = nI (6156 + 16 * l + j) := by rw [m_c6156, m_c16, pk_mul, nI_add, nI_add]
    have x4 : (10764 : Int32) + 16 * nI l + nI j = nI (10764 + 16 * l + j) := by rw [show (10764 : Int32) = nI 10764 from rfl, m_c16, pk_mul, nI_add, nI_add]
    have ih := K_above_in (k2 := k2) (i := i) hB hT hl ul t1 t2 hb m n (j + 1) (by omega) (by omega)
    have gd : y.2.2.getD 0 < 61 := by
      cases hq : y.2.2 with
      | none => show 0 < 61; omega
      | some q => exact hyb.2.2.2 q hq
    rw [ed, List.find?_cons]
    rw [F_X6_above_28, e2, m_gd (m_inb (by omega) (by omega)), m_lt, m_ix (i := 3852 + l) (by omega), K_cntL hT hl ul, if_neg (nI_ge hjl (by omega)), x1, m_gd (m_inb (by omega) (by omega)), m_lt, m_ix (i := 6156 + 16 * l + j) (by omega), a1]
    by_cases c1 : y.1 / 1000 % 4 = 1
    · rw [if_pos (by rw [c1]; rfl), x4, m_gd (m_inb (by omega) (by omega)), m_lt, m_ix (i := 10764 + 16 * l + j) (by omega), a4]
      by_cases c2 : y.2.2 = some t
      · have ht : m_tell t y = true := decide_eq_true ⟨c1, c2⟩
        rw [ht, if_pos (by rw [c2]; rfl), x0, m_gd (m_inb (by omega) (by omega)), m_lt, m_ix (i := 4620 + 16 * l + j) (by omega), a0]
        exact ⟨fun z hz => by rw [Option.some.inj hz], fun z => (by cases z)⟩
      · have ht : m_tell t y = false := decide_eq_false (fun w => c2 w.2)
        have g : ¬ nI (y.2.2.getD 0) = nI t := fun z => by
          have := (nI_eq (by omega) (by omega)).mp z
          cases hq : y.2.2 with
          | none => rw [hq] at this; have : 0 = t := this; omega
          | some q => rw [hq] at this; have : q = t := this; exact c2 (by rw [hq, this])
        rw [ht, if_neg g, F_X6_above_100, nI_1]
        exact ih
    · have ht : m_tell t y = false := decide_eq_false (fun w => c1 w.1)
      have c1' : ¬ nI (y.1 / 1000 % 4) = 1 := fun z => c1 ((nI_eq (by omega) (by omega)).mp (z.trans m_c1))
      rw [ht, if_neg c1', F_X6_above_100, nI_1]
      exact ih
theorem K_above_loop {t : Nat} (hB : B ≤ 96) (h : m_ok B T) (hT : k_T B 0 0 (S.1 61) T) (t1 : 1 ≤ t) (t2 : t ≤ 60) : ∀ (L pre : List Nat) (n : Nat), tR T 0 = pre ++ L → L.length < n → F_X6_above_2 B n (nI t) (nI pre.length) S = some (.inl (some (oI (((L.flatMap (tI T)).find? (m_tell t)).map (fun y => y.1 / 4000)))), S)
  | [], pre, n, hR, hn => by
    obtain ⟨n, rfl⟩ : ∃ j, n = j + 1 := ⟨n - 1, by omega⟩
    obtain ⟨r1, r2, r3⟩ := hT.2.2.2.2.2.1 0 (by omega)
    have r1' : S.1 61 13068 = nI pre.length := by rw [List.append_nil] at hR; rw [← hR]; exact r1
    have hl : pre.length ≤ 96 := by rw [List.append_nil] at hR; rw [← hR]; exact r3
    rw [F_X6_above_2, m_gd (by decide), m_lt, show z_ix (13068 : Int32) = 13068 from m_ix (i := 13068) (by omega), r1', if_pos (nI_le (Nat.le_refl _) (by omega))]
    rfl
  | l :: L, pre, n, hR, hn => by
    obtain ⟨n, rfl⟩ : ∃ j, n = j + 1 := ⟨n - 1, by omega⟩
    rw [List.length_cons] at hn
    have hbm : l ∈ tR T 0 := by rw [hR]; simp
    obtain ⟨b1, b2, b3, b4, b5⟩ := ok_row h l hbm
    obtain ⟨r1, r2, r3⟩ := hT.2.2.2.2.2.1 0 (by omega)
    have hbi : (tR T 0)[pre.length]? = some l := by rw [hR]; simp
    have hil : pre.length < (tR T 0).length := (List.getElem?_eq_some_iff.mp hbi).1
    have eb : S.1 61 (12300 + pre.length) = nI l := by
      have := r2 pre.length (nI l) (by rw [List.getElem?_map, hbi]; rfl)
      simpa using this
    have r1' : S.1 61 13068 = nI (tR T 0).length := r1
    have e1 : (12300 : Int32) + nI pre.length = nI (12300 + pre.length) := by rw [m_c12300, nI_add]
    have ln : (tI T l).length ≤ 16 := (hT.2.2.1 l b1 b2).2.2
    obtain ⟨i1, i2⟩ := K_above_in (S := S) (t := t) (l := l) (i := pre.length) (k2 := F_X6_above_2 B n) hB hT b1 b2 t1 t2 (fl_ig h.2.2.1 hbm) (tI T l).length z_n 0 (by omega) (by unfold z_n; omega)
    rw [List.drop_zero] at i1 i2
    rw [F_X6_above_2, m_gd (by decide), m_lt, show z_ix (13068 : Int32) = 13068 from m_ix (i := 13068) (by omega), r1', if_neg (nI_ge hil (by omega)), e1, m_gd (m_inb (by omega) (by omega)), m_lt, m_ix (i := 12300 + pre.length) (by omega), eb]
    rw [List.flatMap_cons, List.find?_append]
    cases hf : (tI T l).find? (m_tell t) with
    | some y =>
      have := i1 y hf
      have this' : F_X6_above_28 B (F_X6_above_2 B n) z_n (nI t) (nI pre.length) (nI l) 0 S = _ := this
      rw [this']; rfl
    | none =>
      have := i2 hf
      have this' : F_X6_above_28 B (F_X6_above_2 B n) z_n (nI t) (nI pre.length) (nI l) 0 S = _ := this
      rw [this']
      have ih := K_above_loop hB h hT t1 t2 L (pre ++ [l]) n (by rw [hR]; simp) (by omega)
      rw [List.length_append, List.length_singleton] at ih
      rw [ih]; rfl
theorem K_above {t : Nat} (hB : B ≤ 96) (h : m_ok B T) (hi : m_im B T O) (hT : k_T B 0 0 (S.1 61) T) (ht : oK O t = 1) (t1 : 1 ≤ t) (t2 : t ≤ 60) : F_X6_above B (nI t) S = some (.inl (some (oI (oU O t))), S) := by
  have hlen := sk_len h.1 (h := 0)
  have := K_above_loop (S := S) hB h hT t1 t2 (tR T 0) [] z_n rfl (by unfold z_n; omega)
  have this' : F_X6_above B (nI t) S = some (.inl (some (oI (((flat T).find? (m_tell t)).map (fun y => y.1 / 4000)))), S) := this
  rw [this']
  congr 4
  cases hf : (flat T).find? (m_tell t) with
  | some y =>
    have hm := List.mem_of_find?_eq_some hf
    have hp := List.find?_some hf
    have hp' := (of_decide_eq_true hp).2
    rw [hi.2.2.2.2.2.2.2.2.2.2.2.2.2.1 y hm t hp' ht]; rfl
  | none =>
    by_cases e : t = 1
    · rw [e, hi.2.2.2.2.2.2.2.2.2.2.2.2.1]; rfl
    · have hn := hi.2.2.2.2.2.2.2.2.2.2.2.1 t ht
      rw [if_neg e] at hn
      have : m_nT (flat T) t = 0 := cp_0 (fun y hy => by
        have h1 := List.find?_eq_none.mp hf y hy
        apply decide_eq_false
        intro w
        apply h1
        have hit := hi.2.2.2.2.1 y hy
        have hc : y.1 / 1000 % 4 = 1 := by
          obtain q | q | q | q : y.1 / 1000 % 4 = 0 ∨ y.1 / 1000 % 4 = 1 ∨ y.1 / 1000 % 4 = 2 ∨ y.1 / 1000 % 4 = 3 := by omega
          · have := congrArg (fun z : m_It => z.2.2) (hit.2.2.1 q)
            simp only [] at this
            rw [w] at this; cases this
          · exact q
          · have := congrArg (fun z : m_It => z.2.2) (hit.2.2.2.2.1 q).2
            simp only [] at this
            rw [w] at this; cases this
          · have := congrArg (fun z : m_It => z.2.2) (hit.2.2.2.2.2 q).2
            simp only [] at this
            rw [w] at this; cases this
        exact decide_eq_true ⟨hc, w⟩)
      omega
theorem K_within_loop {o : Nat} (ho : o < 2 ^ 31) (hB : B ≤ 96) (h : m_ok B T) (hi : m_im B T O) (hT : k_T B 0 0 (S.1 61) T) : ∀ (L : List Nat) (t n : Nat), L.length < n → m_path O t L → (∀ d ∈ L, oK O d = 1 ∧ 1 ≤ d ∧ d ≤ 60) → F_X6_isWithin_2 B n (nI o) (nI t) S = some (.inl (some (if o ∈ L then 1 else 0)), S)
  | [], _, _, _, hp, _ => hp.elim
  | [a], t, n, hn, hp, hd => by
    simp only [List.length_singleton] at hn
    obtain ⟨n, rfl⟩ : ∃ j, n = j + 2 := ⟨n - 2, by omega⟩
    obtain ⟨h1, h2⟩ := hp
    subst h1
    obtain ⟨d1, d2, d3⟩ := hd a List.mem_cons_self
    rw [F_X6_isWithin_2, if_neg (m_ne1 (by omega))]
    by_cases e : a = o
    · rw [if_pos (by rw [e]), F_X6_isWithin_21, if_pos (by rw [e]), F_X6_isWithin_31, m_gd (by decide), if_pos (by rw [e]; exact List.mem_cons_self)]
    · rw [if_neg (fun z => e ((nI_eq (by omega) ho).mp z)), K_above hB h hi hT d1 d2 d3, m_bn, h2, F_X6_isWithin_2, if_pos (show oI none = -1 from rfl), F_X6_isWithin_21, if_neg (fun z => m_ne1 ho (z.symm.trans (show oI none = -1 from rfl))), F_X6_isWithin_31, m_gd (by decide), if_neg (show ¬ o ∈ [a] by simp; exact Ne.symm e)]
  | a :: b :: L, t, n, hn, hp, hd => by
    simp only [List.length_cons] at hn
    obtain ⟨n, rfl⟩ : ∃ j, n = j + 1 := ⟨n - 1, by omega⟩
    obtain ⟨h1, h2, h3⟩ := hp
    subst h1
    obtain ⟨d1, d2, d3⟩ := hd a List.mem_cons_self
    rw [F_X6_isWithin_2, if_neg (m_ne1 (by omega))]
    by_cases e : a = o
    · rw [if_pos (by rw [e]), F_X6_isWithin_21, if_pos (by rw [e]), F_X6_isWithin_31, m_gd (by decide), if_pos (by rw [e]; exact List.mem_cons_self)]
    · have ih := K_within_loop ho hB h hi hT (b :: L) b n (by simp only [List.length_cons]; omega) h3 (fun d w => hd d (List.mem_cons_of_mem _ w))
      rw [if_neg (fun z => e ((nI_eq (by omega) ho).mp z)), K_above hB h hi hT d1 d2 d3, m_bn, h2, show oI (some b) = nI b from rfl, ih]
      by_cases w : o ∈ b :: L
      · rw [if_pos w, if_pos (List.mem_cons_of_mem _ w)]
      · rw [if_neg w, if_neg (fun z => by rcases List.mem_cons.mp z with q | q; exact e q.symm; exact w q)]
theorem K_isWithin {o t : Nat} (hB : B ≤ 96) (h : m_ok B T) (hi : m_im B T O) (hT : k_T B 0 0 (S.1 61) T) (ho : o ≤ 60) (ht : oK O t = 1) : F_X6_isWithin B (nI t) (nI o) S = some (.inl (some (if w_in O o 60 t = true then 1 else 0)), S) := by
  obtain ⟨L, p1, p2, p3⟩ := path_few hi ht
  have := K_within_loop (S := S) (o := o) (by omega) hB h hi hT L t z_n (by unfold z_n; omega) p1 p2
  have this' : F_X6_isWithin B (nI t) (nI o) S = _ := this
  rw [this', w_in_path p1 p3]
  by_cases e : o ∈ L
  · rw [if_pos e, if_pos (decide_eq_true e)]
  · rw [if_neg e, if_neg (fun z => e (of_decide_eq_true z))]
/-- a file holds no directory -/
theorem w_file {o t : Nat} (hi : m_im B T O) (ht : oK O t = 1) (ho : oK O o ≠ 1) : w_in O o 60 t = false := by
  obtain ⟨L, p1, p2, p3⟩ := path_few hi ht
  rw [w_in_path p1 p3]
  exact decide_eq_false (fun w => ho (p2 o w).1)
end WI
