/-! node and item: class and reference answer alike. -/
theorem idx_at {L : List Nat} {i x : Nat} (hd : L.Nodup) (h : L[i]? = some x) : L.idxOf x = i := by
  obtain ⟨hi, e⟩ := List.getElem?_eq_some_iff.mp h
  rw [← e]
  exact hd.idxOf_getElem i hi
theorem nx_at {L : List Nat} {i x : Nat} (hd : L.Nodup) (h : L[i]? = some x) : m_nx L x = L[i + 1]? := by
  rw [idx_nx hd (List.mem_of_getElem? h), idx_at hd h]
/-- the k-th item from leaves on: its leaf and its place there -/
def d_i (T : m_T) : List Nat → Nat → Option (Nat × Nat)
  | [], _ => none
  | l :: L, k => if k < (tI T l).length then some (l, k) else d_i T L (k - (tI T l).length)
theorem di_some {T : m_T} : ∀ {L : List Nat} {k b j : Nat}, d_i T L k = some (b, j) → b ∈ L ∧ ∃ y, (tI T b)[j]? = some y ∧ (L.flatMap (tI T))[k]? = some y
  | [], k, b, j, h => by cases h
  | l :: L, k, b, j, h => by
    rw [d_i] at h
    by_cases hk : k < (tI T l).length
    · rw [if_pos hk] at h
      have h1 : l = b := congrArg Prod.fst (Option.some.inj h)
      have h2 : k = j := congrArg Prod.snd (Option.some.inj h)
      subst h1; subst h2
      refine ⟨List.mem_cons_self, (tI T l)[k], List.getElem?_eq_getElem hk, ?_⟩
      rw [List.flatMap_cons, List.getElem?_append_left hk, List.getElem?_eq_getElem hk]
    · rw [if_neg hk] at h
      obtain ⟨m, y, h1, h2⟩ := di_some h
      refine ⟨List.mem_cons_of_mem _ m, y, h1, ?_⟩
      rw [List.flatMap_cons, List.getElem?_append_right (by omega)]
      exact h2
theorem di_none {T : m_T} : ∀ {L : List Nat} {k : Nat}, d_i T L k = none → (L.flatMap (tI T)).length ≤ k
  | [], k, _ => by simp
  | l :: L, k, h => by
    rw [d_i] at h
    by_cases hk : k < (tI T l).length
    · rw [if_pos hk] at h; cases h
    · rw [if_neg hk] at h
      have := di_none h
      rw [List.flatMap_cons, List.length_append]
      omega
def d_is : Option (Nat × Nat) → Int32
  | none => -1
  | some (b, j) => nI (b * 14 + j)
section CL4
variable {B J : Nat} {S S' : z_S} {A : m_A} {T : m_T} {O : m_O} {f : Nat → Int32}
theorem C_nodeAt_loop {h k : Nat} (hB : B ≤ 96) (hs : m_sk B 0 0 T) (hT : c_T B 2 S T) (hk : k < 2 ^ 31) : ∀ (m n i : Nat), i + m = k → m < n → i ≤ (tR T h).length → F_X4_nodeAt_40 B 2 n (nI k) (oI (tR T h)[i]?) (nI i) S = some (.inl (some (oI (tR T h)[k]?)), S)
  | 0, n, i, hi, hn, hl => by
    obtain ⟨n, rfl⟩ : ∃ j, n = j + 1 := ⟨n - 1, by omega⟩
    have e : i = k := by omega
    subst e
    rw [F_X4_nodeAt_40, if_pos (nI_le (Nat.le_refl _) hk), F_X4_nodeAt_64]
  | m + 1, n, i, hi, hn, hl => by
    obtain ⟨n, rfl⟩ : ∃ j, n = j + 1 := ⟨n - 1, by omega⟩
    rw [F_X4_nodeAt_40, if_neg (nI_ge (by omega) hk)]
    cases hx : (tR T h)[i]? with
    | none =>
      have hlen : (tR T h).length ≤ i := List.getElem?_eq_none_iff.mp hx
      rw [if_pos (show oI none = -1 from rfl), F_X4_nodeAt_64, List.getElem?_eq_none_iff.mpr (show (tR T h).length ≤ k by omega)]
    | some x =>
      have hxm := List.mem_of_getElem? hx
      obtain ⟨x1, x2, x3, x4⟩ := hs.2.2.2.1 h x hxm
      have ux : tU T x = 2 ∨ tU T x = 3 := by rw [x4]; split <;> simp
      have e7 : S.1 9 x = oI (m_nx (tR T h) x) := by have := (hT.2.2.2.2.2 x x2 ux).2.2.2; rw [x3] at this; exact this
      have hil := (List.getElem?_eq_some_iff.mp hx).1
      rw [show oI (some x) = nI x from rfl, if_neg (m_ne1 (by omega)), m_gd (m_inb x2 (by omega)), m_lt, m_ix (by omega), show S.1 (2 + 7) x = oI (m_nx (tR T h) x) from e7, nx_at (hs.2.2.2.2.2.1 h) hx, nI_1]
      exact C_nodeAt_loop hB hs hT hk m n (i + 1) (by omega) (by omega) (by omega)
theorem sk_hd {h : Nat} (hs : m_sk B 0 0 T) (hh : h ≤ tH T (tX T)) : ∃ x, (tR T h)[0]? = some x := by
  have z0 : ∀ g, m_era 0 (tR T g) = tR T g := fun g => l_era_no (sk_0 hs)
  have key : ∀ g, g ≤ tH T (tX T) → tR T (tH T (tX T) - g) ≠ [] := by
    intro g
    induction g with
    | zero => intro _ e; have := (sk_root hs).1; rw [Nat.sub_zero] at e; rw [e] at this; cases this
    | succ g ih =>
      intro hg e
      have h1 := hs.2.2.2.2.2.2.1 (tH T (tX T) - (g + 1)) (by omega)
      rw [e, show tH T (tX T) - (g + 1) + 1 = tH T (tX T) - g by omega] at h1
      have h2 := ih (by omega)
      have h3 : 2 * (tR T (tH T (tX T) - g)).length ≤ 0 := by
        have := l_fm_two (K := tK T) (R := tR T (tH T (tX T) - g)) (fun p hp => (hs.2.2.2.2.2.2.2.2.2.1 (tH T (tX T) - (g + 1)) p (by rw [show tH T (tX T) - (g + 1) + 1 = tH T (tX T) - g by omega]; exact hp) (fun e => sk_0 hs (e ▸ hp))).1)
        rw [h1] at this
        simpa [m_era] using this
      exact h2 (List.eq_nil_of_length_eq_zero (by omega))
  have := key (tH T (tX T) - h) (by omega)
  rw [show tH T (tX T) - (tH T (tX T) - h) = h by omega] at this
  cases hR : tR T h with
  | nil => exact absurd hR this
  | cons x L => exact ⟨x, rfl⟩
/-- the node of a height and a number -/
def d_n (T : m_T) (p1 p2 : Int32) : Option Nat := if 0 ≤ p1 ∧ p1 ≤ nI (tH T (tX T)) ∧ 0 ≤ p2 then (tR T p1.toNatClampNeg)[p2.toNatClampNeg]? else none
theorem i32_nn {p : Int32} (h : 0 ≤ p) : ∃ k, p = nI k ∧ k < 2 ^ 31 := by
  have e1 := Int32.le_iff_toInt_le.mp h
  have e3 : (0 : Int32).toInt = 0 := by decide
  have e4 := Int32.toInt_lt p
  exact ⟨p.toInt.toNat, m_n _ (by omega) (by omega), by omega⟩
theorem C_nodeAt {p1 p2 : Int32} (hB : B ≤ 96) (hs : m_sk B 0 0 T) (hT : c_T B 2 S T) : F_X4_nodeAt B 2 p1 p2 S = some (.inl (some (oI (d_n T p1 p2))), S) := by
  have hr := sk_root hs
  have hrb := sk_rb hs
  have h6 := hs.1
  obtain ⟨r1, r2, r3, r4⟩ := hs.2.2.2.1 _ _ hr.1
  have ur : tU T (tX T) = 2 ∨ tU T (tX T) = 3 := by rw [r4]; split <;> simp
  have eh : S.1 4 (tX T) = nI (tH T (tX T)) := (hT.2.2.2.2.2 _ hrb ur).1
  unfold F_X4_nodeAt d_n
  by_cases h1 : p1 < 0
  · rw [if_pos h1, F_X4_nodeAt_29, if_neg (fun e => Int32.not_lt.mpr e.1 h1)]; rfl
  · rw [if_neg h1, hT.2.1, m_gd (m_inb hrb (by omega)), m_lt, m_ix (by omega), show S.1 (2 + 2) (tX T) = nI (tH T (tX T)) from eh]
    by_cases h2 : nI (tH T (tX T)) < p1
    · rw [if_pos h2, F_X4_nodeAt_29, if_neg (fun e => Int32.not_lt.mpr e.2.1 h2)]; rfl
    · rw [if_neg h2]
      by_cases h3 : p2 < 0
      · rw [if_pos h3, F_X4_nodeAt_29, if_neg (fun e => Int32.not_lt.mpr e.2.2 h3)]; rfl
      · obtain ⟨g, hg, -, hgH⟩ := m_in (p := p1) (lo := 0) (hi := tH T (tX T)) (by rw [← m_c0]; exact Int32.not_lt.mp h1) (Int32.not_lt.mp h2) (by omega) (by omega)
        obtain ⟨k, hk, hk2⟩ := i32_nn (Int32.not_lt.mp h3)
        subst hg; subst hk
        have hlen := sk_len hs (h := g)
        have g3 : (0 : Int32) ≤ nI g ∧ nI g ≤ nI (tH T (tX T)) ∧ (0 : Int32) ≤ nI k := ⟨Int32.not_lt.mp h1, Int32.not_lt.mp h2, Int32.not_lt.mp h3⟩
        rw [if_neg h3, hT.1, if_pos g3, nI_clamp (by omega), nI_clamp hk2]
        by_cases h4 : nI k < nI B
        · have hkB : k < B := by
            by_cases hc : k < B
            · exact hc
            · exact absurd h4 (nI_nlt (by omega) (by omega))
          obtain ⟨x, hx⟩ := sk_hd hs hgH
          have eL := C_leftmost (x := x) hB hT (sk_lm hs) hgH (by rw [← hx]; cases tR T g <;> rfl)
          rw [if_pos h4, eL, m_bn]
          have key := C_nodeAt_loop (h := g) hB hs hT hk2 k z_n 0 (by omega) (by unfold z_n; omega) (by omega)
          rw [hx] at key
          exact key
        · have hkB : B ≤ k := by
            by_cases hc : k < B
            · exact absurd (nI_lt hc (by omega)) h4
            · omega
          rw [if_neg h4, F_X4_nodeAt_29, List.getElem?_eq_none_iff.mpr (by omega)]; rfl
def d_m (T : m_T) (h : Int32) (x : Nat) (p : Int32) : Int32 := if p = 0 then nI x else if p = 1 then (if h = 0 then nI (tI T x).length else nI (tK T x).length) else if p = 2 then (if h = 0 then nI (m_cost (tI T x)) else 0) else oI (tP T x)
theorem dm1 {T : m_T} {h : Int32} {x : Nat} : d_m T h x 1 = if h = 0 then nI (tI T x).length else nI (tK T x).length := by rw [d_m, if_neg (show ¬ (1 : Int32) = 0 by decide), if_pos rfl]
theorem dm2 {T : m_T} {h : Int32} {x : Nat} : d_m T h x 2 = if h = 0 then nI (m_cost (tI T x)) else 0 := by rw [d_m, if_neg (show ¬ (2 : Int32) = 0 by decide), if_neg (show ¬ (2 : Int32) = 1 by decide), if_pos rfl]
def A_node (A : m_A) (p1 p2 p3 : Int32) : Nat × Int32 := if A.2.2.1 = 0 then (match d_n A.1.1 p1 p2 with
    | none => (2, 0)
    | some x => if 0 ≤ p3 ∧ p3 ≤ 3 then (0, d_m A.1.1 p1 x p3) else (3, 0)) else (1, 0)
theorem i32_three {p : Int32} (h : 0 ≤ p ∧ p ≤ 3) : p = 0 ∨ p = 1 ∨ p = 2 ∨ p = 3 := by
  obtain ⟨k, hk, -, hlt⟩ := m_in (p := p) (lo := 0) (hi := 3) (by rw [← m_c0]; exact h.1) (by rw [← m_c3]; exact h.2) (by omega) (by omega)
  subst hk
  obtain rfl | rfl | rfl | rfl : k = 0 ∨ k = 1 ∨ k = 2 ∨ k = 3 := by omega
  all_goals simp [nI]
theorem dn_some {p1 p2 : Int32} {x : Nat} (hs : m_sk B 0 0 T) (h : d_n T p1 p2 = some x) : ∃ g k, p1 = nI g ∧ g ≤ tH T (tX T) ∧ p2 = nI k ∧ k < (tR T g).length ∧ (tR T g)[k]? = some x ∧ k < 2 ^ 31 := by
  have h6 := hs.1
  unfold d_n at h
  by_cases e : 0 ≤ p1 ∧ p1 ≤ nI (tH T (tX T)) ∧ 0 ≤ p2
  · obtain ⟨g, hg, -, hgH⟩ := m_in (p := p1) (lo := 0) (hi := tH T (tX T)) (by rw [← m_c0]; exact e.1) e.2.1 (by omega) (by omega)
    obtain ⟨k, hk, hk2⟩ := i32_nn e.2.2
    subst hg; subst hk
    rw [if_pos e, nI_clamp (by omega), nI_clamp hk2] at h
    exact ⟨g, k, rfl, hgH, rfl, (List.getElem?_eq_some_iff.mp h).1, h, hk2⟩
  · rw [if_neg e] at h; cases h
theorem G_node_c {p1 p2 p3 : Int32} (h : CI B J S A) (hA : AI B J A) : F_X5_node B p1 p2 p3 S = some (r_o [E_U, E_I, E_A] (A_node A p1 p2 p3).1 (A_node A p1 p2 p3).2, S) := by
  have hs := hA.2.1.1.1
  unfold F_X5_node A_node
  rw [C_needPower h hA]
  by_cases e : A.2.2.1 = 0
  · rw [if_pos e, if_pos e, m_bv, C_nodeAt hA.1.2.1 hs h.2.1.1, m_bn]
    cases hd : d_n A.1.1 p1 p2 with
    | none => rw [if_pos (show oI none = -1 from rfl)]; rfl
    | some x =>
      obtain ⟨g, k, hg, hgH, hk, hkl, hx, hk2⟩ := dn_some hs hd
      subst hg; subst hk
      obtain ⟨x1, x2, x3, x4⟩ := hs.2.2.2.1 g x (List.mem_of_getElem? hx)
      have hB := hA.1.2.1
      have h6 := hs.1
      have ux : tU A.1.1 x = 2 ∨ tU A.1.1 x = 3 := by rw [x4]; split <;> simp
      have g0 : nI g = 0 ↔ g = 0 := by rw [m_c0]; exact nI_eq (by omega) (by omega)
      rw [show oI (some x) = nI x from rfl, if_neg (m_ne1 (by omega))]
      simp only []
      by_cases e3 : 0 ≤ p3 ∧ p3 ≤ 3
      · rw [if_pos e3]
        have iz : z_inb (nI x) B = true := m_inb x2 (by omega)
        have xz : z_ix (nI x) = x := m_ix (by omega)
        have e5 : S.1 5 x = if g = 0 then nI (tI A.1.1 x).length else nI (tK A.1.1 x).length := by
          by_cases e0 : g = 0
          · rw [if_pos e0] at x4; rw [if_pos e0]; exact (h.2.1.1.2.2.2.1 x x2 x4).1
          · rw [if_neg e0] at x4; rw [if_neg e0]; exact (h.2.1.1.2.2.2.2.1 x x2 x4).1
        have e6 : S.1 6 x = if g = 0 then nI (m_cost (tI A.1.1 x)) else 0 := by
          by_cases e0 : g = 0
          · rw [if_pos e0] at x4; rw [if_pos e0]; exact (h.2.1.1.2.2.2.1 x x2 x4).2.1
          · rw [if_neg e0] at x4; rw [if_neg e0]; exact (h.2.1.1.2.2.2.2.1 x x2 x4).2.1
        have e7 : S.1 7 x = oI (tP A.1.1 x) := (h.2.1.1.2.2.2.2.2 x x2 ux).2.1
        obtain rfl | rfl | rfl | rfl := i32_three e3
        · rw [if_pos rfl]; rfl
        · rw [if_neg (by decide), if_pos rfl, m_gd iz, m_lt, xz, e5]
          show some (Sum.inl (some _), S) = some (Sum.inl (some (d_m A.1.1 (nI g) x 1)), S)
          rw [dm1]
          by_cases e0 : g = 0
          · rw [if_pos e0, if_pos (g0.mpr e0)]
          · rw [if_neg e0, if_neg (fun z => e0 (g0.mp z))]
        · rw [if_neg (by decide), if_neg (by decide), if_pos rfl, m_gd iz, m_lt, xz, e6]
          show some (Sum.inl (some _), S) = some (Sum.inl (some (d_m A.1.1 (nI g) x 2)), S)
          rw [dm2]
          by_cases e0 : g = 0
          · rw [if_pos e0, if_pos (g0.mpr e0)]
          · rw [if_neg e0, if_neg (fun z => e0 (g0.mp z))]
        · rw [if_neg (by decide), if_neg (by decide), if_neg (by decide), if_pos rfl, m_gd iz, m_lt, xz, e7]
          rfl
      · have n0 : p3 ≠ 0 := fun z => e3 (by rw [z]; decide)
        have n1 : p3 ≠ 1 := fun z => e3 (by rw [z]; decide)
        have n2 : p3 ≠ 2 := fun z => e3 (by rw [z]; decide)
        have n3 : p3 ≠ 3 := fun z => e3 (by rw [z]; decide)
        rw [if_neg e3, if_neg n0, if_neg n1, if_neg n2, if_neg n3]; rfl
  · rw [if_neg e, if_neg e, m_bvx]; rfl
theorem G_node_k {p1 p2 p3 : Int32} (h : KI B J S A) (hA : AI B J A) : ∃ v S2, F_X6_node B p1 p2 p3 S = some (.inl (some v), S2) ∧ KI B J S2 A ∧ z_kf S S2 ∧ S2.2.1 60 0 = nI (A_node A p1 p2 p3).1 ∧ ((A_node A p1 p2 p3).1 = 0 → v = (A_node A p1 p2 p3).2) := by
  have hs := hA.2.1.1.1
  have hB := hA.1.2.1
  have h6 := hs.1
  have bad : ∀ (v1 v2 v3 c : Int32) (n : Nat) (w : Int32), c = nI n → n ≠ 0 → n < 5 → ∃ v S2, F_X6_node_68 B v1 v2 v3 c S = some (.inl (some v), S2) ∧ KI B J S2 A ∧ z_kf S S2 ∧ S2.2.1 60 0 = nI n ∧ (n = 0 → v = w) := fun v1 v2 v3 c n w hc hn hn5 => by
    have hc0 : ¬ c ≤ 0 := by rw [hc, m_c0]; exact nI_ge (by omega) (by omega)
    rw [F_X6_node_68, m_lt, z_thr, if_neg hc0]
    exact ⟨_, _, rfl, KI_thr h, z_kf_ui (by decide), by rw [z_thr, hc], fun z => absurd z hn⟩
  unfold F_X6_node A_node
  rw [h.2.2.2.1]
  by_cases e : A.2.2.1 = 0
  · rw [if_pos e, if_pos e, m_gd (by decide), m_lt, show z_ix (13077 : Int32) = 13077 from m_ix (i := 13077) (by omega), h.2.1.1.2.2.2.2.2.2.2, nI_pred, K_isIn, m_bn]
    by_cases h1 : 0 ≤ p1 ∧ p1 ≤ nI (tH A.1.1 (tX A.1.1))
    · obtain ⟨g, hg, -, hgH⟩ := m_in (p := p1) (lo := 0) (hi := tH A.1.1 (tX A.1.1)) (by rw [← m_c0]; exact h1.1) h1.2 (by omega) (by omega)
      subst hg
      have e1 : (13068 : Int32) + nI g = nI (13068 + g) := by rw [m_c13068, nI_add]
      obtain ⟨q1, q2, q3⟩ := h.2.1.1.2.2.2.2.2.1 g (by omega)
      rw [if_pos h1, if_neg (show ¬ (1 : Int32) = 0 by decide), e1, m_gd (m_inb (by omega) (by omega)), m_lt, m_ix (by omega), q1, K_isIn, m_bn]
      by_cases h2 : 0 ≤ p2
      · obtain ⟨k, hk, hk2⟩ := i32_nn h2
        subst hk
        have hdn : d_n A.1.1 (nI g) (nI k) = (tR A.1.1 g)[k]? := by
          unfold d_n
          rw [if_pos ⟨h1.1, h1.2, h2⟩, nI_clamp (by omega), nI_clamp hk2]
        rw [hdn]
        by_cases h3 : k < (tR A.1.1 g).length
        · have g1 : (0 : Int32) ≤ nI k ∧ nI k ≤ nI (tR A.1.1 g).length - 1 := ⟨h2, (m_le1 (by omega) h2).mpr (nI_lt h3 (by omega))⟩
          have hx : (tR A.1.1 g)[k]? = some (tR A.1.1 g)[k] := List.getElem?_eq_getElem h3
          rw [if_pos g1, if_neg (show ¬ (1 : Int32) = 0 by decide), K_isIn, m_bn, hx]
          simp only []
          by_cases e3 : 0 ≤ p3 ∧ p3 ≤ 3
          · rw [if_pos e3, if_pos e3, if_neg (show ¬ (1 : Int32) = 0 by decide)]
            generalize hxe : (tR A.1.1 g)[k] = x at hx
            obtain ⟨x1, x2, x3, x4⟩ := hs.2.2.2.1 g x (List.mem_of_getElem? hx)
            have g0 : nI g = 0 ↔ g = 0 := by rw [m_c0]; exact nI_eq (by omega) (by omega)
            have ux : tU A.1.1 x = 2 ∨ tU A.1.1 x = 3 := by rw [x4]; split <;> simp
            have er : S.1 61 (12300 + 96 * g + k) = nI x := q2 k (nI x) (by rw [List.getElem?_map, hx]; rfl)
            have e2 : (12300 : Int32) + 96 * nI g + nI k = nI (12300 + 96 * g + k) := by rw [m_c12300, m_c96, pk_mul, nI_add, nI_add]
            have e5 : (3852 : Int32) + nI x = nI (3852 + x) := by rw [m_c3852, nI_add]
            have e6 : (3948 : Int32) + nI x = nI (3948 + x) := by rw [m_c3948, nI_add]
            have fin : ∀ v, v = d_m A.1.1 (nI g) x p3 → ∃ v' S2, some ((.inl (some v) : z_O), z_ui S 60 0 0) = some (.inl (some v'), S2) ∧ KI B J S2 A ∧ z_kf S S2 ∧ S2.2.1 60 0 = nI 0 ∧ (0 = 0 → v' = d_m A.1.1 (nI g) x p3) := fun v hv => ⟨v, _, rfl, KI_thr h, z_kf_ui (by decide), z_thr, fun _ => hv⟩
            rw [F_X6_node_68, m_lt, z_thr, if_pos (by decide), e2, m_gd (m_inb (by omega) (by omega)), m_lt, m_ix (i := 12300 + 96 * g + k) (by omega), show (z_ui S 60 0 0).1 61 (12300 + 96 * g + k) = nI x from er]
            obtain rfl | rfl | rfl | rfl := i32_three e3
            · rw [if_pos rfl, F_X6_node_158]
              exact fin _ rfl
            · have ec : S.1 61 (3852 + x) = if g = 0 then nI (tI A.1.1 x).length else nI (tK A.1.1 x).length := by
                by_cases e0 : g = 0
                · rw [if_pos e0] at x4; rw [if_pos e0]; exact K_cntL h.2.1.1 x2 x4
                · rw [if_neg e0] at x4; rw [if_neg e0]; exact K_cnt h.2.1.1 x2 (by omega) x4
              rw [if_neg (by decide), if_pos rfl, e5, m_gd (m_inb (by omega) (by omega)), m_lt, m_ix (by omega), show (z_ui S 60 0 0).1 61 (3852 + x) = _ from ec, F_X6_node_158]
              refine fin _ ?_
              rw [dm1]
              by_cases e0 : g = 0
              · rw [if_pos e0, if_pos (g0.mpr e0)]
              · rw [if_neg e0, if_neg (fun z => e0 (g0.mp z))]
            · rw [if_neg (by decide), if_neg (by decide), if_pos rfl]
              by_cases e0 : g = 0
              · rw [if_pos e0] at x4
                have hU := KT_used (S := z_ui S 60 0 0) (f := S.1 61) hB h.2.1.1 x2 x4
                have hsame : z_ua (z_ui S 60 0 0) 61 (S.1 61) = z_ui S 60 0 0 := z_ua_same (S := z_ui S 60 0 0)
                rw [hsame] at hU
                rw [if_pos (g0.mpr e0), hU, m_bn, F_X6_node_158]
                refine fin _ ?_
                rw [dm2, if_pos (g0.mpr e0)]
              · rw [if_neg (fun z => e0 (g0.mp z)), F_X6_node_158]
                refine fin _ ?_
                rw [dm2, if_neg (fun z => e0 (g0.mp z))]
            · rw [if_neg (by decide), if_neg (by decide), if_neg (by decide), e6, m_gd (m_inb (by omega) (by omega)), m_lt, m_ix (by omega), show (z_ui S 60 0 0).1 61 (3948 + x) = oI (tP A.1.1 x) from h.2.1.1.2.2.2.2.1 x x2 (by omega) ux, F_X6_node_158]
              exact fin _ rfl
          · rw [if_neg e3, if_neg e3, if_pos rfl]
            exact bad _ _ _ 3 3 _ rfl (by omega) (by omega)
        · have g1 : ¬ ((0 : Int32) ≤ nI k ∧ nI k ≤ nI (tR A.1.1 g).length - 1) := fun w => by
            have := (m_le1 (by omega) h2).mp w.2
            exact absurd this (nI_nlt (by omega) (by omega))
          rw [if_neg g1, if_pos rfl, List.getElem?_eq_none_iff.mpr (by omega), F_X6_node_50]
          exact bad _ _ _ 2 2 _ rfl (by omega) (by omega)
      · have hdn : d_n A.1.1 (nI g) p2 = none := by unfold d_n; rw [if_neg (fun w => h2 w.2.2)]
        have g1 : ¬ ((0 : Int32) ≤ p2 ∧ p2 ≤ nI (tR A.1.1 g).length - 1) := fun w => h2 w.1
        rw [if_neg g1, if_pos rfl, hdn, F_X6_node_50]
        exact bad _ _ _ 2 2 _ rfl (by omega) (by omega)
    · have hdn : d_n A.1.1 p1 p2 = none := by unfold d_n; rw [if_neg (fun w => h1 ⟨w.1, w.2.1⟩)]
      rw [if_neg h1, if_pos rfl, hdn, F_X6_node_50]
      exact bad _ _ _ 2 2 _ rfl (by omega) (by omega)
  · rw [if_neg e, if_neg e]
    exact bad _ _ _ 1 1 _ rfl (by omega) (by omega)
end CL4
