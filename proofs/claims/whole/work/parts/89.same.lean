/-! Changed blocks: what it means, and that the class finds just these. -/
theorem z_all {N : Nat} {P : Nat → Prop} {S : z_S} {G : Nat → Nat → Option (z_O × z_S)} (h1 : ∀ n i, i < N → P i → G (n + 1) i = G n (i + 1)) (h2 : ∀ n i, i < N → ¬ P i → G (n + 1) i = some (.inl (some 0), S)) (h3 : ∀ n, G (n + 1) N = some (.inl (some 1), S)) : ∀ (m n i : Nat), i + m = N → m < n → ∃ c : Bool, G n i = some (.inl (some (i_b c)), S) ∧ (c = true ↔ ∀ j, i ≤ j → j < N → P j)
  | 0, n, i, hi, hn => by
    obtain ⟨n, rfl⟩ : ∃ j, n = j + 1 := ⟨n - 1, by omega⟩
    have e : i = N := by omega
    subst e
    exact ⟨true, h3 n, ⟨fun _ j h1 h2 => by omega, fun _ => rfl⟩⟩
  | m + 1, n, i, hi, hn => by
    obtain ⟨n, rfl⟩ : ∃ j, n = j + 1 := ⟨n - 1, by omega⟩
    by_cases hp : P i
    · obtain ⟨c, a1, a2⟩ := z_all h1 h2 h3 m n (i + 1) (by omega) (by omega)
      refine ⟨c, by rw [h1 n i (by omega) hp]; exact a1, a2.trans ⟨fun w j g1 g2 => ?_, fun w j g1 g2 => w j (by omega) g2⟩⟩
      by_cases e : j = i
      · rw [e]; exact hp
      · exact w j (by omega) g2
    · exact ⟨false, h2 n i (by omega) hp, ⟨fun w => (by cases w), fun w => absurd (w i (Nat.le_refl _) (by omega)) hp⟩⟩
/-- the first key below a node of a height -/
def m_fb (T : m_T) : Nat → Nat → Nat
  | 0, x => m_fk T x
  | h + 1, x => m_fb T h ((tK T x).headD 0)
def m_sb (O Oc : m_O) (y : m_It) : Prop :=
  (y.1 / 1000 % 4 = 0 → oK O (y.1 / 4000) = oK Oc (y.1 / 4000) ∧ oL O (y.1 / 4000) = oL Oc (y.1 / 4000) ∧ oZ O (y.1 / 4000) = oZ Oc (y.1 / 4000)) ∧
  (y.1 / 1000 % 4 = 2 → oP O (y.1 / 4000) = oP Oc (y.1 / 4000)) ∧ (y.1 / 1000 % 4 = 3 → ∀ r, r < y.2.1 → oE O (y.1 / 4000) r = oE Oc (y.1 / 4000) r)
/-- a block is the same in two images -/
def m_same (B : Nat) (T : m_T) (O : m_O) (Tc : m_T) (Oc : m_O) (b : Nat) : Prop :=
  tU T b = tU Tc b ∧ (tU T b = 1 → tX T = tX Tc ∧ ∀ c, c < B → (tU T c = 0 ↔ tU Tc c = 0)) ∧ (tU T b = 2 → tI T b = tI Tc b ∧ ∀ y ∈ tI T b, m_sb O Oc y) ∧
  (tU T b = 3 → tH T b = tH Tc b ∧ tK T b = tK Tc b ∧ ∀ c ∈ tK T b, m_fb T (tH T c) c = m_fb Tc (tH Tc c) c) ∧ (tU T b = 4 → ∀ r, r < 128 → oD O b r = oD Oc b r)
theorem oI_inj {a b : Option Nat} (ha : ∀ n, a = some n → n < 2 ^ 31) (hb : ∀ n, b = some n → n < 2 ^ 31) (h : oI a = oI b) : a = b := by
  cases a with
  | none =>
    cases b with
    | none => rfl
    | some n => exact absurd h.symm (m_ne1 (hb n rfl))
  | some m =>
    cases b with
    | none => exact absurd h (m_ne1 (ha m rfl))
    | some n => rw [(nI_eq (ha m rfl) (hb n rfl)).mp h]
theorem it_eq {x y : m_It} (hx : m_ig x) (hy : m_ig y) (h1 : nI x.1 = nI y.1) (h2 : nI x.2.1 = nI y.2.1) (h3 : oI x.2.2 = oI y.2.2) : x = y := by
  obtain ⟨x1, x2, x3, x4⟩ := hx
  obtain ⟨y1, y2, y3, y4⟩ := hy
  have e1 := (nI_eq (by omega) (by omega)).mp h1
  have e2 := (nI_eq (by omega) (by omega)).mp h2
  have e3 := oI_inj (fun n hn => by have := x4 n hn; omega) (fun n hn => by have := y4 n hn; omega) h3
  exact Prod.ext e1 (Prod.ext e2 e3)
theorem rB_inj {c c' r r' : Int32} (h : rB c r) (h' : rB c' r') : c = c' ↔ r = r' := by
  constructor
  · intro e; rw [h.1, h'.1, e]
  · intro e; rw [h.2, h'.2, e]
theorem list_eq {α : Type} {L M : List α} (hl : L.length = M.length) (h : ∀ i, i < L.length → ∀ x y, L[i]? = some x → M[i]? = some y → x = y) : L = M := by
  apply List.ext_getElem?
  intro i
  by_cases hi : i < L.length
  · have hm : i < M.length := by omega
    rw [List.getElem?_eq_getElem hi, List.getElem?_eq_getElem hm, h i hi _ _ (List.getElem?_eq_getElem hi) (List.getElem?_eq_getElem hm)]
  · rw [List.getElem?_eq_none_iff.mpr (by omega), List.getElem?_eq_none_iff.mpr (by omega)]
section SM
variable {B : Nat} {S : z_S} {T Tc : m_T} {O Oc : m_O}
theorem C_sameMap (hB : B ≤ 96) (hT : c_T B 2 S T) (hC : c_T B 23 S Tc) (hu : ∀ b, b < B → tU T b ≤ 4) (hv : ∀ b, b < B → tU Tc b ≤ 4) (hx : tX T < B) (hxc : tX Tc < B) : ∃ c : Bool, F_X4_sameMap B 2 23 S = some (.inl (some (i_b c)), S) ∧ (c = true ↔ tX T = tX Tc ∧ ∀ c, c < B → (tU T c = 0 ↔ tU Tc c = 0)) := by
  have z0 : ∀ k, k ≤ 4 → (nI k = 0 ↔ k = 0) := fun k hk => by rw [m_c0]; exact nI_eq (by omega) (by omega)
  unfold F_X4_sameMap
  rw [hT.2.1, hC.2.1]
  by_cases e : tX T = tX Tc
  · rw [if_pos (by rw [e])]
    have step : ∀ n i, i < B → F_X4_sameMap_15 B 2 23 (n + 1) (nI i) S = if (tU T i = 0 ↔ tU Tc i = 0) then F_X4_sameMap_15 B 2 23 n (nI (i + 1)) S else some (.inl (some 0), S) := fun n i hi => by
      have a1 := z0 _ (hu i hi)
      have a2 := z0 _ (hv i hi)
      have u1 : S.1 (2 + 1) i = nI (tU T i) := hT.2.2.1 i hi
      have u2 : S.1 (23 + 1) i = nI (tU Tc i) := hC.2.2.1 i hi
      rw [F_X4_sameMap_15, hT.1, if_neg (nI_ge hi (by omega)), m_gd (m_inb hi (by omega)), m_lt, m_ix (by omega), u1]
      by_cases h1 : tU T i = 0 <;> by_cases h2 : tU Tc i = 0
      · rw [if_pos (a1.mpr h1), F_X4_sameMap_37, m_gd (m_inb hi (by omega)), m_lt, m_ix (by omega), u2, if_pos (a2.mpr h2), F_X4_sameMap_51, if_pos rfl, nI_1, if_pos ⟨fun _ => h2, fun _ => h1⟩]
      · rw [if_pos (a1.mpr h1), F_X4_sameMap_37, m_gd (m_inb hi (by omega)), m_lt, m_ix (by omega), u2, if_neg (fun z => h2 (a2.mp z)), F_X4_sameMap_51, if_neg (by decide), m_gd (by decide), if_neg (fun z => h2 (z.mp h1))]
      · rw [if_neg (fun z => h1 (a1.mp z)), F_X4_sameMap_37, m_gd (m_inb hi (by omega)), m_lt, m_ix (by omega), u2, if_pos (a2.mpr h2), F_X4_sameMap_51, if_neg (by decide), m_gd (by decide), if_neg (fun z => h1 (z.mpr h2))]
      · rw [if_neg (fun z => h1 (a1.mp z)), F_X4_sameMap_37, m_gd (m_inb hi (by omega)), m_lt, m_ix (by omega), u2, if_neg (fun z => h2 (a2.mp z)), F_X4_sameMap_51, if_pos rfl, nI_1, if_pos ⟨fun z => absurd z h1, fun z => absurd z h2⟩]
    obtain ⟨c, c1, c2⟩ := z_all (N := B) (P := fun i => (tU T i = 0 ↔ tU Tc i = 0)) (S := S) (G := fun n i => F_X4_sameMap_15 B 2 23 n (nI i) S) (fun n i hi hp => by show F_X4_sameMap_15 B 2 23 (n + 1) (nI i) S = _; rw [step n i hi, if_pos hp]) (fun n i hi hp => by show F_X4_sameMap_15 B 2 23 (n + 1) (nI i) S = _; rw [step n i hi, if_neg hp]) (fun n => by show F_X4_sameMap_15 B 2 23 (n + 1) (nI B) S = _; rw [F_X4_sameMap_15, hT.1, if_pos (nI_le (Nat.le_refl _) (by omega)), m_gd (by decide)]) B z_n 0 (by omega) (by unfold z_n; omega)
    exact ⟨c, c1, c2.trans ⟨fun w => ⟨e, fun j hj => w j (Nat.zero_le _) hj⟩, fun w j _ hj => w.2 j hj⟩⟩
  · rw [if_neg (fun z => e ((nI_eq (by omega) (by omega)).mp z)), m_gd (by decide)]
    exact ⟨false, rfl, ⟨fun w => (by cases w), fun w => absurd w.1 e⟩⟩
theorem C_sameItems {b : Nat} (hB : B ≤ 96) (hb : b < B) (hL : c_lf 2 S b (tI T b)) (hM : c_lf 23 S b (tI Tc b)) (g1 : ∀ y ∈ tI T b, m_ig y) (g2 : ∀ y ∈ tI Tc b, m_ig y) : ∃ c : Bool, F_X4_sameItems B 2 23 (nI b) S = some (.inl (some (i_b c)), S) ∧ (c = true ↔ tI T b = tI Tc b) := by
  obtain ⟨l3, l4, l9, l10, l11, ln⟩ := hL
  obtain ⟨m3, m4, m9, m10, m11, mn⟩ := hM
  unfold F_X4_sameItems
  rw [m_gd (m_inb hb (by omega)), m_lt, m_ix (by omega), l3, m_gd (m_inb hb (by omega)), m_lt, m3]
  by_cases e : (tI T b).length = (tI Tc b).length
  · rw [if_pos (by rw [e])]
    have e14 : nI b * 14 = nI (b * 14) := by rw [m_c14, pk_mul]
    have bnd : nI b * 14 + nI (tI T b).length = nI (b * 14 + (tI T b).length) := by rw [m_c14, pk_mul, nI_add]
    have step : ∀ n i (hi : i < (tI T b).length), F_X4_sameItems_22 B 2 23 (n + 1) (nI b) (nI (b * 14 + i)) S = if (tI T b)[i]? = (tI Tc b)[i]? then F_X4_sameItems_22 B 2 23 n (nI b) (nI (b * 14 + (i + 1))) S else some (.inl (some 0), S) := fun n i hi => by
      have hi2 : i < (tI Tc b).length := by omega
      have hx := List.getElem?_eq_getElem hi
      have hy := List.getElem?_eq_getElem hi2
      have gx := g1 _ (List.getElem_mem hi)
      have gy := g2 _ (List.getElem_mem hi2)
      have iz : z_inb (nI (b * 14 + i)) (14 * B) = true := m_inb (by omega) (by omega)
      have xz : z_ix (nI (b * 14 + i)) = b * 14 + i := m_ix (by omega)
      generalize (tI T b)[i] = x at hx gx
      generalize (tI Tc b)[i] = y at hy gy
      have x9 : S.1 (2 + 9) (b * 14 + i) = nI x.1 := l9 i _ (by rw [List.getElem?_map, hx]; rfl)
      have x10 : S.1 (2 + 10) (b * 14 + i) = nI x.2.1 := l10 i _ (by rw [List.getElem?_map, hx]; rfl)
      have x11 : S.1 (2 + 11) (b * 14 + i) = oI x.2.2 := l11 i _ (by rw [List.getElem?_map, hx]; rfl)
      have y9 : S.1 (23 + 9) (b * 14 + i) = nI y.1 := m9 i _ (by rw [List.getElem?_map, hy]; rfl)
      have y10 : S.1 (23 + 10) (b * 14 + i) = nI y.2.1 := m10 i _ (by rw [List.getElem?_map, hy]; rfl)
      have y11 : S.1 (23 + 11) (b * 14 + i) = oI y.2.2 := m11 i _ (by rw [List.getElem?_map, hy]; rfl)
      rw [hx, hy, F_X4_sameItems_22, m_gd (m_inb hb (by omega)), m_lt, m_ix (i := b) (by omega), show S.1 (2 + 3) b = nI (tI T b).length from l3, bnd, if_neg (nI_ge (by omega) (by omega)), m_gd iz, m_lt, xz, x9, m_gd iz, m_lt, y9]
      by_cases k1 : nI x.1 = nI y.1
      · rw [if_pos k1, m_gd iz, m_lt, x10, m_gd iz, m_lt, y10]
        by_cases k2 : nI x.2.1 = nI y.2.1
        · rw [if_pos k2, m_gd iz, m_lt, x11, m_gd iz, m_lt, y11]
          by_cases k3 : oI x.2.2 = oI y.2.2
          · rw [if_pos k3, if_pos (by rw [it_eq gx gy k1 k2 k3]), nI_1]; rfl
          · rw [if_neg k3, if_neg (fun z => k3 (by rw [Option.some.inj z])), F_X4_sameItems_82, m_gd (by decide)]
        · rw [if_neg k2, if_neg (fun z => k2 (by rw [Option.some.inj z])), F_X4_sameItems_82, m_gd (by decide)]
      · rw [if_neg k1, if_neg (fun z => k1 (by rw [Option.some.inj z])), F_X4_sameItems_82, m_gd (by decide)]
    obtain ⟨c, c1, c2⟩ := z_all (N := (tI T b).length) (P := fun i => (tI T b)[i]? = (tI Tc b)[i]?) (S := S) (G := fun n i => F_X4_sameItems_22 B 2 23 n (nI b) (nI (b * 14 + i)) S) (fun n i hi hp => by show F_X4_sameItems_22 B 2 23 (n + 1) (nI b) (nI (b * 14 + i)) S = _; rw [step n i hi, if_pos hp]) (fun n i hi hp => by show F_X4_sameItems_22 B 2 23 (n + 1) (nI b) (nI (b * 14 + i)) S = _; rw [step n i hi, if_neg hp]) (fun n => by show F_X4_sameItems_22 B 2 23 (n + 1) (nI b) (nI (b * 14 + (tI T b).length)) S = _; rw [F_X4_sameItems_22, m_gd (m_inb hb (by omega)), m_lt, m_ix (i := b) (by omega), show S.1 (2 + 3) b = nI (tI T b).length from l3, bnd, if_pos (nI_le (Nat.le_refl _) (by omega)), m_gd (by decide)]) (tI T b).length z_n 0 (by omega) (by unfold z_n; omega)
    refine ⟨c, by rw [e14]; exact c1, c2.trans ⟨fun w => ?_, fun w j _ _ => by rw [w]⟩⟩
    exact list_eq e (fun i hi x y hx hy => by have := w i (Nat.zero_le _) hi; rw [hx, hy] at this; exact Option.some.inj this)
  · rw [if_neg (fun z => e ((nI_eq (by omega) (by omega)).mp z)), m_gd (by decide)]
    exact ⟨false, rfl, ⟨fun w => (by cases w), fun w => absurd (by rw [w]) e⟩⟩
theorem C_sameBytes {a1 m1 a2 m2 o k : Nat} (h1 : o + k ≤ m1) (h2 : o + k ≤ m2) (hm1 : m1 < 2 ^ 31) (hm2 : m2 < 2 ^ 31) (hk : k < 100000) : ∃ c : Bool, F_X0_sameBytes B a1 m1 a2 m2 (nI o) (nI k) S = some (.inl (some (i_b c)), S) ∧ (c = true ↔ ∀ r, r < k → S.1 a1 (o + r) = S.1 a2 (o + r)) := by
  unfold F_X0_sameBytes
  have step : ∀ n i, i < k → F_X0_sameBytes_3 B a1 m1 a2 m2 (n + 1) (nI o) (nI k) (nI (o + i)) S = if S.1 a1 (o + i) = S.1 a2 (o + i) then F_X0_sameBytes_3 B a1 m1 a2 m2 n (nI o) (nI k) (nI (o + (i + 1))) S else some (.inl (some 0), S) := fun n i hi => by
    rw [F_X0_sameBytes_3, nI_add, if_neg (nI_ge (by omega) (by omega)), m_gd (m_inb (by omega) (by omega)), m_lt, m_ix (by omega), m_gd (m_inb (by omega) (by omega)), m_lt]
    by_cases e : S.1 a1 (o + i) = S.1 a2 (o + i)
    · rw [if_pos e, if_pos e, nI_1]; rfl
    · rw [if_neg e, if_neg e, m_gd (by decide)]
  obtain ⟨c, c1, c2⟩ := z_all (N := k) (P := fun i => S.1 a1 (o + i) = S.1 a2 (o + i)) (S := S) (G := fun n i => F_X0_sameBytes_3 B a1 m1 a2 m2 n (nI o) (nI k) (nI (o + i)) S) (fun n i hi hp => by show F_X0_sameBytes_3 B a1 m1 a2 m2 (n + 1) (nI o) (nI k) (nI (o + i)) S = _; rw [step n i hi, if_pos hp]) (fun n i hi hp => by show F_X0_sameBytes_3 B a1 m1 a2 m2 (n + 1) (nI o) (nI k) (nI (o + i)) S = _; rw [step n i hi, if_neg hp]) (fun n => by show F_X0_sameBytes_3 B a1 m1 a2 m2 (n + 1) (nI o) (nI k) (nI (o + k)) S = _; rw [F_X0_sameBytes_3, nI_add, if_pos (nI_le (Nat.le_refl _) (by omega)), m_gd (by decide)]) k z_n 0 (by omega) (by unfold z_n; omega)
  exact ⟨c, c1, c2.trans ⟨fun w r hr => w r (Nat.zero_le _) hr, fun w j _ hj => w j hj⟩⟩
theorem C_samePointers {o k : Nat} (ho : o ≤ 60) (hk : k ≤ 16) : ∃ c : Bool, F_X2_samePointers B 14 35 (nI o) (nI k) S = some (.inl (some (i_b c)), S) ∧ (c = true ↔ ∀ r, r < k → S.1 19 (o * 16 + r) = S.1 40 (o * 16 + r)) := by
  unfold F_X2_samePointers
  have e16 : nI o * 16 = nI (o * 16) := by rw [m_c16, pk_mul]
  have step : ∀ n i, i < k → F_X2_samePointers_6 B 14 35 (n + 1) (nI o) (nI k) (nI (o * 16 + i)) S = if S.1 19 (o * 16 + i) = S.1 40 (o * 16 + i) then F_X2_samePointers_6 B 14 35 n (nI o) (nI k) (nI (o * 16 + (i + 1))) S else some (.inl (some 0), S) := fun n i hi => by
    rw [F_X2_samePointers_6, e16, nI_add, if_neg (nI_ge (by omega) (by omega)), m_gd (m_inb (by omega) (by omega)), m_lt, m_ix (by omega), m_gd (m_inb (by omega) (by omega)), m_lt]
    by_cases e : S.1 19 (o * 16 + i) = S.1 40 (o * 16 + i)
    · rw [if_pos e, if_pos (show S.1 (14 + 5) (o * 16 + i) = S.1 (35 + 5) (o * 16 + i) from e), nI_1]; rfl
    · rw [if_neg e, if_neg (show ¬ S.1 (14 + 5) (o * 16 + i) = S.1 (35 + 5) (o * 16 + i) from e), m_gd (by decide)]
  obtain ⟨c, c1, c2⟩ := z_all (N := k) (P := fun i => S.1 19 (o * 16 + i) = S.1 40 (o * 16 + i)) (S := S) (G := fun n i => F_X2_samePointers_6 B 14 35 n (nI o) (nI k) (nI (o * 16 + i)) S) (fun n i hi hp => by show F_X2_samePointers_6 B 14 35 (n + 1) (nI o) (nI k) (nI (o * 16 + i)) S = _; rw [step n i hi, if_pos hp]) (fun n i hi hp => by show F_X2_samePointers_6 B 14 35 (n + 1) (nI o) (nI k) (nI (o * 16 + i)) S = _; rw [step n i hi, if_neg hp]) (fun n => by show F_X2_samePointers_6 B 14 35 (n + 1) (nI o) (nI k) (nI (o * 16 + k)) S = _; rw [F_X2_samePointers_6, e16, nI_add, if_pos (nI_le (Nat.le_refl _) (by omega)), m_gd (by decide)]) k z_n 0 (by omega) (by unfold z_n; omega)
  rw [e16]
  exact ⟨c, c1, c2.trans ⟨fun w r hr => w r (Nat.zero_le _) hr, fun w j _ hj => w j hj⟩⟩
end SM
