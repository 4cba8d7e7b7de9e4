/-! The reference's tree over lists: what its one array holds; items carried, children put in and taken out, rows. -/
def k_h (T : m_T) (b : Nat) : Nat := if tU T b = 2 then 1 else if tU T b = 3 then tH T b + 1 else 0
def k_in (f : Nat → Int32) (b : Nat) (L : List Nat) : Prop := f (3852 + b) = nI L.length ∧ m_l f (4044 + 6 * b) (L.map nI) ∧ L.length ≤ 6
/-- X: a node whose parent isn't told yet; Y: a node whose children aren't told any more (0: none) -/
def k_T (B X Y : Nat) (f : Nat → Int32) (T : m_T) : Prop :=
  (∀ b, b < 96 → f b = nI (if b < B ∧ tU T b ≠ 0 then 1 else 0)) ∧ (∀ b, b < B → f (3756 + b) = nI (k_h T b)) ∧ (∀ b, b < B → tU T b = 2 → k_lf f b (tI T b)) ∧ (∀ b, b < B → b ≠ Y → tU T b = 3 → k_in f b (tK T b)) ∧ (∀ b, b < B → b ≠ X → (tU T b = 2 ∨ tU T b = 3) → f (3948 + b) = oI (tP T b)) ∧
  (∀ h, h < 8 → f (13068 + h) = nI (tR T h).length ∧ m_l f (12300 + 96 * h) ((tR T h).map nI) ∧ (tR T h).length ≤ 96) ∧ f 13076 = nI (tX T) ∧ f 13077 = nI (tH T (tX T) + 1)
/-- what is no part of the tree stays -/
def k_fr (f f' : Nat → Int32) : Prop := ∀ j, ((96 ≤ j ∧ j < 3756) ∨ 13078 ≤ j) → f' j = f j
theorem k_fr_rf {f : Nat → Int32} : k_fr f f := fun _ _ => rfl
theorem k_fr_tr {f g h : Nat → Int32} (h1 : k_fr f g) (h2 : k_fr g h) : k_fr f h := fun j hj => (h2 j hj).trans (h1 j hj)
theorem k_fr_u {f : Nat → Int32} {k : Nat} {v : Int32} (h : k < 96 ∨ (3756 ≤ k ∧ k < 13078)) : k_fr f (upd f k v) := fun j hj => pk_un (by omega)
section KM6
variable {B X Y : Nat} {S : z_S} {T : m_T} {f f' : Nat → Int32}
/-- only items of leaves change -/
theorem k_T_its {T' : m_T} (hB : B ≤ 96) (h : k_T B X Y f T) (hU : tU T' = tU T) (hH : tH T' = tH T) (hK : tK T' = tK T) (hP : tP T' = tP T) (hR : tR T' = tR T) (hX : tX T' = tX T) (fr : ∀ j, (j < 4620 ∨ 12300 ≤ j) → (∀ b, b < B → tU T b = 2 → j ≠ 3852 + b) → f' j = f j) (hl : ∀ b, b < B → tU T b = 2 → k_lf f' b (tI T' b)) : k_T B X Y f' T' := by
  obtain ⟨h1, h2, h3, h4, h5, h6, h7, h8⟩ := h
  have hk : ∀ b, k_h T' b = k_h T b := fun b => by simp only [k_h, hU, hH]
  refine ⟨fun b hb => ?_, fun b hb => ?_, fun b hb hu => hl b hb (by rw [← hU]; exact hu), fun b hb hY hu => ?_, fun b hb hX0 hu => ?_, fun h hh => ?_, ?_, ?_⟩
  · rw [fr b (by omega) (fun c hc _ => by omega), hU]; exact h1 b hb
  · rw [fr _ (by omega) (fun c hc _ => by omega), hk]; exact h2 b hb
  · rw [hU] at hu
    obtain ⟨q1, q2, q3⟩ := h4 b hb hY hu
    rw [hK]
    refine ⟨?_, m_l_kept q2 (fun j hj => ?_), q3⟩
    · rw [fr _ (by omega) (fun c hc huc e => by
        have : c = b := by omega
        rw [this, hu] at huc; cases huc)]; exact q1
    · rw [List.length_map] at hj
      exact fr _ (by omega) (fun c hc _ => by omega)
  · rw [hU] at hu
    rw [fr _ (by omega) (fun c hc _ => by omega), hP]; exact h5 b hb hX0 hu
  · obtain ⟨q1, q2, q3⟩ := h6 h hh
    rw [hR]
    refine ⟨?_, m_l_kept q2 (fun j hj => ?_), q3⟩
    · rw [fr _ (by omega) (fun c hc _ => by omega)]; exact q1
    · exact fr _ (by omega) (fun c hc _ => by omega)
  · rw [fr _ (by omega) (fun c hc _ => by omega), hX]; exact h7
  · rw [fr _ (by omega) (fun c hc _ => by omega), hX, hH]; exact h8
theorem KT_carry {g i b pl : Nat} {x : m_It} (hB : B ≤ 96) (hT : k_T B X Y f T) (hg : g < B) (hb : b < B) (hgb : g ≠ b) (ug : tU T g = 2) (ub : tU T b = 2) (hx : (tI T g)[i]? = some x) (hp : pl ≤ (tI T b).length) (hn : (tI T b).length ≤ 15) :
    ∃ f', F_X6_carry B (nI g) (nI i) (nI b) (nI pl) (z_ua S 61 f) = some (.inl none, z_ua S 61 f') ∧ k_T B X Y f' (tsI (tsI T b ((tI T b).insertIdx pl x)) g ((tI T g).eraseIdx i)) ∧ k_fr f f' := by
  have ea : (z_ua S 61 f).1 61 = f := z_ua_at
  obtain ⟨f', hF, k1, k2, k3, k4⟩ := K_carry (B := B) (S := z_ua S 61 f) (g := g) (b := b) (by omega) (by omega) hgb (by rw [ea]; exact hT.2.2.1 g hg ug) (by rw [ea]; exact hT.2.2.1 b hb ub) hx hp hn
  rw [ea] at k3 k4
  rw [z_ua_ua] at hF
  refine ⟨f', hF, ?_, fun j hj => k4 j (by omega) (by omega) (by omega)⟩
  refine k_T_its hB hT rfl rfl rfl rfl rfl rfl (fun j hj hno => k4 j hj (hno g hg ug) (hno b hb ub)) (fun c hc huc => ?_)
  by_cases e1 : c = g
  · subst e1; rw [tI_eq]; exact k1
  · rw [tI_ne e1]
    by_cases e2 : c = b
    · subst e2; rw [tI_eq]; exact k2
    · rw [tI_ne e2]; exact k3 c _ e1 e2 (by omega) (hT.2.2.1 c hc huc)
theorem KT_drop {b i : Nat} (hB : B ≤ 96) (hT : k_T B X Y f T) (hb : b < B) (ub : tU T b = 2) (hi : i < (tI T b).length) :
    ∃ f', F_X6_drop B (nI b) (nI i) (z_ua S 61 f) = some (.inl none, z_ua S 61 f') ∧ k_T B X Y f' (tsI T b ((tI T b).eraseIdx i)) ∧ k_fr f f' := by
  have ea : (z_ua S 61 f).1 61 = f := z_ua_at
  obtain ⟨f', hF, k1, k3, k4⟩ := K_dropL (B := B) (S := z_ua S 61 f) (b := b) (by omega) (by rw [ea]; exact hT.2.2.1 b hb ub) hi
  rw [ea] at k3 k4
  rw [z_ua_ua] at hF
  refine ⟨f', hF, ?_, fun j hj => k4 j (by omega) (by omega)⟩
  refine k_T_its hB hT rfl rfl rfl rfl rfl rfl (fun j hj hno => k4 j hj (hno b hb ub)) (fun c hc huc => ?_)
  by_cases e1 : c = b
  · subst e1; rw [tI_eq]; exact k1
  · rw [tI_ne e1]; exact k3 c _ e1 (by omega) (hT.2.2.1 c hc huc)
/-- only children of one inner node change, and a parent -/
theorem k_T_kids {p : Nat} {L' : List Nat} {c X' : Nat} {pc : Option Nat} (hB : B ≤ 96) (h : k_T B X Y f T) (hX : X' = X ∨ X = c) (hp : p < B) (up : tU T p = 3) (hin : k_in f' p L') (hc : ∀ b, b < B → f' (3948 + b) = if b = c then oI pc else f (3948 + b)) (ho : ∀ j, j ≠ 3852 + p → (j < 4044 + 6 * p ∨ 4044 + 6 * p + 6 ≤ j) → (j < 3948 ∨ 4044 ≤ j) → f' j = f j) : k_T B X' Y f' (tsP (tsK T p L') c pc) := by
  obtain ⟨h1, h2, h3, h4, h5, h6, h7, h8⟩ := h
  refine ⟨fun b hb => ?_, fun b hb => ?_, fun b hb hu => ?_, fun b hb hY hu => ?_, fun b hb hX0 hu => ?_, fun h hh => ?_, ?_, ?_⟩
  · rw [ho b (by omega) (by omega) (by omega)]; exact h1 b hb
  · rw [ho _ (by omega) (by omega) (by omega)]; exact h2 b hb
  · have hu2 : tU T b = 2 := hu
    have hbp : b ≠ p := fun e => by rw [e, up] at hu2; cases hu2
    obtain ⟨q1, q2, q3⟩ := h3 b hb hu2
    refine ⟨?_, fun a ha => m_l_kept (q2 a ha) (fun j hj => ?_), q3⟩
    · rw [ho _ (by omega) (by omega) (by omega)]; exact q1
    · exact ho _ (by omega) (by omega) (by omega)
  · have hu2 : tU T b = 3 := hu
    by_cases e : b = p
    · subst e
      have e1 : tK (tsP (tsK T b L') c pc) b = L' := by simp [tK, tsK, tsP, va_up]
      rw [e1]; exact hin
    · have e1 : tK (tsP (tsK T p L') c pc) b = tK T b := by simp [tK, tsK, tsP, va_up, e]
      rw [e1]
      obtain ⟨q1, q2, q3⟩ := h4 b hb hY hu2
      refine ⟨?_, m_l_kept q2 (fun j hj => ?_), q3⟩
      · rw [ho _ (by omega) (by omega) (by omega)]; exact q1
      · rw [List.length_map] at hj
        exact ho _ (by omega) (by omega) (by omega)
  · have hu2 : tU T b = 2 ∨ tU T b = 3 := hu
    rw [hc b hb]
    by_cases e : b = c
    · subst e; rw [if_pos rfl]; simp [tP, tsP, va_up]
    · rw [if_neg e, h5 b hb (fun z => by rcases hX with w | w; exact hX0 (z.trans w.symm); exact e (z.trans w)) hu2]; simp [tP, tsP, tsK, va_up, e]
  · obtain ⟨q1, q2, q3⟩ := h6 h hh
    refine ⟨?_, m_l_kept q2 (fun j hj => ?_), q3⟩
    · rw [ho _ (by omega) (by omega) (by omega)]; exact q1
    · exact ho _ (by omega) (by omega) (by omega)
  · rw [ho _ (by omega) (by omega) (by omega)]; exact h7
  · rw [ho _ (by omega) (by omega) (by omega)]; exact h8
theorem KT_child {p i c X' : Nat} (hB : B ≤ 96) (hT : k_T B X Y f T) (hX : X' = X ∨ X = c) (hp : p < B) (hpY : p ≠ Y) (up : tU T p = 3) (hc : c < B) (hi : i ≤ (tK T p).length) (hn : (tK T p).length ≤ 5) :
    ∃ f', F_X6_child B (nI p) (nI i) (nI c) (z_ua S 61 f) = some (.inl none, z_ua S 61 f') ∧ k_T B X' Y f' (tsP (tsK T p ((tK T p).insertIdx i c)) c (some p)) ∧ k_fr f f' := by
  obtain ⟨q1, q2, q3⟩ := hT.2.2.2.1 p hp hpY up
  have ea : (z_ua S 61 f).1 61 = f := z_ua_at
  have hlen : ((tK T p).insertIdx i c).length = (tK T p).length + 1 := List.length_insertIdx_of_le_length hi c
  have hF := K_child (B := B) (S := z_ua S 61 f) (p := p) (c := c) (by omega) (by omega) hn hi (by rw [ea]; exact q1)
  rw [ea, z_ua_ua] at hF
  refine ⟨_, hF, k_T_kids hB hT hX hp up ⟨?_, ?_, by omega⟩ (fun b hb => ?_) (fun j j1 j2 j3 => ?_), fun j hj => ?_⟩
  · rw [pk_un (by omega), pk_us, hlen]
  · rw [m_map_ins]
    have := m_l_ins (x := nI c) (i := i) q2 (by simpa using hi)
    rw [List.length_map] at this
    refine m_l_kept this (fun j hj => ?_)
    rw [pk_un (by omega), pk_un (by omega)]
  · by_cases e : b = c
    · subst e; rw [pk_us, if_pos rfl]; rfl
    · rw [if_neg e, pk_un (by omega), pk_un (by omega), pk_un (by omega), pk_cpy_out (by omega)]
  · rw [pk_un (by omega), pk_un j1, pk_un (by omega), pk_cpy_out (by omega)]
  · rw [pk_un (by omega), pk_un (by omega), pk_un (by omega), pk_cpy_out (by omega)]
end KM6
