/-! An item's size changes: both sides, in one row each. -/
def a_shp (B : Nat) (T : m_T) (k a b : Nat) : Option m_T := if a = b then some T else if a = 0 then a_put B T (k, b, none) else if b = 0 then some (a_del B T k) else if a < b then a_more B T k b else some (a_less B T k b)
def i_at (T : m_T) (k a : Nat) : Prop := (a = 0 → ∀ y ∈ flat T, y.1 ≠ k) ∧ (a ≠ 0 → (k, a, none) ∈ flat T)
theorem cp_set {p : m_It → Bool} {k b : Nat} : ∀ {L : List m_It}, (∀ y ∈ L, y.1 = k → p y = false ∧ p (y.1, b, y.2.2) = false) → (s_set k b L).countP p = L.countP p
  | [], _ => rfl
  | a :: L, h => by
    rw [s_set]
    split
    · rename_i e
      obtain ⟨h1, h2⟩ := h a List.mem_cons_self e
      rw [List.countP_cons, List.countP_cons, h1, h2]
    · rw [List.countP_cons, List.countP_cons, cp_set (fun y hy => h y (List.mem_cons_of_mem _ hy))]
theorem ss_ne {k b : Nat} {y : m_It} (hy : y.1 ≠ k) : ∀ {L : List m_It}, y ∈ s_set k b L ↔ y ∈ L
  | [] => Iff.rfl
  | a :: L => by
    rw [s_set]
    split
    · rename_i e
      rw [List.mem_cons, List.mem_cons]
      refine ⟨fun w => w.elim (fun z => absurd (by rw [z]; exact e) hy) Or.inr, fun w => w.elim (fun z => absurd (by rw [z]; exact e) hy) Or.inr⟩
    · rw [List.mem_cons, List.mem_cons, ss_ne hy]
theorem ss_at {k a b : Nat} : ∀ {L : List m_It}, m_so L → (k, a, none) ∈ L → (k, b, none) ∈ s_set k b L
  | [], _, h => by cases h
  | x :: L, hs, h => by
    rw [s_set]
    split
    · rename_i e
      have : x = (k, a, none) := so_uniq hs List.mem_cons_self h e
      rw [this]; exact List.mem_cons_self
    · rename_i e
      rcases List.mem_cons.mp h with w | w
      · rw [← w] at e; exact absurd rfl e
      · exact List.mem_cons_of_mem _ (ss_at (List.pairwise_cons.mp hs).2 w)
section SH
variable {B J : Nat} {S S' S0 S1 S2 : z_S} {A : m_A} {T T' T1 T2 : m_T} {O O' : m_O} {f f' g : Nat → Int32}
theorem shp_ok {k a b : Nat} (hB : B ≤ 96) (h : m_ok B T) (hi : i_at T k a) (ha : a ≤ 40) (hb : b ≤ 40) (hk : k < 244000) (h2 : ∃ y ∈ flat T, y.1 ≠ k) (hs : a_shp B T k a b = some T') :
    m_ok B T' ∧ i_at T' k b ∧ (∀ y : m_It, y.1 ≠ k → (y ∈ flat T' ↔ y ∈ flat T)) ∧ u4 T T' ∧ ((∀ b, 1 ≤ b → tU T b ≠ 1) → ∀ b, 1 ≤ b → tU T' b ≠ 1) ∧ ∀ p : m_It → Bool, (∀ c, p (k, c, none) = false) → (flat T').countP p = (flat T).countP p := by
  have hso := h.2.2.2
  have hal : ∀ y ∈ flat T, y.1 = k → a ≠ 0 → y = (k, a, none) := fun y hy e h0 => so_uniq hso hy (hi.2 h0) e
  unfold a_shp at hs
  split at hs
  · rename_i e
    have := Option.some.inj hs
    subst this
    exact ⟨h, e ▸ hi, fun _ _ => Iff.rfl, u4_rf, id, fun _ _ => rfl⟩
  · rename_i e
    split at hs
    · rename_i e0
      obtain ⟨k1, k2, k3⟩ := put_ok hB h ⟨by show 1 ≤ b; omega, by show b ≤ 40; omega, hk, fun o ho => by cases ho⟩ (hi.1 e0) hs
      refine ⟨k1, ⟨fun z => absurd (e0.trans z.symm) e, fun _ => by rw [k2]; exact si_mem.mpr (Or.inl rfl)⟩, fun y hy => ?_, u4_uf k3, u1_uf k3, fun p hp => ?_⟩
      · rw [k2, si_mem]
        exact ⟨fun w => w.resolve_left (fun z => hy (by rw [z])), Or.inr⟩
      · rw [k2, cp_ins, hp b]; rfl
    · rename_i e0
      have hm := hi.2 e0
      split at hs
      · rename_i eb
        have := Option.some.inj hs
        subst this
        obtain ⟨k1, k2, k3⟩ := del_ok h ⟨_, hm, rfl⟩ h2
        have k2' : flat (a_del B T k) = s_del k (flat T) := k2
        refine ⟨k1, ⟨fun _ y hy => ?_, fun z => absurd eb z⟩, fun y hy => ?_, u4_ug k3, u1_ug k3, fun p hp => ?_⟩
        · rw [k2', sd_mem hso] at hy; exact hy.2
        · rw [k2', sd_mem hso]; exact ⟨fun w => w.1, fun w => ⟨w, hy⟩⟩
        · have := cp_del (p := p) hso hm
          rw [hp a] at this
          rw [k2']
          simpa using this
      · rename_i eb
        have hsame : ∀ p : m_It → Bool, (∀ c, p (k, c, none) = false) → (s_set k b (flat T)).countP p = (flat T).countP p := fun p hp => cp_set (fun y hy e => by
          rw [hal y hy e e0]
          exact ⟨hp a, hp b⟩)
        split at hs
        · rename_i el
          obtain ⟨k1, k2, k3⟩ := more_ok hB h ⟨_, hm, rfl⟩ ⟨by omega, hb⟩ hs
          have k2' : flat T' = s_set k b (flat T) := k2
          exact ⟨k1, ⟨fun z => absurd z eb, fun _ => by rw [k2']; exact ss_at hso hm⟩, fun y hy => by rw [k2']; exact ss_ne hy, u4_uf k3, u1_uf k3, fun p hp => by rw [k2']; exact hsame p hp⟩
        · rename_i el
          have := Option.some.inj hs
          subst this
          obtain ⟨k1, k2, k3⟩ := less_ok (b := b) h ⟨_, hm, rfl⟩ ⟨by omega, hb⟩ (fun y hy e => by
            have e' : y.1 = k := e
            rw [hal y hy e' e0]; show b ≤ a; omega)
          have k2' : flat (a_less B T k b) = s_set k b (flat T) := k2
          exact ⟨k1, ⟨fun z => absurd z eb, fun _ => by rw [k2']; exact ss_at hso hm⟩, fun y hy => by rw [k2']; exact ss_ne hy, u4_ug k3, u1_ug k3, fun p hp => by rw [k2']; exact hsame p hp⟩
theorem C_shape {k a b : Nat} (hB : B ≤ 96) (h : m_ok B T) (hT : c_T B 2 S T) (hi : i_at T k a) (ha : a ≤ 40) (hb : b ≤ 40) (hk : k < 244000) (h2 : ∃ y ∈ flat T, y.1 ≠ k) :
    (∀ T', a_shp B T k a b = some T' → ∃ S', F_X4_reshape B 2 (nI k) (nI a) (nI b) S = some (.inl (some 1), S') ∧ c_T B 2 S' T' ∧ m_fr 2 S S') ∧ (a_shp B T k a b = none → ∃ S', F_X4_reshape B 2 (nI k) (nI a) (nI b) S = some (.inl (some 0), S') ∧ m_fr 2 S S') := by
  unfold a_shp
  by_cases e : a = b
  · rw [if_pos e, e]
    refine ⟨fun T' z => ?_, fun z => by cases z⟩
    have := Option.some.inj z
    subst this
    exact ⟨S, C_reshape_same, hT, m_fr_rf⟩
  · rw [if_neg e]
    by_cases e0 : a = 0
    · rw [if_pos e0, e0]
      exact C_reshape_new hB h hT ⟨by show 1 ≤ b; omega, by show b ≤ 40; omega, hk, fun o ho => by cases ho⟩
    · have hm := hi.2 e0
      have hall : ∀ y ∈ flat T, y.1 = k → y.2.1 = a := fun y hy e => by rw [so_uniq h.2.2.2 hy hm e]
      rw [if_neg e0]
      by_cases eb : b = 0
      · rw [if_pos eb, eb]
        refine ⟨fun T' z => ?_, fun z => by cases z⟩
        have := Option.some.inj z
        subst this
        exact C_reshape_del hB h hT (by omega) ⟨by omega, ha⟩ ⟨_, hm, rfl⟩ h2
      · rw [if_neg eb]
        by_cases el : a < b
        · rw [if_pos el]
          exact C_reshape_more hB h hT (by omega) (by omega) el hb ⟨_, hm, rfl⟩ hall
        · rw [if_neg el]
          refine ⟨fun T' z => ?_, fun z => by cases z⟩
          have := Option.some.inj z
          subst this
          exact C_reshape_less hB h hT (by omega) (by omega) (by omega) ha ⟨_, hm, rfl⟩ hall
theorem K_shape {k a b : Nat} (hB : B ≤ 96) (h0 : S.2.1 60 1 = nI B) (h7 : S.2.1 60 7 = 0) (h : m_ok B T) (hT : k_T B 0 0 f T) (hi : i_at T k a) (ha : a ≤ 40) (hb : b ≤ 40) (hk : k < 244000) (hk0 : k % 1000 = 0) (h2 : ∃ y ∈ flat T, y.1 ≠ k) :
    (∀ T', a_shp B T k a b = some T' → ∃ f', F_X6_resize B (nI (k / 4000)) (nI (k / 1000 % 4)) (nI a) (nI b) (z_ua S 61 f) = some (.inl none, z_ua S 61 f') ∧ k_T B 0 0 f' T' ∧ k_fr f f') ∧ (a_shp B T k a b = none → ∃ f', F_X6_resize B (nI (k / 4000)) (nI (k / 1000 % 4)) (nI a) (nI b) (z_ua S 61 f) = some (.inl none, z_ui (z_ua S 61 f') 60 7 1)) := by
  unfold a_shp
  by_cases e : a = b
  · rw [if_pos e, e]
    refine ⟨fun T' z => ?_, fun z => by cases z⟩
    have := Option.some.inj z
    subst this
    exact ⟨f, K_resize_same h7, hT, k_fr_rf⟩
  · rw [if_neg e]
    by_cases e0 : a = 0
    · rw [if_pos e0, e0]
      exact K_resize_new hB h0 h7 h hT ⟨by show 1 ≤ b; omega, by show b ≤ 40; omega, hk, fun o ho => by cases ho⟩ hk0 (hi.1 e0)
    · have hm := hi.2 e0
      have hall : ∀ y ∈ flat T, y.1 = k → y.2.1 = a := fun y hy e => by rw [so_uniq h.2.2.2 hy hm e]
      rw [if_neg e0]
      by_cases eb : b = 0
      · rw [if_pos eb, eb]
        refine ⟨fun T' z => ?_, fun z => by cases z⟩
        have := Option.some.inj z
        subst this
        exact K_resize_del hB h7 h hT (by omega) hk0 ⟨by omega, ha⟩ ⟨_, hm, rfl⟩ h2
      · rw [if_neg eb]
        by_cases el : a < b
        · rw [if_pos el]
          exact K_resize_more hB h0 h7 h hT (by omega) hk0 (by omega) el hb ⟨_, hm, rfl⟩
        · rw [if_neg el]
          refine ⟨fun T' z => ?_, fun z => by cases z⟩
          have := Option.some.inj z
          subst this
          exact K_resize_less hB h7 h hT (by omega) hk0 (by omega) (by omega) ha ⟨_, hm, rfl⟩ hall
end SH
