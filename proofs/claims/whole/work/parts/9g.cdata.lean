/-! Data blocks in the class: changeData. -/
/-- the tree and the pointers of one object behind the l-th change -/
def d_F (o l : Nat) (S S' : z_S) : Prop := m_fr 2 (z_ua S 19 (S'.1 19)) S' ∧ ∀ j, (j < o * 16 + l ∨ o * 16 + 16 ≤ j) → S'.1 19 j = S.1 19 j
section CD
variable {B J : Nat} {S S' S0 S1 S2 : z_S} {A : m_A} {T T' T1 T2 : m_T} {O O' : m_O} {f f' : Nat → Int32}
theorem d_F_tr {o l : Nat} (h1 : d_F o l S S1) (h2 : d_F o l S1 S2) : d_F o l S S2 := by
  obtain ⟨⟨a1, a2, a3⟩, a4⟩ := h1
  obtain ⟨⟨b1, b2, b3⟩, b4⟩ := h2
  refine ⟨⟨fun a ha => ?_, fun a k hk => (b2 a k hk).trans (a2 a k hk), b3.trans a3⟩, fun j hj => (b4 j hj).trans (a4 j hj)⟩
  by_cases e : a = 19
  · rw [e, z_ua_at]
  · have x1 := b1 a ha
    have x2 := a1 a ha
    rw [m_ua1, if_neg e] at x1 x2 ⊢
    exact x1.trans x2
theorem d_F_fr {o l : Nat} (h : m_fr 2 S S') : d_F o l S S' := by
  obtain ⟨h1, h2, h3⟩ := h
  have e19 : S'.1 19 = S.1 19 := h1 19 (by omega)
  refine ⟨⟨fun a ha => ?_, h2, h3⟩, fun j _ => by rw [e19]⟩
  by_cases e : a = 19
  · rw [e, z_ua_at]
  · rw [m_ua1, if_neg e]; exact h1 a ha
theorem d_F_st {o l i : Nat} {v : Int32} (h1 : l ≤ i) (h2 : i < 16) : d_F o l S (z_ua S 19 (upd (S.1 19) (o * 16 + i) v)) := by
  refine ⟨⟨fun a ha => by rw [z_ua_at], fun _ _ _ => rfl, rfl⟩, fun j hj => ?_⟩
  rw [z_ua_at, pk_un (by omega)]
theorem nI_m1_lt {a b : Nat} (h : a ≤ b) (hb : b < 2 ^ 31) : nI a - 1 < nI b := by
  cases a with
  | zero =>
    rw [show nI 0 - 1 = (-1 : Int32) from by decide]
    exact Int32.lt_of_lt_of_le (show (-1 : Int32) < 0 by decide) (m_ge0 hb)
  | succ a =>
    rw [nI_s1 (by omega)]
    exact nI_lt (by omega) hb
theorem C_cd_grow {o w : Nat} {v2 : Int32} (hB : B ≤ 96) (hB1 : 1 ≤ B) (o2 : o ≤ 60) (hw : w ≤ 16) : ∀ (k n : Nat) (S : z_S) (T : m_T) (P : List Nat), P.length + k = w → k < n → m_ok B T → P.Nodup → (∀ b ∈ P, 1 ≤ b ∧ b < B ∧ tU T b = 4) → c_T B 2 S T → m_l (S.1 19) (o * 16) (P.map nI) →
    (∀ T' P', a_tk B k T P = some (T', P') → ∃ S', F_X5_changeData_15 B n (nI o) v2 (nI w) (nI P.length) S = F_X5_changeData_65 B z_n (nI o) (nI w) (v2 - 1) S' ∧ c_T B 2 S' T' ∧ d_F o P.length S S' ∧ m_l (S'.1 19) (o * 16) (P'.map nI)) ∧
    (a_tk B k T P = none → ∃ S', F_X5_changeData_15 B n (nI o) v2 (nI w) (nI P.length) S = some (.inl (some 0), S') ∧ d_F o P.length S S')
  | 0, n, S, T, P, hk, hn, hok, hnd, hp, hT, hl => by
    obtain ⟨n, rfl⟩ : ∃ j, n = j + 1 := ⟨n - 1, by omega⟩
    refine ⟨fun T' P' ha => ?_, fun ha => by cases ha⟩
    have := Option.some.inj ha
    injection this with e1 e2
    subst e1; subst e2
    exact ⟨S, by rw [F_X5_changeData_15, if_pos (nI_le (by omega) (by omega))], hT, d_F_fr ⟨fun _ _ => rfl, fun _ _ _ => rfl, rfl⟩, hl⟩
  | k + 1, n, S, T, P, hk, hn, hok, hnd, hp, hT, hl => by
    obtain ⟨n, rfl⟩ : ∃ j, n = j + 1 := ⟨n - 1, by omega⟩
    have hu : ∀ b, b < B → tU T b < 2 ^ 31 := fun b hb => by have := hok.1.2.2.2.2.2.2.2.2.2.2.2 b hb; omega
    rw [F_X5_changeData_15, if_neg (nI_ge (by omega) (by omega)), a_tk]
    cases hf : m_free T B with
    | none =>
      have t := C_takeBlock_none (v := 4) hB hB1 hT hu hf
      rw [t, m_bn, if_pos rfl, m_gd (by decide)]
      exact ⟨fun T' P' ha => (by cases ha), fun _ => ⟨S, rfl, d_F_fr ⟨fun _ _ => rfl, fun _ _ _ => rfl, rfl⟩⟩⟩
    | some b =>
      obtain ⟨f1, f2, f3⟩ := fr0_spec hf
      obtain ⟨S1, t1, t2, t3⟩ := C_takeBlock (v := 4) hB hB1 hT hu hf (sk_fr hok.1 f3)
      have t1' : F_X4_takeBlock B 2 4 S = some (.inl (some (nI b)), S1) := t1
      have e19 : S1.1 19 = S.1 19 := t3.1 19 (by omega)
      have ei : nI o * 16 + nI P.length = nI (o * 16 + P.length) := by rw [m_c16, pk_mul, nI_add]
      have hbP : b ∉ P := fun hm => by have := (hp b hm).2.2; rw [f3] at this; cases this
      rw [t1', m_bn, if_neg (m_ne1 (by omega)), ei, m_gd (m_inb (by omega) (by omega)), m_lt, m_ix (i := o * 16 + P.length) (by omega), nI_1]
      have d1 : d_F o P.length S (z_ua S1 19 (upd (S1.1 19) (o * 16 + P.length) (nI b))) := d_F_tr (d_F_fr t3) (d_F_st (Nat.le_refl _) (by omega))
      have hlen : (P ++ [b]).length = P.length + 1 := by simp
      have ih := C_cd_grow (v2 := v2) hB hB1 o2 hw k n (z_ua S1 19 (upd (S1.1 19) (o * 16 + P.length) (nI b))) (m_take T b 4) (P ++ [b]) (by rw [hlen]; omega) (by omega) (ok_take hok f1 f3).1 (by
        rw [List.nodup_append]
        exact ⟨hnd, by simp, fun x hx y hy e => by
          have : y = b := by simpa using hy
          rw [e, this] at hx; exact hbP hx⟩) (fun c hc => by
        rcases List.mem_append.mp hc with z | z
        · have hcb : c ≠ b := fun e => hbP (e ▸ z)
          rw [show tU (m_take T b 4) c = tU T c from l_up_n hcb]; exact hp c z
        · have : c = b := by simpa using z
          rw [this]; exact ⟨f1, by omega, l_up_s⟩) (c_T_cg t2 (fun a h1 h2 => by rw [m_ua1, if_neg (by omega)]) rfl rfl) (by
        rw [z_ua_at, e19]
        intro i x hx
        rw [List.map_append, List.map_singleton] at hx
        by_cases e : i < P.length
        · rw [List.getElem?_append_left (by rw [List.length_map]; exact e)] at hx
          rw [pk_un (by omega)]; exact hl i x hx
        · rw [List.getElem?_append_right (by rw [List.length_map]; omega), List.length_map] at hx
          have hi0 : i = P.length := by
            have := (List.getElem?_eq_some_iff.mp hx).1
            simp at this; omega
          rw [hi0, Nat.sub_self] at hx
          rw [hi0, pk_us]
          exact Option.some.inj hx)
      rw [hlen] at ih
      have wk : ∀ {X Y : z_S}, d_F o (P.length + 1) X Y → d_F o P.length X Y := fun {X Y} z => ⟨z.1, fun j hj => z.2 j (by omega)⟩
      refine ⟨fun T' P' ha => ?_, fun ha => ?_⟩
      · obtain ⟨S', a1, a2, a3, a4⟩ := ih.1 T' P' ha
        exact ⟨S', a1, a2, d_F_tr d1 (wk a3), a4⟩
      · obtain ⟨S', a1, a2⟩ := ih.2 ha
        exact ⟨S', a1, d_F_tr d1 (wk a2)⟩
theorem C_cd_free {o w : Nat} {P : List Nat} (hB : B ≤ 96) (o2 : o ≤ 60) (hP : P.length ≤ 16) (hp : ∀ b ∈ P, b < B) : ∀ (m n : Nat) (S : z_S) (T : m_T), w + m ≤ P.length → m < n → c_T B 2 S T → m_l (S.1 19) (o * 16) (P.map nI) →
    ∃ S', F_X5_changeData_65 B n (nI o) (nI w) (nI (w + m) - 1) S = some (.inl (some 1), S') ∧ c_T B 2 S' (a_rel ((P.take (w + m)).drop w).reverse T) ∧ m_fr 2 S S'
  | 0, n, S, T, hm, hn, hT, hl => by
    obtain ⟨n, rfl⟩ : ∃ j, n = j + 1 := ⟨n - 1, by omega⟩
    refine ⟨S, by rw [F_X5_changeData_65, if_pos (nI_m1_lt (by omega) (by omega)), m_gd (by decide)], ?_, fun _ _ => rfl, fun _ _ _ => rfl, rfl⟩
    rw [List.drop_eq_nil_of_le (by rw [List.length_take]; omega)]
    exact hT
  | m + 1, n, S, T, hm, hn, hT, hl => by
    obtain ⟨n, rfl⟩ : ∃ j, n = j + 1 := ⟨n - 1, by omega⟩
    have hlt : w + m < P.length := by omega
    have hg : P[w + m]? = some P[w + m] := List.getElem?_eq_getElem hlt
    have v := hl (w + m) (nI P[w + m]) (by rw [List.getElem?_map, hg]; rfl)
    have hb := hp _ (List.getElem_mem hlt)
    have et : (P.take (w + (m + 1))).drop w = (P.take (w + m)).drop w ++ [P[w + m]] := by
      rw [show w + (m + 1) = w + m + 1 by omega, List.take_succ, hg, List.drop_append_of_le_length (by rw [List.length_take]; omega)]
      rfl
    generalize P[w + m] = b at v hb et
    have ei : nI o * 16 + nI (w + m) = nI (o * 16 + (w + m)) := by rw [m_c16, pk_mul, nI_add]
    have hT1 := c_T_free (b := b) hT
    obtain ⟨S', a1, a2, a3⟩ := C_cd_free (w := w) hB o2 hP hp m n (z_ua S 3 (upd (S.1 3) b 0)) (tsU T b 0) (by omega) (by omega) hT1 (by rw [m_ua1, if_neg (by decide)]; exact hl)
    have e1 : nI (w + (m + 1)) - 1 = nI (w + m) := nI_s1 (by omega)
    have e2 : nI (w + m) + -1 = nI (w + m) - 1 := (Int32.sub_eq_add_neg _ _).symm
    refine ⟨S', ?_, ?_, fun a ha => ?_, fun a k hk => a3.2.1 a k hk, a3.2.2⟩
    · rw [F_X5_changeData_65, e1, if_neg (nI_nlt (by omega) (by omega)), ei, m_gd (m_inb (by omega) (by omega)), m_lt, m_ix (by omega), v, m_gd (m_inb hb (by omega)), m_lt, m_ix (by omega), e2]
      exact a1
    · rw [et, List.reverse_append]
      exact a2
    · have := a3.1 a ha
      rw [m_ua1, if_neg (by omega)] at this
      exact this
theorem C_changeData {o w : Nat} {P : List Nat} (hB : B ≤ 96) (hB1 : 1 ≤ B) (o2 : o ≤ 60) (hw : w ≤ 16) (hP : P.length ≤ 16) (hok : m_ok B T) (hnd : P.Nodup) (hp : ∀ b ∈ P, 1 ≤ b ∧ b < B ∧ tU T b = 4) (hT : c_T B 2 S T) (hl : m_l (S.1 19) (o * 16) (P.map nI)) :
    (∀ T' P', a_data B T P w = some (T', P') → ∃ S', F_X5_changeData B (nI o) (nI P.length) (nI w) S = some (.inl (some 1), S') ∧ c_T B 2 S' T' ∧ d_F o P.length S S' ∧ m_l (S'.1 19) (o * 16) (P'.map nI)) ∧
    (a_data B T P w = none → ∃ S', F_X5_changeData B (nI o) (nI P.length) (nI w) S = some (.inl (some 0), S') ∧ d_F o P.length S S') := by
  have hz : z_n = 99999 + 1 := rfl
  unfold F_X5_changeData a_data
  by_cases e : P.length ≤ w
  · rw [if_pos e]
    obtain ⟨g1, g2⟩ := C_cd_grow (v2 := nI P.length) hB hB1 o2 hw (w - P.length) z_n S T P (by omega) (by unfold z_n; omega) hok hnd hp hT hl
    refine ⟨fun T' P' ha => ?_, g2⟩
    obtain ⟨S', a1, a2, a3, a4⟩ := g1 T' P' ha
    refine ⟨S', ?_, a2, a3, a4⟩
    rw [a1, hz, F_X5_changeData_65, if_pos (nI_m1_lt e (by omega)), m_gd (by decide)]
  · rw [if_neg e]
    refine ⟨fun T' P' ha => ?_, fun ha => by cases ha⟩
    have := Option.some.inj ha
    injection this with e1 e2
    subst e1; subst e2
    obtain ⟨S', a1, a2, a3⟩ := C_cd_free (w := w) (P := P) hB o2 hP (fun b hb => (hp b hb).2.1) (P.length - w) z_n S T (by omega) (by unfold z_n; omega) hT hl
    rw [show w + (P.length - w) = P.length by omega] at a1 a2
    rw [List.take_length] at a2
    refine ⟨S', ?_, a2, d_F_fr a3, ?_⟩
    · have h15 : F_X5_changeData_15 B z_n (nI o) (nI P.length) (nI w) (nI P.length) S = F_X5_changeData_65 B z_n (nI o) (nI w) (nI P.length - 1) S := by
        rw [hz, F_X5_changeData_15, if_pos (nI_le (by omega) (by omega)), hz]
      rw [h15]; exact a1
    · have e19 : S'.1 19 = S.1 19 := a3.1 19 (by omega)
      rw [e19]
      intro i x hx
      refine hl i x ?_
      rw [List.map_take, List.getElem?_take] at hx
      split at hx
      · exact hx
      · cases hx
end CD
