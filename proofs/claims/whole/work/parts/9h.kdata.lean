/-! Data blocks in the reference: taken and freed in lay and in unlink. -/
/-- the tree, one object's count and pointers -/
def k_D (o : Nat) (f f' : Nat → Int32) : Prop := ∀ j, ((96 ≤ j ∧ j < 3756) ∨ 13078 ≤ j) → j ≠ 279 + o → ¬ (340 + 16 * o ≤ j ∧ j < 356 + 16 * o) → f' j = f j
section KD
variable {B J X Y : Nat} {S S' S0 S1 S2 : z_S} {A : m_A} {T T' T1 T2 : m_T} {O O' : m_O} {f f' g : Nat → Int32}
theorem k_D_tr {o : Nat} (h1 : k_D o f f') (h2 : k_D o f' g) : k_D o f g := fun j a b c => (h2 j a b c).trans (h1 j a b c)
theorem k_D_fr {o : Nat} (h : k_fr f f') : k_D o f f' := fun j a _ _ => h j a
theorem k_T_take4 {b : Nat} (hB : B ≤ 96) (hT : k_T B X Y f T) (hb : b < B) (hXb : tX T ≠ b) : k_T B X Y (upd (upd (upd f b 1) (3756 + b) 0) (3852 + b) 0) (m_take T b 4) := by
  obtain ⟨g1, g2, g3, g4, g5, g6, g7, g8⟩ := hT
  have eU : tU (m_take T b 4) = va_up (tU T) b 4 := rfl
  have eH : tH (m_take T b 4) = va_up (tH T) b 0 := rfl
  have eI : tI (m_take T b 4) = va_up (tI T) b [] := rfl
  have eK : tK (m_take T b 4) = va_up (tK T) b [] := rfl
  have eP : tP (m_take T b 4) = va_up (tP T) b none := rfl
  have eR : tR (m_take T b 4) = tR T := rfl
  have eX : tX (m_take T b 4) = tX T := rfl
  have ho : ∀ j, j ≠ b → j ≠ 3756 + b → j ≠ 3852 + b → upd (upd (upd f b 1) (3756 + b) 0) (3852 + b) 0 j = f j := fun j h1 h2 h3 => by rw [pk_un h3, pk_un h2, pk_un h1]
  have kb : k_h (m_take T b 4) b = 0 := by unfold k_h; rw [eU, l_up_s]; rfl
  have kn : ∀ c, c ≠ b → k_h (m_take T b 4) c = k_h T c := fun c hc => by unfold k_h; rw [eU, l_up_n hc, eH, l_up_n hc]
  have ne : ∀ c u, tU (m_take T b 4) c = u → u ≠ 4 → c ≠ b := fun c u h1 h2 e => by rw [e, eU, l_up_s] at h1; exact h2 h1.symm
  refine ⟨fun c hc => ?_, fun c hc => ?_, fun c hc hcu => ?_, fun c hc hY hcu => ?_, fun c hc hX0 hcu => ?_, fun g hg => ?_, ?_, ?_⟩
  · by_cases e : c = b
    · rw [e, pk_un (by omega), pk_un (by omega), pk_us, eU, l_up_s, if_pos ⟨hb, by decide⟩]; rfl
    · rw [ho c e (by omega) (by omega), eU, l_up_n e]; exact g1 c hc
  · by_cases e : c = b
    · rw [e, pk_un (by omega), pk_us, kb]; rfl
    · rw [ho _ (by omega) (by omega) (by omega), kn c e]; exact g2 c hc
  · have e := ne c 2 hcu (by decide)
    rw [eU, l_up_n e] at hcu
    rw [eI, l_up_n e]
    obtain ⟨q1, q2, q3⟩ := g3 c hc hcu
    refine ⟨by rw [ho _ (by omega) (by omega) (by omega)]; exact q1, fun a ha => m_l_kept (q2 a ha) (fun j hj => ?_), q3⟩
    exact ho _ (by omega) (by omega) (by omega)
  · have e := ne c 3 hcu (by decide)
    rw [eU, l_up_n e] at hcu
    rw [eK, l_up_n e]
    obtain ⟨q1, q2, q3⟩ := g4 c hc hY hcu
    refine ⟨by rw [ho _ (by omega) (by omega) (by omega)]; exact q1, m_l_kept q2 (fun j hj => ?_), q3⟩
    exact ho _ (by omega) (by omega) (by omega)
  · have e : c ≠ b := by
      rcases hcu with z | z
      · exact ne c 2 z (by decide)
      · exact ne c 3 z (by decide)
    rw [eU, l_up_n e] at hcu
    rw [ho _ (by omega) (by omega) (by omega), eP, l_up_n e]
    exact g5 c hc hX0 hcu
  · obtain ⟨q1, q2, q3⟩ := g6 g hg
    rw [eR]
    refine ⟨by rw [ho _ (by omega) (by omega) (by omega)]; exact q1, m_l_kept q2 (fun j hj => ?_), q3⟩
    exact ho _ (by omega) (by omega) (by omega)
  · rw [ho _ (by omega) (by omega) (by omega), eX]; exact g7
  · rw [ho _ (by omega) (by omega) (by omega), eX, eH, l_up_n hXb]; exact g8
theorem K_lay_grow {o w : Nat} {v2 v3 v4 : Int32} (hB : B ≤ 96) (hB1 : 1 ≤ B) (o1 : 1 ≤ o) (o2 : o ≤ 60) (hw : w ≤ 16) (h0 : S.2.1 60 1 = nI B) (h7 : S.2.1 60 7 = 0) : ∀ (k n : Nat) (f : Nat → Int32) (T : m_T) (P : List Nat), P.length + k = w → k + 1 < n → m_ok B T → k_T B 0 0 f T → f (279 + o) = nI P.length → m_l f (340 + 16 * o) (P.map nI) →
    (∀ T' P', a_tk B k T P = some (T', P') → ∃ f', F_X6_lay_32 B n (nI o) v2 v3 v4 (nI w) (z_ua S 61 f) = F_X6_lay_114 B (nI o) v2 v3 v4 (nI w) (z_ua S 61 f') ∧ k_T B 0 0 f' T' ∧ f' (279 + o) = nI w ∧ m_l f' (340 + 16 * o) (P'.map nI) ∧ k_D o f f') ∧
    (a_tk B k T P = none → ∃ f', F_X6_lay_32 B n (nI o) v2 v3 v4 (nI w) (z_ua S 61 f) = some (.inl none, z_ui (z_ua S 61 f') 60 7 1))
  | 0, n, f, T, P, hk, hn, hok, hT, hc, hl => by
    obtain ⟨n, rfl⟩ : ∃ j, n = j + 1 := ⟨n - 1, by omega⟩
    refine ⟨fun T' P' ha => ?_, fun ha => by cases ha⟩
    have := Option.some.inj ha
    injection this with e1 e2
    subst e1; subst e2
    have e279 : (279 : Int32) + nI o = nI (279 + o) := by rw [m_c279, nI_add]
    have hPw : P.length = w := by omega
    exact ⟨f, by rw [F_X6_lay_32, e279, m_gd (m_inb (by omega) (by omega)), m_lt, m_ix (by omega), z_ua_at, hc, if_pos (nI_le (by omega) (by omega))], hT, by rw [hc, hPw], hl, fun _ _ _ _ => rfl⟩
  | k + 1, n, f, T, P, hk, hn, hok, hT, hc, hl => by
    obtain ⟨n, rfl⟩ : ∃ j, n = j + 2 := ⟨n - 2, by omega⟩
    have e279 : (279 : Int32) + nI o = nI (279 + o) := by rw [m_c279, nI_add]
    have e340 : ((340 : Int32) + 16 * nI o) + nI P.length = nI (340 + 16 * o + P.length) := by rw [show (340 : Int32) = nI 340 from rfl, m_c16, pk_mul, nI_add, nI_add]
    have h7' : (z_ua S 61 f).2.1 60 7 = 0 := h7
    rw [F_X6_lay_32, e279, m_gd (m_inb (by omega) (by omega)), m_lt, m_ix (i := 279 + o) (by omega), z_ua_at, hc, if_neg (nI_ge (by omega) (by omega)), if_pos h7', a_tk]
    cases hf : m_free T B with
    | none =>
      have t := KT_take_none (S := S) hB hB1 hT h0 hf
      have c1 : (z_ui (z_ua S 61 f) 60 7 1).1 61 = f := by
        show (z_ua S 61 f).1 61 = f
        exact z_ua_at
      rw [t, m_bn, m_gd (m_inb (by omega) (by omega)), m_lt, c1, hc, e340, m_gd (m_inb (by omega) (by omega)), m_lt, m_gd (m_inb (by omega) (by omega)), m_lt, m_ix (i := 340 + 16 * o + P.length) (by omega), z_ua_at, pk_un (by omega), hc]
      have h8 : ∀ g, ¬ (z_ua (z_ui (z_ua S 61 f) 60 7 1) 61 g).2.1 60 7 = 0 := fun g => by
        show ¬ (z_ui (z_ua S 61 f) 60 7 1).2.1 60 7 = 0
        rw [m_ui2, if_pos rfl, if_pos rfl]; decide
      rw [if_neg (h8 _), F_X6_lay_109, m_gd (m_inb (by omega) (by omega)), m_lt, m_ix (i := 279 + o) (by omega), z_ua_at, z_ua_ua, F_X6_lay_32, e279, m_gd (m_inb (by omega) (by omega)), m_lt, m_ix (i := 279 + o) (by omega), z_ua_at, pk_us, show nI P.length + 0 = nI P.length from Int32.add_zero _, if_neg (nI_ge (by omega) (by omega)), if_neg (h8 _), F_X6_lay_114, if_neg (h8 _)]
      refine ⟨fun T' P' ha => (by cases ha), fun _ => ⟨_, by rw [show ∀ g, z_ua (z_ui (z_ua S 61 f) 60 7 1) 61 g = z_ui (z_ua (z_ua S 61 f) 61 g) 60 7 1 from fun _ => rfl, z_ua_ua]⟩⟩
    | some b =>
      obtain ⟨f1, f2, f3⟩ := fr0_spec hf
      have hXb : tX T ≠ b := fun e => sk_fr hok.1 f3 (e ▸ (sk_root hok.1).1)
      have t := KT_take (S := S) hB hB1 hT h0 hf
      have t4 := k_T_take4 (b := b) hB hT (by omega) hXb
      have q : ∀ j, ((96 ≤ j ∧ j < 3756) ∨ 13078 ≤ j) → upd (upd (upd f b 1) (3756 + b) 0) (3852 + b) 0 j = f j := fun j hj => by rw [pk_un (by omega), pk_un (by omega), pk_un (by omega)]
      generalize upd (upd (upd f b 1) (3756 + b) 0) (3852 + b) 0 = f2 at t t4 q
      have h8 : ∀ g, (z_ua S 61 g).2.1 60 7 = 0 := fun g => h7
      rw [t, m_bn, m_gd (m_inb (by omega) (by omega)), m_lt, z_ua_at, q _ (by omega), hc, e340, m_gd (m_inb (by omega) (by omega)), m_lt, m_gd (m_inb (by omega) (by omega)), m_lt, m_ix (i := 340 + 16 * o + P.length) (by omega), z_ua_at, z_ua_ua, pk_un (by omega), q _ (by omega), hc, if_pos (h8 _), F_X6_lay_109, m_gd (m_inb (by omega) (by omega)), m_lt, m_ix (i := 279 + o) (by omega), z_ua_at, z_ua_ua, nI_1]
      have hlen : (P ++ [b]).length = P.length + 1 := by simp
      have fr3 : k_D o f (upd (upd f2 (340 + 16 * o + P.length) (nI b)) (279 + o) (nI (P.length + 1))) := fun j a1 a2 a3 => by
        rw [pk_un a2, pk_un (by omega)]; exact q j a1
      have ih := K_lay_grow (v2 := v2) (v3 := v3) (v4 := v4) hB hB1 o1 o2 hw h0 h7 k (n + 1) (upd (upd f2 (340 + 16 * o + P.length) (nI b)) (279 + o) (nI (P.length + 1))) (m_take T b 4) (P ++ [b]) (by rw [hlen]; omega) (by omega) (ok_take hok f1 f3).1 (k_T_fr hB t4 (fun j hj => by rw [pk_un (by omega), pk_un (by omega)])) (by rw [pk_us, hlen]) (by
        intro i x hx
        rw [List.map_append, List.map_singleton] at hx
        have hi16 : i < 16 := by
          have := (List.getElem?_eq_some_iff.mp hx).1
          simp at this; omega
        rw [pk_un (by omega)]
        by_cases e : i < P.length
        · rw [List.getElem?_append_left (by rw [List.length_map]; exact e)] at hx
          rw [pk_un (by omega), q _ (by omega)]; exact hl i x hx
        · rw [List.getElem?_append_right (by rw [List.length_map]; omega), List.length_map] at hx
          have hi0 : i = P.length := by
            have := (List.getElem?_eq_some_iff.mp hx).1
            simp at this; omega
          rw [hi0, Nat.sub_self] at hx
          rw [hi0, pk_us]
          exact Option.some.inj hx)
      refine ⟨fun T' P' ha => ?_, fun ha => ih.2 ha⟩
      obtain ⟨f', a1, a2, a3, a4, a5⟩ := ih.1 T' P' ha
      exact ⟨f', a1, a2, a3, a4, k_D_tr fr3 a5⟩
theorem K_lay_free {o w : Nat} {v2 v3 v4 : Int32} {P : List Nat} (hB : B ≤ 96) (o1 : 1 ≤ o) (o2 : o ≤ 60) (hP : P.length ≤ 16) (hp : ∀ b ∈ P, b < B) : ∀ (m n : Nat) (f : Nat → Int32) (T : m_T), w + m ≤ P.length → m < n → k_T B 0 0 f T → f (279 + o) = nI (w + m) → m_l f (340 + 16 * o) (P.map nI) →
    ∃ f', F_X6_lay_122 B n (nI o) v2 v3 v4 (nI w) (z_ua S 61 f) = F_X6_lay_185 B z_n (nI o) v2 v3 v4 (nI w) 0 (z_ua S 61 f') ∧ k_T B 0 0 f' (a_rel ((P.take (w + m)).drop w).reverse T) ∧ f' (279 + o) = nI w ∧ m_l f' (340 + 16 * o) (P.map nI) ∧ k_D o f f'
  | 0, n, f, T, hm, hn, hT, hc, hl => by
    obtain ⟨n, rfl⟩ : ∃ j, n = j + 1 := ⟨n - 1, by omega⟩
    have e279 : (279 : Int32) + nI o = nI (279 + o) := by rw [m_c279, nI_add]
    refine ⟨f, by rw [F_X6_lay_122, e279, m_gd (m_inb (by omega) (by omega)), m_lt, m_ix (by omega), z_ua_at, hc, if_pos (nI_le (by omega) (by omega))], ?_, hc, hl, fun _ _ _ _ => rfl⟩
    rw [List.drop_eq_nil_of_le (by rw [List.length_take]; omega)]
    exact hT
  | m + 1, n, f, T, hm, hn, hT, hc, hl => by
    obtain ⟨n, rfl⟩ : ∃ j, n = j + 1 := ⟨n - 1, by omega⟩
    have e279 : (279 : Int32) + nI o = nI (279 + o) := by rw [m_c279, nI_add]
    have e340 : ((340 : Int32) + 16 * nI o) + nI (w + m) = nI (340 + 16 * o + (w + m)) := by rw [show (340 : Int32) = nI 340 from rfl, m_c16, pk_mul, nI_add, nI_add]
    have hlt : w + m < P.length := by omega
    have hg : P[w + m]? = some P[w + m] := List.getElem?_eq_getElem hlt
    have v := hl (w + m) (nI P[w + m]) (by rw [List.getElem?_map, hg]; rfl)
    have hb := hp _ (List.getElem_mem hlt)
    have et : (P.take (w + (m + 1))).drop w = (P.take (w + m)).drop w ++ [P[w + m]] := by
      rw [show w + (m + 1) = w + m + 1 by omega, List.take_succ, hg, List.drop_append_of_le_length (by rw [List.length_take]; omega)]
      rfl
    generalize P[w + m] = b at v hb et
    have e1 : nI (w + (m + 1)) - 1 = nI (w + m) := nI_s1 (by omega)
    have t1 : k_T B 0 0 (upd f (279 + o) (nI (w + m))) T := k_T_fr hB hT (fun j hj => pk_un (by omega))
    obtain ⟨f2, a1, a2, a3⟩ := KT_free (S := S) (b := b) (Y' := 0) hB t1 hb (Or.inl rfl)
    obtain ⟨f', b1, b2, b3, b4, b5⟩ := K_lay_free (w := w) (v2 := v2) (v3 := v3) (v4 := v4) hB o1 o2 hP hp m n f2 (tsU T b 0) (by omega) (by omega) a2 (by rw [a3 _ (by omega), pk_us]) (m_l_kept hl (fun i hi => by rw [List.length_map] at hi; rw [a3 _ (by omega), pk_un (by omega)]))
    refine ⟨f', ?_, by rw [et, List.reverse_append]; exact b2, b3, b4, fun j c1 c2 c3 => by rw [b5 j c1 c2 c3, a3 j c1, pk_un c2]⟩
    rw [F_X6_lay_122, e279, m_gd (m_inb (by omega) (by omega)), m_lt, m_ix (i := 279 + o) (by omega), z_ua_at, hc, if_neg (nI_ge (by omega) (by omega)), m_gd (m_inb (by omega) (by omega)), m_lt, m_gd (m_inb (by omega) (by omega)), m_lt, e1, z_ua_ua, m_gd (m_inb (by omega) (by omega)), m_lt, z_ua_at, pk_us, e340, m_gd (m_inb (by omega) (by omega)), m_lt, m_ix (i := 340 + 16 * o + (w + m)) (by omega), pk_un (by omega), v, a1, m_bo]
    exact b1
end KD
