/-! make in the reference. -/
section MK3
variable {B J : Nat} {S S' S0 : z_S} {A : m_A} {T T1 T2 : m_T} {O : m_O} {f f' : Nat → Int32}
theorem k_O_make {d o k : Nat} (hi : m_im B T O) (h : k_O B f T O) (hd : oK O d = 1) (d1 : 1 ≤ d) (d2 : d ≤ 60) (ho : oK O o = 0) (o1 : 1 ≤ o) (o2 : o ≤ 60) (hk : k = 1 ∨ k = 2) (he : ∀ j, ((96 ≤ j ∧ j < 3756) ∨ 13078 ≤ j) → f' j = upd (upd (upd (upd (upd f (96 + o) (nI k)) (157 + o) 1) (218 + o) 0) (279 + o) 0) (218 + d) (nI (oZ O d + 1)) j) (hB : B ≤ 96) : k_O B f' T (o_make O d o k) := by
  have hod : o ≠ d := fun e => by rw [e, hd] at ho; cases ho
  obtain ⟨g1, g2, g3, g4, g5⟩ := h
  have Kn : ∀ x, x ≠ o → oK (o_make O d o k) x = oK O x := fun x hx => l_up_n hx
  have Ko : oK (o_make O d o k) o = k := l_up_s
  have Zn : ∀ x, x ≠ o → x ≠ d → oZ (o_make O d o k) x = oZ O x := fun x h1 h2 => (l_up_n h2).trans (l_up_n h1)
  have Zo : oZ (o_make O d o k) o = 0 := (l_up_n hod).trans l_up_s
  have Zd : oZ (o_make O d o k) d = oZ O d + 1 := l_up_s
  have Pn : ∀ x, x ≠ o → oP (o_make O d o k) x = oP O x := fun x hx => l_up_n hx
  have Po : oP (o_make O d o k) o = [] := l_up_s
  have Ln : ∀ x, x ≠ o → oL (o_make O d o k) x = oL O x := fun x hx => l_up_n hx
  have Lo : oL (o_make O d o k) o = 1 := l_up_s
  refine ⟨fun x x1 x2 => ?_, fun x x1 x2 hx => ?_, fun x x1 x2 hx => ?_, fun b hb hu r hr => ?_, fun x x1 x2 hx ht r hr => ?_⟩
  · rw [he _ (by omega), pk_un (by omega), pk_un (by omega), pk_un (by omega), pk_un (by omega)]
    by_cases e : x = o
    · rw [e, pk_us, Ko]
    · rw [pk_un (by omega), Kn x e]; exact g1 x x1 x2
  · rw [he (157 + x) (by omega), he (218 + x) (by omega), he (279 + x) (by omega)]
    by_cases e : x = o
    · subst e
      rw [Lo, Zo, Po]
      refine ⟨?_, ?_, ?_⟩
      · rw [pk_un (by omega), pk_un (by omega), pk_un (by omega), pk_us]; rfl
      · rw [pk_un (by omega), pk_un (by omega), pk_us]; rfl
      · rw [pk_un (by omega), pk_us]; rfl
    · rw [Kn x e] at hx
      obtain ⟨q1, q2, q3⟩ := g2 x x1 x2 hx
      rw [Ln x e, Pn x e]
      refine ⟨?_, ?_, ?_⟩
      · rw [pk_un (by omega), pk_un (by omega), pk_un (by omega), pk_un (by omega), pk_un (by omega)]; exact q1
      · by_cases e2 : x = d
        · subst e2; rw [pk_us, Zd]
        · rw [pk_un (by omega), pk_un (by omega), pk_un (by omega), pk_un (by omega), pk_un (by omega), Zn x e e2]; exact q2
      · rw [pk_un (by omega), pk_un (by omega), pk_un (by omega), pk_un (by omega), pk_un (by omega)]; exact q3
  · by_cases e : x = o
    · rw [e, Po]; exact m_l_nil
    · rw [Kn x e] at hx
      rw [Pn x e]
      have hl : (oP O x).length ≤ 16 := by
        have := hi.2.2.2.2.2.2.2.2.1 x hx
        have h2 : m_dt (oZ O x) ≤ 16 := by
          have := this.2
          unfold m_dt
          split <;> omega
        omega
      refine m_l_kept (g3 x x1 x2 hx) (fun j hj => ?_)
      rw [List.length_map] at hj
      rw [he _ (by omega), pk_un (by omega), pk_un (by omega), pk_un (by omega), pk_un (by omega), pk_un (by omega)]
  · rw [he _ (by omega), pk_un (by omega), pk_un (by omega), pk_un (by omega), pk_un (by omega), pk_un (by omega)]
    exact g4 b hb hu r hr
  · by_cases e : x = o
    · rw [e, Zo] at ht; exact absurd rfl ht
    · rw [Kn x e] at hx
      have e2 : x ≠ d := fun z => by rw [z, hd] at hx; cases hx
      rw [Zn x e e2] at ht ⊢
      rw [he _ (by omega), pk_un (by omega), pk_un (by omega), pk_un (by omega), pk_un (by omega), pk_un (by omega)]
      exact g5 x x1 x2 hx ht r hr
theorem K_make_180_no {d : Nat} {v4 : Int32} (h : KI B J S0 A) (hA : AI B J A) (hr : rK S0 S) (h7 : ¬ S.2.1 60 7 = 0) (d2 : d ≤ 60) : ∃ S1, F_X6_make_180 B (nI d) v4 S = some (.inl (some 0), S1) ∧ KI B J S1 A ∧ z_kf S0 S1 ∧ S1.2.1 60 0 = 4 := by
  have e2 : (218 : Int32) + nI d = nI (218 + d) := by rw [m_c218, nI_add]
  obtain ⟨S1, a1, a2⟩ := K_ended_no (S := z_ua S 61 (upd (S.1 61) (218 + d) (S.1 61 (218 + d) + 1))) h hA (rK_ua hr) h7
  refine ⟨S1, ?_, a2⟩
  rw [F_X6_make_180, e2, m_gd (m_inb (by omega) (by omega)), m_lt, m_ix (by omega), m_gd (m_inb (by omega) (by omega)), m_lt, a1, m_bn, if_pos rfl, F_X6_make_208]
theorem K_make_180_ok {d : Nat} {v4 : Int32} (h7 : S.2.1 60 7 = 0) (d2 : d ≤ 60) : F_X6_make_180 B (nI d) v4 (z_ua S 61 f) = some (.inl (some v4), z_ua S 61 (upd f (218 + d) (f (218 + d) + 1))) := by
  have e2 : (218 : Int32) + nI d = nI (218 + d) := by rw [m_c218, nI_add]
  have h7' : (z_ua S 61 (upd f (218 + d) (f (218 + d) + 1))).2.1 60 7 = 0 := h7
  rw [F_X6_make_180, e2, m_gd (m_inb (by omega) (by omega)), m_lt, m_ix (by omega), m_gd (m_inb (by omega) (by omega)), m_lt]
  simp only [z_ua_at, z_ua_ua]
  rw [K_ended_ok h7', m_bn, if_neg (by decide), F_X6_make_208]
theorem K_make_115 {d n o k : Nat} (h : KI B J S0 A) (hA : AI B J A) (hr : rK S0 S) (e61 : S.1 61 = S0.1 61) (h7 : S.2.1 60 7 = 0) (h0 : S.2.1 60 0 = 0) (hd : oK A.1.2 d = 1) (d1 : 1 ≤ d) (d2 : d ≤ 60) (hn : n < 1000) (hen : d_e A.1.1 d n = none) (ho : oK A.1.2 o = 0) (o1 : 1 ≤ o) (o2 : o ≤ 60) (hk : k = 1 ∨ k = 2) :
    ∃ v S2, F_X6_make_115 B (nI d) (nI n) (nI o) (nI k) (96 + nI o) S = some (.inl (some v), S2) ∧ KI B J S2 (A_make4 B A d n o k).2.2 ∧ z_kf S0 S2 ∧ S2.2.1 60 0 = nI (A_make4 B A d n o k).1 ∧ ((A_make4 B A d n o k).1 = 0 → v = (A_make4 B A d n o k).2.1) := by
  have hB := hA.1.2.1
  have hok := hA.2.1.1
  have hi := hA.2.1.2
  have hod : o ≠ d := fun e => by rw [e, hd] at ho; cases ho
  have e96 : (96 : Int32) + nI o = nI (96 + o) := by rw [m_c96, nI_add]
  have e157 : (157 : Int32) + nI o = nI (157 + o) := by rw [m_c157, nI_add]
  have e218 : (218 : Int32) + nI o = nI (218 + o) := by rw [m_c218, nI_add]
  have e279 : (279 : Int32) + nI o = nI (279 + o) := by rw [m_c279, nI_add]
  have hf4 : ∀ j, (j < 96 ∨ 340 ≤ j) → upd (upd (upd (upd (S0.1 61) (96 + o) (nI k)) (157 + o) 1) (218 + o) 0) (279 + o) 0 j = S0.1 61 j := fun j hj => by
    rw [pk_un (by omega), pk_un (by omega), pk_un (by omega), pk_un (by omega)]
  have t4 := k_T_fr hB h.2.1.1 (f' := upd (upd (upd (upd (S0.1 61) (96 + o) (nI k)) (157 + o) 1) (218 + o) 0) (279 + o) 0) (fun j hj => hf4 j (by omega))
  have d218 : upd (upd (upd (upd (S0.1 61) (96 + o) (nI k)) (157 + o) 1) (218 + o) 0) (279 + o) 0 (218 + d) = nI (oZ A.1.2 d) := by
    rw [pk_un (by omega), pk_un (by omega), pk_un (by omega), pk_un (by omega)]
    exact (h.2.1.2.2.1 d d1 d2 (by omega)).2.1
  rw [e96, F_X6_make_115, m_gd (m_inb (by omega) (by omega)), m_lt, m_ix (by omega), e157, m_gd (m_inb (by omega) (by omega)), m_lt, m_ix (by omega), e218, m_gd (m_inb (by omega) (by omega)), m_lt, m_ix (by omega), e279, m_gd (m_inb (by omega) (by omega)), m_lt, m_ix (by omega)]
  simp only [z_ua_at, z_ua_ua]
  rw [e61]
  generalize hf : upd (upd (upd (upd (S0.1 61) (96 + o) (nI k)) (157 + o) 1) (218 + o) 0) (279 + o) 0 = f4 at hf4 t4 d218
  have hB0 : S.2.1 60 1 = nI B := (hr.2.1 60 1 (by decide)).trans h.1.1
  obtain ⟨j1, j2⟩ := K_putT (S := S) (x := i_st o) hB hB0 h7 hok t4 (ig_st o2) (st_none hi ho)
  have x1 : (i_st o).1 / 4000 = o := by show o * 4000 / 4000 = o; omega
  have x2 : (i_st o).1 / 1000 % 4 = 0 := by show o * 4000 / 1000 % 4 = 0; omega
  have x3 : (i_st o).1 % 1000 = 0 := by show o * 4000 % 1000 = 0; omega
  have x4 : nI (i_st o).2.1 = 6 := rfl
  have x5 : nI ((i_st o).2.2.getD 0) = 0 := rfl
  rw [x1, x2, x3, x4, x5, ← m_c0] at j1 j2
  have y1 : (i_en d n o).1 / 4000 = d := by show ((d * 4 + 1) * 1000 + n) / 4000 = d; omega
  have y2 : (i_en d n o).1 / 1000 % 4 = 1 := by show ((d * 4 + 1) * 1000 + n) / 1000 % 4 = 1; omega
  have y3 : (i_en d n o).1 % 1000 = n := by show ((d * 4 + 1) * 1000 + n) % 1000 = n; omega
  have y4 : nI (i_en d n o).2.1 = 3 := rfl
  have y5 : nI ((i_en d n o).2.2.getD 0) = nI o := rfl
  unfold A_make4
  cases hp : a_put B A.1.1 (i_st o) with
  | none =>
    obtain ⟨f5, b1⟩ := j2 hp
    have h7' : ¬ (z_ui (z_ua S 61 f5) 60 7 1).2.1 60 7 = 0 := by rw [m_ui2, if_pos rfl, if_pos rfl]; decide
    obtain ⟨S1, c1, c2, c3, c4⟩ := K_make_180_no (S := z_ui (z_ua S 61 f5) 60 7 1) (v4 := nI o) h hA (rK_ui (rK_ua hr) (Or.inr rfl)) h7' d2
    rw [b1, m_bo, if_neg h7', c1]
    exact ⟨_, _, rfl, c2, c3, c4, fun z => (by cases z)⟩
  | some T1 =>
    obtain ⟨f5, b1, b2, b3⟩ := j1 T1 hp
    obtain ⟨q1, q2, q3, q4⟩ := make_ok (k := k) hA hd d2 hn hen ho o1 o2 hk hp
    obtain ⟨i1, i2⟩ := K_putT (S := S) (x := i_en d n o) hB hB0 h7 q1 b2 (ig_en d2 hn o2) q3
    rw [y1, y2, y3, y4, y5, ← m_c1] at i1 i2
    have h7' : (z_ua S 61 f5).2.1 60 7 = 0 := h7
    rw [b1, m_bo, if_pos h7']
    simp only []
    cases hp2 : a_put B T1 (i_en d n o) with
    | none =>
      obtain ⟨f6, a1⟩ := i2 hp2
      have h8 : ¬ (z_ui (z_ua S 61 f6) 60 7 1).2.1 60 7 = 0 := by rw [m_ui2, if_pos rfl, if_pos rfl]; decide
      obtain ⟨S1, c1, c2, c3, c4⟩ := K_make_180_no (S := z_ui (z_ua S 61 f6) 60 7 1) (v4 := nI o) h hA (rK_ui (rK_ua hr) (Or.inr rfl)) h8 d2
      rw [a1, m_bo, c1]
      exact ⟨_, _, rfl, c2, c3, c4, fun z => (by cases z)⟩
    | some T2 =>
      obtain ⟨f6, a1, a2, a3⟩ := i1 T2 hp2
      obtain ⟨w1, w2, w3⟩ := q4 T2 hp2
      have fr := k_fr_tr b3 a3
      rw [a1, m_bo, K_make_180_ok h7 d2, fr (218 + d) (by omega), d218, nI_1]
      refine ⟨_, _, rfl, KI_rK h (rK_ua hr) ?_ ?_, rK_kf (rK_ua hr), h0, fun _ => rfl⟩
      · rw [z_ua_at]
        exact k_T_fr hB a2 (fun j hj => pk_un (by omega))
      · rw [z_ua_at]
        refine k_O_u4 (k_O_make hi h.2.1.2 hd d1 d2 ho o1 o2 hk (fun j hj => ?_) hB) w2
        rw [hf]
        by_cases e : j = 218 + d
        · rw [e, pk_us, pk_us]
        · rw [pk_un e, pk_un e]; exact fr j hj
theorem s_n01 {u : Nat → Nat} : ∀ {n k : Nat}, s_n (fun o => if u o = 0 then 0 else 1) n k ≤ n
  | 0, _ => Nat.le_refl _
  | n + 1, k => by
    have := s_n01 (u := u) (n := n) (k := k + 1)
    rw [s_n]
    split <;> omega
/-- a name that is taken: by whom -/
theorem ea_some {d n : Nat} (hok : m_ok B T) (hn : n < 1000) (h : ¬ d_ea T d (nI n) = -1) : ∃ x, d_e T d n = some x ∧ x ≤ 60 ∧ d_ea T d (nI n) = nI x := by
  rw [ea_m1 hok hn] at h
  have hea : d_ea T d (nI n) = oI (d_e T d n) := by
    unfold d_ea
    rw [if_pos ⟨m_ge0 (by omega), by rw [m_c1000]; exact nI_lt hn (by omega)⟩, nI_clamp (by omega)]
  cases hx : d_e T d n with
  | none => exact absurd hx h
  | some x =>
    refine ⟨x, rfl, ?_, by rw [hea, hx]; rfl⟩
    unfold d_e at hx
    cases hf : (flat T).find? (fun y => decide (y.1 = (d * 4 + 1) * 1000 + n)) with
    | none => rw [hf] at hx; cases hx
    | some y =>
      rw [hf] at hx
      have := (hok.2.2.1 y (List.mem_of_find?_eq_some hf)).2.2.2 x hx
      omega
theorem K_make_78 {d n : Nat} {p2 v3 : Int32} (hi : m_im B T O) (h : k_O B (S.1 61) T O) : ∀ (m i o : Nat), i + m = 61 → 1 ≤ i → m < n → m_fr0 (oK O) m i = some o → F_X6_make_78 B n (nI d) p2 v3 (nI i) S = F_X6_make_115 B (nI d) p2 (nI o) (nI (if v3 = 0 then 2 else 1)) (96 + nI o) S := by
  intro m
  induction m generalizing n with
  | zero => intro i o _ _ _ hf; cases hf
  | succ m ih =>
    intro i o hi' h1 hn hf
    obtain ⟨n, rfl⟩ : ∃ j, n = j + 1 := ⟨n - 1, by omega⟩
    have e96 : (96 : Int32) + nI i = nI (96 + i) := by rw [m_c96, nI_add]
    have hk2 := hi.2.1 i
    rw [m_fr0] at hf
    rw [F_X6_make_78, e96, m_gd (m_inb (by omega) (by omega)), m_lt, m_ix (by omega), h.1 i h1 (by omega)]
    by_cases e : oK O i = 0
    · rw [if_pos e] at hf
      have := Option.some.inj hf
      subst this
      rw [e, if_pos (show nI 0 ≤ 0 by decide)]
      by_cases e3 : v3 = 0
      · rw [if_pos e3, if_pos e3, ← e96]; rfl
      · rw [if_neg e3, if_neg e3, ← e96]; rfl
    · rw [if_neg e] at hf
      have g : ¬ nI (oK O i) ≤ 0 := by
        obtain w | w : oK O i = 1 ∨ oK O i = 2 := by omega
        · rw [w]; decide
        · rw [w]; decide
      rw [if_neg g, nI_1]
      exact ih (i + 1) o (by omega) (by omega) (by omega) hf
theorem G_make_k {p1 p2 p3 : Int32} (h : KI B J S A) (hA : AI B J A) : ∃ v S2, F_X6_make B p1 p2 p3 S = some (.inl (some v), S2) ∧ KI B J S2 (A_make B A p1 p2 p3).2.2 ∧ z_kf S S2 ∧ S2.2.1 60 0 = nI (A_make B A p1 p2 p3).1 ∧ ((A_make B A p1 p2 p3).1 = 0 → v = (A_make B A p1 p2 p3).2.1) := by
  have hok := hA.2.1.1
  have hi := hA.2.1.2
  have hB := hA.1.2.1
  have bad : ∀ (v1 v2 v3 c : Int32) (n : Nat) (w : Int32), c = nI n → n ≠ 0 → n < 5 → ∃ v S2, F_X6_make_59 B v1 v2 v3 c S = some (.inl (some v), S2) ∧ KI B J S2 A ∧ z_kf S S2 ∧ S2.2.1 60 0 = nI n ∧ (n = 0 → v = w) := fun v1 v2 v3 c n w hc hn hn5 => by
    have hc0 : ¬ c ≤ 0 := fun z => by
      rw [hc, m_c0] at z
      exact absurd z (nI_nle (by omega) (by omega))
    rw [F_X6_make_59, m_lt, z_thr, if_neg hc0]
    exact ⟨_, _, rfl, KI_thr h, z_kf_ui (by decide), by rw [z_thr, hc], fun z => absurd z hn⟩
  unfold F_X6_make A_make
  rw [h.2.2.2.1]
  by_cases e : A.2.2.1 = 0
  · rw [if_pos e, if_pos e, K_isDirectory hi h.2.1.2, m_bn]
    by_cases e1 : d_k A.1.2 p1 = 1
    · obtain ⟨d, hd, d1, d2, d3⟩ := dk_some (O := A.1.2) (p := p1) (by omega)
      subst hd
      have hdk : oK A.1.2 d = 1 := d3.trans e1
      rw [if_pos e1, if_pos e1, if_neg (show ¬ (1 : Int32) = 0 by decide), K_isName, m_bn]
      by_cases hp2 : 0 ≤ p2 ∧ p2 < 1000
      · obtain ⟨n, hn, hn2⟩ := m_below hp2.1 (z := 1000) (by rw [← m_c1000]; exact hp2.2) (by omega)
        subst hn
        have g1 : (0 : Int32) ≤ nI n ∧ nI n ≤ 999 := ⟨hp2.1, by rw [show (999 : Int32) = nI 999 from rfl]; exact nI_le (by omega) (by omega)⟩
        have hE : F_X6_entry B (nI d) (nI n) S = some (.inl (some (d_ea A.1.1 d (nI n))), S) := by
          have := K_entry (S := S) (f := S.1 61) (o := d) (p := nI n) hB hok hi h.2.1.1 d2
          rw [z_ua_same] at this
          exact this
        rw [if_pos g1, if_pos hp2, if_neg (show ¬ (1 : Int32) = 0 by decide), hE, m_bn, nI_clamp (by omega), nI_clamp (by omega)]
        by_cases hea : d_ea A.1.1 d (nI n) = -1
        · have hen := (ea_m1 hok hn2).mp hea
          rw [hea, if_neg (show ¬ (0 : Int32) ≤ -1 by decide), if_pos rfl, K_objects hi h.2.1.2, m_bn]
          unfold A_make3
          cases hf : m_fr0 (oK A.1.2) 60 1 with
          | none =>
            have := fr0_none.mp hf
            rw [this, if_pos (show nI 60 = 60 from rfl), F_X6_make_54]
            exact bad _ _ _ _ 4 _ rfl (by omega) (by omega)
          | some o =>
            obtain ⟨f1, f2, f3⟩ := fr0_spec hf
            have hne : ¬ nI (s_n (fun o => if oK A.1.2 o = 0 then 0 else 1) 60 1) = 60 := by
              intro z
              have hle : s_n (fun o => if oK A.1.2 o = 0 then 0 else 1) 60 1 < 2 ^ 31 := Nat.lt_of_le_of_lt s_n01 (by omega)
              have := (nI_eq hle (by omega)).mp (z.trans (show (60 : Int32) = nI 60 from rfl))
              rw [fr0_none.mpr this] at hf; cases hf
            obtain ⟨S1, b1, b2, b3, b4, b5⟩ := K_begin (B := B) (z_ui S 60 0 0)
            have hI := KI_thr (v := 0) h
            rw [if_neg hne, F_X6_make_59, m_lt, z_thr, if_pos (show (0 : Int32) ≤ 0 by decide), b1, m_bo, m_c1, K_make_78 (T := A.1.1) (O := A.1.2) hi (by rw [b3]; exact h.2.1.2) 60 1 o rfl (by omega) (by unfold z_n; omega) hf]
            obtain ⟨v, S2, c1, c2, c3, c4⟩ := K_make_115 (k := if p3 = 0 then 2 else 1) hI hA b2 b3 b4 (by rw [b5, z_thr]) hdk d1 d2 hn2 hen f3 f1 (by omega) (by split <;> omega)
            exact ⟨v, S2, c1, c2, z_kf_tr (z_kf_ui (by decide)) c3, c4⟩
        · have g2 : (0 : Int32) ≤ d_ea A.1.1 d (nI n) := by
            obtain ⟨x, -, x1, x2⟩ := ea_some hok hn2 hea
            rw [x2]; exact m_ge0 (by omega)
          rw [if_pos g2, if_neg hea, F_X6_make_54]
          exact bad _ _ _ _ 4 _ rfl (by omega) (by omega)
      · have g1 : ¬ ((0 : Int32) ≤ p2 ∧ p2 ≤ 999) := fun w => hp2 ⟨w.1, nm_lt.mpr w.2⟩
        rw [if_neg g1, if_neg hp2, if_pos rfl]
        exact bad _ _ _ _ 3 _ rfl (by omega) (by omega)
    · rw [if_neg e1, if_neg e1, if_pos rfl]
      exact bad _ _ _ _ 2 _ rfl (by omega) (by omega)
  · rw [if_neg e, if_neg e]
    exact bad _ _ _ _ 1 _ rfl (by omega) (by omega)
end MK3
