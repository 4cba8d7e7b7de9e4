/-! off, fail, checkpoint, recover: class and reference answer alike. -/
/-- how a call ends: the code of what it throws (0: nothing) and its value -/
def r_o (Es : List String) (c : Nat) (v : Int32) : z_O := match c with
  | 0 => .inl (some v)
  | i + 1 => .inr (Es.getD i "")
def E_U : String := "java/lang/UnsupportedOperationException"
def E_I : String := "java/lang/IndexOutOfBoundsException"
def E_A : String := "java/lang/IllegalArgumentException"
def E_S : String := "java/lang/IllegalStateException"
section CL1
variable {B J : Nat} {S S' : z_S} {A : m_A} {P : m_P}
theorem CI_P (h : CI B J S A) (hj : jC B S' P) (hf : z_jc S S') : CI B J S' (A.1, A.2.1, P) := by
  obtain ⟨⟨a1, a2, a3⟩, ⟨b1, b2⟩, ⟨c1, c2⟩, -⟩ := h
  obtain ⟨⟨j1, j2, j3⟩, j4, j5, j6⟩ := hj
  obtain ⟨f1, f2, f3⟩ := hf
  refine ⟨⟨by rw [f3 _ _ (by omega) (by omega)]; exact a1, by rw [f3 _ _ (by omega) (by omega)]; exact a2, by rw [f3 _ _ (by omega) (by omega)]; exact a3⟩, ⟨c_T_cg b1 (fun a _ _ => f1 a (by omega)) (f3 _ _ (by omega) (by omega)) (f3 _ _ (by omega) (by omega)), c_O_cg b2 (fun a _ _ => f1 a (by omega))⟩, ⟨c_T_cg c1 (fun a _ _ => f1 a (by omega)) (f3 _ _ (by omega) (by omega)) (f3 _ _ (by omega) (by omega)), c_O_cg c2 (fun a _ _ => f1 a (by omega))⟩, j1, j2, j3, j4, j5, j6⟩
theorem CI_jC (h : CI B J S A) : jC B S A.2.2 := ⟨⟨h.2.2.2.1, h.2.2.2.2.1, h.2.2.2.2.2.1⟩, h.2.2.2.2.2.2.1, h.2.2.2.2.2.2.2.1, h.2.2.2.2.2.2.2.2⟩
theorem KI_P {c : Int32} (h : KI B J S A) (hj : jK S' P c) (hf : z_jk S S') : KI B J S' (A.1, A.2.1, P) := by
  obtain ⟨⟨a1, a2⟩, ⟨b1, b2⟩, ⟨c1, c2⟩, -⟩ := h
  obtain ⟨⟨j1, j2, j3, -⟩, j4, j5, j6⟩ := hj
  obtain ⟨f1, f2, f3⟩ := hf
  exact ⟨⟨by rw [f3 _ _ (by omega)]; exact a1, by rw [f3 _ _ (by omega)]; exact a2⟩, ⟨by rw [f1 _ (by omega)]; exact b1, by rw [f1 _ (by omega)]; exact b2⟩, ⟨by rw [f1 _ (by omega)]; exact c1, by rw [f1 _ (by omega)]; exact c2⟩, j1, j2, j3, j4, j5, j6⟩
/-- the reference's power, once its count of writes is 0 -/
theorem KI_jK (h : KI B J S A) : jK (z_ui S 60 12 0) A.2.2 A.2.2.2.2.1 := by
  obtain ⟨-, -, -, d1, d2, d3, d4, d5, d6⟩ := h
  have e : ∀ k, k ≠ 12 → (z_ui S 60 12 0).2.1 60 k = S.2.1 60 k := fun k hk => by rw [m_ui2, if_pos rfl, if_neg hk]
  refine ⟨⟨by rw [e _ (by decide)]; exact d1, by rw [e _ (by decide)]; exact d2, by rw [e _ (by decide)]; exact d3, ?_⟩, by rw [e _ (by decide)]; exact d4, by rw [e _ (by decide)]; exact d5, d6⟩
  rw [m_ui2, if_pos rfl, if_pos rfl, Int32.sub_self]
theorem KI_thr {v : Int32} (h : KI B J S A) : KI B J (z_ui S 60 0 v) A := by
  obtain ⟨⟨a1, a2⟩, b, c, d1, d2, d3, d4, d5, d6⟩ := h
  have e : ∀ k, k ≠ 0 → (z_ui S 60 0 v).2.1 60 k = S.2.1 60 k := fun k hk => by rw [m_ui2, if_pos rfl, if_neg hk]
  exact ⟨⟨by rw [e _ (by decide)]; exact a1, by rw [e _ (by decide)]; exact a2⟩, b, c, by rw [e _ (by decide)]; exact d1, by rw [e _ (by decide)]; exact d2, by rw [e _ (by decide)]; exact d3, by rw [e _ (by decide)]; exact d4, by rw [e _ (by decide)]; exact d5, d6⟩
theorem z_cf_jc (h : z_jc S S') : z_cf S S' := ⟨fun a ha => h.1 a (by omega), fun a k ha => h.2.2 a k (by omega) (by omega), h.2.1⟩
theorem z_kf_jk (h : z_jk S S') : z_kf S S' := ⟨fun a ha => h.1 a (by omega), fun a k ha => h.2.2 a k (by omega), h.2.1⟩
theorem z_thr {v : Int32} : (z_ui S 60 0 v).2.1 60 0 = v := by rw [m_ui2, if_pos rfl, if_pos rfl]
/-- off -/
theorem G_off_c (h : CI B J S A) (hA : AI B J A) : F_X5_off B S = some (.inl (some A.2.2.1), S) := by
  unfold F_X5_off
  rw [h.2.2.2.1, m_gd]
  rcases hA.2.2.2.1 with e | e <;> rw [e] <;> decide
theorem G_off_k (h : KI B J S A) (hA : AI B J A) : F_X6_off B S = some (.inl (some A.2.2.1), z_ui S 60 0 0) := by
  unfold F_X6_off
  rw [m_lt, (KI_thr (v := 0) h).2.2.2.1, m_gd]
  rcases hA.2.2.2.1 with e | e <;> rw [e] <;> decide
/-- fail -/
def A_fail (A : m_A) (p : Int32) : Nat × m_A := if -1 ≤ p then (0, A.1, A.2.1, A.2.2.1, p, A.2.2.2.2) else (1, A)
theorem G_fail_c {p : Int32} (h : CI B J S A) : ∃ S1, F_X5_fail B p S = some ((if (A_fail A p).1 = 0 then .inl none else .inr E_A), S1) ∧ CI B J S1 (A_fail A p).2 ∧ z_cf S S1 := by
  unfold F_X5_fail A_fail
  by_cases e : -1 ≤ p
  · rw [if_pos e, if_pos e, m_lt]
    refine ⟨_, rfl, ?_, z_cf_ui (by decide)⟩
    obtain ⟨⟨j1, j2, j3⟩, j4, j5, j6⟩ := CI_jC h
    refine CI_P h ⟨⟨?_, ?_, ?_⟩, j4, j5, j6⟩ ⟨fun _ _ => rfl, rfl, fun a k h1 _ => by rw [m_ui2, if_neg h1]⟩
    · rw [m_ui2, if_pos rfl, if_neg (by decide)]; exact j1
    · rw [m_ui2, if_pos rfl, if_pos rfl]
    · rw [m_ui2, if_pos rfl, if_neg (by decide)]; exact j3
  · rw [if_neg e, if_neg e]
    exact ⟨S, rfl, h, z_cf_rf⟩
theorem G_fail_k {p : Int32} (h : KI B J S A) : ∃ S2, F_X6_fail B p S = some (.inl none, S2) ∧ KI B J S2 (A_fail A p).2 ∧ z_kf S S2 ∧ S2.2.1 60 0 = nI (A_fail A p).1 := by
  have key : ∀ v, ∃ S2, z_ui (z_ui S 60 0 v) 60 11 p = S2 ∧ KI B J S2 (A.1, A.2.1, A.2.2.1, p, A.2.2.2.2) ∧ z_kf S S2 ∧ S2.2.1 60 0 = v := fun v => by
    obtain ⟨⟨a1, a2⟩, b, c, d1, d2, d3, d4, d5, d6⟩ := KI_thr (v := v) h
    have e : ∀ k, k ≠ 11 → (z_ui (z_ui S 60 0 v) 60 11 p).2.1 60 k = (z_ui S 60 0 v).2.1 60 k := fun k hk => by rw [m_ui2, if_pos rfl, if_neg hk]
    refine ⟨_, rfl, ⟨⟨by rw [e _ (by decide)]; exact a1, by rw [e _ (by decide)]; exact a2⟩, b, c, by rw [e _ (by decide)]; exact d1, ?_, by rw [e _ (by decide)]; exact d3, by rw [e _ (by decide)]; exact d4, by rw [e _ (by decide)]; exact d5, d6⟩, z_kf_tr (z_kf_ui (by decide)) (z_kf_ui (by decide)), by rw [e _ (by decide)]; exact z_thr⟩
    rw [m_ui2, if_pos rfl, if_pos rfl]
  unfold F_X6_fail A_fail
  by_cases e : -1 ≤ p
  · obtain ⟨S2, w1, w2, w3, w4⟩ := key 0
    rw [if_pos e, if_pos e, F_X6_fail_11, m_lt, z_thr, if_pos (by decide), F_X6_fail_30, m_lt, w1]
    exact ⟨S2, rfl, w2, w3, w4⟩
  · have ez : z_ui (z_ui S 60 0 1) 60 11 ((z_ui S 60 0 1).2.1 60 11) = z_ui S 60 0 1 := by
      have hx : ∀ b j, (z_ui (z_ui S 60 0 1) 60 11 ((z_ui S 60 0 1).2.1 60 11)).2.1 b j = (z_ui S 60 0 1).2.1 b j := fun b j => by
        rw [m_ui2]
        by_cases e1 : b = 60
        · rw [if_pos e1, e1]
          by_cases e2 : j = 11
          · rw [if_pos e2, e2]
          · rw [if_neg e2]
        · rw [if_neg e1]
      have hx2 : (z_ui (z_ui S 60 0 1) 60 11 ((z_ui S 60 0 1).2.1 60 11)).2.1 = (z_ui S 60 0 1).2.1 := by funext b j; exact hx b j
      exact Prod.ext rfl (Prod.ext hx2 rfl)
    rw [if_neg e, if_neg e, F_X6_fail_11, m_lt, z_thr, if_neg (by decide), F_X6_fail_30, m_lt, ez]
    exact ⟨_, rfl, KI_thr h, z_kf_ui (by decide), z_thr⟩
theorem G_fail_a {p : Int32} (hA : AI B J A) : AI B J (A_fail A p).2 := by
  unfold A_fail
  split
  · exact hA
  · exact hA
/-- checkpoint -/
def A_checkpoint (B : Nat) (A : m_A) : Nat × Int32 × m_A := if A.2.2.1 = 0 then (0, (p_home B A.2.2).2.2.2.1 - A.2.2.2.2.1, A.1, A.2.1, (p_home B A.2.2).2) else (1, 0, A)
theorem C_emptyJournal (h : CI B J S A) (hA : AI B J A) : ∃ S1, F_X5_emptyJournal B S = some (.inl (some ((p_home B A.2.2).2.2.2.1 - A.2.2.2.2.1)), S1) ∧ CI B J S1 (A.1, A.2.1, (p_home B A.2.2).2) ∧ z_cf S S1 := by
  obtain ⟨⟨hB1, hB2, hJ1, hJ2⟩, -, -, o1, o2, o3, o4⟩ := hA
  obtain ⟨S1, a1, j1, f1⟩ := C_empties (P := A.2.2) hB2 (by omega) (CI_jC h)
  refine ⟨S1, ?_, CI_P h j1 f1, z_cf_jc f1⟩
  unfold F_X5_emptyJournal
  rw [a1, m_bn, j1.1.2.2, h.2.2.2.2.2.1]
theorem K_homeA (h : KI B J S A) (hA : AI B J A) : ∃ S2 r, F_X6_home B (z_ui S 60 12 0) = some (.inl (some r), S2) ∧ r = i_b (p_home B A.2.2).1 ∧ jK S2 (p_home B A.2.2).2 A.2.2.2.2.1 ∧ KI B J S2 (A.1, A.2.1, (p_home B A.2.2).2) ∧ z_kf S S2 ∧ S2.2.1 60 12 = (p_home B A.2.2).2.2.2.1 - A.2.2.2.2.1 ∧ z_jk (z_ui S 60 12 0) S2 := by
  obtain ⟨⟨hB1, hB2, hJ1, hJ2⟩, -, -, o1, o2, o3, o4⟩ := hA
  obtain ⟨S2, a1, j1, f1⟩ := K_home (B := B) (P := A.2.2) hB2 (by omega) o4 (KI_jK h)
  have h12 : KI B J (z_ui S 60 12 0) A := by
    obtain ⟨⟨a1, a2⟩, b, c, d1, d2, d3, d4, d5, d6⟩ := h
    have e : ∀ k, k ≠ 12 → (z_ui S 60 12 0).2.1 60 k = S.2.1 60 k := fun k hk => by rw [m_ui2, if_pos rfl, if_neg hk]
    exact ⟨⟨by rw [e _ (by decide)]; exact a1, by rw [e _ (by decide)]; exact a2⟩, b, c, by rw [e _ (by decide)]; exact d1, by rw [e _ (by decide)]; exact d2, by rw [e _ (by decide)]; exact d3, by rw [e _ (by decide)]; exact d4, by rw [e _ (by decide)]; exact d5, d6⟩
  exact ⟨S2, _, a1, rfl, j1, KI_P h12 j1 f1, z_kf_tr (z_kf_ui (by decide)) (z_kf_jk f1), j1.1.2.2.2, f1⟩
theorem AI_home (hA : AI B J A) : AI B J (A.1, A.2.1, (p_home B A.2.2).2) := by
  obtain ⟨hb, h1, h2, o1, o2, o3, o4⟩ := hA
  obtain ⟨k1, k2, k3, k4⟩ := home_ok (B := B) o1 o2 o3 o4
  exact ⟨hb, h1, h2, k1, k2, k3, k4⟩
theorem C_needPower (h : CI B J S A) (hA : AI B J A) : F_X5_needPower B S = some ((if A.2.2.1 = 0 then .inl none else .inr E_U), S) := by
  unfold F_X5_needPower
  rw [h.2.2.2.1]
  split <;> rfl
theorem G_checkpoint_c (h : CI B J S A) (hA : AI B J A) : ∃ S1, F_X5_checkpoint B S = some (r_o [E_U] (A_checkpoint B A).1 (A_checkpoint B A).2.1, S1) ∧ CI B J S1 (A_checkpoint B A).2.2 ∧ z_cf S S1 := by
  unfold F_X5_checkpoint A_checkpoint
  rw [C_needPower h hA]
  by_cases e : A.2.2.1 = 0
  · obtain ⟨S1, a1, c1, f1⟩ := C_emptyJournal h hA
    rw [if_pos e, if_pos e, m_bv, a1, m_bn]
    exact ⟨S1, rfl, c1, f1⟩
  · rw [if_neg e, if_neg e, m_bvx]
    exact ⟨S, rfl, h, z_cf_rf⟩
theorem z_uin {a b j k : Nat} {v : Int32} (h : ¬ (b = a ∧ j = k)) : (z_ui S a k v).2.1 b j = S.2.1 b j := by
  rw [m_ui2]
  by_cases e : b = a
  · rw [if_pos e, if_neg (fun z => h ⟨e, z⟩), e]
  · rw [if_neg e]
theorem G_checkpoint_k (h : KI B J S A) (hA : AI B J A) : ∃ v S2, F_X6_checkpoint B S = some (.inl (some v), S2) ∧ KI B J S2 (A_checkpoint B A).2.2 ∧ z_kf S S2 ∧ S2.2.1 60 0 = nI (A_checkpoint B A).1 ∧ ((A_checkpoint B A).1 = 0 → v = (A_checkpoint B A).2.1) := by
  unfold F_X6_checkpoint A_checkpoint
  rw [h.2.2.2.1]
  by_cases e : A.2.2.1 = 0
  · obtain ⟨S2, r, a1, -, -, k1, f1, v1, g1⟩ := K_homeA (KI_thr (v := 0) h) hA
    rw [if_pos e, if_pos e, F_X6_checkpoint_13, m_lt, z_thr, if_pos (by decide), m_lt, a1, m_bn]
    refine ⟨_, S2, rfl, k1, z_kf_tr (z_kf_ui (by decide)) f1, ?_, fun _ => v1⟩
    rw [g1.2.2 _ _ (by omega), z_uin (by decide), z_thr]; rfl
  · rw [if_neg e, if_neg e, F_X6_checkpoint_13, m_lt, z_thr, if_neg (by decide)]
    exact ⟨_, _, rfl, KI_thr h, z_kf_ui (by decide), z_thr, fun z => by cases z⟩
theorem G_checkpoint_a (hA : AI B J A) : AI B J (A_checkpoint B A).2.2 := by
  unfold A_checkpoint
  split
  · exact AI_home hA
  · exact hA
/-- recover -/
def A_on (A : m_A) : m_A := (A.2.1, A.2.1, 0, A.2.2.2)
def A_recover (B : Nat) (A : m_A) : Nat × Int32 × m_A := if A.2.2.1 = 0 then (1, 0, A) else (0, (p_home B (A_on A).2.2).2.2.2.1 - A.2.2.2.2.1, A.2.1, A.2.1, (p_home B (A_on A).2.2).2)
theorem AI_on (hA : AI B J A) : AI B J (A_on A) := by
  obtain ⟨hb, h1, h2, o1, o2, o3, o4⟩ := hA
  exact ⟨hb, h2, h2, Or.inl rfl, o2, o3, o4⟩
theorem G_recover_a (hA : AI B J A) : AI B J (A_recover B A).2.2 := by
  unfold A_recover
  split
  · exact hA
  · exact AI_home (AI_on hA)
/-- the class's now image becomes the committed one -/
theorem C_nowFrom (h : CI B J S A) (hA : AI B J A) : ∃ S1, F_X0_copyFrom B 1 22 S = some (.inl none, S1) ∧ CI B J S1 (A.2.1, A.2.1, A.2.2) ∧ z_cf S S1 ∧ (∀ a k, a ≠ 2 → S1.2.1 a k = S.2.1 a k) := by
  obtain ⟨⟨a1, a2, a3⟩, ⟨b1, b2⟩, ⟨c1, c2⟩, d1, d2, d3, d4, d5, d6⟩ := h
  obtain ⟨S1, w1, ⟨f1, f2, f3⟩, w2⟩ := C_copyI (S := S) (t := 1) (u := 22) hA.1.2.1 (fun i j hi hj e => by omega) b1.1
  obtain ⟨t1, t2⟩ := w2 A.2.1.1 A.2.1.2 hA.2.2.1.2 c1 c2
  refine ⟨S1, w1, ⟨⟨by rw [f2 _ _ (by omega)]; exact a1, by rw [f2 _ _ (by omega)]; exact a2, by rw [f2 _ _ (by omega)]; exact a3⟩, ⟨t1, t2⟩, ⟨c_T_cg c1 (fun a _ _ => f1 a (by omega)) (f2 _ _ (by omega)) (f2 _ _ (by omega)), c_O_cg c2 (fun a _ _ => f1 a (by omega))⟩, by rw [f2 _ _ (by omega)]; exact d1, by rw [f2 _ _ (by omega)]; exact d2, by rw [f2 _ _ (by omega)]; exact d3, by rw [f2 _ _ (by omega)]; exact d4, by rw [f2 _ _ (by omega)]; exact d5, fun b hb => by rw [f1 _ (by omega)]; exact d6 b hb⟩, ⟨fun a ha => f1 a (by omega), fun a k ha => f2 a k (by omega), f3⟩, fun a k ha => f2 a k (fun z => ha z.1)⟩
theorem K_nowFrom (h : KI B J S A) (hA : AI B J A) : ∃ g, F_X6_keep B 63 25366 61 25366 S = some (.inl none, z_ua S 61 g) ∧ KI B J (z_ua S 61 g) (A.2.1, A.2.1, A.2.2) := by
  obtain ⟨g, g1, g2⟩ := K_keep (B := B) (S := S) (a1 := 63) (a2 := 61) (by decide)
  obtain ⟨a, b, ⟨c1, c2⟩, d1, d2, d3, d4, d5, d6⟩ := h
  have e61 : (z_ua S 61 g).1 61 = g := z_ua_at
  have e63 : (z_ua S 61 g).1 63 = S.1 63 := by rw [m_ua1, if_neg (by decide)]
  refine ⟨g, g2, a, ⟨?_, ?_⟩, ⟨by rw [e63]; exact c1, by rw [e63]; exact c2⟩, d1, d2, d3, d4, d5, d6⟩
  · rw [e61]; exact k_T_cg hA.1.2.1 c1 g1
  · rw [e61]; exact k_O_cg hA.1.2.1 hA.2.2.1.2 c2 (fun j hj => g1 j (by omega))
theorem G_recover_c (h : CI B J S A) (hA : AI B J A) : ∃ S1, F_X5_recover B S = some (r_o [E_S] (A_recover B A).1 (A_recover B A).2.1, S1) ∧ CI B J S1 (A_recover B A).2.2 ∧ z_cf S S1 := by
  unfold F_X5_recover A_recover
  rw [h.2.2.2.1]
  by_cases e : A.2.2.1 = 0
  · rw [if_pos e, if_pos e]
    exact ⟨S, rfl, h, z_cf_rf⟩
  · rw [if_neg e, if_neg e, m_gd (by decide), m_lt]
    have h0 : CI B J (z_ui S 57 0 0) (A.1, A.2.1, 0, A.2.2.2) := by
      obtain ⟨⟨j1, j2, j3⟩, j4, j5, j6⟩ := CI_jC h
      refine CI_P h ⟨⟨?_, ?_, ?_⟩, j4, j5, j6⟩ ⟨fun _ _ => rfl, rfl, fun a k h1 _ => by rw [m_ui2, if_neg h1]⟩
      · rw [m_ui2, if_pos rfl, if_pos rfl]
      · rw [m_ui2, if_pos rfl, if_neg (by decide)]; exact j2
      · rw [m_ui2, if_pos rfl, if_neg (by decide)]; exact j3
    have hA0 : AI B J (A.1, A.2.1, 0, A.2.2.2) := ⟨hA.1, hA.2.1, hA.2.2.1, Or.inl rfl, hA.2.2.2.2⟩
    obtain ⟨S1, a1, c1, f1, -⟩ := C_nowFrom h0 hA0
    obtain ⟨S2, a2, c2, f2⟩ := C_emptyJournal (A := A_on A) c1 (AI_on hA)
    rw [a1, m_bo, a2, m_bn]
    exact ⟨S2, rfl, c2, z_cf_tr (z_cf_ui (by decide)) (z_cf_tr f1 f2)⟩
theorem G_recover_k (h : KI B J S A) (hA : AI B J A) : ∃ v S2, F_X6_recover B S = some (.inl (some v), S2) ∧ KI B J S2 (A_recover B A).2.2 ∧ z_kf S S2 ∧ S2.2.1 60 0 = nI (A_recover B A).1 ∧ ((A_recover B A).1 = 0 → v = (A_recover B A).2.1) := by
  unfold F_X6_recover A_recover
  rw [h.2.2.2.1]
  by_cases e : A.2.2.1 = 0
  · rw [if_pos e, if_pos e, F_X6_recover_13, m_lt, z_thr, if_neg (by decide)]
    exact ⟨_, _, rfl, KI_thr h, z_kf_ui (by decide), z_thr, fun z => by cases z⟩
  · have h0 : KI B J (z_ui (z_ui S 60 0 0) 60 10 0) (A.1, A.2.1, 0, A.2.2.2) := by
      obtain ⟨⟨a1, a2⟩, b, c, d1, d2, d3, d4, d5, d6⟩ := KI_thr (v := 0) h
      have e : ∀ k, k ≠ 10 → (z_ui (z_ui S 60 0 0) 60 10 0).2.1 60 k = (z_ui S 60 0 0).2.1 60 k := fun k hk => by rw [m_ui2, if_pos rfl, if_neg hk]
      refine ⟨⟨by rw [e _ (by decide)]; exact a1, by rw [e _ (by decide)]; exact a2⟩, b, c, ?_, by rw [e _ (by decide)]; exact d2, by rw [e _ (by decide)]; exact d3, by rw [e _ (by decide)]; exact d4, by rw [e _ (by decide)]; exact d5, d6⟩
      rw [m_ui2, if_pos rfl, if_pos rfl]
    have hA0 : AI B J (A.1, A.2.1, 0, A.2.2.2) := ⟨hA.1, hA.2.1, hA.2.2.1, Or.inl rfl, hA.2.2.2.2⟩
    obtain ⟨g, a1, k1⟩ := K_nowFrom h0 hA0
    obtain ⟨S2, r, a2, -, -, k2, f2, v2, g2⟩ := K_homeA (A := A_on A) k1 (AI_on hA)
    rw [if_neg e, if_neg e, F_X6_recover_13, m_lt, z_thr, if_pos (by decide), m_gd (by decide), m_lt, a1, m_bo, m_lt, a2, m_bn]
    refine ⟨_, S2, rfl, k2, z_kf_tr (z_kf_ui (by decide)) (z_kf_tr (z_kf_ui (by decide)) (z_kf_tr (z_kf_ua (by decide)) f2)), ?_, fun _ => v2⟩
    rw [g2.2.2 _ _ (by omega), z_uin (by decide)]
    show (z_ui (z_ui S 60 0 0) 60 10 0).2.1 60 0 = _
    rw [z_uin (by decide), z_thr]; rfl
end CL1
