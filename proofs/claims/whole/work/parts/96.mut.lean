/-! Calls that change: what is kept aside, and given back where there is no room. -/
def u4 (T T' : m_T) : Prop := ∀ b, tU T' b = 4 ↔ tU T b = 4
theorem u4_rf {T : m_T} : u4 T T := fun _ => Iff.rfl
theorem u4_tr {T T1 T2 : m_T} (h1 : u4 T T1) (h2 : u4 T1 T2) : u4 T T2 := fun b => (h2 b).trans (h1 b)
theorem u4_uf {T T' : m_T} (h : a_uf T T') : u4 T T' := fun b => by
  by_cases e : tU T b = 0
  · rcases h.2 b e with w | w | w <;> omega
  · rw [h.1 b e]
theorem u4_ug {T T' : m_T} (h : a_ug T T') : u4 T T' := fun b => by
  rcases h b with w | ⟨w1, w2⟩
  · rw [w]
  · omega
theorem u1_uf {T T' : m_T} (h : a_uf T T') (h1 : ∀ b, 1 ≤ b → tU T b ≠ 1) : ∀ b, 1 ≤ b → tU T' b ≠ 1 := fun b hb => by
  by_cases e : tU T b = 0
  · rcases h.2 b e with w | w | w <;> omega
  · rw [h.1 b e]; exact h1 b hb
theorem u1_ug {T T' : m_T} (h : a_ug T T') (h1 : ∀ b, 1 ≤ b → tU T b ≠ 1) : ∀ b, 1 ≤ b → tU T' b ≠ 1 := fun b hb => by
  rcases h b with w | ⟨w1, w2⟩
  · rw [w]; exact h1 b hb
  · omega
theorem cp_ins {p : m_It → Bool} {x : m_It} : ∀ {L : List m_It}, (s_ins x L).countP p = L.countP p + if p x = true then 1 else 0
  | [] => by rw [s_ins, List.countP_cons]
  | a :: L => by
    rw [s_ins]
    split
    · rw [List.countP_cons, cp_ins, List.countP_cons]; omega
    · rw [List.countP_cons]
theorem cp_del {p : m_It → Bool} {x : m_It} : ∀ {L : List m_It}, m_so L → x ∈ L → (s_del x.1 L).countP p + (if p x = true then 1 else 0) = L.countP p
  | [], _, h => by cases h
  | a :: L, hs, h => by
    obtain ⟨h1, h2⟩ := List.pairwise_cons.mp hs
    rw [s_del]
    by_cases e : a.1 = x.1
    · have : a = x := so_uniq hs List.mem_cons_self h e
      rw [if_pos e, this, List.countP_cons]
    · have hx : x ∈ L := by
        rcases List.mem_cons.mp h with w | w
        · rw [w] at e; exact absurd rfl e
        · exact w
      rw [if_neg e, List.countP_cons, List.countP_cons, ← cp_del h2 hx]; omega
section MU
variable {B J : Nat} {S S' S0 : z_S} {A : m_A} {T T' : m_T} {O O' : m_O}
theorem c_O_u4 {t : Nat} (h : c_O B t S T O) (hu : u4 T T') : c_O B t S T' O := ⟨h.1, h.2.1, h.2.2.1, h.2.2.2.1, fun b hb h4 => h.2.2.2.2.1 b hb ((hu b).mp h4), h.2.2.2.2.2⟩
theorem k_O_u4 {f : Nat → Int32} (h : k_O B f T O) (hu : u4 T T') : k_O B f T' O := ⟨h.1, h.2.1, h.2.2.1, fun b hb h4 => h.2.2.2.1 b hb ((hu b).mp h4), h.2.2.2.2⟩
theorem k_T_fr {X Y : Nat} {f f' : Nat → Int32} (hB : B ≤ 96) (h : k_T B X Y f T) (he : ∀ j, (j < 96 ∨ (3756 ≤ j ∧ j < 13078)) → f' j = f j) : k_T B X Y f' T := by
  obtain ⟨g1, g2, g3, g4, g5, g6, g7, g8⟩ := h
  refine ⟨fun b hb => ?_, fun b hb => ?_, fun b hb hu => ?_, fun b hb hY hu => ?_, fun b hb hX hu => ?_, fun h hh => ?_, ?_, ?_⟩
  · rw [he _ (by omega)]; exact g1 b hb
  · rw [he _ (by omega)]; exact g2 b hb
  · obtain ⟨q1, q2, q3⟩ := g3 b hb hu
    refine ⟨by rw [he _ (by omega)]; exact q1, fun a ha => m_l_kept (q2 a ha) (fun j hj => ?_), q3⟩
    rw [List.length_map] at hj
    exact he _ (by omega)
  · obtain ⟨q1, q2, q3⟩ := g4 b hb hY hu
    refine ⟨by rw [he _ (by omega)]; exact q1, m_l_kept q2 (fun j hj => ?_), q3⟩
    rw [List.length_map] at hj
    exact he _ (by omega)
  · rw [he _ (by omega)]; exact g5 b hb hX hu
  · obtain ⟨q1, q2, q3⟩ := g6 h hh
    refine ⟨by rw [he _ (by omega)]; exact q1, m_l_kept q2 (fun j hj => ?_), q3⟩
    rw [List.length_map] at hj
    exact he _ (by omega)
  · rw [he _ (by omega)]; exact g7
  · rw [he _ (by omega)]; exact g8
/-- a class's call under way, its tree kept -/
def rC (B : Nat) (T0 : m_T) (S0 S : z_S) : Prop := (∀ a, (a ≤ 2 ∨ (13 < a ∧ a ≤ 43) ∨ 54 < a) → a ≠ 59 → S.1 a = S0.1 a) ∧ (∀ a k, ¬ ((a = 2 ∨ a = 43) ∧ k = 12) → S.2.1 a k = S0.2.1 a k) ∧ S.2.2 = S0.2.2 ∧ c_T B 43 S T0
theorem rC_tr (h : rC B T S0 S) (hf : m_fr 2 S S') : rC B T S0 S' := by
  obtain ⟨h1, h2, h3, h4⟩ := h
  obtain ⟨f1, f2, f3⟩ := hf
  exact ⟨fun a ha hn => (f1 a (by omega)).trans (h1 a ha hn), fun a k hk => (f2 a k (by omega)).trans (h2 a k hk), f3.trans h3, c_T_cg h4 (fun a _ _ => f1 a (by omega)) (f2 _ _ (by omega)) (f2 _ _ (by omega))⟩
theorem rC_cf (h : rC B T S0 S) : z_cf S0 S := ⟨fun a ha => h.1 a (by omega) (by omega), fun a k ha => h.2.1 a k (by omega), h.2.2.1⟩
theorem CI_rC (h : CI B J S0 A) (hr : rC B T S0 S) (hT : c_T B 2 S T') (hO : c_O B 1 S T' O') : CI B J S ((T', O'), A.2) := by
  obtain ⟨⟨a1, a2, a3⟩, -, ⟨c1, c2⟩, d1, d2, d3, d4, d5, d6⟩ := h
  obtain ⟨f1, f2, f3, f4⟩ := hr
  exact ⟨⟨by rw [f2 _ _ (by omega)]; exact a1, by rw [f2 _ _ (by omega)]; exact a2, by rw [f2 _ _ (by omega)]; exact a3⟩, ⟨hT, hO⟩, ⟨c_T_cg c1 (fun a _ _ => f1 a (by omega) (by omega)) (f2 _ _ (by omega)) (f2 _ _ (by omega)), c_O_cg c2 (fun a _ _ => f1 a (by omega) (by omega))⟩, by rw [f2 _ _ (by omega)]; exact d1, by rw [f2 _ _ (by omega)]; exact d2, by rw [f2 _ _ (by omega)]; exact d3, by rw [f2 _ _ (by omega)]; exact d4, by rw [f2 _ _ (by omega)]; exact d5, fun b hb => by rw [f1 _ (by omega) (by omega)]; exact d6 b hb⟩
theorem rC_O {t : Nat} (hr : rC B T S0 S) (ht : t = 1) (h : c_O B t S0 T' O') : c_O B t S T' O' := c_O_cg h (fun a _ _ => hr.1 a (by omega) (by omega))
theorem C_keep (h : CI B J S A) (hA : AI B J A) : ∃ S1, F_X5_keep B S = some (.inl none, S1) ∧ rC B A.1.1 S S1 ∧ c_T B 2 S1 A.1.1 := by
  obtain ⟨S1, a1, f1, t1⟩ := C_copyT (S := S) (t := 43) (u := 2) hA.1.2.1 (fun i j hi hj e => by omega) h.1.2.1
  refine ⟨S1, ?_, ⟨fun a ha _ => f1.1 a (by omega), fun a k hk => f1.2.1 a k (by omega), f1.2.2, t1 _ h.2.1.1⟩, c_T_cg h.2.1.1 (fun a _ _ => f1.1 a (by omega)) (f1.2.1 _ _ (by omega)) (f1.2.1 _ _ (by omega))⟩
  unfold F_X5_keep
  rw [a1, m_bo]
/-- no room: all is as it was -/
theorem C_noRoom (h : CI B J S0 A) (hA : AI B J A) (hr : rC B A.1.1 S0 S) : ∃ S1, F_X5_needRoom B 0 S = some (.inr E_S, S1) ∧ CI B J S1 A ∧ z_cf S0 S1 := by
  have h0 : S.2.1 2 0 = nI B := by rw [hr.2.1 _ _ (by omega)]; exact h.2.1.1.1
  obtain ⟨S1, a1, f1, t1⟩ := C_copyT (S := S) (t := 2) (u := 43) hA.1.2.1 (fun i j hi hj e => by omega) h0
  have r1 := rC_tr hr f1
  refine ⟨S1, ?_, CI_rC (A := A) (O' := A.1.2) h r1 (t1 _ hr.2.2.2) (rC_O r1 rfl h.2.1.2), rC_cf r1⟩
  unfold F_X5_needRoom
  rw [if_pos rfl, a1, m_bo]; rfl
theorem C_room {v : Int32} (hv : ¬ v = 0) : F_X5_needRoom B v S = some (.inl none, S) := by
  unfold F_X5_needRoom
  rw [if_neg hv]
/-- a reference's call under way, its array kept -/
def rK (S0 S : z_S) : Prop := (∀ a, a ≠ 61 → a ≠ 62 → a ≠ 64 → S.1 a = S0.1 a) ∧ (∀ a k, (a ≠ 60 ∨ (k ≠ 0 ∧ k ≠ 7)) → S.2.1 a k = S0.2.1 a k) ∧ S.2.2 = S0.2.2 ∧ ∀ j, j < 25366 → S.1 62 j = S0.1 61 j
theorem rK_kf (h : rK S0 S) : z_kf S0 S := ⟨fun a ha => h.1 a (by omega) (by omega) (by omega), fun a k ha => h.2.1 a k (by omega), h.2.2.1⟩
theorem rK_ua {f : Nat → Int32} (h : rK S0 S) : rK S0 (z_ua S 61 f) := ⟨fun a h1 h2 h3 => by rw [m_ua1, if_neg h1]; exact h.1 a h1 h2 h3, h.2.1, h.2.2.1, fun j hj => by rw [m_ua1, if_neg (by decide)]; exact h.2.2.2 j hj⟩
theorem rK_ui {k : Nat} {v : Int32} (h : rK S0 S) (hk : k = 0 ∨ k = 7) : rK S0 (z_ui S 60 k v) := ⟨h.1, fun a j hj => by
  rw [m_ui2]
  by_cases e : a = 60
  · rw [if_pos e, if_neg (by omega), ← e]; exact h.2.1 a j hj
  · rw [if_neg e]; exact h.2.1 a j hj, h.2.2.1, h.2.2.2⟩
theorem KI_rK (h : KI B J S0 A) (hr : rK S0 S) (hT : k_T B 0 0 (S.1 61) T') (hO : k_O B (S.1 61) T' O') : KI B J S ((T', O'), A.2) := by
  obtain ⟨⟨a1, a2⟩, -, ⟨c1, c2⟩, d1, d2, d3, d4, d5, d6⟩ := h
  obtain ⟨f1, f2, f3, f4⟩ := hr
  exact ⟨⟨by rw [f2 _ _ (by omega)]; exact a1, by rw [f2 _ _ (by omega)]; exact a2⟩, ⟨hT, hO⟩, ⟨by rw [f1 63 (by decide) (by decide) (by decide)]; exact c1, by rw [f1 63 (by decide) (by decide) (by decide)]; exact c2⟩, by rw [f2 _ _ (by omega)]; exact d1, by rw [f2 _ _ (by omega)]; exact d2, by rw [f2 _ _ (by omega)]; exact d3, by rw [f2 _ _ (by omega)]; exact d4, by rw [f2 _ _ (by omega)]; exact d5, fun b hb => by rw [f1 65 (by decide) (by decide) (by decide)]; exact d6 b hb⟩
theorem K_begin (S : z_S) : ∃ S1, F_X6_begin B S = some (.inl none, S1) ∧ rK S S1 ∧ S1.1 61 = S.1 61 ∧ S1.2.1 60 7 = 0 ∧ S1.2.1 60 0 = S.2.1 60 0 := by
  obtain ⟨g, g1, g2⟩ := K_keep (B := B) (S := z_ui S 60 7 0) (a1 := 61) (a2 := 62) (by decide)
  refine ⟨z_ua (z_ui S 60 7 0) 62 g, ?_, ⟨fun a h1 h2 h3 => by rw [m_ua1, if_neg h2]; rfl, fun a k hk => ?_, rfl, fun j hj => by rw [m_ua1, if_pos rfl]; exact g1 j hj⟩, by rw [m_ua1, if_neg (by decide)]; rfl, ?_, ?_⟩
  · unfold F_X6_begin
    rw [m_gd (by decide), m_lt, g2, m_bo]
  · show (z_ui S 60 7 0).2.1 a k = _
    exact z_uin (by omega)
  · show (z_ui S 60 7 0).2.1 60 7 = 0
    rw [m_ui2, if_pos rfl, if_pos rfl]
  · show (z_ui S 60 7 0).2.1 60 0 = _
    exact z_uin (by decide)
theorem K_ended_ok {v : Int32} (h : S.2.1 60 7 = 0) : F_X6_ended B v S = some (.inl (some 1), S) := by
  unfold F_X6_ended
  rw [if_pos h, F_X6_ended_23, if_pos h, F_X6_ended_35, m_gd (by decide)]
theorem K_ended_no (h : KI B J S0 A) (hA : AI B J A) (hr : rK S0 S) (h7 : ¬ S.2.1 60 7 = 0) : ∃ S1, F_X6_ended B 4 S = some (.inl (some 0), S1) ∧ KI B J S1 A ∧ z_kf S0 S1 ∧ S1.2.1 60 0 = 4 := by
  obtain ⟨g, g1, g2⟩ := K_keep (B := B) (S := S) (a1 := 62) (a2 := 61) (by decide)
  have r1 : rK S0 (z_ui (z_ua S 61 g) 60 0 4) := rK_ui (rK_ua hr) (Or.inl rfl)
  have eg : ∀ j, j < 25366 → g j = S0.1 61 j := fun j hj => by rw [g1 j hj]; exact hr.2.2.2 j hj
  have e61 : (z_ui (z_ua S 61 g) 60 0 4).1 61 = g := by
    show (z_ua S 61 g).1 61 = g
    exact z_ua_at
  have hz : ¬ (z_ui (z_ua S 61 g) 60 0 4).2.1 60 7 = 0 := by rw [z_uin (by decide)]; exact h7
  refine ⟨z_ui (z_ua S 61 g) 60 0 4, ?_, KI_rK (A := A) (O' := A.1.2) h r1 ?_ ?_, rK_kf r1, z_thr⟩
  · unfold F_X6_ended
    rw [if_neg h7, g2, m_bo, m_lt, F_X6_ended_23, if_neg hz, F_X6_ended_35, m_gd (by decide)]
  · rw [e61]; exact k_T_cg hA.1.2.1 h.2.1.1 eg
  · rw [e61]; exact k_O_cg hA.1.2.1 hA.2.1.2 h.2.1.2 (fun j hj => eg j (by omega))
end MU
