/-! The reference: a leaf with too much gives way, a leaf is looked at, as the abstract ones do. -/
section KS
variable {B : Nat} {S : z_S} {T : m_T} {f : Nat → Int32}
theorem K_cntL {X Y l : Nat} (hT : k_T B X Y f T) (hl : l < B) (ul : tU T l = 2) : f (3852 + l) = nI (tI T l).length := (hT.2.2.1 l hl ul).1
theorem K_left_loop {l a : Nat} (hB : B ≤ 96) (hl : l < B) (ha : a < B) (hal : a ≠ l) : ∀ (L A : List m_It) (n : Nat) (T : m_T) (f : Nat → Int32), tI T l = L → tI T a = A → tU T l = 2 → tU T a = 2 → k_T B 0 0 f T → L.length < n → (∀ x ∈ L, m_ig x) → (∀ x ∈ A, m_ig x) → m_cost A ≤ 120 → m_cost L ≤ 168 →
    ∃ f', F_X6_settle_7 B n (nI l) (nI a) (z_ua S 61 f) = F_X6_settle_59 B (nI l) (z_ua S 61 f') ∧ k_T B 0 0 f' (tsI (tsI T a (a_gl A L).1) l (a_gl A L).2) ∧ k_fr f f'
  | [], A, n, T, f, eL, eA, ul, ua, hT, hn, gL, gA, cA, cL => by
    obtain ⟨n, rfl⟩ : ∃ k, n = k + 1 := ⟨n - 1, by omega⟩
    refine ⟨f, ?_, by rw [show a_gl A [] = (A, []) from rfl, tsI_2 hal eA eL]; exact hT, k_fr_rf⟩
    rw [F_X6_settle_7, KT_used hB hT hl ul, m_bn, eL, if_pos (by decide)]
  | x :: L, A, n, T, f, eL, eA, ul, ua, hT, hn, gL, gA, cA, cL => by
    obtain ⟨n, rfl⟩ : ∃ k, n = k + 1 := ⟨n - 1, by omega⟩
    rw [List.length_cons] at hn
    have hx := gL x List.mem_cons_self
    rw [F_X6_settle_7, KT_used hB hT hl ul, m_bn, eL, a_gl]
    by_cases hc : m_cost (x :: L) ≤ 120
    · rw [if_pos (by rw [m_c120]; exact nI_le hc (by omega)), if_neg (fun h => by omega)]
      exact ⟨f, rfl, by rw [tsI_2 hal eA eL]; exact hT, k_fr_rf⟩
    · have ec := KT_cost (S := S) (b := l) (i := 0) (x := x) hB hT hl ul (by rw [eL]; rfl)
      have ec' : F_X6_cost B (nI l) 0 (z_ua S 61 f) = some (.inl (some (nI (8 + x.2.1))), z_ua S 61 f) := ec
      have hx2 := hx.2.1
      rw [if_neg (by rw [m_c120]; exact nI_ge (by omega) (by omega)), if_neg (m_ne1 (by omega)), KT_used hB hT ha ua, m_bn, eA, ec', m_bn, nI_add]
      by_cases hf : m_cost A + (8 + x.2.1) ≤ 120
      · rw [if_neg (by rw [m_c120]; exact nI_nlt (by omega) (by omega)), if_pos ⟨by omega, hf⟩]
        have lA := m_cost_few gA
        have e3 : f (3852 + a) = nI A.length := by rw [K_cntL hT ha ua, eA]
        have e38 : (3852 : Int32) + nI a = nI (3852 + a) := by rw [m_c3852, nI_add]
        obtain ⟨f1, a1, t1, r1⟩ := KT_carry (S := S) (g := l) (i := 0) (b := a) (pl := A.length) (x := x) hB hT hl ha (Ne.symm hal) ul ua (by rw [eL]; rfl) (by rw [eA]; exact Nat.le_refl _) (by rw [eA]; omega)
        rw [eA, eL] at t1
        have t1' : k_T B 0 0 f1 (tsI (tsI T a (A ++ [x])) l L) := by
          have e1 : A.insertIdx A.length x = A ++ [x] := by simp
          rw [e1] at t1
          exact t1
        obtain ⟨f2, a2, t2, r2⟩ := K_left_loop hB hl ha hal L (A ++ [x]) n (tsI (tsI T a (A ++ [x])) l L) f1 tI_eq (by rw [tI_ne hal, tI_eq]) ul ua t1' (by omega) (fun y hy => gL y (List.mem_cons_of_mem _ hy)) (fun y hy => by
          rcases List.mem_append.mp hy with e | e
          · exact gA y e
          · rw [List.mem_singleton.mp e]; exact hx) (by rw [m_cost_app, m_cost_cons, m_cost_nil]; omega) (by rw [m_cost_cons] at cL; omega)
        rw [tsI4 hal] at t2
        refine ⟨f2, ?_, t2, k_fr_tr r1 r2⟩
        have a1' : F_X6_carry B (nI l) 0 (nI a) (nI A.length) (z_ua S 61 f) = some (.inl none, z_ua S 61 f1) := a1
        rw [e38, m_gd (m_inb (by omega) (by omega)), m_lt, m_ix (by omega), z_ua_at, e3, a1', m_bo]
        exact a2
      · rw [if_pos (by rw [m_c120]; exact nI_lt (by omega) (by omega)), if_neg (fun h => hf h.2)]
        exact ⟨f, rfl, by rw [tsI_2 hal eA eL]; exact hT, k_fr_rf⟩
theorem K_left_none {l : Nat} (hB : B ≤ 96) (hT : k_T B 0 0 f T) (hl : l < B) (ul : tU T l = 2) : F_X6_settle_7 B z_n (nI l) (-1) (z_ua S 61 f) = F_X6_settle_59 B (nI l) (z_ua S 61 f) := by
  have hz : z_n = 99999 + 1 := rfl
  rw [hz, F_X6_settle_7, KT_used hB hT hl ul, m_bn]
  split
  · rfl
  · rw [if_pos rfl]
theorem K_right_loop {l a : Nat} (hB : B ≤ 96) (hl : l < B) (ha : a < B) (hal : a ≠ l) : ∀ (k : Nat) (L C : List m_It) (n : Nat) (T : m_T) (f : Nat → Int32), L.length = k → tI T l = L → tI T a = C → tU T l = 2 → tU T a = 2 → k_T B 0 0 f T → k < n → (∀ x ∈ L, m_ig x) → (∀ x ∈ C, m_ig x) → m_cost C ≤ 120 → m_cost L ≤ 168 →
    ∃ f', F_X6_settle_66 B n (nI l) (nI a) (z_ua S 61 f) = F_X6_settle_131 B (nI l) (z_ua S 61 f') ∧ k_T B 0 0 f' (tsI (tsI T a (a_gr k L C).2) l (a_gr k L C).1) ∧ k_fr f f'
  | 0, L, C, n, T, f, lk, eL, eC, ul, ua, hT, hn, gL, gC, cC, cL => by
    obtain ⟨n, rfl⟩ : ∃ k, n = k + 1 := ⟨n - 1, by omega⟩
    have hL : L = [] := List.eq_nil_of_length_eq_zero lk
    refine ⟨f, ?_, by rw [show a_gr 0 L C = (L, C) from rfl, tsI_2 hal eC eL]; exact hT, k_fr_rf⟩
    rw [F_X6_settle_66, KT_used hB hT hl ul, m_bn, eL, hL, if_pos (by decide)]
  | k + 1, L, C, n, T, f, lk, eL, eC, ul, ua, hT, hn, gL, gC, cC, cL => by
    obtain ⟨n, rfl⟩ : ∃ k, n = k + 1 := ⟨n - 1, by omega⟩
    have hne : L ≠ [] := fun e => by rw [e] at lk; cases lk
    obtain ⟨D, x, hD⟩ := l_last hne
    have hgl : L.getLast? = some x := by rw [hD]; simp
    have hdl : L.dropLast = D := by rw [hD]; simp
    have lD : D.length = k := by rw [hD, List.length_append] at lk; simpa using lk
    have hx := gL x (by rw [hD]; simp)
    have hLk : L[k]? = some x := by rw [hD, ← lD]; simp
    have hLe : L.eraseIdx k = D := by rw [hD, ← lD, List.eraseIdx_append_of_length_le (Nat.le_refl _)]; simp
    have fewL := m_cost_few gL
    have e3 : f (3852 + l) = nI (k + 1) := by rw [K_cntL hT hl ul, eL, lk]
    have e38 : (3852 : Int32) + nI l = nI (3852 + l) := by rw [m_c3852, nI_add]
    have es : nI (k + 1) - 1 = nI k := nI_pred k
    rw [F_X6_settle_66, KT_used hB hT hl ul, m_bn, eL, a_gr, hgl]
    simp only []
    by_cases hc : m_cost L ≤ 120
    · rw [if_pos (by rw [m_c120]; exact nI_le hc (by omega)), if_neg (fun h => by omega)]
      exact ⟨f, rfl, by rw [tsI_2 hal eC eL]; exact hT, k_fr_rf⟩
    · have ec := KT_cost (S := S) (b := l) (i := k) (x := x) hB hT hl ul (by rw [eL]; exact hLk)
      have hx2 := hx.2.1
      rw [if_neg (by rw [m_c120]; exact nI_ge (by omega) (by omega)), if_neg (m_ne1 (by omega)), KT_used hB hT ha ua, m_bn, eC, e38, m_gd (m_inb (by omega) (by omega)), m_lt, m_ix (i := 3852 + l) (by omega), z_ua_at, e3, es, ec, m_bn, nI_add]
      by_cases hf : m_cost C + (8 + x.2.1) ≤ 120
      · rw [if_neg (by rw [m_c120]; exact nI_nlt (by omega) (by omega)), if_pos ⟨by omega, hf⟩]
        have lC := m_cost_few gC
        obtain ⟨f1, a1, t1, r1⟩ := KT_carry (S := S) (g := l) (i := k) (b := a) (pl := 0) (x := x) hB hT hl ha (Ne.symm hal) ul ua (by rw [eL]; exact hLk) (Nat.zero_le _) (by rw [eC]; omega)
        rw [eC, eL, hLe] at t1
        have t1' : k_T B 0 0 f1 (tsI (tsI T a (x :: C)) l D) := t1
        obtain ⟨f2, a2, t2, r2⟩ := K_right_loop hB hl ha hal k D (x :: C) n (tsI (tsI T a (x :: C)) l D) f1 lD tI_eq (by rw [tI_ne hal, tI_eq]) ul ua t1' (by omega) (fun y hy => gL y (by rw [hD]; exact List.mem_append_left _ hy)) (fun y hy => by
          rcases List.mem_cons.mp hy with e | e
          · rw [e]; exact hx
          · exact gC y e) (by rw [m_cost_cons]; omega) (by rw [hD, m_cost_app] at cL; omega)
        rw [tsI4 hal] at t2
        rw [hdl]
        refine ⟨f2, ?_, t2, k_fr_tr r1 r2⟩
        have a1' : F_X6_carry B (nI l) (nI k) (nI a) 0 (z_ua S 61 f) = some (.inl none, z_ua S 61 f1) := a1
        rw [m_gd (m_inb (by omega) (by omega)), m_lt, z_ua_at, e3, es, a1', m_bo]
        exact a2
      · rw [if_pos (by rw [m_c120]; exact nI_lt (by omega) (by omega)), if_neg (fun h => hf h.2)]
        exact ⟨f, rfl, by rw [tsI_2 hal eC eL]; exact hT, k_fr_rf⟩
theorem K_right_none {l : Nat} (hB : B ≤ 96) (hT : k_T B 0 0 f T) (hl : l < B) (ul : tU T l = 2) : F_X6_settle_66 B z_n (nI l) (-1) (z_ua S 61 f) = F_X6_settle_131 B (nI l) (z_ua S 61 f) := by
  have hz : z_n = 99999 + 1 := rfl
  rw [hz, F_X6_settle_66, KT_used hB hT hl ul, m_bn]
  split
  · rfl
  · rw [if_pos rfl]
theorem K_cut_loop {l a : Nat} (hB : B ≤ 96) (hl : l < B) (ha : a < B) (hal : a ≠ l) : ∀ (k : Nat) (L C : List m_It) (n : Nat) (T : m_T) (f : Nat → Int32), L.length = k → tI T l = L → tI T a = C → tU T l = 2 → tU T a = 2 → k_T B 0 0 f T → k < n → (∀ x ∈ L, m_ig x) → (∀ x ∈ C, m_ig x) → m_cost L + m_cost C ≤ 168 →
    ∃ f', F_X6_settle_180 B n (nI l) (nI a) (z_ua S 61 f) = (z_bo (F_X6_lineUp B (nI a) (nI l) (z_ua S 61 f')) fun S5 => (z_bo (F_X6_added B (nI l) (nI a) S5) fun S8 => (some (.inl none, S8)))) ∧ k_T B 0 0 f' (tsI (tsI T a (a_gr k L C).2) l (a_gr k L C).1) ∧ k_fr f f'
  | 0, L, C, n, T, f, lk, eL, eC, ul, ua, hT, hn, gL, gC, cL => by
    obtain ⟨n, rfl⟩ : ∃ k, n = k + 1 := ⟨n - 1, by omega⟩
    have hL : L = [] := List.eq_nil_of_length_eq_zero lk
    refine ⟨f, ?_, by rw [show a_gr 0 L C = (L, C) from rfl, tsI_2 hal eC eL]; exact hT, k_fr_rf⟩
    rw [F_X6_settle_180, KT_used hB hT hl ul, m_bn, eL, hL, if_pos (by decide)]
  | k + 1, L, C, n, T, f, lk, eL, eC, ul, ua, hT, hn, gL, gC, cL => by
    obtain ⟨n, rfl⟩ : ∃ k, n = k + 1 := ⟨n - 1, by omega⟩
    have hne : L ≠ [] := fun e => by rw [e] at lk; cases lk
    obtain ⟨D, x, hD⟩ := l_last hne
    have hgl : L.getLast? = some x := by rw [hD]; simp
    have hdl : L.dropLast = D := by rw [hD]; simp
    have lD : D.length = k := by rw [hD, List.length_append] at lk; simpa using lk
    have hx := gL x (by rw [hD]; simp)
    have hLk : L[k]? = some x := by rw [hD, ← lD]; simp
    have hLe : L.eraseIdx k = D := by rw [hD, ← lD, List.eraseIdx_append_of_length_le (Nat.le_refl _)]; simp
    have e3 : f (3852 + l) = nI (k + 1) := by rw [K_cntL hT hl ul, eL, lk]
    have e38 : (3852 : Int32) + nI l = nI (3852 + l) := by rw [m_c3852, nI_add]
    have es : nI (k + 1) - 1 = nI k := nI_pred k
    rw [F_X6_settle_180, KT_used hB hT hl ul, m_bn, eL, a_gr, hgl]
    simp only []
    by_cases hc : m_cost L ≤ 120
    · rw [if_pos (by rw [m_c120]; exact nI_le hc (by omega)), if_neg (fun h => by omega)]
      exact ⟨f, rfl, by rw [tsI_2 hal eC eL]; exact hT, k_fr_rf⟩
    · have hx2 := hx.2.1
      rw [if_neg (by rw [m_c120]; exact nI_ge (by omega) (by omega)), e38, m_gd (m_inb (by omega) (by omega)), m_lt, m_ix (i := 3852 + l) (by omega), z_ua_at, e3, es, if_pos ⟨by omega, by omega⟩]
      have lC := m_cost_few gC
      obtain ⟨f1, a1, t1, r1⟩ := KT_carry (S := S) (g := l) (i := k) (b := a) (pl := 0) (x := x) hB hT hl ha (Ne.symm hal) ul ua (by rw [eL]; exact hLk) (Nat.zero_le _) (by rw [eC]; omega)
      rw [eC, eL, hLe] at t1
      have t1' : k_T B 0 0 f1 (tsI (tsI T a (x :: C)) l D) := t1
      obtain ⟨f2, a2, t2, r2⟩ := K_cut_loop hB hl ha hal k D (x :: C) n (tsI (tsI T a (x :: C)) l D) f1 lD tI_eq (by rw [tI_ne hal, tI_eq]) ul ua t1' (by omega) (fun y hy => gL y (by rw [hD]; exact List.mem_append_left _ hy)) (fun y hy => by
        rcases List.mem_cons.mp hy with e | e
        · rw [e]; exact hx
        · exact gC y e) (by rw [hD, m_cost_app, m_cost_cons, m_cost_nil] at cL; rw [m_cost_cons]; omega)
      rw [tsI4 hal] at t2
      rw [hdl]
      refine ⟨f2, ?_, t2, k_fr_tr r1 r2⟩
      have a1' : F_X6_carry B (nI l) (nI k) (nI a) 0 (z_ua S 61 f) = some (.inl none, z_ua S 61 f1) := a1
      rw [a1', m_bo]
      exact a2
theorem tsH_take {b u : Nat} : tsH (m_take T b u) b 0 = m_take T b u := by simp only [tsH, m_take, bx_uu]
/-- what is left of a leaf with too much: a new leaf -/
theorem K_settle2 {l : Nat} (hB : B ≤ 96) (h0 : S.2.1 60 1 = nI B) (h7 : S.2.1 60 7 = 0) (hT : k_T B 0 0 f T) (hs : m_sk B 0 0 T) (hl : l ∈ tR T 0) (hv : a_lv T l 168) :
    (∀ T', a_settle2 B T l = some T' → ∃ f', F_X6_settle_131 B (nI l) (z_ua S 61 f) = some (.inl none, z_ua S 61 f') ∧ k_T B 0 0 f' T' ∧ k_fr f f') ∧ (a_settle2 B T l = none → ∃ f', F_X6_settle_131 B (nI l) (z_ua S 61 f) = some (.inl none, z_ui (z_ua S 61 f') 60 7 1)) := by
  obtain ⟨l1, l2, l3, l4⟩ := hs.2.2.2.1 0 l hl
  rw [if_pos rfl] at l4
  obtain ⟨v1, v2, v3⟩ := hv
  have z7 : ∀ g, (z_ua S 61 g).2.1 60 7 = 0 := fun g => h7
  have z8 : ∀ g, ¬ (z_ui (z_ua S 61 g) 60 7 1).2.1 60 7 = 0 := fun g => by rw [m_ui2, if_pos rfl, if_pos rfl]; decide
  unfold F_X6_settle_131 a_settle2
  rw [KT_used hB hT l2 l4, m_bn]
  by_cases hc : m_cost (tI T l) ≤ 120
  · have g : ¬ (120 : Int32) < nI (m_cost (tI T l)) := by rw [m_c120]; exact nI_nlt (by omega) (by omega)
    rw [if_neg g, if_pos hc]
    exact ⟨fun T' h => ⟨f, rfl, by rw [← Option.some.inj h]; exact hT, k_fr_rf⟩, fun h => by cases h⟩
  · have g : (120 : Int32) < nI (m_cost (tI T l)) := by rw [m_c120]; exact nI_lt (by omega) (by omega)
    rw [if_pos g, if_neg hc]
    cases hf : m_free T B with
    | none =>
      rw [KT_take_none hB (by omega) hT h0 hf, m_bn, if_neg (z8 f)]
      exact ⟨fun T' h => (by cases h), fun _ => ⟨f, rfl⟩⟩
    | some r =>
      have hfo := free_ok hf
      have hfn : ∀ g, r ∉ tR T g := fun g => sk_fr hs hfo.2.2
      have hfl : r ≠ l := fun e => hfn 0 (e ▸ hl)
      have hXr : tX T ≠ r := fun e => hfn _ (e ▸ (sk_root hs).1)
      have e1 : (3756 : Int32) + nI r = nI (3756 + r) := by rw [m_c3756, nI_add]
      have e2 : (3948 : Int32) + nI r = nI (3948 + r) := by rw [m_c3948, nI_add]
      generalize hg : upd (upd (upd (upd (upd f r 1) (3756 + r) 0) (3852 + r) 0) (3756 + r) 1) (3948 + r) (-1) = g
      have t1 : k_T B 0 0 g (tsH (m_take T r 2) r 0) := by
        refine k_T_new (f' := g) hB hT hfo.2.1 (Or.inl ⟨rfl, rfl⟩) hXr ?_ ?_ ?_ (Or.inr ?_) (fun c _ hc _ _ => hc) (fun j j1 j2 j3 j4 => ?_)
        · rw [← hg, pk_un (by omega), pk_un (by omega), pk_un (by omega), pk_un (by omega), pk_us]
        · rw [← hg, pk_un (by omega), pk_us]; rfl
        · rw [← hg, pk_un (by omega), pk_un (by omega), pk_us]
        · rw [← hg, pk_us]
        · rw [← hg, pk_un j4, pk_un j2, pk_un j3, pk_un j2, pk_un j1]
      have r1 : k_fr f g := by
        rw [← hg]
        exact fun j hj => by rw [pk_un (by omega), pk_un (by omega), pk_un (by omega), pk_un (by omega), pk_un (by omega)]
      rw [tsH_take] at t1
      have eIl : tI (m_take T r 2) l = tI T l := l_up_n (Ne.symm hfl)
      have eIf : tI (m_take T r 2) r = [] := l_up_s
      have uc : tU (m_take T r 2) l = 2 := by rw [show tU (m_take T r 2) l = tU T l from l_up_n (Ne.symm hfl)]; exact l4
      have ur : tU (m_take T r 2) r = 2 := l_up_s
      have hig := fl_ig v2 hl
      have few := m_cost_few hig
      obtain ⟨f3, a3, t3, r3⟩ := K_cut_loop (S := S) hB l2 hfo.2.1 hfl (tI T l).length (tI T l) [] z_n (m_take T r 2) g rfl eIl eIf uc ur t1 (by unfold z_n; omega) hig (fun x hx => by cases hx) (by rw [m_cost_nil]; omega)
      have t3' : k_T B 0 0 f3 (a_cut T l r) := t3
      have kh1 : ∀ z, (z = l ∨ z = r) → k_h (a_cut T l r) z = 0 + 1 := fun z hz => by
        unfold k_h
        have : tU (a_cut T l r) z = 2 := by
          show tU (m_take T r 2) z = 2
          rcases hz with w | w <;> rw [w] <;> assumption
        rw [if_pos this]
      have hlen := sk_len hs (h := 0)
      obtain ⟨f4, a4, t4, r4⟩ := KT_lineUp (S := S) (x := r) (b := l) (h := 0) hB t3' hfo.2.1 l2 (kh1 r (Or.inr rfl)) (kh1 l (Or.inl rfl)) (by omega) (show (tR T 0).length < 96 by omega) (fun y hy => by have := (hs.2.2.2.1 0 y hy).2.1; omega) hl
      have t4' : k_T B 0 0 f4 (a_line (a_cut T l r) l r) := t4
      obtain ⟨k1, k2, k3⟩ : m_sk B r 0 (a_line (a_cut T l r) l r) ∧ m_nx (tR (a_line (a_cut T l r) l r) 0) l = some r ∧ tR (a_line (a_cut T l r) l r) 0 = m_insA l r (tR T 0) := sk_leaf (L1 := (a_gr (tI T l).length (tI T l) []).1) (L2 := (a_gr (tI T l).length (tI T l) []).2) hs hl hfo
      obtain ⟨i1, i2⟩ := KT_added_loop (S := S) hB h0 h7 8 z_n 0 l r (a_line (a_cut T l r) l r) f4 rfl (by unfold z_n; omega) (k_T_X t4' (sk_nz k1)) k1 (by rw [k3]; exact (insA_mem hl).mpr (Or.inr hl)) (by rw [k3]; exact (insA_mem hl).mpr (Or.inl rfl)) k2
      have start : (z_bn (F_X6_take B (z_ua S 61 f)) fun r4 S5 =>
        (if (S5.2.1 60 7) = 0 then
          z_gd (z_inb (3756 + r4) 25366) (
          z_lt (z_ua S5 61 (upd (S5.1 61) (z_ix (3756 + r4)) 1)) fun S8 =>
          (z_gd (z_inb (3948 + r4) 25366) (
          z_lt (z_ua S8 61 (upd (S8.1 61) (z_ix (3948 + r4)) (-1))) fun S10 =>
          (F_X6_settle_180 B z_n (nI l) r4 S10))))
        else
          some (.inl none, S5))) = (z_bo (F_X6_added_5 B z_n (nI l) (nI r) (z_ua S 61 f4)) fun S8 => (some (.inl none, S8))) := by
        rw [KT_take hB (by omega) hT h0 hf, m_bn, if_pos (z7 _), e1, m_gd (m_inb (by omega) (by omega)), m_lt, m_ix (i := 3756 + r) (by omega), z_ua_at, z_ua_ua, e2, m_gd (m_inb (by omega) (by omega)), m_lt, m_ix (i := 3948 + r) (by omega), z_ua_at, z_ua_ua, hg, a3, a4, m_bo, F_X6_added]
      rw [start]
      constructor
      · intro T' ha
        obtain ⟨f5, w1, w2, w3⟩ := i1 T' ha
        exact ⟨f5, by rw [w1, m_bo], w2, k_fr_tr r1 (k_fr_tr r3 (k_fr_tr r4 w3))⟩
      · intro ha
        obtain ⟨f5, w1⟩ := i2 ha
        exact ⟨f5, by rw [w1, m_bo]⟩
theorem K_settle {l : Nat} (hB : B ≤ 96) (h0 : S.2.1 60 1 = nI B) (h7 : S.2.1 60 7 = 0) (hT : k_T B 0 0 f T) (hs : m_sk B 0 0 T) (hl : l ∈ tR T 0) (hv : a_lv T l 168) :
    (∀ T', a_settle B T l = some T' → ∃ f', F_X6_settle B (nI l) (z_ua S 61 f) = some (.inl none, z_ua S 61 f') ∧ k_T B 0 0 f' T' ∧ k_fr f f') ∧ (a_settle B T l = none → ∃ f', F_X6_settle B (nI l) (z_ua S 61 f) = some (.inl none, z_ui (z_ua S 61 f') 60 7 1)) := by
  obtain ⟨l1, l2, l3, l4⟩ := hs.2.2.2.1 0 l hl
  rw [if_pos rfl] at l4
  have hnd := hs.2.2.2.2.2.1 0
  have leafU : ∀ b ∈ tR T 0, b < B ∧ tU T b = 2 := fun b hb => by
    obtain ⟨b1, b2, b3, b4⟩ := hs.2.2.2.1 0 b hb
    rw [if_pos rfl] at b4
    exact ⟨b2, b4⟩
  have hrr : ∀ y ∈ tR T 0, y < 2 ^ 31 := fun y hy => by have := (leafU y hy).1; omega
  have v2 := hv.2.1
  have hig := fl_ig v2 hl
  have few := m_cost_few hig
  have v3 := hv.2.2
  have b1 := KT_prev (S := S) hB hT l2 (sk_kh hs hl) (by omega) hnd hrr hl
  unfold F_X6_settle
  rw [b1, m_bn]
  obtain ⟨f1, a1, t1, r1⟩ : ∃ f', F_X6_settle_7 B z_n (nI l) (oI (m_pv (tR T 0) l)) (z_ua S 61 f) = F_X6_settle_59 B (nI l) (z_ua S 61 f') ∧ k_T B 0 0 f' (a_left T l (m_pv (tR T 0) l)) ∧ k_fr f f' := by
    cases ha : m_pv (tR T 0) l with
    | none => exact ⟨f, K_left_none hB hT l2 l4, hT, k_fr_rf⟩
    | some a =>
      have hx : m_nx (tR T 0) a = some l := (nx_pv hnd).mpr ha
      have hal : a ≠ l := fun e => nx_ne hnd (e ▸ hx : m_nx (tR T 0) a = some a)
      have ham : a ∈ tR T 0 := nx_src hx
      exact K_left_loop hB l2 (leafU a ham).1 hal (tI T l) (tI T a) z_n T f rfl rfl l4 (leafU a ham).2 hT (by unfold z_n; omega) hig (fl_ig v2 ham) ((hv.1 a ham).2 hal) hv.2.2
  obtain ⟨i1, f1', v1, n1⟩ := left_ok hs hl hv
  have s1 := it_sk i1 hs
  generalize hT1 : a_left T l (m_pv (tR T 0) l) = T1 at t1 i1 f1' v1 n1 s1
  have hR : tR T1 = tR T := i1.2.2.2.2.1
  have hU : tU T1 = tU T := i1.1
  have hl1 : l ∈ tR T1 0 := by rw [hR]; exact hl
  have hig1 := fl_ig v1.2.1 hl1
  have b2 := KT_next (S := S) hB t1 l2 (sk_kh s1 hl1) (by omega) (s1.2.2.2.2.2.1 0) (by rw [hR]; exact hrr) hl1
  rw [hR] at b2
  rw [a1, F_X6_settle_59, b2, m_bn]
  obtain ⟨f2, a2, t2, r2⟩ : ∃ f', F_X6_settle_66 B z_n (nI l) (oI (m_nx (tR T 0) l)) (z_ua S 61 f1) = F_X6_settle_131 B (nI l) (z_ua S 61 f') ∧ k_T B 0 0 f' (a_right T1 l (m_nx (tR T 0) l)) ∧ k_fr f1 f' := by
    cases ha : m_nx (tR T 0) l with
    | none => exact ⟨f1, K_right_none hB t1 l2 (by rw [hU]; exact l4), t1, k_fr_rf⟩
    | some a =>
      have ham : a ∈ tR T 0 := List.mem_of_mem_tail (nx_mem ha)
      have hal : a ≠ l := fun e => nx_ne hnd (e ▸ ha : m_nx (tR T 0) a = some a)
      have ham1 : a ∈ tR T1 0 := by rw [hR]; exact ham
      exact K_right_loop hB l2 (leafU a ham).1 hal (tI T1 l).length (tI T1 l) (tI T1 a) z_n T1 f1 rfl rfl rfl (by rw [hU]; exact l4) (by rw [hU]; exact (leafU a ham).2) t1 (by unfold z_n; omega) hig1 (fl_ig v1.2.1 ham1) ((v1.1 a ham1).2 hal) v1.2.2
  obtain ⟨i2, f2', v2', n2⟩ := right_ok s1 hl1 v1
  rw [hR] at i2 f2' v2' n2
  have s2 := it_sk i2 s1
  have hl2 : l ∈ tR (a_right T1 l (m_nx (tR T 0) l)) 0 := by rw [i2.2.2.2.2.1]; exact hl1
  obtain ⟨j1, j2⟩ := K_settle2 (S := S) hB h0 h7 t2 s2 hl2 v2'
  have ea : a_settle B T l = a_settle2 B (a_right T1 l (m_nx (tR T 0) l)) l := by unfold a_settle; rw [hT1]
  rw [a2, ea]
  constructor
  · intro T' h
    obtain ⟨f', w1, w2, w3⟩ := j1 T' h
    exact ⟨f', w1, w2, k_fr_tr r1 (k_fr_tr r2 w3)⟩
  · exact j2
/-- all of one leaf to another, and it is gone -/
theorem look150 {k : Int32 → z_S → Option (z_O × z_S)} : ∀ (n : Nat) (v2 v4 : Int32) (S : z_S), F_X6_lookAt_150 B k n v2 v4 S = F_X6_lookAt_87 B k n v4 v2 S
  | 0, _, _, _ => rfl
  | n + 1, v2, v4, S => by rw [F_X6_lookAt_150, F_X6_lookAt_87]; simp only [look150 n]
theorem K_all_loop {l a : Nat} {k : Int32 → z_S → Option (z_O × z_S)} (hB : B ≤ 96) (hl : l < B) (ha : a < B) (hal : a ≠ l) : ∀ (L A : List m_It) (n : Nat) (T : m_T) (f : Nat → Int32), tI T l = L → tI T a = A → tU T l = 2 → tU T a = 2 → k_T B 0 0 f T → A.length + L.length ≤ 14 → L.length < n →
    ∃ f', F_X6_lookAt_87 B k n (nI l) (nI a) (z_ua S 61 f) = (z_bo (F_X6_gone B (nI l) (z_ua S 61 f')) fun S4 => (k (nI a) S4)) ∧ k_T B 0 0 f' (tsI (tsI T a (A ++ L)) l []) ∧ k_fr f f'
  | [], A, n, T, f, eL, eA, ul, ua, hT, hA, hn => by
    obtain ⟨n, rfl⟩ : ∃ k, n = k + 1 := ⟨n - 1, by omega⟩
    have e38 : (3852 : Int32) + nI l = nI (3852 + l) := by rw [m_c3852, nI_add]
    have e3 : f (3852 + l) = nI 0 := by rw [K_cntL hT hl ul, eL]; rfl
    refine ⟨f, ?_, by rw [List.append_nil, tsI_2 hal eA eL]; exact hT, k_fr_rf⟩
    rw [F_X6_lookAt_87, e38, m_gd (m_inb (by omega) (by omega)), m_lt, m_ix (by omega), z_ua_at, e3, if_pos (by decide)]
  | x :: L, A, n, T, f, eL, eA, ul, ua, hT, hA, hn => by
    obtain ⟨n, rfl⟩ : ∃ k, n = k + 1 := ⟨n - 1, by omega⟩
    rw [List.length_cons] at hn hA
    have e38 : (3852 : Int32) + nI l = nI (3852 + l) := by rw [m_c3852, nI_add]
    have e38a : (3852 : Int32) + nI a = nI (3852 + a) := by rw [m_c3852, nI_add]
    have e3 : f (3852 + l) = nI (L.length + 1) := by rw [K_cntL hT hl ul, eL]; rfl
    have e3a : f (3852 + a) = nI A.length := by rw [K_cntL hT ha ua, eA]
    obtain ⟨f1, a1, t1, r1⟩ := KT_carry (S := S) (g := l) (i := 0) (b := a) (pl := A.length) (x := x) hB hT hl ha (Ne.symm hal) ul ua (by rw [eL]; rfl) (by rw [eA]; exact Nat.le_refl _) (by rw [eA]; omega)
    rw [eA, eL] at t1
    have t1' : k_T B 0 0 f1 (tsI (tsI T a (A ++ [x])) l L) := by
      have e1 : A.insertIdx A.length x = A ++ [x] := by simp
      rw [e1] at t1
      exact t1
    obtain ⟨f2, a2, t2, r2⟩ := K_all_loop (k := k) hB hl ha hal L (A ++ [x]) n (tsI (tsI T a (A ++ [x])) l L) f1 tI_eq (by rw [tI_ne hal, tI_eq]) ul ua t1' (by rw [List.length_append, List.length_singleton]; omega) (by omega)
    rw [tsI4 hal, List.append_assoc, List.singleton_append] at t2
    refine ⟨f2, ?_, t2, k_fr_tr r1 r2⟩
    have a1' : F_X6_carry B (nI l) 0 (nI a) (nI A.length) (z_ua S 61 f) = some (.inl none, z_ua S 61 f1) := a1
    rw [F_X6_lookAt_87, e38, m_gd (m_inb (by omega) (by omega)), m_lt, m_ix (i := 3852 + l) (by omega), z_ua_at, e3, if_neg (by rw [m_c0]; exact nI_ge (by omega) (by omega)), e38a, m_gd (m_inb (by omega) (by omega)), m_lt, m_ix (i := 3852 + a) (by omega), e3a, a1', m_bo]
    exact a2
theorem K_join {d b : Nat} {k : Int32 → z_S → Option (z_O × z_S)} (hB : B ≤ 96) (hT : k_T B 0 0 f T) (hs : m_sk B 0 0 T) (hd : d ∈ tR T 0) (hb : b ∈ tR T 0) (hdb : d ≠ b) (hc : m_cost (tI T d) + m_cost (tI T b) ≤ 72) (hi : ∀ x ∈ flat T, m_ig x) (hp : ∃ p, tP T d = some p) :
    ∃ f', F_X6_lookAt_87 B k z_n (nI d) (nI b) (z_ua S 61 f) = k (nI b) (z_ua S 61 f') ∧ k_T B 0 0 f' (a_gone 8 (a_all T d b) d) ∧ k_fr f f' := by
  obtain ⟨d1, d2, d3, d4⟩ := hs.2.2.2.1 0 d hd
  obtain ⟨b1, b2, b3, b4⟩ := hs.2.2.2.1 0 b hb
  rw [if_pos rfl] at d4 b4
  have q1 := m_cost_few (fl_ig hi hd)
  have q2 := m_cost_few (fl_ig hi hb)
  obtain ⟨f1, a1, t1, r1⟩ := K_all_loop (S := S) (k := k) hB d2 b2 (Ne.symm hdb) (tI T d) (tI T b) z_n T f rfl rfl d4 b4 hT (by omega) (by unfold z_n; omega)
  have s1 : m_sk B 0 0 (a_all T d b) := it_sk (it_tr it_sI it_sI) hs
  obtain ⟨p, hp⟩ := hp
  have t1' : k_T B 0 0 f1 (a_all T d b) := t1
  obtain ⟨f2, a2, t2, r2⟩ := KT_gone (S := S) hB t1' s1 hd hp
  exact ⟨f2, by rw [a1, a2, m_bo], t2, k_fr_tr r1 r2⟩
theorem K_lookAt_loop (hB : B ≤ 96) : ∀ (n m l : Nat) (T : m_T) (f : Nat → Int32), (tR T 0).length ≤ n → n < m → k_T B 0 0 f T → m_sk B 0 0 T → l ∈ tR T 0 → a_lo T l → ∃ f', F_X6_lookAt_2 B m (nI l) (z_ua S 61 f) = some (.inl none, z_ua S 61 f') ∧ k_T B 0 0 f' (a_look n T l) ∧ k_fr f f'
  | 0, m, l, T, f, hn, hm, hT, hs, hl, hv => by
    have : tR T 0 = [] := List.eq_nil_of_length_eq_zero (by omega)
    rw [this] at hl; cases hl
  | n + 1, m, l, T, f, hn, hm, hT, hs, hl, hv => by
    obtain ⟨m, rfl⟩ : ∃ k, m = k + 1 := ⟨m - 1, by omega⟩
    obtain ⟨v1, v2, v3⟩ := hv
    have hnd := hs.2.2.2.2.2.1 0
    have leafU : ∀ b ∈ tR T 0, b < B ∧ tU T b = 2 := fun b hb => by
      obtain ⟨b1, b2, b3, b4⟩ := hs.2.2.2.1 0 b hb
      rw [if_pos rfl] at b4
      exact ⟨b2, b4⟩
    obtain ⟨lB, lU⟩ := leafU l hl
    have hrr : ∀ y ∈ tR T 0, y < 2 ^ 31 := fun y hy => by have := (leafU y hy).1; omega
    have hlen : (m_era l (tR T 0)).length ≤ n := by rw [l_era_len hl]; omega
    have b1 := KT_prev (S := S) hB hT lB (sk_kh hs hl) (by omega) hnd hrr hl
    have b2 := KT_next (S := S) hB hT lB (sk_kh hs hl) (by omega) hnd hrr hl
    have q3 : f (3852 + l) = nI (tI T l).length := K_cntL hT lB lU
    have ln : (tI T l).length ≤ 16 := (hT.2.2.1 l lB lU).2.2
    have e38 : (3852 : Int32) + nI l = nI (3852 + l) := by rw [m_c3852, nI_add]
    have nbL : ∀ a, m_pv (tR T 0) l = some a → a ∈ tR T 0 ∧ l ≠ a ∧ m_nx (tR T 0) a = some l := fun a ha => by
      have hx := (nx_pv hnd).mpr ha
      exact ⟨nx_src hx, fun e => nx_ne hnd (e ▸ hx : m_nx (tR T 0) l = some l), hx⟩
    have nbR : ∀ c, m_nx (tR T 0) l = some c → c ∈ tR T 0 ∧ c ≠ l := fun c hc => ⟨List.mem_of_mem_tail (nx_mem hc), fun e => nx_ne hnd (e ▸ hc : m_nx (tR T 0) c = some c)⟩
    have hR : tI T l ≠ [] → ∃ f', F_X6_lookAt_130 B (F_X6_lookAt_195 B (F_X6_lookAt_2 B m)) (nI l) (oI (m_nx (tR T 0) l)) (nI (m_cost (tI T l))) (z_ua S 61 f) = some (.inl none, z_ua S 61 f') ∧ k_T B 0 0 f' (a_lookR (a_look n) T l (m_nx (tR T 0) l)) ∧ k_fr f f' := fun hne => by
      cases hc : m_nx (tR T 0) l with
      | none =>
        refine ⟨f, ?_, hT, k_fr_rf⟩
        unfold F_X6_lookAt_130
        rw [if_pos (show oI none = -1 from rfl), F_X6_lookAt_194]
      | some c =>
        obtain ⟨hcm, hcl⟩ := nbR c hc
        obtain ⟨cB, cU⟩ := leafU c hcm
        have k1 := (v1 l hl).2
        have k2 := (v1 c hcm).2
        rw [show a_lookR (a_look n) T l (some c) = if 72 < m_cost (tI T l) + m_cost (tI T c) then T else a_look n (a_gone 8 (a_all T c l) c) l from rfl]
        unfold F_X6_lookAt_130
        rw [show oI (some c) = nI c from rfl, if_neg (m_ne1 (by omega)), KT_used hB hT cB cU, m_bn, nI_add]
        by_cases h72 : 72 < m_cost (tI T l) + m_cost (tI T c)
        · rw [if_pos (by rw [m_c72]; exact nI_lt h72 (by omega)), if_pos h72, F_X6_lookAt_194]
          exact ⟨f, rfl, hT, k_fr_rf⟩
        · rw [if_neg (by rw [m_c72]; exact nI_nlt (by omega) (by omega)), if_neg h72, look150]
          have hf : flat (a_all T c l) = flat T := by
            show (tR T 0).flatMap (va_up (va_up (tI T) l (tI T l ++ tI T c)) c []) = _
            rw [l_fm_adj hnd hc (by simp)]; rfl
          obtain ⟨j1, j2, j3, j4, j5, j6, j7⟩ := join_leaf hs hcm hl hcl hf (fun z hz _ h2 => ⟨(v1 z hz).1 h2, (v1 z hz).2⟩) (by simp [hne]) (by omega) v2 v3
          obtain ⟨f1, a1, t1, r1⟩ := K_join (S := S) (k := F_X6_lookAt_195 B (F_X6_lookAt_2 B m)) hB hT hs hcm hl hcl (by omega) v2 j7
          obtain ⟨f2, a2, t2, r2⟩ := K_lookAt_loop hB n m l _ f1 (by rw [j6, l_era_len hcm]; omega) (by omega) t1 j1 j2 j3
          refine ⟨f2, ?_, t2, k_fr_tr r1 r2⟩
          rw [a1, F_X6_lookAt_195]
          exact a2
    have hL : tI T l ≠ [] → ∃ f', F_X6_lookAt_69 B (F_X6_lookAt_195 B (F_X6_lookAt_2 B m)) (nI l) (oI (m_pv (tR T 0) l)) (oI (m_nx (tR T 0) l)) (nI (m_cost (tI T l))) (z_ua S 61 f) = some (.inl none, z_ua S 61 f') ∧ k_T B 0 0 f' (a_lookL (a_look n) T l (m_nx (tR T 0) l) (m_pv (tR T 0) l)) ∧ k_fr f f' := fun hne => by
      cases ha : m_pv (tR T 0) l with
      | none =>
        unfold F_X6_lookAt_69
        rw [if_pos (show oI none = -1 from rfl)]
        exact hR hne
      | some a =>
        obtain ⟨ham, hla, hx⟩ := nbL a ha
        obtain ⟨aB, aU⟩ := leafU a ham
        have k1 := (v1 l hl).2
        have k2 := (v1 a ham).2
        rw [show a_lookL (a_look n) T l (m_nx (tR T 0) l) (some a) = if 72 < m_cost (tI T a) + m_cost (tI T l) then a_lookR (a_look n) T l (m_nx (tR T 0) l) else a_look n (a_gone 8 (a_all T l a) l) a from rfl]
        unfold F_X6_lookAt_69
        rw [show oI (some a) = nI a from rfl, if_neg (m_ne1 (by omega)), KT_used hB hT aB aU, m_bn, nI_add]
        by_cases h72 : 72 < m_cost (tI T a) + m_cost (tI T l)
        · rw [if_pos (by rw [m_c72]; exact nI_lt (by omega) (by omega)), if_pos h72]
          exact hR hne
        · rw [if_neg (by rw [m_c72]; exact nI_nlt (by omega) (by omega)), if_neg h72]
          have hf : flat (a_all T l a) = flat T := by
            show (tR T 0).flatMap (va_up (va_up (tI T) a (tI T a ++ tI T l)) l []) = _
            rw [l_fm_adj hnd hx (by simp)]; rfl
          obtain ⟨j1, j2, j3, j4, j5, j6, j7⟩ := join_leaf hs hl ham hla hf (fun z hz h1 _ => ⟨(v1 z hz).1 h1, (v1 z hz).2⟩) (by simp [hne]) (by omega) v2 v3
          obtain ⟨f1, a1, t1, r1⟩ := K_join (S := S) (k := F_X6_lookAt_195 B (F_X6_lookAt_2 B m)) hB hT hs hl ham hla (by omega) v2 j7
          obtain ⟨f2, a2, t2, r2⟩ := K_lookAt_loop hB n m a _ f1 (by rw [j6]; exact hlen) (by omega) t1 j1 j2 j3
          refine ⟨f2, ?_, t2, k_fr_tr r1 r2⟩
          rw [a1, F_X6_lookAt_195]
          exact a2
    have hE : ∀ b, b ∈ tR T 0 → l ≠ b → tI T l = [] → ∃ f1 f', F_X6_gone B (nI l) (z_ua S 61 f) = some (.inl none, z_ua S 61 f1) ∧ F_X6_lookAt_2 B m (nI b) (z_ua S 61 f1) = some (.inl none, z_ua S 61 f') ∧ k_T B 0 0 f' (a_look n (a_gone 8 T l) b) ∧ k_fr f f' := fun b hb hlb he => by
      obtain ⟨k1, k2, k3, k4, k5, p, hp⟩ := gone_leaf hs hl hb hlb he
      obtain ⟨f1, a1, t1, r1⟩ := KT_gone (S := S) hB hT hs hl hp
      obtain ⟨f2, a2, t2, r2⟩ := K_lookAt_loop hB n m b _ f1 (by rw [k3]; exact hlen) (by omega) t1 k1 (by rw [k3]; exact era_mem (Ne.symm hlb) hb) ⟨fun z hz => by
        rw [k3] at hz
        have hz1 : z ∈ tR T 0 := era_sub hz
        have hz2 : z ≠ l := fun e => (era_nodup (n := l) hnd).2 (e ▸ hz)
        rw [k2]
        exact ⟨fun _ => (v1 z hz1).1 hz2, (v1 z hz1).2⟩, by rw [k4]; exact v2, by rw [k4]; exact v3⟩
      exact ⟨f1, f2, a1, a2, t2, k_fr_tr r1 r2⟩
    rw [F_X6_lookAt_2, b1, m_bn, b2, m_bn, KT_used hB hT lB lU, m_bn, e38, m_gd (m_inb (by omega) (by omega)), m_lt, m_ix (by omega), z_ua_at, q3, a_look]
    unfold a_look1
    by_cases he : (tI T l).length = 0
    · have he2 : tI T l = [] := List.eq_nil_of_length_eq_zero he
      have q0 : f 13068 = nI (tR T 0).length := (hT.2.2.2.2.2.1 0 (by omega)).1
      have q9 : (tR T 0).length ≤ 96 := (hT.2.2.2.2.2.1 0 (by omega)).2.2
      rw [if_pos he, if_pos (show nI (tI T l).length = 0 by rw [he]; rfl), m_gd (by decide), m_lt, show z_ix (13068 : Int32) = 13068 from m_ix (i := 13068) (by omega), q0]
      have two : ∀ b, b ∈ tR T 0 → l ≠ b → ¬ nI (tR T 0).length ≤ 1 := fun b hb hlb => by
        have h3 : 2 ≤ (tR T 0).length := by
          have h4 := l_era_len hl
          have h5 : b ∈ m_era l (tR T 0) := era_mem (Ne.symm hlb) hb
          have h6 := List.length_pos_of_mem h5
          omega
        rw [m_c1]; exact nI_ge (by omega) (by omega)
      cases ha : m_pv (tR T 0) l with
      | none =>
        cases hc : m_nx (tR T 0) l with
        | none =>
          exfalso
          have := l_alone hnd hl ha hc
          unfold flat at v3
          rw [this] at v3
          simp [he2] at v3
        | some c =>
          obtain ⟨hcm, hcl⟩ := nbR c hc
          obtain ⟨f1, f2, a1, a2, t2, r2⟩ := hE c hcm (Ne.symm hcl) he2
          refine ⟨f2, ?_, t2, r2⟩
          rw [if_neg (two c hcm (Ne.symm hcl)), a1, m_bo, if_pos (show oI none = -1 from rfl), F_X6_lookAt_65, F_X6_lookAt_195]
          exact a2
      | some a =>
        obtain ⟨ham, hla, hx⟩ := nbL a ha
        have aB := (leafU a ham).1
        obtain ⟨f1, f2, a1, a2, t2, r2⟩ := hE a ham hla he2
        refine ⟨f2, ?_, t2, r2⟩
        rw [if_neg (two a ham hla), a1, m_bo, show oI (some a) = nI a from rfl, if_neg (m_ne1 (by omega)), F_X6_lookAt_65, F_X6_lookAt_195]
        exact a2
    · have hz : ¬ nI (tI T l).length = 0 := fun e => he ((nI_eq (by omega) (by omega)).mp (e.trans m_c0))
      rw [if_neg he, if_neg hz]
      exact hL (fun e => he (by rw [e]; rfl))
theorem K_lookAt {l : Nat} (hB : B ≤ 96) (hT : k_T B 0 0 f T) (hs : m_sk B 0 0 T) (hl : l ∈ tR T 0) (hv : a_lo T l) : ∃ f', F_X6_lookAt B (nI l) (z_ua S 61 f) = some (.inl none, z_ua S 61 f') ∧ k_T B 0 0 f' (a_look B T l) ∧ k_fr f f' :=
  K_lookAt_loop hB B z_n l T f (by have := sk_len hs (h := 0); omega) (by unfold z_n; omega) hT hs hl hv
end KS
