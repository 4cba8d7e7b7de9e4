/-! count: class and reference answer alike. -/
def s_n (w : Nat → Nat) : Nat → Nat → Nat
  | 0, _ => 0
  | n + 1, k => w k + s_n w n (k + 1)
theorem sn_congr {w w' : Nat → Nat} : ∀ {n k : Nat}, (∀ b, k ≤ b → b < k + n → w b = w' b) → s_n w n k = s_n w' n k
  | 0, _, _ => rfl
  | n + 1, k, h => by rw [s_n, s_n, h k (Nat.le_refl _) (by omega), sn_congr (fun b h1 h2 => h b (by omega) (by omega))]
theorem sn_add {w w' : Nat → Nat} : ∀ {n k : Nat}, s_n (fun b => w b + w' b) n k = s_n w n k + s_n w' n k
  | 0, _ => rfl
  | n + 1, k => by rw [s_n, s_n, s_n, sn_add]; omega
theorem sn_one {f : Nat → Nat} {a : Nat} : ∀ {n k : Nat}, s_n (fun b => if b = a then f b else 0) n k = if k ≤ a ∧ a < k + n then f a else 0
  | 0, k => by rw [s_n, if_neg (by omega)]
  | n + 1, k => by
    rw [s_n, sn_one]
    by_cases e : k = a
    · subst e
      rw [if_pos rfl, if_neg (by omega), if_pos (by omega), Nat.add_zero]
    · rw [if_neg e]
      by_cases h : k + 1 ≤ a ∧ a < k + 1 + n
      · rw [if_pos h, if_pos (by omega), Nat.zero_add]
      · rw [if_neg h, if_neg (by omega)]
theorem sn_0 {w : Nat → Nat} : ∀ {n k : Nat}, (∀ b, w b = 0) → s_n w n k = 0
  | 0, _, _ => rfl
  | n + 1, k, h => by rw [s_n, h k, sn_0 h]
theorem sn_rows {f : Nat → Nat} {B : Nat} : ∀ {L : List Nat}, L.Nodup → (∀ b ∈ L, b < B) → s_n (fun b => if b ∈ L then f b else 0) B 0 = (L.map f).sum
  | [], _, _ => by rw [sn_0 (fun b => by simp)]; rfl
  | a :: L, hd, hb => by
    have ⟨h1, h2⟩ := List.nodup_cons.mp hd
    have e : s_n (fun b => if b ∈ a :: L then f b else 0) B 0 = s_n (fun b => (if b = a then f b else 0) + if b ∈ L then f b else 0) B 0 := sn_congr (fun b _ _ => by
      by_cases e1 : b = a
      · subst e1
        rw [if_pos List.mem_cons_self, if_pos rfl, if_neg h1, Nat.add_zero]
      · rw [if_neg e1, Nat.zero_add]
        by_cases e2 : b ∈ L
        · rw [if_pos (List.mem_cons_of_mem _ e2), if_pos e2]
        · rw [if_neg (fun z => by rcases List.mem_cons.mp z with w | w; exact e1 w; exact e2 w), if_neg e2])
    have ha := hb a List.mem_cons_self
    rw [e, sn_add, sn_one, if_pos (by omega), sn_rows h2 (fun b hm => hb b (List.mem_cons_of_mem _ hm)), List.map_cons, List.sum_cons]
theorem len_sum : ∀ {L : List Nat}, (L.map (fun _ => 1)).sum = L.length
  | [] => rfl
  | a :: L => by rw [List.map_cons, List.sum_cons, len_sum, List.length_cons, Nat.add_comm]
theorem z_p0 {u : Nat} : nI (u + 0) = nI u := rfl
theorem sn_sh {w : Nat → Nat} : ∀ {n k : Nat}, s_n (fun o => w (o + 1)) n k = s_n w n (k + 1)
  | 0, _ => rfl
  | n + 1, k => by rw [s_n, s_n, sn_sh]
theorem z_sum {N : Nat} {w : Nat → Nat} {S : z_S} {G : Nat → Nat → Nat → Option (z_O × z_S)} (h1 : ∀ n u i, i < N → G (n + 1) u i = G n (u + w i) (i + 1)) (h2 : ∀ n u, G (n + 1) u N = some (.inl (some (nI u)), S)) : ∀ (m n u i : Nat), i + m = N → m < n → G n u i = some (.inl (some (nI (u + s_n w m i))), S)
  | 0, n, u, i, hi, hn => by
    obtain ⟨n, rfl⟩ : ∃ j, n = j + 1 := ⟨n - 1, by omega⟩
    have e : i = N := by omega
    subst e
    rw [h2, s_n, Nat.add_zero]
  | m + 1, n, u, i, hi, hn => by
    obtain ⟨n, rfl⟩ : ∃ j, n = j + 1 := ⟨n - 1, by omega⟩
    rw [h1 n u i (by omega), z_sum h1 h2 m n (u + w i) (i + 1) (by omega) (by omega), s_n, Nat.add_assoc]
/-- the numbers that are counted -/
def d_c (B : Nat) (A : m_A) (ch : Nat → Bool) (p : Int32) : Int32 :=
  if p = 0 then nI (s_n (fun b => if tU A.1.1 b = 0 then 0 else 1) B 0) else if p = 1 then nI (tR A.1.1 0).length else if p = 2 then nI (tH A.1.1 (tX A.1.1) + 1) else if p = 3 then nI (s_n (fun o => if oK A.1.2 o = 0 then 0 else 1) 60 1) else if p = 4 then nI (flat A.1.1).length else if p = 5 then nI ((tR A.1.1 0).map (fun b => m_cost (tI A.1.1 b))).sum else if p = 6 then nI (p_cnt (fun b => i_b (ch b)) B 0) else if p = 7 then nI A.2.2.2.2.2.1 else if p = 8 then A.2.2.2.2.1 else A.2.2.2.2.2.2.1
def A_count (B : Nat) (A : m_A) (ch : Nat → Bool) (p : Int32) : Nat × Int32 := if A.2.2.1 = 0 then (if 0 ≤ p ∧ p ≤ 9 then (0, d_c B A ch p) else (2, 0)) else (1, 0)
theorem i32_nine {p : Int32} (h : 0 ≤ p ∧ p ≤ 9) : p = 0 ∨ p = 1 ∨ p = 2 ∨ p = 3 ∨ p = 4 ∨ p = 5 ∨ p = 6 ∨ p = 7 ∨ p = 8 ∨ p = 9 := by
  obtain ⟨k, hk, -, hlt⟩ := m_in (p := p) (lo := 0) (hi := 9) (by rw [← m_c0]; exact h.1) (by rw [show nI 9 = (9 : Int32) from rfl]; exact h.2) (by omega) (by omega)
  subst hk
  obtain rfl | rfl | rfl | rfl | rfl | rfl | rfl | rfl | rfl | rfl : k = 0 ∨ k = 1 ∨ k = 2 ∨ k = 3 ∨ k = 4 ∨ k = 5 ∨ k = 6 ∨ k = 7 ∨ k = 8 ∨ k = 9 := by omega
  all_goals simp [nI]
section CT
variable {B J : Nat} {S : z_S} {A : m_A} {T : m_T} {O : m_O} {ch : Nat → Bool}
theorem leaf_iff {b : Nat} (hs : m_sk B 0 0 T) (hb : b < B) : tU T b = 2 ↔ b ∈ tR T 0 := ⟨fun h => sk_u2 hs hb h, fun h => by have := (hs.2.2.2.1 0 b h).2.2.2; rw [if_pos rfl] at this; exact this⟩
theorem sn_leaf {f : Nat → Nat} (hs : m_sk B 0 0 T) : s_n (fun b => if tU T b = 2 then f b else 0) B 0 = ((tR T 0).map f).sum := by
  rw [← sn_rows (hs.2.2.2.2.2.1 0) (fun b hb => (hs.2.2.2.1 0 b hb).2.1)]
  exact sn_congr (fun b _ hb => by
    have := leaf_iff (b := b) hs (by omega)
    by_cases e : tU T b = 2
    · rw [if_pos e, if_pos (this.mp e)]
    · rw [if_neg e, if_neg (fun z => e (this.mpr z))])
theorem u_is {k v : Nat} (h : k ≤ 4) (hv : v ≤ 4) : nI k = nI v ↔ k = v := nI_eq (by omega) (by omega)
theorem C_blocksInUse (hB : B ≤ 96) (hT : c_T B 2 S T) (hu : ∀ b, b < B → tU T b ≤ 4) : F_X4_blocksInUse B 2 S = some (.inl (some (nI (s_n (fun b => if tU T b = 0 then 0 else 1) B 0))), S) := by
  have := z_sum (N := B) (w := fun b => if tU T b = 0 then 0 else 1) (S := S) (G := fun n u i => F_X4_blocksInUse_4 B 2 n (nI u) (nI i) S) (fun n u i hi => by
    show F_X4_blocksInUse_4 B 2 (n + 1) (nI u) (nI i) S = F_X4_blocksInUse_4 B 2 n (nI (u + if tU T i = 0 then 0 else 1)) (nI (i + 1)) S
    rw [F_X4_blocksInUse_4, hT.1, if_neg (nI_ge hi (by omega)), m_gd (m_inb hi (by omega)), m_lt, m_ix (by omega), show S.1 (2 + 1) i = _ from hT.2.2.1 i hi]
    by_cases e : tU T i = 0
    · rw [if_pos (by rw [e]; rfl), if_pos e, F_X4_blocksInUse_24, nI_1]; rfl
    · rw [if_neg (fun z => e ((u_is (hu i hi) (by omega)).mp (z.trans m_c0))), if_neg e, F_X4_blocksInUse_24, nI_1, nI_1]) (fun n u => by
    show F_X4_blocksInUse_4 B 2 (n + 1) (nI u) (nI B) S = _
    rw [F_X4_blocksInUse_4, hT.1, if_pos (nI_le (Nat.le_refl _) (by omega))]) B z_n 0 0 (by omega) (by unfold z_n; omega)
  rw [Nat.zero_add] at this
  exact this
theorem C_leaves (hB : B ≤ 96) (hs : m_sk B 0 0 T) (hT : c_T B 2 S T) : F_X4_leaves B 2 S = some (.inl (some (nI (tR T 0).length)), S) := by
  have hu := hs.2.2.2.2.2.2.2.2.2.2.2
  have := z_sum (N := B) (w := fun b => if tU T b = 2 then 1 else 0) (S := S) (G := fun n u i => F_X4_leaves_4 B 2 n (nI u) (nI i) S) (fun n u i hi => by
    show F_X4_leaves_4 B 2 (n + 1) (nI u) (nI i) S = F_X4_leaves_4 B 2 n (nI (u + if tU T i = 2 then 1 else 0)) (nI (i + 1)) S
    rw [F_X4_leaves_4, hT.1, if_neg (nI_ge hi (by omega)), m_gd (m_inb hi (by omega)), m_lt, m_ix (by omega), show S.1 (2 + 1) i = _ from hT.2.2.1 i hi]
    by_cases e : tU T i = 2
    · rw [if_pos (by rw [e]; rfl), if_pos e, F_X4_leaves_25, nI_1, nI_1]
    · rw [if_neg (fun z => e ((u_is (hu i hi) (by omega)).mp (z.trans m_c2))), if_neg e, F_X4_leaves_25, nI_1]; rfl) (fun n u => by
    show F_X4_leaves_4 B 2 (n + 1) (nI u) (nI B) S = _
    rw [F_X4_leaves_4, hT.1, if_pos (nI_le (Nat.le_refl _) (by omega))]) B z_n 0 0 (by omega) (by unfold z_n; omega)
  rw [Nat.zero_add, sn_leaf (f := fun _ => 1) hs, len_sum] at this
  exact this
theorem C_items (hB : B ≤ 96) (hs : m_sk B 0 0 T) (hT : c_T B 2 S T) : F_X4_items B 2 S = some (.inl (some (nI (flat T).length)), S) := by
  have hu := hs.2.2.2.2.2.2.2.2.2.2.2
  have := z_sum (N := B) (w := fun b => if tU T b = 2 then (tI T b).length else 0) (S := S) (G := fun n u i => F_X4_items_4 B 2 n (nI u) (nI i) S) (fun n u i hi => by
    show F_X4_items_4 B 2 (n + 1) (nI u) (nI i) S = F_X4_items_4 B 2 n (nI (u + if tU T i = 2 then (tI T i).length else 0)) (nI (i + 1)) S
    rw [F_X4_items_4, hT.1, if_neg (nI_ge hi (by omega)), m_gd (m_inb hi (by omega)), m_lt, m_ix (by omega), show S.1 (2 + 1) i = _ from hT.2.2.1 i hi]
    by_cases e : tU T i = 2
    · rw [if_pos (by rw [e]; rfl), if_pos e, m_gd (m_inb hi (by omega)), m_lt, show S.1 (2 + 3) i = _ from (hT.2.2.2.1 i hi e).1, F_X4_items_31, nI_1, nI_add]
    · rw [if_neg (fun z => e ((u_is (hu i hi) (by omega)).mp (z.trans m_c2))), if_neg e, F_X4_items_31, nI_1]; rfl) (fun n u => by
    show F_X4_items_4 B 2 (n + 1) (nI u) (nI B) S = _
    rw [F_X4_items_4, hT.1, if_pos (nI_le (Nat.le_refl _) (by omega))]) B z_n 0 0 (by omega) (by unfold z_n; omega)
  rw [Nat.zero_add, sn_leaf (f := fun b => (tI T b).length) hs, show ((tR T 0).map (fun b => (tI T b).length)).sum = (flat T).length by unfold flat; rw [List.length_flatMap]] at this
  exact this
theorem C_usedOfAll (hB : B ≤ 96) (hs : m_sk B 0 0 T) (hT : c_T B 2 S T) : F_X4_usedOfAll B 2 S = some (.inl (some (nI ((tR T 0).map (fun b => m_cost (tI T b))).sum)), S) := by
  have hu := hs.2.2.2.2.2.2.2.2.2.2.2
  have := z_sum (N := B) (w := fun b => if tU T b = 2 then m_cost (tI T b) else 0) (S := S) (G := fun n u i => F_X4_usedOfAll_4 B 2 n (nI u) (nI i) S) (fun n u i hi => by
    show F_X4_usedOfAll_4 B 2 (n + 1) (nI u) (nI i) S = F_X4_usedOfAll_4 B 2 n (nI (u + if tU T i = 2 then m_cost (tI T i) else 0)) (nI (i + 1)) S
    rw [F_X4_usedOfAll_4, hT.1, if_neg (nI_ge hi (by omega)), m_gd (m_inb hi (by omega)), m_lt, m_ix (by omega), show S.1 (2 + 1) i = _ from hT.2.2.1 i hi]
    by_cases e : tU T i = 2
    · rw [if_pos (by rw [e]; rfl), if_pos e, m_gd (m_inb hi (by omega)), m_lt, show S.1 (2 + 4) i = _ from (hT.2.2.2.1 i hi e).2.1, F_X4_usedOfAll_31, nI_1, nI_add]
    · rw [if_neg (fun z => e ((u_is (hu i hi) (by omega)).mp (z.trans m_c2))), if_neg e, F_X4_usedOfAll_31, nI_1]; rfl) (fun n u => by
    show F_X4_usedOfAll_4 B 2 (n + 1) (nI u) (nI B) S = _
    rw [F_X4_usedOfAll_4, hT.1, if_pos (nI_le (Nat.le_refl _) (by omega))]) B z_n 0 0 (by omega) (by unfold z_n; omega)
  rw [Nat.zero_add, sn_leaf (f := fun b => m_cost (tI T b)) hs] at this
  exact this
theorem C_howMany (hi : m_im B T O) (h : c_O B 1 S T O) : F_X2_howMany B 14 S = some (.inl (some (nI (s_n (fun o => if oK O o = 0 then 0 else 1) 60 1))), S) := by
  have := z_sum (N := 60) (w := fun o => if oK O (o + 1) = 0 then 0 else 1) (S := S) (G := fun n u i => F_X2_howMany_4 B 14 n (nI u) (nI (i + 1)) S) (fun n u i hi' => by
    show F_X2_howMany_4 B 14 (n + 1) (nI u) (nI (i + 1)) S = F_X2_howMany_4 B 14 n (nI (u + if oK O (i + 1) = 0 then 0 else 1)) (nI (i + 1 + 1)) S
    obtain ⟨k1, -, -⟩ := kind_m1 (hi.2.1 (i + 1))
    rw [F_X2_howMany_4, if_neg (by rw [m_c60]; exact nI_nlt (by omega) (by omega)), m_gd (m_inb (by omega) (by omega)), m_lt, m_ix (by omega), show S.1 (14 + 1) (i + 1) = _ from h.1 (i + 1) (by omega) (by omega)]
    by_cases e : oK O (i + 1) = 0
    · rw [if_pos (k1.mpr e), if_pos e, F_X2_howMany_23, nI_1]; rfl
    · rw [if_neg (fun z => e (k1.mp z)), if_neg e, F_X2_howMany_23, nI_1, nI_1]) (fun n u => by
    show F_X2_howMany_4 B 14 (n + 1) (nI u) (nI (60 + 1)) S = _
    rw [F_X2_howMany_4, if_pos (by decide)]) 60 z_n 0 0 (by omega) (by unfold z_n; omega)
  have e1 := sn_sh (w := fun o => if oK O o = 0 then 0 else 1) (n := 60) (k := 0)
  rw [Nat.zero_add] at e1
  generalize s_n (fun o => if oK O o = 0 then 0 else 1) 60 1 = q at e1 ⊢
  rw [e1, Nat.zero_add, Nat.zero_add] at this
  exact this
theorem K_inUse (hB : B ≤ 96) (hT : k_T B 0 0 (S.1 61) T) (h1 : S.2.1 60 1 = nI B) : F_X6_inUse B S = some (.inl (some (nI (s_n (fun b => if tU T b = 0 then 0 else 1) B 0))), S) := by
  have := z_sum (N := B) (w := fun b => if tU T b = 0 then 0 else 1) (S := S) (G := fun n u i => F_X6_inUse_4 B n (nI u) (nI i) S) (fun n u i hi => by
    show F_X6_inUse_4 B (n + 1) (nI u) (nI i) S = F_X6_inUse_4 B n (nI (u + if tU T i = 0 then 0 else 1)) (nI (i + 1)) S
    have e0 : (0 : Int32) + nI i = nI i := by rw [m_c0, nI_add, Nat.zero_add]
    rw [F_X6_inUse_4, h1, if_neg (nI_ge hi (by omega)), e0, m_gd (m_inb (by omega) (by omega)), m_lt, m_ix (by omega), hT.1 i (by omega), nI_add, nI_1]
    by_cases e : tU T i = 0
    · rw [if_neg (fun z => z.2 e), if_pos e]
    · rw [if_pos ⟨hi, e⟩, if_neg e]) (fun n u => by
    show F_X6_inUse_4 B (n + 1) (nI u) (nI B) S = _
    rw [F_X6_inUse_4, h1, if_pos (nI_le (Nat.le_refl _) (by omega))]) B z_n 0 0 (by omega) (by unfold z_n; omega)
  rw [Nat.zero_add] at this
  exact this
theorem K_objects (hi : m_im B T O) (h : k_O B (S.1 61) T O) : F_X6_objects B S = some (.inl (some (nI (s_n (fun o => if oK O o = 0 then 0 else 1) 60 1))), S) := by
  have := z_sum (N := 60) (w := fun o => if oK O (o + 1) = 0 then 0 else 1) (S := S) (G := fun n u i => F_X6_objects_4 B n (nI u) (nI (i + 1)) S) (fun n u i hi' => by
    show F_X6_objects_4 B (n + 1) (nI u) (nI (i + 1)) S = F_X6_objects_4 B n (nI (u + if oK O (i + 1) = 0 then 0 else 1)) (nI (i + 1 + 1)) S
    obtain ⟨k1, -, -⟩ := k_01 (hi.2.1 (i + 1))
    have e96 : (96 : Int32) + nI (i + 1) = nI (96 + (i + 1)) := by rw [m_c96, nI_add]
    rw [F_X6_objects_4, if_neg (by rw [m_c61]; exact nI_ge (by omega) (by omega)), e96, m_gd (m_inb (by omega) (by omega)), m_lt, m_ix (by omega), h.1 (i + 1) (by omega) (by omega)]
    by_cases e : oK O (i + 1) = 0
    · rw [if_pos (k1.mpr e), if_pos e, F_X6_objects_28, nI_1, m_c0, nI_add]
    · rw [if_neg (fun z => e (k1.mp z)), if_neg e, F_X6_objects_28, nI_1, nI_1]) (fun n u => by
    show F_X6_objects_4 B (n + 1) (nI u) (nI (60 + 1)) S = _
    rw [F_X6_objects_4, if_pos (by decide)]) 60 z_n 0 0 (by omega) (by unfold z_n; omega)
  have e1 := sn_sh (w := fun o => if oK O o = 0 then 0 else 1) (n := 60) (k := 0)
  rw [Nat.zero_add] at e1
  generalize s_n (fun o => if oK O o = 0 then 0 else 1) 60 1 = q at e1 ⊢
  rw [e1, Nat.zero_add, Nat.zero_add] at this
  exact this
theorem K_usedAll_loop (hB : B ≤ 96) (h : m_ok B T) (hT : k_T B 0 0 (S.1 61) T) : ∀ (L pre : List Nat) (n u : Nat), tR T 0 = pre ++ L → L.length < n → F_X6_usedOfAll_4 B n (nI u) (nI pre.length) S = some (.inl (some (nI (u + (L.map (fun b => m_cost (tI T b))).sum))), S)
  | [], pre, n, u, hR, hn => by
    obtain ⟨n, rfl⟩ : ∃ j, n = j + 1 := ⟨n - 1, by omega⟩
    obtain ⟨r1, r2, r3⟩ := hT.2.2.2.2.2.1 0 (by omega)
    rw [List.append_nil] at hR
    have r1' : S.1 61 13068 = nI pre.length := by rw [← hR]; exact r1
    have hl : pre.length ≤ 96 := by rw [← hR]; exact r3
    rw [F_X6_usedOfAll_4, m_gd (by decide), m_lt, show z_ix (13068 : Int32) = 13068 from m_ix (i := 13068) (by omega), r1', if_pos (nI_le (Nat.le_refl _) (by omega))]; rfl
  | b :: L, pre, n, u, hR, hn => by
    obtain ⟨n, rfl⟩ : ∃ j, n = j + 1 := ⟨n - 1, by omega⟩
    rw [List.length_cons] at hn
    have hbm : b ∈ tR T 0 := by rw [hR]; simp
    obtain ⟨b1, b2, b3, b4, b5⟩ := ok_row h b hbm
    obtain ⟨r1, r2, r3⟩ := hT.2.2.2.2.2.1 0 (by omega)
    have hbi : (tR T 0)[pre.length]? = some b := by rw [hR]; simp
    have hil : pre.length < (tR T 0).length := (List.getElem?_eq_some_iff.mp hbi).1
    have eb : S.1 61 (12300 + pre.length) = nI b := by
      have := r2 pre.length (nI b) (by rw [List.getElem?_map, hbi]; rfl)
      simpa using this
    have r1' : S.1 61 13068 = nI (tR T 0).length := r1
    have hU := KT_used (S := S) (f := S.1 61) hB hT b1 b2
    rw [z_ua_same] at hU
    have e1 : (12300 : Int32) + nI pre.length = nI (12300 + pre.length) := by rw [m_c12300, nI_add]
    have ih := K_usedAll_loop hB h hT L (pre ++ [b]) n (u + m_cost (tI T b)) (by rw [hR]; simp) (by omega)
    rw [List.length_append, List.length_singleton] at ih
    rw [F_X6_usedOfAll_4, m_gd (by decide), m_lt, show z_ix (13068 : Int32) = 13068 from m_ix (i := 13068) (by omega), r1', if_neg (nI_ge (by omega) (by omega)), e1, m_gd (m_inb (by omega) (by omega)), m_lt, m_ix (i := 12300 + pre.length) (by omega), eb, hU, m_bn, nI_add, nI_1, ih, List.map_cons, List.sum_cons, Nat.add_assoc]
theorem K_usedAll (hB : B ≤ 96) (h : m_ok B T) (hT : k_T B 0 0 (S.1 61) T) : F_X6_usedOfAll B S = some (.inl (some (nI ((tR T 0).map (fun b => m_cost (tI T b))).sum)), S) := by
  have hlen := sk_len h.1 (h := 0)
  have := K_usedAll_loop hB h hT (tR T 0) [] z_n 0 rfl (by unfold z_n; omega)
  rw [Nat.zero_add] at this
  exact this
theorem G_count_c {p : Int32} (h : CI B J S A) (hA : AI B J A) (hch : m_chd B A ch) : ∃ S1, F_X5_count B p S = some (r_o [E_U, E_A] (A_count B A ch p).1 (A_count B A ch p).2, S1) ∧ CI B J S1 A ∧ z_cf S S1 := by
  have hs := hA.2.1.1.1
  have hB := hA.1.2.1
  have hT := h.2.1.1
  unfold F_X5_count A_count
  rw [C_needPower h hA]
  by_cases e : A.2.2.1 = 0
  · rw [if_pos e, if_pos e, m_bv]
    by_cases e3 : 0 ≤ p ∧ p ≤ 9
    · rw [if_pos e3]
      have fin : ∀ v, v = d_c B A ch p → ∃ S1, some ((.inl (some v) : z_O), S) = some (r_o [E_U, E_A] 0 (d_c B A ch p), S1) ∧ CI B J S1 A ∧ z_cf S S1 := fun v hv => ⟨S, by rw [hv]; rfl, h, z_cf_rf⟩
      obtain rfl | rfl | rfl | rfl | rfl | rfl | rfl | rfl | rfl | rfl := i32_nine e3
      · rw [if_pos rfl, C_blocksInUse hB hT hs.2.2.2.2.2.2.2.2.2.2.2, m_bn]
        exact fin _ rfl
      · rw [if_neg (by decide), if_pos rfl, C_leaves hB hs hT, m_bn]
        exact fin _ rfl
      · have hr := sk_root hs
        have hrb := sk_rb hs
        obtain ⟨r1, r2, r3, r4⟩ := hs.2.2.2.1 _ _ hr.1
        have ur : tU A.1.1 (tX A.1.1) = 2 ∨ tU A.1.1 (tX A.1.1) = 3 := by rw [r4]; split <;> simp
        rw [if_neg (by decide), if_neg (by decide), if_pos rfl, hT.2.1, m_gd (m_inb hrb (by omega)), m_lt, m_ix (by omega), show S.1 4 (tX A.1.1) = nI (tH A.1.1 (tX A.1.1)) from (hT.2.2.2.2.2 _ hrb ur).1, nI_1]
        exact fin _ rfl
      · rw [if_neg (by decide), if_neg (by decide), if_neg (by decide), if_pos rfl, C_howMany hA.2.1.2 h.2.1.2, m_bn]
        exact fin _ rfl
      · rw [if_neg (by decide), if_neg (by decide), if_neg (by decide), if_neg (by decide), if_pos rfl, C_items hB hs hT, m_bn]
        exact fin _ rfl
      · rw [if_neg (by decide), if_neg (by decide), if_neg (by decide), if_neg (by decide), if_neg (by decide), if_pos rfl, C_usedOfAll hB hs hT, m_bn]
        exact fin _ rfl
      · obtain ⟨g, g1, g2⟩ := C_markChanged h hA hch
        rw [if_neg (by decide), if_neg (by decide), if_neg (by decide), if_neg (by decide), if_neg (by decide), if_neg (by decide), if_pos rfl, g2, m_bn]
        exact ⟨_, rfl, CI_58 h, z_cf_ua (by decide)⟩
      · rw [if_neg (by decide), if_neg (by decide), if_neg (by decide), if_neg (by decide), if_neg (by decide), if_neg (by decide), if_neg (by decide), if_pos rfl, h.2.2.2.2.2.2.1]
        exact fin _ rfl
      · rw [if_neg (by decide), if_neg (by decide), if_neg (by decide), if_neg (by decide), if_neg (by decide), if_neg (by decide), if_neg (by decide), if_neg (by decide), if_pos rfl, h.2.2.2.2.2.1]
        exact fin _ rfl
      · rw [if_neg (by decide), if_neg (by decide), if_neg (by decide), if_neg (by decide), if_neg (by decide), if_neg (by decide), if_neg (by decide), if_neg (by decide), if_neg (by decide), if_pos rfl, h.2.2.2.2.2.2.2.1]
        exact fin _ rfl
    · have nk : ∀ v : Int32, (0 ≤ v ∧ v ≤ 9) → p ≠ v := fun v hv z => e3 (by rw [z]; exact hv)
      rw [if_neg e3, if_neg (nk 0 (by decide)), if_neg (nk 1 (by decide)), if_neg (nk 2 (by decide)), if_neg (nk 3 (by decide)), if_neg (nk 4 (by decide)), if_neg (nk 5 (by decide)), if_neg (nk 6 (by decide)), if_neg (nk 7 (by decide)), if_neg (nk 8 (by decide)), if_neg (nk 9 (by decide))]
      exact ⟨S, rfl, h, z_cf_rf⟩
  · rw [if_neg e, if_neg e, m_bvx]
    exact ⟨S, rfl, h, z_cf_rf⟩
theorem G_count_k {p : Int32} (h : KI B J S A) (hA : AI B J A) (hch : m_chd B A ch) : ∃ v S2, F_X6_count B p S = some (.inl (some v), S2) ∧ KI B J S2 A ∧ z_kf S S2 ∧ S2.2.1 60 0 = nI (A_count B A ch p).1 ∧ ((A_count B A ch p).1 = 0 → v = (A_count B A ch p).2) := by
  have hB := hA.1.2.1
  have bad : ∀ (v1 c : Int32) (n : Nat) (w : Int32), c = nI n → n ≠ 0 → n < 5 → ∃ v S2, F_X6_count_27 B v1 c S = some (.inl (some v), S2) ∧ KI B J S2 A ∧ z_kf S S2 ∧ S2.2.1 60 0 = nI n ∧ (n = 0 → v = w) := fun v1 c n w hc hn hn5 => by
    have hc0 : ¬ c ≤ 0 := by rw [hc, m_c0]; exact nI_ge (by omega) (by omega)
    rw [F_X6_count_27, m_lt, z_thr, if_neg hc0]
    exact ⟨_, _, rfl, KI_thr h, z_kf_ui (by decide), by rw [z_thr, hc], fun z => absurd z hn⟩
  have h0 := KI_thr (v := 0) h
  unfold F_X6_count A_count
  rw [h.2.2.2.1]
  by_cases e : A.2.2.1 = 0
  · rw [if_pos e, if_pos e, K_isIn, m_bn]
    by_cases e3 : 0 ≤ p ∧ p ≤ 9
    · rw [if_pos e3, if_pos e3, if_neg (show ¬ (1 : Int32) = 0 by decide), F_X6_count_27, m_lt, z_thr, if_pos (by decide)]
      have fin : ∀ v, v = d_c B A ch p → ∃ v' S2, some ((.inl (some v) : z_O), z_ui S 60 0 0) = some (.inl (some v'), S2) ∧ KI B J S2 A ∧ z_kf S S2 ∧ S2.2.1 60 0 = nI 0 ∧ (0 = 0 → v' = d_c B A ch p) := fun v hv => ⟨v, _, rfl, h0, z_kf_ui (by decide), z_thr, fun _ => hv⟩
      obtain rfl | rfl | rfl | rfl | rfl | rfl | rfl | rfl | rfl | rfl := i32_nine e3
      · rw [if_pos rfl, K_inUse hB h0.2.1.1 h0.1.1, m_bn]
        exact fin _ rfl
      · rw [if_neg (by decide), if_pos rfl, m_gd (by decide), m_lt, show z_ix (13068 : Int32) = 13068 from m_ix (i := 13068) (by omega), show (z_ui S 60 0 0).1 61 13068 = nI (tR A.1.1 0).length from (h.2.1.1.2.2.2.2.2.1 0 (by omega)).1]
        exact fin _ rfl
      · rw [if_neg (by decide), if_neg (by decide), if_pos rfl, m_gd (by decide), m_lt, show z_ix (13077 : Int32) = 13077 from m_ix (i := 13077) (by omega), show (z_ui S 60 0 0).1 61 13077 = nI (tH A.1.1 (tX A.1.1) + 1) from h.2.1.1.2.2.2.2.2.2.2]
        exact fin _ rfl
      · rw [if_neg (by decide), if_neg (by decide), if_neg (by decide), if_pos rfl, K_objects hA.2.1.2 h0.2.1.2, m_bn]
        exact fin _ rfl
      · rw [if_neg (by decide), if_neg (by decide), if_neg (by decide), if_neg (by decide), if_pos rfl, K_items hB hA.2.1.1 h0.2.1.1, m_bn]
        exact fin _ rfl
      · rw [if_neg (by decide), if_neg (by decide), if_neg (by decide), if_neg (by decide), if_neg (by decide), if_pos rfl, K_usedAll hB hA.2.1.1 h0.2.1.1, m_bn]
        exact fin _ rfl
      · rw [if_neg (by decide), if_neg (by decide), if_neg (by decide), if_neg (by decide), if_neg (by decide), if_neg (by decide), if_pos rfl, K_changed h0 hA hch, m_bn]
        exact fin _ rfl
      · rw [if_neg (by decide), if_neg (by decide), if_neg (by decide), if_neg (by decide), if_neg (by decide), if_neg (by decide), if_neg (by decide), if_pos rfl, h0.2.2.2.2.2.2.1]
        exact fin _ rfl
      · rw [if_neg (by decide), if_neg (by decide), if_neg (by decide), if_neg (by decide), if_neg (by decide), if_neg (by decide), if_neg (by decide), if_neg (by decide), if_pos rfl, h0.2.2.2.2.2.1]
        exact fin _ rfl
      · rw [if_neg (by decide), if_neg (by decide), if_neg (by decide), if_neg (by decide), if_neg (by decide), if_neg (by decide), if_neg (by decide), if_neg (by decide), if_neg (by decide), h0.2.2.2.2.2.2.2.1]
        exact fin _ rfl
    · rw [if_neg e3, if_neg e3, if_pos rfl]
      exact bad _ 2 2 _ rfl (by omega) (by omega)
  · rw [if_neg e, if_neg e]
    exact bad _ 1 1 _ rfl (by omega) (by omega)
end CT
