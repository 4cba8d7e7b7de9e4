/-! The reference's items: five arrays of one shape, 4620 + 1536 * a on; a copy, a drop. -/
/-- every one of the five arrays goes through G, nothing else changes -/
def k_op (f f' : Nat → Int32) (G : (Nat → Int32) → Nat → Int32) : Prop := (∀ a r, a < 5 → r < 1536 → f' (4620 + 1536 * a + r) = G (fun r => f (4620 + 1536 * a + r)) r) ∧ ∀ j, (j < 4620 ∨ 12300 ≤ j) → f' j = f j
theorem k_op_rf {f : Nat → Int32} : k_op f f (fun g => g) := ⟨fun _ _ _ _ => rfl, fun _ _ => rfl⟩
theorem k_op_eq {f f' : Nat → Int32} {G H : (Nat → Int32) → Nat → Int32} (h : k_op f f' G) (e : ∀ g r, r < 1536 → G g r = H g r) : k_op f f' H := ⟨fun a r ha hr => (h.1 a r ha hr).trans (e _ r hr), h.2⟩
/-- one copy behind another change -/
theorem k_op_cp {f f1 f2 : Nat → Int32} {G : (Nat → Int32) → Nat → Int32} {p q : Nat} (hp : p < 1536) (h1 : k_op f f1 G) (h2 : k_op f1 f2 (fun g => upd g q (g p))) : k_op f f2 (fun g => upd (G g) q (G g p)) := by
  refine ⟨fun a r ha hr => ?_, fun j hj => (h2.2 j hj).trans (h1.2 j hj)⟩
  rw [h2.1 a r ha hr]
  show upd (fun r => f1 (4620 + 1536 * a + r)) q (f1 (4620 + 1536 * a + p)) r = upd (G fun r => f (4620 + 1536 * a + r)) q (G (fun r => f (4620 + 1536 * a + r)) p) r
  by_cases e : r = q
  · subst e
    rw [pk_us, pk_us]
    exact h1.1 a p ha hp
  · rw [pk_un e, pk_un e]
    exact h1.1 a r ha hr
section KM4
variable {B : Nat} {S : z_S}
theorem K_copy {p q : Nat} (hp : p < 1536) (hq : q < 1536) : ∃ f', F_X6_copy B (nI p) (nI q) S = some (.inl none, z_ua S 61 f') ∧ k_op (S.1 61) f' (fun g => upd g q (g p)) := by
  have a1 : (4620 : Int32) + nI p = nI (4620 + p) := by rw [m_c4620, nI_add]
  have a2 : (6156 : Int32) + nI p = nI (6156 + p) := by rw [m_c6156, nI_add]
  have a3 : (7692 : Int32) + nI p = nI (7692 + p) := by rw [m_c7692, nI_add]
  have a4 : (9228 : Int32) + nI p = nI (9228 + p) := by rw [m_c9228, nI_add]
  have a5 : (10764 : Int32) + nI p = nI (10764 + p) := by rw [m_c10764, nI_add]
  have b1 : (4620 : Int32) + nI q = nI (4620 + q) := by rw [m_c4620, nI_add]
  have b2 : (6156 : Int32) + nI q = nI (6156 + q) := by rw [m_c6156, nI_add]
  have b3 : (7692 : Int32) + nI q = nI (7692 + q) := by rw [m_c7692, nI_add]
  have b4 : (9228 : Int32) + nI q = nI (9228 + q) := by rw [m_c9228, nI_add]
  have b5 : (10764 : Int32) + nI q = nI (10764 + q) := by rw [m_c10764, nI_add]
  have ib : ∀ x, x < 25366 → z_inb (nI x) 25366 = true := fun x hx => m_inb hx (by omega)
  have xb : ∀ x, x < 25366 → (nI x).toNatClampNeg = x := fun x hx => nI_clamp (by omega)
  refine ⟨upd (upd (upd (upd (upd (S.1 61) (4620 + q) (S.1 61 (4620 + p))) (6156 + q) (S.1 61 (6156 + p))) (7692 + q) (S.1 61 (7692 + p))) (9228 + q) (S.1 61 (9228 + p))) (10764 + q) (S.1 61 (10764 + p)), ?_, fun a r ha hr => ?_, fun j hj => ?_⟩
  · have r2 : upd (S.1 61) (4620 + q) (S.1 61 (4620 + p)) (6156 + p) = S.1 61 (6156 + p) := pk_un (by omega)
    have r3 : upd (upd (S.1 61) (4620 + q) (S.1 61 (4620 + p))) (6156 + q) (S.1 61 (6156 + p)) (7692 + p) = S.1 61 (7692 + p) := by rw [pk_un (by omega), pk_un (by omega)]
    have r4 : upd (upd (upd (S.1 61) (4620 + q) (S.1 61 (4620 + p))) (6156 + q) (S.1 61 (6156 + p))) (7692 + q) (S.1 61 (7692 + p)) (9228 + p) = S.1 61 (9228 + p) := by rw [pk_un (by omega), pk_un (by omega), pk_un (by omega)]
    have r5 : upd (upd (upd (upd (S.1 61) (4620 + q) (S.1 61 (4620 + p))) (6156 + q) (S.1 61 (6156 + p))) (7692 + q) (S.1 61 (7692 + p))) (9228 + q) (S.1 61 (9228 + p)) (10764 + p) = S.1 61 (10764 + p) := by rw [pk_un (by omega), pk_un (by omega), pk_un (by omega), pk_un (by omega)]
    simp only [F_X6_copy, z_lt, z_gd, a1, a2, a3, a4, a5, b1, b2, b3, b4, b5, ib (4620 + p) (by omega), ib (6156 + p) (by omega), ib (7692 + p) (by omega), ib (9228 + p) (by omega), ib (10764 + p) (by omega), ib (4620 + q) (by omega), ib (6156 + q) (by omega), ib (7692 + q) (by omega), ib (9228 + q) (by omega), ib (10764 + q) (by omega), xb (4620 + p) (by omega), xb (6156 + p) (by omega), xb (7692 + p) (by omega), xb (9228 + p) (by omega), xb (10764 + p) (by omega), xb (4620 + q) (by omega), xb (6156 + q) (by omega), xb (7692 + q) (by omega), xb (9228 + q) (by omega), xb (10764 + q) (by omega), if_true, z_ua_at, z_ua_ua, r2, r3, r4, r5]
  · show _ = upd (fun r => S.1 61 (4620 + 1536 * a + r)) q (S.1 61 (4620 + 1536 * a + p)) r
    rcases (show a = 0 ∨ a = 1 ∨ a = 2 ∨ a = 3 ∨ a = 4 by omega) with rfl | rfl | rfl | rfl | rfl
    · by_cases e : r = q
      · subst e
        rw [pk_us]
        rw [pk_un (by omega), pk_un (by omega), pk_un (by omega), pk_un (by omega), show 4620 + 1536 * 0 + r = 4620 + r by omega, show 4620 + 1536 * 0 + p = 4620 + p by omega, pk_us]
      · rw [pk_un e (f := fun r => S.1 61 (4620 + 1536 * 0 + r))]
        rw [pk_un (by omega), pk_un (by omega), pk_un (by omega), pk_un (by omega), pk_un (by omega)]
    · by_cases e : r = q
      · subst e
        rw [pk_us]
        rw [pk_un (by omega), pk_un (by omega), pk_un (by omega), show 4620 + 1536 * 1 + r = 6156 + r by omega, show 4620 + 1536 * 1 + p = 6156 + p by omega, pk_us]
      · rw [pk_un e (f := fun r => S.1 61 (4620 + 1536 * 1 + r))]
        rw [pk_un (by omega), pk_un (by omega), pk_un (by omega), pk_un (by omega), pk_un (by omega)]
    · by_cases e : r = q
      · subst e
        rw [pk_us]
        rw [pk_un (by omega), pk_un (by omega), show 4620 + 1536 * 2 + r = 7692 + r by omega, show 4620 + 1536 * 2 + p = 7692 + p by omega, pk_us]
      · rw [pk_un e (f := fun r => S.1 61 (4620 + 1536 * 2 + r))]
        rw [pk_un (by omega), pk_un (by omega), pk_un (by omega), pk_un (by omega), pk_un (by omega)]
    · by_cases e : r = q
      · subst e
        rw [pk_us]
        rw [pk_un (by omega), show 4620 + 1536 * 3 + r = 9228 + r by omega, show 4620 + 1536 * 3 + p = 9228 + p by omega, pk_us]
      · rw [pk_un e (f := fun r => S.1 61 (4620 + 1536 * 3 + r))]
        rw [pk_un (by omega), pk_un (by omega), pk_un (by omega), pk_un (by omega), pk_un (by omega)]
    · by_cases e : r = q
      · subst e
        rw [pk_us, pk_us]
      · rw [pk_un e (f := fun r => S.1 61 (4620 + 1536 * 4 + r))]
        rw [pk_un (by omega), pk_un (by omega), pk_un (by omega), pk_un (by omega), pk_un (by omega)]
  · simp only [upd]
    rw [if_neg (by omega), if_neg (by omega), if_neg (by omega), if_neg (by omega), if_neg (by omega)]
theorem K_drop_loop {b i n : Nat} (hb : b < 96) (hn : n ≤ 16) (hi : i < n) (f : Nat → Int32) (hf3 : f (3852 + b) = nI n) : ∀ (m k j : Nat) (S : z_S) (g : Nat → Int32), m < k → j + m + 1 = n → i ≤ j → k_op f g (fun h => va_cpy h h (16 * b + i + 1) (16 * b + i) (j - i)) →
    ∃ f', F_X6_drop_2 B k (nI b) (nI j) (z_ua S 61 g) = some (.inl none, z_ua S 61 (upd f' (3852 + b) (nI (n - 1)))) ∧ k_op f f' (fun h => va_cpy h h (16 * b + i + 1) (16 * b + i) (n - 1 - i))
  | 0, k, j, S, g, hk, hm, hij, hop => by
    obtain ⟨k, rfl⟩ : ∃ j, k = j + 1 := ⟨k - 1, by omega⟩
    have e2 : (3852 : Int32) + nI b = nI (3852 + b) := by rw [m_c3852, nI_add]
    have i2 : z_inb (nI (3852 + b)) 25366 = true := m_inb (by omega) (by omega)
    have x2 : (nI (3852 + b)).toNatClampNeg = 3852 + b := nI_clamp (by omega)
    have r : g (3852 + b) = nI n := by rw [hop.2 _ (by omega)]; exact hf3
    have y : nI j + 1 = nI (j + 1) := nI_1 j
    have g1 : nI n ≤ nI (j + 1) := nI_le (by omega) (by omega)
    have y2 : nI n - 1 = nI (n - 1) := by rw [m_c1]; exact pk_sub (by omega)
    have ej : j - i = n - 1 - i := by omega
    rw [ej] at hop
    refine ⟨g, ?_, hop⟩
    simp only [F_X6_drop_2, z_lt, z_gd, e2, i2, x2, if_true, z_ua_at, z_ua_ua, r, y, g1, y2]
  | m + 1, k, j, S, g, hk, hm, hij, hop => by
    obtain ⟨k, rfl⟩ : ∃ j, k = j + 1 := ⟨k - 1, by omega⟩
    have e2 : (3852 : Int32) + nI b = nI (3852 + b) := by rw [m_c3852, nI_add]
    have i2 : z_inb (nI (3852 + b)) 25366 = true := m_inb (by omega) (by omega)
    have x2 : (nI (3852 + b)).toNatClampNeg = 3852 + b := nI_clamp (by omega)
    have r : g (3852 + b) = nI n := by rw [hop.2 _ (by omega)]; exact hf3
    have y : nI j + 1 = nI (j + 1) := nI_1 j
    have g1 : ¬ nI n ≤ nI (j + 1) := nI_ge (by omega) (by omega)
    have e : (16 : Int32) * nI b + nI j = nI (16 * b + j) := by rw [m_c16, pk_mul, nI_add]
    have e1 : nI (16 * b + j) + 1 = nI (16 * b + j + 1) := nI_1 _
    obtain ⟨g2, hF2, hop2⟩ := K_copy (B := B) (S := z_ua S 61 g) (p := 16 * b + j + 1) (q := 16 * b + j) (by omega) (by omega)
    rw [z_ua_at] at hop2
    rw [z_ua_ua] at hF2
    have hop3 := k_op_eq (k_op_cp (by omega) hop hop2) (H := fun h => va_cpy h h (16 * b + i + 1) (16 * b + i) (j + 1 - i)) (fun h r hr => by
      have := m_shdn (f := h) (o := 16 * b) (i := i) (j := j) hij
      rw [← this, pk_cpy_out (by omega)])
    obtain ⟨f', hF', hop'⟩ := K_drop_loop hb hn hi f hf3 m k (j + 1) S g2 (by omega) (by omega) (by omega) hop3
    refine ⟨f', ?_, hop'⟩
    rw [F_X6_drop_2]
    simp only [z_lt, z_gd, e2, i2, x2, if_true, if_false, z_ua_at, r, y, g1, e, e1, hF2, z_bo]
    exact hF'
theorem K_drop {b i n : Nat} (hb : b < 96) (hn : n ≤ 16) (hi : i < n) (h3 : S.1 61 (3852 + b) = nI n) : ∃ f', F_X6_drop B (nI b) (nI i) S = some (.inl none, z_ua S 61 (upd f' (3852 + b) (nI (n - 1)))) ∧ k_op (S.1 61) f' (fun h => va_cpy h h (16 * b + i + 1) (16 * b + i) (n - 1 - i)) := by
  have key := K_drop_loop (B := B) hb hn hi (S.1 61) h3 (n - 1 - i) z_n i S (S.1 61) (by unfold z_n; omega) (by omega) (Nat.le_refl _) (k_op_eq k_op_rf (fun h r hr => by rw [Nat.sub_self, m_cpy0]))
  rw [z_ua_same] at key
  exact key
end KM4
