/-! The start: the reference's array, as its constructor stores it. -/
def f_0 : Nat → Int32 := upd (upd (upd (upd (upd (upd (upd (upd (upd (upd (upd (upd (upd (fun _ => 0) 0 1) 1 1) 97 1) 158 1) 3757 1) 3949 (-1)) 3853 1) 4636 1) 9244 6) 12300 1) 13068 1) 13076 1) 13077 1
theorem k_start {B : Nat} {f : Nat → Int32} (h1 : 16 ≤ B) (h2 : B ≤ 96) (hf : ∀ j, j < 25366 → f j = f_0 j) : k_T B 0 0 f T_0 ∧ k_O B f T_0 O_0 := by
  have g0 : ∀ b, b < 96 → f_0 b = if b ≤ 1 then 1 else 0 := by decide
  have g1 : ∀ b, b < 96 → f_0 (3756 + b) = if b = 1 then 1 else 0 := by decide
  have g2 : ∀ h, h < 8 → f_0 (13068 + h) = if h = 0 then 1 else 0 := by decide
  have g3 : ∀ o, o < 61 → f_0 (96 + o) = if o = 1 then 1 else 0 := by decide
  constructor
  · refine k_T_0 h1 (fun b hb => by rw [hf _ (by omega)]; exact g0 b hb) (fun b hb => by rw [hf _ (by omega)]; exact g1 b hb) ?_ ?_ ?_ ?_ ?_ ?_ ?_ (fun h hh => by rw [hf _ (by omega)]; exact g2 h hh) ?_ ?_ ?_ h2
    all_goals rw [hf _ (by omega)]
    all_goals rfl
  · refine k_O_0 (fun o o1 o2 => by rw [hf _ (by omega)]; exact g3 o (by omega)) ?_ ?_ ?_
    all_goals rw [hf _ (by omega)]
    all_goals rfl
