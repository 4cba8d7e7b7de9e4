/-! A byte stored: the class's and the reference's. -/
theorem b_255 : ∀ i, i < 32 → (255#32).getLsbD i = decide (i < 8) := by decide
theorem b_and {X : BitVec 32} : (X.signExtend 8).signExtend 32 &&& 255#32 = X &&& 255#32 := by
  apply BitVec.eq_of_getLsbD_eq
  intro i hi
  rw [BitVec.getLsbD_and, BitVec.getLsbD_and, b_255 i hi]
  by_cases e : i < 8
  · rw [BitVec.getLsbD_signExtend, BitVec.getLsbD_signExtend]
    simp [e, hi]
  · simp [e]
theorem b_ext {X : BitVec 32} : ((X &&& 255#32).signExtend 8).signExtend 32 = (X.signExtend 8).signExtend 32 := by
  have h : (X &&& 255#32).signExtend 8 = X.signExtend 8 := by
    apply BitVec.eq_of_getLsbD_eq
    intro i hi
    rw [BitVec.getLsbD_signExtend, BitVec.getLsbD_signExtend, if_pos (by omega), if_pos (by omega), BitVec.getLsbD_and, b_255 i (by omega)]
    simp [hi]
  rw [h]
theorem rB_i {x : Int32} : rB x.toInt8.toInt32 (x &&& 255) := by
  constructor
  · apply Int32.toBitVec_inj.mp
    rw [Int32.toBitVec_and, Int32.toBitVec_and, Int8.toBitVec_toInt32, Int32.toBitVec_toInt8]
    exact b_and.symm
  · apply Int32.toBitVec_inj.mp
    rw [Int8.toBitVec_toInt32, Int32.toBitVec_toInt8, Int8.toBitVec_toInt32, Int32.toBitVec_toInt8, Int32.toBitVec_and]
    exact b_ext.symm
theorem i8_i8 {x : Int32} : x.toInt8.toInt32.toInt8.toInt32 = x.toInt8.toInt32 := by
  have h := (rB_i (x := x)).2
  have h1 := (rB_i (x := x)).1
  have h2 := (rB_i (x := x.toInt8.toInt32)).2
  rw [← h1, ← h] at h2
  exact h2
theorem nar_b {x : Int32} : vp_nar .byte x = x.toInt8.toInt32 := rfl
theorem rB_n {x : Int32} : rB (vp_nar .byte x.toInt8.toInt32) (x &&& 255) := by
  rw [nar_b, i8_i8]; exact rB_i
theorem l_255 {y : Int64} : (y &&& 255).toInt32 = y.toInt32 &&& 255 := by
  apply Int32.toBitVec_inj.mp
  rw [Int32.toBitVec_and, Int64.toBitVec_toInt32, Int64.toBitVec_toInt32, Int64.toBitVec_and]
  apply BitVec.eq_of_getLsbD_eq
  intro i hi
  have h64 : ∀ i, i < 32 → (255#64).getLsbD i = (255#32).getLsbD i := by decide
  rw [BitVec.getLsbD_and, BitVec.getLsbD_signExtend, BitVec.getLsbD_signExtend, if_pos (by omega), if_pos (by omega), BitVec.getLsbD_and]
  rw [show (255 : Int64).toBitVec = 255#64 from rfl, show (255 : Int32).toBitVec = 255#32 from rfl, h64 i hi]
  simp [hi]
theorem rB_l {y : Int64} : rB (vp_nar .byte y.toInt32.toInt8.toInt32) ((y &&& 255).toInt32) := by
  rw [l_255]; exact rB_n
