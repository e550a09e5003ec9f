/-! PURE: through; towns seen and wanted -/
section THR5
theorem bvmask (U W : BitVec 32) : (U &&& W = W) ↔ (W &&& (U ^^^ BitVec.allOnes 32)) = 0#32 := by
  constructor
  · intro h
    apply BitVec.eq_of_getLsbD_eq
    intro k hk
    have := congrArg (fun z : BitVec 32 => z.getLsbD k) h
    simp only [BitVec.getLsbD_and, BitVec.getLsbD_xor, BitVec.getLsbD_allOnes, BitVec.getLsbD_zero, hk, decide_true] at this ⊢
    revert this
    cases U.getLsbD k <;> cases W.getLsbD k <;> simp
  · intro h
    apply BitVec.eq_of_getLsbD_eq
    intro k hk
    have := congrArg (fun z : BitVec 32 => z.getLsbD k) h
    simp only [BitVec.getLsbD_and, BitVec.getLsbD_xor, BitVec.getLsbD_allOnes, BitVec.getLsbD_zero, hk, decide_true] at this ⊢
    revert this
    cases U.getLsbD k <;> cases W.getLsbD k <;> simp
theorem i32_bv (x : Int) : (Int32.ofInt x).toBitVec = BitVec.ofInt 32 x := Int32.toBitVec_ofInt x
theorem ofInt_bmod (B : BitVec 32) : BitVec.ofInt 32 B.toInt = B := BitVec.ofInt_toInt
/-- all wanted towns are seen -/
theorem mask_eq {u w : Int} (h0 : 0 ≤ w) (h1 : w < 2147483648) : (and32 u w = w) ↔ and32 w (xor32 u (-1)) = 0 := by
  have e1 : and32 u w = (BitVec.ofInt 32 u &&& BitVec.ofInt 32 w).toInt := by
    unfold and32
    show (Int32.ofInt u &&& Int32.ofInt w).toBitVec.toInt = _
    rw [Int32.toBitVec_and, i32_bv, i32_bv]
  have e2 : xor32 u (-1) = (BitVec.ofInt 32 u ^^^ BitVec.allOnes 32).toInt := by
    unfold xor32
    show (Int32.ofInt u ^^^ Int32.ofInt (-1)).toBitVec.toInt = _
    rw [Int32.toBitVec_xor, i32_bv, i32_bv]; rfl
  have e3 : and32 w (xor32 u (-1)) = (BitVec.ofInt 32 w &&& (BitVec.ofInt 32 u ^^^ BitVec.allOnes 32)).toInt := by
    unfold and32
    show (Int32.ofInt w &&& Int32.ofInt (xor32 u (-1))).toBitVec.toInt = _
    rw [Int32.toBitVec_and, i32_bv, i32_bv, e2, ofInt_bmod]
  have ew : (BitVec.ofInt 32 w).toInt = w := by
    obtain ⟨n, rfl⟩ := Int.eq_ofNat_of_zero_le h0
    rw [BitVec.ofInt_natCast]; exact bv_toInt (by omega)
  rw [e1, e3]
  constructor
  · intro h
    have h' : BitVec.ofInt 32 u &&& BitVec.ofInt 32 w = BitVec.ofInt 32 w := BitVec.eq_of_toInt_eq (by rw [h, ew])
    rw [(bvmask _ _).mp h']; rfl
  · intro h
    have h' : BitVec.ofInt 32 w &&& (BitVec.ofInt 32 u ^^^ BitVec.allOnes 32) = 0#32 := BitVec.eq_of_toInt_eq (by rw [h]; rfl)
    rw [(bvmask _ _).mpr h', ew]
end THR5
