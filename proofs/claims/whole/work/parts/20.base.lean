/-! PURE: memory accesses as equations -/
def kS (sh : List (Nat × Nat)) (a : Int) : Nat × Nat := if a < 0 then (99, 0) else (sh[a.toNat]?).getD (99, 0)
theorem bd_mk {α β : Type} (x : α) (f : α → Option β) : bd (some x) f = f x := rfl
theorem bd2_mk {α β γ : Type} (x : α) (y : β) (f : α → β → Option γ) : bd2 (some (x, y)) f = f x y := rfl
theorem bd3_mk {α β γ δ : Type} (x : α) (y : β) (z : γ) (f : α → β → γ → Option δ) : bd3 (some (x, y, z)) f = f x y z := rfl
theorem bd4_mk {α β γ δ ε : Type} (x : α) (y : β) (z : γ) (u : δ) (f : α → β → γ → δ → Option ε) : bd4 (some (x, y, z, u)) f = f x y z u := rfl
section ACC
variable {c : Nat} {k a i x : Int} {sh : List (Nat × Nat)} {V : Int → Int → Int}
theorem getf_ok (h : (kS sh a).1 = c) : getf c k (sh, V) a = some (V a k) := if_pos h
theorem putf_ok (h : (kS sh a).1 = c) : putf c k (sh, V) a x = some (sh, upV V a k x) := if_pos h
theorem isk_ok (h : (kS sh a).1 = c) : isk c (sh, V) a = some () := if_pos h
theorem lda_ok (h : (kS sh a).1 = c) (h0 : 0 ≤ i) (h1 : i < ((kS sh a).2 : Int)) : lda c (sh, V) a i = some (V a i) := if_pos ⟨h, h0, h1⟩
theorem sta_ok (h : (kS sh a).1 = c) (h0 : 0 ≤ i) (h1 : i < ((kS sh a).2 : Int)) : sta c (sh, V) a i x = some (sh, upV V a i x) := if_pos ⟨h, h0, h1⟩
theorem alen_ok (h : (kS sh a).1 = c) (h1 : (kS sh a).2 < 2147483648) : alen c (sh, V) a = some (((kS sh a).2 : Nat) : Int) := if_pos ⟨h, h1⟩
theorem acopy_ok {a0 sp dp n : Int} (h : (kS sh a0).1 = c) (h2 : (kS sh a).1 = c) (h3 : 0 ≤ sp) (h4 : 0 ≤ n) (h5 : 0 ≤ dp) (h6 : sp + n ≤ ((kS sh a0).2 : Int)) (h7 : dp + n ≤ ((kS sh a).2 : Int)) : acopy c (sh, V) a0 sp a dp n = some (sh, cpV V a0 sp a dp n) := if_pos ⟨h, h2, h3, h4, h5, h6, h7⟩
theorem up_eq : upV V a i x a i = x := if_pos ⟨rfl, rfl⟩
theorem up_row {b j : Int} (h : b ≠ a) : upV V a i x b j = V b j := if_neg (fun q => h q.1)
theorem up_col {b j : Int} (h : j ≠ i) : upV V a i x b j = V b j := if_neg (fun q => h q.2)
theorem up_if {b j : Int} : upV V a i x b j = if b = a ∧ j = i then x else V b j := rfl
end ACC
/-! bits -/
theorem bv_nat {n : Nat} (h : n < 2147483648) : (Int32.ofInt (n : Int)).toBitVec = BitVec.ofNat 32 n := by
  rw [Int32.toBitVec_ofInt, BitVec.ofInt_natCast]
theorem bv_toInt {n : Nat} (h : n < 2147483648) : (BitVec.ofNat 32 n).toInt = (n : Int) := by
  rw [BitVec.toInt_eq_toNat_of_lt (by rw [BitVec.toNat_ofNat]; omega), BitVec.toNat_ofNat]; omega
theorem and_nat {a b : Nat} (ha : a < 2147483648) (hb : b < 2147483648) : and32 (a : Int) (b : Int) = ((a &&& b : Nat) : Int) := by
  unfold and32
  show (Int32.ofInt a &&& Int32.ofInt b).toBitVec.toInt = _
  rw [Int32.toBitVec_and, bv_nat ha, bv_nat hb]
  have : BitVec.ofNat 32 a &&& BitVec.ofNat 32 b = BitVec.ofNat 32 (a &&& b) := by
    apply BitVec.eq_of_toNat_eq
    simp only [BitVec.toNat_and, BitVec.toNat_ofNat]
    rw [Nat.mod_eq_of_lt (by omega), Nat.mod_eq_of_lt (by omega), Nat.mod_eq_of_lt (by have := @Nat.and_le_left a b; omega)]
  rw [this, bv_toInt (by have := @Nat.and_le_left a b; omega)]
theorem or_nat {a b : Nat} (ha : a < 2147483648) (hb : b < 2147483648) : or32 (a : Int) (b : Int) = ((a ||| b : Nat) : Int) := by
  have hl : a ||| b < 2 ^ 31 := Nat.or_lt_two_pow (by omega) (by omega)
  unfold or32
  show (Int32.ofInt a ||| Int32.ofInt b).toBitVec.toInt = _
  rw [Int32.toBitVec_or, bv_nat ha, bv_nat hb]
  have : BitVec.ofNat 32 a ||| BitVec.ofNat 32 b = BitVec.ofNat 32 (a ||| b) := by
    apply BitVec.eq_of_toNat_eq
    simp only [BitVec.toNat_or, BitVec.toNat_ofNat]
    rw [Nat.mod_eq_of_lt (by omega), Nat.mod_eq_of_lt (by omega), Nat.mod_eq_of_lt (by omega)]
  rw [this, bv_toInt (by omega)]
theorem xor_nat {a b : Nat} (ha : a < 2147483648) (hb : b < 2147483648) : xor32 (a : Int) (b : Int) = ((a ^^^ b : Nat) : Int) := by
  have hl : a ^^^ b < 2 ^ 31 := Nat.xor_lt_two_pow (by omega) (by omega)
  unfold xor32
  show (Int32.ofInt a ^^^ Int32.ofInt b).toBitVec.toInt = _
  rw [Int32.toBitVec_xor, bv_nat ha, bv_nat hb]
  have : BitVec.ofNat 32 a ^^^ BitVec.ofNat 32 b = BitVec.ofNat 32 (a ^^^ b) := by
    apply BitVec.eq_of_toNat_eq
    simp only [BitVec.toNat_xor, BitVec.toNat_ofNat]
    rw [Nat.mod_eq_of_lt (by omega), Nat.mod_eq_of_lt (by omega), Nat.mod_eq_of_lt (by omega)]
  rw [this, bv_toInt (by omega)]
theorem cnt_nat : ∀ r : Nat, r < 32 → ((Int32.ofInt (r : Int) &&& 31).toBitVec.smod 32).toNat = r := by decide +kernel
theorem shr_nat {a r : Nat} (ha : a < 2147483648) (hr : r < 32) : shr32 (a : Int) (r : Int) = ((a / 2 ^ r : Nat) : Int) := by
  unfold shr32
  show (Int32.ofInt a >>> (Int32.ofInt r &&& 31)).toBitVec.toInt = _
  rw [Int32.toBitVec_shiftRight, bv_nat ha, show (BitVec.ofNat 32 a).sshiftRight' ((Int32.ofInt (r : Int) &&& 31).toBitVec.smod 32) = (BitVec.ofNat 32 a).sshiftRight ((Int32.ofInt (r : Int) &&& 31).toBitVec.smod 32).toNat from rfl, cnt_nat r hr, BitVec.sshiftRight_eq_of_msb_false (by rw [BitVec.msb_eq_decide, BitVec.toNat_ofNat]; simp; omega)]
  have hle : a / 2 ^ r ≤ a := Nat.div_le_self _ _
  rw [BitVec.toInt_eq_toNat_of_lt (by rw [BitVec.toNat_ushiftRight, BitVec.toNat_ofNat, Nat.mod_eq_of_lt (by omega), Nat.shiftRight_eq_div_pow]; omega), BitVec.toNat_ushiftRight, BitVec.toNat_ofNat, Nat.mod_eq_of_lt (by omega), Nat.shiftRight_eq_div_pow]
theorem shl_nat {a r : Nat} (hr : r < 32) (ha : a * 2 ^ r < 2147483648) : shl32 (a : Int) (r : Int) = ((a * 2 ^ r : Nat) : Int) := by
  have hle : a ≤ a * 2 ^ r := Nat.le_mul_of_pos_right _ (Nat.two_pow_pos r)
  unfold shl32
  show (Int32.ofInt a <<< (Int32.ofInt r &&& 31)).toBitVec.toInt = _
  rw [Int32.toBitVec_shiftLeft, bv_nat (by omega), BitVec.shiftLeft_eq', cnt_nat r hr]
  have : BitVec.ofNat 32 a <<< r = BitVec.ofNat 32 (a * 2 ^ r) := by
    apply BitVec.eq_of_toNat_eq
    simp only [BitVec.toNat_shiftLeft, BitVec.toNat_ofNat, Nat.shiftLeft_eq]
    rw [Nat.mod_eq_of_lt (a := a) (by omega)]
  rw [this, bv_toInt (by omega)]
theorem shr1 {a : Int} (h0 : 0 ≤ a) (h1 : a < 2147483648) : shr32 a 1 = a / 2 := by
  obtain ⟨n, rfl⟩ := Int.eq_ofNat_of_zero_le h0
  have := shr_nat (a := n) (r := 1) (by omega) (by omega)
  simpa using this
theorem and1 {a : Int} (h0 : 0 ≤ a) (h1 : a < 2147483648) : and32 a 1 = a % 2 := by
  obtain ⟨n, rfl⟩ := Int.eq_ofNat_of_zero_le h0
  have := and_nat (a := n) (b := 1) (by omega) (by omega)
  rw [show (1 : Nat) = 2 ^ 1 - 1 from rfl, Nat.and_two_pow_sub_one_eq_mod] at this
  simpa using this
theorem xor1 {a : Int} (h0 : 0 ≤ a) (h1 : a < 2147483647) : xor32 a 1 = if a % 2 = 0 then a + 1 else a - 1 := by
  obtain ⟨n, rfl⟩ := Int.eq_ofNat_of_zero_le h0
  have h := xor_nat (a := n) (b := 1) (by omega) (by omega)
  have h' : xor32 (n : Int) 1 = ((n ^^^ 1 : Nat) : Int) := h
  rw [h']
  have e : n ^^^ 1 = if n % 2 = 0 then n + 1 else n - 1 := by
    apply Nat.eq_of_testBit_eq
    intro i
    rcases i with _ | i
    · rw [Nat.testBit_xor]
      by_cases q : n % 2 = 0
      · rw [if_pos q]; simp only [Nat.testBit_zero]; have : (n + 1) % 2 = 1 := by omega
        simp [this, q]
      · rw [if_neg q]; simp only [Nat.testBit_zero]; have q1 : n % 2 = 1 := by omega
        have : (n - 1) % 2 = 0 := by omega
        simp [this, q1]
    · rw [Nat.testBit_xor, Nat.testBit_succ, Nat.testBit_succ, Nat.testBit_succ]
      have : (if n % 2 = 0 then n + 1 else n - 1) / 2 = n / 2 := by split <;> omega
      rw [this]; simp
  rw [e]; split <;> split <;> omega
theorem bit_at {m r : Nat} (hm : m < 2147483648) (hr : r < 31) : and32 (shr32 (m : Int) (r : Int)) 1 = ((m / 2 ^ r % 2 : Nat) : Int) := by
  rw [shr_nat hm (by omega)]
  have : m / 2 ^ r ≤ m := Nat.div_le_self _ _
  have := and_nat (a := m / 2 ^ r) (b := 1) (by omega) (by omega)
  rw [show (1 : Nat) = 2 ^ 1 - 1 from rfl, Nat.and_two_pow_sub_one_eq_mod] at this
  simpa using this
theorem div32_ok {a b : Int} (ha : 0 ≤ a) (ha' : a < 2147483648) (hb : 0 < b) (hb' : b < 2147483648) : div32 a b = some (a / b) := by
  unfold div32
  rw [if_neg (by omega)]
  rw [Int32.toInt_div, Int32.toInt_ofInt_of_le (by simpa using (by omega : -2147483648 ≤ a)) (by simpa using ha'), Int32.toInt_ofInt_of_le (by simpa using (by omega : -2147483648 ≤ b)) (by simpa using hb')]
  rw [Int.tdiv_eq_ediv_of_nonneg ha]
  have : a / b ≤ a := Int.ediv_le_self _ ha
  have : 0 ≤ a / b := Int.ediv_nonneg ha (by omega)
  rw [Int.bmod_eq_of_le (by omega) (by omega)]
theorem rem32_ok {a b : Int} (ha : 0 ≤ a) (ha' : a < 2147483648) (hb : 0 < b) (hb' : b < 2147483648) : rem32 a b = some (a % b) := by
  unfold rem32
  rw [if_neg (by omega)]
  have hd := div32_ok ha ha' hb hb'
  unfold div32 at hd
  rw [if_neg (by omega)] at hd
  have hd : (Int32.ofInt a / Int32.ofInt b).toInt = a / b := Option.some.inj hd
  rw [Int32.toInt_sub, Int32.toInt_mul, hd, Int32.toInt_ofInt_of_le (by simpa using (by omega : -2147483648 ≤ a)) (by simpa using ha'), Int32.toInt_ofInt_of_le (by simpa using (by omega : -2147483648 ≤ b)) (by simpa using hb')]
  have h1 : b * (a / b) + a % b = a := Int.mul_ediv_add_emod a b
  have h2 : 0 ≤ a % b := Int.emod_nonneg _ (by omega)
  have h3 : a % b < b := Int.emod_lt_of_pos _ hb
  have h4 : 0 ≤ b * (a / b) := Int.mul_nonneg (by omega) (Int.ediv_nonneg ha (by omega))
  rw [Int.mul_comm (a / b) b, Int.bmod_eq_of_le (n := b * (a / b)) (by omega) (by omega), Int.bmod_eq_of_le (by omega) (by omega)]
  congr 1; omega
