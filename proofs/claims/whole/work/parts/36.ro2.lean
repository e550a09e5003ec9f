/-! PURE: bits counted; blocked, from, when, count -/
section RO2
variable {sh : List (Nat × Nat)} {V V' V2 : Int → Int → Int} {r t m s c i j d k x a b y D f p : Int} {S S' : Int → Int} {n : Nat}
theorem ushr_nat {a r : Nat} (ha : a < 2147483648) (hr : r < 32) : ushr32 (a : Int) (r : Int) = ((a / 2 ^ r : Nat) : Int) := by
  have hc : ∀ r : Nat, r < 32 → ((Int32.ofInt (r : Int)).toUInt32 &&& Int32.toUInt32 31).toNat % 32 = r := by decide +kernel
  have e : ((Int32.ofInt (a : Int)).toUInt32 >>> ((Int32.ofInt (r : Int)).toUInt32 &&& Int32.toUInt32 31)).toNat = a / 2 ^ r := by
    rw [UInt32.toNat_shiftRight, hc r hr, Nat.shiftRight_eq_div_pow]
    congr 1
    show (Int32.ofInt (a : Int)).toBitVec.toNat = a
    rw [bv_nat ha, BitVec.toNat_ofNat, Nat.mod_eq_of_lt (by omega)]
  have hle : a / 2 ^ r ≤ a := Nat.div_le_self _ _
  unfold ushr32
  generalize (Int32.ofInt (a : Int)).toUInt32 >>> ((Int32.ofInt (r : Int)).toUInt32 &&& Int32.toUInt32 31) = u at e ⊢
  show u.toBitVec.toInt = _
  rw [BitVec.toInt_eq_toNat_of_lt (by show 2 * u.toNat < 2 ^ 32; rw [e]; omega)]
  show ((u.toNat : Nat) : Int) = _
  rw [e]
/-- bits of m below n -/
def pc (m : Nat) : Nat → Nat
  | 0 => 0
  | r + 1 => pc m r + m / 2 ^ r % 2
theorem and_split (x y : Nat) : x &&& y = (x % 256 &&& y % 256) + 256 * (x / 256 &&& y / 256) := by
  have h1 := Nat.and_mod_two_pow (a := x) (b := y) (n := 8)
  have h2 := Nat.and_div_two_pow (a := x) (b := y) (n := 8)
  have e : (2 : Nat) ^ 8 = 256 := rfl
  rw [e] at h1 h2
  rw [← h1, ← h2]; omega
theorem pcb1 : ∀ b : Nat, b < 256 → ∀ c : Nat, c < 2 → ((b / 2 + 128 * c) &&& 85) = (b / 2 &&& 85) := by decide +kernel
theorem pcb2 : ∀ b : Nat, b < 256 → ∀ c : Nat, c < 4 → ((b / 4 + 64 * c) &&& 51) = (b / 4 &&& 51) := by decide +kernel
theorem pcb3 : ∀ v : Nat, v < 16 → ∀ w : Nat, w < 16 → ((v + 16 * w) &&& 15) = v := by decide +kernel
theorem pcg : ∀ b : Nat, b < 256 → (b / 2 &&& 85) ≤ b ∧ (((b - (b / 2 &&& 85)) &&& 51) + ((b - (b / 2 &&& 85)) / 4 &&& 51)) = (b / 1 % 2 + b / 2 % 2 + b / 4 % 2 + b / 8 % 2) + 16 * (b / 16 % 2 + b / 32 % 2 + b / 64 % 2 + b / 128 % 2) := by decide +kernel
theorem bits4 (a b c d : Nat) : a % 2 + b % 2 + c % 2 + d % 2 ≤ 4 := by omega
theorem pcs1 {a b c : Nat} (h1 : a < 256) (h2 : b < 256) (h3 : c < 256) : (a + 256 * (b + 256 * c)) / 2 &&& 1431655765 = (a / 2 &&& 85) + 256 * ((b / 2 &&& 85) + 256 * (c / 2 &&& 85)) := by
  rw [and_split, and_split ((a + 256 * (b + 256 * c)) / 2 / 256)]
  rw [show (a + 256 * (b + 256 * c)) / 2 % 256 = a / 2 + 128 * (b % 2) by omega, show (a + 256 * (b + 256 * c)) / 2 / 256 % 256 = b / 2 + 128 * (c % 2) by omega, show (a + 256 * (b + 256 * c)) / 2 / 256 / 256 = c / 2 by omega]
  simp only [Nat.reduceMod, Nat.reduceDiv]
  rw [pcb1 a h1 _ (by omega), pcb1 b h2 _ (by omega), and_split (c / 2), show c / 2 / 256 = 0 by omega, Nat.zero_and, show c / 2 % 256 = c / 2 by omega]
  simp only [Nat.reduceMod, Nat.mul_zero, Nat.add_zero]
theorem pcs2 {a b c : Nat} (h1 : a < 256) (h2 : b < 256) (h3 : c < 256) : ((a + 256 * (b + 256 * c)) &&& 858993459) = (a &&& 51) + 256 * ((b &&& 51) + 256 * (c &&& 51)) := by
  rw [and_split, and_split ((a + 256 * (b + 256 * c)) / 256)]
  rw [show (a + 256 * (b + 256 * c)) % 256 = a by omega, show (a + 256 * (b + 256 * c)) / 256 % 256 = b by omega, show (a + 256 * (b + 256 * c)) / 256 / 256 = c by omega, and_split c, show c / 256 = 0 by omega, Nat.zero_and, show c % 256 = c by omega]
  simp only [Nat.reduceMod, Nat.reduceDiv, Nat.mul_zero, Nat.add_zero]
theorem pcs3 {a b c : Nat} (h1 : a < 256) (h2 : b < 256) (h3 : c < 256) : ((a + 256 * (b + 256 * c)) / 4 &&& 858993459) = (a / 4 &&& 51) + 256 * ((b / 4 &&& 51) + 256 * (c / 4 &&& 51)) := by
  rw [and_split, and_split ((a + 256 * (b + 256 * c)) / 4 / 256)]
  rw [show (a + 256 * (b + 256 * c)) / 4 % 256 = a / 4 + 64 * (b % 4) by omega, show (a + 256 * (b + 256 * c)) / 4 / 256 % 256 = b / 4 + 64 * (c % 4) by omega, show (a + 256 * (b + 256 * c)) / 4 / 256 / 256 = c / 4 by omega]
  simp only [Nat.reduceMod, Nat.reduceDiv]
  rw [pcb2 a h1 _ (by omega), pcb2 b h2 _ (by omega), and_split (c / 4), show c / 4 / 256 = 0 by omega, Nat.zero_and, show c / 4 % 256 = c / 4 by omega]
  simp only [Nat.reduceMod, Nat.mul_zero, Nat.add_zero]
theorem mod256 {x y : Nat} (h : x < 256) : (x + 256 * y) % 256 = x := by omega
theorem div256 {x y : Nat} (h : x < 256) : (x + 256 * y) / 256 = y := by omega
theorem pcs4 {s t u v p q : Nat} (h1 : s ≤ 4) (h2 : t ≤ 4) (h3 : u ≤ 4) (h4 : v ≤ 4) (h5 : p ≤ 4) (h6 : q ≤ 4) {w : Nat} (hw : w = (s + 16 * t) + 256 * ((u + 16 * v) + 256 * (p + 16 * q))) : (w + w / 16 &&& 252645135) = (s + t) + 256 * ((u + v) + 256 * (p + q)) := by
  have e : w + w / 16 = ((s + t) + 16 * (t + u)) + 256 * (((u + v) + 16 * (v + p)) + 256 * ((p + q) + 16 * q)) := by omega
  rw [e, and_split, div256 (by omega), mod256 (by omega), and_split (((u + v) + 16 * (v + p)) + 256 * ((p + q) + 16 * q)), div256 (by omega), mod256 (by omega)]
  simp only [Nat.reduceMod, Nat.reduceDiv]
  rw [pcb3 _ (by omega) _ (by omega), pcb3 _ (by omega) _ (by omega), and_split ((p + q) + 16 * q), show ((p + q) + 16 * q) / 256 = 0 by clear e hw; omega, Nat.zero_and, show ((p + q) + 16 * q) % 256 = (p + q) + 16 * q by clear e hw; omega]
  simp only [Nat.reduceMod, Nat.mul_zero, Nat.add_zero]
  rw [pcb3 _ (by omega) _ (by omega)]
theorem pcm0 (m : Nat) : m / 1 % 2 = (m % 256) / 1 % 2 := by omega
theorem pcm1 (m : Nat) : m / 2 % 2 = (m % 256) / 2 % 2 := by omega
theorem pcm2 (m : Nat) : m / 4 % 2 = (m % 256) / 4 % 2 := by omega
theorem pcm3 (m : Nat) : m / 8 % 2 = (m % 256) / 8 % 2 := by omega
theorem pcm4 (m : Nat) : m / 16 % 2 = (m % 256) / 16 % 2 := by omega
theorem pcm5 (m : Nat) : m / 32 % 2 = (m % 256) / 32 % 2 := by omega
theorem pcm6 (m : Nat) : m / 64 % 2 = (m % 256) / 64 % 2 := by omega
theorem pcm7 (m : Nat) : m / 128 % 2 = (m % 256) / 128 % 2 := by omega
theorem pcm8 (m : Nat) : m / 256 % 2 = (m / 256 % 256) / 1 % 2 := by omega
theorem pcm9 (m : Nat) : m / 512 % 2 = (m / 256 % 256) / 2 % 2 := by omega
theorem pcm10 (m : Nat) : m / 1024 % 2 = (m / 256 % 256) / 4 % 2 := by omega
theorem pcm11 (m : Nat) : m / 2048 % 2 = (m / 256 % 256) / 8 % 2 := by omega
theorem pcm12 (m : Nat) : m / 4096 % 2 = (m / 256 % 256) / 16 % 2 := by omega
theorem pcm13 (m : Nat) : m / 8192 % 2 = (m / 256 % 256) / 32 % 2 := by omega
theorem pcm14 (m : Nat) : m / 16384 % 2 = (m / 256 % 256) / 64 % 2 := by omega
theorem pcm15 (m : Nat) : m / 32768 % 2 = (m / 256 % 256) / 128 % 2 := by omega
theorem pcm16 (m : Nat) : m / 65536 % 2 = (m / 65536) / 1 % 2 := by omega
theorem pcm17 (m : Nat) : m / 131072 % 2 = (m / 65536) / 2 % 2 := by omega
theorem pcm18 (m : Nat) : m / 262144 % 2 = (m / 65536) / 4 % 2 := by omega
theorem pcm19 (m : Nat) : m / 524288 % 2 = (m / 65536) / 8 % 2 := by omega
theorem pcm20 (m : Nat) : m / 1048576 % 2 = (m / 65536) / 16 % 2 := by omega
theorem pcm21 (m : Nat) : m / 2097152 % 2 = (m / 65536) / 32 % 2 := by omega
theorem pcm22 (m : Nat) : m / 4194304 % 2 = (m / 65536) / 64 % 2 := by omega
theorem pcm23 (m : Nat) : m / 8388608 % 2 = (m / 65536) / 128 % 2 := by omega
theorem pc_bytes (m : Nat) : pc m 24 = (((m % 256) / 1 % 2 + (m % 256) / 2 % 2 + (m % 256) / 4 % 2 + (m % 256) / 8 % 2) + ((m % 256) / 16 % 2 + (m % 256) / 32 % 2 + (m % 256) / 64 % 2 + (m % 256) / 128 % 2)) + (((m / 256 % 256) / 1 % 2 + (m / 256 % 256) / 2 % 2 + (m / 256 % 256) / 4 % 2 + (m / 256 % 256) / 8 % 2) + ((m / 256 % 256) / 16 % 2 + (m / 256 % 256) / 32 % 2 + (m / 256 % 256) / 64 % 2 + (m / 256 % 256) / 128 % 2)) + (((m / 65536) / 1 % 2 + (m / 65536) / 2 % 2 + (m / 65536) / 4 % 2 + (m / 65536) / 8 % 2) + ((m / 65536) / 16 % 2 + (m / 65536) / 32 % 2 + (m / 65536) / 64 % 2 + (m / 65536) / 128 % 2)) := by
  simp only [pc, Nat.reducePow, Nat.zero_add]
  rw [pcm0 m, pcm1 m, pcm2 m, pcm3 m, pcm4 m, pcm5 m, pcm6 m, pcm7 m, pcm8 m, pcm9 m, pcm10 m, pcm11 m, pcm12 m, pcm13 m, pcm14 m, pcm15 m, pcm16 m, pcm17 m, pcm18 m, pcm19 m, pcm20 m, pcm21 m, pcm22 m, pcm23 m]
  simp only [Nat.add_assoc]
theorem pc_end' {A B C w : Nat} (h1 : A ≤ 8) (h2 : B ≤ 8) (h3 : C ≤ 8) (hw : w = A + 256 * (B + 256 * C)) : (w + w / 256 + (w + w / 256) / 65536) % 64 = A + B + C := by
  have e1 : w / 256 = B + 256 * C := by rw [hw]; exact div256 (by omega)
  have e2 : w + w / 256 = (A + B) + 256 * (B + C) + 65536 * C := by rw [e1, hw]; omega
  have e3 : (w + w / 256) / 65536 = C := by
    rw [e2, Nat.add_mul_div_left _ _ (by decide), Nat.div_eq_of_lt (by omega), Nat.zero_add]
  rw [e3, e2, show A + B + 256 * (B + C) + 65536 * C + C = (A + B + C) + 64 * (4 * (B + C) + 1024 * C) by omega, Nat.add_mul_mod_self_left, Nat.mod_eq_of_lt (by omega)]
theorem pc_end {s t u v p q : Nat} (h1 : s ≤ 4) (h2 : t ≤ 4) (h3 : u ≤ 4) (h4 : v ≤ 4) (h5 : p ≤ 4) (h6 : q ≤ 4) {w : Nat} (hw : w = (s + t) + 256 * ((u + v) + 256 * (p + q))) : (w + w / 256 + (w + w / 256) / 65536) % 64 = (s + t) + (u + v) + (p + q) := pc_end' (by omega) (by omega) (by omega) hw
/-- the three bytes of a number, counted -/
theorem J_bitCount_eq {m : Nat} {μ : Mem} (h : m < 16777216) : J_bitCount (m : Int) μ = some (((pc m 24 : Nat) : Int), μ) := by
  have hm : m = m % 256 + 256 * (m / 256 % 256 + 256 * (m / 65536)) := by omega
  have a1 : m % 256 < 256 := by omega
  have b1 : m / 256 % 256 < 256 := by omega
  have c1 : m / 65536 < 256 := by omega
  rw [pc_bytes]
  generalize m % 256 = a at *
  generalize m / 256 % 256 = b at *
  generalize m / 65536 = c at *
  have ga := (pcg a a1).1
  have gb := (pcg b b1).1
  have gc := (pcg c c1).1
  have e1 := pcs1 a1 b1 c1
  rw [← hm] at e1
  have x1 : m - (m / 2 &&& 1431655765) = (a - (a / 2 &&& 85)) + 256 * ((b - (b / 2 &&& 85)) + 256 * (c - (c / 2 &&& 85))) := by rw [e1]; omega
  have u1 : ushr32 (m : Int) 1 = ((m / 2 : Nat) : Int) := ushr_nat (r := 1) (by omega) (by decide)
  have v1 : and32 ((m / 2 : Nat) : Int) 1431655765 = ((m / 2 &&& 1431655765 : Nat) : Int) := and_nat (b := 1431655765) (by omega) (by decide)
  have hm1 := @Nat.and_le_left (m / 2) 1431655765
  obtain ⟨w1, hw1⟩ : ∃ w, w = m - (m / 2 &&& 1431655765) := ⟨_, rfl⟩
  have y1 : w32 ((m : Int) - ((m / 2 &&& 1431655765 : Nat) : Int)) = (w1 : Int) := by rw [w32_id (by omega) (by omega)]; omega
  have hw1' : w1 < 16777216 := by omega
  rw [x1] at hw1
  unfold J_bitCount
  rw [u1, v1, y1, bd_mk]
  clear x1 e1 u1 v1 hm1 y1 hm h
  have a2 : a - (a / 2 &&& 85) < 256 := by omega
  have b2 : b - (b / 2 &&& 85) < 256 := by omega
  have c2 : c - (c / 2 &&& 85) < 256 := by omega
  have x2 : (w1 &&& 858993459) + (w1 / 4 &&& 858993459) = (((a - (a / 2 &&& 85)) &&& 51) + ((a - (a / 2 &&& 85)) / 4 &&& 51)) + 256 * ((((b - (b / 2 &&& 85)) &&& 51) + ((b - (b / 2 &&& 85)) / 4 &&& 51)) + 256 * (((c - (c / 2 &&& 85)) &&& 51) + ((c - (c / 2 &&& 85)) / 4 &&& 51))) := by
    rw [hw1, pcs2 a2 b2 c2, pcs3 a2 b2 c2]; generalize (a - (a / 2 &&& 85)) &&& 51 = q1; generalize (a - (a / 2 &&& 85)) / 4 &&& 51 = q2; generalize (b - (b / 2 &&& 85)) &&& 51 = q3; generalize (b - (b / 2 &&& 85)) / 4 &&& 51 = q4; generalize (c - (c / 2 &&& 85)) &&& 51 = q5; generalize (c - (c / 2 &&& 85)) / 4 &&& 51 = q6; clear ga gb gc a1 b1 c1 a2 b2 c2 hw1 hw1'; omega
  rw [(pcg a a1).2, (pcg b b1).2, (pcg c c1).2] at x2
  have l1 := bits4 (a / 1) (a / 2) (a / 4) (a / 8)
  have l2 := bits4 (a / 16) (a / 32) (a / 64) (a / 128)
  have l3 := bits4 (b / 1) (b / 2) (b / 4) (b / 8)
  have l4 := bits4 (b / 16) (b / 32) (b / 64) (b / 128)
  have l5 := bits4 (c / 1) (c / 2) (c / 4) (c / 8)
  have l6 := bits4 (c / 16) (c / 32) (c / 64) (c / 128)
  clear ga gb gc a1 b1 c1 a2 b2 c2 hw1
  generalize a / 1 % 2 + a / 2 % 2 + a / 4 % 2 + a / 8 % 2 = s1 at *
  generalize a / 16 % 2 + a / 32 % 2 + a / 64 % 2 + a / 128 % 2 = s2 at *
  generalize b / 1 % 2 + b / 2 % 2 + b / 4 % 2 + b / 8 % 2 = s3 at *
  generalize b / 16 % 2 + b / 32 % 2 + b / 64 % 2 + b / 128 % 2 = s4 at *
  generalize c / 1 % 2 + c / 2 % 2 + c / 4 % 2 + c / 8 % 2 = s5 at *
  generalize c / 16 % 2 + c / 32 % 2 + c / 64 % 2 + c / 128 % 2 = s6 at *
  have u2 : ushr32 (w1 : Int) 2 = ((w1 / 4 : Nat) : Int) := ushr_nat (r := 2) (by omega) (by decide)
  have v2 : and32 (w1 : Int) 858993459 = ((w1 &&& 858993459 : Nat) : Int) := and_nat (b := 858993459) (by omega) (by decide)
  have v2' : and32 ((w1 / 4 : Nat) : Int) 858993459 = ((w1 / 4 &&& 858993459 : Nat) : Int) := and_nat (b := 858993459) (by omega) (by decide)
  obtain ⟨w2, hw2⟩ : ∃ w, w = (s1 + 16 * s2) + 256 * ((s3 + 16 * s4) + 256 * (s5 + 16 * s6)) := ⟨_, rfl⟩
  rw [← hw2] at x2
  have hw2' : w2 < 16777216 := by omega
  have y2 : w32 (((w1 &&& 858993459 : Nat) : Int) + ((w1 / 4 &&& 858993459 : Nat) : Int)) = (w2 : Int) := by rw [← Int.natCast_add, x2, w32_id (by omega) (by omega)]
  rw [u2, v2, v2', y2, bd_mk]
  clear u2 v2 v2' y2 x2 hw1' w1
  have u3 : ushr32 (w2 : Int) 4 = ((w2 / 16 : Nat) : Int) := ushr_nat (r := 4) (by omega) (by decide)
  have y3 : w32 ((w2 : Int) + ((w2 / 16 : Nat) : Int)) = ((w2 + w2 / 16 : Nat) : Int) := by rw [w32_id (by omega) (by omega)]; omega
  have v3 : and32 ((w2 + w2 / 16 : Nat) : Int) 252645135 = ((w2 + w2 / 16 &&& 252645135 : Nat) : Int) := and_nat (b := 252645135) (by omega) (by decide)
  rw [u3, y3, v3, bd_mk, pcs4 l1 l2 l3 l4 l5 l6 hw2]
  clear u3 y3 v3 hw2' hw2
  obtain ⟨w3, hw3⟩ : ∃ w, w = (s1 + s2) + 256 * ((s3 + s4) + 256 * (s5 + s6)) := ⟨_, rfl⟩
  rw [← hw3]
  have hw3' : w3 < 16777216 := by omega
  have u4 : ushr32 (w3 : Int) 8 = ((w3 / 256 : Nat) : Int) := ushr_nat (r := 8) (by omega) (by decide)
  have y4 : w32 ((w3 : Int) + ((w3 / 256 : Nat) : Int)) = ((w3 + w3 / 256 : Nat) : Int) := by rw [w32_id (by omega) (by omega)]; omega
  have u5 : ushr32 ((w3 + w3 / 256 : Nat) : Int) 16 = (((w3 + w3 / 256) / 65536 : Nat) : Int) := ushr_nat (r := 16) (by omega) (by decide)
  have y5 : w32 (((w3 + w3 / 256 : Nat) : Int) + (((w3 + w3 / 256) / 65536 : Nat) : Int)) = ((w3 + w3 / 256 + (w3 + w3 / 256) / 65536 : Nat) : Int) := by rw [w32_id (by omega) (by omega)]; omega
  have v5 : and32 ((w3 + w3 / 256 + (w3 + w3 / 256) / 65536 : Nat) : Int) 63 = (((w3 + w3 / 256 + (w3 + w3 / 256) / 65536) % 64 : Nat) : Int) := by
    have := and_nat (a := w3 + w3 / 256 + (w3 + w3 / 256) / 65536) (b := 63) (by omega) (by decide)
    rw [show (63 : Nat) = 2 ^ 6 - 1 from rfl, Nat.and_two_pow_sub_one_eq_mod] at this
    exact this
  rw [u4, y4, bd_mk, u5, y5, bd_mk, v5, pc_end l1 l2 l3 l4 l5 l6 hw3]
theorem J_bitCount_b {m : Nat} {μ : Mem} (h : m < 16777216) {γ : Type} {fZ : Int → Mem → Option γ} : bd2 (J_bitCount (m : Int) μ) fZ = fZ (((pc m 24 : Nat) : Int)) μ := by
  rw [J_bitCount_eq] <;> first | assumption | rfl
end RO2
