/-! PURE: numbers cut to a size, or by a modulus -/
section CAP
variable {sh : List (Nat × Nat)} {V V' V1 V2 : Int → Int → Int} {c x y : Int} {S : Int → Int}
theorem rem64_ok {a b : Int} (ha : 0 ≤ a) (ha' : a < 9223372036854775808) (hb : 0 < b) (hb' : b < 9223372036854775808) : rem64 a b = some (a % b) := by
  unfold rem64
  rw [if_neg (by omega)]
  have e1 : (Int64.ofInt a).toInt = a := Int64.toInt_ofInt_of_le (by simpa using (by omega : -9223372036854775808 ≤ a)) (by simpa using ha')
  have e2 : (Int64.ofInt b).toInt = b := Int64.toInt_ofInt_of_le (by simpa using (by omega : -9223372036854775808 ≤ b)) (by simpa using hb')
  have h1 : b * (a / b) + a % b = a := Int.mul_ediv_add_emod a b
  have h2 : 0 ≤ a % b := Int.emod_nonneg _ (by omega)
  have h3 : a % b < b := Int.emod_lt_of_pos _ hb
  have h5 : a / b ≤ a := Int.ediv_le_self _ ha
  have h6 : 0 ≤ a / b := Int.ediv_nonneg ha (by omega)
  have h4 : 0 ≤ b * (a / b) := Int.mul_nonneg (by omega) h6
  have hd : (Int64.ofInt a / Int64.ofInt b).toInt = a / b := by
    rw [Int64.toInt_div, e1, e2, Int.tdiv_eq_ediv_of_nonneg ha, Int.bmod_eq_of_le (by omega) (by omega)]
  rw [Int64.toInt_sub, Int64.toInt_mul, hd, e1, e2, Int.mul_comm (a / b) b, Int.bmod_eq_of_le (n := b * (a / b)) (by omega) (by omega), Int.bmod_eq_of_le (by omega) (by omega)]
  congr 1; omega
theorem div64_ok {a b : Int} (ha : 0 ≤ a) (ha' : a < 9223372036854775808) (hb : 0 < b) (hb' : b < 9223372036854775808) : div64 a b = some (a / b) := by
  unfold div64
  rw [if_neg (by omega)]
  have e1 : (Int64.ofInt a).toInt = a := Int64.toInt_ofInt_of_le (by simpa using (by omega : -9223372036854775808 ≤ a)) (by simpa using ha')
  have e2 : (Int64.ofInt b).toInt = b := Int64.toInt_ofInt_of_le (by simpa using (by omega : -9223372036854775808 ≤ b)) (by simpa using hb')
  have h5 : a / b ≤ a := Int.ediv_le_self _ ha
  have h6 : 0 ≤ a / b := Int.ediv_nonneg ha (by omega)
  rw [Int64.toInt_div, e1, e2, Int.tdiv_eq_ediv_of_nonneg ha, Int.bmod_eq_of_le (by omega) (by omega)]
/-- a number as the class has it, as the reference has it; c = 0: by the modulus, else cut to a size -/
def rhoN (M : Nat) (c : Int) (n : Nat) : Nat := if c = 0 then n % 1000000007 else min M n
abbrev rC (c : Int) (n : Nat) : Int := ((rhoN 2147483648 c n : Nat) : Int)
abbrev rM (c : Int) (n : Nat) : Int := ((rhoN 3000000000 c n : Nat) : Int)
theorem min_mul {M a b : Nat} : min M (min M a * min M b) = min M (a * b) := by
  by_cases ha : a ≤ M
  · by_cases hb : b ≤ M
    · rw [Nat.min_eq_right ha, Nat.min_eq_right hb]
    · rw [Nat.min_eq_right ha, Nat.min_eq_left (by omega : M ≤ b)]
      by_cases h0 : a = 0
      · subst h0; simp
      · have h1 : M ≤ a * M := Nat.le_mul_of_pos_left M (by omega)
        have h2 : M ≤ a * b := Nat.le_trans h1 (Nat.mul_le_mul_left a (by omega))
        rw [Nat.min_eq_left h1, Nat.min_eq_left h2]
  · rw [Nat.min_eq_left (by omega : M ≤ a)]
    by_cases h0 : b = 0
    · subst h0; simp
    · by_cases hM : M = 0
      · subst hM; simp
      · have hb : 0 < min M b := by omega
        have h1 : M ≤ M * min M b := Nat.le_mul_of_pos_right M hb
        have h2 : M ≤ a * b := Nat.le_trans (by omega : M ≤ a) (Nat.le_mul_of_pos_right a (by omega))
        rw [Nat.min_eq_left h1, Nat.min_eq_left h2]
theorem min_add {M s p : Nat} : min M (min M s + min M p) = min M (s + p) := by omega
theorem rho_lt {M : Nat} {n : Nat} (h : 1000000006 ≤ M) : rhoN M c n ≤ M := by
  unfold rhoN
  split
  · have := Nat.mod_lt n (by decide : 0 < 1000000007); omega
  · omega
theorem rho_plus0 {M s a b : Nat} (hc : c = 0) : (rhoN M c s + rhoN M c a * rhoN M c b) % 1000000007 = rhoN M c (s + a * b) := by
  unfold rhoN; rw [if_pos hc, if_pos hc, if_pos hc, if_pos hc, Nat.add_mod, Nat.mod_mod, ← Nat.mul_mod, ← Nat.add_mod]
theorem rho_plus1 {M s a b : Nat} (hc : c ≠ 0) : min M (rhoN M c s + min M (rhoN M c a * rhoN M c b)) = rhoN M c (s + a * b) := by
  unfold rhoN; rw [if_neg hc, if_neg hc, if_neg hc, if_neg hc, min_mul, min_add]
theorem rC_0 : rC c 0 = 0 := by unfold rC rhoN; split <;> rfl
theorem rC_1 : rC c 1 = 1 := by unfold rC rhoN; split <;> rfl
theorem rM_0 : rM c 0 = 0 := by unfold rM rhoN; split <;> rfl
theorem rM_1 : rM c 1 = 1 := by unfold rM rhoN; split <;> rfl
theorem prod_lt {a b A B : Nat} (ha : a ≤ A) (hb : b ≤ B) : a * b ≤ A * B := Nat.mul_le_mul ha hb
theorem some_c {q q' : Int} {μ : Mem} (e : q = q') : some (q, μ) = some (q', μ) := by rw [e]
theorem J_minJ_eq {a b : Int} {μ : Mem} : J_minJ a b μ = some (if b < a then b else a, μ) := by unfold J_minJ; simp only [cmp_gt, if_some2]
theorem J_minJ_b {a b : Int} {μ : Mem} {γ : Type} {fZ : Int → Mem → Option γ} : bd2 (J_minJ a b μ) fZ = fZ (if b < a then b else a) μ := by
  rw [J_minJ_eq] <;> first | assumption | rfl
theorem Ct_plus_eq {s a b : Nat} (H : Sh sh) (hc : V 84 7 = c) : Ct_plus 84 (rC c s) (rC c a) (rC c b) (sh, V) = some (rC c (s + a * b), (sh, V)) := by
  have ba := rho_lt (M := 2147483648) (c := c) (n := a) (by decide)
  have bb := rho_lt (M := 2147483648) (c := c) (n := b) (by decide)
  have bs := rho_lt (M := 2147483648) (c := c) (n := s) (by decide)
  have bp := prod_lt ba bb
  have ep : rC c a * rC c b = ((rhoN 2147483648 c a * rhoN 2147483648 c b : Nat) : Int) := by unfold rC; push_cast; rfl
  unfold Ct_plus
  rw [bgt (by rw [k_84 H]), hc, ep, w64_id (x := ((rhoN 2147483648 c a * rhoN 2147483648 c b : Nat) : Int)) (by omega) (by omega)]
  by_cases h : c = 0
  · rw [if_pos h, w64_id (by unfold rC; omega) (by unfold rC; omega), rem64_ok (by unfold rC; omega) (by unfold rC; omega) (by decide) (by decide), bd_mk]
    have := rho_plus0 (M := 2147483648) (s := s) (a := a) (b := b) h
    unfold rC; rw [← this]; congr 1
  · rw [if_neg h, J_minJ_b, w64_id (by unfold rC; split <;> omega) (by unfold rC; split <;> omega), J_minJ_b]
    have := rho_plus1 (M := 2147483648) (s := s) (a := a) (b := b) h
    unfold rC; rw [← this]
    generalize rhoN 2147483648 c a * rhoN 2147483648 c b = P at *
    generalize rhoN 2147483648 c s = Q at *
    apply some_c
    clear this ep
    split <;> split <;> omega
theorem Ct_plus_b {s a b : Nat} (H : Sh sh) (hc : V 84 7 = c) {γ : Type} {fZ : Int → Mem → Option γ} : bd2 (Ct_plus 84 (rC c s) (rC c a) (rC c b) (sh, V)) fZ = fZ (rC c (s + a * b)) (sh, V) := by
  rw [Ct_plus_eq] <;> first | assumption | rfl
theorem M_sumOf_eq {s a b : Nat} (H : Sh sh) (hc : V 101 36 = c) : M_sumOf 101 (rM c s) (rM c a) (rM c b) (sh, setR V 102 S) = some (rM c (s + a * b), (sh, setR V 102 S)) := by
  have ba := rho_lt (M := 3000000000) (c := c) (n := a) (by decide)
  have bb := rho_lt (M := 3000000000) (c := c) (n := b) (by decide)
  have bs := rho_lt (M := 3000000000) (c := c) (n := s) (by decide)
  have bp := prod_lt ba bb
  have ep : rM c a * rM c b = ((rhoN 3000000000 c a * rhoN 3000000000 c b : Nat) : Int) := by unfold rM; push_cast; rfl
  unfold M_sumOf
  rw [bg101 H, hc, ep, w64_id (x := ((rhoN 3000000000 c a * rhoN 3000000000 c b : Nat) : Int)) (by omega) (by omega)]
  by_cases h : c = 0
  · have := rho_plus0 (M := 3000000000) (s := s) (a := a) (b := b) h
    have b2 : rhoN 3000000000 c a * rhoN 3000000000 c b ≤ 1000000007 * 1000000007 := prod_lt (by unfold rhoN; rw [if_pos h]; have := Nat.mod_lt a (by decide : 0 < 1000000007); omega) (by unfold rhoN; rw [if_pos h]; have := Nat.mod_lt b (by decide : 0 < 1000000007); omega)
    rw [if_pos h, w64_id (by unfold rM; omega) (by unfold rM; omega), rem64_ok (by unfold rM; omega) (by unfold rM; omega) (by decide) (by decide), bd_mk]
    unfold rM; rw [← this]; congr 1
  · have := rho_plus1 (M := 3000000000) (s := s) (a := a) (b := b) h
    have ey : (if 0 < cmp64 (rM c a) 0 then bd (div64 3000000000 (rM c a)) fun x3 => if 0 < cmp64 (rM c b) x3 then some (3000000000 : Int) else some ((rhoN 3000000000 c a * rhoN 3000000000 c b : Nat) : Int) else some ((rhoN 3000000000 c a * rhoN 3000000000 c b : Nat) : Int)) = some ((min 3000000000 (rhoN 3000000000 c a * rhoN 3000000000 c b) : Nat) : Int) := by
      simp only [cmp_gt]
      clear this ep
      unfold rM
      generalize rhoN 3000000000 c a = A at *
      generalize rhoN 3000000000 c b = Z at *
      by_cases hA : (0 : Int) < (A : Int)
      · rw [if_pos hA, div64_ok (by decide) (by decide) hA (by omega), bd_mk]
        have hA' : 0 < A := by omega
        have ed : (3000000000 : Int) / (A : Int) = ((3000000000 / A : Nat) : Int) := (Int.natCast_ediv 3000000000 A).symm
        rw [ed]
        by_cases hZ : 3000000000 / A < Z
        · rw [if_pos (by omega)]
          have : 3000000000 < Z * A := (Nat.div_lt_iff_lt_mul hA').mp hZ
          rw [Nat.mul_comm] at this
          rw [Nat.min_eq_left (by omega)]; rfl
        · rw [if_neg (by omega)]
          have : Z * A ≤ 3000000000 := (Nat.le_div_iff_mul_le hA').mp (by omega)
          rw [Nat.mul_comm] at this
          rw [Nat.min_eq_right this]
      · rw [if_neg hA]
        have : A = 0 := by omega
        subst this; simp
    rw [if_neg h, ey, bd_mk, w64_id (by unfold rM; omega) (by unfold rM; omega)]
    simp only [cmp_gt]
    unfold rM
    rw [← this, if_some2]
    clear ey this ep
    generalize rhoN 3000000000 c a * rhoN 3000000000 c b = P at *
    generalize rhoN 3000000000 c s = Q at *
    apply some_c
    split <;> omega
theorem M_sumOf_b {s a b : Nat} (H : Sh sh) (hc : V 101 36 = c) {γ : Type} {fZ : Int → Mem → Option γ} : bd2 (M_sumOf 101 (rM c s) (rM c a) (rM c b) (sh, setR V 102 S)) fZ = fZ (rM c (s + a * b)) (sh, setR V 102 S) := by
  rw [M_sumOf_eq] <;> first | assumption | rfl
end CAP
