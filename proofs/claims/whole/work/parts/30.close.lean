/-! PURE: close -/
section CLOSE
variable {sh : List (Nat × Nat)} {V V' : Int → Int → Int} {r t m s c i j d k x a y D f : Int} {S S' : Int → Int} {n : Nat}
theorem bitI_tb : bitI m k = if m.toNat.testBit k.toNat = true then 1 else 0 := by
  unfold bitI
  rw [Nat.testBit_eq_decide_div_mod_eq]
  have : m.toNat / 2 ^ k.toNat % 2 = 0 ∨ m.toNat / 2 ^ k.toNat % 2 = 1 := by omega
  rcases this with q | q <;> rw [q] <;> rfl
theorem shut_on (h0 : 0 ≤ m) (h1 : m < 16777216) (h2 : 0 ≤ r) (h3 : r < 24) : ∃ R : Nat, or32 m (shl32 1 r) = (R : Int) ∧ R < 16777216 ∧ ∀ k, R.testBit k = (m.toNat.testBit k || decide (r.toNat = k)) := by
  have hp : 2 ^ r.toNat < 2 ^ 24 := Nat.pow_lt_pow_right (by decide) (by omega)
  have e := shl_nat (a := 1) (r := r.toNat) (by omega) (by omega)
  rw [Int.toNat_of_nonneg h2, Nat.one_mul] at e
  have e : shl32 1 r = ((2 ^ r.toNat : Nat) : Int) := e
  have e2 := or_nat (a := m.toNat) (b := 2 ^ r.toNat) (by omega) (by omega)
  rw [Int.toNat_of_nonneg h0] at e2
  refine ⟨m.toNat ||| 2 ^ r.toNat, by rw [e, e2], Nat.or_lt_two_pow (n := 24) (by omega) hp, fun k => ?_⟩
  rw [Nat.testBit_or, Nat.testBit_two_pow]
theorem shut_off (h0 : 0 ≤ m) (h1 : m < 16777216) (h2 : 0 ≤ r) (h3 : r < 24) : ∃ R : Nat, and32 m (xor32 (shl32 1 r) (-1)) = (R : Int) ∧ R < 16777216 ∧ ∀ k, R.testBit k = (m.toNat.testBit k && !decide (r.toNat = k)) := by
  have hp : 2 ^ r.toNat < 2 ^ 24 := Nat.pow_lt_pow_right (by decide) (by omega)
  have e := shl_nat (a := 1) (r := r.toNat) (by omega) (by omega)
  rw [Int.toNat_of_nonneg h2, Nat.one_mul] at e
  have e : shl32 1 r = ((2 ^ r.toNat : Nat) : Int) := e
  have hm : (Int32.ofInt m).toBitVec = BitVec.ofNat 32 m.toNat := by
    have := bv_nat (n := m.toNat) (by omega)
    rw [Int.toNat_of_nonneg h0] at this; exact this
  have hb : and32 m (xor32 (shl32 1 r) (-1)) = (BitVec.ofNat 32 m.toNat &&& (BitVec.ofNat 32 (2 ^ r.toNat) ^^^ BitVec.allOnes 32)).toInt := by
    unfold and32 xor32
    rw [i32_t, e]
    show (Int32.ofInt m &&& (Int32.ofInt ((2 ^ r.toNat : Nat) : Int) ^^^ Int32.ofInt (-1))).toBitVec.toInt = _
    rw [Int32.toBitVec_and, Int32.toBitVec_xor, hm, bv_nat (by omega)]
    rfl
  have hle : (BitVec.ofNat 32 m.toNat &&& (BitVec.ofNat 32 (2 ^ r.toNat) ^^^ BitVec.allOnes 32)).toNat ≤ m.toNat := by
    rw [BitVec.toNat_and, BitVec.toNat_ofNat, Nat.mod_eq_of_lt (by omega)]
    exact Nat.and_le_left
  refine ⟨(BitVec.ofNat 32 m.toNat &&& (BitVec.ofNat 32 (2 ^ r.toNat) ^^^ BitVec.allOnes 32)).toNat, ?_, by omega, fun k => ?_⟩
  · rw [hb, BitVec.toInt_eq_toNat_of_lt (by omega)]
  · rw [BitVec.testBit_toNat, BitVec.getLsbD_and, BitVec.getLsbD_xor, BitVec.getLsbD_allOnes, BitVec.getLsbD_ofNat, BitVec.getLsbD_ofNat, Nat.testBit_two_pow]
    by_cases hk : k < 32
    · simp [hk]
    · have : m.toNat.testBit k = false := Nat.testBit_lt_two_pow (Nat.lt_of_lt_of_le (by omega : m.toNat < 2 ^ 24) (Nat.pow_le_pow_right (by decide) (by omega)))
      simp [hk, this]
def aClose (S : Int → Int) (r : Int) : Int := if 0 ≤ r ∧ r < S 7 then S (128 + r) else -2
def nClose (S : Int → Int) (r f : Int) : Int → Int := if 0 ≤ r ∧ r < S 7 then up S (128 + r) (if f = 0 then 0 else 1) else S
theorem M_close_eq (H : Sh sh) (P : PM V) (O : SOk S D) : M_close 101 r f (sh, setR V 102 S) = some (aClose S r, (sh, setR (upV V 101 0 0) 102 (nClose S r f))) := by
  obtain ⟨KO, o2, o3, o4, o5, o6⟩ := O
  obtain ⟨z1, z2, z3, z4, -⟩ := KO
  have P1 : PM (upV V 101 0 0) := by rw [PM_fld (by decide)]; exact P
  unfold M_close aClose nClose
  rw [bp101 H, bi101 H, M_isRoad_b H P1 z3 z4]
  simp only [B_0, ite_not]
  by_cases h : 0 ≤ r ∧ r < S 7
  · rw [if_pos h, if_pos h, if_pos h, bg101 H, w32_id (by omega) (by omega), blp P1 H (by omega) (by omega), bg101 H]
    by_cases g : f = 0
    · rw [if_pos g, if_pos g, bd_mk, bsp P1 H (by omega) (by omega)]
    · rw [if_neg g, if_neg g, bd_mk, bsp P1 H (by omega) (by omega)]
  · rw [if_neg h, if_neg h, if_neg h]
theorem M_close_b (H : Sh sh) (P : PM V) (O : SOk S D) {γ : Type} {fZ : Int → Mem → Option γ} : bd2 (M_close 101 r f (sh, setR V 102 S)) fZ = fZ (aClose S r) (sh, setR (upV V 101 0 0) 102 (nClose S r f)) := by
  rw [M_close_eq] <;> first | assumption | rfl
theorem CW_close (C : CW V S) (O : SOk S D) (T : TP V) (h0 : 0 ≤ r) (h1 : r < S 7) (hy : y = 0 ∨ y = 1) (hx : 0 ≤ x) (hx' : x < 16777216) (hb : ∀ k, 0 ≤ k → k < 24 → bitI x k = if k = r then y else bitI (V 2 4) k) : CW (upV V 2 4 x) (up S (128 + r) y) ∧ SOk (up S (128 + r) y) D ∧ TP (upV V 2 4 x) := by
  obtain ⟨c1, c2, c3, c4, c5, c6⟩ := C
  obtain ⟨KO, o2, o3, o4, o5, o6⟩ := O
  have z4 := KO.2.2.2.1
  refine ⟨⟨CK_of c1 z4 (fun j hj => upS_ne (by omega)) (fun a j g0 g1 => up_row (by omega)), ⟨by rw [up_eq]; exact hx, by rw [up_eq]; exact hx', fun k g0 g1 => ?_⟩, ?_, fun i g0 g1 => ?_, fun d g0 g1 => ?_, ?_⟩, ⟨KOk_of KO (fun j hj => upS_ne (by omega)), ?_, ?_, fun i g0 g1 => ?_, fun k g0 g1 => ?_, fun d g0 g1 => ?_⟩, TP_of T (fun i j g0 g1 g2 g3 => up_row (by omega))⟩
  · rw [up_eq, hb k g0 g1, upS_ne (k := 7) (by omega)]
    by_cases e : k = r
    · rw [if_pos e, e, if_pos h1, upS_eq]
    · rw [if_neg e, upS_ne (by omega)]; exact c2.2.2 k g0 g1
  · rw [up_col (by decide), upS_ne (by omega)]; exact c3
  · rw [upS_ne (by omega)] at g1
    have ho := o4 i g0 g1
    have t2 := ho.2.1
    have := c4 i g0 g1
    obtain ⟨p, p0, p1, p2, p3, p4⟩ := T.1 i g0 (by omega)
    unfold TD at this ⊢
    simp (disch := omega) only [up_row, upS_ne]
    refine ⟨this.1, fun k q0 q1 => ?_⟩
    simp (disch := omega) only [up_row, upS_ne]
    exact this.2 k q0 q1
  · rw [up_row (by decide), upS_ne (by omega)]; exact c5 d g0 g1
  · rw [up_col (by decide), upS_ne (by omega), c6, tre_congr (S' := up S (128 + r) y) (S := S) (fun z hz => by rw [upS_ne (by omega), upS_ne (by omega)])]
  · rw [upS_ne (by omega)]; exact o2
  · rw [upS_ne (by omega)]; exact o3
  · rw [upS_ne (by omega)] at g1
    have := o4 i g0 g1
    have t2 := this.2.1
    unfold TOk at this ⊢
    simp (disch := omega) only [upS_ne]
    refine ⟨this.1, this.2.1, this.2.2.1, this.2.2.2.1, this.2.2.2.2.1, this.2.2.2.2.2.1, fun k q0 q1 => ?_⟩
    simp (disch := omega) only [upS_ne]
    exact this.2.2.2.2.2.2 k q0 q1
  · rw [upS_ne (by omega)] at g1
    by_cases e : k = r
    · rw [e, upS_eq]; exact hy
    · rw [upS_ne (by omega)]; exact o5 k g0 g1
  · rw [upS_ne (by omega)]; exact o6 d g0 g1
theorem T_close_ok (H : Sh sh) (P : Pt V) (C : CW V S) (O : SOk S D) (T : TP V) : CR sh V (T_close 0 r f (sh, V)) (aClose S r) (nClose S r f) D := by
  have O' := O
  have C' := C
  obtain ⟨c1, c2, c3, c4, c5, c6⟩ := C
  obtain ⟨KO, o2, o3, o4, o5, o6⟩ := O
  have z4 := KO.2.2.2.1
  have P2 : ∀ x, Pt (upV V 2 4 x) := fun x => by rw [Pt_fld2 (by decide)]; exact P
  unfold T_close aClose nClose
  rw [bgt (by rw [k_0 H]), q_0_4 P, bgt (by rw [k_2 H]), q_2_0 P, bit (by rw [k_3 H]), Kg_hasRoad_b H c1]
  simp only [B_0, ite_not]
  by_cases h : 0 ≤ r ∧ r < S 7
  · rw [if_pos h, if_pos h, if_pos h, bgt (by rw [k_0 H]), q_0_4 P, bit (by rw [k_2 H]), Wo_isOpen_b H c2 h.1 h.2 z4]
    simp only [B_0, ite_not]
    have ey : (if S (128 + r) = 0 then some (0 : Int) else some 1) = some (S (128 + r)) := by
      rcases o5 r h.1 h.2 with q | q <;> rw [q] <;> rfl
    rw [ey, bd_mk, bgt (by rw [k_0 H]), q_0_4 P, bit (by rw [k_2 H])]
    unfold Wo_shut
    by_cases g : f = 0
    · obtain ⟨R, r1, r2, r3⟩ := shut_off c2.1 c2.2.1 h.1 (by omega : r < 24)
      rw [if_pos g, if_pos g, bgt (by rw [k_2 H]), r1, bd_mk, bpt (by rw [k_2 H]), bd2_mk]
      obtain ⟨g1, g2, g3⟩ := CW_close (y := 0) (x := R) C' O' T h.1 h.2 (Or.inl rfl) (by omega) (by omega) (fun k q0 q1 => by
        rw [bitI_tb, bitI_tb, Int.toNat_natCast, r3]
        by_cases e : k = r
        · rw [if_pos e, e]; simp
        · rw [if_neg e]
          have : ¬ r.toNat = k.toNat := by omega
          simp [this])
      exact ⟨_, rfl, g1, g2, g3, P2 _, fun a j ha => up_row (by omega)⟩
    · obtain ⟨R, r1, r2, r3⟩ := shut_on c2.1 c2.2.1 h.1 (by omega : r < 24)
      rw [if_neg g, if_neg g, bgt (by rw [k_2 H]), r1, bd_mk, bpt (by rw [k_2 H]), bd2_mk]
      obtain ⟨g1, g2, g3⟩ := CW_close (y := 1) (x := R) C' O' T h.1 h.2 (Or.inr rfl) (by omega) (by omega) (fun k q0 q1 => by
        rw [bitI_tb, bitI_tb, Int.toNat_natCast, r3]
        by_cases e : k = r
        · rw [if_pos e, e]; simp
        · rw [if_neg e]
          have : ¬ r.toNat = k.toNat := by omega
          simp [this])
      exact ⟨_, rfl, g1, g2, g3, P2 _, fun a j ha => up_row (by omega)⟩
  · rw [if_neg h, if_neg h, if_neg h]
    exact ⟨_, rfl, C', O', T, P, fun _ _ _ => rfl⟩
end CLOSE
