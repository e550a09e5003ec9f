/-! PURE: cutOff, forged -/
section CUT
variable {sh : List (Nat × Nat)} {V V' V1 V2 V2' : Int → Int → Int} {r t s c i j d k x a b y D D' f p w bk v tb q : Int} {S S' R : Int → Int} {n : Nat} {ρ : Nat → Int} {u : Nat → Bool}
theorem and_not {m x : Nat} (h0 : m < 2147483648) (h1 : x < 2147483648) : ∃ R : Nat, and32 (m : Int) (xor32 (x : Int) (-1)) = (R : Int) ∧ R ≤ m ∧ ∀ k, R.testBit k = (m.testBit k && !x.testBit k) := by
  have hb : and32 (m : Int) (xor32 (x : Int) (-1)) = (BitVec.ofNat 32 m &&& (BitVec.ofNat 32 x ^^^ BitVec.allOnes 32)).toInt := by
    unfold and32 xor32
    rw [i32_t]
    show (Int32.ofInt (m : Int) &&& (Int32.ofInt (x : Int) ^^^ Int32.ofInt (-1))).toBitVec.toInt = _
    rw [Int32.toBitVec_and, Int32.toBitVec_xor, bv_nat h0, bv_nat h1]
    rfl
  have hle : (BitVec.ofNat 32 m &&& (BitVec.ofNat 32 x ^^^ BitVec.allOnes 32)).toNat ≤ m := by
    rw [BitVec.toNat_and, BitVec.toNat_ofNat, Nat.mod_eq_of_lt (by omega)]
    exact Nat.and_le_left
  refine ⟨(BitVec.ofNat 32 m &&& (BitVec.ofNat 32 x ^^^ BitVec.allOnes 32)).toNat, ?_, hle, fun k => ?_⟩
  · rw [hb, BitVec.toInt_eq_toNat_of_lt (by omega)]
  · rw [BitVec.testBit_toNat, BitVec.getLsbD_and, BitVec.getLsbD_xor, BitVec.getLsbD_allOnes, BitVec.getLsbD_ofNat, BitVec.getLsbD_ofNat]
    by_cases hk : k < 32
    · simp [hk]
    · have : m.testBit k = false := Nat.testBit_lt_two_pow (Nat.lt_of_lt_of_le (by omega : m < 2 ^ 31) (Nat.pow_le_pow_right (by decide) (by omega)))
      simp [hk, this]
/-- one round over the roads in u -/
def rpass (S : Int → Int) (u : Nat → Bool) : Nat → Nat → Nat
  | 0, m => m
  | k + 1, m => if u k = true ∧ ((rpass S u k m).testBit (S (8 + k)).toNat = true ∨ (rpass S u k m).testBit (S (32 + k)).toNat = true) then rpass S u k m ||| (2 ^ (S (8 + k)).toNat ||| 2 ^ (S (32 + k)).toNat) else rpass S u k m
theorem rpass_lt {T m : Nat} (hm : m < 2 ^ T) : ∀ k : Nat, (∀ r : Nat, r < k → (S (8 + r)).toNat < T ∧ (S (32 + r)).toNat < T) → rpass S u k m < 2 ^ T := by
  intro k
  induction k with
  | zero => intro _; exact hm
  | succ k ih =>
    intro h
    rw [rpass]
    split
    · have := h k (by omega)
      exact Nat.or_lt_two_pow (ih (fun r hr => h r (by omega))) (Nat.or_lt_two_pow (Nat.pow_lt_pow_right (by decide) this.1) (Nat.pow_lt_pow_right (by decide) this.2))
    · exact ih (fun r hr => h r (by omega))
theorem rpass_sub {m : Nat} : ∀ (k i : Nat), m.testBit i = true → (rpass S u k m).testBit i = true := by
  intro k
  induction k with
  | zero => intro i h; exact h
  | succ k ih =>
    intro i h
    rw [rpass]
    split
    · rw [Nat.testBit_or, ih i h]; rfl
    · exact ih i h
theorem pc_mono {a b : Nat} (h : ∀ i : Nat, a.testBit i = true → b.testBit i = true) : ∀ n, pc a n ≤ pc b n := by
  intro n
  induction n with
  | zero => exact Nat.le_refl _
  | succ n ih =>
    rw [pc, pc, bit_tb, bit_tb]
    have := h n
    by_cases q : a.testBit n = true
    · rw [if_pos q, if_pos (this q)]; omega
    · rw [if_neg q]; omega
theorem pc_strict {a b : Nat} (h : ∀ i : Nat, a.testBit i = true → b.testBit i = true) : ∀ T, a < 2 ^ T → b < 2 ^ T → a ≠ b → pc a T < pc b T := by
  intro T ha hb hn
  have hx : ∃ i, i < T ∧ a.testBit i = false ∧ b.testBit i = true := by
    refine Classical.byContradiction (fun hc => hn (Nat.eq_of_testBit_eq (fun i => ?_)))
    by_cases hi : i < T
    · cases qa : a.testBit i with
      | true => exact (h i qa).symm
      | false =>
        cases qb : b.testBit i with
        | true => exact absurd ⟨i, hi, qa, qb⟩ hc
        | false => rfl
    · have e : 2 ^ T ≤ 2 ^ i := Nat.pow_le_pow_right (by decide) (by omega)
      rw [Nat.testBit_lt_two_pow (Nat.lt_of_lt_of_le ha e), Nat.testBit_lt_two_pow (Nat.lt_of_lt_of_le hb e)]
  obtain ⟨i, hi, q1, q2⟩ := hx
  have : ∀ n, i < n → pc a n < pc b n := by
    intro n
    induction n with
    | zero => intro h; omega
    | succ n ih =>
      intro hin
      rw [pc, pc, bit_tb, bit_tb]
      by_cases e : i = n
      · subst e
        have := pc_mono h i
        rw [q1, q2]; simp; omega
      · have := ih (by omega)
        have hh := h n
        by_cases q : a.testBit n = true
        · rw [if_pos q, if_pos (hh q)]; omega
        · rw [if_neg q]; omega
  exact this T hi
theorem pc_le (m n : Nat) : pc m n ≤ n := by
  induction n with
  | zero => exact Nat.le_refl _
  | succ n ih => rw [pc]; omega
def itP (p : Nat → Nat) (m : Nat) : Nat → Nat
  | 0 => m
  | k + 1 => p (itP p m k)
/-- after T less 1 rounds nothing more comes -/
theorem itP_fix {p : Nat → Nat} {T m : Nat} (hp : ∀ m, m < 2 ^ T → p m < 2 ^ T ∧ ∀ i, m.testBit i = true → (p m).testBit i = true) (hm : m < 2 ^ T) (h1 : 1 ≤ pc m T) (hT : 1 ≤ T) : p (itP p m (T - 1)) = itP p m (T - 1) := by
  have hlt : ∀ k, itP p m k < 2 ^ T := fun k => by
    induction k with
    | zero => exact hm
    | succ k ih => exact (hp _ ih).1
  have key : ∀ k, p (itP p m k) = itP p m k ∨ k + 1 ≤ pc (itP p m k) T := by
    intro k
    induction k with
    | zero => exact Or.inr h1
    | succ k ih =>
      by_cases e : p (itP p m k) = itP p m k
      · refine Or.inl ?_
        rw [itP, e]; exact e
      · refine Or.inr ?_
        rcases ih with ih | ih
        · exact absurd ih e
        · have := pc_strict (hp _ (hlt k)).2 T (hlt k) (hp _ (hlt k)).1 (fun q => e q.symm)
          rw [itP]; omega
  rcases key (T - 1) with h | h
  · exact h
  · refine Classical.byContradiction (fun hc => ?_)
    have := pc_strict (hp _ (hlt (T - 1))).2 T (hlt _) (hp _ (hlt _)).1 (fun q => hc q.symm)
    have := pc_le (p (itP p m (T - 1))) T
    omega
theorem ends_nat (h0 : 0 ≤ a) (h1 : a < 12) (h2 : 0 ≤ b) (h3 : b < 12) : or32 (shl32 1 a) (shl32 1 b) = ((2 ^ a.toNat ||| 2 ^ b.toNat : Nat) : Int) ∧ 2 ^ a.toNat ||| 2 ^ b.toNat < 4096 := by
  have ha : 2 ^ a.toNat < 2 ^ 12 := Nat.pow_lt_pow_right (by decide) (by omega)
  have hb : 2 ^ b.toNat < 2 ^ 12 := Nat.pow_lt_pow_right (by decide) (by omega)
  have ea := shl_nat (a := 1) (r := a.toNat) (by omega) (by omega)
  have eb := shl_nat (a := 1) (r := b.toNat) (by omega) (by omega)
  rw [Nat.one_mul, Int.toNat_of_nonneg h0] at ea
  rw [Nat.one_mul, Int.toNat_of_nonneg h2] at eb
  have ea : shl32 1 a = ((2 ^ a.toNat : Nat) : Int) := ea
  have eb : shl32 1 b = ((2 ^ b.toNat : Nat) : Int) := eb
  rw [ea, eb, or_nat (by omega) (by omega)]
  exact ⟨rfl, Nat.or_lt_two_pow (n := 12) ha hb⟩
theorem and_ends {m a b : Nat} : (m &&& (2 ^ a ||| 2 ^ b) = 0) ↔ ¬ (m.testBit a = true ∨ m.testBit b = true) := by
  constructor
  · intro h q
    have h2 : ∀ i, (m &&& (2 ^ a ||| 2 ^ b)).testBit i = false := fun i => by rw [h]; simp
    rcases q with q | q
    · have := h2 a
      rw [Nat.testBit_and, Nat.testBit_or, Nat.testBit_two_pow_self, q] at this; simp at this
    · have := h2 b
      rw [Nat.testBit_and, Nat.testBit_or, Nat.testBit_two_pow_self, q] at this; simp at this
  · intro h
    refine Nat.eq_of_testBit_eq (fun i => ?_)
    rw [Nat.testBit_and, Nat.testBit_or, Nat.testBit_two_pow, Nat.testBit_two_pow, Nat.zero_testBit]
    by_cases e1 : a = i
    · subst e1
      have : m.testBit a = false := by cases q : m.testBit a with
        | true => exact absurd (Or.inl q) h
        | false => rfl
      rw [this]; rfl
    · by_cases e2 : b = i
      · subst e2
        have : m.testBit b = false := by cases q : m.testBit b with
          | true => exact absurd (Or.inr q) h
          | false => rfl
        rw [this]; rfl
      · simp [e1, e2]
theorem or_ends {m a b : Nat} (h1 : m.testBit a = true) (h2 : m.testBit b = true) : m ||| (2 ^ a ||| 2 ^ b) = m := by
  refine Nat.eq_of_testBit_eq (fun i => ?_)
  rw [Nat.testBit_or, Nat.testBit_or, Nat.testBit_two_pow, Nat.testBit_two_pow]
  by_cases e1 : a = i
  · subst e1; rw [h1]; rfl
  · by_cases e2 : b = i
    · subst e2; rw [h2]; rfl
    · simp [e1, e2]
theorem cut_ends (X : Cx sh V S D) : ∀ r : Nat, r < (S 7).toNat → (S (8 + r)).toNat < 12 ∧ (S (32 + r)).toNat < 12 := fun r hr => by
  have := Cx_rd X (r := r) (by omega) (by omega)
  obtain ⟨r1, r2, -⟩ := Cx_rng X
  omega
theorem reach_T (X : Cx sh V S D) {m g : Nat} (hm : m < 4096) (hg : g < 16777216) (hu : ∀ r : Nat, (r : Int) < S 7 → u r = g.testBit r) {kk : Int → Int → Int → Int → Mem → Option (Int × Mem)} {v3 : Int} : ∀ (n z : Nat), (z : Int) ≤ S 7 → (S 7).toNat - z < n → Wo_reachable_L26 kk n 2 g (rpass S u z m : Nat) v3 z (sh, V) = kk 2 g (rpass S u (S 7).toNat m : Nat) v3 (sh, V) := by
  obtain ⟨r1, r2, r3, r4, r5, r6, r7⟩ := Cx_rng X
  intro n
  induction n with
  | zero => intro z _ h; omega
  | succ n ih =>
    intro z hz hn
    rw [Wo_reachable_L26]
    by_cases h : (z : Int) < S 7
    · have hi := ih (z + 1) (by omega) (by omega)
      have hd := Cx_rd X (r := z) (by omega) h
      obtain ⟨e1, e2⟩ := ends_nat (a := S (8 + z)) (b := S (32 + z)) (by omega) (by omega) (by omega) (by omega)
      have hl := rpass_lt (S := S) (u := u) (T := 12) (m := m) (by omega) z (fun r hr => cut_ends X r (by omega))
      have hb := bit_at (m := g) (r := z) (by omega) (by omega)
      rw [bit_tb, ← hu z h] at hb
      have g0 : 0 ≤ (z : Int) := by omega
      have ha := and_nat (a := rpass S u z m) (b := 2 ^ (S (8 + z)).toNat ||| 2 ^ (S (32 + z)).toNat) (by omega) (by omega)
      have ho := or_nat (a := rpass S u z m) (b := 2 ^ (S (8 + z)).toNat ||| 2 ^ (S (32 + z)).toNat) (by omega) (by omega)
      rw [rpass] at hi
      rw [b20 X, b37 X, if_pos h, b20 X, b38 X, bl4 X g0 h, b20 X, b39 X, bl5 X g0 h, e1, bd_mk, hb, ha, ho, w32_id (by omega) (by omega), bd_mk]
      by_cases q : u z = true
      · simp only [q, ↓reduceIte, Int.cast_ofNat_Int, Int.reduceEq, true_and] at hi ⊢
        by_cases q' : (rpass S u z m).testBit (S (8 + z)).toNat = true ∨ (rpass S u z m).testBit (S (32 + z)).toNat = true
        · rw [if_pos q'] at hi
          rw [if_neg (by intro e; exact and_ends.mp (by omega) q')]; exact hi
        · rw [if_neg q'] at hi
          rw [if_pos (by have := and_ends.mpr q'; omega)]; exact hi
      · simp only [q, ↓reduceIte, Int.cast_ofNat_Int, false_and] at hi ⊢
        exact hi
    · have : z = (S 7).toNat := by omega
      rw [b20 X, b37 X, if_neg h, this]
theorem bit_eq_tb {m z : Nat} (hm : m < 4096) (hz : z < 12) : and32 (shr32 (m : Int) (z : Int)) 1 = if m.testBit z = true then 1 else 0 := by
  have := bit_at (m := m) (r := z) (by omega) (by omega)
  rw [bit_tb] at this
  rw [this]; split <;> rfl
theorem reach_M (H : Sh sh) (P : PM V) (X : Cx sh V' S D) {m : Nat} (hm : m < 4096) (hu : ∀ r : Nat, (r : Int) < S 7 → u r = decide (S (128 + r) = 0 ∧ (r : Int) ≠ b)) {kk : Int → Int → Int → Int → Mem → Option (Int × Mem)} {v3 : Int} : ∀ (n z : Nat), (z : Int) ≤ S 7 → (S 7).toNat - z < n → M_reached_L21 kk n 101 b (rpass S u z m : Nat) v3 z (sh, setR V 102 S) = kk 101 b (rpass S u (S 7).toNat m : Nat) v3 (sh, setR V 102 S) := by
  obtain ⟨r1, r2, r3, r4, r5, r6, r7⟩ := Cx_rng X
  intro n
  induction n with
  | zero => intro z _ h; omega
  | succ n ih =>
    intro z hz hn
    rw [M_reached_L21]
    by_cases h : (z : Int) < S 7
    · have hi := ih (z + 1) (by omega) (by omega)
      have hd := Cx_rd X (r := z) (by omega) h
      obtain ⟨e1, e2⟩ := ends_nat (a := S (8 + z)) (b := S (32 + z)) (by omega) (by omega) (by omega) (by omega)
      have hl := rpass_lt (S := S) (u := u) (T := 12) (m := m) (by omega) z (fun r hr => cut_ends X r (by omega))
      have g0 : 0 ≤ (z : Int) := by omega
      have ho := or_nat (a := rpass S u z m) (b := 2 ^ (S (8 + z)).toNat ||| 2 ^ (S (32 + z)).toNat) (by omega) (by omega)
      have b1 := bit_eq_tb (m := rpass S u z m) (z := (S (8 + z)).toNat) (by omega) (by omega)
      have b2 := bit_eq_tb (m := rpass S u z m) (z := (S (32 + z)).toNat) (by omega) (by omega)
      rw [Int.toNat_of_nonneg (by omega)] at b1 b2
      rw [rpass, hu z h] at hi
      rw [bg101 H, blp P H (by decide) (by decide), if_pos h, w32_id (by omega) (by omega)]
      by_cases q : (z : Int) = b
      · rw [if_pos q]; rw [if_neg (by simp [q])] at hi; exact hi
      · rw [if_neg q, bi101 H, M_isOpen_b H P g0 (by omega)]
        by_cases q2 : S (128 + (z : Int)) = 0
        · rw [B_t q2, if_neg (c := (1 : Int) = 0) (by decide), bg101 H, w32_id (x := 8 + (z : Int)) (by omega) (by omega), blp P H (by omega) (by omega), bg101 H, w32_id (x := 32 + (z : Int)) (by omega) (by omega), blp P H (by omega) (by omega), b1, b2, bg101 H, blp P H (by omega) (by omega), bg101 H, blp P H (by omega) (by omega), e1, ho, bd_mk]
          rw [show decide (S (128 + (z : Int)) = 0 ∧ (z : Int) ≠ b) = true by simp [q, q2]] at hi
          simp only [true_and] at hi
          by_cases c1 : (rpass S u z m).testBit (S (8 + z)).toNat = true
          · by_cases c2 : (rpass S u z m).testBit (S (32 + z)).toNat = true
            · rw [if_pos (Or.inl c1), or_ends c1 c2] at hi
              rw [if_pos (by rw [c1, c2])]; exact hi
            · rw [if_pos (Or.inl c1)] at hi
              rw [if_neg (by rw [if_pos c1, if_neg c2]; decide)]; exact hi
          · by_cases c2 : (rpass S u z m).testBit (S (32 + z)).toNat = true
            · rw [if_pos (Or.inr c2)] at hi
              rw [if_neg (by rw [if_neg c1, if_pos c2]; decide)]; exact hi
            · rw [if_neg (by rintro (c | c); exact c1 c; exact c2 c)] at hi
              rw [if_pos (by rw [if_neg c1, if_neg c2])]; exact hi
        · rw [B_f q2, if_pos rfl]
          rw [if_neg (by simp [q2])] at hi; exact hi
    · have : z = (S 7).toNat := by omega
      rw [bg101 H, blp P H (by decide) (by decide), if_neg h, this]
theorem shl1 (h0 : 0 ≤ a) (h1 : a < 31) : shl32 1 a = ((2 ^ a.toNat : Nat) : Int) := by
  have hp : 2 ^ a.toNat < 2 ^ 31 := Nat.pow_lt_pow_right (by decide) (by omega)
  have e := shl_nat (a := 1) (r := a.toNat) (by omega) (by omega)
  rw [Int.toNat_of_nonneg h0, Nat.one_mul] at e
  exact e
/-- the towns reached by roads in u -/
def reachS (S : Int → Int) (u : Nat → Bool) : Nat := itP (rpass S u (S 7).toNat) (2 ^ (S 1).toNat) ((S 0).toNat - 1)
theorem rpass_T (X : Cx sh V S D) : ∀ m, m < 2 ^ (S 0).toNat → rpass S u (S 7).toNat m < 2 ^ (S 0).toNat ∧ ∀ i, m.testBit i = true → (rpass S u (S 7).toNat m).testBit i = true := fun m hm => ⟨rpass_lt hm _ (fun r hr => by
    have := Cx_rd X (r := r) (by omega) (by omega); omega), fun i h => rpass_sub _ i h⟩
theorem itP_lt (X : Cx sh V S D) (h1 : 0 ≤ S 1) (h2 : S 1 < S 0) : ∀ k, itP (rpass S u (S 7).toNat) (2 ^ (S 1).toNat) k < 2 ^ (S 0).toNat := fun k => by
  induction k with
  | zero => exact Nat.pow_lt_pow_right (by decide) (by omega)
  | succ k ih => exact (rpass_T X _ ih).1
theorem Wo_reachable_x (X : Cx sh V S D) {g : Nat} (hg : g < 16777216) (hu : ∀ r : Nat, (r : Int) < S 7 → u r = g.testBit r) (h1 : 0 ≤ S 1) (h2 : S 1 < S 0) : Wo_reachable 2 g (sh, V) = some (((reachS S u : Nat) : Int), (sh, V)) := by
  obtain ⟨r1, r2, r3, r4, r5, r6, r7⟩ := Cx_rng X
  have hlt := itP_lt (u := u) X h1 h2
  have h12 : 2 ^ (S 0).toNat ≤ 2 ^ 12 := Nat.pow_le_pow_right (by decide) (by omega)
  have L : ∀ (n z : Nat), 1 ≤ z → (z : Int) ≤ S 0 → (S 0).toNat - z < n → Wo_reachable_L12 n 2 g (itP (rpass S u (S 7).toNat) (2 ^ (S 1).toNat) (z - 1) : Nat) z (sh, V) = some (((reachS S u : Nat) : Int), (sh, V)) := by
    intro n
    induction n with
    | zero => intro z _ _ h; omega
    | succ n ih =>
      intro z hz0 hz hn
      rw [Wo_reachable_L12, b20 X, b30 X]
      by_cases h : (z : Int) < S 0
      · have hi := ih (z + 1) (by omega) (by omega) (by omega)
        have := hlt (z - 1)
        have e := reach_T (m := itP (rpass S u (S 7).toNat) (2 ^ (S 1).toNat) (z - 1)) (kk := fun x3 x4 x5 x6 μ7 => Wo_reachable_L12 n x3 x4 x5 (w32 (x6 + 1)) μ7) (v3 := z) X (by omega) hg hu FU 0 (by omega) (by show _ < 1000000; omega)
        rw [rpass, show ((0 : Nat) : Int) = 0 from rfl] at e
        rw [if_pos h, e, w32_id (by omega) (by omega)]
        rw [show z + 1 - 1 = (z - 1) + 1 by omega, itP] at hi
        exact hi
      · rw [if_neg h]; unfold reachS; rw [show z - 1 = (S 0).toNat - 1 by omega]
  unfold Wo_reachable
  rw [b20 X, b31 X, shl1 h1 (by omega), bd_mk]
  exact L FU 1 (by omega) (by omega) (by show _ < 1000000; omega)
theorem M_reached_x (H : Sh sh) (P : PM V) (X : Cx sh V' S D) (hu : ∀ r : Nat, (r : Int) < S 7 → u r = decide (S (128 + r) = 0 ∧ (r : Int) ≠ b)) (h1 : 0 ≤ S 1) (h2 : S 1 < S 0) : M_reached 101 b (sh, setR V 102 S) = some (((reachS S u : Nat) : Int), (sh, setR V 102 S)) := by
  obtain ⟨r1, r2, r3, r4, r5, r6, r7⟩ := Cx_rng X
  have hlt := itP_lt (u := u) X h1 h2
  have h12 : 2 ^ (S 0).toNat ≤ 2 ^ 12 := Nat.pow_le_pow_right (by decide) (by omega)
  have hpc : 1 ≤ pc (2 ^ (S 1).toNat) (S 0).toNat := by
    have := pc_strict (a := 0) (b := 2 ^ (S 1).toNat) (fun i h => by simp at h) (S 0).toNat (Nat.two_pow_pos _) (Nat.pow_lt_pow_right (by decide) (by omega)) (by have := Nat.two_pow_pos (S 1).toNat; omega)
    omega
  have hfix := itP_fix (p := rpass S u (S 7).toNat) (T := (S 0).toNat) (m := 2 ^ (S 1).toNat) (rpass_T X) (hlt 0) hpc (by omega)
  have hst : ∀ k j, itP (rpass S u (S 7).toNat) (2 ^ (S 1).toNat) (k + 1) = itP (rpass S u (S 7).toNat) (2 ^ (S 1).toNat) k → itP (rpass S u (S 7).toNat) (2 ^ (S 1).toNat) (k + j) = itP (rpass S u (S 7).toNat) (2 ^ (S 1).toNat) k := by
    intro k j e
    induction j with
    | zero => rfl
    | succ j ihj => rw [← Nat.add_assoc, itP, ihj]; exact e
  have L : ∀ (n k : Nat), k < (S 0).toNat → (S 0).toNat - k < n → M_reached_L11 n 101 b (itP (rpass S u (S 7).toNat) (2 ^ (S 1).toNat) (k + 1) : Nat) (itP (rpass S u (S 7).toNat) (2 ^ (S 1).toNat) k : Nat) (sh, setR V 102 S) = some (((reachS S u : Nat) : Int), (sh, setR V 102 S)) := by
    intro n
    induction n with
    | zero => intro k _ h; omega
    | succ n ih =>
      intro k hk hn
      rw [M_reached_L11]
      by_cases e : itP (rpass S u (S 7).toNat) (2 ^ (S 1).toNat) (k + 1) = itP (rpass S u (S 7).toNat) (2 ^ (S 1).toNat) k
      · rw [if_pos (by rw [e])]
        have := hst k ((S 0).toNat - 1 - k) e
        rw [show k + ((S 0).toNat - 1 - k) = (S 0).toNat - 1 by omega] at this
        unfold reachS; rw [this, e]
      · rw [if_neg (by omega)]
        have hk' : k + 1 < (S 0).toNat := by
          refine Classical.byContradiction (fun hc => e ?_)
          rw [show k = (S 0).toNat - 1 by omega]; exact hfix
        have := hlt (k + 1)
        have e2 := reach_M (u := u) (b := b) (m := itP (rpass S u (S 7).toNat) (2 ^ (S 1).toNat) (k + 1)) (kk := fun x1 x2 x3 x4 μ5 => M_reached_L11 n x1 x2 x3 x4 μ5) (v3 := (itP (rpass S u (S 7).toNat) (2 ^ (S 1).toNat) (k + 1) : Nat)) H P X (by omega) hu FU 0 (by omega) (by show _ < 1000000; omega)
        rw [rpass, show ((0 : Nat) : Int) = 0 from rfl] at e2
        rw [e2]
        exact ih (k + 1) hk' (by omega)
  unfold M_reached
  rw [bg101 H, blp P H (by decide) (by decide), shl1 h1 (by omega), bd_mk, show FU = 999999 + 1 from rfl, M_reached_L11, if_neg (by have := Nat.two_pow_pos (S 1).toNat; omega)]
  have := hlt 0
  have e2 := reach_M (u := u) (b := b) (m := 2 ^ (S 1).toNat) (kk := fun x1 x2 x3 x4 μ5 => M_reached_L11 999999 x1 x2 x3 x4 μ5) (v3 := (2 ^ (S 1).toNat : Nat)) H P X (by rw [itP] at this; omega) hu FU 0 (by omega) (by show _ < 1000000; omega)
  rw [rpass, show ((0 : Nat) : Int) = 0 from rfl] at e2
  rw [e2]
  exact L 999999 0 (by omega) (by omega)
theorem openRoads_x (X : Cx sh V S D) : ∃ g : Nat, g < 16777216 ∧ Wo_openRoads 2 (sh, V) = some ((g : Int), (sh, V)) ∧ ∀ r : Nat, (r : Int) < S 7 → g.testBit r = decide (S (128 + r) = 0) := by
  obtain ⟨r1, r2, r3, r4, r5, r6, r7⟩ := Cx_rng X
  obtain ⟨c1, c2, c3⟩ := X.2.2.1.2.1
  have hp : 2 ^ (S 7).toNat ≤ 2 ^ 24 := Nat.pow_le_pow_right (by decide) (by omega)
  have hp0 := Nat.two_pow_pos (S 7).toNat
  obtain ⟨g, g1, g2, g3⟩ := and_not (m := 2 ^ (S 7).toNat - 1) (x := (V 2 4).toNat) (by omega) (by omega)
  refine ⟨g, by omega, ?_, fun r hr => ?_⟩
  · unfold Wo_openRoads
    rw [b20 X, b37 X, bgt (by rw [k_2 X.1]), shl1 r3 (by omega), w32_id (by omega) (by omega), ← g1, Int.toNat_of_nonneg c1]
    congr 3; omega
  · have hb := c3 r (by omega) (by omega)
    rw [if_pos hr, bitI_tb, Int.toNat_natCast] at hb
    rw [g3, Nat.testBit_two_pow_sub_one]
    have : r < (S 7).toNat := by omega
    by_cases q : (V 2 4).toNat.testBit r = true
    · rw [if_pos q] at hb
      rw [q, ← hb]; simp
    · rw [if_neg q] at hb
      have q' : (V 2 4).toNat.testBit r = false := by simpa using q
      rw [q', ← hb]; simp [this]
theorem ro_cutOff (X : Cx sh V S D) (P : PM V2) : RO sh V V2 S (T_cutOff 0 r (sh, V)) (M_cutOff 101 r (sh, setR V2 102 S)) := by
  have P1 := PM0 P
  have H := X.1
  obtain ⟨r1, r2, r3, r4, r5, r6, r7⟩ := Cx_rng X
  unfold T_cutOff M_cutOff
  rw [bp101 H, b04 X, b20 X, bi3 X, x_hasRoad X, bi101 H, M_isRoad_b H P1 r3 r4]
  by_cases h : 0 ≤ r ∧ r < S 7
  · have hK := X.2.2.2.1.1
    have z0 : 0 < S 0 := by
      have := Cx_rd X h.1 h.2; omega
    obtain ⟨h1, h2⟩ := hK.2.2.2.2.2.2.2.2.2.2.2.2.1 z0
    obtain ⟨g, g1, g2, g3⟩ := openRoads_x X
    have hp : 2 ^ r.toNat < 2 ^ 24 := Nat.pow_lt_pow_right (by decide) (by omega)
    obtain ⟨g', q1, q2, q3⟩ := and_not (m := g) (x := 2 ^ r.toNat) (by omega) (by omega)
    rw [B_t h, if_neg (c := (1 : Int) = 0) (by decide), if_neg (c := (1 : Int) = 0) (by decide), b04 X, b04 X, bi2 X, g2, bd2_mk, bi2 X, Wo_reachable_x (u := fun z : Nat => decide (S (128 + (z : Int)) = 0 ∧ (z : Int) ≠ -1)) X g1 (fun z hz => by rw [g3 z hz]; simp) h1 h2, bd2_mk, b04 X, b04 X, bi2 X, g2, bd2_mk, bi2 X, shl1 h.1 (by omega), q1, Wo_reachable_x (u := fun z : Nat => decide (S (128 + (z : Int)) = 0 ∧ (z : Int) ≠ r)) X (by omega) (fun z hz => by
      rw [q3, g3 z hz, Nat.testBit_two_pow]
      by_cases e : r.toNat = z
      · have : (z : Int) = r := by omega
        simp [e, this]
      · have : ¬ (z : Int) = r := by omega
        simp [e, this]) h1 h2, bd2_mk, bi101 H, M_reached_x (b := -1) (u := fun z : Nat => decide (S (128 + (z : Int)) = 0 ∧ (z : Int) ≠ -1)) H P1 X (fun z hz => rfl) h1 h2, bd2_mk, bi101 H, M_reached_x (b := r) (u := fun z : Nat => decide (S (128 + (z : Int)) = 0 ∧ (z : Int) ≠ r)) H P1 X (fun z hz => rfl) h1 h2, bd2_mk]
    exact ⟨_, rfl, rfl⟩
  · rw [B_f h, if_pos (c := (0 : Int) = 0) rfl, if_pos (c := (0 : Int) = 0) rfl]; exact ⟨_, rfl, rfl⟩
end CUT
