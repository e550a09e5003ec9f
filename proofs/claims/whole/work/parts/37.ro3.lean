/-! PURE: blocked, from, when, count -/
section RO3
variable {sh : List (Nat × Nat)} {V V' V2 : Int → Int → Int} {r t m s c i j d k x a b y D f p : Int} {S S' : Int → Int} {n : Nat}
/-! blocked -/
def blk (S : Int → Int) (i : Int) : Nat → Int
  | 0 => 0
  | k + 1 => if S (128 + S (189 + (40 * i + k)) / 2) = 0 then blk S i k else k + 1
theorem blk_T (X : Cx sh V S D) (h0 : 0 ≤ i) (h1 : i < S 152) : ∀ (n z : Nat), (z : Int) ≤ S (171 + i) → z < n → T_blocked_L31 n 0 (11 + 4 * i) ((z : Int) - 1) (sh, V) = some (blk S i z, (sh, V)) := by
  obtain ⟨r1, r2, r3, r4, r5, r6, r7⟩ := Cx_rng X
  obtain ⟨t1, t2, t3, t4, t5, t6, t7⟩ := Cx_tr X h0 h1
  intro n
  induction n with
  | zero => intro z _ h; omega
  | succ n ih =>
    intro z hz hn
    rw [T_blocked_L31]
    rcases z with _ | z
    · rw [if_pos (by omega)]; rfl
    · rw [if_neg (by omega), show (((z + 1 : Nat) : Int) - 1) = (z : Int) by omega]
      have hs := t7 z (by omega) (by omega)
      have e := shr1 hs.1 (by omega)
      rw [b04 X, bm X h0 h1 (by omega) (by omega), bi2 X, e, x_isOpen X (by omega) (by omega)]
      simp only [B_0, ite_not, blk]
      by_cases q : S (128 + S (189 + (40 * i + z)) / 2) = 0
      · rw [if_pos q, if_pos q, w32_id (by omega) (by omega)]
        exact ih z (by omega) (by omega)
      · rw [if_neg q, if_neg q, w32_id (by omega) (by omega)]
theorem blk_M (H : Sh sh) (P : PM V) (O : SOk S D) (h0 : 0 ≤ i) (h1 : i < S 152) : ∀ (n z : Nat), (z : Int) ≤ S (171 + i) → (S (171 + i)).toNat - z < n → M_blocked_L20 n 101 i (blk S i z) (z : Int) (sh, setR V 102 S) = some (blk S i (S (171 + i)).toNat, (sh, setR V 102 S)) := by
  have o3 := O.2.2.1
  have z4 := O.1.2.2.2.1
  obtain ⟨t1, t2, t3, t4, t5, t6, t7⟩ := O.2.2.2.1 i h0 h1
  intro n
  induction n with
  | zero => intro z _ h; omega
  | succ n ih =>
    intro z hz hn
    rw [M_blocked_L20]
    by_cases h : (z : Int) < S (171 + i)
    · have hs := t7 z (by omega) (by omega)
      have hi := ih (z + 1) (by omega) (by omega)
      rw [blk] at hi
      by_cases q : S (128 + S (189 + (40 * i + z)) / 2) = 0
      · rw [if_pos q] at hi
        simp (disch := first | assumption | omega | (simp (disch := first | omega | decide) only [w32_id, upS_eq, upS_ne, PM_row, PM_fld]; first | assumption | omega)) only [Int.reduceEq, Int.reduceLT, Int.reduceLE, Int.reduceAdd, Int.reduceSub, Int.reduceNeg, Int.reduceMul, ↓bd_mk, ↓bd2_mk, ↓bg101, ↓bp101, ↓bi101, ↓bl102, ↓bs102, ↓blp, ↓bsp, ↓bdiv, ↓brem, ↓bokz, ↓M_slipAt_b, ↓M_within_b, ↓reduceIte, upS_eq, upS_ne, w32_id, w64_id, if_some2, B_0, B_1, okz_B, ite_not, h, q, ↓M_isOpen_b]; exact hi
      · rw [if_neg q] at hi
        simp (disch := first | assumption | omega | (simp (disch := first | omega | decide) only [w32_id, upS_eq, upS_ne, PM_row, PM_fld]; first | assumption | omega)) only [Int.reduceEq, Int.reduceLT, Int.reduceLE, Int.reduceAdd, Int.reduceSub, Int.reduceNeg, Int.reduceMul, ↓bd_mk, ↓bd2_mk, ↓bg101, ↓bp101, ↓bi101, ↓bl102, ↓bs102, ↓blp, ↓bsp, ↓bdiv, ↓brem, ↓bokz, ↓M_slipAt_b, ↓M_within_b, ↓reduceIte, upS_eq, upS_ne, w32_id, w64_id, if_some2, B_0, B_1, okz_B, ite_not, h, q, ↓M_isOpen_b]; exact hi
    · have : z = (S (171 + i)).toNat := by omega
      simp (disch := first | assumption | omega | (simp (disch := first | omega | decide) only [w32_id, upS_eq, upS_ne, PM_row, PM_fld]; first | assumption | omega)) only [Int.reduceEq, Int.reduceLT, Int.reduceLE, Int.reduceAdd, Int.reduceSub, Int.reduceNeg, Int.reduceMul, ↓bd_mk, ↓bd2_mk, ↓bg101, ↓bp101, ↓bi101, ↓bl102, ↓bs102, ↓blp, ↓bsp, ↓bdiv, ↓brem, ↓bokz, ↓M_slipAt_b, ↓M_within_b, ↓reduceIte, upS_eq, upS_ne, w32_id, w64_id, if_some2, B_0, B_1, okz_B, ite_not, h]; rw [this]
theorem ro_blocked (X : Cx sh V S D) (P : PM V2) : RO sh V V2 S (T_blocked 0 i (sh, V)) (M_blocked 101 i (sh, setR V2 102 S)) := by
  have P1 := PM0 P
  obtain ⟨r1, r2, r3, r4, r5, r6, r7⟩ := Cx_rng X
  unfold T_blocked M_blocked
  rw [bp101 X.1, b04 X, bi2 X, x_hasTr X, bi101 X.1, M_isOne_b X.1 P1 r5 r6]
  by_cases h : 0 ≤ i ∧ i < S 152
  · obtain ⟨t1, t2, t3, t4, t5, t6, t7⟩ := Cx_tr X h.1 h.2
    rw [B_t h, if_neg (by decide), if_neg (by decide), b04 X, b21 X, b9 X h.1 h.2, bt5 X h.1 h.2, w32_id (by omega) (by omega), bd_mk]
    have e1 := blk_T X h.1 h.2 FU (S (171 + i)).toNat (by omega) (by show _ < 1000000; omega)
    have e2 := blk_M X.1 P1 X.2.2.2.1 h.1 h.2 FU 0 (by omega) (by show _ < 1000000; omega)
    rw [Int.toNat_of_nonneg t1] at e1
    exact ⟨_, e1, e2⟩
  · rw [B_f h, if_pos rfl, if_pos rfl]; exact ⟨_, rfl, rfl⟩
/-! from -/
def opM (S : Int → Int) (t : Int) : Nat → Nat
  | 0 => 0
  | r + 1 => if S (128 + r) = 0 ∧ (S (8 + r) = t ∨ S (32 + r) = t) then opM S t r + 2 ^ r else opM S t r
theorem opM_lt (r : Nat) : opM S t r < 2 ^ r := by
  induction r with
  | zero => simp [opM]
  | succ r ih => rw [opM, Nat.pow_succ]; split <;> omega
theorem or_pow {m r : Nat} (hm : m < 2 ^ r) (hr : r < 31) : or32 (m : Int) (shl32 1 (r : Int)) = ((m + 2 ^ r : Nat) : Int) := by
  have hp : 2 ^ r < 2 ^ 31 := Nat.pow_lt_pow_right (by decide) hr
  have e := shl_nat (a := 1) (r := r) (by omega) (by omega)
  rw [Nat.one_mul] at e
  have e : shl32 1 (r : Int) = ((2 ^ r : Nat) : Int) := e
  rw [e, or_nat (by omega) (by omega)]
  have := Nat.two_pow_add_eq_or_of_lt hm 1
  rw [Nat.mul_one] at this
  rw [Nat.or_comm, ← this]; congr 1; omega
theorem or_0 {m : Nat} (hm : m < 2147483648) : or32 (m : Int) 0 = (m : Int) := by
  have := or_nat (a := m) (b := 0) hm (by decide)
  rw [Nat.or_zero] at this; exact this
theorem opM_T (X : Cx sh V S D) : ∀ (n z : Nat), (z : Int) ≤ S 7 → (S 7).toNat - z < n → Wo_openRoadsAt_L4 n 2 t (opM S t z : Nat) (z : Int) (sh, V) = some (((opM S t (S 7).toNat : Nat) : Int), (sh, V)) := by
  obtain ⟨r1, r2, r3, r4, r5, r6, r7⟩ := Cx_rng X
  intro n
  induction n with
  | zero => intro z _ h; omega
  | succ n ih =>
    intro z hz hn
    rw [Wo_openRoadsAt_L4]
    by_cases h : (z : Int) < S 7
    · have hi := ih (z + 1) (by omega) (by omega)
      rw [opM] at hi
      have ho := or_pow (opM_lt (S := S) (t := t) z) (by omega)
      have h0 : 0 ≤ (z : Int) := by omega
      by_cases q : S (128 + z) = 0
      · by_cases q' : S (8 + z) = t ∨ S (32 + z) = t
        · rw [if_pos ⟨q, q'⟩] at hi
          simp (disch := first | assumption | omega) only [↓b04 X, ↓b06 X, ↓b21 X, ↓b20 X, ↓b22 X, ↓b23 X, ↓b9 X, ↓bi2 X, ↓bi3 X, ↓b30 X, ↓b31 X, ↓b32 X, ↓b33 X, ↓b36 X, ↓b37 X, ↓b38 X, ↓b39 X, ↓b3a X, ↓b3b X, ↓b3c X, ↓bl4 X, ↓bl5 X, ↓bl6 X, ↓bl7 X, ↓bl8 X, ↓bt0 X, ↓bt1 X, ↓bt2 X, ↓bt3 X, ↓bt4 X, ↓bt5 X, ↓bit6 X, ↓bm X, ↓bs X, ↓bc X, ↓x_hasTr X, ↓x_hasRoad X, ↓x_isOpen X, ↓x_leads X, ↓x_markOf X, ↓x_startOf X, ↓x_endOf X, ↓x_isSummer X, ↓x_tollOn X, ↓x_isLate X, ↓x_worthOn X, ↓x_hasTown X, ↓x_across X, ↓x_hasPair X, ↓bd_mk, ↓bd2_mk, ↓reduceIte, w32_id, B_0, B_1, ite_not, if_some2, h, q, q', ho]; exact hi
        · rw [if_neg (fun z => q' z.2)] at hi
          simp (disch := first | assumption | omega) only [↓b04 X, ↓b06 X, ↓b21 X, ↓b20 X, ↓b22 X, ↓b23 X, ↓b9 X, ↓bi2 X, ↓bi3 X, ↓b30 X, ↓b31 X, ↓b32 X, ↓b33 X, ↓b36 X, ↓b37 X, ↓b38 X, ↓b39 X, ↓b3a X, ↓b3b X, ↓b3c X, ↓bl4 X, ↓bl5 X, ↓bl6 X, ↓bl7 X, ↓bl8 X, ↓bt0 X, ↓bt1 X, ↓bt2 X, ↓bt3 X, ↓bt4 X, ↓bt5 X, ↓bit6 X, ↓bm X, ↓bs X, ↓bc X, ↓x_hasTr X, ↓x_hasRoad X, ↓x_isOpen X, ↓x_leads X, ↓x_markOf X, ↓x_startOf X, ↓x_endOf X, ↓x_isSummer X, ↓x_tollOn X, ↓x_isLate X, ↓x_worthOn X, ↓x_hasTown X, ↓x_across X, ↓x_hasPair X, ↓bd_mk, ↓bd2_mk, ↓reduceIte, w32_id, B_0, B_1, ite_not, if_some2, h, q, q']; exact hi
      · rw [if_neg (fun z => q z.1)] at hi
        simp (disch := first | assumption | omega) only [↓b04 X, ↓b06 X, ↓b21 X, ↓b20 X, ↓b22 X, ↓b23 X, ↓b9 X, ↓bi2 X, ↓bi3 X, ↓b30 X, ↓b31 X, ↓b32 X, ↓b33 X, ↓b36 X, ↓b37 X, ↓b38 X, ↓b39 X, ↓b3a X, ↓b3b X, ↓b3c X, ↓bl4 X, ↓bl5 X, ↓bl6 X, ↓bl7 X, ↓bl8 X, ↓bt0 X, ↓bt1 X, ↓bt2 X, ↓bt3 X, ↓bt4 X, ↓bt5 X, ↓bit6 X, ↓bm X, ↓bs X, ↓bc X, ↓x_hasTr X, ↓x_hasRoad X, ↓x_isOpen X, ↓x_leads X, ↓x_markOf X, ↓x_startOf X, ↓x_endOf X, ↓x_isSummer X, ↓x_tollOn X, ↓x_isLate X, ↓x_worthOn X, ↓x_hasTown X, ↓x_across X, ↓x_hasPair X, ↓bd_mk, ↓bd2_mk, ↓reduceIte, w32_id, B_0, B_1, ite_not, if_some2, h, q]; exact hi
    · have : z = (S 7).toNat := by omega
      simp (disch := first | assumption | omega) only [↓b04 X, ↓b06 X, ↓b21 X, ↓b20 X, ↓b22 X, ↓b23 X, ↓b9 X, ↓bi2 X, ↓bi3 X, ↓b30 X, ↓b31 X, ↓b32 X, ↓b33 X, ↓b36 X, ↓b37 X, ↓b38 X, ↓b39 X, ↓b3a X, ↓b3b X, ↓b3c X, ↓bl4 X, ↓bl5 X, ↓bl6 X, ↓bl7 X, ↓bl8 X, ↓bt0 X, ↓bt1 X, ↓bt2 X, ↓bt3 X, ↓bt4 X, ↓bt5 X, ↓bit6 X, ↓bm X, ↓bs X, ↓bc X, ↓x_hasTr X, ↓x_hasRoad X, ↓x_isOpen X, ↓x_leads X, ↓x_markOf X, ↓x_startOf X, ↓x_endOf X, ↓x_isSummer X, ↓x_tollOn X, ↓x_isLate X, ↓x_worthOn X, ↓x_hasTown X, ↓x_across X, ↓x_hasPair X, ↓bd_mk, ↓bd2_mk, ↓reduceIte, w32_id, B_0, B_1, ite_not, if_some2, h]; rw [this]
theorem Wo_openRoadsAt_eq (X : Cx sh V S D) : Wo_openRoadsAt 2 t (sh, V) = some (((opM S t (S 7).toNat : Nat) : Int), (sh, V)) := by
  obtain ⟨r1, r2, r3, r4, r5, r6, r7⟩ := Cx_rng X
  unfold Wo_openRoadsAt
  exact opM_T X FU 0 (by omega) (by show _ < 1000000; omega)
theorem Wo_openRoadsAt_b (X : Cx sh V S D) {γ : Type} {fZ : Int → Mem → Option γ} : bd2 (Wo_openRoadsAt 2 t (sh, V)) fZ = fZ (((opM S t (S 7).toNat : Nat) : Int)) (sh, V) := by
  rw [Wo_openRoadsAt_eq] <;> first | assumption | rfl
theorem opM_M (H : Sh sh) (P : PM V) (O : SOk S D) : ∀ (n z : Nat), (z : Int) ≤ S 7 → (S 7).toNat - z < n → M_from_L30 n 101 t (opM S t z : Nat) (z : Int) (sh, setR V 102 S) = some (((opM S t (S 7).toNat : Nat) : Int), (sh, setR V 102 S)) := by
  have z4 := O.1.2.2.2.1
  intro n
  induction n with
  | zero => intro z _ h; omega
  | succ n ih =>
    intro z hz hn
    rw [M_from_L30]
    by_cases h : (z : Int) < S 7
    · have hi := ih (z + 1) (by omega) (by omega)
      rw [opM] at hi
      have hl := opM_lt (S := S) (t := t) z
      have hp : 2 ^ z < 2 ^ 31 := Nat.pow_lt_pow_right (by decide) (by omega)
      have ho := or_pow hl (by omega)
      have ho' := or_0 (m := opM S t z) (by omega)
      have h0 : 0 ≤ (z : Int) := by omega
      by_cases q : S (128 + z) = 0
      · by_cases q' : S (8 + z) = t ∨ S (32 + z) = t
        · rw [if_pos ⟨q, q'⟩] at hi
          simp (disch := first | assumption | omega | (simp (disch := first | omega | decide) only [w32_id, upS_eq, upS_ne, PM_row, PM_fld]; first | assumption | omega)) only [Int.reduceEq, Int.reduceLT, Int.reduceLE, Int.reduceAdd, Int.reduceSub, Int.reduceNeg, Int.reduceMul, ↓bd_mk, ↓bd2_mk, ↓bg101, ↓bp101, ↓bi101, ↓bl102, ↓bs102, ↓blp, ↓bsp, ↓bdiv, ↓brem, ↓bokz, ↓M_slipAt_b, ↓M_within_b, ↓reduceIte, upS_eq, upS_ne, w32_id, w64_id, if_some2, B_0, B_1, okz_B, ite_not, h, q, q', ho, ↓M_isOpen_b, ↓M_leads_b]; exact hi
        · rw [if_neg (fun z => q' z.2)] at hi
          simp (disch := first | assumption | omega | (simp (disch := first | omega | decide) only [w32_id, upS_eq, upS_ne, PM_row, PM_fld]; first | assumption | omega)) only [Int.reduceEq, Int.reduceLT, Int.reduceLE, Int.reduceAdd, Int.reduceSub, Int.reduceNeg, Int.reduceMul, ↓bd_mk, ↓bd2_mk, ↓bg101, ↓bp101, ↓bi101, ↓bl102, ↓bs102, ↓blp, ↓bsp, ↓bdiv, ↓brem, ↓bokz, ↓M_slipAt_b, ↓M_within_b, ↓reduceIte, upS_eq, upS_ne, w32_id, w64_id, if_some2, B_0, B_1, okz_B, ite_not, h, q, q', ho', ↓M_isOpen_b, ↓M_leads_b]; exact hi
      · rw [if_neg (fun z => q z.1)] at hi
        simp (disch := first | assumption | omega | (simp (disch := first | omega | decide) only [w32_id, upS_eq, upS_ne, PM_row, PM_fld]; first | assumption | omega)) only [Int.reduceEq, Int.reduceLT, Int.reduceLE, Int.reduceAdd, Int.reduceSub, Int.reduceNeg, Int.reduceMul, ↓bd_mk, ↓bd2_mk, ↓bg101, ↓bp101, ↓bi101, ↓bl102, ↓bs102, ↓blp, ↓bsp, ↓bdiv, ↓brem, ↓bokz, ↓M_slipAt_b, ↓M_within_b, ↓reduceIte, upS_eq, upS_ne, w32_id, w64_id, if_some2, B_0, B_1, okz_B, ite_not, h, q, ho', ↓M_isOpen_b, ↓M_leads_b]; exact hi
    · have : z = (S 7).toNat := by omega
      simp (disch := first | assumption | omega | (simp (disch := first | omega | decide) only [w32_id, upS_eq, upS_ne, PM_row, PM_fld]; first | assumption | omega)) only [Int.reduceEq, Int.reduceLT, Int.reduceLE, Int.reduceAdd, Int.reduceSub, Int.reduceNeg, Int.reduceMul, ↓bd_mk, ↓bd2_mk, ↓bg101, ↓bp101, ↓bi101, ↓bl102, ↓bs102, ↓blp, ↓bsp, ↓bdiv, ↓brem, ↓bokz, ↓M_slipAt_b, ↓M_within_b, ↓reduceIte, upS_eq, upS_ne, w32_id, w64_id, if_some2, B_0, B_1, okz_B, ite_not, h]; rw [this]
theorem ro_from (X : Cx sh V S D) (P : PM V2) : RO sh V V2 S (T_from 0 t (sh, V)) (M_from 101 t (sh, setR V2 102 S)) := by
  have P1 := PM0 P
  obtain ⟨r1, r2, r3, r4, r5, r6, r7⟩ := Cx_rng X
  unfold T_from M_from
  rw [bp101 X.1, b04 X, b20 X, bi3 X, x_hasTown X, bg101 X.1, blp P1 X.1 (by decide) (by decide), w32_id (by omega) (by omega), M_within_b]
  by_cases h : 0 ≤ t ∧ t < S 0
  · rw [B_t h, B_t (by omega), if_neg (by decide), if_neg (by decide), b04 X, bi2 X, Wo_openRoadsAt_b X]
    exact ⟨_, rfl, opM_M X.1 P1 X.2.2.2.1 FU 0 (by omega) (by show _ < 1000000; omega)⟩
  · rw [B_f h, B_f (by omega), if_pos rfl, if_pos rfl]; exact ⟨_, rfl, rfl⟩
/-! when -/
theorem sToll_two : sToll S r d = S (80 + r) ∨ sToll S r d = S (56 + r) := by unfold sToll; split <;> simp
theorem when_stay (H : Sh sh) (P : PM V) (h0 : 0 ≤ r) (h1 : r < 24) (hd : 0 ≤ d) (hd' : d ≤ 99999) (hb : 0 ≤ b) (hb' : b < 200000) (hl : sToll S r b ≤ S (56 + r) ∧ sToll S r b ≤ S (80 + r)) : ∀ (n z : Nat), (z : Int) ≤ d + 360 → (d + 360 - z).toNat < n → M_when_L37 n 101 r d b (z : Int) (sh, setR V 102 S) = some (b, (sh, setR V 102 S)) := by
  intro n
  induction n with
  | zero => intro z _ h; omega
  | succ n ih =>
    intro z hz hn
    rw [M_when_L37]
    by_cases h : (z : Int) < d + 360
    · have : ¬ sToll S r z < sToll S r b := by have := sToll_two (S := S) (r := r) (d := z); omega
      simp (disch := first | assumption | omega | (simp (disch := first | omega | decide) only [w32_id, upS_eq, upS_ne, PM_row, PM_fld]; first | assumption | omega)) only [Int.reduceEq, Int.reduceLT, Int.reduceLE, Int.reduceAdd, Int.reduceSub, Int.reduceNeg, Int.reduceMul, ↓bd_mk, ↓bd2_mk, ↓bg101, ↓bp101, ↓bi101, ↓bl102, ↓bs102, ↓blp, ↓bsp, ↓bdiv, ↓brem, ↓bokz, ↓M_slipAt_b, ↓M_within_b, ↓reduceIte, upS_eq, upS_ne, w32_id, w64_id, if_some2, B_0, B_1, okz_B, ite_not, h, this, ↓M_tollOn_b]
      exact ih (z + 1) (by omega) (by omega)
    · simp (disch := first | assumption | omega | (simp (disch := first | omega | decide) only [w32_id, upS_eq, upS_ne, PM_row, PM_fld]; first | assumption | omega)) only [Int.reduceEq, Int.reduceLT, Int.reduceLE, Int.reduceAdd, Int.reduceSub, Int.reduceNeg, Int.reduceMul, ↓bd_mk, ↓bd2_mk, ↓bg101, ↓bp101, ↓bi101, ↓bl102, ↓bs102, ↓blp, ↓bsp, ↓bdiv, ↓brem, ↓bokz, ↓M_slipAt_b, ↓M_within_b, ↓reduceIte, upS_eq, upS_ne, w32_id, w64_id, if_some2, B_0, B_1, okz_B, ite_not, h]
theorem when_L (X : Cx sh V S D) (P : PM V2) (h0 : 0 ≤ r) (h1 : r < S 7) (hd : 0 ≤ d) (hd' : d ≤ 99999) (hx : x = if S (80 + r) < S (56 + r) then S (80 + r) else S (56 + r)) : ∀ (n z : Nat), d ≤ (z : Int) → (z : Int) ≤ d + 360 → (d + 360 - z).toNat < n → ((z : Int) = d ∨ sToll S r d ≠ x) → ∃ y, T_when_L52 n r d 3 x (z : Int) (sh, V) = some (y, (sh, V)) ∧ M_when_L37 n 101 r d d (z : Int) (sh, setR V2 102 S) = some (y, (sh, setR V2 102 S)) := by
  have H := X.1
  obtain ⟨r1, r2, r3, r4, r5, r6, r7⟩ := Cx_rng X
  have e2 := sToll_two (S := S) (r := r) (d := d)
  intro n
  induction n with
  | zero => intro z _ _ h; omega
  | succ n ih =>
    intro z hz0 hz hn hs
    have ez := sToll_two (S := S) (r := r) (d := z)
    rw [T_when_L52, M_when_L37]
    by_cases h : (z : Int) < d + 360
    · by_cases q : sToll S r z = x
      · refine ⟨z, ?_, ?_⟩
        · simp (disch := first | assumption | omega) only [↓b04 X, ↓b06 X, ↓b21 X, ↓b20 X, ↓b22 X, ↓b23 X, ↓b9 X, ↓bi2 X, ↓bi3 X, ↓b30 X, ↓b31 X, ↓b32 X, ↓b33 X, ↓b36 X, ↓b37 X, ↓b38 X, ↓b39 X, ↓b3a X, ↓b3b X, ↓b3c X, ↓bl4 X, ↓bl5 X, ↓bl6 X, ↓bl7 X, ↓bl8 X, ↓bt0 X, ↓bt1 X, ↓bt2 X, ↓bt3 X, ↓bt4 X, ↓bt5 X, ↓bit6 X, ↓bm X, ↓bs X, ↓bc X, ↓x_hasTr X, ↓x_hasRoad X, ↓x_isOpen X, ↓x_leads X, ↓x_markOf X, ↓x_startOf X, ↓x_endOf X, ↓x_isSummer X, ↓x_tollOn X, ↓x_isLate X, ↓x_worthOn X, ↓x_hasTown X, ↓x_across X, ↓x_hasPair X, ↓bd_mk, ↓bd2_mk, ↓reduceIte, w32_id, B_0, B_1, ite_not, if_some2, h, q]
        · have hl : sToll S r z ≤ S (56 + r) ∧ sToll S r z ≤ S (80 + r) := by rw [q, hx]; split <;> omega
          by_cases g : sToll S r z < sToll S r d
          · simp (disch := first | assumption | omega | (simp (disch := first | omega | decide) only [w32_id, upS_eq, upS_ne, PM_row, PM_fld]; first | assumption | omega)) only [Int.reduceEq, Int.reduceLT, Int.reduceLE, Int.reduceAdd, Int.reduceSub, Int.reduceNeg, Int.reduceMul, ↓bd_mk, ↓bd2_mk, ↓bg101, ↓bp101, ↓bi101, ↓bl102, ↓bs102, ↓blp, ↓bsp, ↓bdiv, ↓brem, ↓bokz, ↓M_slipAt_b, ↓M_within_b, ↓reduceIte, upS_eq, upS_ne, w32_id, w64_id, if_some2, B_0, B_1, okz_B, ite_not, h, g, ↓M_tollOn_b]
            exact when_stay H P h0 (by omega) hd hd' (by omega) (by omega) hl n (z + 1) (by omega) (by omega)
          · have : (z : Int) = d := by
              rcases hs with q' | q'
              · exact q'
              · exfalso; split at hx <;> omega
            rw [this] at hl ⊢
            simp (disch := first | assumption | omega | (simp (disch := first | omega | decide) only [w32_id, upS_eq, upS_ne, PM_row, PM_fld]; first | assumption | omega)) only [Int.reduceEq, Int.reduceLT, Int.reduceLE, Int.reduceAdd, Int.reduceSub, Int.reduceNeg, Int.reduceMul, ↓bd_mk, ↓bd2_mk, ↓bg101, ↓bp101, ↓bi101, ↓bl102, ↓bs102, ↓blp, ↓bsp, ↓bdiv, ↓brem, ↓bokz, ↓M_slipAt_b, ↓M_within_b, ↓reduceIte, upS_eq, upS_ne, w32_id, w64_id, if_some2, B_0, B_1, okz_B, ite_not, ↓M_tollOn_b, Int.lt_irrefl]
            rw [if_pos (by omega)]
            exact when_stay H P h0 (by omega) hd hd' hd (by omega) hl n (d + 1).toNat (by omega) (by omega) |> fun e => by rw [Int.toNat_of_nonneg (by omega)] at e; exact e
      · have hne : sToll S r d ≠ x := by
          rcases hs with q' | q'
          · rw [← q']; exact q
          · exact q'
        have g : ¬ sToll S r z < sToll S r d := by split at hx <;> omega
        obtain ⟨y, e1, e2⟩ := ih (z + 1) (by omega) (by omega) (by omega) (Or.inr hne)
        refine ⟨y, ?_, ?_⟩
        · simp (disch := first | assumption | omega) only [↓b04 X, ↓b06 X, ↓b21 X, ↓b20 X, ↓b22 X, ↓b23 X, ↓b9 X, ↓bi2 X, ↓bi3 X, ↓b30 X, ↓b31 X, ↓b32 X, ↓b33 X, ↓b36 X, ↓b37 X, ↓b38 X, ↓b39 X, ↓b3a X, ↓b3b X, ↓b3c X, ↓bl4 X, ↓bl5 X, ↓bl6 X, ↓bl7 X, ↓bl8 X, ↓bt0 X, ↓bt1 X, ↓bt2 X, ↓bt3 X, ↓bt4 X, ↓bt5 X, ↓bit6 X, ↓bm X, ↓bs X, ↓bc X, ↓x_hasTr X, ↓x_hasRoad X, ↓x_isOpen X, ↓x_leads X, ↓x_markOf X, ↓x_startOf X, ↓x_endOf X, ↓x_isSummer X, ↓x_tollOn X, ↓x_isLate X, ↓x_worthOn X, ↓x_hasTown X, ↓x_across X, ↓x_hasPair X, ↓bd_mk, ↓bd2_mk, ↓reduceIte, w32_id, B_0, B_1, ite_not, if_some2, h, q]; exact e1
        · simp (disch := first | assumption | omega | (simp (disch := first | omega | decide) only [w32_id, upS_eq, upS_ne, PM_row, PM_fld]; first | assumption | omega)) only [Int.reduceEq, Int.reduceLT, Int.reduceLE, Int.reduceAdd, Int.reduceSub, Int.reduceNeg, Int.reduceMul, ↓bd_mk, ↓bd2_mk, ↓bg101, ↓bp101, ↓bi101, ↓bl102, ↓bs102, ↓blp, ↓bsp, ↓bdiv, ↓brem, ↓bokz, ↓M_slipAt_b, ↓M_within_b, ↓reduceIte, upS_eq, upS_ne, w32_id, w64_id, if_some2, B_0, B_1, okz_B, ite_not, h, g, ↓M_tollOn_b]; exact e2
    · refine ⟨d, ?_, ?_⟩
      · simp (disch := first | assumption | omega) only [↓b04 X, ↓b06 X, ↓b21 X, ↓b20 X, ↓b22 X, ↓b23 X, ↓b9 X, ↓bi2 X, ↓bi3 X, ↓b30 X, ↓b31 X, ↓b32 X, ↓b33 X, ↓b36 X, ↓b37 X, ↓b38 X, ↓b39 X, ↓b3a X, ↓b3b X, ↓b3c X, ↓bl4 X, ↓bl5 X, ↓bl6 X, ↓bl7 X, ↓bl8 X, ↓bt0 X, ↓bt1 X, ↓bt2 X, ↓bt3 X, ↓bt4 X, ↓bt5 X, ↓bit6 X, ↓bm X, ↓bs X, ↓bc X, ↓x_hasTr X, ↓x_hasRoad X, ↓x_isOpen X, ↓x_leads X, ↓x_markOf X, ↓x_startOf X, ↓x_endOf X, ↓x_isSummer X, ↓x_tollOn X, ↓x_isLate X, ↓x_worthOn X, ↓x_hasTown X, ↓x_across X, ↓x_hasPair X, ↓bd_mk, ↓bd2_mk, ↓reduceIte, w32_id, B_0, B_1, ite_not, if_some2, h]
      · simp (disch := first | assumption | omega | (simp (disch := first | omega | decide) only [w32_id, upS_eq, upS_ne, PM_row, PM_fld]; first | assumption | omega)) only [Int.reduceEq, Int.reduceLT, Int.reduceLE, Int.reduceAdd, Int.reduceSub, Int.reduceNeg, Int.reduceMul, ↓bd_mk, ↓bd2_mk, ↓bg101, ↓bp101, ↓bi101, ↓bl102, ↓bs102, ↓blp, ↓bsp, ↓bdiv, ↓brem, ↓bokz, ↓M_slipAt_b, ↓M_within_b, ↓reduceIte, upS_eq, upS_ne, w32_id, w64_id, if_some2, B_0, B_1, okz_B, ite_not, h]
theorem ro_when (X : Cx sh V S D) (P : PM V2) : RO sh V V2 S (T_when 0 r d (sh, V)) (M_when 101 r d (sh, setR V2 102 S)) := by
  have P1 := PM0 P
  obtain ⟨r1, r2, r3, r4, r5, r6, r7⟩ := Cx_rng X
  unfold T_when M_when
  rw [bp101 X.1, b04 X, b20 X, bi3 X, x_hasRoad X, bi101 X.1, M_isRoad_b X.1 P1 r3 r4]
  by_cases h : 0 ≤ r ∧ r < S 7
  · rw [B_t h, if_neg (c := (1 : Int) = 0) (by decide), if_neg (c := (1 : Int) = 0) (by decide), M_within_b]
    by_cases g : 0 ≤ d ∧ d ≤ 99999
    · rw [B_t g, if_neg (c := (1 : Int) = 0) (by decide), if_neg (c := d < 0) (by omega), if_neg (c := 99999 < d) (by omega), b3a X, bl6 X h.1 h.2, b3b X, bl7 X h.1 h.2, J_min_b]
      obtain ⟨y, e1, e2⟩ := when_L X P1 h.1 h.2 g.1 g.2 rfl FU d.toNat (by omega) (by omega) (by show _ < 1000000; omega) (Or.inl (by omega))
      rw [Int.toNat_of_nonneg g.1] at e1 e2
      exact ⟨y, e1, e2⟩
    · rw [B_f g, if_pos (c := (0 : Int) = 0) rfl]
      by_cases g' : d < 0
      · rw [if_pos g']; exact ⟨_, rfl, rfl⟩
      · rw [if_neg g', if_pos (by omega)]; exact ⟨_, rfl, rfl⟩
  · rw [B_f h, if_pos rfl, if_pos rfl]; exact ⟨_, rfl, rfl⟩
/-! count -/
def cCl (S : Int → Int) : Nat → Int
  | 0 => 0
  | r + 1 => cCl S r + S (128 + r)
theorem cCl_rng (h : ∀ r : Nat, r < n → S (128 + r) = 0 ∨ S (128 + r) = 1) : 0 ≤ cCl S n ∧ cCl S n ≤ n := by
  induction n with
  | zero => simp [cCl]
  | succ n ih =>
    have := ih (fun i hi => h i (by omega))
    have := h n (by omega)
    rw [cCl]; omega
theorem pc_cCl (X : Cx sh V S D) : ∀ r : Nat, r ≤ 24 → ((pc (V 2 4).toNat r : Nat) : Int) = cCl S (min r (S 7).toNat) := by
  obtain ⟨r1, r2, r3, r4, r5, r6, r7⟩ := Cx_rng X
  obtain ⟨c1, c2, c3⟩ := X.2.2.1.2.1
  intro r
  induction r with
  | zero => intro _; simp [pc, cCl]
  | succ r ih =>
    intro hr
    have hb := c3 r (by omega) (by omega)
    unfold bitI at hb
    rw [Int.toNat_natCast] at hb
    rw [pc, Int.natCast_add, ih (by omega), hb]
    by_cases h : (r : Int) < S 7
    · rw [if_pos h, show min r (S 7).toNat = r by omega, show min (r + 1) (S 7).toNat = r + 1 by omega, cCl]
    · rw [if_neg h, show min r (S 7).toNat = (S 7).toNat by omega, show min (r + 1) (S 7).toNat = (S 7).toNat by omega, Int.add_zero]
theorem count_M {kk : Int → Int → Int → Mem → Option (Int × Mem)} (H : Sh sh) (P : PM V) (O : SOk S D) : ∀ (n z : Nat), (z : Int) ≤ S 7 → (S 7).toNat - z < n → M_count_L9 kk n 101 k (cCl S z) (z : Int) (sh, setR V 102 S) = kk 101 k (cCl S (S 7).toNat) (sh, setR V 102 S) := by
  have z4 := O.1.2.2.2.1
  have o5 := O.2.2.2.2.1
  intro n
  induction n with
  | zero => intro z _ h; omega
  | succ n ih =>
    intro z hz hn
    rw [M_count_L9]
    by_cases h : (z : Int) < S 7
    · have hi := ih (z + 1) (by omega) (by omega)
      rw [cCl] at hi
      have := cCl_rng (S := S) (n := z) (fun r hr => o5 r (by omega) (by omega))
      have := o5 z (by omega) h
      simp (disch := first | assumption | omega | (simp (disch := first | omega | decide) only [w32_id, upS_eq, upS_ne, PM_row, PM_fld]; first | assumption | omega)) only [Int.reduceEq, Int.reduceLT, Int.reduceLE, Int.reduceAdd, Int.reduceSub, Int.reduceNeg, Int.reduceMul, ↓bd_mk, ↓bd2_mk, ↓bg101, ↓bp101, ↓bi101, ↓bl102, ↓bs102, ↓blp, ↓bsp, ↓bdiv, ↓brem, ↓bokz, ↓M_slipAt_b, ↓M_within_b, ↓reduceIte, upS_eq, upS_ne, w32_id, w64_id, if_some2, B_0, B_1, okz_B, ite_not, h]; exact hi
    · have : z = (S 7).toNat := by omega
      simp (disch := first | assumption | omega | (simp (disch := first | omega | decide) only [w32_id, upS_eq, upS_ne, PM_row, PM_fld]; first | assumption | omega)) only [Int.reduceEq, Int.reduceLT, Int.reduceLE, Int.reduceAdd, Int.reduceSub, Int.reduceNeg, Int.reduceMul, ↓bd_mk, ↓bd2_mk, ↓bg101, ↓bp101, ↓bi101, ↓bl102, ↓bs102, ↓blp, ↓bsp, ↓bdiv, ↓brem, ↓bokz, ↓M_slipAt_b, ↓M_within_b, ↓reduceIte, upS_eq, upS_ne, w32_id, w64_id, if_some2, B_0, B_1, okz_B, ite_not, h]; rw [this]
theorem ro_count (X : Cx sh V S D) (P : PM V2) (ht : V 0 1 = V2 101 5) : RO sh V V2 S (T_count 0 k (sh, V)) (M_count 101 k (sh, setR V2 102 S)) := by
  have P1 := PM0 P
  have H := X.1
  obtain ⟨r1, r2, r3, r4, r5, r6, r7⟩ := Cx_rng X
  obtain ⟨c1, c2, c3⟩ := X.2.2.1.2.1
  unfold T_count M_count
  rw [bp101 H, b04 X, b20 X]
  have e := fun kk => count_M (kk := kk) (k := k) H P1 X.2.2.2.1 FU 0 (by omega) (by show _ < 1000000; omega)
  rw [cCl, show ((0 : Nat) : Int) = 0 from rfl] at e
  rw [e]
  by_cases e0 : k = 0
  · exact ⟨_, by rw [if_pos e0, b30 X], by rw [if_pos e0, bg101 H, blp P1 H (by decide) (by decide)]⟩
  by_cases e1 : k = 1
  · exact ⟨_, by rw [if_neg e0, if_pos e1, b37 X], by rw [if_neg e0, if_pos e1, bg101 H, blp P1 H (by decide) (by decide)]⟩
  by_cases e2 : k = 2
  · exact ⟨_, by rw [if_neg e0, if_neg e1, if_pos e2, b04 X, b23 X], by rw [if_neg e0, if_neg e1, if_pos e2, bg101 H, blp P1 H (by decide) (by decide)]⟩
  by_cases e3 : k = 3
  · by_cases q : S 0 = 0
    · exact ⟨-1, by rw [if_neg e0, if_neg e1, if_neg e2, if_pos e3, b30 X, if_pos q], by rw [if_neg e0, if_neg e1, if_neg e2, if_pos e3, bg101 H, blp P1 H (by decide) (by decide), if_pos q]⟩
    · exact ⟨_, by rw [if_neg e0, if_neg e1, if_neg e2, if_pos e3, b30 X, if_neg q, b31 X], by rw [if_neg e0, if_neg e1, if_neg e2, if_pos e3, bg101 H, blp P1 H (by decide) (by decide), if_neg q, bg101 H, blp P1 H (by decide) (by decide)]⟩
  by_cases e4 : k = 4
  · exact ⟨_, by rw [if_neg e0, if_neg e1, if_neg e2, if_neg e3, if_pos e4, b32 X], by rw [if_neg e0, if_neg e1, if_neg e2, if_neg e3, if_pos e4, bg101 H, blp P1 H (by decide) (by decide)]⟩
  by_cases e5 : k = 5
  · exact ⟨_, by rw [if_neg e0, if_neg e1, if_neg e2, if_neg e3, if_neg e4, if_pos e5, b33 X], by rw [if_neg e0, if_neg e1, if_neg e2, if_neg e3, if_neg e4, if_pos e5, bg101 H, blp P1 H (by decide) (by decide)]⟩
  by_cases e6 : k = 6
  · have hc := pc_cCl X 24 (by decide)
    rw [show min 24 (S 7).toNat = (S 7).toNat by omega] at hc
    have hb := J_bitCount_b (m := (V 2 4).toNat) (μ := (sh, V)) (fZ := fun x13 μ14 => some (x13, μ14)) (by omega)
    rw [Int.toNat_of_nonneg c1, hc] at hb
    exact ⟨_, by rw [if_neg e0, if_neg e1, if_neg e2, if_neg e3, if_neg e4, if_neg e5, if_pos e6, b04 X, bgt (by rw [k_2 H]), hb], by rw [if_neg e0, if_neg e1, if_neg e2, if_neg e3, if_neg e4, if_neg e5, if_pos e6]⟩
  by_cases e7 : k = 7
  · exact ⟨_, by rw [if_neg e0, if_neg e1, if_neg e2, if_neg e3, if_neg e4, if_neg e5, if_neg e6, if_pos e7, bgt (by rw [k_0 H]), ht], by rw [if_neg e0, if_neg e1, if_neg e2, if_neg e3, if_neg e4, if_neg e5, if_neg e6, if_pos e7, bg101 H, up_col (by decide)]⟩
  by_cases e8 : k = 8
  · exact ⟨_, by rw [if_neg e0, if_neg e1, if_neg e2, if_neg e3, if_neg e4, if_neg e5, if_neg e6, if_neg e7, if_pos e8, b36 X], by rw [if_neg e0, if_neg e1, if_neg e2, if_neg e3, if_neg e4, if_neg e5, if_neg e6, if_neg e7, if_pos e8, bg101 H, blp P1 H (by decide) (by decide)]⟩
  exact ⟨-1, by rw [if_neg e0, if_neg e1, if_neg e2, if_neg e3, if_neg e4, if_neg e5, if_neg e6, if_neg e7, if_neg e8], by rw [if_neg e0, if_neg e1, if_neg e2, if_neg e3, if_neg e4, if_neg e5, if_neg e6, if_neg e7, if_neg e8]⟩
end RO3
