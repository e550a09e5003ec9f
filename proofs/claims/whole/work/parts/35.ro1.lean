/-! PURE: calls that only read, first part: treasury, owes, lapse, blocked, from, when, ledger -/
section RO1
variable {sh : List (Nat × Nat)} {V V' V2 : Int → Int → Int} {r t m s c i j d k x a b y D f p : Int} {S S' : Int → Int} {n : Nat}
theorem PM0 (P : PM V) : PM (upV V 101 0 0) := by rw [PM_fld (by decide)]; exact P
/-! treasury -/
theorem M_treas_in (H : Sh sh) (P : PM V) (O : SOk S D) (hk : k ≠ 2) (h0 : 0 ≤ i) (h1 : i < S 152) (n : Nat) {kk : Int → Int → Int → Int → Mem → Option (Int × Mem)} {acc : Int} : M_treasury_L84 kk (n + 1) 101 k acc i 0 (sh, setR V 102 S) = kk 101 k acc i (sh, setR V 102 S) := by
  have o3 := O.2.2.1
  rw [M_treasury_L84, bg101 H, w32_id (by omega) (by omega), blp P H (by omega) (by omega)]
  rw [if_neg hk]; split <;> rfl
theorem M_treas0 (H : Sh sh) (P : PM V) (O : SOk S D) : ∀ (n z : Nat), z ≤ (S 152).toNat → (S 152).toNat - z < n → M_treasury_L23 n 101 0 (w32 (tre S z)) (z : Int) (sh, setR V 102 S) = some (w32 (tre S (S 152).toNat), (sh, setR V 102 S)) := by
  have o3 := O.2.2.1
  intro n
  induction n with
  | zero => intro z _ h; omega
  | succ n ih =>
    intro z hz hn
    rw [M_treasury_L23, bg101 H, blp P H (by decide) (by decide)]
    by_cases h : (z : Int) < S 152
    · rw [if_pos h, if_pos (by decide), if_pos rfl, bg101 H, w32_id (x := 177 + (z : Int)) (by omega) (by omega), blp P H (by omega) (by omega), bg101 H, w32_id (x := 183 + (z : Int)) (by omega) (by omega), blp P H (by omega) (by omega), bd_mk, show FU = 999999 + 1 from rfl, M_treas_in H P O (by decide) (by omega) h, w32_id (x := (z : Int) + 1) (by omega) (by omega)]
      have := ih (z + 1) (by omega) (by omega)
      rw [tre] at this
      rw [show w32 (w32 (tre S z) + w32 (S (177 + ↑z) - S (183 + ↑z))) = w32 (tre S z + (S (177 + ↑z) - S (183 + ↑z))) by simp only [w32_def]; omega]
      exact this
    · have : z = (S 152).toNat := by omega
      rw [if_neg h, this]
theorem M_treas1 (H : Sh sh) (P : PM V) (O : SOk S D) : ∀ (n z : Nat), z ≤ (S 152).toNat → (S 152).toNat - z < n → M_treasury_L23 n 101 1 (cSl S z) (z : Int) (sh, setR V 102 S) = some (cSl S (S 152).toNat, (sh, setR V 102 S)) := by
  have o3 := O.2.2.1
  have o4 := O.2.2.2.1
  intro n
  induction n with
  | zero => intro z _ h; omega
  | succ n ih =>
    intro z hz hn
    rw [M_treasury_L23, bg101 H, blp P H (by decide) (by decide)]
    by_cases h : (z : Int) < S 152
    · have hr := cSl_rng (S := S) (n := z) (fun i hi => ⟨(o4 i (by omega) (by omega)).1, (o4 i (by omega) (by omega)).2.1⟩)
      have h1 := (o4 z (by omega) h).1
      have h2 := (o4 z (by omega) h).2.1
      rw [if_pos h, if_pos (by decide), if_neg (by decide), bg101 H, w32_id (x := 171 + (z : Int)) (by omega) (by omega), blp P H (by omega) (by omega), bd_mk, show FU = 999999 + 1 from rfl, M_treas_in H P O (by decide) (by omega) h, w32_id (x := (z : Int) + 1) (by omega) (by omega), w32_id (by omega) (by omega)]
      exact ih (z + 1) (by omega) (by omega)
    · have : z = (S 152).toNat := by omega
      rw [if_neg h, this]
theorem M_treas2_in {kk : Int → Int → Int → Int → Mem → Option (Int × Mem)} (H : Sh sh) (P : PM V) (O : SOk S D) (hD : D < 1900000000) (h0 : 0 ≤ i) (h1 : i < S 152) (hb : 0 ≤ b ∧ b ≤ 100000) : ∀ (n z : Nat), z ≤ (S (171 + i)).toNat → (S (171 + i)).toNat - z < n → M_treasury_L84 kk n 101 2 (b + cLt S i z) i (z : Int) (sh, setR V 102 S) = kk 101 2 (b + cLt S i (S (171 + i)).toNat) i (sh, setR V 102 S) := by
  have o3 := O.2.2.1
  obtain ⟨t1, t2, t3, t4, t5, t6, t7⟩ := O.2.2.2.1 i h0 h1
  intro n
  induction n with
  | zero => intro z _ h; omega
  | succ n ih =>
    intro z hz hn
    rw [M_treasury_L84]
    by_cases h : (z : Int) < S (171 + i)
    · have := t7 z (by omega) h
      have hl := cLt_rng (S := S) (i := i) z
      have hi := ih (z + 1) (by omega) (by omega)
      rw [cLt] at hi
      by_cases q : S 2 < S (159 + i) - S (429 + (40 * i + z))
      · rw [B_t q, ← Int.add_assoc] at hi
        simp (disch := first | assumption | omega | (simp (disch := first | omega | decide) only [w32_id, upS_eq, upS_ne, PM_row, PM_fld]; first | assumption | omega)) only [Int.reduceEq, Int.reduceLT, Int.reduceLE, Int.reduceAdd, Int.reduceSub, Int.reduceNeg, Int.reduceMul, ↓bd_mk, ↓bd2_mk, ↓bg101, ↓bp101, ↓bi101, ↓bl102, ↓bs102, ↓blp, ↓bsp, ↓bdiv, ↓brem, ↓bokz, ↓M_slipAt_b, ↓M_within_b, ↓reduceIte, upS_eq, upS_ne, w32_id, w64_id, if_some2, B_0, B_1, okz_B, ite_not, h, q]
        exact hi
      · rw [B_f q, Int.add_zero] at hi
        simp (disch := first | assumption | omega | (simp (disch := first | omega | decide) only [w32_id, upS_eq, upS_ne, PM_row, PM_fld]; first | assumption | omega)) only [Int.reduceEq, Int.reduceLT, Int.reduceLE, Int.reduceAdd, Int.reduceSub, Int.reduceNeg, Int.reduceMul, ↓bd_mk, ↓bd2_mk, ↓bg101, ↓bp101, ↓bi101, ↓bl102, ↓bs102, ↓blp, ↓bsp, ↓bdiv, ↓brem, ↓bokz, ↓M_slipAt_b, ↓M_within_b, ↓reduceIte, upS_eq, upS_ne, w32_id, w64_id, if_some2, B_0, B_1, okz_B, ite_not, h, q, Int.add_zero]
        exact hi
    · have : z = (S (171 + i)).toNat := by omega
      simp (disch := first | assumption | omega | (simp (disch := first | omega | decide) only [w32_id, upS_eq, upS_ne, PM_row, PM_fld]; first | assumption | omega)) only [Int.reduceEq, Int.reduceLT, Int.reduceLE, Int.reduceAdd, Int.reduceSub, Int.reduceNeg, Int.reduceMul, ↓bd_mk, ↓bd2_mk, ↓bg101, ↓bp101, ↓bi101, ↓bl102, ↓bs102, ↓blp, ↓bsp, ↓bdiv, ↓brem, ↓bokz, ↓M_slipAt_b, ↓M_within_b, ↓reduceIte, upS_eq, upS_ne, w32_id, w64_id, if_some2, B_0, B_1, okz_B, ite_not, h]
      rw [this]
theorem M_treas2 (H : Sh sh) (P : PM V) (O : SOk S D) (hD : D < 1900000000) : ∀ (n z : Nat), z ≤ (S 152).toNat → (S 152).toNat - z < n → M_treasury_L23 n 101 2 (cLs S z) (z : Int) (sh, setR V 102 S) = some (cLs S (S 152).toNat, (sh, setR V 102 S)) := by
  have o3 := O.2.2.1
  have o4 := O.2.2.2.1
  intro n
  induction n with
  | zero => intro z _ h; omega
  | succ n ih =>
    intro z hz hn
    rw [M_treasury_L23, bg101 H, blp P H (by decide) (by decide)]
    by_cases h : (z : Int) < S 152
    · have hr := cLs_rng (S := S) (n := z) (fun i hi => ⟨(o4 i (by omega) (by omega)).1, (o4 i (by omega) (by omega)).2.1⟩)
      have h2 := (o4 z (by omega) h).2.1
      have hl := M_treas2_in (kk := fun x3 x4 x5 x6 μ7 => M_treasury_L23 n x3 x4 x5 (w32 (x6 + 1)) μ7) (b := cLs S z) H P O hD (by omega : 0 ≤ (z : Int)) h (by omega) FU 0 (by omega) (by show _ < 1000000; omega)
      rw [cLt, Int.add_zero, show ((0 : Nat) : Int) = 0 from rfl] at hl
      rw [if_pos h, if_neg (by decide), hl, w32_id (by omega) (by omega)]
      exact ih (z + 1) (by omega) (by omega)
    · have : z = (S 152).toNat := by omega
      rw [if_neg h, this]
theorem M_treasury_eq (H : Sh sh) (P : PM V) (O : SOk S D) (hD : D < 1900000000) : M_treasury 101 k (sh, setR V 102 S) = some (aTreas S k, (sh, setR (upV V 101 0 0) 102 S)) := by
  have P1 := PM0 P
  have o3 := O.2.2.1
  unfold M_treasury aTreas
  rw [bp101 H, M_within_b]
  by_cases g : 0 ≤ k ∧ k ≤ 2
  · rw [B_t g, if_neg (by decide)]
    have : k = 0 ∨ k = 1 ∨ k = 2 := by omega
    rcases this with rfl | rfl | rfl
    · have := M_treas0 H P1 O FU 0 (by omega) (by show _ < 1000000; omega)
      rw [tre, show ((0 : Nat) : Int) = 0 from rfl, w32_id (by decide) (by decide)] at this
      rw [this]; rfl
    · have := M_treas1 H P1 O FU 0 (by omega) (by show _ < 1000000; omega)
      rw [cSl, show ((0 : Nat) : Int) = 0 from rfl] at this
      rw [this]; rfl
    · have := M_treas2 H P1 O hD FU 0 (by omega) (by show _ < 1000000; omega)
      rw [cLs, show ((0 : Nat) : Int) = 0 from rfl] at this
      rw [this]; rfl
  · rw [B_f g, if_pos rfl, if_neg (by omega), if_neg (by omega), if_neg (by omega)]
theorem M_treasury_b (H : Sh sh) (P : PM V) (O : SOk S D) (hD : D < 1900000000) {γ : Type} {fZ : Int → Mem → Option γ} : bd2 (M_treasury 101 k (sh, setR V 102 S)) fZ = fZ (aTreas S k) (sh, setR (upV V 101 0 0) 102 S) := by
  rw [M_treasury_eq] <;> first | assumption | rfl
/-! owes -/
theorem owes_in (X : Cx sh V S D) (P : PM V2) (h0 : 0 ≤ i) (h1 : i < S 152) (hd : 0 ≤ d) (hd' : d < 2147483648) : ∀ (n z : Nat) (acc : Int), z ≤ (S (171 + i)).toNat → (S (171 + i)).toNat - z < n → ∃ acc', (∀ kk, Wo_debtOn_L15 kk n 2 d acc i (z : Int) (sh, V) = kk 2 d acc' i (sh, V)) ∧ ∀ kk, M_owes_L31 kk n 101 d acc i (z : Int) (sh, setR V2 102 S) = kk 101 d acc' i (sh, setR V2 102 S) := by
  have H := X.1
  obtain ⟨r1, r2, r3, r4, r5, r6, r7⟩ := Cx_rng X
  have T := Cx_tr X h0 h1
  have hl := X.2.2.2.1.1.2.2.2.2.2.2.1
  have hl' := X.2.2.2.1.1.2.2.2.2.2.2.2.1
  obtain ⟨t1, t2, t3, t4, t5, t6, t7⟩ := id T
  have hD : D < 2000000000 := by omega
  intro n
  induction n with
  | zero => intro z _ _ h; omega
  | succ n ih =>
    intro z acc hz hn
    by_cases h : (z : Int) < S (171 + i)
    · obtain ⟨acc', e1, e2⟩ := ih (z + 1) (w32 (acc + sWorthOf S i z d)) (by omega) (by omega)
      refine ⟨acc', fun kk => ?_, fun kk => ?_⟩
      · rw [Wo_debtOn_L15]
        simp (disch := first | assumption | omega) only [↓b04 X, ↓b06 X, ↓b21 X, ↓b20 X, ↓b22 X, ↓b23 X, ↓b9 X, ↓bi2 X, ↓bi3 X, ↓b30 X, ↓b31 X, ↓b32 X, ↓b33 X, ↓b36 X, ↓b37 X, ↓b38 X, ↓b39 X, ↓b3a X, ↓b3b X, ↓b3c X, ↓bl4 X, ↓bl5 X, ↓bl6 X, ↓bl7 X, ↓bl8 X, ↓bt0 X, ↓bt1 X, ↓bt2 X, ↓bt3 X, ↓bt4 X, ↓bt5 X, ↓bit6 X, ↓bm X, ↓bs X, ↓bc X, ↓x_hasTr X, ↓x_hasRoad X, ↓x_isOpen X, ↓x_leads X, ↓x_markOf X, ↓x_startOf X, ↓x_endOf X, ↓x_isSummer X, ↓x_tollOn X, ↓x_isLate X, ↓x_worthOn X, ↓x_hasTown X, ↓x_across X, ↓x_hasPair X, ↓bd_mk, ↓bd2_mk, ↓reduceIte, w32_id, B_0, B_1, ite_not, if_some2, h]
        exact e1 kk
      · rw [M_owes_L31]
        simp (disch := first | assumption | omega | (simp (disch := first | omega | decide) only [w32_id, upS_eq, upS_ne, PM_row, PM_fld]; first | assumption | omega)) only [Int.reduceEq, Int.reduceLT, Int.reduceLE, Int.reduceAdd, Int.reduceSub, Int.reduceNeg, Int.reduceMul, ↓bd_mk, ↓bd2_mk, ↓bg101, ↓bp101, ↓bi101, ↓bl102, ↓bs102, ↓blp, ↓bsp, ↓bdiv, ↓brem, ↓bokz, ↓M_slipAt_b, ↓M_within_b, ↓reduceIte, upS_eq, upS_ne, w32_id, w64_id, if_some2, B_0, B_1, okz_B, ite_not, h, ↓M_worthOf_b H P hD T hl hl']
        exact e2 kk
    · refine ⟨acc, fun kk => ?_, fun kk => ?_⟩
      · rw [Wo_debtOn_L15]; simp (disch := first | assumption | omega) only [↓b04 X, ↓b06 X, ↓b21 X, ↓b20 X, ↓b22 X, ↓b23 X, ↓b9 X, ↓bi2 X, ↓bi3 X, ↓b30 X, ↓b31 X, ↓b32 X, ↓b33 X, ↓b36 X, ↓b37 X, ↓b38 X, ↓b39 X, ↓b3a X, ↓b3b X, ↓b3c X, ↓bl4 X, ↓bl5 X, ↓bl6 X, ↓bl7 X, ↓bl8 X, ↓bt0 X, ↓bt1 X, ↓bt2 X, ↓bt3 X, ↓bt4 X, ↓bt5 X, ↓bit6 X, ↓bm X, ↓bs X, ↓bc X, ↓x_hasTr X, ↓x_hasRoad X, ↓x_isOpen X, ↓x_leads X, ↓x_markOf X, ↓x_startOf X, ↓x_endOf X, ↓x_isSummer X, ↓x_tollOn X, ↓x_isLate X, ↓x_worthOn X, ↓x_hasTown X, ↓x_across X, ↓x_hasPair X, ↓bd_mk, ↓bd2_mk, ↓reduceIte, w32_id, B_0, B_1, ite_not, if_some2, h]
      · rw [M_owes_L31]; simp (disch := first | assumption | omega | (simp (disch := first | omega | decide) only [w32_id, upS_eq, upS_ne, PM_row, PM_fld]; first | assumption | omega)) only [Int.reduceEq, Int.reduceLT, Int.reduceLE, Int.reduceAdd, Int.reduceSub, Int.reduceNeg, Int.reduceMul, ↓bd_mk, ↓bd2_mk, ↓bg101, ↓bp101, ↓bi101, ↓bl102, ↓bs102, ↓blp, ↓bsp, ↓bdiv, ↓brem, ↓bokz, ↓M_slipAt_b, ↓M_within_b, ↓reduceIte, upS_eq, upS_ne, w32_id, w64_id, if_some2, B_0, B_1, okz_B, ite_not, h]
theorem owes_out (X : Cx sh V S D) (P : PM V2) (hd : 0 ≤ d) (hd' : d < 2147483648) : ∀ (n z : Nat) (acc : Int), z ≤ (S 152).toNat → (S 152).toNat - z < n → ∃ y, Wo_debtOn_L4 n 2 d acc (z : Int) (sh, V) = some (y, (sh, V)) ∧ M_owes_L16 n 101 d acc (z : Int) (sh, setR V2 102 S) = some (y, (sh, setR V2 102 S)) := by
  have H := X.1
  obtain ⟨r1, r2, r3, r4, r5, r6, r7⟩ := Cx_rng X
  intro n
  induction n with
  | zero => intro z _ _ h; omega
  | succ n ih =>
    intro z acc hz hn
    by_cases h : (z : Int) < S 152
    · have T := Cx_tr X (by omega : 0 ≤ (z : Int)) h
      have t2 := T.2.1
      obtain ⟨acc', e1, e2⟩ := owes_in X P (by omega : 0 ≤ (z : Int)) h hd hd' FU 0 acc (by omega) (by show _ < 1000000; omega)
      rw [show ((0 : Nat) : Int) = 0 from rfl] at e1 e2
      obtain ⟨y, e3, e4⟩ := ih (z + 1) acc' (by omega) (by omega)
      refine ⟨y, ?_, ?_⟩
      · rw [Wo_debtOn_L4, b23 X, if_pos h, e1, w32_id (by omega) (by omega)]; exact e3
      · rw [M_owes_L16, bg101 H, blp P H (by decide) (by decide), if_pos h, e2, w32_id (by omega) (by omega)]; exact e4
    · refine ⟨acc, ?_, ?_⟩
      · rw [Wo_debtOn_L4, b23 X, if_neg h]
      · rw [M_owes_L16, bg101 H, blp P H (by decide) (by decide), if_neg h]
/-- a call that reads alone answers alike on both sides -/
def RO (sh : List (Nat × Nat)) (V V2 : Int → Int → Int) (S : Int → Int) (o1 o2 : Option (Int × Mem)) : Prop := ∃ y, o1 = some (y, (sh, V)) ∧ o2 = some (y, (sh, setR (upV V2 101 0 0) 102 S))
theorem ro_owes (X : Cx sh V S D) (P : PM V2) (hd' : d < 2147483648) : RO sh V V2 S (T_owes 0 d (sh, V)) (M_owes 101 d (sh, setR V2 102 S)) := by
  obtain ⟨r1, r2, r3, r4, r5, r6, r7⟩ := Cx_rng X
  unfold T_owes M_owes
  rw [bp101 X.1]
  by_cases h : d < 0
  · exact ⟨-3, by rw [if_pos h], by rw [if_pos h]⟩
  · rw [if_neg h, if_neg h, b04 X, bi2 X]
    obtain ⟨y, e1, e2⟩ := owes_out X (PM0 P) (by omega : 0 ≤ d) hd' FU 0 0 (by omega) (by show _ < 1000000; omega)
    rw [show ((0 : Nat) : Int) = 0 from rfl] at e1 e2
    exact ⟨y, by unfold Wo_debtOn; rw [e1, bd2_mk], e2⟩
/-! lapse -/
theorem J_min_eq {μ : Mem} : J_min a b μ = some (if b < a then b else a, μ) := by unfold J_min; rw [if_some2]
theorem J_min_b {μ : Mem} {γ : Type} {fZ : Int → Mem → Option γ} : bd2 (J_min a b μ) fZ = fZ (if b < a then b else a) μ := by
  rw [J_min_eq] <;> first | assumption | rfl
theorem lapse_in (X : Cx sh V S D) (P : PM V2) (h0 : 0 ≤ i) (h1 : i < S 152) : ∀ (n z : Nat) (u v : Int), z ≤ (S (171 + i)).toNat → (S (171 + i)).toNat - z < n → ((u = -1 ∧ v = -1) ∨ (0 ≤ u ∧ u ≤ D ∧ v = u + S 2 + 1)) → ∃ u' v', ((u' = -1 ∧ v' = -1) ∨ (0 ≤ u' ∧ u' ≤ D ∧ v' = u' + S 2 + 1)) ∧ (∀ kk j, Wo_firstSlipDay_L22 kk n 2 u j (11 + 4 * i) (z : Int) (sh, V) = kk 2 u' j (sh, V)) ∧ ∀ kk, M_lapse_L23 kk n 101 v i (z : Int) (sh, setR V2 102 S) = kk 101 v' i (sh, setR V2 102 S) := by
  have H := X.1
  obtain ⟨r1, r2, r3, r4, r5, r6, r7⟩ := Cx_rng X
  obtain ⟨t1, t2, t3, t4, t5, t6, t7⟩ := Cx_tr X h0 h1
  have hy := X.2.2.2.1.1.2.2.2.2.1
  have hy' := X.2.2.2.1.1.2.2.2.2.2.1
  intro n
  induction n with
  | zero => intro z _ _ _ h; omega
  | succ n ih =>
    intro z u v hz hn huv
    by_cases h : (z : Int) < S (171 + i)
    · have hs := t7 z (by omega) h
      rcases huv with ⟨e1, e2⟩ | ⟨e0, e1, e2⟩
      · obtain ⟨u', v', q, q1, q2⟩ := ih (z + 1) (S (429 + (40 * i + z))) (S (429 + (40 * i + z)) + S 2 + 1) (by omega) (by omega) (Or.inr ⟨by omega, by omega, rfl⟩)
        refine ⟨u', v', q, fun kk j => ?_, fun kk => ?_⟩
        · rw [Wo_firstSlipDay_L22]; simp (disch := first | assumption | omega) only [↓b04 X, ↓b06 X, ↓b21 X, ↓b20 X, ↓b22 X, ↓b23 X, ↓b9 X, ↓bi2 X, ↓bi3 X, ↓b30 X, ↓b31 X, ↓b32 X, ↓b33 X, ↓b36 X, ↓b37 X, ↓b38 X, ↓b39 X, ↓b3a X, ↓b3b X, ↓b3c X, ↓bl4 X, ↓bl5 X, ↓bl6 X, ↓bl7 X, ↓bl8 X, ↓bt0 X, ↓bt1 X, ↓bt2 X, ↓bt3 X, ↓bt4 X, ↓bt5 X, ↓bit6 X, ↓bm X, ↓bs X, ↓bc X, ↓x_hasTr X, ↓x_hasRoad X, ↓x_isOpen X, ↓x_leads X, ↓x_markOf X, ↓x_startOf X, ↓x_endOf X, ↓x_isSummer X, ↓x_tollOn X, ↓x_isLate X, ↓x_worthOn X, ↓x_hasTown X, ↓x_across X, ↓x_hasPair X, ↓bd_mk, ↓bd2_mk, ↓reduceIte, w32_id, B_0, B_1, ite_not, if_some2, h, e1]; exact q1 kk j
        · rw [M_lapse_L23]; simp (disch := first | assumption | omega | (simp (disch := first | omega | decide) only [w32_id, upS_eq, upS_ne, PM_row, PM_fld]; first | assumption | omega)) only [Int.reduceEq, Int.reduceLT, Int.reduceLE, Int.reduceAdd, Int.reduceSub, Int.reduceNeg, Int.reduceMul, ↓bd_mk, ↓bd2_mk, ↓bg101, ↓bp101, ↓bi101, ↓bl102, ↓bs102, ↓blp, ↓bsp, ↓bdiv, ↓brem, ↓bokz, ↓M_slipAt_b, ↓M_within_b, ↓reduceIte, upS_eq, upS_ne, w32_id, w64_id, if_some2, B_0, B_1, okz_B, ite_not, h, e2]; exact q2 kk
      · by_cases g : S (429 + (40 * i + z)) < u
        · obtain ⟨u', v', q, q1, q2⟩ := ih (z + 1) (S (429 + (40 * i + z))) (S (429 + (40 * i + z)) + S 2 + 1) (by omega) (by omega) (Or.inr ⟨by omega, by omega, rfl⟩)
          have g' : S (429 + (40 * i + z)) + S 2 + 1 < v := by omega
          have g1 : ¬ u = -1 := by omega
          have g2 : ¬ v = -1 := by omega
          refine ⟨u', v', q, fun kk j => ?_, fun kk => ?_⟩
          · rw [Wo_firstSlipDay_L22]; simp (disch := first | assumption | omega) only [↓b04 X, ↓b06 X, ↓b21 X, ↓b20 X, ↓b22 X, ↓b23 X, ↓b9 X, ↓bi2 X, ↓bi3 X, ↓b30 X, ↓b31 X, ↓b32 X, ↓b33 X, ↓b36 X, ↓b37 X, ↓b38 X, ↓b39 X, ↓b3a X, ↓b3b X, ↓b3c X, ↓bl4 X, ↓bl5 X, ↓bl6 X, ↓bl7 X, ↓bl8 X, ↓bt0 X, ↓bt1 X, ↓bt2 X, ↓bt3 X, ↓bt4 X, ↓bt5 X, ↓bit6 X, ↓bm X, ↓bs X, ↓bc X, ↓x_hasTr X, ↓x_hasRoad X, ↓x_isOpen X, ↓x_leads X, ↓x_markOf X, ↓x_startOf X, ↓x_endOf X, ↓x_isSummer X, ↓x_tollOn X, ↓x_isLate X, ↓x_worthOn X, ↓x_hasTown X, ↓x_across X, ↓x_hasPair X, ↓bd_mk, ↓bd2_mk, ↓reduceIte, w32_id, B_0, B_1, ite_not, if_some2, h, g1, g, ↓J_min_b]; exact q1 kk j
          · rw [M_lapse_L23]; simp (disch := first | assumption | omega | (simp (disch := first | omega | decide) only [w32_id, upS_eq, upS_ne, PM_row, PM_fld]; first | assumption | omega)) only [Int.reduceEq, Int.reduceLT, Int.reduceLE, Int.reduceAdd, Int.reduceSub, Int.reduceNeg, Int.reduceMul, ↓bd_mk, ↓bd2_mk, ↓bg101, ↓bp101, ↓bi101, ↓bl102, ↓bs102, ↓blp, ↓bsp, ↓bdiv, ↓brem, ↓bokz, ↓M_slipAt_b, ↓M_within_b, ↓reduceIte, upS_eq, upS_ne, w32_id, w64_id, if_some2, B_0, B_1, okz_B, ite_not, h, g2, g']; exact q2 kk
        · obtain ⟨u', v', q, q1, q2⟩ := ih (z + 1) u v (by omega) (by omega) (Or.inr ⟨by omega, by omega, e2⟩)
          have g' : ¬ S (429 + (40 * i + z)) + S 2 + 1 < v := by omega
          have g1 : ¬ u = -1 := by omega
          have g2 : ¬ v = -1 := by omega
          refine ⟨u', v', q, fun kk j => ?_, fun kk => ?_⟩
          · rw [Wo_firstSlipDay_L22]; simp (disch := first | assumption | omega) only [↓b04 X, ↓b06 X, ↓b21 X, ↓b20 X, ↓b22 X, ↓b23 X, ↓b9 X, ↓bi2 X, ↓bi3 X, ↓b30 X, ↓b31 X, ↓b32 X, ↓b33 X, ↓b36 X, ↓b37 X, ↓b38 X, ↓b39 X, ↓b3a X, ↓b3b X, ↓b3c X, ↓bl4 X, ↓bl5 X, ↓bl6 X, ↓bl7 X, ↓bl8 X, ↓bt0 X, ↓bt1 X, ↓bt2 X, ↓bt3 X, ↓bt4 X, ↓bt5 X, ↓bit6 X, ↓bm X, ↓bs X, ↓bc X, ↓x_hasTr X, ↓x_hasRoad X, ↓x_isOpen X, ↓x_leads X, ↓x_markOf X, ↓x_startOf X, ↓x_endOf X, ↓x_isSummer X, ↓x_tollOn X, ↓x_isLate X, ↓x_worthOn X, ↓x_hasTown X, ↓x_across X, ↓x_hasPair X, ↓bd_mk, ↓bd2_mk, ↓reduceIte, w32_id, B_0, B_1, ite_not, if_some2, h, g1, g, ↓J_min_b]; exact q1 kk j
          · rw [M_lapse_L23]; simp (disch := first | assumption | omega | (simp (disch := first | omega | decide) only [w32_id, upS_eq, upS_ne, PM_row, PM_fld]; first | assumption | omega)) only [Int.reduceEq, Int.reduceLT, Int.reduceLE, Int.reduceAdd, Int.reduceSub, Int.reduceNeg, Int.reduceMul, ↓bd_mk, ↓bd2_mk, ↓bg101, ↓bp101, ↓bi101, ↓bl102, ↓bs102, ↓blp, ↓bsp, ↓bdiv, ↓brem, ↓bokz, ↓M_slipAt_b, ↓M_within_b, ↓reduceIte, upS_eq, upS_ne, w32_id, w64_id, if_some2, B_0, B_1, okz_B, ite_not, h, g2, g']; exact q2 kk
    · refine ⟨u, v, huv, fun kk j => ?_, fun kk => ?_⟩
      · rw [Wo_firstSlipDay_L22]; simp (disch := first | assumption | omega) only [↓b04 X, ↓b06 X, ↓b21 X, ↓b20 X, ↓b22 X, ↓b23 X, ↓b9 X, ↓bi2 X, ↓bi3 X, ↓b30 X, ↓b31 X, ↓b32 X, ↓b33 X, ↓b36 X, ↓b37 X, ↓b38 X, ↓b39 X, ↓b3a X, ↓b3b X, ↓b3c X, ↓bl4 X, ↓bl5 X, ↓bl6 X, ↓bl7 X, ↓bl8 X, ↓bt0 X, ↓bt1 X, ↓bt2 X, ↓bt3 X, ↓bt4 X, ↓bt5 X, ↓bit6 X, ↓bm X, ↓bs X, ↓bc X, ↓x_hasTr X, ↓x_hasRoad X, ↓x_isOpen X, ↓x_leads X, ↓x_markOf X, ↓x_startOf X, ↓x_endOf X, ↓x_isSummer X, ↓x_tollOn X, ↓x_isLate X, ↓x_worthOn X, ↓x_hasTown X, ↓x_across X, ↓x_hasPair X, ↓bd_mk, ↓bd2_mk, ↓reduceIte, w32_id, B_0, B_1, ite_not, if_some2, h]
      · rw [M_lapse_L23]; simp (disch := first | assumption | omega | (simp (disch := first | omega | decide) only [w32_id, upS_eq, upS_ne, PM_row, PM_fld]; first | assumption | omega)) only [Int.reduceEq, Int.reduceLT, Int.reduceLE, Int.reduceAdd, Int.reduceSub, Int.reduceNeg, Int.reduceMul, ↓bd_mk, ↓bd2_mk, ↓bg101, ↓bp101, ↓bi101, ↓bl102, ↓bs102, ↓blp, ↓bsp, ↓bdiv, ↓brem, ↓bokz, ↓M_slipAt_b, ↓M_within_b, ↓reduceIte, upS_eq, upS_ne, w32_id, w64_id, if_some2, B_0, B_1, okz_B, ite_not, h]
theorem lapse_out (X : Cx sh V S D) (P : PM V2) : ∀ (n z : Nat) (u v : Int), z ≤ (S 152).toNat → (S 152).toNat - z < n → ((u = -1 ∧ v = -1) ∨ (0 ≤ u ∧ u ≤ D ∧ v = u + S 2 + 1)) → ∃ u' v', ((u' = -1 ∧ v' = -1) ∨ (0 ≤ u' ∧ u' ≤ D ∧ v' = u' + S 2 + 1)) ∧ Wo_firstSlipDay_L4 n 2 u (z : Int) (sh, V) = some (u', (sh, V)) ∧ M_lapse_L9 n 101 v (z : Int) (sh, setR V2 102 S) = some (v', (sh, setR V2 102 S)) := by
  have H := X.1
  obtain ⟨r1, r2, r3, r4, r5, r6, r7⟩ := Cx_rng X
  intro n
  induction n with
  | zero => intro z _ _ _ h; omega
  | succ n ih =>
    intro z u v hz hn huv
    by_cases h : (z : Int) < S 152
    · have T := Cx_tr X (by omega : 0 ≤ (z : Int)) h
      have t2 := T.2.1
      obtain ⟨u1, v1, q, e1, e2⟩ := lapse_in X P (by omega : 0 ≤ (z : Int)) h FU 0 u v (by omega) (by show _ < 1000000; omega) huv
      rw [show ((0 : Nat) : Int) = 0 from rfl] at e1 e2
      obtain ⟨u', v', q', e3, e4⟩ := ih (z + 1) u1 v1 (by omega) (by omega) q
      refine ⟨u', v', q', ?_, ?_⟩
      · rw [Wo_firstSlipDay_L4, b23 X, if_pos h, b21 X, b9 X (by omega) h, e1, w32_id (by omega) (by omega)]; exact e3
      · rw [M_lapse_L9, bg101 H, blp P H (by decide) (by decide), if_pos h, e2, w32_id (by omega) (by omega)]; exact e4
    · refine ⟨u, v, huv, ?_, ?_⟩
      · rw [Wo_firstSlipDay_L4, b23 X, if_neg h]
      · rw [M_lapse_L9, bg101 H, blp P H (by decide) (by decide), if_neg h]
theorem ro_lapse (X : Cx sh V S D) (P : PM V2) : RO sh V V2 S (T_lapse 0 (sh, V)) (M_lapse 101 (sh, setR V2 102 S)) := by
  obtain ⟨r1, r2, r3, r4, r5, r6, r7⟩ := Cx_rng X
  have hy := X.2.2.2.1.1.2.2.2.2.1
  have hy' := X.2.2.2.1.1.2.2.2.2.2.1
  unfold T_lapse M_lapse Wo_firstSlipDay
  rw [bp101 X.1, b04 X, bi2 X]
  obtain ⟨u, v, q, e1, e2⟩ := lapse_out X (PM0 P) FU 0 (-1) (-1) (by omega) (by show _ < 1000000; omega) (Or.inl ⟨rfl, rfl⟩)
  rw [show ((0 : Nat) : Int) = 0 from rfl] at e1 e2
  rw [e1, e2, bd2_mk]
  rcases q with ⟨q1, q2⟩ | ⟨q0, q1, q2⟩
  · exact ⟨-1, by rw [if_pos q1], by rw [q2]⟩
  · exact ⟨v, by rw [if_neg (by omega), b04 X, b20 X, b32 X, w32_id (x := u + S 2) (by omega) (by omega), w32_id (by omega) (by omega), q2], rfl⟩
/-! ledger -/
theorem ledger_in (X : Cx sh V S D) (P : PM V2) (hb : b < 720) : ∀ (n z : Nat) (acc : Int), (b + 1 - z).toNat < n → ∃ y, T_ledger_L24 n 0 b acc (z : Int) (sh, V) = some (y, (sh, V)) ∧ M_ledger_L38 n 101 b acc (z : Int) (sh, setR V2 102 S) = some (y, (sh, setR V2 102 S)) := by
  have H := X.1
  intro n
  induction n with
  | zero => intro z _ h; omega
  | succ n ih =>
    intro z acc hn
    by_cases h : b < (z : Int)
    · exact ⟨acc, by rw [T_ledger_L24, if_pos h], by rw [M_ledger_L38, if_pos h]⟩
    · obtain ⟨y, e1, e2⟩ := ih (z + 1) (w32 (acc + S (909 + z))) (by omega)
      refine ⟨y, ?_, ?_⟩
      · rw [T_ledger_L24, if_neg h, b04 X, b22 X, blt (by rw [k_10 H]) (by omega) (by rw [k_10 H]; show (z : Int) < 720; omega), X.2.2.1.2.2.2.2.1 z (by omega) (by omega), bd_mk, w32_id (x := (z : Int) + 1) (by omega) (by omega)]
        exact e1
      · rw [M_ledger_L38, if_neg h, bg101 H, w32_id (x := 909 + (z : Int)) (by omega) (by omega), blp P H (by omega) (by omega), bd_mk, w32_id (x := (z : Int) + 1) (by omega) (by omega)]
        exact e2
theorem ro_ledger (X : Cx sh V S D) (P : PM V2) : RO sh V V2 S (T_ledger 0 a b (sh, V)) (M_ledger 101 a b (sh, setR V2 102 S)) := by
  unfold T_ledger M_ledger
  rw [bp101 X.1, M_within_b]
  by_cases h : a < 0
  · exact ⟨-3, by rw [if_pos h], by rw [B_f (by omega), if_pos rfl]⟩
  · by_cases h2 : b < 720
    · by_cases h3 : b < a
      · refine ⟨-3, by rw [if_neg h, if_pos h2, if_pos h3], ?_⟩
        by_cases h4 : 0 ≤ a ∧ a ≤ 719
        · rw [B_t h4, if_neg (by decide), M_within_b, B_f (by omega), if_pos rfl]
        · rw [B_f h4, if_pos rfl]
      · obtain ⟨y, e1, e2⟩ := ledger_in X (PM0 P) h2 FU a.toNat 0 (by show _ < 1000000; omega)
        rw [Int.toNat_of_nonneg (by omega)] at e1 e2
        exact ⟨y, by rw [if_neg h, if_pos h2, if_neg h3, e1], by rw [B_t (by omega), if_neg (by decide), M_within_b, B_t (by omega), if_neg (by decide), e2]⟩
    · refine ⟨-3, by rw [if_neg h, if_neg h2], ?_⟩
      by_cases h4 : 0 ≤ a ∧ a ≤ 719
      · rw [B_t h4, if_neg (by decide), M_within_b, B_f (by omega), if_pos rfl]
      · rw [B_f h4, if_pos rfl]
end RO1
