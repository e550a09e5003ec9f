/-! PURE: the class's world in one hypothesis, its accesses -/
def Cx (sh : List (Nat × Nat)) (V : Int → Int → Int) (S : Int → Int) (D : Int) : Prop := Sh sh ∧ Pt V ∧ CW V S ∧ SOk S D ∧ TP V ∧ D < 1900000000
section CXS
variable {sh : List (Nat × Nat)} {V V' : Int → Int → Int} {r t m s c i j d k x a b y D f p : Int} {S S' : Int → Int} {n : Nat} {γ : Type} {g : Int → Option γ} {g' : Mem → Option γ} {gu : Unit → Option γ} {g2 : Int → Mem → Option γ}
theorem Cx_rng (X : Cx sh V S D) : 0 ≤ S 0 ∧ S 0 ≤ 12 ∧ 0 ≤ S 7 ∧ S 7 ≤ 24 ∧ 0 ≤ S 152 ∧ S 152 ≤ 6 ∧ D < 1900000000 := by
  obtain ⟨-, -, -, ⟨⟨z1, z2, z3, z4, -⟩, o2, o3, -⟩, -, hD⟩ := X
  exact ⟨z1, z2, z3, z4, o2, o3, hD⟩
theorem Cx_tr (X : Cx sh V S D) (h0 : 0 ≤ i) (h1 : i < S 152) : TOk S D i := X.2.2.2.1.2.2.2.1 i h0 h1
theorem Cx_rd (X : Cx sh V S D) (h0 : 0 ≤ r) (h1 : r < S 7) : 0 ≤ S (8 + r) ∧ S (8 + r) < S 0 ∧ 0 ≤ S (32 + r) ∧ S (32 + r) < S 0 ∧ S (8 + r) ≠ S (32 + r) ∧ 0 ≤ S (56 + r) ∧ S (56 + r) ≤ 999 ∧ 0 ≤ S (80 + r) ∧ S (80 + r) ≤ 999 ∧ 1 ≤ S (104 + r) ∧ S (104 + r) ≤ 90 := X.2.2.2.1.1.2.2.2.2.2.2.2.2.2.2.2.2.2 r h0 h1
theorem b04 (X : Cx sh V S D) : bd (getf 11 4 (sh, V) 0) g = g 2 := by rw [bgt (by rw [k_0 X.1]), q_0_4 X.2.1]
theorem b06 (X : Cx sh V S D) : bd (getf 11 6 (sh, V) 0) g = g 36 := by rw [bgt (by rw [k_0 X.1]), q_0_6 X.2.1]
theorem b21 (X : Cx sh V S D) : bd (getf 10 1 (sh, V) 2) g = g 9 := by rw [bgt (by rw [k_2 X.1]), q_2_1 X.2.1]
theorem b20 (X : Cx sh V S D) : bd (getf 10 0 (sh, V) 2) g = g 3 := by rw [bgt (by rw [k_2 X.1]), q_2_0 X.2.1]
theorem b22 (X : Cx sh V S D) : bd (getf 10 2 (sh, V) 2) g = g 10 := by rw [bgt (by rw [k_2 X.1]), q_2_2 X.2.1]
theorem b23 (X : Cx sh V S D) : bd (getf 10 3 (sh, V) 2) g = g (S 152) := by rw [bgt (by rw [k_2 X.1]), X.2.2.1.2.2.1]
theorem b9 (X : Cx sh V S D) (h0 : 0 ≤ i) (h1 : i < S 152) : bd (lda 24 (sh, V) 9 i) g = g (11 + 4 * i) := by
  have := (Cx_rng X).2.2.2.2.2.1
  rw [blt (by rw [k_9 X.1]) h0 (by rw [k_9 X.1]; show i < 6; omega), qPeople X.1 X.2.1 h0 (by omega)]
theorem bi2 (X : Cx sh V S D) : bd (isk 10 (sh, V) 2) gu = gu () := bit (by rw [k_2 X.1])
theorem bi3 (X : Cx sh V S D) : bd (isk 1 (sh, V) 3) gu = gu () := bit (by rw [k_3 X.1])
theorem b30 (X : Cx sh V S D) : bd (getf 1 0 (sh, V) 3) g = g (S 0) := by rw [bgt (by rw [k_3 X.1]), X.2.2.1.1.1]
theorem b31 (X : Cx sh V S D) : bd (getf 1 1 (sh, V) 3) g = g (S 1) := by rw [bgt (by rw [k_3 X.1]), X.2.2.1.1.2.1]
theorem b32 (X : Cx sh V S D) : bd (getf 1 2 (sh, V) 3) g = g (S 2) := by rw [bgt (by rw [k_3 X.1]), X.2.2.1.1.2.2.1]
theorem b33 (X : Cx sh V S D) : bd (getf 1 3 (sh, V) 3) g = g (S 3) := by rw [bgt (by rw [k_3 X.1]), X.2.2.1.1.2.2.2.1]
theorem b36 (X : Cx sh V S D) : bd (getf 1 6 (sh, V) 3) g = g (S 6) := by rw [bgt (by rw [k_3 X.1]), X.2.2.1.1.2.2.2.2.2.2.1]
theorem b37 (X : Cx sh V S D) : bd (getf 1 7 (sh, V) 3) g = g (S 7) := by rw [bgt (by rw [k_3 X.1]), X.2.2.1.1.2.2.2.2.2.2.2.1]
theorem b38 (X : Cx sh V S D) : bd (getf 1 8 (sh, V) 3) g = g 4 := by rw [bgt (by rw [k_3 X.1]), q_3_8 X.2.1]
theorem b39 (X : Cx sh V S D) : bd (getf 1 9 (sh, V) 3) g = g 5 := by rw [bgt (by rw [k_3 X.1]), q_3_9 X.2.1]
theorem b3a (X : Cx sh V S D) : bd (getf 1 10 (sh, V) 3) g = g 6 := by rw [bgt (by rw [k_3 X.1]), q_3_10 X.2.1]
theorem b3b (X : Cx sh V S D) : bd (getf 1 11 (sh, V) 3) g = g 7 := by rw [bgt (by rw [k_3 X.1]), q_3_11 X.2.1]
theorem b3c (X : Cx sh V S D) : bd (getf 1 12 (sh, V) 3) g = g 8 := by rw [bgt (by rw [k_3 X.1]), q_3_12 X.2.1]
theorem c_rd (X : Cx sh V S D) (h0 : 0 ≤ r) (h1 : r < S 7) : V 4 r = S (8 + r) ∧ V 5 r = S (32 + r) ∧ V 6 r = S (56 + r) ∧ V 7 r = S (80 + r) ∧ V 8 r = S (104 + r) := X.2.2.1.1.2.2.2.2.2.2.2.2 r h0 h1
theorem bl4 (X : Cx sh V S D) (h0 : 0 ≤ r) (h1 : r < S 7) : bd (lda 20 (sh, V) 4 r) g = g (S (8 + r)) := by
  have := (Cx_rng X).2.2.2.1
  rw [blt (by rw [k_4 X.1]) h0 (by rw [k_4 X.1]; show r < 24; omega), (c_rd X h0 h1).1]
theorem bl5 (X : Cx sh V S D) (h0 : 0 ≤ r) (h1 : r < S 7) : bd (lda 20 (sh, V) 5 r) g = g (S (32 + r)) := by
  have := (Cx_rng X).2.2.2.1
  rw [blt (by rw [k_5 X.1]) h0 (by rw [k_5 X.1]; show r < 24; omega), (c_rd X h0 h1).2.1]
theorem bl6 (X : Cx sh V S D) (h0 : 0 ≤ r) (h1 : r < S 7) : bd (lda 20 (sh, V) 6 r) g = g (S (56 + r)) := by
  have := (Cx_rng X).2.2.2.1
  rw [blt (by rw [k_6 X.1]) h0 (by rw [k_6 X.1]; show r < 24; omega), (c_rd X h0 h1).2.2.1]
theorem bl7 (X : Cx sh V S D) (h0 : 0 ≤ r) (h1 : r < S 7) : bd (lda 20 (sh, V) 7 r) g = g (S (80 + r)) := by
  have := (Cx_rng X).2.2.2.1
  rw [blt (by rw [k_7 X.1]) h0 (by rw [k_7 X.1]; show r < 24; omega), (c_rd X h0 h1).2.2.2.1]
theorem bl8 (X : Cx sh V S D) (h0 : 0 ≤ r) (h1 : r < S 7) : bd (lda 20 (sh, V) 8 r) g = g (S (104 + r)) := by
  have := (Cx_rng X).2.2.2.1
  rw [blt (by rw [k_8 X.1]) h0 (by rw [k_8 X.1]; show r < 24; omega), (c_rd X h0 h1).2.2.2.2]
theorem kt_x (X : Cx sh V S D) (h0 : 0 ≤ i) (h1 : i < S 152) : kS sh (11 + 4 * i) = (6, 9) := (kTr X.1 h0 (by have := (Cx_rng X).2.2.2.2.2.1; omega)).1
theorem td_x (X : Cx sh V S D) (h0 : 0 ≤ i) (h1 : i < S 152) : TD V S i := X.2.2.1.2.2.2.1 i h0 h1
theorem bt0 (X : Cx sh V S D) (h0 : 0 ≤ i) (h1 : i < S 152) : bd (getf 6 0 (sh, V) (11 + 4 * i)) g = g (S (153 + i)) := by rw [bgt (by rw [kt_x X h0 h1]), (td_x X h0 h1).1.1]
theorem bt1 (X : Cx sh V S D) (h0 : 0 ≤ i) (h1 : i < S 152) : bd (getf 6 1 (sh, V) (11 + 4 * i)) g = g (S (159 + i)) := by rw [bgt (by rw [kt_x X h0 h1]), (td_x X h0 h1).1.2.1]
theorem bt2 (X : Cx sh V S D) (h0 : 0 ≤ i) (h1 : i < S 152) : bd (getf 6 2 (sh, V) (11 + 4 * i)) g = g (S (165 + i)) := by rw [bgt (by rw [kt_x X h0 h1]), (td_x X h0 h1).1.2.2.1]
theorem bt3 (X : Cx sh V S D) (h0 : 0 ≤ i) (h1 : i < S 152) : bd (getf 6 3 (sh, V) (11 + 4 * i)) g = g (S (177 + i)) := by rw [bgt (by rw [kt_x X h0 h1]), (td_x X h0 h1).1.2.2.2.1]
theorem bt4 (X : Cx sh V S D) (h0 : 0 ≤ i) (h1 : i < S 152) : bd (getf 6 4 (sh, V) (11 + 4 * i)) g = g (S (183 + i)) := by rw [bgt (by rw [kt_x X h0 h1]), (td_x X h0 h1).1.2.2.2.2.1]
theorem bt5 (X : Cx sh V S D) (h0 : 0 ≤ i) (h1 : i < S 152) : bd (getf 6 5 (sh, V) (11 + 4 * i)) g = g (S (171 + i)) := by rw [bgt (by rw [kt_x X h0 h1]), (td_x X h0 h1).1.2.2.2.2.2]
theorem bit6 (X : Cx sh V S D) (h0 : 0 ≤ i) (h1 : i < S 152) : bd (isk 6 (sh, V) (11 + 4 * i)) gu = gu () := bit (by rw [kt_x X h0 h1])
theorem kp_x (X : Cx sh V S D) (h0 : 0 ≤ i) (h1 : i < S 152) : kS sh (V (11 + 4 * i) 6) = (20, 40) ∧ kS sh (V (11 + 4 * i) 7) = (20, 40) ∧ kS sh (V (11 + 4 * i) 8) = (20, 40) := by
  obtain ⟨p, p0, p1, p2, p3, p4⟩ := X.2.2.2.2.1.1 i h0 (by have := (Cx_rng X).2.2.2.2.2.1; omega)
  obtain ⟨-, k2, k3, k4⟩ := kTr X.1 p0 p1
  rw [p2, p3, p4]; exact ⟨k2, k3, k4⟩
theorem bm (X : Cx sh V S D) (h0 : 0 ≤ i) (h1 : i < S 152) (hk : 0 ≤ k) (hk' : k < S (171 + i)) : (bd (getf 6 6 (sh, V) (11 + 4 * i)) fun z => bd (lda 20 (sh, V) z k) g) = g (S (189 + (40 * i + k))) := by
  have T := Cx_tr X h0 h1
  have h2 := T.2.1
  rw [bgt (by rw [kt_x X h0 h1]), blt (by rw [(kp_x X h0 h1).1]) hk (by rw [(kp_x X h0 h1).1]; show k < 40; omega), ((td_x X h0 h1).2 k hk hk').1]
theorem bs (X : Cx sh V S D) (h0 : 0 ≤ i) (h1 : i < S 152) (hk : 0 ≤ k) (hk' : k < S (171 + i)) : (bd (getf 6 7 (sh, V) (11 + 4 * i)) fun z => bd (lda 20 (sh, V) z k) g) = g (S (429 + (40 * i + k))) := by
  have T := Cx_tr X h0 h1
  have h2 := T.2.1
  rw [bgt (by rw [kt_x X h0 h1]), blt (by rw [(kp_x X h0 h1).2.1]) hk (by rw [(kp_x X h0 h1).2.1]; show k < 40; omega), ((td_x X h0 h1).2 k hk hk').2.1]
theorem bc (X : Cx sh V S D) (h0 : 0 ≤ i) (h1 : i < S 152) (hk : 0 ≤ k) (hk' : k < S (171 + i)) : (bd (getf 6 8 (sh, V) (11 + 4 * i)) fun z => bd (lda 20 (sh, V) z k) g) = g (S (669 + (40 * i + k))) := by
  have T := Cx_tr X h0 h1
  have h2 := T.2.1
  rw [bgt (by rw [kt_x X h0 h1]), blt (by rw [(kp_x X h0 h1).2.2]) hk (by rw [(kp_x X h0 h1).2.2]; show k < 40; omega), ((td_x X h0 h1).2 k hk hk').2.2]
theorem x_hasTr (X : Cx sh V S D) : bd2 (Wo_hasTraveller 2 i (sh, V)) g2 = g2 (B (0 ≤ i ∧ i < S 152)) (sh, V) := Wo_hasTraveller_b X.1 X.2.2.1
theorem x_hasRoad (X : Cx sh V S D) : bd2 (Kg_hasRoad 3 r (sh, V)) g2 = g2 (B (0 ≤ r ∧ r < S 7)) (sh, V) := Kg_hasRoad_b X.1 X.2.2.1.1
theorem x_isOpen (X : Cx sh V S D) (h0 : 0 ≤ r) (h1 : r < S 7) : bd2 (Wo_isOpen 2 r (sh, V)) g2 = g2 (B (S (128 + r) = 0)) (sh, V) := Wo_isOpen_b X.1 X.2.2.1.2.1 h0 h1 (Cx_rng X).2.2.2.1
theorem x_leads (X : Cx sh V S D) (h0 : 0 ≤ r) (h1 : r < S 7) : bd2 (Kg_leadsFrom 3 r t (sh, V)) g2 = g2 (B (S (8 + r) = t ∨ S (32 + r) = t)) (sh, V) := Kg_leadsFrom_b X.1 X.2.1 X.2.2.1.1 h0 h1 (Cx_rng X).2.2.2.1
theorem x_markOf (X : Cx sh V S D) (h0 : 0 ≤ r) (h1 : r < S 7) : bd2 (Kg_markOf 3 r t (sh, V)) g2 = g2 (sDart S r t) (sh, V) := Kg_markOf_b X.1 X.2.1 X.2.2.1.1 h0 h1 (Cx_rng X).2.2.2.1
theorem x_startOf (X : Cx sh V S D) (h0 : 0 ≤ d) (h1 : d < 2 * S 7) : bd2 (Kg_startOf 3 d (sh, V)) g2 = g2 (sTail S d) (sh, V) := Kg_startOf_b X.1 X.2.1 X.2.2.1.1 h0 h1 (Cx_rng X).2.2.2.1
theorem x_endOf (X : Cx sh V S D) (h0 : 0 ≤ d) (h1 : d < 2 * S 7) : bd2 (Kg_endOf 3 d (sh, V)) g2 = g2 (sHead S d) (sh, V) := Kg_endOf_b X.1 X.2.1 X.2.2.1.1 h0 h1 (Cx_rng X).2.2.2.1
theorem x_isSummer (X : Cx sh V S D) (h0 : 0 ≤ d) (h1 : d < 2147483648) : bd2 (Kg_isSummer 3 d (sh, V)) g2 = g2 (B (S 4 ≤ d % 360 ∧ d % 360 ≤ S 5)) (sh, V) := Kg_isSummer_b X.1 X.2.2.1.1 h0 h1
theorem x_tollOn (X : Cx sh V S D) (h0 : 0 ≤ r) (h1 : r < S 7) (h3 : 0 ≤ d) (h4 : d < 2147483648) : bd2 (Kg_tollOn 3 r d (sh, V)) g2 = g2 (sToll S r d) (sh, V) := Kg_tollOn_b X.1 X.2.1 X.2.2.1.1 h0 h1 (Cx_rng X).2.2.2.1 h3 h4
theorem Kg_hasTown_eq (X : Cx sh V S D) : Kg_hasTown 3 t (sh, V) = some (B (0 ≤ t ∧ t < S 0), (sh, V)) := by
  unfold Kg_hasTown
  by_cases h : t < 0
  · rw [if_pos h, B_f (by omega)]
  · rw [if_neg h, b30 X]
    simp only [if_some2, if_B]
    congr 2
    unfold B
    by_cases h' : t < S 0
    · rw [if_pos h', if_pos (by omega)]
    · rw [if_neg h', if_neg (by omega)]
theorem Kg_hasTown_b (X : Cx sh V S D) {γ : Type} {fZ : Int → Mem → Option γ} : bd2 (Kg_hasTown 3 t (sh, V)) fZ = fZ (B (0 ≤ t ∧ t < S 0)) (sh, V) := by
  rw [Kg_hasTown_eq] <;> first | assumption | rfl
theorem Kg_across_eq (X : Cx sh V S D) (h0 : 0 ≤ r) (h1 : r < S 7) : Kg_across 3 r t (sh, V) = some (if S (8 + r) = t then S (32 + r) else S (8 + r), (sh, V)) := by
  unfold Kg_across
  simp only [↓b38 X, ↓b39 X, ↓bl4 X h0 h1, ↓bl5 X h0 h1, if_some2]
theorem Kg_across_b (X : Cx sh V S D) (h0 : 0 ≤ r) (h1 : r < S 7) {γ : Type} {fZ : Int → Mem → Option γ} : bd2 (Kg_across 3 r t (sh, V)) fZ = fZ (if S (8 + r) = t then S (32 + r) else S (8 + r)) (sh, V) := by
  rw [Kg_across_eq] <;> first | assumption | rfl
theorem x_isLate (X : Cx sh V S D) (h0 : 0 ≤ i) (h1 : i < S 152) (hk : 0 ≤ k) (hk' : k < S (171 + i)) (u5 : 0 ≤ d) (u6 : d < 2147483648) : bd2 (Kg_isLate 3 (11 + 4 * i) k d (sh, V)) g2 = g2 (B (S 2 < d - S (429 + (40 * i + k)))) (sh, V) := by
  obtain ⟨t1, t2, t3, t4, t5, t6, t7⟩ := Cx_tr X h0 h1
  have hD := (Cx_rng X).2.2.2.2.2.2
  have := t7 k hk hk'
  unfold Kg_isLate
  rw [bs X h0 h1 hk hk', b32 X, w32_id (by omega) (by omega)]
  simp only [if_some2, if_B, bd2_mk]
theorem x_worthOn (X : Cx sh V S D) (h0 : 0 ≤ i) (h1 : i < S 152) (hk : 0 ≤ k) (hk' : k < S (171 + i)) (u5 : 0 ≤ d) (u6 : d < 2147483648) : bd2 (Kg_worthOn 3 (11 + 4 * i) k d (sh, V)) g2 = g2 (sWorthOf S i k d) (sh, V) := by
  obtain ⟨t1, t2, t3, t4, t5, t6, t7⟩ := Cx_tr X h0 h1
  have := t7 k hk hk'
  obtain ⟨-, -, -, -, -, -, z7, z8, -⟩ := X.2.2.2.1.1
  have hm : 0 ≤ S (669 + (40 * i + k)) * S 3 := Int.mul_nonneg (by omega) z7
  have hm' : S (669 + (40 * i + k)) * S 3 ≤ 999 * 100 := Int.mul_le_mul (by omega) z8 z7 (by omega)
  unfold Kg_worthOn sWorthOf sWorth
  rw [bi3 X, x_isLate X h0 h1 hk hk' u5 u6]
  by_cases q : S 2 < d - S (429 + (40 * i + k))
  · rw [B_t q, if_neg (by decide), bc X h0 h1 hk hk', b33 X, w32_id (by omega) (by omega), bdiv (by omega) (by omega) (by decide) (by decide), if_pos q, bd2_mk]
  · rw [B_f q, if_pos rfl, bc X h0 h1 hk hk', if_neg q, bd2_mk]
theorem x_hasTown (X : Cx sh V S D) : bd2 (Kg_hasTown 3 t (sh, V)) g2 = g2 (B (0 ≤ t ∧ t < S 0)) (sh, V) := Kg_hasTown_b X
theorem x_across (X : Cx sh V S D) (h0 : 0 ≤ r) (h1 : r < S 7) : bd2 (Kg_across 3 r t (sh, V)) g2 = g2 (if S (8 + r) = t then S (32 + r) else S (8 + r)) (sh, V) := Kg_across_b X h0 h1
theorem WoPair_eq (X : Cx sh V S D) : Wo_hasPair 2 i j (sh, V) = some (B ((0 ≤ i ∧ i < S 152) ∧ (0 ≤ j ∧ j < S 152) ∧ i ≠ j), (sh, V)) := by
  unfold Wo_hasPair
  rw [bi2 X, x_hasTr X]
  by_cases h : 0 ≤ i ∧ i < S 152
  · rw [B_t h, if_neg (by decide), bi2 X, x_hasTr X]
    by_cases h' : 0 ≤ j ∧ j < S 152
    · rw [B_t h', if_neg (by decide)]
      by_cases e : i = j
      · rw [if_pos e, B_f (fun q => q.2.2 e)]
      · rw [if_neg e, B_t ⟨h, h', e⟩]
    · rw [B_f h', if_pos rfl, B_f (fun q => h' q.2.1)]
  · rw [B_f h, if_pos rfl, B_f (fun q => h q.1)]
theorem WoPair_b (X : Cx sh V S D) {γ : Type} {fZ : Int → Mem → Option γ} : bd2 (Wo_hasPair 2 i j (sh, V)) fZ = fZ (B ((0 ≤ i ∧ i < S 152) ∧ (0 ≤ j ∧ j < S 152) ∧ i ≠ j)) (sh, V) := by
  rw [WoPair_eq] <;> first | assumption | rfl
theorem x_hasPair (X : Cx sh V S D) : bd2 (Wo_hasPair 2 i j (sh, V)) g2 = g2 (B ((0 ≤ i ∧ i < S 152) ∧ (0 ≤ j ∧ j < S 152) ∧ i ≠ j)) (sh, V) := WoPair_b X
end CXS
