/-! PURE: the invariant, and the simple calls -/
/-- what the travellers paid and had not back, n of them -/
def tre (S : Int → Int) : Nat → Int
  | 0 => 0
  | n + 1 => tre S n + (S (177 + n) - S (183 + n))
/-- the pointers of the six travellers -/
def TP (V : Int → Int → Int) : Prop := (∀ i, 0 ≤ i → i < 6 → ∃ p, 0 ≤ p ∧ p < 6 ∧ V (11 + 4 * i) 6 = 12 + 4 * p ∧ V (11 + 4 * i) 7 = 13 + 4 * p ∧ V (11 + 4 * i) 8 = 14 + 4 * p) ∧ ∀ i j, 0 ≤ i → i < 6 → 0 ≤ j → j < 6 → i ≠ j → V (11 + 4 * i) 6 ≠ V (11 + 4 * j) 6
/-- the numbers of traveller i -/
def TD (V : Int → Int → Int) (S : Int → Int) (i : Int) : Prop := (V (11 + 4 * i) 0 = S (153 + i) ∧ V (11 + 4 * i) 1 = S (159 + i) ∧ V (11 + 4 * i) 2 = S (165 + i) ∧ V (11 + 4 * i) 3 = S (177 + i) ∧ V (11 + 4 * i) 4 = S (183 + i) ∧ V (11 + 4 * i) 5 = S (171 + i)) ∧ ∀ k, 0 ≤ k → k < S (171 + i) → V (V (11 + 4 * i) 6) k = S (189 + (40 * i + k)) ∧ V (V (11 + 4 * i) 7) k = S (429 + (40 * i + k)) ∧ V (V (11 + 4 * i) 8) k = S (669 + (40 * i + k))
/-- the class's world is S -/
def CW (V : Int → Int → Int) (S : Int → Int) : Prop := CK V S ∧ CM V S ∧ V 2 3 = S 152 ∧ (∀ i, 0 ≤ i → i < S 152 → TD V S i) ∧ (∀ d, 0 ≤ d → d < 720 → V 10 d = S (909 + d)) ∧ V 2 5 = w32 (tre S (S 152).toNat)
/-- S is a world after calls with days up to D -/
def SOk (S : Int → Int) (D : Int) : Prop := KOk S ∧ 0 ≤ S 152 ∧ S 152 ≤ 6 ∧ (∀ i, 0 ≤ i → i < S 152 → TOk S D i) ∧ (∀ r, 0 ≤ r → r < S 7 → S (128 + r) = 0 ∨ S (128 + r) = 1) ∧ ∀ d, 0 ≤ d → d < 720 → R32 (S (909 + d))
section INV
variable {sh : List (Nat × Nat)} {V V' : Int → Int → Int} {r t m s c i j d k x a y D : Int} {S : Int → Int} {n : Nat}
theorem kTr (H : Sh sh) (h0 : 0 ≤ i) (h1 : i < 6) : kS sh (11 + 4 * i) = (6, 9) ∧ kS sh (12 + 4 * i) = (20, 40) ∧ kS sh (13 + 4 * i) = (20, 40) ∧ kS sh (14 + 4 * i) = (20, 40) := by
  have : i = 0 ∨ i = 1 ∨ i = 2 ∨ i = 3 ∨ i = 4 ∨ i = 5 := by omega
  rcases this with rfl | rfl | rfl | rfl | rfl | rfl
  · exact ⟨k_11 H, k_12 H, k_13 H, k_14 H⟩
  · exact ⟨k_15 H, k_16 H, k_17 H, k_18 H⟩
  · exact ⟨k_19 H, k_20 H, k_21 H, k_22 H⟩
  · exact ⟨k_23 H, k_24 H, k_25 H, k_26 H⟩
  · exact ⟨k_27 H, k_28 H, k_29 H, k_30 H⟩
  · exact ⟨k_31 H, k_32 H, k_33 H, k_34 H⟩
theorem TrAt_of (H : Sh sh) (T : TP V) (hd : TD V S i) (h0 : 0 ≤ i) (h1 : i < 6) : TrAt sh V (11 + 4 * i) (V (11 + 4 * i) 6) (V (11 + 4 * i) 7) (V (11 + 4 * i) 8) S i := by
  obtain ⟨p, p0, p1, p2, p3, p4⟩ := T.1 i h0 h1
  obtain ⟨k1, -, -, -⟩ := kTr H h0 h1
  obtain ⟨-, k2, k3, k4⟩ := kTr H p0 p1
  refine ⟨⟨⟨k1, by rw [p2]; exact k2, by rw [p3]; exact k3, by rw [p4]; exact k4⟩, ⟨by omega, by omega, by omega, by omega⟩, ⟨by omega, by omega, by omega⟩, rfl, rfl, rfl⟩, hd.1, hd.2⟩
theorem qPeople (H : Sh sh) (P : Pt V) (h0 : 0 ≤ i) (h1 : i < 6) : V 9 i = 11 + 4 * i := by
  have : i = 0 ∨ i = 1 ∨ i = 2 ∨ i = 3 ∨ i = 4 ∨ i = 5 := by omega
  rcases this with rfl | rfl | rfl | rfl | rfl | rfl
  · exact q_9_0 P
  · exact q_9_1 P
  · exact q_9_2 P
  · exact q_9_3 P
  · exact q_9_4 P
  · exact q_9_5 P
theorem Wo_hasTraveller_eq (H : Sh sh) (C : CW V S) : Wo_hasTraveller 2 i (sh, V) = some (B (0 ≤ i ∧ i < S 152), (sh, V)) := by
  unfold Wo_hasTraveller
  by_cases h : i < 0
  · rw [if_pos h, B_f (by omega)]
  · rw [if_neg h, bgt (by rw [k_2 H]), C.2.2.1]
    simp only [if_some2, if_B]
    congr 2
    unfold B
    by_cases h' : i < S 152
    · rw [if_pos h', if_pos (by omega)]
    · rw [if_neg h', if_neg (by omega)]
theorem Wo_hasTraveller_b (H : Sh sh) (C : CW V S) {γ : Type} {fZ : Int → Mem → Option γ} : bd2 (Wo_hasTraveller 2 i (sh, V)) fZ = fZ (B (0 ≤ i ∧ i < S 152)) (sh, V) := by
  rw [Wo_hasTraveller_eq] <;> first | assumption | rfl
theorem M_isOne_eq (H : Sh sh) (P : PM V) (h0 : 0 ≤ S 152) (h1 : S 152 ≤ 6) : M_isOne 101 i (sh, setR V 102 S) = some (B (0 ≤ i ∧ i < S 152), (sh, setR V 102 S)) := by
  unfold M_isOne
  rw [bg101 H, blp P H (by decide) (by decide), w32_id (by omega) (by omega), M_within_b, bokz]
  congr 2
  unfold B; by_cases q : 0 ≤ i ∧ i < S 152
  · rw [if_pos q, if_pos (by omega)]
  · rw [if_neg q, if_neg (by omega)]
theorem M_isOne_b (H : Sh sh) (P : PM V) (h0 : 0 ≤ S 152) (h1 : S 152 ≤ 6) {γ : Type} {fZ : Int → Mem → Option γ} : bd2 (M_isOne 101 i (sh, setR V 102 S)) fZ = fZ (B (0 ≤ i ∧ i < S 152)) (sh, setR V 102 S) := by
  rw [M_isOne_eq] <;> first | assumption | rfl
theorem M_isRoad_eq (H : Sh sh) (P : PM V) (h0 : 0 ≤ S 7) (h1 : S 7 ≤ 24) : M_isRoad 101 i (sh, setR V 102 S) = some (B (0 ≤ i ∧ i < S 7), (sh, setR V 102 S)) := by
  unfold M_isRoad
  rw [bg101 H, blp P H (by decide) (by decide), w32_id (by omega) (by omega), M_within_b, bokz]
  congr 2
  unfold B; by_cases q : 0 ≤ i ∧ i < S 7
  · rw [if_pos q, if_pos (by omega)]
  · rw [if_neg q, if_neg (by omega)]
theorem M_isRoad_b (H : Sh sh) (P : PM V) (h0 : 0 ≤ S 7) (h1 : S 7 ≤ 24) {γ : Type} {fZ : Int → Mem → Option γ} : bd2 (M_isRoad 101 i (sh, setR V 102 S)) fZ = fZ (B (0 ≤ i ∧ i < S 7)) (sh, setR V 102 S) := by
  rw [M_isRoad_eq] <;> first | assumption | rfl
end INV
