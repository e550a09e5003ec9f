/-! PURE: road, summer, fault, go -/
section OPS
variable {sh : List (Nat × Nat)} {V V' : Int → Int → Int} {r t m s c i j d k x a y D : Int} {S : Int → Int} {n : Nat}
def aRoad (S : Int → Int) (r f : Int) : Int := if 0 ≤ r ∧ r < S 7 then (if f = 0 then S (8 + r) else if f = 1 then S (32 + r) else if f = 2 then S (56 + r) else if f = 3 then S (80 + r) else if f = 4 then S (104 + r) else if f = 5 then S (128 + r) else -2) else -2
theorem T_road_eq (H : Sh sh) (P : Pt V) (C : CW V S) (O : SOk S D) : T_road 0 r k (sh, V) = some (aRoad S r k, (sh, V)) := by
  obtain ⟨K, M, -⟩ := C
  obtain ⟨KO, -, -, -, cl, -⟩ := O
  obtain ⟨z1, z2, z3, z4, -⟩ := KO
  unfold T_road aRoad
  rw [bgt (by rw [k_0 H]), q_0_4 P, bgt (by rw [k_2 H]), q_2_0 P, bit (by rw [k_3 H]), Kg_hasRoad_b H K]
  simp only [B_0, ite_not]
  by_cases h : 0 ≤ r ∧ r < S 7
  · rw [if_pos h, if_pos h]
    obtain ⟨m1, m2, m3, m4, m5⟩ := K.2.2.2.2.2.2.2.2 r h.1 h.2
    by_cases e0 : k = 0
    · rw [if_pos e0, if_pos e0, bgt (by rw [k_3 H]), q_3_8 P, blt (by rw [k_4 H]) h.1 (by rw [k_4 H]; show r < 24; omega), m1]
    rw [if_neg e0, if_neg e0]
    by_cases e1 : k = 1
    · rw [if_pos e1, if_pos e1, bgt (by rw [k_3 H]), q_3_9 P, blt (by rw [k_5 H]) h.1 (by rw [k_5 H]; show r < 24; omega), m2]
    rw [if_neg e1, if_neg e1]
    by_cases e2 : k = 2
    · rw [if_pos e2, if_pos e2, bgt (by rw [k_3 H]), q_3_10 P, blt (by rw [k_6 H]) h.1 (by rw [k_6 H]; show r < 24; omega), m3]
    rw [if_neg e2, if_neg e2]
    by_cases e3 : k = 3
    · rw [if_pos e3, if_pos e3, bgt (by rw [k_3 H]), q_3_11 P, blt (by rw [k_7 H]) h.1 (by rw [k_7 H]; show r < 24; omega), m4]
    rw [if_neg e3, if_neg e3]
    by_cases e4 : k = 4
    · rw [if_pos e4, if_pos e4, bgt (by rw [k_3 H]), q_3_12 P, blt (by rw [k_8 H]) h.1 (by rw [k_8 H]; show r < 24; omega), m5]
    rw [if_neg e4, if_neg e4]
    by_cases e5 : k = 5
    · rw [if_pos e5, if_pos e5, bgt (by rw [k_0 H]), q_0_4 P, bit (by rw [k_2 H]), Wo_isOpen_b H M h.1 h.2 z4]
      simp only [B_0, ite_not, if_some2]
      rcases cl r h.1 h.2 with q | q <;> rw [q] <;> rfl
    rw [if_neg e5, if_neg e5]
  · rw [if_neg h, if_neg h]
theorem T_road_b (H : Sh sh) (P : Pt V) (C : CW V S) (O : SOk S D) {γ : Type} {fZ : Int → Mem → Option γ} : bd2 (T_road 0 r k (sh, V)) fZ = fZ (aRoad S r k) (sh, V) := by
  rw [T_road_eq] <;> first | assumption | rfl
theorem M_road_eq (H : Sh sh) (P : PM V) (O : SOk S D) : M_road 101 r k (sh, setR V 102 S) = some (aRoad S r k, (sh, setR (upV V 101 0 0) 102 S)) := by
  obtain ⟨KO, -, -, -, cl, -⟩ := O
  obtain ⟨z1, z2, z3, z4, -⟩ := KO
  have P1 : PM (upV V 101 0 0) := by rw [PM_fld (by decide)]; exact P
  unfold M_road aRoad
  rw [bp101 H, bi101 H, M_isRoad_b H P1 z3 z4]
  simp only [B_0, ite_not]
  by_cases h : 0 ≤ r ∧ r < S 7
  · rw [if_pos h, if_pos h, M_within_b]
    simp only [B_0, ite_not]
    by_cases g : 0 ≤ k ∧ k ≤ 5
    · rw [if_pos g]
      by_cases e5 : k = 5
      · subst e5
        rw [if_pos rfl, bg101 H, w32_id (by omega) (by omega), blp P1 H (by omega) (by omega)]
        rfl
      · rw [if_neg e5, bg101 H, w32_id (x := 24 * k) (by omega) (by omega), w32_id (x := 8 + 24 * k) (by omega) (by omega), w32_id (by omega) (by omega), blp P1 H (by omega) (by omega)]
        have : k = 0 ∨ k = 1 ∨ k = 2 ∨ k = 3 ∨ k = 4 := by omega
        rcases this with rfl | rfl | rfl | rfl | rfl <;> rfl
    · rw [if_neg g, if_neg (by omega), if_neg (by omega), if_neg (by omega), if_neg (by omega), if_neg (by omega), if_neg (by omega)]
  · rw [if_neg h, if_neg h]
theorem M_road_b (H : Sh sh) (P : PM V) (O : SOk S D) {γ : Type} {fZ : Int → Mem → Option γ} : bd2 (M_road 101 r k (sh, setR V 102 S)) fZ = fZ (aRoad S r k) (sh, setR (upV V 101 0 0) 102 S) := by
  rw [M_road_eq] <;> first | assumption | rfl
def aSummer (S : Int → Int) (d : Int) : Int := if d < 0 then -3 else B (S 4 ≤ d % 360 ∧ d % 360 ≤ S 5)
theorem T_summer_eq (H : Sh sh) (P : Pt V) (C : CW V S) (hd : d < 2147483648) : T_summer 0 d (sh, V) = some (aSummer S d, (sh, V)) := by
  obtain ⟨K, M, -⟩ := C
  unfold T_summer aSummer
  by_cases h : d < 0
  · rw [if_pos h, if_pos h]
  · rw [if_neg h, if_neg h, bgt (by rw [k_0 H]), q_0_4 P, bgt (by rw [k_2 H]), q_2_0 P, bit (by rw [k_3 H]), Kg_isSummer_b H K (by omega) hd]
    simp only [B_0, ite_not, if_some2, if_B]
theorem T_summer_b (H : Sh sh) (P : Pt V) (C : CW V S) (hd : d < 2147483648) {γ : Type} {fZ : Int → Mem → Option γ} : bd2 (T_summer 0 d (sh, V)) fZ = fZ (aSummer S d) (sh, V) := by
  rw [T_summer_eq] <;> first | assumption | rfl
theorem M_summer_eq (H : Sh sh) (P : PM V) (hd : d < 2147483648) : M_summer 101 d (sh, setR V 102 S) = some (aSummer S d, (sh, setR (upV V 101 0 0) 102 S)) := by
  have P1 : PM (upV V 101 0 0) := by rw [PM_fld (by decide)]; exact P
  unfold M_summer aSummer
  rw [bp101 H]
  by_cases h : d < 0
  · rw [if_pos h, if_pos h]
  · rw [if_neg h, if_neg h, bi101 H, M_isSummer_b H P1 (by omega) hd]
    simp only [B_0, ite_not, if_some2, if_B]
theorem M_summer_b (H : Sh sh) (P : PM V) (hd : d < 2147483648) {γ : Type} {fZ : Int → Mem → Option γ} : bd2 (M_summer 101 d (sh, setR V 102 S)) fZ = fZ (aSummer S d) (sh, setR (upV V 101 0 0) 102 S) := by
  rw [M_summer_eq] <;> first | assumption | rfl
theorem T_fault_eq (H : Sh sh) : T_fault 0 k (sh, V) = some (if k = 0 then V 0 2 else if k = 1 then V 0 3 else -1, (sh, V)) := by
  unfold T_fault
  by_cases h : k = 0
  · rw [if_pos h, if_pos h, bgt (by rw [k_0 H])]
  · rw [if_neg h, if_neg h]
    by_cases h : k = 1
    · rw [if_pos h, if_pos h, bgt (by rw [k_0 H])]
    · rw [if_neg h, if_neg h]
theorem T_fault_b (H : Sh sh) {γ : Type} {fZ : Int → Mem → Option γ} : bd2 (T_fault 0 k (sh, V)) fZ = fZ (if k = 0 then V 0 2 else if k = 1 then V 0 3 else -1) (sh, V) := by
  rw [T_fault_eq] <;> first | assumption | rfl
theorem M_fault_eq (H : Sh sh) : M_fault 101 k (sh, setR V 102 S) = some (if k = 0 then V 101 13 else if k = 1 then V 101 14 else -1, (sh, setR (upV V 101 0 0) 102 S)) := by
  unfold M_fault
  rw [bp101 H]
  by_cases h : k = 0
  · rw [if_pos h, if_pos h, bg101 H, up_col (by decide)]
  · rw [if_neg h, if_neg h]
    by_cases h : k = 1
    · rw [if_pos h, if_pos h, bg101 H, up_col (by decide)]
    · rw [if_neg h, if_neg h]
theorem M_fault_b (H : Sh sh) {γ : Type} {fZ : Int → Mem → Option γ} : bd2 (M_fault 101 k (sh, setR V 102 S)) fZ = fZ (if k = 0 then V 101 13 else if k = 1 then V 101 14 else -1) (sh, setR (upV V 101 0 0) 102 S) := by
  rw [M_fault_eq] <;> first | assumption | rfl
end OPS
