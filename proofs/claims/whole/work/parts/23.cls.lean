/-! PURE: the class's world and its small methods -/
/-- the land -/
def CK (V : Int → Int → Int) (S : Int → Int) : Prop := V 3 0 = S 0 ∧ V 3 1 = S 1 ∧ V 3 2 = S 2 ∧ V 3 3 = S 3 ∧ V 3 4 = S 4 ∧ V 3 5 = S 5 ∧ V 3 6 = S 6 ∧ V 3 7 = S 7 ∧ ∀ r, 0 ≤ r → r < S 7 → V 4 r = S (8 + r) ∧ V 5 r = S (32 + r) ∧ V 6 r = S (56 + r) ∧ V 7 r = S (80 + r) ∧ V 8 r = S (104 + r)
def bitI (m r : Int) : Int := ((m.toNat / 2 ^ r.toNat % 2 : Nat) : Int)
theorem bitI_eq {m r : Int} (h0 : 0 ≤ m) (h1 : m < 2147483648) (h2 : 0 ≤ r) (h3 : r < 31) : and32 (shr32 m r) 1 = bitI m r := by
  have := bit_at (m := m.toNat) (r := r.toNat) (by omega) (by omega)
  rw [Int.toNat_of_nonneg h0, Int.toNat_of_nonneg h2] at this
  exact this
/-- the closed roads -/
def CM (V : Int → Int → Int) (S : Int → Int) : Prop := 0 ≤ V 2 4 ∧ V 2 4 < 16777216 ∧ ∀ r, 0 ≤ r → r < 24 → bitI (V 2 4) r = if r < S 7 then S (128 + r) else 0
/-- cells of the class that no pointer of the world's frame lies in -/
def cl (a : Int) : Prop := 11 ≤ a ∧ (a < 101 ∨ 131 ≤ a)
/-- a traveller at t with its slips in m, s, c, as S has it at i -/
def TrAt (sh : List (Nat × Nat)) (V : Int → Int → Int) (t m s c : Int) (S : Int → Int) (i : Int) : Prop :=
  ((kS sh t = (6, 9) ∧ kS sh m = (20, 40) ∧ kS sh s = (20, 40) ∧ kS sh c = (20, 40)) ∧ (11 ≤ t ∧ 11 ≤ m ∧ 11 ≤ s ∧ 11 ≤ c) ∧ (m ≠ s ∧ m ≠ c ∧ s ≠ c) ∧ V t 6 = m ∧ V t 7 = s ∧ V t 8 = c) ∧
  (V t 0 = S (153 + i) ∧ V t 1 = S (159 + i) ∧ V t 2 = S (165 + i) ∧ V t 3 = S (177 + i) ∧ V t 4 = S (183 + i) ∧ V t 5 = S (171 + i)) ∧ ∀ k, 0 ≤ k → k < S (171 + i) → V m k = S (189 + (40 * i + k)) ∧ V s k = S (429 + (40 * i + k)) ∧ V c k = S (669 + (40 * i + k))
section CLS
variable {sh : List (Nat × Nat)} {V : Int → Int → Int} {r t m s c i d k x a j w y : Int} {S : Int → Int} {n : Nat}
theorem Pt_row (h : ∀ q ∈ ptC, ¬ q.1 = a) : Pt (upV V a j x) = Pt V := by
  apply propext
  constructor
  · intro P q hq; have := P q hq; rw [up_row (h q hq)] at this; exact this
  · intro P q hq; rw [up_row (h q hq)]; exact P q hq
section BG
variable {γ : Type} {f : Int → Option γ} {f' : Mem → Option γ} {fu : Unit → Option γ}
theorem bgt (h : (kS sh a).1 = n) : bd (getf n k (sh, V) a) f = f (V a k) := by rw [getf_ok h]; rfl
theorem bpt (h : (kS sh a).1 = n) : bd (putf n k (sh, V) a x) f' = f' (sh, upV V a k x) := by rw [putf_ok h]; rfl
theorem bit (h : (kS sh a).1 = n) : bd (isk n (sh, V) a) fu = fu () := by rw [isk_ok h]; rfl
theorem blt (h : (kS sh a).1 = n) (h0 : 0 ≤ i) (h1 : i < ((kS sh a).2 : Int)) : bd (lda n (sh, V) a i) f = f (V a i) := by rw [lda_ok h h0 h1]; rfl
theorem bst (h : (kS sh a).1 = n) (h0 : 0 ≤ i) (h1 : i < ((kS sh a).2 : Int)) : bd (sta n (sh, V) a i x) f' = f' (sh, upV V a i x) := by rw [sta_ok h h0 h1]; rfl
end BG
theorem Kg_hasRoad_eq (H : Sh sh) (K : CK V S) : Kg_hasRoad 3 r (sh, V) = some (B (0 ≤ r ∧ r < S 7), (sh, V)) := by
  unfold Kg_hasRoad
  by_cases h : r < 0
  · rw [if_pos h, B_f (by omega)]
  · have hk := K.2.2.2.2.2.2.2.1
    rw [if_neg h, bgt (by rw [k_3 H]), hk]
    simp only [if_some2, if_B]
    congr 2
    unfold B
    by_cases h' : r < S 7
    · rw [if_pos h', if_pos (by omega)]
    · rw [if_neg h', if_neg (by omega)]
theorem Kg_hasRoad_b (H : Sh sh) (K : CK V S) {γ : Type} {fZ : Int → Mem → Option γ} : bd2 (Kg_hasRoad 3 r (sh, V)) fZ = fZ (B (0 ≤ r ∧ r < S 7)) (sh, V) := by
  rw [Kg_hasRoad_eq] <;> first | assumption | rfl
theorem Wo_isOpen_eq (H : Sh sh) (C : CM V S) (h0 : 0 ≤ r) (h1 : r < S 7) (h2 : S 7 ≤ 24) : Wo_isOpen 2 r (sh, V) = some (B (S (128 + r) = 0), (sh, V)) := by
  obtain ⟨c1, c2, c3⟩ := C
  unfold Wo_isOpen
  rw [bgt (by rw [k_2 H]), bitI_eq c1 (by omega) h0 (by omega)]
  rw [(c3 r h0 (by omega)).trans (if_pos h1)]
  simp only [if_some2, if_B]
theorem Wo_isOpen_b (H : Sh sh) (C : CM V S) (h0 : 0 ≤ r) (h1 : r < S 7) (h2 : S 7 ≤ 24) {γ : Type} {fZ : Int → Mem → Option γ} : bd2 (Wo_isOpen 2 r (sh, V)) fZ = fZ (B (S (128 + r) = 0)) (sh, V) := by
  rw [Wo_isOpen_eq] <;> first | assumption | rfl
theorem Kg_leadsFrom_eq (H : Sh sh) (P : Pt V) (K : CK V S) (h0 : 0 ≤ r) (h1 : r < S 7) (h2 : S 7 ≤ 24) : Kg_leadsFrom 3 r t (sh, V) = some (B (S (8 + r) = t ∨ S (32 + r) = t), (sh, V)) := by
  obtain ⟨-, -, -, -, -, -, -, -, kr⟩ := K
  obtain ⟨m1, m2, m3, m4, m5⟩ := kr r h0 h1
  unfold Kg_leadsFrom
  simp (disch := first | assumption | omega | (simp (disch := first | assumption | omega) only [k_2 H, k_3 H, k_4 H, k_5 H, k_6 H, k_7 H, k_8 H, k_9 H, k_10 H, up_eq, up_row, up_col, w32_id, q_2_0 P, q_2_1 P, q_2_2 P, q_3_8 P, q_3_9 P, q_3_10 P, q_3_11 P, q_3_12 P, m1, m2]; done) | (simp (disch := first | assumption | omega) only [k_2 H, k_3 H, k_4 H, k_5 H, k_6 H, k_7 H, k_8 H, k_9 H, k_10 H, up_eq, up_row, up_col, w32_id, q_2_0 P, q_2_1 P, q_2_2 P, q_3_8 P, q_3_9 P, q_3_10 P, q_3_11 P, q_3_12 P, m1, m2]; first | assumption | omega)) only [Int.reduceEq, Int.reduceLT, Int.reduceLE, Int.reduceAdd, Int.reduceSub, Int.reduceNeg, Int.reduceMul, ↓bd_mk, ↓bd2_mk, ↓bgt, ↓bpt, ↓bit, ↓blt, ↓bst, ↓bdiv, ↓brem, ↓bokz, ↓reduceIte, up_eq, up_row, up_col, w32_id, w64_id, if_B, if_some2, B_0, B_1, okz_B, ite_not, q_2_0 P, q_2_1 P, q_2_2 P, q_3_8 P, q_3_9 P, q_3_10 P, q_3_11 P, q_3_12 P, m1, m2]
  by_cases h : S (8 + r) = t <;> simp [h, B]
theorem Kg_leadsFrom_b (H : Sh sh) (P : Pt V) (K : CK V S) (h0 : 0 ≤ r) (h1 : r < S 7) (h2 : S 7 ≤ 24) {γ : Type} {fZ : Int → Mem → Option γ} : bd2 (Kg_leadsFrom 3 r t (sh, V)) fZ = fZ (B (S (8 + r) = t ∨ S (32 + r) = t)) (sh, V) := by
  rw [Kg_leadsFrom_eq] <;> first | assumption | rfl
theorem Kg_markOf_eq (H : Sh sh) (P : Pt V) (K : CK V S) (h0 : 0 ≤ r) (h1 : r < S 7) (h2 : S 7 ≤ 24) : Kg_markOf 3 r t (sh, V) = some (sDart S r t, (sh, V)) := by
  obtain ⟨-, -, -, -, -, -, -, -, kr⟩ := K
  obtain ⟨m1, m2, m3, m4, m5⟩ := kr r h0 h1
  unfold Kg_markOf sDart
  simp (disch := first | assumption | omega | (simp (disch := first | assumption | omega) only [k_2 H, k_3 H, k_4 H, k_5 H, k_6 H, k_7 H, k_8 H, k_9 H, k_10 H, up_eq, up_row, up_col, w32_id, q_2_0 P, q_2_1 P, q_2_2 P, q_3_8 P, q_3_9 P, q_3_10 P, q_3_11 P, q_3_12 P, m1, m2]; done) | (simp (disch := first | assumption | omega) only [k_2 H, k_3 H, k_4 H, k_5 H, k_6 H, k_7 H, k_8 H, k_9 H, k_10 H, up_eq, up_row, up_col, w32_id, q_2_0 P, q_2_1 P, q_2_2 P, q_3_8 P, q_3_9 P, q_3_10 P, q_3_11 P, q_3_12 P, m1, m2]; first | assumption | omega)) only [Int.reduceEq, Int.reduceLT, Int.reduceLE, Int.reduceAdd, Int.reduceSub, Int.reduceNeg, Int.reduceMul, ↓bd_mk, ↓bd2_mk, ↓bgt, ↓bpt, ↓bit, ↓blt, ↓bst, ↓bdiv, ↓brem, ↓bokz, ↓reduceIte, up_eq, up_row, up_col, w32_id, w64_id, if_B, if_some2, B_0, B_1, okz_B, ite_not, q_2_0 P, q_2_1 P, q_2_2 P, q_3_8 P, q_3_9 P, q_3_10 P, q_3_11 P, q_3_12 P, m1, m2]
theorem Kg_markOf_b (H : Sh sh) (P : Pt V) (K : CK V S) (h0 : 0 ≤ r) (h1 : r < S 7) (h2 : S 7 ≤ 24) {γ : Type} {fZ : Int → Mem → Option γ} : bd2 (Kg_markOf 3 r t (sh, V)) fZ = fZ (sDart S r t) (sh, V) := by
  rw [Kg_markOf_eq] <;> first | assumption | rfl
theorem Kg_startOf_eq (H : Sh sh) (P : Pt V) (K : CK V S) (h0 : 0 ≤ d) (h1 : d < 2 * S 7) (h2 : S 7 ≤ 24) : Kg_startOf 3 d (sh, V) = some (sTail S d, (sh, V)) := by
  obtain ⟨-, -, -, -, -, -, -, -, kr⟩ := K
  obtain ⟨m1, m2, m3, m4, m5⟩ := kr (d / 2) (by omega) (by omega)
  have e := shr1 h0 (by omega)
  unfold Kg_startOf sTail
  simp (disch := first | assumption | omega | (simp (disch := first | assumption | omega) only [k_2 H, k_3 H, k_4 H, k_5 H, k_6 H, k_7 H, k_8 H, k_9 H, k_10 H, up_eq, up_row, up_col, w32_id, q_2_0 P, q_2_1 P, q_2_2 P, q_3_8 P, q_3_9 P, q_3_10 P, q_3_11 P, q_3_12 P, and1, e, m1, m2]; done) | (simp (disch := first | assumption | omega) only [k_2 H, k_3 H, k_4 H, k_5 H, k_6 H, k_7 H, k_8 H, k_9 H, k_10 H, up_eq, up_row, up_col, w32_id, q_2_0 P, q_2_1 P, q_2_2 P, q_3_8 P, q_3_9 P, q_3_10 P, q_3_11 P, q_3_12 P, and1, e, m1, m2]; first | assumption | omega)) only [Int.reduceEq, Int.reduceLT, Int.reduceLE, Int.reduceAdd, Int.reduceSub, Int.reduceNeg, Int.reduceMul, ↓bd_mk, ↓bd2_mk, ↓bgt, ↓bpt, ↓bit, ↓blt, ↓bst, ↓bdiv, ↓brem, ↓bokz, ↓reduceIte, up_eq, up_row, up_col, w32_id, w64_id, if_B, if_some2, B_0, B_1, okz_B, ite_not, q_2_0 P, q_2_1 P, q_2_2 P, q_3_8 P, q_3_9 P, q_3_10 P, q_3_11 P, q_3_12 P, and1, e, m1, m2]
theorem Kg_startOf_b (H : Sh sh) (P : Pt V) (K : CK V S) (h0 : 0 ≤ d) (h1 : d < 2 * S 7) (h2 : S 7 ≤ 24) {γ : Type} {fZ : Int → Mem → Option γ} : bd2 (Kg_startOf 3 d (sh, V)) fZ = fZ (sTail S d) (sh, V) := by
  rw [Kg_startOf_eq] <;> first | assumption | rfl
theorem sXor_rng (h0 : 0 ≤ d) : 0 ≤ sXor d ∧ sXor d / 2 = d / 2 ∧ (sXor d % 2 = 0 ↔ ¬ d % 2 = 0) := by
  unfold sXor; split <;> omega
theorem sTail_xor (h0 : 0 ≤ d) : sTail S (sXor d) = sHead S d := by
  obtain ⟨h1, h2, h3⟩ := sXor_rng h0
  unfold sTail sHead
  rw [h2]
  by_cases q : d % 2 = 0
  · rw [if_neg (by omega), if_pos q]
  · rw [if_pos (by omega), if_neg q]
theorem Kg_endOf_eq (H : Sh sh) (P : Pt V) (K : CK V S) (h0 : 0 ≤ d) (h1 : d < 2 * S 7) (h2 : S 7 ≤ 24) : Kg_endOf 3 d (sh, V) = some (sHead S d, (sh, V)) := by
  obtain ⟨u1, u2, u3⟩ := sXor_rng h0
  have e : xor32 d 1 = sXor d := xor1 h0 (by omega)
  unfold Kg_endOf
  rw [bit (by rw [k_3 H]), e, Kg_startOf_b (S := S) H P K u1 (by omega) h2, sTail_xor h0]
theorem Kg_endOf_b (H : Sh sh) (P : Pt V) (K : CK V S) (h0 : 0 ≤ d) (h1 : d < 2 * S 7) (h2 : S 7 ≤ 24) {γ : Type} {fZ : Int → Mem → Option γ} : bd2 (Kg_endOf 3 d (sh, V)) fZ = fZ (sHead S d) (sh, V) := by
  rw [Kg_endOf_eq] <;> first | assumption | rfl
theorem J_floorMod_eq {μ : Mem} (h0 : 0 ≤ d) (h1 : d < 2147483648) : J_floorMod d 360 μ = some (d % 360, μ) := by
  have hx : ¬ xor32 d 360 < 0 := by
    have := xor_nat (a := d.toNat) (b := 360) (by omega) (by omega)
    rw [Int.toNat_of_nonneg h0] at this
    have e : xor32 d 360 = ((d.toNat ^^^ 360 : Nat) : Int) := this
    rw [e]; omega
  unfold J_floorMod
  rw [rem32_ok h0 h1 (by decide) (by decide), bd_mk, if_neg hx]
theorem J_floorMod_b {μ : Mem} (h0 : 0 ≤ d) (h1 : d < 2147483648) {γ : Type} {fZ : Int → Mem → Option γ} : bd2 (J_floorMod d 360 μ) fZ = fZ (d % 360) μ := by
  rw [J_floorMod_eq] <;> first | assumption | rfl
theorem Kg_isSummer_eq (H : Sh sh) (K : CK V S) (h0 : 0 ≤ d) (h1 : d < 2147483648) : Kg_isSummer 3 d (sh, V) = some (B (S 4 ≤ d % 360 ∧ d % 360 ≤ S 5), (sh, V)) := by
  obtain ⟨-, -, -, -, k4, k5, -⟩ := K
  unfold Kg_isSummer
  rw [J_floorMod_b h0 h1, bgt (by rw [k_3 H]), k4]
  by_cases q : d % 360 < S 4
  · rw [if_pos q, B_f (by omega)]
  · rw [if_neg q, bgt (by rw [k_3 H]), k5]
    by_cases q' : S 5 < d % 360
    · rw [if_pos q', B_f (by omega)]
    · rw [if_neg q', B_t (by omega)]
theorem Kg_isSummer_b (H : Sh sh) (K : CK V S) (h0 : 0 ≤ d) (h1 : d < 2147483648) {γ : Type} {fZ : Int → Mem → Option γ} : bd2 (Kg_isSummer 3 d (sh, V)) fZ = fZ (B (S 4 ≤ d % 360 ∧ d % 360 ≤ S 5)) (sh, V) := by
  rw [Kg_isSummer_eq] <;> first | assumption | rfl
theorem Kg_tollOn_eq (H : Sh sh) (P : Pt V) (K : CK V S) (h0 : 0 ≤ r) (h1 : r < S 7) (h2 : S 7 ≤ 24) (h3 : 0 ≤ d) (h4 : d < 2147483648) : Kg_tollOn 3 r d (sh, V) = some (sToll S r d, (sh, V)) := by
  have K' := K
  obtain ⟨-, -, -, -, -, -, -, -, kr⟩ := K
  obtain ⟨m1, m2, m3, m4, m5⟩ := kr r h0 h1
  unfold Kg_tollOn sToll
  rw [bit (by rw [k_3 H]), Kg_isSummer_b (S := S) H K' h3 h4]
  simp (disch := first | assumption | omega | (simp (disch := first | assumption | omega) only [k_2 H, k_3 H, k_4 H, k_5 H, k_6 H, k_7 H, k_8 H, k_9 H, k_10 H, up_eq, up_row, up_col, w32_id, q_2_0 P, q_2_1 P, q_2_2 P, q_3_8 P, q_3_9 P, q_3_10 P, q_3_11 P, q_3_12 P, m3, m4]; done) | (simp (disch := first | assumption | omega) only [k_2 H, k_3 H, k_4 H, k_5 H, k_6 H, k_7 H, k_8 H, k_9 H, k_10 H, up_eq, up_row, up_col, w32_id, q_2_0 P, q_2_1 P, q_2_2 P, q_3_8 P, q_3_9 P, q_3_10 P, q_3_11 P, q_3_12 P, m3, m4]; first | assumption | omega)) only [Int.reduceEq, Int.reduceLT, Int.reduceLE, Int.reduceAdd, Int.reduceSub, Int.reduceNeg, Int.reduceMul, ↓bd_mk, ↓bd2_mk, ↓bgt, ↓bpt, ↓bit, ↓blt, ↓bst, ↓bdiv, ↓brem, ↓bokz, ↓reduceIte, up_eq, up_row, up_col, w32_id, w64_id, if_B, if_some2, B_0, B_1, okz_B, ite_not, q_2_0 P, q_2_1 P, q_2_2 P, q_3_8 P, q_3_9 P, q_3_10 P, q_3_11 P, q_3_12 P, m3, m4]
theorem Kg_tollOn_b (H : Sh sh) (P : Pt V) (K : CK V S) (h0 : 0 ≤ r) (h1 : r < S 7) (h2 : S 7 ≤ 24) (h3 : 0 ≤ d) (h4 : d < 2147483648) {γ : Type} {fZ : Int → Mem → Option γ} : bd2 (Kg_tollOn 3 r d (sh, V)) fZ = fZ (sToll S r d) (sh, V) := by
  rw [Kg_tollOn_eq] <;> first | assumption | rfl
theorem Kg_worthOn_eq (H : Sh sh) (K : CK V S) (kt : kS sh t = (6, 9)) (ks : kS sh s = (20, 40)) (kc : kS sh c = (20, 40)) (hs : V t 7 = s) (hc : V t 8 = c) (h0 : 0 ≤ k) (h1 : k < 40) (hl : 0 ≤ S 3) (hl' : S 3 ≤ 100) (u1 : 0 ≤ V c k) (u2 : V c k ≤ 999) (u3 : 0 ≤ V s k) (u4 : V s k < 2000000000) (u5 : 0 ≤ d) (u6 : d < 2000000000) : Kg_worthOn 3 t k d (sh, V) = some (sWorth S (V c k) (V s k) d, (sh, V)) := by
  obtain ⟨-, -, k2, k3, -⟩ := K
  have hm : 0 ≤ V c k * S 3 := Int.mul_nonneg u1 hl
  have hm' : V c k * S 3 ≤ 999 * 100 := Int.mul_le_mul u2 hl' hl (by omega)
  unfold Kg_worthOn Kg_isLate sWorth
  simp only [↓bit (show (kS sh 3).1 = 1 by rw [k_3 H]), ↓bgt (show (kS sh 3).1 = 1 by rw [k_3 H]), ↓bgt (show (kS sh t).1 = 6 by rw [kt]), hs, hc, ↓blt (show (kS sh s).1 = 20 by rw [ks]) h0 (by rw [ks]; exact h1), ↓blt (show (kS sh c).1 = 20 by rw [kc]) h0 (by rw [kc]; exact h1), k2, k3, w32_id (x := d - V s k) (by omega) (by omega), if_some2, if_B, ↓bd2_mk, B_0, ite_not, w32_id (x := V c k * S 3) (by omega) (by omega), ↓bdiv (a := V c k * S 3) (b := 100) (by omega) (by omega) (by decide) (by decide)]
theorem Kg_worthOn_b (H : Sh sh) (K : CK V S) (kt : kS sh t = (6, 9)) (ks : kS sh s = (20, 40)) (kc : kS sh c = (20, 40)) (hs : V t 7 = s) (hc : V t 8 = c) (h0 : 0 ≤ k) (h1 : k < 40) (hl : 0 ≤ S 3) (hl' : S 3 ≤ 100) (u1 : 0 ≤ V c k) (u2 : V c k ≤ 999) (u3 : 0 ≤ V s k) (u4 : V s k < 2000000000) (u5 : 0 ≤ d) (u6 : d < 2000000000) {γ : Type} {fZ : Int → Mem → Option γ} : bd2 (Kg_worthOn 3 t k d (sh, V)) fZ = fZ (sWorth S (V c k) (V s k) d) (sh, V) := by
  rw [Kg_worthOn_eq] <;> first | assumption | rfl
/-- the class's traveller after paying, after having back, after a step -/
def cPay (V : Int → Int → Int) (t m s c : Int) (S : Int → Int) (i d x : Int) : Int → Int → Int := upV (upV (upV (upV (upV (upV V m (S (171 + i)) d) s (S (171 + i)) (S (159 + i))) c (S (171 + i)) x) t 5 (S (171 + i) + 1)) t 2 (w32 (S (165 + i) - x))) t 3 (w32 (S (177 + i) + x))
def cHad (V : Int → Int → Int) (t : Int) (S : Int → Int) (i x : Int) : Int → Int → Int := upV (upV (upV V t 5 (S (171 + i) - 1)) t 2 (w32 (S (165 + i) + x))) t 4 (w32 (S (183 + i) + x))
def cStep (V : Int → Int → Int) (t m s c : Int) (S : Int → Int) (i r : Int) : Int → Int → Int := upV (upV (if sBk S i r = 0 then cPay V t m s c S i (sDart S r (S (153 + i))) (sAmt S i r) else cHad V t S i (sAmt S i r)) t 0 (sHead S (sDart S r (S (153 + i))))) t 1 (S (159 + i) + S (104 + r))
theorem Pt_k (H : Sh sh) (h : (kS sh a).1 = 4 ∨ (kS sh a).1 = 6 ∨ (kS sh a).1 = 20 ∨ (kS sh a).1 = 21 ∨ (kS sh a).1 = 22 ∨ (kS sh a).1 = 23) : Pt (upV V a j x) = Pt V := by
  refine Pt_row (fun q hq e => ?_)
  have hx : ∀ q ∈ ptC, 0 ≤ q.1 ∧ q.1 < 131 ∧ (kS SH0 q.1).1 ≠ 4 ∧ (kS SH0 q.1).1 ≠ 6 ∧ (kS SH0 q.1).1 ≠ 20 ∧ (kS SH0 q.1).1 ≠ 21 ∧ (kS SH0 q.1).1 ≠ 22 ∧ (kS SH0 q.1).1 ≠ 23 := by decide +kernel
  obtain ⟨h0, h1, h2⟩ := hx q hq
  have hk : kS sh q.1 = kS SH0 q.1 := by
    have := Sh_k H (a := q.1.toNat) (by omega)
    rw [Int.toNat_of_nonneg h0] at this; exact this
  rw [← e, hk] at h
  omega
theorem CK_up (h : 11 ≤ a) : CK (upV V a j x) S = CK V S := by
  unfold CK; simp (disch := omega) only [up_row]
theorem CM_up (h : 11 ≤ a) : CM (upV V a j x) S = CM V S := by
  unfold CM; simp (disch := omega) only [up_row]
theorem step_tail (H : Sh sh) (P : Pt V) (K : CK V S) (KO : KOk S) (kt : kS sh t = (6, 9)) (ht : 11 ≤ t) (f1 : V t 1 = S (159 + i)) (v3 : 0 ≤ S (159 + i)) (v4 : S (159 + i) < 1900000000) (h0 : 0 ≤ d) (h1 : d < 2 * S 7) (h2 : 0 ≤ r) (h3 : r < S 7) {y19 : Int} :
    (bd (getf 10 0 (sh, V) 2) fun x25 =>
          bd (isk 1 (sh, V) x25) fun _ =>
          bd2 (Kg_endOf x25 d (sh, V)) fun x26 μ27 =>
          bd (putf 6 0 μ27 t x26) fun μ28 =>
          bd (getf 6 1 μ28 t) fun x29 =>
          bd (getf 10 0 μ28 2) fun x30 =>
          bd (getf 1 12 μ28 x30) fun x31 =>
          bd (lda 20 μ28 x31 r) fun x32 =>
          bd (putf 6 1 μ28 t (w32 (x29 + x32))) fun μ33 =>
          some (y19, μ33)) = some (y19, (sh, upV (upV V t 0 (sHead S d)) t 1 (S (159 + i) + S (104 + r)))) := by
  obtain ⟨z1, z2, z3, z4, z5, z6, z7, z8, z9, z10, z11, z12, z13, zr⟩ := KO
  obtain ⟨y1, y2, y3, y4, y5, y6, y7, y8, y9, y10, y11⟩ := zr r h2 h3
  have m5 := (K.2.2.2.2.2.2.2.2 r h2 h3).2.2.2.2
  have kt1 : (kS sh t).1 = 6 := by rw [kt]
  rw [bgt (by rw [k_2 H]), q_2_0 P, bit (by rw [k_3 H]), Kg_endOf_b H P K h0 h1 z4, bpt kt1, bgt kt1, up_col (by decide), f1, bgt (by rw [k_2 H]), up_row (by omega), q_2_0 P, bgt (by rw [k_3 H]), up_row (by omega), q_3_12 P, blt (by rw [k_8 H]) h2 (by rw [k_8 H]; show r < 24; omega), up_row (by omega), m5, bpt kt1, w32_id (by omega) (by omega)]
set_option maxHeartbeats 4000000 in
theorem Wo_pay_eq {D : Int} (H : Sh sh) (P : Pt V) (K : CK V S) (KO : KOk S) (T : TrAt sh V t m s c S i) (hD : D < 1900000000) (TO : TOk S D i) (h0 : 0 ≤ d) (h1 : d < 2 * S 7) : Wo_pay 2 t d (sh, V) = some (if S (165 + i) < sToll S (d / 2) (S (159 + i)) then -5 else if S (171 + i) = 40 then -4 else sToll S (d / 2) (S (159 + i)), (sh, if S (165 + i) < sToll S (d / 2) (S (159 + i)) then V else if S (171 + i) = 40 then V else cPay V t m s c S i d (sToll S (d / 2) (S (159 + i))))) := by
  obtain ⟨z1, z2, z3, z4, z5, z6, z7, z8, z9, z10, z11, z12, z13, zr⟩ := KO
  obtain ⟨⟨⟨kt, km, ks, kc⟩, ⟨t1, t2, t3, t4⟩, ⟨e1, e2, e3⟩, p6, p7, p8⟩, ⟨f0, f1, f2, f3, f4, f5⟩, sl⟩ := T
  obtain ⟨v1, v2, v3, v4, v5, v6, v7⟩ := TO
  have kt1 : (kS sh t).1 = 6 := by rw [kt]
  have n1 : t ≠ m := fun e => by rw [e, km] at kt; cases kt
  have n2 : t ≠ s := fun e => by rw [e, ks] at kt; cases kt
  have n3 : t ≠ c := fun e => by rw [e, kc] at kt; cases kt
  unfold Wo_pay
  rw [bgt (by rw [k_2 H]), q_2_0 P, bgt kt1, f1, bit (by rw [k_3 H]), shr1 h0 (by omega), Kg_tollOn_b H P K (by omega) (by omega) z4 v3 (by omega), bgt kt1, f2]
  by_cases g1 : S (165 + i) < sToll S (d / 2) (S (159 + i))
  · simp only [g1, ↓reduceIte]
  · simp only [g1, ↓reduceIte]
    rw [bgt kt1, f5]
    by_cases g2 : S (171 + i) = 40
    · rw [if_neg (by omega), if_pos g2, if_pos g2]
    · rw [if_pos (by omega), if_neg g2, if_neg g2, bgt kt1, f1, bit kt1]
      unfold Tr_push cPay
      rw [bgt kt1, f5, if_pos (by omega), bgt kt1, bgt kt1, f5, p6, bst (by rw [km]) v1 (by rw [km]; show S (171 + i) < 40; omega)]
      simp (disch := first | assumption | omega | (simp (disch := first | assumption | omega) only [k_2 H, k_3 H, k_4 H, k_5 H, k_6 H, k_7 H, k_8 H, k_9 H, k_10 H, up_eq, up_row, up_col, w32_id, q_2_0 P, q_2_1 P, q_2_2 P, q_3_8 P, q_3_9 P, q_3_10 P, q_3_11 P, q_3_12 P, kt, km, ks, kc, p6, p7, p8, f0, f1, f2, f3, f4, f5]; done) | (simp (disch := first | assumption | omega) only [k_2 H, k_3 H, k_4 H, k_5 H, k_6 H, k_7 H, k_8 H, k_9 H, k_10 H, up_eq, up_row, up_col, w32_id, q_2_0 P, q_2_1 P, q_2_2 P, q_3_8 P, q_3_9 P, q_3_10 P, q_3_11 P, q_3_12 P, kt, km, ks, kc, p6, p7, p8, f0, f1, f2, f3, f4, f5]; first | assumption | omega)) only [Int.reduceEq, Int.reduceLT, Int.reduceLE, Int.reduceAdd, Int.reduceSub, Int.reduceNeg, Int.reduceMul, ↓bd_mk, ↓bd2_mk, ↓bgt, ↓bpt, ↓bit, ↓blt, ↓bst, ↓bdiv, ↓brem, ↓bokz, ↓reduceIte, up_eq, up_row, up_col, w32_id, w64_id, if_B, if_some2, B_0, B_1, okz_B, ite_not, q_2_0 P, q_2_1 P, q_2_2 P, q_3_8 P, q_3_9 P, q_3_10 P, q_3_11 P, q_3_12 P, kt, km, ks, kc, p6, p7, p8, f0, f1, f2, f3, f4, f5]
theorem Wo_pay_b {D : Int} (H : Sh sh) (P : Pt V) (K : CK V S) (KO : KOk S) (T : TrAt sh V t m s c S i) (hD : D < 1900000000) (TO : TOk S D i) (h0 : 0 ≤ d) (h1 : d < 2 * S 7) {γ : Type} {fZ : Int → Mem → Option γ} : bd2 (Wo_pay 2 t d (sh, V)) fZ = fZ (if S (165 + i) < sToll S (d / 2) (S (159 + i)) then -5 else if S (171 + i) = 40 then -4 else sToll S (d / 2) (S (159 + i))) (sh, if S (165 + i) < sToll S (d / 2) (S (159 + i)) then V else if S (171 + i) = 40 then V else cPay V t m s c S i d (sToll S (d / 2) (S (159 + i)))) := by
  rw [Wo_pay_eq] <;> first | assumption | rfl
theorem Wo_haveBack_eq {D : Int} (H : Sh sh) (P : Pt V) (K : CK V S) (KO : KOk S) (T : TrAt sh V t m s c S i) (hD : D < 1900000000) (TO : TOk S D i) (h0 : 0 < S (171 + i)) : Wo_haveBack 2 t (sh, V) = some (1000 + sWorthOf S i (S (171 + i) - 1) (S (159 + i)), (sh, cHad V t S i (sWorthOf S i (S (171 + i) - 1) (S (159 + i))))) := by
  obtain ⟨z1, z2, z3, z4, z5, z6, z7, z8, z9, z10, z11, z12, z13, zr⟩ := KO
  obtain ⟨⟨⟨kt, km, ks, kc⟩, ⟨t1, t2, t3, t4⟩, ⟨e1, e2, e3⟩, p6, p7, p8⟩, ⟨f0, f1, f2, f3, f4, f5⟩, sl⟩ := T
  obtain ⟨v1, v2, v3, v4, v5, v6, v7⟩ := TO
  have kt1 : (kS sh t).1 = 6 := by rw [kt]
  have n2 : s ≠ t := fun e => by rw [← e, ks] at kt; cases kt
  have n3 : c ≠ t := fun e => by rw [← e, kc] at kt; cases kt
  obtain ⟨a1, a2, a3⟩ := sl (S (171 + i) - 1) (by omega) (by omega)
  obtain ⟨u1, u2, u3, u4, u5, u6⟩ := v7 (S (171 + i) - 1) (by omega) (by omega)
  have K1 : CK (upV V t 5 (S (171 + i) - 1)) S := by
    unfold CK at K ⊢
    simp (disch := omega) only [up_row]; exact K
  have hw := sWorth_rng (S := S) (p := S (669 + (40 * i + (S (171 + i) - 1)))) (d0 := S (429 + (40 * i + (S (171 + i) - 1)))) (d := S (159 + i)) z7 z8 u5 u6
  unfold Wo_haveBack
  rw [bgt kt1, f5, bpt kt1, w32_id (by omega) (by omega), bgt (by rw [k_2 H]), up_row (by omega), q_2_0 P, bgt kt1, up_eq, bgt kt1, up_col (by decide), f1, bit (by rw [k_3 H]), Kg_worthOn_b (S := S) (s := s) (c := c) H K1 kt ks kc (by rw [up_col (by decide)]; exact p7) (by rw [up_col (by decide)]; exact p8) (by omega) (by omega) z7 z8 (by rw [up_row n3, a3]; exact u5) (by rw [up_row n3, a3]; exact u6) (by rw [up_row n2, a2]; exact u3) (by rw [up_row n2, a2]; omega) v3 (by omega), up_row n3, up_row n2, a3, a2]
  unfold cHad sWorthOf
  simp (disch := first | assumption | omega | (simp (disch := first | assumption | omega) only [k_2 H, k_3 H, k_4 H, k_5 H, k_6 H, k_7 H, k_8 H, k_9 H, k_10 H, up_eq, up_row, up_col, w32_id, q_2_0 P, q_2_1 P, q_2_2 P, q_3_8 P, q_3_9 P, q_3_10 P, q_3_11 P, q_3_12 P, kt, f0, f1, f2, f3, f4, f5]; done) | (simp (disch := first | assumption | omega) only [k_2 H, k_3 H, k_4 H, k_5 H, k_6 H, k_7 H, k_8 H, k_9 H, k_10 H, up_eq, up_row, up_col, w32_id, q_2_0 P, q_2_1 P, q_2_2 P, q_3_8 P, q_3_9 P, q_3_10 P, q_3_11 P, q_3_12 P, kt, f0, f1, f2, f3, f4, f5]; first | assumption | omega)) only [Int.reduceEq, Int.reduceLT, Int.reduceLE, Int.reduceAdd, Int.reduceSub, Int.reduceNeg, Int.reduceMul, ↓bd_mk, ↓bd2_mk, ↓bgt, ↓bpt, ↓bit, ↓blt, ↓bst, ↓bdiv, ↓brem, ↓bokz, ↓reduceIte, up_eq, up_row, up_col, w32_id, w64_id, if_B, if_some2, B_0, B_1, okz_B, ite_not, q_2_0 P, q_2_1 P, q_2_2 P, q_3_8 P, q_3_9 P, q_3_10 P, q_3_11 P, q_3_12 P, kt, f0, f1, f2, f3, f4, f5]
theorem Wo_haveBack_b {D : Int} (H : Sh sh) (P : Pt V) (K : CK V S) (KO : KOk S) (T : TrAt sh V t m s c S i) (hD : D < 1900000000) (TO : TOk S D i) (h0 : 0 < S (171 + i)) {γ : Type} {fZ : Int → Mem → Option γ} : bd2 (Wo_haveBack 2 t (sh, V)) fZ = fZ (1000 + sWorthOf S i (S (171 + i) - 1) (S (159 + i))) (sh, cHad V t S i (sWorthOf S i (S (171 + i) - 1) (S (159 + i)))) := by
  rw [Wo_haveBack_eq] <;> first | assumption | rfl
set_option maxHeartbeats 4000000 in
theorem Wo_step_eq {D : Int} (H : Sh sh) (P : Pt V) (K : CK V S) (C : CM V S) (KO : KOk S) (T : TrAt sh V t m s c S i) (hD : D < 1900000000) (TO : TOk S D i) (h0 : 0 ≤ r) (h1 : r < S 7) : Wo_step 2 t r (sh, V) = some (if sRefuse S i r = 0 then sAns S i r else sRefuse S i r, (sh, if sRefuse S i r = 0 then cStep V t m s c S i r else V)) := by
  have hA := sAmt_rng KO TO h0 h1
  have KO' := KO
  obtain ⟨z1, z2, z3, z4, z5, z6, z7, z8, z9, z10, z11, z12, z13, zr⟩ := KO
  obtain ⟨y1, y2, y3, y4, y5, y6, y7, y8, y9, y10, y11⟩ := zr r h0 h1
  have hd := sDart_rng (S := S) (t := S (153 + i)) h0 (by omega : r < 24)
  have hd' : sDart S r (S (153 + i)) < 2 * S 7 := by unfold sDart; split <;> omega
  have K' := K
  have T' := T
  have TO' := TO
  obtain ⟨-, -, -, -, -, -, -, -, kr⟩ := K
  obtain ⟨m1, m2, m3, m4, m5⟩ := kr r h0 h1
  obtain ⟨⟨⟨kt, km, ks, kc⟩, ⟨t1, t2, t3, t4⟩, ⟨e1, e2, e3⟩, p6, p7, p8⟩, ⟨f0, f1, f2, f3, f4, f5⟩, sl⟩ := T
  obtain ⟨v1, v2, v3, v4, v5, v6, v7⟩ := TO
  have n1 : t ≠ m := fun e => by rw [e, km] at kt; cases kt
  have n2 : t ≠ s := fun e => by rw [e, ks] at kt; cases kt
  have n3 : t ≠ c := fun e => by rw [e, kc] at kt; cases kt
  have hr1 : B (0 ≤ r ∧ r < S 7) = 1 := B_t ⟨h0, h1⟩
  unfold Wo_step
  rw [bgt (by rw [k_2 H]), q_2_0 P, bit (by rw [k_3 H]), Kg_hasRoad_b H K', hr1, if_neg (by decide), bit (by rw [k_2 H]), Wo_isOpen_b H C h0 h1 z4]
  simp only [B_0, ite_not]
  unfold sRefuse
  by_cases g1 : S (128 + r) = 0
  · simp only [g1, ↓reduceIte]
    rw [bgt (by rw [k_2 H]), q_2_0 P, bgt (by rw [kt]), f0, bit (by rw [k_3 H]), Kg_leadsFrom_b H P K' h0 h1 z4]
    simp only [B_0, ite_not]
    by_cases g2 : S (8 + r) = S (153 + i) ∨ S (32 + r) = S (153 + i)
    · rw [if_pos g2, if_pos g2, bgt (by rw [k_2 H]), q_2_0 P, bgt (by rw [kt]), f0, bit (by rw [k_3 H]), Kg_markOf_b H P K' h0 h1 z4]
      have hb : (if 0 < V t 5 then bd (getf 6 6 (sh, V) t) fun x16 => bd (getf 6 5 (sh, V) t) fun x17 => bd (lda 20 (sh, V) x16 (w32 (x17 - 1))) fun x18 => if x18 = xor32 (sDart S r (S (153 + i))) 1 then some (1 : Int) else some 0 else some 0) = some (sBk S i r) := by
        unfold sBk
        rw [f5]
        by_cases g3 : 0 < S (171 + i)
        · rw [if_pos g3, bgt (by rw [kt]), bgt (by rw [kt]), f5, p6, w32_id (by omega) (by omega), blt (by rw [km]) (by omega) (by rw [km]; show S (171 + i) - 1 < 40; omega), (sl (S (171 + i) - 1) (by omega) (by omega)).1, xor1 (by omega) (by omega)]
          unfold B sXor
          by_cases g4 : S (189 + (40 * i + (S (171 + i) - 1))) = if sDart S r (S (153 + i)) % 2 = 0 then sDart S r (S (153 + i)) + 1 else sDart S r (S (153 + i)) - 1
          · rw [if_pos g4, if_pos ⟨g3, g4⟩]
          · rw [if_neg g4, if_neg (fun q => g4 q.2)]
        · rw [if_neg g3, B_f (fun q => g3 q.1)]
      rw [bgt (by rw [kt]), hb, bd_mk]
      have ed : sDart S r (S (153 + i)) / 2 = r := by unfold sDart; split <;> omega
      rcases sBk_01 S i r with q | q
      · have eA : sAmt S i r = sToll S r (S (159 + i)) := by unfold sAmt; rw [q]; rfl
        rw [q, if_pos rfl, if_pos rfl, bit (by rw [k_2 H]), Wo_pay_b H P K' KO' T' hD TO' hd.1 hd', ed]
        by_cases g5 : S (165 + i) < sToll S r (S (159 + i))
        · simp only [g5, ↓reduceIte, bd2_mk]; rfl
        · by_cases g6 : S (171 + i) = 40
          · simp only [g5, g6, ↓reduceIte, bd2_mk]; rfl
          · simp only [g5, g6, ↓reduceIte]
            rw [bd2_mk, if_neg (by omega)]
            unfold cStep sAns
            rw [q, if_pos rfl, if_pos rfl, eA]
            refine step_tail H ?_ ?_ KO' kt t1 ?_ v3 (by omega) hd.1 hd' h0 h1
            · unfold cPay; simp only [Pt_k H (a := t) (by rw [kt]; decide), Pt_k H (a := m) (by rw [km]; decide), Pt_k H (a := s) (by rw [ks]; decide), Pt_k H (a := c) (by rw [kc]; decide)]; exact P
            · unfold cPay; simp (disch := assumption) only [CK_up]; exact K'
            · unfold cPay; simp (disch := first | decide | assumption) only [up_col, up_row]; exact f1
      · have eA : sAmt S i r = sWorthOf S i (S (171 + i) - 1) (S (159 + i)) := by unfold sAmt; rw [q]; rfl
        rw [eA] at hA
        simp only [q, Int.reduceEq, ↓reduceIte]
        rw [bit (by rw [k_2 H]), Wo_haveBack_b H P K' KO' T' hD TO' (sBk_m q), bd2_mk, if_neg (by omega)]
        unfold cStep sAns
        simp only [q, Int.reduceEq, ↓reduceIte, eA]
        refine step_tail H ?_ ?_ KO' kt t1 ?_ v3 (by omega) hd.1 hd' h0 h1
        · unfold cHad; simp only [Pt_k H (a := t) (by rw [kt]; decide)]; exact P
        · unfold cHad; simp (disch := assumption) only [CK_up]; exact K'
        · unfold cHad; simp (disch := first | decide | assumption) only [up_col, up_row]; exact f1
    · rw [if_neg g2, if_neg g2]; rfl
  · simp only [g1, ↓reduceIte]; rfl
theorem Wo_step_b {D : Int} (H : Sh sh) (P : Pt V) (K : CK V S) (C : CM V S) (KO : KOk S) (T : TrAt sh V t m s c S i) (hD : D < 1900000000) (TO : TOk S D i) (h0 : 0 ≤ r) (h1 : r < S 7) {γ : Type} {fZ : Int → Mem → Option γ} : bd2 (Wo_step 2 t r (sh, V)) fZ = fZ (if sRefuse S i r = 0 then sAns S i r else sRefuse S i r) (sh, if sRefuse S i r = 0 then cStep V t m s c S i r else V) := by
  rw [Wo_step_eq] <;> first | assumption | rfl
end CLS
