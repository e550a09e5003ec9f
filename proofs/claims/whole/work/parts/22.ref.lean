/-! PURE: the words of the world, and the reference's small methods -/
def B (p : Prop) [Decidable p] : Int := if p then 1 else 0
theorem B_0 {p : Prop} [Decidable p] : (B p = 0) = ¬ p := by unfold B; by_cases h : p <;> simp [h]
theorem B_1 {p : Prop} [Decidable p] : (B p = 1) = p := by unfold B; by_cases h : p <;> simp [h]
theorem B_t {p : Prop} [Decidable p] (h : p) : B p = 1 := if_pos h
theorem B_f {p : Prop} [Decidable p] (h : ¬ p) : B p = 0 := if_neg h
theorem okz_B {p : Prop} [Decidable p] : okz (B p) = some () := by unfold okz B; by_cases h : p <;> simp [h]
theorem if_someB {p : Prop} [Decidable p] {μ : Mem} : (if p then some ((1 : Int), μ) else some (0, μ)) = some (B p, μ) := by unfold B; by_cases h : p <;> simp [h]
theorem if_some2 {α β : Type} {p : Prop} [Decidable p] {x y : α} {μ : β} : (if p then some (x, μ) else some (y, μ)) = some (if p then x else y, μ) := by by_cases h : p <;> simp [h]
theorem if_B {p : Prop} [Decidable p] : (if p then (1 : Int) else 0) = B p := rfl
abbrev sLeads (S : Int → Int) (r t : Int) : Prop := S (8 + r) = t ∨ S (32 + r) = t
def sDart (S : Int → Int) (r t : Int) : Int := if S (8 + r) = t then 2 * r else 2 * r + 1
def sHead (S : Int → Int) (d : Int) : Int := if d % 2 = 0 then S (32 + d / 2) else S (8 + d / 2)
def sTail (S : Int → Int) (d : Int) : Int := if d % 2 = 0 then S (8 + d / 2) else S (32 + d / 2)
abbrev sSummer (S : Int → Int) (d : Int) : Prop := S 4 ≤ d % 360 ∧ d % 360 ≤ S 5
def sToll (S : Int → Int) (r d : Int) : Int := if S 4 ≤ d % 360 ∧ d % 360 ≤ S 5 then S (80 + r) else S (56 + r)
def sWorth (S : Int → Int) (p d0 d : Int) : Int := if S 2 < d - d0 then p * S 3 / 100 else p
def sXor (d : Int) : Int := if d % 2 = 0 then d + 1 else d - 1
/-- 1: the going over r has the top slip back -/
def sBk (S : Int → Int) (i r : Int) : Int := B (0 < S (171 + i) ∧ S (189 + (40 * i + (S (171 + i) - 1))) = sXor (sDart S r (S (153 + i))))
theorem sBk_01 (S : Int → Int) (i r : Int) : sBk S i r = 0 ∨ sBk S i r = 1 := by unfold sBk B; split <;> simp
theorem sBk_m {S : Int → Int} {i r : Int} (h : sBk S i r = 1) : 0 < S (171 + i) := by unfold sBk at h; rw [B_1] at h; exact h.1
/-- what the world keeps to: the kingdom's numbers -/
def KOk (S : Int → Int) : Prop := 0 ≤ S 0 ∧ S 0 ≤ 12 ∧ 0 ≤ S 7 ∧ S 7 ≤ 24 ∧ 1 ≤ S 2 ∧ S 2 ≤ 360 ∧ 0 ≤ S 3 ∧ S 3 ≤ 100 ∧ 0 ≤ S 4 ∧ S 4 ≤ S 5 ∧ S 5 ≤ 359 ∧ (S 0 = 0 → S 7 = 0) ∧ (0 < S 0 → 0 ≤ S 1 ∧ S 1 < S 0) ∧
  ∀ r, 0 ≤ r → r < S 7 → 0 ≤ S (8 + r) ∧ S (8 + r) < S 0 ∧ 0 ≤ S (32 + r) ∧ S (32 + r) < S 0 ∧ S (8 + r) ≠ S (32 + r) ∧ 0 ≤ S (56 + r) ∧ S (56 + r) ≤ 999 ∧ 0 ≤ S (80 + r) ∧ S (80 + r) ≤ 999 ∧ 1 ≤ S (104 + r) ∧ S (104 + r) ≤ 90
/-- a row with one place changed; a memory with one row changed -/
def up (S : Int → Int) (j x : Int) : Int → Int := fun k => if k = j then x else S k
theorem upS_eq {S : Int → Int} {j x : Int} : up S j x j = x := if_pos rfl
theorem upS_ne {S : Int → Int} {j x k : Int} (h : k ≠ j) : up S j x k = S k := if_neg h
def setR (V : Int → Int → Int) (a : Int) (S : Int → Int) : Int → Int → Int := fun b j => if b = a then S j else V b j
section SETR
variable {V : Int → Int → Int} {a b j x : Int} {S S' : Int → Int}
theorem setR_self : setR V a (V a) = V := by funext b j; unfold setR; split <;> simp [*]
theorem setR_at : setR V a S a = S := by funext j; unfold setR; simp
theorem setR_ne (h : b ≠ a) : setR V a S b = V b := by funext j; unfold setR; simp [h]
theorem up_setR : upV (setR V a S) a j x = setR V a (up S j x) := by
  funext b k; unfold upV setR up; by_cases h : b = a <;> by_cases h' : k = j <;> simp [h, h']
theorem up_setR_ne (h : b ≠ a) : upV (setR V a S) b j x = setR (upV V b j x) a S := by
  funext c k; unfold upV setR; by_cases q : c = a
  · simp [q]; intro e; exact absurd e.symm h
  · simp [q]
theorem setR_setR : setR (setR V a S) a S' = setR V a S' := by funext b k; unfold setR; split <;> rfl
end SETR
section REF
variable {sh : List (Nat × Nat)} {V : Int → Int → Int} {r t i d k x : Int} {S : Int → Int}
theorem g101S (H : Sh sh) : getf 12 k (sh, setR V 102 S) 101 = some (V 101 k) := by rw [g101 H, setR_ne (by decide)]
theorem p101S (H : Sh sh) : putf 12 k (sh, setR V 102 S) 101 x = some (sh, setR (upV V 101 k x) 102 S) := by rw [p101 H, up_setR_ne (by decide)]
theorem l102S (H : Sh sh) (h0 : 0 ≤ i) (h1 : i < 4887) : lda 20 (sh, setR V 102 S) 102 i = some (S i) := by rw [l102 H h0 h1, setR_at]
theorem s102S (H : Sh sh) (h0 : 0 ≤ i) (h1 : i < 4887) : sta 20 (sh, setR V 102 S) 102 i x = some (sh, setR V 102 (up S i x)) := by rw [s102 H h0 h1, up_setR]
theorem PM_row {a j : Int} (h : ¬ a = 101) : PM (upV V a j x) = PM V := by
  have e : ∀ q ∈ ptM, q.1 = 101 := by decide
  apply propext
  constructor
  · intro P q hq; have := P q hq; rw [up_row (by rw [e q hq]; omega)] at this; exact this
  · intro P q hq; rw [up_row (by rw [e q hq]; omega)]; exact P q hq
theorem PM_fld (h : (ptM.all fun q => !(q.2.1 == k)) = true) : PM (upV V 101 k x) = PM V := by
  have e : ∀ q ∈ ptM, q.2.1 ≠ k := fun q hq => by have := List.all_eq_true.mp h q hq; simpa using this
  apply propext
  constructor
  · intro P q hq; have := P q hq; rw [up_col (e q hq)] at this; exact this
  · intro P q hq; rw [up_col (e q hq)]; exact P q hq
section BG
variable {γ : Type} {f : Int → Option γ} {f' : Mem → Option γ} {fu : Unit → Option γ}
theorem bg101 (H : Sh sh) : bd (getf 12 k (sh, setR V 102 S) 101) f = f (V 101 k) := by rw [g101S H]; rfl
theorem bp101 (H : Sh sh) : bd (putf 12 k (sh, setR V 102 S) 101 x) f' = f' (sh, setR (upV V 101 k x) 102 S) := by rw [p101S H]; rfl
theorem bi101 (H : Sh sh) : bd (isk 12 (sh, V) 101) fu = fu () := by rw [i101 H]; rfl
theorem bl102 (H : Sh sh) (h0 : 0 ≤ i) (h1 : i < 4887) : bd (lda 20 (sh, setR V 102 S) 102 i) f = f (S i) := by rw [l102S H h0 h1]; rfl
theorem bs102 (H : Sh sh) (h0 : 0 ≤ i) (h1 : i < 4887) : bd (sta 20 (sh, setR V 102 S) 102 i x) f' = f' (sh, setR V 102 (up S i x)) := by rw [s102S H h0 h1]; rfl
theorem blp (P : PM V) (H : Sh sh) (h0 : 0 ≤ i) (h1 : i < 4887) : bd (lda 20 (sh, setR V 102 S) (V 101 1) i) f = f (S i) := by rw [q_101_1 P, l102S H h0 h1]; rfl
theorem bsp (P : PM V) (H : Sh sh) (h0 : 0 ≤ i) (h1 : i < 4887) : bd (sta 20 (sh, setR V 102 S) (V 101 1) i x) f' = f' (sh, setR V 102 (up S i x)) := by rw [q_101_1 P, s102S H h0 h1]; rfl
theorem bdiv {a b : Int} (ha : 0 ≤ a) (ha' : a < 2147483648) (hb : 0 < b) (hb' : b < 2147483648) : bd (div32 a b) f = f (a / b) := by rw [div32_ok ha ha' hb hb']; rfl
theorem brem {a b : Int} (ha : 0 ≤ a) (ha' : a < 2147483648) (hb : 0 < b) (hb' : b < 2147483648) : bd (rem32 a b) f = f (a % b) := by rw [rem32_ok ha ha' hb hb']; rfl
theorem bokz {p : Prop} [Decidable p] : bd (okz (B p)) fu = fu () := by rw [okz_B]; rfl
end BG
theorem M_isOpen_eq (H : Sh sh) (P : PM V) (h0 : 0 ≤ r) (h1 : r < 24) : M_isOpen 101 r (sh, setR V 102 S) = some (B (S (128 + r) = 0), (sh, setR V 102 S)) := by
  unfold M_isOpen; simp (disch := first | assumption | omega | (simp (disch := first | omega | decide) only [w32_id, upS_eq, upS_ne, PM_row, PM_fld]; first | assumption | omega)) only [Int.reduceEq, Int.reduceLT, Int.reduceLE, Int.reduceAdd, Int.reduceSub, Int.reduceNeg, Int.reduceMul, ↓bd_mk, ↓bd2_mk, ↓bg101, ↓bp101, ↓bi101, ↓bl102, ↓bs102, ↓blp, ↓bsp, ↓bdiv, ↓brem, ↓bokz, ↓reduceIte, upS_eq, upS_ne, w32_id, w64_id, if_B, if_some2, B_0, B_1, okz_B, ite_not]
theorem M_isOpen_b (H : Sh sh) (P : PM V) (h0 : 0 ≤ r) (h1 : r < 24) {γ : Type} {fZ : Int → Mem → Option γ} : bd2 (M_isOpen 101 r (sh, setR V 102 S)) fZ = fZ (B (S (128 + r) = 0)) (sh, setR V 102 S) := by
  rw [M_isOpen_eq] <;> first | assumption | rfl
theorem M_leads_eq (H : Sh sh) (P : PM V) (h0 : 0 ≤ r) (h1 : r < 24) : M_leads 101 r t (sh, setR V 102 S) = some (B (S (8 + r) = t ∨ S (32 + r) = t), (sh, setR V 102 S)) := by
  unfold M_leads; simp (disch := first | assumption | omega | (simp (disch := first | omega | decide) only [w32_id, upS_eq, upS_ne, PM_row, PM_fld]; first | assumption | omega)) only [Int.reduceEq, Int.reduceLT, Int.reduceLE, Int.reduceAdd, Int.reduceSub, Int.reduceNeg, Int.reduceMul, ↓bd_mk, ↓bd2_mk, ↓bg101, ↓bp101, ↓bi101, ↓bl102, ↓bs102, ↓blp, ↓bsp, ↓bdiv, ↓brem, ↓bokz, ↓reduceIte, upS_eq, upS_ne, w32_id, w64_id, if_B, if_some2, B_0, B_1, okz_B, ite_not]
  by_cases h : S (8 + r) = t <;> simp [h, B]
theorem M_leads_b (H : Sh sh) (P : PM V) (h0 : 0 ≤ r) (h1 : r < 24) {γ : Type} {fZ : Int → Mem → Option γ} : bd2 (M_leads 101 r t (sh, setR V 102 S)) fZ = fZ (B (S (8 + r) = t ∨ S (32 + r) = t)) (sh, setR V 102 S) := by
  rw [M_leads_eq] <;> first | assumption | rfl
theorem M_dartBy_eq (H : Sh sh) (P : PM V) (h0 : 0 ≤ r) (h1 : r < 24) : M_dartBy 101 r t (sh, setR V 102 S) = some (sDart S r t, (sh, setR V 102 S)) := by
  unfold M_dartBy sDart; simp (disch := first | assumption | omega | (simp (disch := first | omega | decide) only [w32_id, upS_eq, upS_ne, PM_row, PM_fld]; first | assumption | omega)) only [Int.reduceEq, Int.reduceLT, Int.reduceLE, Int.reduceAdd, Int.reduceSub, Int.reduceNeg, Int.reduceMul, ↓bd_mk, ↓bd2_mk, ↓bg101, ↓bp101, ↓bi101, ↓bl102, ↓bs102, ↓blp, ↓bsp, ↓bdiv, ↓brem, ↓bokz, ↓reduceIte, upS_eq, upS_ne, w32_id, w64_id, if_B, if_some2, B_0, B_1, okz_B, ite_not]
theorem M_dartBy_b (H : Sh sh) (P : PM V) (h0 : 0 ≤ r) (h1 : r < 24) {γ : Type} {fZ : Int → Mem → Option γ} : bd2 (M_dartBy 101 r t (sh, setR V 102 S)) fZ = fZ (sDart S r t) (sh, setR V 102 S) := by
  rw [M_dartBy_eq] <;> first | assumption | rfl
theorem M_headOf_eq (H : Sh sh) (P : PM V) (h0 : 0 ≤ d) (h1 : d < 48) : M_headOf 101 d (sh, setR V 102 S) = some (sHead S d, (sh, setR V 102 S)) := by
  unfold M_headOf sHead; simp (disch := first | assumption | omega | (simp (disch := first | omega | decide) only [w32_id, upS_eq, upS_ne, PM_row, PM_fld]; first | assumption | omega)) only [Int.reduceEq, Int.reduceLT, Int.reduceLE, Int.reduceAdd, Int.reduceSub, Int.reduceNeg, Int.reduceMul, ↓bd_mk, ↓bd2_mk, ↓bg101, ↓bp101, ↓bi101, ↓bl102, ↓bs102, ↓blp, ↓bsp, ↓bdiv, ↓brem, ↓bokz, ↓reduceIte, upS_eq, upS_ne, w32_id, w64_id, if_B, if_some2, B_0, B_1, okz_B, ite_not]
theorem M_headOf_b (H : Sh sh) (P : PM V) (h0 : 0 ≤ d) (h1 : d < 48) {γ : Type} {fZ : Int → Mem → Option γ} : bd2 (M_headOf 101 d (sh, setR V 102 S)) fZ = fZ (sHead S d) (sh, setR V 102 S) := by
  rw [M_headOf_eq] <;> first | assumption | rfl
theorem M_tailOf_eq (H : Sh sh) (P : PM V) (h0 : 0 ≤ d) (h1 : d < 48) : M_tailOf 101 d (sh, setR V 102 S) = some (sTail S d, (sh, setR V 102 S)) := by
  unfold M_tailOf sTail; simp (disch := first | assumption | omega | (simp (disch := first | omega | decide) only [w32_id, upS_eq, upS_ne, PM_row, PM_fld]; first | assumption | omega)) only [Int.reduceEq, Int.reduceLT, Int.reduceLE, Int.reduceAdd, Int.reduceSub, Int.reduceNeg, Int.reduceMul, ↓bd_mk, ↓bd2_mk, ↓bg101, ↓bp101, ↓bi101, ↓bl102, ↓bs102, ↓blp, ↓bsp, ↓bdiv, ↓brem, ↓bokz, ↓reduceIte, upS_eq, upS_ne, w32_id, w64_id, if_B, if_some2, B_0, B_1, okz_B, ite_not]
theorem M_tailOf_b (H : Sh sh) (P : PM V) (h0 : 0 ≤ d) (h1 : d < 48) {γ : Type} {fZ : Int → Mem → Option γ} : bd2 (M_tailOf 101 d (sh, setR V 102 S)) fZ = fZ (sTail S d) (sh, setR V 102 S) := by
  rw [M_tailOf_eq] <;> first | assumption | rfl
theorem cmp_lt {a b : Int} : (cmp64 a b < 0) = (a < b) := by unfold cmp64; apply propext; split <;> (try split) <;> omega
theorem cmp_gt {a b : Int} : (0 < cmp64 a b) = (b < a) := by unfold cmp64; apply propext; split <;> (try split) <;> omega
theorem cmp_ge {a b : Int} : (0 ≤ cmp64 a b) = (b ≤ a) := by unfold cmp64; apply propext; split <;> (try split) <;> omega
theorem cmp_le {a b : Int} : (cmp64 a b ≤ 0) = (a ≤ b) := by unfold cmp64; apply propext; split <;> (try split) <;> omega
theorem cmp_eq {a b : Int} : (cmp64 a b = 0) = (a = b) := by unfold cmp64; apply propext; split <;> (try split) <;> omega
theorem M_within_eq {x a b : Int} {μ : Mem} : M_within x a b μ = some (B (a ≤ x ∧ x ≤ b), μ) := by
  unfold M_within; simp only [cmp_lt, cmp_gt]
  by_cases h : x < a
  · rw [if_pos h, B_f (by omega)]
  · rw [if_neg h]
    by_cases h' : b < x
    · rw [if_pos h', B_f (by omega)]
    · rw [if_neg h', B_t (by omega)]
theorem M_within_b {x a b : Int} {μ : Mem} {γ : Type} {fZ : Int → Mem → Option γ} : bd2 (M_within x a b μ) fZ = fZ (B (a ≤ x ∧ x ≤ b)) μ := by
  rw [M_within_eq] <;> first | assumption | rfl
theorem M_isSummer_eq (H : Sh sh) (P : PM V) (h0 : 0 ≤ d) (h1 : d < 2147483648) : M_isSummer 101 d (sh, setR V 102 S) = some (B (S 4 ≤ d % 360 ∧ d % 360 ≤ S 5), (sh, setR V 102 S)) := by
  unfold M_isSummer; simp (disch := first | assumption | omega | (simp (disch := first | omega | decide) only [w32_id, upS_eq, upS_ne, PM_row, PM_fld]; first | assumption | omega)) only [Int.reduceEq, Int.reduceLT, Int.reduceLE, Int.reduceAdd, Int.reduceSub, Int.reduceNeg, Int.reduceMul, ↓bd_mk, ↓bd2_mk, ↓bg101, ↓bp101, ↓bi101, ↓bl102, ↓bs102, ↓blp, ↓bsp, ↓bdiv, ↓brem, ↓bokz, ↓reduceIte, upS_eq, upS_ne, w32_id, w64_id, if_B, if_some2, B_0, B_1, okz_B, ite_not, ↓M_within_b]
theorem M_isSummer_b (H : Sh sh) (P : PM V) (h0 : 0 ≤ d) (h1 : d < 2147483648) {γ : Type} {fZ : Int → Mem → Option γ} : bd2 (M_isSummer 101 d (sh, setR V 102 S)) fZ = fZ (B (S 4 ≤ d % 360 ∧ d % 360 ≤ S 5)) (sh, setR V 102 S) := by
  rw [M_isSummer_eq] <;> first | assumption | rfl
theorem M_tollOn_eq (H : Sh sh) (P : PM V) (h0 : 0 ≤ r) (h1 : r < 24) (h2 : 0 ≤ d) (h3 : d < 2147483648) : M_tollOn 101 r d (sh, setR V 102 S) = some (sToll S r d, (sh, setR V 102 S)) := by
  unfold M_tollOn sToll; simp (disch := first | assumption | omega | (simp (disch := first | omega | decide) only [w32_id, upS_eq, upS_ne, PM_row, PM_fld]; first | assumption | omega)) only [Int.reduceEq, Int.reduceLT, Int.reduceLE, Int.reduceAdd, Int.reduceSub, Int.reduceNeg, Int.reduceMul, ↓bd_mk, ↓bd2_mk, ↓bg101, ↓bp101, ↓bi101, ↓bl102, ↓bs102, ↓blp, ↓bsp, ↓bdiv, ↓brem, ↓bokz, ↓reduceIte, upS_eq, upS_ne, w32_id, w64_id, if_B, if_some2, B_0, B_1, okz_B, ite_not, ↓M_isSummer_b]
theorem M_tollOn_b (H : Sh sh) (P : PM V) (h0 : 0 ≤ r) (h1 : r < 24) (h2 : 0 ≤ d) (h3 : d < 2147483648) {γ : Type} {fZ : Int → Mem → Option γ} : bd2 (M_tollOn 101 r d (sh, setR V 102 S)) fZ = fZ (sToll S r d) (sh, setR V 102 S) := by
  rw [M_tollOn_eq] <;> first | assumption | rfl
theorem M_worthOn_eq {p d0 : Int} (H : Sh sh) (P : PM V) (hp : 0 ≤ p) (hp' : p ≤ 999) (hl : 0 ≤ S 3) (hl' : S 3 ≤ 100) (h0 : 0 ≤ d0) (h1 : d0 < 2147483648) (h2 : 0 ≤ d) (h3 : d < 2147483648) : M_worthOn 101 p d0 d (sh, setR V 102 S) = some (sWorth S p d0 d, (sh, setR V 102 S)) := by
  have hm : 0 ≤ p * S 3 := Int.mul_nonneg hp hl
  have hm' : p * S 3 ≤ 999 * 100 := Int.mul_le_mul hp' hl' hl (by omega)
  unfold M_worthOn sWorth; simp (disch := first | assumption | omega | (simp (disch := first | omega | decide) only [w32_id, upS_eq, upS_ne, PM_row, PM_fld]; first | assumption | omega)) only [Int.reduceEq, Int.reduceLT, Int.reduceLE, Int.reduceAdd, Int.reduceSub, Int.reduceNeg, Int.reduceMul, ↓bd_mk, ↓bd2_mk, ↓bg101, ↓bp101, ↓bi101, ↓bl102, ↓bs102, ↓blp, ↓bsp, ↓bdiv, ↓brem, ↓bokz, ↓reduceIte, upS_eq, upS_ne, w32_id, w64_id, if_B, if_some2, B_0, B_1, okz_B, ite_not, cmp_gt]
theorem M_worthOn_b {p d0 : Int} (H : Sh sh) (P : PM V) (hp : 0 ≤ p) (hp' : p ≤ 999) (hl : 0 ≤ S 3) (hl' : S 3 ≤ 100) (h0 : 0 ≤ d0) (h1 : d0 < 2147483648) (h2 : 0 ≤ d) (h3 : d < 2147483648) {γ : Type} {fZ : Int → Mem → Option γ} : bd2 (M_worthOn 101 p d0 d (sh, setR V 102 S)) fZ = fZ (sWorth S p d0 d) (sh, setR V 102 S) := by
  rw [M_worthOn_eq] <;> first | assumption | rfl
theorem sDart_rng (h0 : 0 ≤ r) (h1 : r < 24) : 0 ≤ sDart S r t ∧ sDart S r t < 48 := by unfold sDart; split <;> omega
theorem M_slipAt_eq {k : Int} {μ : Mem} (h0 : 0 ≤ i) (h1 : i < 6) (h2 : 0 ≤ k) (h3 : k ≤ 40) : M_slipAt i k μ = some (40 * i + k, μ) := by
  unfold M_slipAt; simp (disch := omega) only [w32_id]
theorem M_slipAt_b {k : Int} {μ : Mem} (h0 : 0 ≤ i) (h1 : i < 6) (h2 : 0 ≤ k) (h3 : k ≤ 40) {γ : Type} {fZ : Int → Mem → Option γ} : bd2 (M_slipAt i k μ) fZ = fZ (40 * i + k) μ := by
  rw [M_slipAt_eq] <;> first | assumption | rfl
theorem M_hasBack_eq (H : Sh sh) (P : PM V) (h0 : 0 ≤ r) (h1 : r < 24) (h2 : 0 ≤ i) (h3 : i < 6) (h4 : S (171 + i) ≤ 40) : M_hasBack 101 i r (sh, setR V 102 S) = some (sBk S i r, (sh, setR V 102 S)) := by
  have hd := sDart_rng (S := S) (t := S (153 + i)) h0 h1
  unfold M_hasBack
  by_cases hm : 0 < S (171 + i)
  · simp (disch := first | assumption | omega | (simp (disch := first | omega | decide) only [w32_id, upS_eq, upS_ne, PM_row, PM_fld]; first | assumption | omega)) only [Int.reduceEq, Int.reduceLT, Int.reduceLE, Int.reduceAdd, Int.reduceSub, Int.reduceNeg, Int.reduceMul, ↓bd_mk, ↓bd2_mk, ↓bg101, ↓bp101, ↓bi101, ↓bl102, ↓bs102, ↓blp, ↓bsp, ↓bdiv, ↓brem, ↓bokz, ↓reduceIte, upS_eq, upS_ne, w32_id, w64_id, if_B, if_some2, B_0, B_1, okz_B, ite_not, hm, ↓M_slipAt_b, ↓M_dartBy_b, xor1]
    unfold sBk B sXor; simp only [hm, true_and]
  · simp (disch := first | assumption | omega | (simp (disch := first | omega | decide) only [w32_id, upS_eq, upS_ne, PM_row, PM_fld]; first | assumption | omega)) only [Int.reduceEq, Int.reduceLT, Int.reduceLE, Int.reduceAdd, Int.reduceSub, Int.reduceNeg, Int.reduceMul, ↓bd_mk, ↓bd2_mk, ↓bg101, ↓bp101, ↓bi101, ↓bl102, ↓bs102, ↓blp, ↓bsp, ↓bdiv, ↓brem, ↓bokz, ↓reduceIte, upS_eq, upS_ne, w32_id, w64_id, if_B, if_some2, B_0, B_1, okz_B, ite_not, hm]
    unfold sBk; rw [B_f (fun h => hm h.1)]
theorem M_hasBack_b (H : Sh sh) (P : PM V) (h0 : 0 ≤ r) (h1 : r < 24) (h2 : 0 ≤ i) (h3 : i < 6) (h4 : S (171 + i) ≤ 40) {γ : Type} {fZ : Int → Mem → Option γ} : bd2 (M_hasBack 101 i r (sh, setR V 102 S)) fZ = fZ (sBk S i r) (sh, setR V 102 S) := by
  rw [M_hasBack_eq] <;> first | assumption | rfl
/-- why a going over r is refused; 0: it isn't -/
def sRefuse (S : Int → Int) (i r : Int) : Int := if S (128 + r) = 0 then (if S (8 + r) = S (153 + i) ∨ S (32 + r) = S (153 + i) then (if sBk S i r = 0 then (if S (165 + i) < sToll S r (S (159 + i)) then -5 else if S (171 + i) = 40 then -4 else 0) else 0) else -9) else -8
/-- the ranges of one traveller -/
def TOk (S : Int → Int) (D i : Int) : Prop := 0 ≤ S (171 + i) ∧ S (171 + i) ≤ 40 ∧ 0 ≤ S (159 + i) ∧ S (159 + i) ≤ D ∧ 0 ≤ S (153 + i) ∧ S (153 + i) < S 0 ∧ ∀ k, 0 ≤ k → k < S (171 + i) → 0 ≤ S (189 + (40 * i + k)) ∧ S (189 + (40 * i + k)) < 2 * S 7 ∧ 0 ≤ S (429 + (40 * i + k)) ∧ S (429 + (40 * i + k)) ≤ D ∧ 0 ≤ S (669 + (40 * i + k)) ∧ S (669 + (40 * i + k)) ≤ 999
theorem M_refuses_eq {D : Int} (H : Sh sh) (P : PM V) (hD : D < 2000000000) (T : TOk S D i) (h0 : 0 ≤ r) (h1 : r < 24) (h2 : 0 ≤ i) (h3 : i < 6) : M_refuses 101 i r (sh, setR V 102 S) = some (sRefuse S i r, (sh, setR V 102 S)) := by
  obtain ⟨t1, t2, t3, t4, -⟩ := T
  unfold M_refuses sRefuse
  simp (disch := first | assumption | omega | (simp (disch := first | omega | decide) only [w32_id, upS_eq, upS_ne, PM_row, PM_fld]; first | assumption | omega)) only [Int.reduceEq, Int.reduceLT, Int.reduceLE, Int.reduceAdd, Int.reduceSub, Int.reduceNeg, Int.reduceMul, ↓bd_mk, ↓bd2_mk, ↓bg101, ↓bp101, ↓bi101, ↓bl102, ↓bs102, ↓blp, ↓bsp, ↓bdiv, ↓brem, ↓bokz, ↓reduceIte, upS_eq, upS_ne, w32_id, w64_id, if_B, if_some2, B_0, B_1, okz_B, ite_not, ↓M_isOpen_b, ↓M_leads_b, ↓M_hasBack_b, ↓M_tollOn_b]
theorem M_refuses_b {D : Int} (H : Sh sh) (P : PM V) (hD : D < 2000000000) (T : TOk S D i) (h0 : 0 ≤ r) (h1 : r < 24) (h2 : 0 ≤ i) (h3 : i < 6) {γ : Type} {fZ : Int → Mem → Option γ} : bd2 (M_refuses 101 i r (sh, setR V 102 S)) fZ = fZ (sRefuse S i r) (sh, setR V 102 S) := by
  rw [M_refuses_eq] <;> first | assumption | rfl
def sWorthOf (S : Int → Int) (i k d : Int) : Int := sWorth S (S (669 + (40 * i + k))) (S (429 + (40 * i + k))) d
theorem M_worthOf_eq {D k : Int} (H : Sh sh) (P : PM V) (hD : D < 2000000000) (T : TOk S D i) (hl : 0 ≤ S 3) (hl' : S 3 ≤ 100) (h2 : 0 ≤ i) (h3 : i < 6) (hk : 0 ≤ k) (hk' : k < S (171 + i)) (hd : 0 ≤ d) (hd' : d < 2147483648) : M_worthOf 101 i k d (sh, setR V 102 S) = some (sWorthOf S i k d, (sh, setR V 102 S)) := by
  obtain ⟨t1, t2, t3, t4, -, -, t5⟩ := T
  obtain ⟨u1, u2, u3, u4, u5, u6⟩ := t5 k hk hk'
  unfold M_worthOf sWorthOf
  simp (disch := first | assumption | omega | (simp (disch := first | omega | decide) only [w32_id, upS_eq, upS_ne, PM_row, PM_fld]; first | assumption | omega)) only [Int.reduceEq, Int.reduceLT, Int.reduceLE, Int.reduceAdd, Int.reduceSub, Int.reduceNeg, Int.reduceMul, ↓bd_mk, ↓bd2_mk, ↓bg101, ↓bp101, ↓bi101, ↓bl102, ↓bs102, ↓blp, ↓bsp, ↓bdiv, ↓brem, ↓bokz, ↓reduceIte, upS_eq, upS_ne, w32_id, w64_id, if_B, if_some2, B_0, B_1, okz_B, ite_not, ↓M_slipAt_b, ↓M_worthOn_b]
theorem M_worthOf_b {D k : Int} (H : Sh sh) (P : PM V) (hD : D < 2000000000) (T : TOk S D i) (hl : 0 ≤ S 3) (hl' : S 3 ≤ 100) (h2 : 0 ≤ i) (h3 : i < 6) (hk : 0 ≤ k) (hk' : k < S (171 + i)) (hd : 0 ≤ d) (hd' : d < 2147483648) {γ : Type} {fZ : Int → Mem → Option γ} : bd2 (M_worthOf 101 i k d (sh, setR V 102 S)) fZ = fZ (sWorthOf S i k d) (sh, setR V 102 S) := by
  rw [M_worthOf_eq] <;> first | assumption | rfl
/-- what is paid or had back -/
def sAmt (S : Int → Int) (i r : Int) : Int := if sBk S i r = 0 then sToll S r (S (159 + i)) else sWorthOf S i (S (171 + i) - 1) (S (159 + i))
def sPay (S : Int → Int) (i d x : Int) : Int → Int := up (up (up (up (up (up S (189 + (40 * i + S (171 + i))) d) (429 + (40 * i + S (171 + i))) (S (159 + i))) (669 + (40 * i + S (171 + i))) x) (171 + i) (S (171 + i) + 1)) (165 + i) (w32 (S (165 + i) - x))) (177 + i) (w32 (S (177 + i) + x))
def sHad (S : Int → Int) (i x : Int) : Int → Int := up (up (up S (171 + i) (S (171 + i) - 1)) (165 + i) (w32 (S (165 + i) + x))) (183 + i) (w32 (S (183 + i) + x))
def sStep (S : Int → Int) (i r : Int) : Int → Int := up (up (if sBk S i r = 0 then sPay S i (sDart S r (S (153 + i))) (sAmt S i r) else sHad S i (sAmt S i r)) (153 + i) (sHead S (sDart S r (S (153 + i))))) (159 + i) (S (159 + i) + S (104 + r))
def sBook (S : Int → Int) (d x : Int) : Int → Int := if d < 720 then up S (909 + d) (w32 (S (909 + d) + x)) else S
def sAns (S : Int → Int) (i r : Int) : Int := if sBk S i r = 0 then sAmt S i r else 1000 + sAmt S i r
theorem sToll_rng (K : KOk S) (h0 : 0 ≤ r) (h1 : r < S 7) : 0 ≤ sToll S r d ∧ sToll S r d ≤ 999 := by
  obtain ⟨-, -, -, -, -, -, -, -, -, -, -, -, -, K⟩ := K
  have := K r h0 h1
  unfold sToll; split <;> omega
theorem sWorth_rng {p d0 : Int} (hl : 0 ≤ S 3) (hl' : S 3 ≤ 100) (h0 : 0 ≤ p) (h1 : p ≤ 999) : 0 ≤ sWorth S p d0 d ∧ sWorth S p d0 d ≤ 999 := by
  have hm : 0 ≤ p * S 3 := Int.mul_nonneg h0 hl
  have hm' : p * S 3 ≤ p * 100 := Int.mul_le_mul_of_nonneg_left hl' h0
  unfold sWorth; split <;> omega
theorem sAmt_rng {D : Int} (K : KOk S) (T : TOk S D i) (h0 : 0 ≤ r) (h1 : r < S 7) : 0 ≤ sAmt S i r ∧ sAmt S i r ≤ 999 := by
  unfold sAmt
  rcases sBk_01 S i r with h | h
  · rw [if_pos h]; exact sToll_rng K h0 h1
  · rw [h, if_neg (by decide)]
    have h := sBk_m h
    obtain ⟨-, -, -, -, -, -, k7, k8, -⟩ := K
    obtain ⟨t1, t2, t3, t4, -, -, t5⟩ := T
    obtain ⟨u1, u2, u3, u4, u5, u6⟩ := t5 (S (171 + i) - 1) (by omega) (by omega)
    exact sWorth_rng k7 k8 u5 u6
theorem sHead_up {j : Int} (h : 56 ≤ j) (h0 : 0 ≤ d) (h1 : d < 48) : sHead (up S j x) d = sHead S d := by
  unfold sHead; rw [upS_ne (by omega), upS_ne (by omega)]
theorem sTail_up {j : Int} (h : 56 ≤ j) (h0 : 0 ≤ d) (h1 : d < 48) : sTail (up S j x) d = sTail S d := by
  unfold sTail; rw [upS_ne (by omega), upS_ne (by omega)]
theorem sDart_up {j : Int} (h : 56 ≤ j) (h0 : 0 ≤ r) (h1 : r < 24) : sDart (up S j x) r t = sDart S r t := by
  unfold sDart; rw [upS_ne (by omega)]
theorem sToll_up {j : Int} (h : 104 ≤ j) (h0 : 0 ≤ r) (h1 : r < 24) : sToll (up S j x) r d = sToll S r d := by
  unfold sToll; rw [upS_ne (by omega), upS_ne (by omega), upS_ne (by omega), upS_ne (by omega)]
theorem sWorth_up {j p d0 : Int} (h : 4 ≤ j) : sWorth (up S j x) p d0 d = sWorth S p d0 d := by
  unfold sWorth; rw [upS_ne (by omega), upS_ne (by omega)]
set_option maxHeartbeats 4000000 in
theorem M_goes_eq {D : Int} (H : Sh sh) (P : PM V) (hD : D < 2000000000) (K : KOk S) (T : TOk S D i) (h0 : 0 ≤ r) (h1 : r < S 7) (h2 : 0 ≤ i) (h3 : i < 6) (hr : sRefuse S i r = 0) : M_goes 101 i r (sh, setR V 102 S) = some (sAns S i r, (sh, setR V 102 (if V 101 15 = 0 then sStep S i r else sBook (sStep S i r) (S (159 + i)) (if sBk S i r = 0 then sAmt S i r else - sAmt S i r)))) := by
  have hA := sAmt_rng K T h0 h1
  have hd := sDart_rng (S := S) (t := S (153 + i)) h0 (by have := K.2.2.2.1; omega)
  have K' := K
  obtain ⟨k1, k2, k3, k4, k5, k6, k7, k8, k9, k10, k11, k12, k13, kr⟩ := K
  obtain ⟨m1, m2, m3, m4, m5, m6, m7, m8, m9, m10, m11⟩ := kr r h0 h1
  have T' := T
  obtain ⟨t1, t2, t3, t4, t6, t7, t5⟩ := T
  have hM : sBk S i r = 0 → S (171 + i) ≠ 40 := by
    intro q e
    unfold sRefuse at hr
    simp only [q, e, ↓reduceIte] at hr
    repeat' split at hr
    all_goals omega
  unfold M_goes sAns sStep
  rcases sBk_01 S i r with q | q
  · have := hM q
    have e : sAmt S i r = sToll S r (S (159 + i)) := by unfold sAmt; rw [q]; rfl
    rw [e] at hA ⊢
    simp (disch := first | assumption | omega | (simp (disch := first | omega | decide) only [w32_id, upS_eq, upS_ne, PM_row, PM_fld]; first | assumption | omega)) only [Int.reduceEq, Int.reduceLT, Int.reduceLE, Int.reduceAdd, Int.reduceSub, Int.reduceNeg, Int.reduceMul, ↓bd_mk, ↓bd2_mk, ↓bg101, ↓bp101, ↓bi101, ↓bl102, ↓bs102, ↓blp, ↓bsp, ↓bdiv, ↓brem, ↓bokz, ↓reduceIte, upS_eq, upS_ne, w32_id, w64_id, if_B, if_some2, B_0, B_1, okz_B, ite_not, ↓M_dartBy_b, ↓M_hasBack_b, ↓M_tollOn_b, ↓M_headOf_b, ↓M_slipAt_b, q, sHead_up, M_goes_J294, sPay]
    by_cases z : V 101 15 = 0
    · simp only [z, ↓reduceIte]
    · unfold sBook
      by_cases z' : S (159 + i) < 720 <;> simp (disch := first | assumption | omega | (simp (disch := first | omega | decide) only [w32_id, upS_eq, upS_ne, PM_row, PM_fld]; first | assumption | omega)) only [Int.reduceEq, Int.reduceLT, Int.reduceLE, Int.reduceAdd, Int.reduceSub, Int.reduceNeg, Int.reduceMul, ↓bd_mk, ↓bd2_mk, ↓bg101, ↓bp101, ↓bi101, ↓bl102, ↓bs102, ↓blp, ↓bsp, ↓bdiv, ↓brem, ↓bokz, ↓reduceIte, upS_eq, upS_ne, w32_id, w64_id, if_B, if_some2, B_0, B_1, okz_B, ite_not, z, z']
  · have q1 := sBk_m q
    have e : sAmt S i r = sWorthOf S i (S (171 + i) - 1) (S (159 + i)) := by unfold sAmt; rw [q]; rfl
    rw [e] at hA ⊢
    simp (disch := first | assumption | omega | (simp (disch := first | omega | decide) only [w32_id, upS_eq, upS_ne, PM_row, PM_fld]; first | assumption | omega)) only [Int.reduceEq, Int.reduceLT, Int.reduceLE, Int.reduceAdd, Int.reduceSub, Int.reduceNeg, Int.reduceMul, ↓bd_mk, ↓bd2_mk, ↓bg101, ↓bp101, ↓bi101, ↓bl102, ↓bs102, ↓blp, ↓bsp, ↓bdiv, ↓brem, ↓bokz, ↓reduceIte, upS_eq, upS_ne, w32_id, w64_id, if_B, if_some2, B_0, B_1, okz_B, ite_not, ↓M_dartBy_b, ↓M_hasBack_b, ↓M_worthOf_b, ↓M_headOf_b, q, sHead_up, M_goes_J294, sHad]
    by_cases z : V 101 15 = 0
    · simp only [z, ↓reduceIte]
    · unfold sBook
      by_cases z' : S (159 + i) < 720 <;> simp (disch := first | assumption | omega | (simp (disch := first | omega | decide) only [w32_id, upS_eq, upS_ne, PM_row, PM_fld]; first | assumption | omega)) only [Int.reduceEq, Int.reduceLT, Int.reduceLE, Int.reduceAdd, Int.reduceSub, Int.reduceNeg, Int.reduceMul, ↓bd_mk, ↓bd2_mk, ↓bg101, ↓bp101, ↓bi101, ↓bl102, ↓bs102, ↓blp, ↓bsp, ↓bdiv, ↓brem, ↓bokz, ↓reduceIte, upS_eq, upS_ne, w32_id, w64_id, if_B, if_some2, B_0, B_1, okz_B, ite_not, z, z']
theorem M_goes_b {D : Int} (H : Sh sh) (P : PM V) (hD : D < 2000000000) (K : KOk S) (T : TOk S D i) (h0 : 0 ≤ r) (h1 : r < S 7) (h2 : 0 ≤ i) (h3 : i < 6) (hr : sRefuse S i r = 0) {γ : Type} {fZ : Int → Mem → Option γ} : bd2 (M_goes 101 i r (sh, setR V 102 S)) fZ = fZ (sAns S i r) (sh, setR V 102 (if V 101 15 = 0 then sStep S i r else sBook (sStep S i r) (S (159 + i)) (if sBk S i r = 0 then sAmt S i r else - sAmt S i r))) := by
  rw [M_goes_eq] <;> first | assumption | rfl
end REF
