/-! PURE: slip, close -/
section OPS
variable {sh : List (Nat × Nat)} {V V' : Int → Int → Int} {r t m s c i j d k x a y D f : Int} {S S' : Int → Int} {n : Nat}
def aSlip (S : Int → Int) (i k f : Int) : Int := if 0 ≤ i ∧ i < S 152 then (if 0 ≤ f ∧ f ≤ 5 then (if 0 ≤ k ∧ k < S (171 + i) then (if f = 0 then S (189 + (40 * i + k)) / 2 else if f = 1 then sTail S (S (189 + (40 * i + k))) else if f = 2 then sHead S (S (189 + (40 * i + k))) else if f = 3 then S (429 + (40 * i + k)) else if f = 4 then S (669 + (40 * i + k)) else sWorthOf S i k (S (159 + i))) else -7) else -2) else -2
theorem M_slip_eq (H : Sh sh) (P : PM V) (O : SOk S D) (hD : D < 1900000000) : M_slip 101 i k f (sh, setR V 102 S) = some (aSlip S i k f, (sh, setR (upV V 101 0 0) 102 S)) := by
  obtain ⟨KO, o2, o3, o4, o5, o6⟩ := O
  have P1 : PM (upV V 101 0 0) := by rw [PM_fld (by decide)]; exact P
  obtain ⟨z1, z2, z3, z4, z5, z6, z7, z8, -⟩ := KO
  unfold M_slip aSlip
  rw [bp101 H, bi101 H, M_isOne_b H P1 o2 o3]
  simp only [B_0, ite_not]
  by_cases h : 0 ≤ i ∧ i < S 152
  · have TO := o4 i h.1 h.2
    obtain ⟨t1, t2, t3, t4, t5, t6, t7⟩ := id TO
    rw [if_pos h, if_pos h, M_within_b]
    simp only [B_0, ite_not]
    by_cases g : 0 ≤ f ∧ f ≤ 5
    · rw [if_pos g, if_pos g, bg101 H, w32_id (x := 171 + i) (by omega) (by omega), blp P1 H (by omega) (by omega), w32_id (x := S (171 + i) - 1) (by omega) (by omega), M_within_b]
      simp only [B_0, ite_not]
      by_cases h' : 0 ≤ k ∧ k < S (171 + i)
      · obtain ⟨u1, u2, u3, u4, u5, u6⟩ := t7 k h'.1 h'.2
        rw [if_pos (by omega), if_pos h', M_slipAt_b h.1 (by omega) h'.1 (by omega), w32_id (x := 189 + (40 * i + k)) (by omega) (by omega), w32_id (x := 429 + (40 * i + k)) (by omega) (by omega), w32_id (x := 669 + (40 * i + k)) (by omega) (by omega), w32_id (x := 159 + i) (by omega) (by omega)]
        simp only [↓bg101 H, ↓bi101 H, ↓blp P1 H (i := 189 + (40 * i + k)) (by omega) (by omega), ↓blp P1 H (i := 429 + (40 * i + k)) (by omega) (by omega), ↓blp P1 H (i := 669 + (40 * i + k)) (by omega) (by omega), ↓blp P1 H (i := 159 + i) (by omega) (by omega), ↓bdiv u1 (by omega : S (189 + (40 * i + k)) < 2147483648) (by decide : (0 : Int) < 2) (by decide), ↓M_tailOf_b H P1 u1 (by omega), ↓M_headOf_b H P1 u1 (by omega), ↓M_worthOf_b H P1 (by omega : D < 2000000000) TO z7 z8 h.1 (by omega) h'.1 h'.2 t3 (by omega), if_some2]
      · rw [if_neg (by omega), if_neg h']
    · rw [if_neg g, if_neg g]
  · rw [if_neg h, if_neg h]
theorem M_slip_b (H : Sh sh) (P : PM V) (O : SOk S D) (hD : D < 1900000000) {γ : Type} {fZ : Int → Mem → Option γ} : bd2 (M_slip 101 i k f (sh, setR V 102 S)) fZ = fZ (aSlip S i k f) (sh, setR (upV V 101 0 0) 102 S) := by
  rw [M_slip_eq] <;> first | assumption | rfl
theorem T_slip_eq (H : Sh sh) (P : Pt V) (C : CW V S) (O : SOk S D) (T : TP V) (hD : D < 1900000000) : T_slip 0 i k f (sh, V) = some (aSlip S i k f, (sh, V)) := by
  obtain ⟨KO, o2, o3, o4, o5, o6⟩ := O
  obtain ⟨z1, z2, z3, z4, z5, z6, z7, z8, -⟩ := KO
  have K := C.1
  unfold T_slip aSlip
  rw [bgt (by rw [k_0 H]), q_0_4 P, bit (by rw [k_2 H]), Wo_hasTraveller_b H C]
  simp only [B_0, ite_not]
  by_cases h : 0 ≤ i ∧ i < S 152
  · have kt0 := (kTr H h.1 (by omega : i < 6)).1
    have kt : (kS sh (11 + 4 * i)).1 = 6 := by rw [kt0]
    obtain ⟨⟨f0, f1, f2, f3, f4, f5⟩, sl⟩ := C.2.2.2.1 i h.1 h.2
    obtain ⟨t1, t2, t3, t4, t5, t6, t7⟩ := o4 i h.1 h.2
    obtain ⟨p, p0, p1, p2, p3, p4⟩ := T.1 i h.1 (by omega)
    obtain ⟨-, k2, k3, k4⟩ := kTr H p0 p1
    rw [if_pos h, if_pos h]
    by_cases g : 0 ≤ f ∧ f ≤ 5
    · rw [if_pos g, if_neg (by omega), if_neg (by omega), bgt (by rw [k_0 H]), q_0_4 P, bgt (by rw [k_2 H]), q_2_1 P, blt (by rw [k_9 H]) h.1 (by rw [k_9 H]; show i < 6; omega), qPeople H P h.1 (by omega)]
      by_cases h' : 0 ≤ k ∧ k < S (171 + i)
      · obtain ⟨u1, u2, u3, u4, u5, u6⟩ := t7 k h'.1 h'.2
        obtain ⟨s1, s2, s3⟩ := sl k h'.1 h'.2
        have w1 : Kg_worthOn 3 (11 + 4 * i) k (S (159 + i)) (sh, V) = some (sWorthOf S i k (S (159 + i)), (sh, V)) := by
          rw [Kg_worthOn_eq (S := S) (s := V (11 + 4 * i) 7) (c := V (11 + 4 * i) 8) H K kt0 (by rw [p3]; exact k3) (by rw [p4]; exact k4) rfl rfl h'.1 (by omega) z7 z8 (by rw [s3]; exact u5) (by rw [s3]; exact u6) (by rw [s2]; exact u3) (by rw [s2]; omega) t3 (by omega), s2, s3]; rfl
        rw [if_neg (by omega), if_pos h', bgt kt, f5, if_pos h'.2]
        simp only [↓bgt kt, ↓bgt (show (kS sh 0).1 = 11 by rw [k_0 H]), ↓bgt (show (kS sh 2).1 = 10 by rw [k_2 H]), q_0_4 P, q_2_0 P, ↓bit (show (kS sh 3).1 = 1 by rw [k_3 H]), f1, ↓blt (show (kS sh (V (11 + 4 * i) 6)).1 = 20 by rw [p2, k2]) h'.1 (show k < ((kS sh (V (11 + 4 * i) 6)).2 : Int) by rw [p2, k2]; show k < 40; omega), ↓blt (show (kS sh (V (11 + 4 * i) 7)).1 = 20 by rw [p3, k3]) h'.1 (show k < ((kS sh (V (11 + 4 * i) 7)).2 : Int) by rw [p3, k3]; show k < 40; omega), ↓blt (show (kS sh (V (11 + 4 * i) 8)).1 = 20 by rw [p4, k4]) h'.1 (show k < ((kS sh (V (11 + 4 * i) 8)).2 : Int) by rw [p4, k4]; show k < 40; omega), s1, s2, s3, shr1 u1 (by omega : S (189 + (40 * i + k)) < 2147483648), Kg_startOf_eq H P K u1 u2 z4, Kg_endOf_eq H P K u1 u2 z4, w1, bd2_mk, if_some2]
      · rw [if_neg h']
        by_cases g' : k < 0
        · rw [if_pos g']
        · rw [if_neg g', bgt kt, f5, if_neg (by omega)]
    · rw [if_neg g]
      by_cases g' : f < 0
      · rw [if_pos g']
      · rw [if_neg g', if_pos (by omega)]
  · rw [if_neg h, if_neg h]
theorem T_slip_b (H : Sh sh) (P : Pt V) (C : CW V S) (O : SOk S D) (T : TP V) (hD : D < 1900000000) {γ : Type} {fZ : Int → Mem → Option γ} : bd2 (T_slip 0 i k f (sh, V)) fZ = fZ (aSlip S i k f) (sh, V) := by
  rw [T_slip_eq] <;> first | assumption | rfl
end OPS
