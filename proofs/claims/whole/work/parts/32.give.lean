/-! PURE: give -/
section GIVE
variable {sh : List (Nat × Nat)} {V V' : Int → Int → Int} {r t m s c i j d k x a b y D f p : Int} {S S' : Int → Int} {n : Nat}
theorem Wo_hasPair_eq (H : Sh sh) (C : CW V S) : Wo_hasPair 2 a b (sh, V) = some (B ((0 ≤ a ∧ a < S 152) ∧ (0 ≤ b ∧ b < S 152) ∧ a ≠ b), (sh, V)) := by
  unfold Wo_hasPair
  rw [bit (by rw [k_2 H]), Wo_hasTraveller_b H C]
  simp only [B_0, ite_not]
  by_cases h : 0 ≤ a ∧ a < S 152
  · rw [if_pos h, bit (by rw [k_2 H]), Wo_hasTraveller_b H C]
    simp only [B_0, ite_not]
    by_cases h' : 0 ≤ b ∧ b < S 152
    · rw [if_pos h']
      by_cases e : a = b
      · rw [if_pos e, B_f (fun q => q.2.2 e)]
      · rw [if_neg e, B_t ⟨h, h', e⟩]
    · rw [if_neg h', B_f (fun q => h' q.2.1)]
  · rw [if_neg h, B_f (fun q => h q.1)]
theorem Wo_hasPair_b (H : Sh sh) (C : CW V S) {γ : Type} {fZ : Int → Mem → Option γ} : bd2 (Wo_hasPair 2 a b (sh, V)) fZ = fZ (B ((0 ≤ a ∧ a < S 152) ∧ (0 ≤ b ∧ b < S 152) ∧ a ≠ b)) (sh, V) := by
  rw [Wo_hasPair_eq] <;> first | assumption | rfl
def sGive (S : Int → Int) (a b x : Int) : Int → Int := up (up (up (up (up (up (up S (171 + a) (S (171 + a) - 1)) (189 + (40 * b + S (171 + b))) (S (189 + (40 * a + (S (171 + a) - 1))))) (429 + (40 * b + S (171 + b))) (S (429 + (40 * a + (S (171 + a) - 1))))) (669 + (40 * b + S (171 + b))) (S (669 + (40 * a + (S (171 + a) - 1))))) (171 + b) (S (171 + b) + 1)) (165 + a) (w32 (S (165 + a) + x))) (165 + b) (w32 (S (165 + b) - x))
/-- what give says; 0: it is done -/
def gWhy (S : Int → Int) (a b x : Int) : Int := if (0 ≤ a ∧ a < S 152) ∧ (0 ≤ b ∧ b < S 152) ∧ a ≠ b then (if S (153 + a) = S (153 + b) then (if S (171 + a) = 0 then -5 else if 0 ≤ x ∧ x ≤ S (165 + b) then (if S (171 + b) = 40 then -4 else 0) else -3) else -5) else -2
def aGive (S : Int → Int) (a b x : Int) : Int := if gWhy S a b x = 0 then S (171 + b) + 1 else gWhy S a b x
def nGive (S : Int → Int) (a b x : Int) : Int → Int := if gWhy S a b x = 0 then sGive S a b x else S
theorem M_give_eq (H : Sh sh) (P : PM V) (O : SOk S D) : M_give 101 a b x (sh, setR V 102 S) = some (aGive S a b x, (sh, setR (upV V 101 0 0) 102 (nGive S a b x))) := by
  obtain ⟨KO, o2, o3, o4, o5, o6⟩ := O
  have P1 : PM (upV V 101 0 0) := by rw [PM_fld (by decide)]; exact P
  unfold M_give aGive nGive gWhy
  rw [bp101 H, bi101 H, M_isOne_b H P1 o2 o3]
  simp only [B_0, ite_not]
  by_cases h : 0 ≤ a ∧ a < S 152
  · rw [if_pos h, bi101 H, M_isOne_b H P1 o2 o3]
    simp only [B_0, ite_not]
    by_cases h' : 0 ≤ b ∧ b < S 152
    · rw [if_pos h']
      by_cases e : a = b
      · rw [if_pos e, if_neg (c := (0 ≤ a ∧ a < S 152) ∧ (0 ≤ b ∧ b < S 152) ∧ a ≠ b) (fun q => q.2.2 e)]; rfl
      · obtain ⟨t1, t2, -⟩ := o4 a h.1 h.2
        obtain ⟨u1, u2, -⟩ := o4 b h'.1 h'.2
        have hc : (0 ≤ a ∧ a < S 152) ∧ (0 ≤ b ∧ b < S 152) ∧ a ≠ b := ⟨h, h', e⟩
        rw [if_neg e, bg101 H, w32_id (x := 153 + a) (by omega) (by omega), blp P1 H (by omega) (by omega), bg101 H, w32_id (x := 153 + b) (by omega) (by omega), blp P1 H (by omega) (by omega), if_pos hc]
        by_cases g1 : S (153 + a) = S (153 + b)
        · simp only [g1, ↓reduceIte]
          rw [bg101 H, w32_id (x := 171 + a) (by omega) (by omega), blp P1 H (by omega) (by omega)]
          by_cases g2 : S (171 + a) = 0
          · rw [if_pos g2, if_pos g2]; rfl
          · rw [if_neg g2, if_neg g2, bg101 H, w32_id (x := 165 + b) (by omega) (by omega), blp P1 H (by omega) (by omega), M_within_b]
            simp only [B_0, ite_not]
            by_cases g3 : 0 ≤ x ∧ x ≤ S (165 + b)
            · rw [if_pos g3, if_pos g3, bg101 H, w32_id (x := 171 + b) (by omega) (by omega), blp P1 H (by omega) (by omega)]
              by_cases g4 : S (171 + b) = 40
              · rw [if_pos g4, if_pos g4]; rfl
              · rw [if_neg g4, if_neg g4, if_pos rfl, if_pos rfl]
                unfold M_moves sGive
                simp (disch := first | assumption | omega | (simp (disch := omega) only [upS_eq, upS_ne, w32_id]; omega)) only [↓bd_mk, ↓bd2_mk, ↓bg101, ↓bi101, ↓blp, ↓bsp, ↓M_slipAt_b, upS_eq, upS_ne, w32_id]
            · rw [if_neg g3, if_neg g3]; rfl
        · simp only [g1, ↓reduceIte]; rfl
    · rw [if_neg h', if_neg (c := (0 ≤ a ∧ a < S 152) ∧ (0 ≤ b ∧ b < S 152) ∧ a ≠ b) (fun q => h' q.2.1)]; rfl
  · rw [if_neg h, if_neg (c := (0 ≤ a ∧ a < S 152) ∧ (0 ≤ b ∧ b < S 152) ∧ a ≠ b) (fun q => h q.1)]; rfl
theorem M_give_b (H : Sh sh) (P : PM V) (O : SOk S D) {γ : Type} {fZ : Int → Mem → Option γ} : bd2 (M_give 101 a b x (sh, setR V 102 S)) fZ = fZ (aGive S a b x) (sh, setR (upV V 101 0 0) 102 (nGive S a b x)) := by
  rw [M_give_eq] <;> first | assumption | rfl
def cGive (V : Int → Int → Int) (S : Int → Int) (a b x : Int) : Int → Int → Int := upV (upV (upV (upV (upV (upV (upV V (V (11 + 4 * b) 6) (S (171 + b)) (S (189 + (40 * a + (S (171 + a) - 1))))) (V (11 + 4 * b) 7) (S (171 + b)) (S (429 + (40 * a + (S (171 + a) - 1))))) (V (11 + 4 * b) 8) (S (171 + b)) (S (669 + (40 * a + (S (171 + a) - 1))))) (11 + 4 * b) 5 (S (171 + b) + 1)) (11 + 4 * a) 5 (S (171 + a) - 1)) (11 + 4 * a) 2 (w32 (S (165 + a) + x))) (11 + 4 * b) 2 (w32 (S (165 + b) - x))
set_option maxHeartbeats 1000000 in
theorem CW_give (H : Sh sh) (C : CW V S) (O : SOk S D) (T : TP V) (h : 0 ≤ a ∧ a < S 152) (h' : 0 ≤ b ∧ b < S 152) (e : a ≠ b) (g2 : S (171 + a) ≠ 0) (g4 : S (171 + b) ≠ 40) : (CW (cGive V S a b x) (sGive S a b x) ∧ SOk (sGive S a b x) D) ∧ TP (cGive V S a b x) ∧ WF V (cGive V S a b x) := by
  obtain ⟨c1, c2, c3, c4, c5, c6⟩ := id C
  obtain ⟨KO, o2, o3, o4, o5, o6⟩ := id O
  obtain ⟨t1, t2, t3, t4, t5, t6, t7⟩ := o4 a h.1 h.2
  obtain ⟨u1, u2, u3, u4, u5, u6, u7⟩ := o4 b h'.1 h'.2
  obtain ⟨⟨f0, f1, f2, f3, f4, f5⟩, sl⟩ := c4 a h.1 h.2
  obtain ⟨⟨v0, v1, v2, v3, v4, v5⟩, sk⟩ := c4 b h'.1 h'.2
  obtain ⟨p, p0, p1, p2, p3, p4⟩ := T.1 a h.1 (by omega)
  obtain ⟨q, q0, q1, q2, q3, q4⟩ := T.1 b h'.1 (by omega)
  have hpq := T.2 a b h.1 (by omega) h'.1 (by omega) e
  have htop := t7 (S (171 + a) - 1) (by omega) (by omega)
  have hT : TP (cGive V S a b x) := TP_of T (fun i j g0 g1 g2 g3 => by
    unfold cGive
    rw [up_col (by omega), up_col (by omega), up_col (by omega), up_col (by omega), up_row (by omega), up_row (by omega), up_row (by omega)])
  refine ⟨CW_of (I := fun z => z = a ∨ z = b) (D' := D) C O T (by omega) ?_ ?_ ?_ ?_ ?_ ?_, hT, ?_⟩
  · intro j hj
    have x1 : ¬ (j = 165 + a ∨ j = 171 + a) := fun z => hj (Or.inr ⟨a, h.1, by omega, Or.inl rfl, by omega⟩)
    have x2 : ¬ (j = 165 + b ∨ j = 171 + b ∨ j = 189 + (40 * b + S (171 + b)) ∨ j = 429 + (40 * b + S (171 + b)) ∨ j = 669 + (40 * b + S (171 + b))) := fun z => hj (Or.inr ⟨b, h'.1, by omega, Or.inr rfl, by omega⟩)
    unfold sGive
    rw [upS_ne (by omega), upS_ne (by omega), upS_ne (by omega), upS_ne (by omega), upS_ne (by omega), upS_ne (by omega), upS_ne (by omega)]
  · intro z j hz
    have x1 : ¬ (z = 11 + 4 * a) := fun y => hz (Or.inr (Or.inr (Or.inr (Or.inr ⟨a, h.1, by omega, Or.inl rfl, Or.inl y⟩))))
    have x2 : ¬ (z = 11 + 4 * b ∨ z = V (11 + 4 * b) 6 ∨ z = V (11 + 4 * b) 7 ∨ z = V (11 + 4 * b) 8) := fun y => hz (Or.inr (Or.inr (Or.inr (Or.inr ⟨b, h'.1, by omega, Or.inr rfl, y⟩))))
    unfold cGive
    rw [up_row (by omega), up_row (by omega), up_row (by omega), up_row (by omega), up_row (by omega), up_row (by omega), up_row (by omega)]
  · intro i hi g0 g1
    rcases hi with rfl | rfl
    · constructor
      · unfold TD cGive sGive
        simp (disch := omega) only [up_eq, up_row, up_col, upS_eq, upS_ne]
        refine ⟨⟨f0, f1, trivial, f3, f4, trivial⟩, fun k r0 r1 => ?_⟩
        simp (disch := omega) only [up_row, upS_ne]
        exact sl k r0 (by omega)
      · unfold TOk sGive
        simp (disch := omega) only [upS_eq, upS_ne]
        refine ⟨by omega, by omega, t3, t4, t5, t6, fun k r0 r1 => ?_⟩
        simp (disch := omega) only [upS_ne]
        exact t7 k r0 (by omega)
    · constructor
      · unfold TD cGive sGive
        simp (disch := omega) only [up_eq, up_row, up_col, upS_eq, upS_ne]
        refine ⟨⟨v0, v1, trivial, v3, v4, trivial⟩, fun k r0 r1 => ?_⟩
        by_cases ek : k = S (171 + i)
        · subst ek
          simp (disch := omega) only [up_eq, up_row, up_col, upS_eq, upS_ne, and_self]
        · simp (disch := omega) only [up_row, up_col, upS_ne]
          exact sk k r0 (by omega)
      · unfold TOk sGive
        simp (disch := omega) only [upS_eq, upS_ne]
        refine ⟨by omega, by omega, u3, u4, u5, u6, fun k r0 r1 => ?_⟩
        by_cases ek : k = S (171 + i)
        · subst ek
          simp (disch := omega) only [upS_eq, upS_ne]
          exact htop
        · simp (disch := omega) only [upS_ne]
          exact u7 k r0 (by omega)
  · intro d g0 g1
    unfold cGive sGive
    simp (disch := omega) only [up_row, upS_ne]
    exact c5 d g0 g1
  · have : tre (sGive S a b x) (S 152).toNat = tre S (S 152).toNat := tre_congr (fun z hz => by unfold sGive; simp (disch := omega) only [upS_ne])
    rw [this, ← c6]
    unfold cGive
    simp (disch := omega) only [up_row]
  · intro d g0 g1
    unfold sGive
    simp (disch := omega) only [upS_ne]
    exact o6 d g0 g1
  · intro z j hz
    unfold cGive
    simp (disch := omega) only [up_row]
set_option maxHeartbeats 1000000 in
theorem T_give_ok (H : Sh sh) (P : Pt V) (C : CW V S) (O : SOk S D) (T : TP V) : CR sh V (T_give 0 a b x (sh, V)) (aGive S a b x) (nGive S a b x) D := by
  have O' := O
  have C' := C
  obtain ⟨c1, c2, c3, c4, c5, c6⟩ := C
  obtain ⟨KO, o2, o3, o4, o5, o6⟩ := O
  unfold T_give aGive nGive gWhy
  rw [bgt (by rw [k_0 H]), q_0_4 P, bit (by rw [k_2 H]), Wo_hasPair_b H C']
  simp only [B_0, ite_not]
  have keep : ∀ y, CR sh V (some (y, (sh, V))) y S D := fun y => ⟨_, rfl, C', O', T, P, fun _ _ _ => rfl⟩
  by_cases hc : (0 ≤ a ∧ a < S 152) ∧ (0 ≤ b ∧ b < S 152) ∧ a ≠ b
  · obtain ⟨h, h', e⟩ := id hc
    obtain ⟨t1, t2, -⟩ := o4 a h.1 h.2
    obtain ⟨u1, u2, -⟩ := o4 b h'.1 h'.2
    have ka0 := (kTr H h.1 (by omega : a < 6)).1
    have kb0 := (kTr H h'.1 (by omega : b < 6)).1
    have ka : (kS sh (11 + 4 * a)).1 = 6 := by rw [ka0]
    have kb : (kS sh (11 + 4 * b)).1 = 6 := by rw [kb0]
    obtain ⟨⟨f0, f1, f2, f3, f4, f5⟩, sl⟩ := c4 a h.1 h.2
    obtain ⟨⟨v0, v1, v2, v3, v4, v5⟩, sk⟩ := c4 b h'.1 h'.2
    obtain ⟨p, p0, p1, p2, p3, p4⟩ := T.1 a h.1 (by omega)
    obtain ⟨q, q0, q1, q2, q3, q4⟩ := T.1 b h'.1 (by omega)
    have hpq := T.2 a b h.1 (by omega) h'.1 (by omega) e
    rw [if_pos hc, if_pos hc, bgt (by rw [k_0 H]), q_0_4 P, bgt (by rw [k_2 H]), q_2_1 P, blt (by rw [k_9 H]) h.1 (by rw [k_9 H]; show a < 6; omega), qPeople H P h.1 (by omega), bgt (by rw [k_0 H]), q_0_4 P, bgt (by rw [k_2 H]), q_2_1 P, blt (by rw [k_9 H]) h'.1 (by rw [k_9 H]; show b < 6; omega), qPeople H P h'.1 (by omega), bgt ka, f0, bgt kb, v0]
    by_cases g1 : S (153 + a) = S (153 + b)
    · simp only [g1, ↓reduceIte]
      rw [bgt ka, f5]
      by_cases g2 : S (171 + a) = 0
      · rw [if_pos g2, if_pos g2]; exact keep _
      · rw [if_neg g2, if_neg g2]
        by_cases g3 : 0 ≤ x ∧ x ≤ S (165 + b)
        · rw [if_pos g3, if_neg (by omega), bgt kb, v2, if_neg (by omega), bgt kb, v5]
          by_cases g4 : S (171 + b) = 40
          · rw [if_neg (by omega), if_pos g4]; exact keep _
          · rw [if_pos (by omega), if_neg g4, if_pos rfl, if_pos rfl]
            obtain ⟨s1, s2, s3⟩ := sl (S (171 + a) - 1) (by omega) (by omega)
            obtain ⟨-, k2, k3, k4⟩ := kTr H p0 p1
            obtain ⟨-, l2, l3, l4⟩ := kTr H q0 q1
            have A6 : (kS sh (V (11 + 4 * a) 6)).1 = 20 ∧ S (171 + a) - 1 < ((kS sh (V (11 + 4 * a) 6)).2 : Int) := by rw [p2, k2]; exact ⟨rfl, by show S (171 + a) - 1 < 40; omega⟩
            have A7 : (kS sh (V (11 + 4 * a) 7)).1 = 20 ∧ S (171 + a) - 1 < ((kS sh (V (11 + 4 * a) 7)).2 : Int) := by rw [p3, k3]; exact ⟨rfl, by show S (171 + a) - 1 < 40; omega⟩
            have A8 : (kS sh (V (11 + 4 * a) 8)).1 = 20 ∧ S (171 + a) - 1 < ((kS sh (V (11 + 4 * a) 8)).2 : Int) := by rw [p4, k4]; exact ⟨rfl, by show S (171 + a) - 1 < 40; omega⟩
            have B6 : (kS sh (V (11 + 4 * b) 6)).1 = 20 ∧ S (171 + b) < ((kS sh (V (11 + 4 * b) 6)).2 : Int) := by rw [q2, l2]; exact ⟨rfl, by show S (171 + b) < 40; omega⟩
            have B7 : (kS sh (V (11 + 4 * b) 7)).1 = 20 ∧ S (171 + b) < ((kS sh (V (11 + 4 * b) 7)).2 : Int) := by rw [q3, l3]; exact ⟨rfl, by show S (171 + b) < 40; omega⟩
            have B8 : (kS sh (V (11 + 4 * b) 8)).1 = 20 ∧ S (171 + b) < ((kS sh (V (11 + 4 * b) 8)).2 : Int) := by rw [q4, l4]; exact ⟨rfl, by show S (171 + b) < 40; omega⟩
            have hrun : (bd (isk 6 (sh, V) (11 + 4 * b)) fun _ =>
              bd2 (Tr_takeTopOf (11 + 4 * b) (11 + 4 * a) (sh, V)) fun _ μ16 =>
              bd (getf 6 5 μ16 (11 + 4 * a)) fun x17 =>
              bd (putf 6 5 μ16 (11 + 4 * a) (w32 (x17 - 1))) fun μ18 =>
              bd (getf 6 2 μ18 (11 + 4 * a)) fun x19 =>
              bd (putf 6 2 μ18 (11 + 4 * a) (w32 (x19 + x))) fun μ20 =>
              bd (getf 6 2 μ20 (11 + 4 * b)) fun x21 =>
              bd (putf 6 2 μ20 (11 + 4 * b) (w32 (x21 - x))) fun μ22 =>
              bd (getf 6 5 μ22 (11 + 4 * b)) fun x23 =>
              some (x23, μ22)) = some (S (171 + b) + 1, (sh, cGive V S a b x)) := by
              unfold Tr_takeTopOf Tr_push cGive
              rw [bit kb, bgt ka, f5, bd_mk, w32_id (x := S (171 + a) - 1) (by omega) (by omega), if_neg (by omega), bgt ka, blt A6.1 (by omega) A6.2, bgt ka, blt A7.1 (by omega) A7.2, bgt ka, blt A8.1 (by omega) A8.2, bit kb, s1, s2, s3, bgt kb, v5, if_pos (by omega), bgt kb, bgt kb, v5, bst B6.1 u1 B6.2]
              rw [bgt kb, up_row (by omega), bgt kb, up_row (by omega), v5, bst B7.1 u1 B7.2, bgt kb, up_row (by omega), up_row (by omega), bgt kb, up_row (by omega), up_row (by omega), v5, bst B8.1 u1 B8.2, bgt kb, up_row (by omega), up_row (by omega), up_row (by omega), v5, bpt kb, w32_id (x := S (171 + b) + 1) (by omega) (by omega), bd2_mk, bd2_mk]
              rw [bgt ka, up_row (by omega), up_row (by omega), up_row (by omega), up_row (by omega), f5, w32_id (x := S (171 + a) - 1) (by omega) (by omega), bpt ka, bgt ka]
              simp (disch := first | assumption | omega) only [↓bgt ka, ↓bgt kb, ↓bpt ka, ↓bpt kb, up_eq, up_row, up_col, f2, v2, v5]
            rw [hrun]
            obtain ⟨⟨g5, g6⟩, g7, g8⟩ := CW_give (x := x) H C' O' T h h' e g2 g4
            refine ⟨_, rfl, g5, g6, g7, ?_, g8⟩
            unfold cGive
            rw [Pt_k H (by omega), Pt_k H (by omega), Pt_k H (by omega), Pt_k H (by omega), Pt_k H (by omega), Pt_k H (by omega), Pt_k H (by omega)]; exact P
        · rw [if_neg g3]
          by_cases g5 : x < 0
          · rw [if_pos g5]; exact keep _
          · rw [if_neg g5, bgt kb, v2, if_pos (by omega)]; exact keep _
    · simp only [g1, ↓reduceIte]; exact keep _
  · rw [if_neg hc, if_neg hc]; exact keep _
end GIVE
