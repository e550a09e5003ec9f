/-! PURE: of, toss, rest -/
section OPS
variable {sh : List (Nat × Nat)} {V V' : Int → Int → Int} {r t m s c i j d k x a y D : Int} {S S' : Int → Int} {n : Nat}
def aOf (S : Int → Int) (i k : Int) : Int := if 0 ≤ i ∧ i < S 152 then (if k = 0 then S (153 + i) else if k = 1 then S (159 + i) else if k = 2 then S (165 + i) else if k = 3 then S (171 + i) else if k = 4 then S (177 + i) else if k = 5 then S (183 + i) else -2) else -2
theorem T_of_eq (H : Sh sh) (P : Pt V) (C : CW V S) (O : SOk S D) : T_of 0 i k (sh, V) = some (aOf S i k, (sh, V)) := by
  obtain ⟨KO, o2, o3, o4, o5, o6⟩ := O
  unfold T_of aOf
  rw [bgt (by rw [k_0 H]), q_0_4 P, bit (by rw [k_2 H]), Wo_hasTraveller_b H C]
  simp only [B_0, ite_not]
  by_cases h : 0 ≤ i ∧ i < S 152
  · have kt : (kS sh (11 + 4 * i)).1 = 6 := by rw [(kTr H h.1 (by omega)).1]
    obtain ⟨f0, f1, f2, f3, f4, f5⟩ := (C.2.2.2.1 i h.1 h.2).1
    rw [if_pos h, if_pos h, bgt (by rw [k_0 H]), q_0_4 P, bgt (by rw [k_2 H]), q_2_1 P, blt (by rw [k_9 H]) h.1 (by rw [k_9 H]; show i < 6; omega), qPeople H P h.1 (by omega)]
    simp only [↓bgt kt, f0, f1, f2, f3, f4, f5, if_some2]
  · rw [if_neg h, if_neg h]
theorem T_of_b (H : Sh sh) (P : Pt V) (C : CW V S) (O : SOk S D) {γ : Type} {fZ : Int → Mem → Option γ} : bd2 (T_of 0 i k (sh, V)) fZ = fZ (aOf S i k) (sh, V) := by
  rw [T_of_eq] <;> first | assumption | rfl
theorem M_of_eq (H : Sh sh) (P : PM V) (O : SOk S D) : M_of 101 i k (sh, setR V 102 S) = some (aOf S i k, (sh, setR (upV V 101 0 0) 102 S)) := by
  obtain ⟨KO, o2, o3, o4, o5, o6⟩ := O
  have P1 : PM (upV V 101 0 0) := by rw [PM_fld (by decide)]; exact P
  unfold M_of aOf
  rw [bp101 H, bi101 H, M_isOne_b H P1 o2 o3]
  simp only [B_0, ite_not]
  by_cases h : 0 ≤ i ∧ i < S 152
  · rw [if_pos h, if_pos h, M_within_b]
    simp only [B_0, ite_not]
    by_cases g : 0 ≤ k ∧ k ≤ 5
    · rw [if_pos g, bg101 H, w32_id (x := 6 * k) (by omega) (by omega), w32_id (x := 153 + 6 * k) (by omega) (by omega), w32_id (by omega) (by omega), blp P1 H (by omega) (by omega)]
      have : k = 0 ∨ k = 1 ∨ k = 2 ∨ k = 3 ∨ k = 4 ∨ k = 5 := by omega
      rcases this with rfl | rfl | rfl | rfl | rfl | rfl <;> rfl
    · rw [if_neg g, if_neg (by omega), if_neg (by omega), if_neg (by omega), if_neg (by omega), if_neg (by omega), if_neg (by omega)]
  · rw [if_neg h, if_neg h]
theorem M_of_b (H : Sh sh) (P : PM V) (O : SOk S D) {γ : Type} {fZ : Int → Mem → Option γ} : bd2 (M_of 101 i k (sh, setR V 102 S)) fZ = fZ (aOf S i k) (sh, setR (upV V 101 0 0) 102 S) := by
  rw [M_of_eq] <;> first | assumption | rfl
def aToss (S : Int → Int) (i : Int) : Int := if 0 ≤ i ∧ i < S 152 then (if S (171 + i) = 0 then -5 else S (669 + (40 * i + (S (171 + i) - 1)))) else -2
def nToss (S : Int → Int) (i : Int) : Int → Int := if (0 ≤ i ∧ i < S 152) ∧ S (171 + i) ≠ 0 then up S (171 + i) (S (171 + i) - 1) else S
theorem M_toss_eq (H : Sh sh) (P : PM V) (O : SOk S D) : M_toss 101 i (sh, setR V 102 S) = some (aToss S i, (sh, setR (upV V 101 0 0) 102 (nToss S i))) := by
  obtain ⟨KO, o2, o3, o4, o5, o6⟩ := O
  have P1 : PM (upV V 101 0 0) := by rw [PM_fld (by decide)]; exact P
  unfold M_toss aToss nToss
  rw [bp101 H, bi101 H, M_isOne_b H P1 o2 o3]
  simp only [B_0, ite_not]
  by_cases h : 0 ≤ i ∧ i < S 152
  · obtain ⟨t1, t2, -⟩ := o4 i h.1 h.2
    rw [if_pos h, if_pos h, bg101 H, w32_id (by omega) (by omega), blp P1 H (by omega) (by omega)]
    by_cases g : S (171 + i) = 0
    · rw [if_pos g, if_pos g, if_neg (fun q => q.2 g)]
    · rw [if_neg g, if_neg g, if_pos ⟨h, g⟩, bg101 H, blp P1 H (by omega) (by omega), w32_id (x := S (171 + i) - 1) (by omega) (by omega), bsp P1 H (by omega) (by omega), bg101 H, bg101 H, blp P1 H (by omega) (by omega), upS_eq, M_slipAt_b h.1 (by omega) (by omega) (by omega), w32_id (by omega) (by omega), blp P1 H (by omega) (by omega), upS_ne (by omega)]
  · rw [if_neg h, if_neg h, if_neg (fun q => h q.1)]
theorem M_toss_b (H : Sh sh) (P : PM V) (O : SOk S D) {γ : Type} {fZ : Int → Mem → Option γ} : bd2 (M_toss 101 i (sh, setR V 102 S)) fZ = fZ (aToss S i) (sh, setR (upV V 101 0 0) 102 (nToss S i)) := by
  rw [M_toss_eq] <;> first | assumption | rfl
theorem TP_upt (T : TP V) (h : j < 6) : TP (upV V a j x) := TP_of T (fun i' j' g0 g1 g2 g3 => up_col (by omega))
/-- one number of one traveller changed on both sides -/
theorem CW_one {D' f : Int} (H : Sh sh) (C : CW V S) (O : SOk S D) (T : TP V) (hD : D ≤ D') (h0 : 0 ≤ i) (h1 : i < S 152) (hj : j = 153 + i ∨ j = 159 + i ∨ j = 165 + i ∨ j = 171 + i) (hf : 0 ≤ f ∧ f < 6) (ht : TD (upV V (11 + 4 * i) f x) (up S j y) i) (ho : TOk (up S j y) D' i) : (CW (upV V (11 + 4 * i) f x) (up S j y) ∧ SOk (up S j y) D') ∧ TP (upV V (11 + 4 * i) f x) ∧ WF V (upV V (11 + 4 * i) f x) := by
  have O' := O
  obtain ⟨c1, c2, c3, c4, c5, c6⟩ := id C
  obtain ⟨KO, o2, o3, o4, o5, o6⟩ := O
  refine ⟨CW_of (I := fun z => z = i) C O' T hD (fun k hk => upS_ne (fun e => hk (Or.inr ⟨i, h0, by omega, rfl, by omega⟩))) (fun a k hk => up_row (fun e => hk (Or.inr (Or.inr (Or.inr (Or.inr ⟨i, h0, by omega, rfl, Or.inl e⟩)))))) ?_ ?_ ?_ ?_, TP_upt T hf.2, fun a k ha => up_row (by omega)⟩
  · intro i' hi g0 g1
    have hi : i' = i := hi
    subst hi
    exact ⟨ht, ho⟩
  · intro d g0 g1
    rw [up_row (by omega), upS_ne (by omega)]; exact c5 d g0 g1
  · rw [up_row (by omega), c6, tre_congr (S' := up S j y) (S := S) (fun z hz => by rw [upS_ne (by omega), upS_ne (by omega)])]
  · intro d g0 g1
    rw [upS_ne (by omega)]; exact o6 d g0 g1
theorem T_toss_ok (H : Sh sh) (P : Pt V) (C : CW V S) (O : SOk S D) (T : TP V) : CR sh V (T_toss 0 i (sh, V)) (aToss S i) (nToss S i) D := by
  have O' := O
  have C' := C
  obtain ⟨c1, c2, c3, c4, c5, c6⟩ := C
  obtain ⟨KO, o2, o3, o4, o5, o6⟩ := O
  unfold T_toss aToss nToss
  rw [bgt (by rw [k_0 H]), q_0_4 P, bit (by rw [k_2 H]), Wo_hasTraveller_b H C']
  simp only [B_0, ite_not]
  by_cases h : 0 ≤ i ∧ i < S 152
  · have kt := (kTr H h.1 (by omega : i < 6)).1
    have kt1 : (kS sh (11 + 4 * i)).1 = 6 := by rw [kt]
    have TO := o4 i h.1 h.2
    obtain ⟨t1, t2, t3, t4, t5, t6, t7⟩ := TO
    have hd := c4 i h.1 h.2
    obtain ⟨⟨f0, f1, f2, f3, f4, f5⟩, sl⟩ := id hd
    obtain ⟨p, p0, p1, p2, p3, p4⟩ := T.1 i h.1 (by omega)
    have kp := (kTr H p0 p1).2.2.2
    rw [if_pos h, if_pos h, bgt (by rw [k_0 H]), q_0_4 P, bgt (by rw [k_2 H]), q_2_1 P, blt (by rw [k_9 H]) h.1 (by rw [k_9 H]; show i < 6; omega), qPeople H P h.1 (by omega), bgt kt1, f5]
    by_cases g : S (171 + i) = 0
    · rw [if_pos g, if_pos g, if_neg (fun q => q.2 g)]
      exact ⟨_, rfl, C', O', T, P, fun _ _ _ => rfl⟩
    · rw [if_neg g, if_neg g, if_pos ⟨h, g⟩, bgt kt1, f5, w32_id (by omega) (by omega), bpt kt1, bgt kt1, up_col (by decide), bgt kt1, up_eq, blt (by rw [p4, kp]) (by omega) (by rw [p4, kp]; show _ < (40 : Int); omega), up_row (by omega), (sl (S (171 + i) - 1) (by omega) (by omega)).2.2]
      obtain ⟨⟨g1, g2⟩, g3, g4⟩ := CW_one (x := S (171 + i) - 1) (y := S (171 + i) - 1) (j := 171 + i) (f := 5) (D' := D) H C' O' T (by omega) h.1 h.2 (by omega) (by decide) (by
          unfold TD
          simp (disch := omega) only [up_eq, up_col, upS_eq, upS_ne]
          refine ⟨⟨f0, f1, f2, f3, f4, trivial⟩, fun k g0 g1 => ?_⟩
          simp (disch := omega) only [up_row, upS_ne]
          exact sl k g0 (by omega)) (by
          unfold TOk
          simp (disch := omega) only [upS_eq, upS_ne]
          refine ⟨by omega, by omega, t3, t4, t5, t6, fun k g0 g1 => ?_⟩
          simp (disch := omega) only [upS_ne]
          exact t7 k g0 (by omega))
      exact ⟨_, rfl, g1, g2, g3, by rw [Pt_k H (by rw [kt]; decide)]; exact P, g4⟩
  · rw [if_neg h, if_neg h, if_neg (fun q => h q.1)]
    exact ⟨_, rfl, C', O', T, P, fun _ _ _ => rfl⟩
def aRest (S : Int → Int) (i d : Int) : Int := if 0 ≤ i ∧ i < S 152 then (if 0 ≤ d ∧ d ≤ 9999 then (if 99999 < S (159 + i) + d then -5 else S (159 + i) + d) else -3) else -2
def nRest (S : Int → Int) (i d : Int) : Int → Int := if (0 ≤ i ∧ i < S 152) ∧ (0 ≤ d ∧ d ≤ 9999) ∧ ¬ 99999 < S (159 + i) + d then up S (159 + i) (S (159 + i) + d) else S
theorem M_rest_eq (H : Sh sh) (P : PM V) (O : SOk S D) (hD : D < 1900000000) : M_rest 101 i d (sh, setR V 102 S) = some (aRest S i d, (sh, setR (upV V 101 0 0) 102 (nRest S i d))) := by
  obtain ⟨KO, o2, o3, o4, o5, o6⟩ := O
  have P1 : PM (upV V 101 0 0) := by rw [PM_fld (by decide)]; exact P
  unfold M_rest aRest nRest
  rw [bp101 H, bi101 H, M_isOne_b H P1 o2 o3]
  simp only [B_0, ite_not]
  by_cases h : 0 ≤ i ∧ i < S 152
  · obtain ⟨t1, t2, t3, t4, -⟩ := o4 i h.1 h.2
    rw [if_pos h, if_pos h, M_within_b]
    simp only [B_0, ite_not]
    by_cases h' : 0 ≤ d ∧ d ≤ 9999
    · rw [if_pos h', if_pos h', bg101 H, w32_id (x := 159 + i) (by omega) (by omega), blp P1 H (by omega) (by omega), w32_id (by omega) (by omega)]
      by_cases g : 99999 < S (159 + i) + d
      · rw [if_pos g, if_pos g, if_neg (fun q => q.2.2 g)]
      · rw [if_neg g, if_neg g, if_pos ⟨h, h', g⟩, bg101 H, blp P1 H (by omega) (by omega), bsp P1 H (by omega) (by omega), bg101 H, blp P1 H (by omega) (by omega), upS_eq, w32_id (by omega) (by omega)]
    · rw [if_neg h', if_neg h', if_neg (fun q => h' q.2.1)]
  · rw [if_neg h, if_neg h, if_neg (fun q => h q.1)]
theorem M_rest_b (H : Sh sh) (P : PM V) (O : SOk S D) (hD : D < 1900000000) {γ : Type} {fZ : Int → Mem → Option γ} : bd2 (M_rest 101 i d (sh, setR V 102 S)) fZ = fZ (aRest S i d) (sh, setR (upV V 101 0 0) 102 (nRest S i d)) := by
  rw [M_rest_eq] <;> first | assumption | rfl
theorem T_rest_ok (H : Sh sh) (P : Pt V) (C : CW V S) (O : SOk S D) (T : TP V) (hD : D < 1900000000) : CR sh V (T_rest 0 i d (sh, V)) (aRest S i d) (nRest S i d) (D + 10000) := by
  have O' := O
  have C' := C
  obtain ⟨c1, c2, c3, c4, c5, c6⟩ := C
  obtain ⟨KO, o2, o3, o4, o5, o6⟩ := O
  unfold T_rest aRest nRest
  rw [bgt (by rw [k_0 H]), q_0_4 P, bit (by rw [k_2 H]), Wo_hasTraveller_b H C']
  simp only [B_0, ite_not]
  by_cases h : 0 ≤ i ∧ i < S 152
  · have kt := (kTr H h.1 (by omega : i < 6)).1
    have kt1 : (kS sh (11 + 4 * i)).1 = 6 := by rw [kt]
    have TO := o4 i h.1 h.2
    obtain ⟨t1, t2, t3, t4, t5, t6, t7⟩ := TO
    have hd := c4 i h.1 h.2
    obtain ⟨⟨f0, f1, f2, f3, f4, f5⟩, sl⟩ := id hd
    obtain ⟨p, p0, p1, p2, p3, p4⟩ := T.1 i h.1 (by omega)
    rw [if_pos h, if_pos h]
    by_cases h' : 0 ≤ d ∧ d ≤ 9999
    · rw [if_pos h', if_neg (by omega), if_neg (by omega), bgt (by rw [k_0 H]), q_0_4 P, bgt (by rw [k_2 H]), q_2_1 P, blt (by rw [k_9 H]) h.1 (by rw [k_9 H]; show i < 6; omega), qPeople H P h.1 (by omega), bgt kt1, f1, w32_id (by omega) (by omega)]
      by_cases g : 99999 < S (159 + i) + d
      · rw [if_pos g, if_pos g, if_neg (fun q => q.2.2 g)]
        exact ⟨_, rfl, C', SOk_mono O' (by omega), T, P, fun _ _ _ => rfl⟩
      · rw [if_neg g, if_neg g, if_pos ⟨h, h', g⟩, bgt kt1, f1, w32_id (by omega) (by omega), bpt kt1, bgt kt1, up_eq]
        obtain ⟨⟨g1, g2⟩, g3, g4⟩ := CW_one (x := S (159 + i) + d) (y := S (159 + i) + d) (j := 159 + i) (f := 1) (D' := D + 10000) H C' O' T (by omega) h.1 h.2 (by omega) (by decide) (by
          unfold TD
          simp (disch := omega) only [up_eq, up_col, upS_eq, upS_ne]
          refine ⟨⟨f0, trivial, f2, f3, f4, f5⟩, fun k g0 g1 => ?_⟩
          simp (disch := omega) only [up_row, upS_ne]
          exact sl k g0 (by omega)) (by
          unfold TOk
          simp (disch := omega) only [upS_eq, upS_ne]
          refine ⟨t1, t2, by omega, by omega, t5, t6, fun k g0 g1 => ?_⟩
          simp (disch := omega) only [upS_ne]
          have := t7 k g0 (by omega)
          omega)
        exact ⟨_, rfl, g1, g2, g3, by rw [Pt_k H (by rw [kt]; decide)]; exact P, g4⟩
    · rw [if_neg h', if_neg (c := (0 ≤ i ∧ i < S 152) ∧ (0 ≤ d ∧ d ≤ 9999) ∧ ¬ 99999 < S (159 + i) + d) (fun q => h' q.2.1)]
      by_cases h2 : d < 0
      · rw [if_pos h2]; exact ⟨_, rfl, C', SOk_mono O' (by omega), T, P, fun _ _ _ => rfl⟩
      · rw [if_neg h2, if_pos (by omega)]; exact ⟨_, rfl, C', SOk_mono O' (by omega), T, P, fun _ _ _ => rfl⟩
  · rw [if_neg h, if_neg h, if_neg (fun q => h q.1)]
    exact ⟨_, rfl, C', SOk_mono O' (by omega), T, P, fun _ _ _ => rfl⟩
end OPS
