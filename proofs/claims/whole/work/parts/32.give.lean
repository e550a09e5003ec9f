/-! PURE: give -/
section GIVE
variable {sh : List (Nat × Nat)} {V V' : Int → Int → Int} {r t m s c i j d k x a b y D f p : Int} {S S' : Int → Int} {n : Nat}
theorem Wo_hasPair_eq (H : Sh sh) (C : CW V S) : Wo_hasPair 2 a b (sh, V) = some (B ((0 ≤ a ∧ a < S 152) ∧ (0 ≤ b ∧ b < S 152) ∧ a ≠ b), (sh, V)) := by
  unfold Wo_hasPair
  rw [bit (by rw [k_2 H]), Wo_hasTraveller_b H C]
  simp only [B_0, ite_not]
  by_cases h : 0 ≤ a ∧ a < S 152
  · rw [if_pos h, bit (by rw [k_2 H]), Wo_hasTraveller_b H C]
    simp only [B_0, ite_not]
    by_cases h' : 0 ≤ b ∧ b < S 152
    · rw [if_pos h']
      by_cases e : a = b
      · rw [if_pos e, B_f (fun q => q.2.2 e)]
      · rw [if_neg e, B_t ⟨h, h', e⟩]
    · rw [if_neg h', B_f (fun q => h' q.2.1)]
  · rw [if_neg h, B_f (fun q => h q.1)]
theorem Wo_hasPair_b (H : Sh sh) (C : CW V S) {γ : Type} {fZ : Int → Mem → Option γ} : bd2 (Wo_hasPair 2 a b (sh, V)) fZ = fZ (B ((0 ≤ a ∧ a < S 152) ∧ (0 ≤ b ∧ b < S 152) ∧ a ≠ b)) (sh, V) := by
  rw [Wo_hasPair_eq] <;> first | assumption | rfl
def sGive (S : Int → Int) (a b x : Int) : Int → Int := up (up (up (up (up (up (up S (171 + a) (S (171 + a) - 1)) (189 + (40 * b + S (171 + b))) (S (189 + (40 * a + (S (171 + a) - 1))))) (429 + (40 * b + S (171 + b))) (S (429 + (40 * a + (S (171 + a) - 1))))) (669 + (40 * b + S (171 + b))) (S (669 + (40 * a + (S (171 + a) - 1))))) (171 + b) (S (171 + b) + 1)) (165 + a) (w32 (S (165 + a) + x))) (165 + b) (w32 (S (165 + b) - x))
/-- what give says; 0: it is done -/
def gWhy (S : Int → Int) (a b x : Int) : Int := if (0 ≤ a ∧ a < S 152) ∧ (0 ≤ b ∧ b < S 152) ∧ a ≠ b then (if S (153 + a) = S (153 + b) then (if S (171 + a) = 0 then -5 else if 0 ≤ x ∧ x ≤ S (165 + b) then (if S (171 + b) = 40 then -4 else 0) else -3) else -5) else -2
def aGive (S : Int → Int) (a b x : Int) : Int := if gWhy S a b x = 0 then S (171 + b) + 1 else gWhy S a b x
def nGive (S : Int → Int) (a b x : Int) : Int → Int := if gWhy S a b x = 0 then sGive S a b x else S
theorem M_give_eq (H : Sh sh) (P : PM V) (O : SOk S D) : M_give 101 a b x (sh, setR V 102 S) = some (aGive S a b x, (sh, setR (upV V 101 0 0) 102 (nGive S a b x))) := by
  obtain ⟨KO, o2, o3, o4, o5, o6⟩ := O
  have P1 : PM (upV V 101 0 0) := by rw [PM_fld (by decide)]; exact P
  unfold M_give aGive nGive gWhy
  rw [bp101 H, bi101 H, M_isOne_b H P1 o2 o3]
  simp only [B_0, ite_not]
  by_cases h : 0 ≤ a ∧ a < S 152
  · rw [if_pos h, bi101 H, M_isOne_b H P1 o2 o3]
    simp only [B_0, ite_not]
    by_cases h' : 0 ≤ b ∧ b < S 152
    · rw [if_pos h']
      by_cases e : a = b
      · rw [if_pos e, if_neg (c := (0 ≤ a ∧ a < S 152) ∧ (0 ≤ b ∧ b < S 152) ∧ a ≠ b) (fun q => q.2.2 e)]; rfl
      · obtain ⟨t1, t2, -⟩ := o4 a h.1 h.2
        obtain ⟨u1, u2, -⟩ := o4 b h'.1 h'.2
        have hc : (0 ≤ a ∧ a < S 152) ∧ (0 ≤ b ∧ b < S 152) ∧ a ≠ b := ⟨h, h', e⟩
        rw [if_neg e, bg101 H, w32_id (x := 153 + a) (by omega) (by omega), blp P1 H (by omega) (by omega), bg101 H, w32_id (x := 153 + b) (by omega) (by omega), blp P1 H (by omega) (by omega), if_pos hc]
        by_cases g1 : S (153 + a) = S (153 + b)
        · simp only [g1, ↓reduceIte]
          rw [bg101 H, w32_id (x := 171 + a) (by omega) (by omega), blp P1 H (by omega) (by omega)]
          by_cases g2 : S (171 + a) = 0
          · rw [if_pos g2, if_pos g2]; rfl
          · rw [if_neg g2, if_neg g2, bg101 H, w32_id (x := 165 + b) (by omega) (by omega), blp P1 H (by omega) (by omega), M_within_b]
            simp only [B_0, ite_not]
            by_cases g3 : 0 ≤ x ∧ x ≤ S (165 + b)
            · rw [if_pos g3, if_pos g3, bg101 H, w32_id (x := 171 + b) (by omega) (by omega), blp P1 H (by omega) (by omega)]
              by_cases g4 : S (171 + b) = 40
              · rw [if_pos g4, if_pos g4]; rfl
              · rw [if_neg g4, if_neg g4, if_pos rfl, if_pos rfl]
                unfold M_moves sGive
                simp (disch := first | assumption | omega | (simp (disch := omega) only [upS_eq, upS_ne, w32_id]; omega)) only [↓bd_mk, ↓bd2_mk, ↓bg101, ↓bi101, ↓blp, ↓bsp, ↓M_slipAt_b, upS_eq, upS_ne, w32_id]
            · rw [if_neg g3, if_neg g3]; rfl
        · simp only [g1, ↓reduceIte]; rfl
    · rw [if_neg h', if_neg (c := (0 ≤ a ∧ a < S 152) ∧ (0 ≤ b ∧ b < S 152) ∧ a ≠ b) (fun q => h' q.2.1)]; rfl
  · rw [if_neg h, if_neg (c := (0 ≤ a ∧ a < S 152) ∧ (0 ≤ b ∧ b < S 152) ∧ a ≠ b) (fun q => h q.1)]; rfl
theorem M_give_b (H : Sh sh) (P : PM V) (O : SOk S D) {γ : Type} {fZ : Int → Mem → Option γ} : bd2 (M_give 101 a b x (sh, setR V 102 S)) fZ = fZ (aGive S a b x) (sh, setR (upV V 101 0 0) 102 (nGive S a b x)) := by
  rw [M_give_eq] <;> first | assumption | rfl
end GIVE
