/-! PURE: kingdom; what is expected, in both -/
section KG3
variable {sh : List (Nat × Nat)} {V V' V1 W W' W1 : Int → Int → Int} {S : Int → Int} {τ : Nat → Int} {N p q n : Nat} {lo hi lo' hi' : Int}
theorem tK_word (h : tK τ N p ≤ 9) : tK τ N p = ky τ (tA τ N p) (tE τ N p) := by
  unfold tK at h ⊢
  split at h
  · rename_i q1
    split at h
    · rename_i q2; rw [if_pos q1, if_pos q2]
    · split at h
      · split at h <;> omega
      · split at h <;> omega
  · omega
theorem tK_le : tK τ N p ≤ 13 := by
  unfold tK
  split
  · split
    · have := ky_le (τ := τ) (a := tA τ N p) (e := tE τ N p); omega
    · split
      · split <;> omega
      · split <;> omega
  · omega
/-- the class's word at hand -/
theorem word_ok (H : Sh sh) (C : CRd V τ N) (hp : p ≤ N) (Q : Cur V τ N p) (hn : n < 9) : ∃ y, Rd_isWord 37 (-2 - (n : Int)) (sh, V) = some (y, (sh, V)) ∧ (tK τ N p ≠ 13 → y = B (tK τ N p = n)) := by
  obtain ⟨h3, h4, h5⟩ := tE_le (τ := τ) hp
  obtain ⟨q1, q2, q3, q4, q5, q6⟩ := Q
  refine ⟨_, isWord_ok H C hn q1 q2 h3 h4, fun h => ?_⟩
  have kl := tK_le (τ := τ) (N := N) (p := p)
  by_cases l : tK τ N p ≤ 9
  · have ek := tK_word l
    have ki := ky_iff (τ := τ) (a := tA τ N p) (e := tE τ N p) hn
    by_cases z : tK τ N p = n
    · rw [B_t z, B_t ⟨q4 l, ki.mp (by omega)⟩]
    · rw [B_f z, B_f (fun w => z (by rw [ek]; exact ki.mpr w.2))]
  · rw [B_f (p := tK τ N p = n) (by omega), B_f (fun w => ?_)]
    have w1 := w.1
    by_cases z0 : tK τ N p = 10
    · have := (q5 z0).1; omega
    · by_cases z1 : tK τ N p = 11
      · have := q6 z1; omega
      · have := q3 (by omega); omega
/-- what is blamed -/
def flt (k n : Nat) : Int := if k = 13 then 1 else if k = 10 ∧ n = 10 then 3 else 2
theorem expectNumber_ok (H : Sh sh) (C : CRd V τ N) (h6 : V 37 6 = p) (hp : p ≤ N) : ∃ y V', Rd_expectNumber 37 lo hi (sh, V) = some (y, (sh, V')) ∧ FA V V' ∧ (V' 37 6 = tE τ N p ∧ V' 37 5 = tA τ N p) ∧ (V 37 1 ≠ 0 → V' 37 1 = V 37 1 ∧ V' 37 2 = V 37 2) ∧ (V 37 1 = 0 → (tK τ N p = 10 ∧ lo ≤ tV τ N p ∧ tV τ N p ≤ hi ∧ V' 37 1 = 0 ∧ y = tV τ N p ∧ V' 37 2 = V 37 2) ∨ (¬ (tK τ N p = 10 ∧ lo ≤ tV τ N p ∧ tV τ N p ≤ hi) ∧ V' 37 1 = flt (tK τ N p) 10 ∧ V' 37 2 = tA τ N p)) := by
  obtain ⟨V1, F1, Q, a1, a2, a3⟩ := advance_ok H C h6 hp
  have Q0 := Q
  obtain ⟨q1, q2, q3, q4, q5, q6⟩ := Q
  have kl := tK_le (τ := τ) (N := N) (p := p)
  unfold Rd_expectNumber
  rw [ri37 H, a3, bd2_mk, rg37 H]
  -- a blame behind the advance
  have bl : ∀ x : Int, ∃ V', FA V V' ∧ (V' 37 6 = tE τ N p ∧ V' 37 5 = tA τ N p) ∧ V' 37 8 = V1 37 8 ∧ (V 37 1 ≠ 0 → V' 37 1 = V 37 1 ∧ V' 37 2 = V 37 2) ∧ (V 37 1 = 0 → V' 37 1 = (if tK τ N p = 13 then 1 else x) ∧ V' 37 2 = tA τ N p) ∧ Rd_blame 37 x (sh, V1) = some (0, (sh, V')) := fun x => by
    obtain ⟨V2, b0, b1, b2, b3, b4, b5, b6, b7⟩ := blame_ok (V := V1) (x := x) H
    refine ⟨V2, FA_trans F1 b0, ⟨by rw [b2]; exact q2, by rw [b1]; exact q1⟩, b4, fun h => ?_, fun h => ?_, b7⟩
    · rw [if_neg (fun z => h z.2)] at a1 a2
      rw [b5, b6, a1, if_neg h, if_neg h]; exact ⟨rfl, a2⟩
    · by_cases z : tK τ N p = 13
      · rw [if_pos ⟨z, h⟩] at a1 a2
        rw [b5, b6, a1, if_pos z, if_neg (by decide), if_neg (by decide)]; exact ⟨rfl, a2⟩
      · rw [if_neg (fun w => z w.1)] at a1 a2
        rw [b5, b6, a1, if_pos h, if_pos h, if_neg z]; exact ⟨rfl, q1⟩
  have keep : V 37 1 ≠ 0 → V1 37 1 = V 37 1 ∧ V1 37 2 = V 37 2 := fun h => by
    rw [if_neg (fun z => h z.2)] at a1 a2; exact ⟨a1, a2⟩
  by_cases k2 : V1 37 7 = 2
  · rw [if_pos k2, rg37 H]
    have two : tK τ N p = 10 ∨ tK τ N p = 13 := by
      by_cases z : tK τ N p = 10
      · exact Or.inl z
      · right
        by_cases z1 : tK τ N p ≤ 9
        · have := q4 z1; omega
        · by_cases z2 : tK τ N p = 11
          · have := q6 z2; omega
          · by_cases z3 : tK τ N p = 12
            · have := q3 z3; omega
            · omega
    have J : Rd_expectNumber_J36 37 (sh, V1) = Rd_expectNumber_J36 37 (sh, V1) := rfl
    conv at J => rhs; unfold Rd_expectNumber_J36
    obtain ⟨V2, b1, b2, b3, b4, b5, b6⟩ := bl 3
    rw [ri37 H, b6, bd2_mk, rg37 H, b3] at J
    have bad : ¬ (lo ≤ V1 37 8 ∧ V1 37 8 ≤ hi) → ∃ y V', (some (V1 37 8, ((sh, V2) : Mem)) : Option (Int × Mem)) = some (y, (sh, V')) ∧ FA V V' ∧ (V' 37 6 = tE τ N p ∧ V' 37 5 = tA τ N p) ∧ (V 37 1 ≠ 0 → V' 37 1 = V 37 1 ∧ V' 37 2 = V 37 2) ∧ (V 37 1 = 0 → (tK τ N p = 10 ∧ lo ≤ tV τ N p ∧ tV τ N p ≤ hi ∧ V' 37 1 = 0 ∧ y = tV τ N p ∧ V' 37 2 = V 37 2) ∨ (¬ (tK τ N p = 10 ∧ lo ≤ tV τ N p ∧ tV τ N p ≤ hi) ∧ V' 37 1 = flt (tK τ N p) 10 ∧ V' 37 2 = tA τ N p)) := fun hb => by
      refine ⟨_, _, rfl, b1, b2, b4, fun h => Or.inr ⟨fun z => ?_, ?_, (b5 h).2⟩⟩
      · have := (q5 z.1).2; rw [this] at hb; exact hb z.2
      · rw [(b5 h).1]; unfold flt
        by_cases z : tK τ N p = 13
        · rw [if_pos z, if_pos z]
        · rw [if_neg z, if_neg z, if_pos (by omega)]
    by_cases l1 : V1 37 8 < lo
    · rw [if_pos l1, J]; exact bad (by omega)
    · rw [if_neg l1, rg37 H]
      by_cases l2 : hi < V1 37 8
      · rw [if_pos l2, J]; exact bad (by omega)
      · rw [if_neg l2, rg37 H]
        refine ⟨_, _, rfl, F1, ⟨q2, q1⟩, keep, fun h => ?_⟩
        rcases two with z | z
        · have e := (q5 z).2
          rw [if_neg (by omega)] at a1 a2
          exact Or.inl ⟨z, by omega, by omega, by omega, e, a2⟩
        · rw [if_pos ⟨z, h⟩] at a1 a2
          exact Or.inr ⟨by omega, by rw [a1]; unfold flt; rw [if_pos z], a2⟩
  · obtain ⟨V2, b1, b2, b3, b4, b5, b6⟩ := bl 2
    rw [if_neg k2, ri37 H, b6, bd2_mk, rg37 H]
    refine ⟨_, _, rfl, b1, b2, b4, fun h => Or.inr ⟨fun z => k2 (q5 z.1).1, ?_, (b5 h).2⟩⟩
    rw [(b5 h).1]; unfold flt
    by_cases z : tK τ N p = 13
    · rw [if_pos z, if_pos z]
    · rw [if_neg z, if_neg z, if_neg (fun w => k2 (q5 w.1).1)]
theorem expectWord_ok (H : Sh sh) (C : CRd V τ N) (h6 : V 37 6 = p) (hp : p ≤ N) (hn : n < 9) : ∃ y V', Rd_expectWord 37 (-2 - (n : Int)) (sh, V) = some (y, (sh, V')) ∧ FA V V' ∧ V' 37 6 = tE τ N p ∧ (V 37 1 ≠ 0 → V' 37 1 = V 37 1 ∧ V' 37 2 = V 37 2) ∧ (V 37 1 = 0 → (tK τ N p = n ∧ V' 37 1 = 0 ∧ V' 37 2 = V 37 2) ∨ (tK τ N p ≠ n ∧ V' 37 1 = flt (tK τ N p) n ∧ V' 37 2 = tA τ N p)) := by
  obtain ⟨V1, F1, Q, a1, a2, a3⟩ := advance_ok H C h6 hp
  obtain ⟨y, y1, y2⟩ := word_ok (n := n) H (FA_CRd F1 C) hp Q hn
  obtain ⟨q1, q2, q3, q4, q5, q6⟩ := Q
  unfold Rd_expectWord
  rw [ri37 H, a3, bd2_mk, ri37 H, y1, bd2_mk]
  have ef : tK τ N p ≠ 13 → flt (tK τ N p) n = 2 := fun z => by unfold flt; rw [if_neg z, if_neg (by omega)]
  by_cases z : y = 0
  · obtain ⟨V2, b0, b1, b2, b3, b4, b5, b6, b7⟩ := blame_ok (V := V1) (x := 2) H
    rw [if_pos z, ri37 H, b7, bd2_mk]
    refine ⟨_, _, rfl, FA_trans F1 b0, by rw [b2]; exact q2, fun h => ?_, fun h => ?_⟩
    · rw [if_neg (fun z => h z.2)] at a1 a2
      rw [b5, b6, a1, if_neg h, if_neg h]; exact ⟨rfl, a2⟩
    · by_cases w : tK τ N p = 13
      · rw [if_pos ⟨w, h⟩] at a1 a2
        refine Or.inr ⟨by omega, ?_, ?_⟩
        · rw [b5, a1, if_neg (by decide)]; unfold flt; rw [if_pos w]
        · rw [b6, a1, if_neg (by decide)]; exact a2
      · rw [if_neg (fun z => w z.1)] at a1 a2
        have hw : tK τ N p ≠ n := fun g => by
          have := y2 w; rw [B_t g] at this; omega
        refine Or.inr ⟨hw, ?_, ?_⟩
        · rw [b5, a1, if_pos h, ef w]
        · rw [b6, a1, if_pos h]; exact q1
  · rw [if_neg z]
    refine ⟨_, _, rfl, F1, q2, fun h => ?_, fun h => ?_⟩
    · rw [if_neg (fun z => h z.2)] at a1 a2; exact ⟨a1, a2⟩
    · by_cases w : tK τ N p = 13
      · rw [if_pos ⟨w, h⟩] at a1 a2
        exact Or.inr ⟨by omega, by rw [a1]; unfold flt; rw [if_pos w], a2⟩
      · rw [if_neg (fun z => w z.1)] at a1 a2
        refine Or.inl ⟨Classical.byContradiction (fun g => z ?_), by omega, a2⟩
        have := y2 w; rw [B_f g] at this; exact this
theorem expectSign_ok (H : Sh sh) (C : CRd V τ N) (h6 : V 37 6 = p) (hp : p ≤ N) : ∃ y V', Rd_expectSign 37 (sh, V) = some (y, (sh, V')) ∧ FA V V' ∧ V' 37 6 = tE τ N p ∧ (V 37 1 ≠ 0 → V' 37 1 = V 37 1 ∧ V' 37 2 = V 37 2) ∧ (V 37 1 = 0 → (tK τ N p = 11 ∧ V' 37 1 = 0 ∧ V' 37 2 = V 37 2) ∨ (tK τ N p ≠ 11 ∧ V' 37 1 = flt (tK τ N p) 11 ∧ V' 37 2 = tA τ N p)) := by
  obtain ⟨V1, F1, Q, a1, a2, a3⟩ := advance_ok H C h6 hp
  obtain ⟨q1, q2, q3, q4, q5, q6⟩ := Q
  have kl := tK_le (τ := τ) (N := N) (p := p)
  unfold Rd_expectSign
  rw [ri37 H, a3, bd2_mk, rg37 H]
  have ef : tK τ N p ≠ 13 → flt (tK τ N p) 11 = 2 := fun z => by unfold flt; rw [if_neg z, if_neg (by omega)]
  by_cases z : V1 37 7 = 3
  · rw [if_pos z]
    refine ⟨_, _, rfl, F1, q2, fun h => ?_, fun h => ?_⟩
    · rw [if_neg (fun z => h z.2)] at a1 a2; exact ⟨a1, a2⟩
    · by_cases w : tK τ N p = 13
      · rw [if_pos ⟨w, h⟩] at a1 a2
        exact Or.inr ⟨by omega, by rw [a1]; unfold flt; rw [if_pos w], a2⟩
      · rw [if_neg (fun z => w z.1)] at a1 a2
        refine Or.inl ⟨?_, by omega, a2⟩
        by_cases l : tK τ N p ≤ 9
        · have := q4 l; omega
        · by_cases l2 : tK τ N p = 10
          · have := (q5 l2).1; omega
          · by_cases l3 : tK τ N p = 12
            · have := q3 l3; omega
            · omega
  · obtain ⟨V2, b0, b1, b2, b3, b4, b5, b6, b7⟩ := blame_ok (V := V1) (x := 2) H
    rw [if_neg z, ri37 H, b7, bd2_mk]
    refine ⟨_, _, rfl, FA_trans F1 b0, by rw [b2]; exact q2, fun h => ?_, fun h => ?_⟩
    · rw [if_neg (fun z => h z.2)] at a1 a2
      rw [b5, b6, a1, if_neg h, if_neg h]; exact ⟨rfl, a2⟩
    · by_cases w : tK τ N p = 13
      · rw [if_pos ⟨w, h⟩] at a1 a2
        refine Or.inr ⟨by omega, ?_, ?_⟩
        · rw [b5, a1, if_neg (by decide)]; unfold flt; rw [if_pos w]
        · rw [b6, a1, if_neg (by decide)]; exact a2
      · rw [if_neg (fun z => w z.1)] at a1 a2
        refine Or.inr ⟨fun g => z (q6 g), ?_, ?_⟩
        · rw [b5, a1, if_pos h, ef w]
        · rw [b6, a1, if_pos h]; exact q1
/-- the reference's ones -/
theorem is_ok (H : Sh sh) {x : Int} : M_is 101 x (sh, setR W 102 S) = some (B (W 101 11 = 0 ∧ W 101 9 = x), (sh, setR W 102 S)) := by
  unfold M_is
  rw [bg101 H]
  by_cases h : W 101 11 = 0
  · rw [if_pos h, bg101 H]
    by_cases g : W 101 9 = x
    · rw [if_pos g, B_t ⟨h, g⟩]
    · rw [if_neg g, B_f (fun z => g z.2)]
  · rw [if_neg h, B_f (fun z => h z.1)]
theorem fails_ok (H : Sh sh) {x : Int} (h : W 101 11 = 0) : ∃ W', KN W W' ∧ W' 101 6 = W 101 6 ∧ W' 101 7 = W 101 7 ∧ W' 101 9 = W 101 9 ∧ W' 101 10 = W 101 10 ∧ W' 101 11 = (if W 101 9 = 13 then 1 else x) ∧ W' 101 12 = W 101 6 ∧ M_fails 101 x (sh, setR W 102 S) = some (0, (sh, setR W' 102 S)) := by
  unfold M_fails
  have e : ∀ F : Int → Option (Int × Mem), bd (if W 101 9 = 13 then some 1 else some x) F = F (if W 101 9 = 13 then 1 else x) := fun F => by split <;> rfl
  rw [bg101 H, if_pos h, bg101 H, e, bp101 H, bg101 H, up_col (by decide), bp101 H]
  exact ⟨_, KN_up (KN_up KN_refl (by unfold MFd; omega)) (by unfold MFd; omega), by rw [up_col (by decide), up_col (by decide)], by rw [up_col (by decide), up_col (by decide)], by rw [up_col (by decide), up_col (by decide)], by rw [up_col (by decide), up_col (by decide)], by rw [up_col (by decide), up_eq], up_eq, rfl⟩
theorem fails_no (H : Sh sh) {x : Int} (h : W 101 11 ≠ 0) : M_fails 101 x (sh, setR W 102 S) = some (0, (sh, setR W 102 S)) := by
  unfold M_fails
  rw [bg101 H, if_neg h]
theorem must_no (H : Sh sh) {x : Int} (h : W 101 11 ≠ 0) : M_must 101 x (sh, setR W 102 S) = some (0, (sh, setR W 102 S)) := by
  unfold M_must M_eats
  rw [bi101 H, bi101 H, is_ok H, bd2_mk, B_f (fun z => h z.1), if_pos rfl, bd2_mk, if_pos rfl, bi101 H, fails_no H h, bd2_mk]
theorem takes_no (H : Sh sh) (h : W 101 11 ≠ 0) : M_takes 101 lo hi (sh, setR W 102 S) = some (W 101 10, (sh, setR W 102 S)) := by
  unfold M_takes
  rw [bi101 H, is_ok H, bd2_mk, B_f (fun z => h z.1), if_pos rfl, bi101 H, fails_no H h, bd2_mk, bd_mk, bg101 H, bg101 H, if_neg h]
theorem must_ok (H : Sh sh) (C : MRd W τ N) (hp : p ≤ N) (h : W 101 11 = 0) (Q : Nxt W τ N p) (hn : n ≤ 12 ∧ n ≠ 10) : ∃ W', M_must 101 n (sh, setR W 102 S) = some (0, (sh, setR W' 102 S)) ∧ KN W W' ∧ ((tK τ N p = n ∧ W' 101 11 = 0 ∧ Nxt W' τ N (tE τ N p)) ∨ (tK τ N p ≠ n ∧ W' 101 11 = flt (tK τ N p) n ∧ W' 101 12 = tA τ N p)) := by
  obtain ⟨q1, q2, q3, q4⟩ := Q
  obtain ⟨h3, h4, h5⟩ := tE_le (τ := τ) hp
  unfold M_must M_eats
  rw [bi101 H, bi101 H, is_ok H, bd2_mk]
  by_cases z : tK τ N p = n
  · obtain ⟨W1, f1, f2, f3, f4, f5⟩ := next_ok (S := S) H C q2 h4
    rw [B_t ⟨h, by rw [q3]; omega⟩, if_neg (by decide), bi101 H, f5, bd2_mk, bd2_mk, if_neg (by decide)]
    exact ⟨W1, rfl, f1, Or.inl ⟨z, by omega, f2⟩⟩
  · obtain ⟨W1, f1, f2, f3, f4, f5, f6, f7, f8⟩ := fails_ok (S := S) (x := 2) H h
    rw [B_f (fun w => z (by have := w.2; omega)), if_pos rfl, bd2_mk, if_pos rfl, bi101 H, f8, bd2_mk]
    refine ⟨W1, rfl, f1, Or.inr ⟨z, ?_, by rw [f7]; exact q1⟩⟩
    rw [f6]; unfold flt
    by_cases w : tK τ N p = 13
    · rw [if_pos (by omega), if_pos w]
    · rw [if_neg (by omega), if_neg w, if_neg (by omega)]
theorem takes_ok (H : Sh sh) (C : MRd W τ N) (hp : p ≤ N) (h : W 101 11 = 0) (Q : Nxt W τ N p) : ∃ y W', M_takes 101 lo hi (sh, setR W 102 S) = some (y, (sh, setR W' 102 S)) ∧ KN W W' ∧ ((tK τ N p = 10 ∧ lo ≤ tV τ N p ∧ tV τ N p ≤ hi ∧ y = tV τ N p ∧ W' 101 11 = 0 ∧ Nxt W' τ N (tE τ N p)) ∨ (¬ (tK τ N p = 10 ∧ lo ≤ tV τ N p ∧ tV τ N p ≤ hi) ∧ W' 101 11 = flt (tK τ N p) 10 ∧ W' 101 12 = tA τ N p)) := by
  obtain ⟨q1, q2, q3, q4⟩ := Q
  obtain ⟨h3, h4, h5⟩ := tE_le (τ := τ) hp
  unfold M_takes
  rw [bi101 H, is_ok H, bd2_mk]
  by_cases z : tK τ N p = 10
  · have e10 := q4 z
    rw [B_t ⟨h, by rw [q3, z]; rfl⟩, if_neg (by decide), bg101 H, e10, M_within_b]
    by_cases g : lo ≤ tV τ N p ∧ tV τ N p ≤ hi
    · obtain ⟨W1, f1, f2, f3, f4, f5⟩ := next_ok (S := S) H C q2 h4
      rw [B_t g, if_neg (by decide), bd_mk, bg101 H, e10, bg101 H, if_pos h, bi101 H, f5, bd2_mk]
      exact ⟨_, W1, rfl, f1, Or.inl ⟨z, g.1, g.2, rfl, by omega, f2⟩⟩
    · obtain ⟨W1, f1, f2, f3, f4, f5, f6, f7, f8⟩ := fails_ok (S := S) (x := 3) H h
      rw [if_neg (by omega)] at f6
      rw [B_f g, if_pos rfl, bi101 H, f8, bd2_mk, bd_mk, bg101 H, bg101 H, if_neg (by omega)]
      refine ⟨_, W1, rfl, f1, Or.inr ⟨fun w => g w.2, ?_, by rw [f7]; exact q1⟩⟩
      rw [f6]; unfold flt; rw [if_neg (by omega), if_pos ⟨z, rfl⟩]
  · obtain ⟨W1, f1, f2, f3, f4, f5, f6, f7, f8⟩ := fails_ok (S := S) (x := 2) H h
    have nz : W1 101 11 ≠ 0 := by rw [f6]; split <;> decide
    rw [B_f (fun w => z (by have := w.2; omega)), if_pos rfl, bi101 H, f8, bd2_mk, bd_mk, bg101 H, bg101 H, if_neg nz]
    refine ⟨_, W1, rfl, f1, Or.inr ⟨fun w => z w.1, ?_, by rw [f7]; exact q1⟩⟩
    rw [f6]; unfold flt
    by_cases w : tK τ N p = 13
    · rw [if_pos (by omega), if_pos w]
    · rw [if_neg (by omega), if_neg w, if_neg (by omega)]
/-- both stand before the token at p -/
def KR2 (V W : Int → Int → Int) (τ : Nat → Int) (N p : Nat) : Prop := CRd V τ N ∧ MRd W τ N ∧ (V 37 1 = 0 ∧ V 37 2 = -1) ∧ V 37 6 = p ∧ p ≤ N ∧ W 101 11 = 0 ∧ Nxt W τ N p
/-- both have the same fault -/
def KFF (V W : Int → Int → Int) (τ : Nat → Int) (N : Nat) : Prop := CRd V τ N ∧ MRd W τ N ∧ V 37 1 ≠ 0 ∧ W 101 11 = V 37 1 ∧ W 101 12 = V 37 2 ∧ ∃ p : Nat, V 37 6 = p ∧ p ≤ N
def KSt (V W : Int → Int → Int) (τ : Nat → Int) (N q : Nat) : Prop := (∃ p, q ≤ p ∧ KR2 V W τ N p) ∨ KFF V W τ N
theorem flt_nz : flt p n ≠ 0 := by unfold flt; split; decide; split <;> decide
theorem St_base (h : KSt V W τ N q) : CRd V τ N ∧ MRd W τ N ∧ ∃ p : Nat, V 37 6 = p ∧ p ≤ N := by
  rcases h with ⟨p, _, h⟩ | h
  · exact ⟨h.1, h.2.1, p, h.2.2.2.1, h.2.2.2.2.1⟩
  · exact ⟨h.1, h.2.1, h.2.2.2.2.2⟩
theorem num_St (H : Sh sh) (h : KSt V W τ N q) (hl : V 37 1 = 0 → lo = lo' ∧ hi = hi') : ∃ y y' V' W', Rd_expectNumber 37 lo hi (sh, V) = some (y, (sh, V')) ∧ M_takes 101 lo' hi' (sh, setR W 102 S) = some (y', (sh, setR W' 102 S)) ∧ FA V V' ∧ KN W W' ∧ KSt V' W' τ N q ∧ (V' 37 1 = 0 → V 37 1 = 0 ∧ y = y' ∧ lo ≤ y ∧ y ≤ hi) ∧ (V 37 1 ≠ 0 → V' 37 1 = V 37 1 ∧ V' 37 2 = V 37 2) := by
  rcases h with ⟨p, hq, C, M, ⟨v1, v2⟩, v6, hp, w11, Q⟩ | ⟨C, M, v1, w11, w12, p, v6, hp⟩
  · obtain ⟨e1, e2⟩ := hl v1
    subst e1; subst e2
    obtain ⟨h3, h4, h5⟩ := tE_le (τ := τ) hp
    have ta := tA_le (τ := τ) hp
    obtain ⟨y, V', a1, a2, a3, a4, a5⟩ := expectNumber_ok (lo := lo) (hi := hi) H C v6 hp
    obtain ⟨y', W', b1, b2, b3⟩ := takes_ok (S := S) (lo := lo) (hi := hi) H M hp w11 Q
    refine ⟨y, y', V', W', a1, b1, a2, b2, ?_, ?_, a4⟩
    · rcases a5 v1 with ⟨c1, c2, c3, c4, c5⟩ | ⟨c1, c2, c3⟩
      · rcases b3 with ⟨d1, d2, d3, d4, d5, d6⟩ | ⟨d1, d2, d3⟩
        · exact Or.inl ⟨tE τ N p, by omega, FA_CRd a2 C, KN_MRd b2 M, ⟨c4, by omega⟩, a3.1, h4, d5, d6⟩
        · exact absurd ⟨c1, c2, c3⟩ d1
      · rcases b3 with ⟨d1, d2, d3, d4, d5, d6⟩ | ⟨d1, d2, d3⟩
        · exact absurd ⟨d1, d2, d3⟩ c1
        · exact Or.inr ⟨FA_CRd a2 C, KN_MRd b2 M, by rw [c2]; exact flt_nz, by rw [c2, d2], by rw [c3, d3], tE τ N p, a3.1, h4⟩
    · intro hz
      rcases a5 v1 with ⟨c1, c2, c3, c4, c5⟩ | ⟨c1, c2, c3⟩
      · rcases b3 with ⟨d1, d2, d3, d4, d5, d6⟩ | ⟨d1, d2, d3⟩
        · exact ⟨v1, by omega, by omega, by omega⟩
        · exact absurd ⟨c1, c2, c3⟩ d1
      · rw [c2] at hz; exact absurd hz flt_nz
  · obtain ⟨h3, h4, h5⟩ := tE_le (τ := τ) hp
    obtain ⟨y, V', a1, a2, a3, a4, a5⟩ := expectNumber_ok (lo := lo) (hi := hi) H C v6 hp
    obtain ⟨g1, g2⟩ := a4 v1
    refine ⟨y, _, V', W, a1, takes_no H (by omega), a2, KN_refl, Or.inr ⟨FA_CRd a2 C, M, by omega, by omega, by omega, tE τ N p, a3.1, h4⟩, fun z => by omega, a4⟩
theorem word_St (H : Sh sh) (h : KSt V W τ N q) (hn : n < 9) : ∃ y V' W', Rd_expectWord 37 (-2 - (n : Int)) (sh, V) = some (y, (sh, V')) ∧ M_must 101 n (sh, setR W 102 S) = some (0, (sh, setR W' 102 S)) ∧ FA V V' ∧ KN W W' ∧ KSt V' W' τ N q ∧ (V' 37 1 = 0 → V 37 1 = 0) ∧ (V 37 1 ≠ 0 → V' 37 1 = V 37 1 ∧ V' 37 2 = V 37 2) := by
  rcases h with ⟨p, hq, C, M, ⟨v1, v2⟩, v6, hp, w11, Q⟩ | ⟨C, M, v1, w11, w12, p, v6, hp⟩
  · obtain ⟨h3, h4, h5⟩ := tE_le (τ := τ) hp
    have ta := tA_le (τ := τ) hp
    obtain ⟨y, V', a1, a2, a3, a4, a5⟩ := expectWord_ok (n := n) H C v6 hp hn
    obtain ⟨W', b1, b2, b3⟩ := must_ok (S := S) (n := n) H M hp w11 Q (by omega)
    refine ⟨y, V', W', a1, b1, a2, b2, ?_, fun _ => v1, a4⟩
    rcases a5 v1 with ⟨c1, c2⟩ | ⟨c1, c2, c3⟩
    · rcases b3 with ⟨d1, d2, d3⟩ | ⟨d1, d2, d3⟩
      · exact Or.inl ⟨tE τ N p, by omega, FA_CRd a2 C, KN_MRd b2 M, ⟨c2.1, by omega⟩, a3, h4, d2, d3⟩
      · exact absurd c1 d1
    · rcases b3 with ⟨d1, d2, d3⟩ | ⟨d1, d2, d3⟩
      · exact absurd d1 c1
      · exact Or.inr ⟨FA_CRd a2 C, KN_MRd b2 M, by rw [c2]; exact flt_nz, by rw [c2, d2], by rw [c3, d3], tE τ N p, a3, h4⟩
  · obtain ⟨h3, h4, h5⟩ := tE_le (τ := τ) hp
    obtain ⟨y, V', a1, a2, a3, a4, a5⟩ := expectWord_ok (n := n) H C v6 hp hn
    obtain ⟨g1, g2⟩ := a4 v1
    exact ⟨y, V', W, a1, must_no H (by omega), a2, KN_refl, Or.inr ⟨FA_CRd a2 C, M, by omega, by omega, by omega, tE τ N p, a3, h4⟩, fun z => by omega, a4⟩
theorem sign_St (H : Sh sh) (h : KSt V W τ N q) : ∃ y V' W', Rd_expectSign 37 (sh, V) = some (y, (sh, V')) ∧ M_must 101 11 (sh, setR W 102 S) = some (0, (sh, setR W' 102 S)) ∧ FA V V' ∧ KN W W' ∧ KSt V' W' τ N q ∧ (V' 37 1 = 0 → V 37 1 = 0) ∧ (V 37 1 ≠ 0 → V' 37 1 = V 37 1 ∧ V' 37 2 = V 37 2) := by
  rcases h with ⟨p, hq, C, M, ⟨v1, v2⟩, v6, hp, w11, Q⟩ | ⟨C, M, v1, w11, w12, p, v6, hp⟩
  · obtain ⟨h3, h4, h5⟩ := tE_le (τ := τ) hp
    have ta := tA_le (τ := τ) hp
    obtain ⟨y, V', a1, a2, a3, a4, a5⟩ := expectSign_ok H C v6 hp
    obtain ⟨W', b1, b2, b3⟩ := must_ok (S := S) (n := 11) H M hp w11 Q (by omega)
    refine ⟨y, V', W', a1, b1, a2, b2, ?_, fun _ => v1, a4⟩
    rcases a5 v1 with ⟨c1, c2⟩ | ⟨c1, c2, c3⟩
    · rcases b3 with ⟨d1, d2, d3⟩ | ⟨d1, d2, d3⟩
      · exact Or.inl ⟨tE τ N p, by omega, FA_CRd a2 C, KN_MRd b2 M, ⟨c2.1, by omega⟩, a3, h4, d2, d3⟩
      · exact absurd c1 d1
    · rcases b3 with ⟨d1, d2, d3⟩ | ⟨d1, d2, d3⟩
      · exact absurd d1 c1
      · exact Or.inr ⟨FA_CRd a2 C, KN_MRd b2 M, by rw [c2]; exact flt_nz, by rw [c2, d2], by rw [c3, d3], tE τ N p, a3, h4⟩
  · obtain ⟨h3, h4, h5⟩ := tE_le (τ := τ) hp
    obtain ⟨y, V', a1, a2, a3, a4, a5⟩ := expectSign_ok H C v6 hp
    obtain ⟨g1, g2⟩ := a4 v1
    exact ⟨y, V', W, a1, must_no H (by omega), a2, KN_refl, Or.inr ⟨FA_CRd a2 C, M, by omega, by omega, by omega, tE τ N p, a3, h4⟩, fun z => by omega, a4⟩
end KG3
