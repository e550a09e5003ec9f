/-! PURE: through; the class keeps a walker and has him again -/
section THR2
variable {sh : List (Nat × Nat)} {V V' V1 V2 V2' : Int → Int → Int} {r t m s c i j d k x a b y D D' f p w bk v tb q e e' E o : Int} {S S' S'' R : Int → Int} {n : Nat} {ρ : Nat → Int}
theorem k72 (H : Sh sh) (h0 : 0 ≤ o) (h1 : o < 8) : kS sh (72 + o) = (20, 7) := by
  have : o = 0 ∨ o = 1 ∨ o = 2 ∨ o = 3 ∨ o = 4 ∨ o = 5 ∨ o = 6 ∨ o = 7 := by omega
  rcases this with rfl | rfl | rfl | rfl | rfl | rfl | rfl | rfl
  · exact k_72 H
  · exact k_73 H
  · exact k_74 H
  · exact k_75 H
  · exact k_76 H
  · exact k_77 H
  · exact k_78 H
  · exact k_79 H
/-- what a kept row has -/
def KR (V : Int → Int → Int) (R : Int → Int) : Prop := (R 0 = V 80 0 ∧ R 1 = V 80 1 ∧ R 2 = V 80 2 ∧ R 3 = V 80 5) ∧ (V 80 5 < 40 → R 4 = V 81 (V 80 5) ∧ R 5 = V 82 (V 80 5) ∧ R 6 = V 83 (V 80 5))
theorem keepIn_ok (H : Sh sh) (W : WPt V) (h0 : 0 ≤ o) (h1 : o < 8) (hm : 0 ≤ V 80 5) : ∃ R, Tr_keepIn 80 (72 + o) (sh, V) = some (0, (sh, setR V (72 + o) R)) ∧ KR V R := by
  obtain ⟨w1, w2, w3⟩ := W 80 (by decide)
  replace w1 : V 80 6 = 81 := w1
  replace w2 : V 80 7 = 82 := w2
  replace w3 : V 80 8 = 83 := w3
  have es : setR V (72 + o) (V (72 + o)) = V := by funext x y; unfold setR; split <;> simp [*]
  have kr := k72 H h0 h1
  have kt : (kS sh 80).1 = 6 := by rw [k_80 H]
  have ss : ∀ (R : Int → Int) (j x : Int) (g : Mem → Option (Int × Mem)), 0 ≤ j → j < 7 → bd (sta 20 (sh, setR V (72 + o) R) (72 + o) j x) g = g (sh, setR V (72 + o) (up R j x)) := fun R j x g j0 j1 => by
    rw [bst (by rw [kr]) j0 (by rw [kr]; exact j1), up_setR]
  have gg : ∀ (R : Int → Int) (j : Int) (g : Int → Option (Int × Mem)), bd (getf 6 j (sh, setR V (72 + o) R) 80) g = g (V 80 j) := fun R j g => by
    rw [bgt kt, setR_ne (by omega)]
  have l1 : ∀ (R : Int → Int) (j : Int) (g : Int → Option (Int × Mem)), 0 ≤ j → j < 40 → bd (lda 20 (sh, setR V (72 + o) R) 81 j) g = g (V 81 j) := fun R j g j0 j1 => by
    rw [blt (by rw [k_81 H]) j0 (by rw [k_81 H]; exact j1), setR_ne (by omega)]
  have l2 : ∀ (R : Int → Int) (j : Int) (g : Int → Option (Int × Mem)), 0 ≤ j → j < 40 → bd (lda 20 (sh, setR V (72 + o) R) 82 j) g = g (V 82 j) := fun R j g j0 j1 => by
    rw [blt (by rw [k_82 H]) j0 (by rw [k_82 H]; exact j1), setR_ne (by omega)]
  have l3 : ∀ (R : Int → Int) (j : Int) (g : Int → Option (Int × Mem)), 0 ≤ j → j < 40 → bd (lda 20 (sh, setR V (72 + o) R) 83 j) g = g (V 83 j) := fun R j g j0 j1 => by
    rw [blt (by rw [k_83 H]) j0 (by rw [k_83 H]; exact j1), setR_ne (by omega)]
  have main : ∃ R, Tr_keepIn 80 (72 + o) (sh, setR V (72 + o) (V (72 + o))) = some (0, (sh, setR V (72 + o) R)) ∧ KR V R := by
   unfold Tr_keepIn
   rw [gg, ss _ _ _ _ (by decide) (by decide), gg, ss _ _ _ _ (by decide) (by decide), gg, ss _ _ _ _ (by decide) (by decide), gg, ss _ _ _ _ (by decide) (by decide), gg]
   by_cases h : V 80 5 < 40
   · rw [if_pos h, gg, gg, w1, l1 _ _ _ hm h, ss _ _ _ _ (by decide) (by decide), gg, gg, w2, l2 _ _ _ hm h, ss _ _ _ _ (by decide) (by decide), gg, gg, w3, l3 _ _ _ hm h, ss _ _ _ _ (by decide) (by decide)]
     refine ⟨_, rfl, ⟨?_, ?_, ?_, ?_⟩, fun _ => ⟨?_, ?_, ?_⟩⟩ <;> simp (disch := decide) only [upS_eq, upS_ne]
   · rw [if_neg h]
     refine ⟨_, rfl, ⟨?_, ?_, ?_, ?_⟩, fun q => absurd q h⟩ <;> simp (disch := decide) only [upS_eq, upS_ne]
  rw [es] at main; exact main
theorem regain_ok (H : Sh sh) (W : WPt V) (h0 : 0 ≤ o) (h1 : o < 8) (hm : 0 ≤ V (72 + o) 3) : ∃ V', Tr_regain 80 (72 + o) (sh, V) = some (0, (sh, V')) ∧ KR V' (V (72 + o)) ∧ (∀ j, j ≠ 0 → j ≠ 1 → j ≠ 2 → j ≠ 5 → V' 80 j = V 80 j) ∧ (∀ a j, (a = 81 ∨ a = 82 ∨ a = 83) → j ≠ V (72 + o) 3 → V' a j = V a j) ∧ ∀ a j, (a < 80 ∨ 83 < a) → V' a j = V a j := by
  obtain ⟨w1, w2, w3⟩ := W 80 (by decide)
  replace w1 : V 80 6 = 81 := w1
  replace w2 : V 80 7 = 82 := w2
  replace w3 : V 80 8 = 83 := w3
  have kr := k72 H h0 h1
  have kt : (kS sh 80).1 = 6 := by rw [k_80 H]
  have ll : ∀ (U : Int → Int → Int) (j : Int) (g : Int → Option (Int × Mem)), 0 ≤ j → j < 7 → bd (lda 20 (sh, U) (72 + o) j) g = g (U (72 + o) j) := fun U j g j0 j1 => blt (by rw [kr]) j0 (by rw [kr]; exact j1)
  unfold Tr_regain
  rw [ll _ _ _ (by decide) (by decide), bpt kt, ll _ _ _ (by decide) (by decide), up_row (by omega), bpt kt, ll _ _ _ (by decide) (by decide), up_row (by omega), up_row (by omega), bpt kt, ll _ _ _ (by decide) (by decide), up_row (by omega), up_row (by omega), up_row (by omega), bpt kt, bgt kt, up_eq]
  generalize hU : upV (upV (upV (upV V 80 0 (V (72 + o) 0)) 80 1 (V (72 + o) 1)) 80 2 (V (72 + o) 2)) 80 5 (V (72 + o) 3) = U
  have fU : ∀ a j, a ≠ 80 → U a j = V a j := fun a j ha => by rw [← hU, up_row ha, up_row ha, up_row ha, up_row ha]
  have gU : ∀ j, j ≠ 0 → j ≠ 1 → j ≠ 2 → j ≠ 5 → U 80 j = V 80 j := fun j a1 a2 a3 a4 => by rw [← hU, up_col a4, up_col a3, up_col a2, up_col a1]
  have u0 : U 80 0 = V (72 + o) 0 := by rw [← hU, up_col (by decide), up_col (by decide), up_col (by decide), up_eq]
  have u1 : U 80 1 = V (72 + o) 1 := by rw [← hU, up_col (by decide), up_col (by decide), up_eq]
  have u2 : U 80 2 = V (72 + o) 2 := by rw [← hU, up_col (by decide), up_eq]
  have u5 : U 80 5 = V (72 + o) 3 := by rw [← hU, up_eq]
  have u6 : U 80 6 = 81 := by rw [gU 6 (by decide) (by decide) (by decide) (by decide)]; exact w1
  have u7 : U 80 7 = 82 := by rw [gU 7 (by decide) (by decide) (by decide) (by decide)]; exact w2
  have u8 : U 80 8 = 83 := by rw [gU 8 (by decide) (by decide) (by decide) (by decide)]; exact w3
  by_cases h : V (72 + o) 3 < 40
  · rw [if_pos h, bgt kt, u6, bgt kt, u5, ll _ _ _ (by decide) (by decide), fU _ _ (by omega), bst (by rw [k_81 H]) hm (by rw [k_81 H]; exact h), bgt kt, up_row (by decide), u7, bgt kt, up_row (by decide), u5, ll _ _ _ (by decide) (by decide), up_row (by omega), fU _ _ (by omega), bst (by rw [k_82 H]) hm (by rw [k_82 H]; exact h), bgt kt, up_row (by decide), up_row (by decide), u8, bgt kt, up_row (by decide), up_row (by decide), u5, ll _ _ _ (by decide) (by decide), up_row (by omega), up_row (by omega), fU _ _ (by omega), bst (by rw [k_83 H]) hm (by rw [k_83 H]; exact h)]
    refine ⟨_, rfl, ⟨⟨?_, ?_, ?_, ?_⟩, fun _ => ⟨?_, ?_, ?_⟩⟩, fun j a1 a2 a3 a4 => ?_, fun a j ha hj => ?_, fun a j ha => ?_⟩
    · rw [up_row (by decide), up_row (by decide), up_row (by decide), u0]
    · rw [up_row (by decide), up_row (by decide), up_row (by decide), u1]
    · rw [up_row (by decide), up_row (by decide), up_row (by decide), u2]
    · rw [up_row (by decide), up_row (by decide), up_row (by decide), u5]
    · rw [up_row (a := 83) (b := 80) (by decide), up_row (a := 82) (b := 80) (by decide), up_row (a := 81) (b := 80) (by decide), u5, up_row (by decide), up_row (by decide), up_eq]
    · rw [up_row (a := 83) (b := 80) (by decide), up_row (a := 82) (b := 80) (by decide), up_row (a := 81) (b := 80) (by decide), u5, up_row (by decide), up_eq]
    · rw [up_row (a := 83) (b := 80) (by decide), up_row (a := 82) (b := 80) (by decide), up_row (a := 81) (b := 80) (by decide), u5, up_eq]
    · rw [up_row (by decide), up_row (by decide), up_row (by decide)]; exact gU j a1 a2 a3 a4
    · rw [up_col hj, up_col hj, up_col hj]; exact fU a j (by omega)
    · rw [up_row (by omega), up_row (by omega), up_row (by omega)]; exact fU a j (by omega)
  · rw [if_neg h]
    exact ⟨U, rfl, ⟨⟨u0.symm, u1.symm, u2.symm, u5.symm⟩, fun q => absurd (by rw [u5] at q; exact q) h⟩, gU, fun a j ha hj => fU a j (by omega), fun a j ha => fU a j (by omega)⟩
end THR2
