/-! PURE: through; a going and the walker's rows -/
section THR8
variable {sh : List (Nat × Nat)} {V V' V1 V2 V2' : Int → Int → Int} {r t m s c i j d k x a b y D D' f p w bk v tb q e e' E o u : Int} {S S' S'' R : Int → Int} {n : Nat} {ρ : Nat → Int}
/-- a going leaves the rows of slips but for the place `many`; with a slip back it leaves them all -/
theorem cStep_row (hm : a ≠ t) (hk : k ≠ S (171 + i) ∨ sBk S i r = 1) : cStep V t m s c S i r a k = V a k := by
  unfold cStep
  rw [up_row hm, up_row hm]
  rcases sBk_01 S i r with g | g
  · rw [if_pos g]
    have hk' : k ≠ S (171 + i) := by omega
    unfold cPay
    rw [up_row hm, up_row hm, up_row hm, up_col hk', up_col hk', up_col hk']
  · rw [if_neg (by omega)]
    unfold cHad
    rw [up_row hm, up_row hm, up_row hm]
/-- how many slips he has behind a going -/
theorem sStep_many (h0 : 0 ≤ i) (h1 : i < 6) (hm : 0 ≤ S (171 + i)) : sStep S i r (171 + i) = if sBk S i r = 0 then S (171 + i) + 1 else S (171 + i) - 1 := by
  unfold sStep
  rw [upS_ne (by omega), upS_ne (by omega)]
  rcases sBk_01 S i r with g | g
  · rw [if_pos g, if_pos g]; unfold sPay; rw [upS_ne (by omega), upS_ne (by omega), upS_eq]
  · rw [if_neg (by omega), if_neg (by omega)]; unfold sHad; rw [upS_ne (by omega), upS_ne (by omega), upS_eq]
end THR8
