/-! PURE: through; a traveller whose sums are others -/
section THR1
variable {sh : List (Nat × Nat)} {V V' V1 V2 V2' : Int → Int → Int} {r t m s c i j d k x a b y D D' f p w bk v tb q e e' E : Int} {S S' S'' R : Int → Int} {n : Nat} {ρ : Nat → Int}
theorem PO_ag (A : Ag S S') (hN : S 152 ≤ 6) (h : PO S E) : PO S' E := by
  have e := A 152 (by decide) (by decide)
  refine ⟨fun k k0 k1 => ?_, ?_⟩
  · rw [A _ (by omega) (by omega)]; exact h.1 k k0 (by omega)
  · rw [e, psum_eq (S := S) _ (fun k hk => A _ (by omega) (by omega))]; exact h.2
/-- traveller i's sums paid, had back are a, b -/
def pb (S : Int → Int) (i a b : Int) : Int → Int := fun j => if j = 177 + i then a else if j = 183 + i then b else S j
theorem pb_ne (h1 : j ≠ 177 + i) (h2 : j ≠ 183 + i) : pb S i a b j = S j := by unfold pb; rw [if_neg h1, if_neg h2]
theorem pb_of (h : ∀ j, j ≠ 177 + i → j ≠ 183 + i → S' j = S j) : S' = pb S i (S' (177 + i)) (S' (183 + i)) := by
  funext j; unfold pb
  by_cases e : j = 177 + i
  · rw [if_pos e, e]
  · rw [if_neg e]
    by_cases e2 : j = 183 + i
    · rw [if_pos e2, e2]
    · rw [if_neg e2]; exact h j e e2
theorem sDart_pb (h0 : 0 ≤ i) (hr' : r < 24) : sDart (pb S i a b) r t = sDart S r t := by unfold sDart; rw [pb_ne (by omega) (by omega)]
theorem sHead_pb (h0 : 0 ≤ i) (hd : d < 48) : sHead (pb S i a b) d = sHead S d := by unfold sHead; rw [pb_ne (by omega) (by omega), pb_ne (by omega) (by omega)]
theorem sToll_pb (h0 : 0 ≤ i) (hr' : r < 24) : sToll (pb S i a b) r d = sToll S r d := by unfold sToll; rw [pb_ne (by omega) (by omega), pb_ne (by omega) (by omega), pb_ne (by omega) (by omega), pb_ne (by omega) (by omega)]
theorem sWorth_pb (h0 : 0 ≤ i) : sWorth (pb S i a b) x y d = sWorth S x y d := by unfold sWorth; rw [pb_ne (by omega) (by omega), pb_ne (by omega) (by omega)]
theorem sBk_pb (h0 : 0 ≤ i) (h1 : i < 6) (hr' : r < 24) : sBk (pb S i a b) i r = sBk S i r := by
  unfold sBk
  rw [pb_ne (j := 171 + i) (by omega) (by omega), pb_ne (j := 153 + i) (by omega) (by omega), sDart_pb h0 hr']
  by_cases q : 0 < S (171 + i)
  · rw [pb_ne (by omega) (by omega)]
  · rw [B_f (fun z => q z.1), B_f (fun z => q z.1)]
theorem sAmt_pb (h0 : 0 ≤ i) (h1 : i < 6) (hr' : r < 24) (hm : 0 ≤ S (171 + i)) : sAmt (pb S i a b) i r = sAmt S i r := by
  unfold sAmt sWorthOf
  rw [sBk_pb h0 h1 hr', pb_ne (j := 159 + i) (by omega) (by omega), pb_ne (j := 171 + i) (by omega) (by omega), sToll_pb h0 hr', sWorth_pb h0]
  split
  · rfl
  · rw [pb_ne (by omega) (by omega), pb_ne (by omega) (by omega)]
theorem sAns_pb (h0 : 0 ≤ i) (h1 : i < 6) (hr' : r < 24) (hm : 0 ≤ S (171 + i)) : sAns (pb S i a b) i r = sAns S i r := by
  unfold sAns; rw [sBk_pb h0 h1 hr', sAmt_pb h0 h1 hr' hm]
theorem rfW_pb (h0 : 0 ≤ i) (h1 : i < 6) (h7 : S 7 ≤ 24) : rfW (pb S i a b) i v = rfW S i v := by
  unfold rfW
  rw [pb_ne (j := 7) (by omega) (by omega)]
  by_cases g : 0 ≤ v ∧ v < S 7
  · rw [if_pos g, if_pos g]
    unfold sRefuse
    rw [sBk_pb h0 h1 (by omega), sToll_pb h0 (by omega), pb_ne (j := 128 + v) (by omega) (by omega), pb_ne (j := 8 + v) (by omega) (by omega), pb_ne (j := 32 + v) (by omega) (by omega), pb_ne (j := 153 + i) (by omega) (by omega), pb_ne (j := 165 + i) (by omega) (by omega), pb_ne (j := 159 + i) (by omega) (by omega), pb_ne (j := 171 + i) (by omega) (by omega)]
  · rw [if_neg g, if_neg g]
theorem sStep_pb (h0 : 0 ≤ i) (h1 : i < 6) (hr : 0 ≤ r) (hr' : r < 24) (hm : 0 ≤ S (171 + i)) : ∃ a' b', sStep (pb S i a b) i r = pb (sStep S i r) i a' b' := by
  have hd := sDart_rng (S := S) (t := S (153 + i)) hr hr'
  refine ⟨_, _, pb_of (fun j j1 j2 => ?_)⟩
  unfold sStep
  rw [sBk_pb h0 h1 hr', sAmt_pb h0 h1 hr' hm, pb_ne (j := 153 + i) (by omega) (by omega), pb_ne (j := 159 + i) (by omega) (by omega), pb_ne (j := 104 + r) (by omega) (by omega), sDart_pb h0 hr', sHead_pb h0 hd.2]
  rcases sBk_01 S i r with q | q
  · simp only [q, ↓reduceIte]
    unfold sPay
    rw [pb_ne (j := 171 + i) (by omega) (by omega), pb_ne (j := 159 + i) (by omega) (by omega), pb_ne (j := 165 + i) (by omega) (by omega)]
    simp only [up, j1, ↓reduceIte]
    rw [pb_ne j1 j2]
  · simp only [q, Int.reduceEq, ↓reduceIte]
    unfold sHad
    rw [pb_ne (j := 171 + i) (by omega) (by omega), pb_ne (j := 165 + i) (by omega) (by omega)]
    simp only [up, j2, ↓reduceIte]
    rw [pb_ne j1 j2]
/-- all but traveller i's slips above those he has -/
def KQ (S S' : Int → Int) (i : Int) : Prop := ∀ j, ¬ ((189 + (40 * i + S (171 + i)) ≤ j ∧ j < 229 + 40 * i) ∨ (429 + (40 * i + S (171 + i)) ≤ j ∧ j < 469 + 40 * i) ∨ (669 + (40 * i + S (171 + i)) ≤ j ∧ j < 709 + 40 * i)) → S' j = S j
theorem KQ_refl : KQ S S i := fun _ _ => rfl
theorem KQ_low (h : KQ S S' i) (h0 : 0 ≤ i) (hm : 0 ≤ S (171 + i)) (hj : j < 189) : S' j = S j := h j (by omega)
theorem KQ_trans (h : KQ S S' i) (h' : KQ S' S'' i) (h0 : 0 ≤ i) (hm : 0 ≤ S (171 + i)) (h6 : i < 6) : KQ S S'' i := fun j hj => by
  have e := KQ_low h h0 hm (j := 171 + i) (by omega)
  rw [h' j (by rw [e]; exact hj)]; exact h j hj
end THR1
