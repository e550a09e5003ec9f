/-! PURE: the invariant after a step -/
theorem w32_def (x : Int) : w32 x = (x + 2147483648) % 4294967296 - 2147483648 := by
  unfold w32
  rw [Int32.toInt_ofInt]
  show Int.bmod x 4294967296 = _
  unfold Int.bmod
  dsimp only
  split <;> omega
section STEP
variable {sh : List (Nat × Nat)} {V V' : Int → Int → Int} {r t m s c i j d k x a y D : Int} {S S' : Int → Int} {n : Nat}
theorem tre_congr (h : ∀ i : Nat, i < n → S' (177 + i) - S' (183 + i) = S (177 + i) - S (183 + i)) : tre S' n = tre S n := by
  induction n with
  | zero => rfl
  | succ n ih => rw [tre, tre, ih (fun i hi => h i (by omega)), h n (by omega)]
theorem tre_one {i0 : Nat} (hi : i0 < n) (h : ∀ i : Nat, i < n → i ≠ i0 → S' (177 + i) - S' (183 + i) = S (177 + i) - S (183 + i)) : tre S' n = tre S n + ((S' (177 + i0) - S' (183 + i0)) - (S (177 + i0) - S (183 + i0))) := by
  induction n with
  | zero => omega
  | succ n ih =>
    rw [tre, tre]
    by_cases e : n = i0
    · subst e
      rw [tre_congr (S' := S') (S := S) (fun i hi => h i (by omega) (by omega))]; omega
    · rw [ih (by omega) (fun i hi hn => h i (by omega) hn), h n (by omega) e]; omega
/-- places of S that speak of travellers in I, or of the ledger and beyond -/
def XS (I : Int → Prop) (j : Int) : Prop := 909 ≤ j ∨ ∃ i, 0 ≤ i ∧ i < 6 ∧ I i ∧ (j = 153 + i ∨ j = 159 + i ∨ j = 165 + i ∨ j = 171 + i ∨ j = 177 + i ∨ j = 183 + i ∨ (189 + 40 * i ≤ j ∧ j < 229 + 40 * i) ∨ (429 + 40 * i ≤ j ∧ j < 469 + 40 * i) ∨ (669 + 40 * i ≤ j ∧ j < 709 + 40 * i))
/-- places of V that speak of travellers in I, the treasure, the ledger, and what the world isn't -/
def XV (I : Int → Prop) (V : Int → Int → Int) (a j : Int) : Prop := (a = 2 ∧ j = 5) ∨ a = 10 ∨ a < 2 ∨ 35 ≤ a ∨ ∃ i, 0 ≤ i ∧ i < 6 ∧ I i ∧ (a = 11 + 4 * i ∨ a = V (11 + 4 * i) 6 ∨ a = V (11 + 4 * i) 7 ∨ a = V (11 + 4 * i) 8)
theorem XS_low {I : Int → Prop} (h : j < 153) : ¬ XS I j := by
  rintro (q | ⟨i, h0, h1, -, q⟩) <;> omega
theorem XS_other {I : Int → Prop} (h0 : 0 ≤ i) (h1 : i < 6) (hI : ¬ I i) (q : j = 153 + i ∨ j = 159 + i ∨ j = 165 + i ∨ j = 171 + i ∨ j = 177 + i ∨ j = 183 + i ∨ (189 + 40 * i ≤ j ∧ j < 229 + 40 * i) ∨ (429 + 40 * i ≤ j ∧ j < 469 + 40 * i) ∨ (669 + 40 * i ≤ j ∧ j < 709 + 40 * i)) : ¬ XS I j := by
  rintro (q' | ⟨i', g0, g1, g2, q'⟩)
  · omega
  · have : i' = i := by omega
    subst this; exact hI g2
theorem KOk_of (K : KOk S) (h : ∀ j, j < 128 → S' j = S j) : KOk S' := by
  obtain ⟨z1, z2, z3, z4, z5, z6, z7, z8, z9, z10, z11, z12, z13, zr⟩ := K
  unfold KOk
  rw [h 0 (by decide), h 1 (by decide), h 2 (by decide), h 3 (by decide), h 4 (by decide), h 5 (by decide), h 7 (by decide)]
  refine ⟨z1, z2, z3, z4, z5, z6, z7, z8, z9, z10, z11, z12, z13, fun r h0 h1 => ?_⟩
  rw [h (8 + r) (by omega), h (32 + r) (by omega), h (56 + r) (by omega), h (80 + r) (by omega), h (104 + r) (by omega)]
  exact zr r h0 h1
theorem CK_of (K : CK V S) (h4 : S 7 ≤ 24) (h : ∀ j, j < 128 → S' j = S j) (hV : ∀ a j, 3 ≤ a → a ≤ 8 → V' a j = V a j) : CK V' S' := by
  obtain ⟨z1, z2, z3, z4, z5, z6, z7, z8, zr⟩ := K
  unfold CK
  rw [h 0 (by decide), h 1 (by decide), h 2 (by decide), h 3 (by decide), h 4 (by decide), h 5 (by decide), h 6 (by decide), h 7 (by decide)]
  simp (disch := omega) only [hV]
  refine ⟨z1, z2, z3, z4, z5, z6, z7, z8, fun r h0 h1 => ?_⟩
  rw [h (8 + r) (by omega), h (32 + r) (by omega), h (56 + r) (by omega), h (80 + r) (by omega), h (104 + r) (by omega)]
  exact zr r h0 h1
theorem CM_of (M : CM V S) (h4 : S 7 ≤ 24) (h : ∀ j, j < 152 → S' j = S j) (hV : V' 2 4 = V 2 4) : CM V' S' := by
  obtain ⟨z1, z2, zr⟩ := M
  unfold CM
  rw [h 7 (by decide), hV]
  refine ⟨z1, z2, fun r h0 h1 => ?_⟩
  rw [h (128 + r) (by omega)]; exact zr r h0 h1
theorem TP_ne (T : TP V) (h0 : 0 ≤ i) (h1 : i < 6) (h2 : 0 ≤ j) (h3 : j < 6) (hn : i ≠ j) : ∀ u v, (u = 6 ∨ u = 7 ∨ u = 8) → (v = 6 ∨ v = 7 ∨ v = 8) → V (11 + 4 * i) u ≠ V (11 + 4 * j) v := by
  obtain ⟨p, p0, p1, p2, p3, p4⟩ := T.1 i h0 h1
  obtain ⟨q, q0, q1, q2, q3, q4⟩ := T.1 j h2 h3
  have := T.2 i j h0 h1 h2 h3 hn
  intro u v hu hv
  rcases hu with rfl | rfl | rfl <;> rcases hv with rfl | rfl | rfl <;> omega
theorem TD_other {I : Int → Prop} (hd : TD V S i) (T : TP V) (h0 : 0 ≤ i) (h1 : i < 6) (hI : ¬ I i) (ht : 0 ≤ S (171 + i)) (ht' : S (171 + i) ≤ 40) (hS : ∀ j, ¬ XS I j → S' j = S j) (hV : ∀ a j, ¬ XV I V a j → V' a j = V a j) : TD V' S' i := by
  obtain ⟨p, p0, p1, p2, p3, p4⟩ := T.1 i h0 h1
  have hr : ∀ a j, (a = 11 + 4 * i ∨ a = V (11 + 4 * i) 6 ∨ a = V (11 + 4 * i) 7 ∨ a = V (11 + 4 * i) 8) → V' a j = V a j := by
    intro a j ha
    refine hV a j ?_
    rintro (q | q | q | q | ⟨i', g0, g1, g2, q⟩)
    · omega
    · omega
    · omega
    · omega
    · have hn : i ≠ i' := fun e => hI (by rw [e]; exact g2)
      have hx := TP_ne T h0 h1 g0 g1 hn
      obtain ⟨p', p0', p1', p2', p3', p4'⟩ := T.1 i' g0 g1
      have x1 := hx 6 6 (by decide) (by decide); have x2 := hx 6 7 (by decide) (by decide); have x3 := hx 6 8 (by decide) (by decide)
      have x4 := hx 7 6 (by decide) (by decide); have x5 := hx 7 7 (by decide) (by decide); have x6 := hx 7 8 (by decide) (by decide)
      have x7 := hx 8 6 (by decide) (by decide); have x8 := hx 8 7 (by decide) (by decide); have x9 := hx 8 8 (by decide) (by decide)
      omega
  have hs : ∀ j, (j = 153 + i ∨ j = 159 + i ∨ j = 165 + i ∨ j = 171 + i ∨ j = 177 + i ∨ j = 183 + i ∨ (189 + 40 * i ≤ j ∧ j < 229 + 40 * i) ∨ (429 + 40 * i ≤ j ∧ j < 469 + 40 * i) ∨ (669 + 40 * i ≤ j ∧ j < 709 + 40 * i)) → S' j = S j := fun j q => hS j (XS_other h0 h1 hI q)
  unfold TD
  rw [hs (153 + i) (by omega), hs (159 + i) (by omega), hs (165 + i) (by omega), hs (171 + i) (by omega), hs (177 + i) (by omega), hs (183 + i) (by omega)]
  simp only [hr (11 + 4 * i) _ (Or.inl rfl)]
  refine ⟨hd.1, fun k g0 g1 => ?_⟩
  rw [hs (189 + (40 * i + k)) (by omega), hs (429 + (40 * i + k)) (by omega), hs (669 + (40 * i + k)) (by omega), hr _ _ (Or.inr (Or.inl rfl)), hr _ _ (Or.inr (Or.inr (Or.inl rfl))), hr _ _ (Or.inr (Or.inr (Or.inr rfl)))]
  exact hd.2 k g0 g1
theorem TOk_other {I : Int → Prop} {D' : Int} (T : TOk S D i) (hD : D ≤ D') (h0 : 0 ≤ i) (h1 : i < 6) (hI : ¬ I i) (hS : ∀ j, ¬ XS I j → S' j = S j) : TOk S' D' i := by
  obtain ⟨t1, t2, t3, t4, t5, t6, t7⟩ := T
  have hs : ∀ j, (j = 153 + i ∨ j = 159 + i ∨ j = 165 + i ∨ j = 171 + i ∨ j = 177 + i ∨ j = 183 + i ∨ (189 + 40 * i ≤ j ∧ j < 229 + 40 * i) ∨ (429 + 40 * i ≤ j ∧ j < 469 + 40 * i) ∨ (669 + 40 * i ≤ j ∧ j < 709 + 40 * i)) → S' j = S j := fun j q => hS j (XS_other h0 h1 hI q)
  unfold TOk
  rw [hs (153 + i) (by omega), hs (159 + i) (by omega), hs (171 + i) (by omega), hS 7 (XS_low (by decide)), hS 0 (XS_low (by decide))]
  refine ⟨t1, t2, t3, by omega, t5, t6, fun k g0 g1 => ?_⟩
  rw [hs (189 + (40 * i + k)) (by omega), hs (429 + (40 * i + k)) (by omega), hs (669 + (40 * i + k)) (by omega)]
  have := t7 k g0 g1
  omega
/-- the world holds after a change of the travellers in I -/
theorem CW_of {I : Int → Prop} {D' : Int} (C : CW V S) (O : SOk S D) (T : TP V) (hD : D ≤ D') (hS : ∀ j, ¬ XS I j → S' j = S j) (hV : ∀ a j, ¬ XV I V a j → V' a j = V a j)
    (h1 : ∀ i, I i → 0 ≤ i → i < S 152 → TD V' S' i ∧ TOk S' D' i) (h2 : ∀ d, 0 ≤ d → d < 720 → V' 10 d = S' (909 + d)) (h3 : V' 2 5 = w32 (tre S' (S 152).toNat)) (h4 : ∀ d, 0 ≤ d → d < 720 → R32 (S' (909 + d))) : CW V' S' ∧ SOk S' D' := by
  obtain ⟨c1, c2, c3, c4, c5, c6⟩ := C
  obtain ⟨o1, o2, o3, o4, o5, o6⟩ := O
  have lo : ∀ j, j < 153 → S' j = S j := fun j hj => hS j (XS_low hj)
  have z4 := o1.2.2.2.1
  have hv : ∀ a j, 2 ≤ a → a ≤ 9 → ¬ (a = 2 ∧ j = 5) → V' a j = V a j := fun a j g0 g1 g2 => hV a j (by
    rintro (q | q | q | q | ⟨i', g0, g1, g2, q⟩)
    · exact g2 q
    · omega
    · omega
    · omega
    · obtain ⟨p', p0', p1', p2', p3', p4'⟩ := T.1 i' g0 g1
      omega)
  refine ⟨⟨CK_of c1 z4 (fun j hj => lo j (by omega)) (fun a j g0 g1 => hv a j (by omega) (by omega) (by omega)), CM_of c2 z4 (fun j hj => lo j (by omega)) (hv 2 4 (by decide) (by decide) (by decide)), ?_, fun i g0 g1 => ?_, h2, ?_⟩, KOk_of o1 (fun j hj => lo j (by omega)), ?_, ?_, fun i g0 g1 => ?_, fun r g0 g1 => ?_, h4⟩
  · rw [hv 2 3 (by decide) (by decide) (by decide), lo 152 (by decide)]; exact c3
  · rw [lo 152 (by decide)] at g1
    by_cases q : I i
    · exact (h1 i q g0 g1).1
    · exact TD_other (c4 i g0 g1) T g0 (by omega) q (o4 i g0 g1).1 (o4 i g0 g1).2.1 hS hV
  · rw [lo 152 (by decide)]; exact h3
  · rw [lo 152 (by decide)]; exact o2
  · rw [lo 152 (by decide)]; exact o3
  · rw [lo 152 (by decide)] at g1
    by_cases q : I i
    · exact (h1 i q g0 g1).2
    · exact TOk_other (o4 i g0 g1) hD g0 (by omega) q hS
  · rw [lo 7 (by decide)] at g1
    rw [lo (128 + r) (by omega)]; exact o5 r g0 g1
end STEP
