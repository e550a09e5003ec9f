/-! PURE: through; the best end in both -/
section THR9
variable {sh : List (Nat × Nat)} {V V' V1 V2 V2' : Int → Int → Int} {r t m s c i j d k x a b y D D' f p w bk v tb q e e' E o u wt bg : Int} {S S' S'' R : Int → Int} {n : Nat} {ρ : Nat → Int}
/-- the best end so far, in both -/
def BE (V V2 : Int → Int → Int) (bg : Int) : Prop := V 67 2 = V2 101 30 ∧ (V 67 2 ≠ -1 → (0 ≤ V 67 1 ∧ V 67 1 < 2147483648) ∧ V2 101 31 = V 67 1 - bg ∧ (0 ≤ V 67 2 ∧ V 67 2 ≤ 8) ∧ ∀ k, 0 ≤ k → k < V 67 2 → V 68 k = V2 113 k)
theorem headBE {O : Nat} (hO : O ≤ 8) (hB : BE V V2 bg) (g0 : 0 ≤ bg) (g1 : bg < 2147483648) (hbg : V2 101 32 = bg) (p0 : 0 ≤ S (165 + i)) (p1 : S (165 + i) < 2147483648) (hw : 0 ≤ wt) (hw' : wt < 2147483648) (e8 : V 67 8 = wt) (et : V 80 0 = S (153 + i)) (ep : V 80 2 = S (165 + i)) (eh : V 3 1 = S 1) (hrow : ∀ k : Int, 0 ≤ k → k < O → V 69 k = V2 112 k) (b1 : mBet V2 S i O wt u → V2' 101 30 = O ∧ V2' 101 31 = w32 (S (165 + i) - V2 101 32) ∧ ∀ k : Int, 0 ≤ k → k < O → V2' 113 k = V2 112 k) (b2 : ¬ mBet V2 S i O wt u → V2' = V2) : BE (jE V O u) V2' bg := by
  obtain ⟨h2, h3⟩ := hB
  have hd : w32 (S (165 + i) - bg) = S (165 + i) - bg := w32_id (by omega) (by omega)
  have iff : cBet V O u ↔ mBet V2 S i O wt u := by
    have mk := mask_eq (u := u) hw hw'
    unfold cBet mBet
    rw [e8, et, ep, eh, hbg, hd, ← h2]
    constructor
    · rintro ⟨c1, c2, c3⟩
      refine ⟨mk.mp c2, c1, ?_⟩
      by_cases z : V 67 2 = -1
      · exact Or.inl z
      · have := (h3 z).2.1
        rw [this]; omega
    · rintro ⟨c1, c2, c3⟩
      refine ⟨c2, mk.mpr c1, ?_⟩
      by_cases z : V 67 2 = -1
      · exact Or.inl z
      · have := (h3 z).2.1
        rw [this] at c3; omega
  by_cases g : cBet V O u
  · obtain ⟨n1, n2, n3⟩ := b1 (iff.mp g)
    have e1 : jE V O u 67 1 = S (165 + i) := by unfold jE cpV; rw [if_pos g, if_neg (by omega), up_col (by decide), up_eq, ep]
    have e2 : jE V O u 67 2 = O := by unfold jE cpV; rw [if_pos g, if_neg (by omega), up_eq]
    have e3 : ∀ k : Int, 0 ≤ k → k < O → jE V O u 68 k = V 69 k := fun k k0 k1 => by
      unfold jE cpV; rw [if_pos g, if_pos ⟨rfl, by omega, by omega⟩, up_row (by decide), up_row (by decide)]; congr 1; omega
    unfold BE
    rw [e1, e2, n1, n2, hbg, hd]
    exact ⟨rfl, fun _ => ⟨⟨p0, p1⟩, rfl, ⟨by omega, by omega⟩, fun k k0 k1 => by rw [e3 k k0 k1, n3 k k0 k1]; exact hrow k k0 k1⟩⟩
  · have e : jE V O u = V := if_neg g
    rw [e, b2 (fun q => g (iff.mpr q))]
    exact ⟨h2, h3⟩
end THR9
