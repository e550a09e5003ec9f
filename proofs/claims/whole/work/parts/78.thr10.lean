/-! PURE: through; dead slips do not matter -/
section THR10
variable {sh : List (Nat × Nat)} {V V' V1 V2 V2' : Int → Int → Int} {r t m s c i j d k x a b y D D' f p w bk v tb q e e' E o u wt bg : Int} {S S' S'' R : Int → Int} {n : Nat} {ρ : Nat → Int}
theorem KQ_slip (h : KQ S S' i) (h0 : 0 ≤ i) (h1 : i < 6) (hm : 0 ≤ S (171 + i)) (j0 : 0 ≤ j) (j1 : j < 6) (k0 : 0 ≤ k) (k1 : k < S (171 + j)) (k2 : k < 40) : S' (189 + (40 * j + k)) = S (189 + (40 * j + k)) ∧ S' (429 + (40 * j + k)) = S (429 + (40 * j + k)) ∧ S' (669 + (40 * j + k)) = S (669 + (40 * j + k)) := by
  by_cases e : j = i
  · subst e; exact ⟨h _ (by omega), h _ (by omega), h _ (by omega)⟩
  · exact ⟨h _ (by omega), h _ (by omega), h _ (by omega)⟩
theorem KQ_high (h : KQ S S' i) (h1 : i < 6) (hj : 909 ≤ j) : S' j = S j := h j (by omega)
theorem KQ_PK (h : KQ S S' i) (h0 : 0 ≤ i) (h1 : i < 6) (hm : 0 ≤ S (171 + i)) (hN : S 152 ≤ 6) (he : 0 ≤ e) : PK S S' e :=
  PK_fr hN he (KQ_low h h0 hm (by decide)) (fun k k0 k1 => KQ_low h h0 hm (by omega)) (fun k hk => KQ_high h h1 (by omega))
end THR10
