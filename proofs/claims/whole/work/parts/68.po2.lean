/-! PURE: purses, the first calls -/
section PURSES2
variable {sh : List (Nat × Nat)} {V V' V1 V2 V2' : Int → Int → Int} {r t m s c i j d k x a b y D D' f p w bk v tb q e e' E : Int} {S S' S'' R : Int → Int} {n : Nat} {ρ : Nat → Int}
theorem PK_fr (hN : S 152 ≤ 6) (h0 : 0 ≤ e) (h1 : S' 152 = S 152) (h2 : ∀ k, 0 ≤ k → k < 6 → S' (165 + k) = S (165 + k)) (h3 : ∀ k, 1629 ≤ k → S' k = S k) : PK S S' e := by
  refine ⟨h3, fun E hE p => ⟨fun k k0 k1 => ?_, ?_⟩⟩
  · rw [h2 k k0 (by omega)]; exact p.1 k k0 (by omega)
  · rw [h1, psum_eq (S := S) _ (fun k hk => h2 _ (by omega) (by omega))]
    have := p.2; omega
theorem PK_up (hN : S 152 ≤ 6) (h0 : 0 ≤ e) (hj : j < 1629) (hj2 : j ≠ 152) (hj3 : j < 165 ∨ 171 ≤ j) : PK S (up S j x) e :=
  PK_fr hN h0 (upS_ne (by omega)) (fun k k0 k1 => upS_ne (by omega)) (fun k hk => upS_ne (by omega))
theorem PK_nGo (O : SOk S D) : PK S (nGo S i r) 40000 := by
  unfold nGo
  by_cases h : (0 ≤ i ∧ i < S 152) ∧ (0 ≤ r ∧ r < S 7) ∧ sRefuse S i r = 0
  · rw [if_pos h]
    have hN := O.2.2.1
    have hr : rfW S i r = 0 := by unfold rfW; rw [if_pos h.2.1]; exact h.2.2
    exact PK_mono (PK_go ⟨O.1, O.2.2.2.1 i h.1.1 h.1.2, h.1.1, by omega⟩ hN h.1.2 hr) (by decide) (by decide)
  · rw [if_neg h]; exact PK_refl (by decide)
theorem PK_nToss (O : SOk S D) : PK S (nToss S i) 40000 := by
  have hN := O.2.2.1
  unfold nToss
  split
  · exact PK_up hN (by decide) (by omega) (by omega) (by omega)
  · exact PK_refl (by decide)
theorem PK_nRest (O : SOk S D) : PK S (nRest S i d) 40000 := by
  have hN := O.2.2.1
  unfold nRest
  split
  · exact PK_up hN (by decide) (by omega) (by omega) (by omega)
  · exact PK_refl (by decide)
theorem PK_nClose (O : SOk S D) : PK S (nClose S r f) 40000 := by
  have hN := O.2.2.1
  have h7 := O.1.2.2.2.1
  unfold nClose
  by_cases h : 0 ≤ r ∧ r < S 7
  · rw [if_pos h]; exact PK_up hN (by decide) (by omega) (by omega) (by omega)
  · rw [if_neg h]; exact PK_refl (by decide)
theorem PK_nComes (O : SOk S D) : PK S (nComes S p) 40000 := by
  have hN := O.2.2.1
  have hN0 := O.2.1
  unfold nComes
  by_cases h1 : S 152 = 6
  · rw [if_pos h1]; exact PK_refl (by decide)
  · rw [if_neg h1]
    by_cases h2 : S 0 = 0
    · rw [if_pos h2]; exact PK_refl (by decide)
    · rw [if_neg h2]
      by_cases h3 : 0 ≤ p ∧ p ≤ 1000000
      · rw [if_pos h3]
        have e1 : up (sNew S p) 152 (S 152 + 1) 152 = S 152 + 1 := upS_eq
        have e2 : ∀ k, 0 ≤ k → k < S 152 → up (sNew S p) 152 (S 152 + 1) (165 + k) = S (165 + k) := fun k k0 k1 => by
          unfold sNew
          rw [upS_ne (by omega), upS_ne (by omega), upS_ne (by omega), upS_ne (by omega), upS_ne (by omega), upS_ne (by omega), upS_ne (by omega)]
        have e3 : up (sNew S p) 152 (S 152 + 1) (165 + S 152) = p := by
          unfold sNew
          rw [upS_ne (by omega), upS_ne (by omega), upS_ne (by omega), upS_ne (by omega), upS_eq]
        refine ⟨fun k hk => ?_, fun E hE q => ⟨fun k k0 k1 => ?_, ?_⟩⟩
        · unfold sNew
          rw [upS_ne (by omega), upS_ne (by omega), upS_ne (by omega), upS_ne (by omega), upS_ne (by omega), upS_ne (by omega), upS_ne (by omega)]
        · rw [e1] at k1
          by_cases g : k = S 152
          · rw [g, e3]; exact h3.1
          · rw [e2 k k0 (by omega)]; exact q.1 k k0 (by omega)
        · rw [e1, show (S 152 + 1).toNat = (S 152).toNat + 1 by omega, psum, psum_eq (S := S) _ (fun k hk => e2 _ (by omega) (by omega)), show (165 : Int) + ((S 152).toNat : Int) = 165 + S 152 by omega, e3]
          have := q.2; omega
      · rw [if_neg h3]; exact PK_refl (by decide)
theorem PK_nGive (O : SOk S D) : PK S (nGive S a b x) 40000 := by
  have hN := O.2.2.1
  have hN0 := O.2.1
  unfold nGive
  by_cases h : gWhy S a b x = 0
  · rw [if_pos h]
    have hc : ((0 ≤ a ∧ a < S 152) ∧ (0 ≤ b ∧ b < S 152) ∧ a ≠ b) ∧ (0 ≤ x ∧ x ≤ S (165 + b)) := by
      unfold gWhy at h
      by_cases h1 : (0 ≤ a ∧ a < S 152) ∧ (0 ≤ b ∧ b < S 152) ∧ a ≠ b
      · rw [if_pos h1] at h
        by_cases h2 : 0 ≤ x ∧ x ≤ S (165 + b)
        · exact ⟨h1, h2⟩
        · rw [if_neg h2] at h
          split at h
          · split at h <;> omega
          · omega
      · rw [if_neg h1] at h; omega
    obtain ⟨⟨ha, hb, hn⟩, hx⟩ := hc
    obtain ⟨ta1, ta2, -⟩ := O.2.2.2.1 a ha.1 ha.2
    obtain ⟨tb1, tb2, -⟩ := O.2.2.2.1 b hb.1 hb.2
    have e152 : sGive S a b x 152 = S 152 := by
      unfold sGive
      rw [upS_ne (by omega), upS_ne (by omega), upS_ne (by omega), upS_ne (by omega), upS_ne (by omega), upS_ne (by omega), upS_ne (by omega)]
    have eo : ∀ k, 0 ≤ k → k < 6 → k ≠ a → k ≠ b → sGive S a b x (165 + k) = S (165 + k) := fun k k0 k1 h1 h2 => by
      unfold sGive
      rw [upS_ne (by omega), upS_ne (by omega), upS_ne (by omega), upS_ne (by omega), upS_ne (by omega), upS_ne (by omega), upS_ne (by omega)]
    have ea : sGive S a b x (165 + a) = w32 (S (165 + a) + x) := by
      unfold sGive
      rw [upS_ne (by omega), upS_eq]
    have eb : sGive S a b x (165 + b) = w32 (S (165 + b) - x) := by
      unfold sGive
      rw [upS_eq]
    have eh : ∀ k, 1629 ≤ k → sGive S a b x k = S k := fun k hk => by
      unfold sGive
      rw [upS_ne (by omega), upS_ne (by omega), upS_ne (by omega), upS_ne (by omega), upS_ne (by omega), upS_ne (by omega), upS_ne (by omega)]
    generalize sGive S a b x = Q at *
    refine ⟨eh, fun E hE q => ?_⟩
    have pa := PO_le q hN ha.1 ha.2
    have pb := PO_le q hN hb.1 hb.2
    rw [w32_id (by omega) (by omega)] at ea eb
    -- first b pays, then a gets
    have q1 : PO (up S (165 + b) (S (165 + b) - x)) (E + -x) := PO_one q hb.1 hb.2 (upS_ne (by omega)) (fun k k0 k1 hk => upS_ne (by omega)) (by rw [upS_eq]; omega) (by rw [upS_eq]; omega)
    have u152 : up S (165 + b) (S (165 + b) - x) 152 = S 152 := upS_ne (by omega)
    have q2 : PO Q (E + -x + x) := PO_one (S' := Q) q1 ha.1 (by rw [u152]; exact ha.2) (by rw [u152]; exact e152) (fun k k0 k1 hk => by
      rw [u152] at k1
      by_cases g : k = b
      · rw [g, eb, upS_eq]
      · rw [eo k k0 (by omega) hk g, upS_ne (by omega)]) (by rw [ea]; omega) (by rw [ea, upS_ne (by omega)]; omega)
    exact PO_mono q2 (by omega)
  · rw [if_neg h]; exact PK_refl (by decide)
end PURSES2
