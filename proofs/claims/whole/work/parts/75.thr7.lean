/-! PURE: through; the roads at each town -/
section THR7
variable {sh : List (Nat × Nat)} {V V' V1 V2 V2' : Int → Int → Int} {r t m s c i j d k x a b y D D' f p w bk v tb q e e' E o u : Int} {S S' S'' R : Int → Int} {n : Nat} {ρ : Nat → Int}
theorem seek_L {kk : Int → Int → Int → Mem → Option (Int × Mem)} (X : Cx sh V S D) : ∀ (n z : Nat) (R : Int → Int), (z : Int) ≤ S 0 → (S 0).toNat - z < n → (∀ t : Int, 0 ≤ t → t < z → R t = ((opM S t (S 7).toNat : Nat) : Int)) → ∃ R', To_seek_L37 kk n 67 2 t z (sh, setR V 70 R) = kk 67 2 t (sh, setR V 70 R') ∧ ∀ t : Int, 0 ≤ t → t < S 0 → R' t = ((opM S t (S 7).toNat : Nat) : Int) := by
  have H := X.1
  obtain ⟨r1, r2, r3, r4, r5, r6, r7⟩ := Cx_rng X
  have k67 : (kS sh 67).1 = 5 := by rw [k_67 H]
  have XR : ∀ R, Cx sh (setR V 70 R) S D := fun R => Cx_set X (by decide) (by decide) (by rw [k_70 H]; decide)
  intro n
  induction n with
  | zero => intro z _ _ h; omega
  | succ n ih =>
    intro z R hz hn hR
    have XZ := XR R
    have e0 : setR V 70 R 3 0 = S 0 := XZ.2.2.1.1.1
    rw [To_seek_L37, bgt (by rw [k_2 H]), q_2_0 XZ.2.1, bgt (by rw [k_3 H]), e0]
    by_cases h : (z : Int) < S 0
    · obtain ⟨R', e, q⟩ := ih (z + 1) (up R z ((opM S z (S 7).toNat : Nat) : Int)) (by omega) (by omega) (fun t g0 g1 => by
        by_cases e : t = z
        · rw [e, upS_eq]
        · rw [upS_ne e]; exact hR t g0 (by omega))
      refine ⟨R', ?_, q⟩
      rw [if_pos h, bgt k67, q_67_5 XZ.2.1, bi2 XZ, Wo_openRoadsAt_b XZ, bst (by rw [k_70 H]) (by omega) (by rw [k_70 H]; show (z : Int) < 12; omega), up_setR, w32_id (by omega) (by omega)]
      exact e
    · rw [if_neg h]
      exact ⟨R, rfl, fun t g0 g1 => hR t g0 (by omega)⟩
end THR7
