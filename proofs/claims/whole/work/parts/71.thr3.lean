/-! PURE: through; the reference keeps a traveller and has him again -/
section THR3
variable {sh : List (Nat × Nat)} {V V' V1 V2 V2' : Int → Int → Int} {r t m s c i j d k x a b y D D' f p w bk v tb q e e' E o : Int} {S S' S'' R : Int → Int} {n : Nat} {ρ : Nat → Int}
theorem tsave {rc : Int → Int → Int → Int → Int → Int → Mem → Option (Int × Mem)} {kk : Int → Int → Int → Int → Int → Int → Int → Int → Int → Mem → Option (Int × Mem)} {v2 v3 v5 v6 v7 v8 : Int} (H : Sh sh) (P : PM V) (h0 : 0 ≤ i) (h1 : i < 6) (o0 : 0 ≤ o) (o1 : o < 8) : ∀ (n z : Nat) (R : Int → Int), z ≤ 6 → 6 - z < n → (∀ k : Int, 0 ≤ k → k < z → R (9 * o + k) = S (153 + 6 * k + i)) → ∃ R', M_tries_L213 rc kk n 101 i v2 v3 o v5 v6 v7 v8 z (sh, setR (setR V 114 R) 102 S) = kk 101 i v2 v3 o v5 v6 v7 v8 (sh, setR (setR V 114 R') 102 S) ∧ (∀ k, 0 ≤ k → k < 6 → R' (9 * o + k) = S (153 + 6 * k + i)) ∧ ∀ k, (k < 9 * o ∨ 9 * o + 6 ≤ k) → R' k = R k := by
  intro n
  induction n with
  | zero => intro z _ _ h; omega
  | succ n ih =>
    intro z R hz hn hR
    rw [M_tries_L213]
    by_cases h : (z : Int) < 6
    · obtain ⟨R', e, q, q'⟩ := ih (z + 1) (up R (9 * o + z) (S (153 + 6 * z + i))) (by omega) (by omega) (fun k g0 g1 => by
        by_cases e : k = z
        · rw [e, upS_eq]
        · rw [upS_ne (by omega)]; exact hR k g0 (by omega))
      refine ⟨R', ?_, q, fun k hk => by rw [q' k hk, upS_ne (by omega)]⟩
      have g28 : setR V 114 R 101 28 = 114 := by rw [setR_ne (by decide)]; exact q_101_28 P
      have P2 : PM (setR V 114 R) := PM_fm P (FM_set FM_refl (by decide) (by decide))
      rw [if_pos h, bg101 H, g28, bg101 H, w32_id (x := 6 * z) (by omega) (by omega), w32_id (x := 153 + 6 * z) (by omega) (by omega), w32_id (x := 153 + 6 * z + i) (by omega) (by omega), blp P2 H (by omega) (by omega), w32_id (x := 9 * o) (by omega) (by omega), w32_id (x := 9 * o + z) (by omega) (by omega), ms114 H (by omega) (by omega), up_setR, w32_id (x := (z : Int) + 1) (by omega) (by omega)]
      exact e
    · rw [if_neg h]
      exact ⟨R, rfl, fun k g0 g1 => hR k g0 (by omega), fun _ _ => rfl⟩
theorem tagain {rc : Int → Int → Int → Int → Int → Int → Mem → Option (Int × Mem)} {kk : Int → Int → Int → Int → Int → Int → Int → Int → Int → Mem → Option (Int × Mem)} {v2 v3 v5 v6 v7 v8 : Int} (H : Sh sh) (P : PM V) (h0 : 0 ≤ i) (h1 : i < 6) (o0 : 0 ≤ o) (o1 : o < 8) (hR : ∀ k, 0 ≤ k → k < 6 → V 114 (9 * o + k) = S (153 + 6 * k + i)) : ∀ (n z : Nat) (S' : Int → Int), z ≤ 6 → 6 - z < n → (∀ k : Int, 0 ≤ k → k < z → S' (153 + 6 * k + i) = S (153 + 6 * k + i)) → ∃ S'', M_tries_L390 rc kk n 101 i v2 v3 o v5 v6 v7 v8 z (sh, setR V 102 S') = kk 101 i v2 v3 o v5 v6 v7 v8 (sh, setR V 102 S'') ∧ (∀ k, 0 ≤ k → k < 6 → S'' (153 + 6 * k + i) = S (153 + 6 * k + i)) ∧ ∀ j, (∀ k, 0 ≤ k → k < 6 → j ≠ 153 + 6 * k + i) → S'' j = S' j := by
  intro n
  induction n with
  | zero => intro z _ _ h; omega
  | succ n ih =>
    intro z S' hz hn hS
    rw [M_tries_L390]
    by_cases h : (z : Int) < 6
    · obtain ⟨S'', e, q, q'⟩ := ih (z + 1) (up S' (153 + 6 * z + i) (S (153 + 6 * z + i))) (by omega) (by omega) (fun k g0 g1 => by
        by_cases e : k = z
        · rw [e, upS_eq]
        · rw [upS_ne (by omega)]; exact hS k g0 (by omega))
      refine ⟨S'', ?_, q, fun j hj => by rw [q' j hj, upS_ne (hj z (by omega) h)]⟩
      rw [if_pos h, bg101 H, bg101 H, q_101_28 P, w32_id (x := 9 * o) (by omega) (by omega), w32_id (x := 9 * o + z) (by omega) (by omega), ml114 H (by omega) (by omega), hR z (by omega) h, w32_id (x := 6 * z) (by omega) (by omega), w32_id (x := 153 + 6 * z) (by omega) (by omega), w32_id (x := 153 + 6 * z + i) (by omega) (by omega), bsp P H (by omega) (by omega), w32_id (x := (z : Int) + 1) (by omega) (by omega)]
      exact e
    · rw [if_neg h]
      exact ⟨S', rfl, fun k g0 g1 => hS k g0 (by omega), fun _ _ => rfl⟩
end THR3
