/-! PURE: the law (wip/whole/gen/ops.py) -/
section LAWS
variable {sh : List (Nat × Nat)} {V : Int → Int → Int} {D E : Int} {f g : Mem → Option (Int × Mem)} {K : Mem → Option (Int × Mem)}
theorem step_ok (h : OneC sh V D E f g) (I : INV sh V D E) (ih : ∀ sh1 V2, INV sh1 V2 (D + 10000) (E + 40000) → ∃ r μ, K (sh1, V2) = some (r, μ)) : ∃ r μ, (bd (isk 11 (sh, V) 0) fun _ => bd2 (f (sh, V)) fun x μ1 => bd (isk 12 μ1 101) fun _ => bd2 (g μ1) fun x' μ2 => if x = x' then K μ2 else none) = some (r, μ) := by
  obtain ⟨y, sh1, V1, V2, h1, h2, J⟩ := h
  obtain ⟨r, μ, hk⟩ := ih sh1 V2 J
  refine ⟨r, μ, ?_⟩
  rw [bit (by rw [k_0 I.1.1]), h1, bd2_mk, bi101 J.1.1, h2, bd2_mk, if_pos rfl]
  exact hk
theorem step_ok64 (h : OneC sh V D E f g) (I : INV sh V D E) (ih : ∀ sh1 V2, INV sh1 V2 (D + 10000) (E + 40000) → ∃ r μ, K (sh1, V2) = some (r, μ)) : ∃ r μ, (bd (isk 11 (sh, V) 0) fun _ => bd2 (f (sh, V)) fun x μ1 => bd (isk 12 μ1 101) fun _ => bd2 (g μ1) fun x' μ2 => if cmp64 x x' = 0 then K μ2 else none) = some (r, μ) := by
  obtain ⟨y, sh1, V1, V2, h1, h2, J⟩ := h
  obtain ⟨r, μ, hk⟩ := ih sh1 V2 J
  refine ⟨r, μ, ?_⟩
  rw [bit (by rw [k_0 I.1.1]), h1, bd2_mk, bi101 J.1.1, h2, bd2_mk, if_pos (by rw [cmp_eq])]
  exact hk
theorem INV_more {D' E' : Int} (I : INV sh V D E) (hD : D ≤ D') (hD' : D' < 1900000000) (hE : E ≤ E') : INV sh V D' E' := INV_keep I (Cx_mono I.1 hD hD') I.2.2.1 (fun _ _ _ => rfl) rfl (fun _ _ _ => rfl) (fun _ _ _ _ _ _ => rfl) (fun _ _ => rfl) (PO_mono I.2.2.2.2.2.2.2.1 hE) hD hE
theorem sls_ok {xs : Nat → Int32} {L : Nat} {i : Int} (h0 : 0 ≤ i) (h1 : i < L) : sls xs L i = some (xs i.toNat).toInt := if_pos ⟨h0, h1⟩
set_option maxHeartbeats 8000000 in
set_option maxRecDepth 20000 in
theorem law_run (xs : Nat → Int32) (L : Nat) (hL : L ≤ 3072) : ∀ (n k : Nat) (sh : List (Nat × Nat)) (V : Int → Int → Int), n + k = 600 → k ≤ 512 → INV sh V (10000 * k) (40000 * k) → ∃ r μ, law_L18 xs L n (-100) 0 101 (6 * k) (sh, V) = some (r, μ) := by
  intro n
  induction n with
  | zero => intro k sh V h1 h2; omega
  | succ n ih =>
    intro k sh V h1 h2 I
    rw [law_L18, w32_id (x := (L : Int) - 6) (by omega) (by omega)]
    by_cases g : (L : Int) - 6 < 6 * k
    · rw [if_pos g]; exact ⟨_, _, rfl⟩
    · rw [if_neg g, w32_id (x := 6 * (k : Int) + 1) (by omega) (by omega), w32_id (x := 6 * (k : Int) + 2) (by omega) (by omega), w32_id (x := 6 * (k : Int) + 3) (by omega) (by omega), w32_id (x := 6 * (k : Int) + 4) (by omega) (by omega), w32_id (x := 6 * (k : Int) + 5) (by omega) (by omega), w32_id (x := 6 * (k : Int) + 6) (by omega) (by omega)]
      have hs : ∀ i : Int, 0 ≤ i → i < 6 → ∃ x, sls xs L (6 * (k : Int) + i) = some x ∧ R32 x := fun i i0 i1 => ⟨_, sls_ok (by omega) (by omega), R32_t _⟩
      obtain ⟨x0, s0, -⟩ := hs 0 (by decide) (by decide)
      obtain ⟨x1, s1, r1⟩ := hs 1 (by decide) (by decide)
      obtain ⟨x2, s2, r2⟩ := hs 2 (by decide) (by decide)
      obtain ⟨x3, s3, r3⟩ := hs 3 (by decide) (by decide)
      obtain ⟨x4, s4, r4⟩ := hs 4 (by decide) (by decide)
      obtain ⟨x5, s5, r5⟩ := hs 5 (by decide) (by decide)
      rw [show 6 * (k : Int) + 0 = 6 * k by omega] at s0
      have e6 : 6 * (k : Int) + 6 = 6 * ((k + 1 : Nat) : Int) := by omega
      have ih' : ∀ sh1 V2, INV sh1 V2 (10000 * k + 10000) (40000 * k + 40000) → ∃ r μ, law_L18 xs L n (-100) 0 101 (6 * ((k + 1 : Nat) : Int)) (sh1, V2) = some (r, μ) := fun sh1 V2 J => by
        refine ih (k + 1) sh1 V2 (by omega) (by omega) ?_
        rw [show 10000 * ((k + 1 : Nat) : Int) = 10000 * k + 10000 by omega, show 40000 * ((k + 1 : Nat) : Int) = 40000 * k + 40000 by omega]; exact J
      have hD : 10000 * (k : Int) < 1800000000 := by omega
      have hE : 40000 * (k : Int) < 900000000 := by omega
      have h0 : 0 ≤ 10000 * (k : Int) := by omega
      have hE0 : 0 ≤ 40000 * (k : Int) := by omega
      rw [e6, s0, bd_mk]
      by_cases c0 : and32 x0 63 = 0
      · rw [if_pos c0]
        simp only [s1, s2, s3, s4, s5, bd_mk]
        exact step_ok (K := law_L18 xs L n (-100) 0 101 (6 * ((k + 1 : Nat) : Int))) (call_feed I hD r1 r2 r3 r4 r5) I ih'
      rw [if_neg c0]
      by_cases c1 : and32 x0 63 = 1
      · rw [if_pos c1]
        simp only [s1, s2, s3, s4, s5, bd_mk]
        exact step_ok (K := law_L18 xs L n (-100) 0 101 (6 * ((k + 1 : Nat) : Int))) (call_kingdom I hD hE0) I ih'
      rw [if_neg c1]
      by_cases c2 : and32 x0 63 = 2
      · rw [if_pos c2]
        simp only [s1, s2, s3, s4, s5, bd_mk]
        exact step_ok (K := law_L18 xs L n (-100) 0 101 (6 * ((k + 1 : Nat) : Int))) (c_fault I hD hE) I ih'
      rw [if_neg c2]
      by_cases c3 : and32 x0 63 = 3
      · rw [if_pos c3]
        simp only [s1, s2, s3, s4, s5, bd_mk]
        exact step_ok (K := law_L18 xs L n (-100) 0 101 (6 * ((k + 1 : Nat) : Int))) (c_road I hD hE) I ih'
      rw [if_neg c3]
      by_cases c4 : and32 x0 63 = 4
      · rw [if_pos c4]
        simp only [s1, s2, s3, s4, s5, bd_mk]
        exact step_ok (K := law_L18 xs L n (-100) 0 101 (6 * ((k + 1 : Nat) : Int))) (c_from I hD hE) I ih'
      rw [if_neg c4]
      by_cases c5 : and32 x0 63 = 5
      · rw [if_pos c5]
        have eb : ∀ x : Int, (if x = 0 then some (0 : Int) else some 1) = some (if x = 0 then 0 else 1) := fun x => by split <;> rfl
        simp only [s1, s2, bd_mk, eb]
        exact step_ok (K := law_L18 xs L n (-100) 0 101 (6 * ((k + 1 : Nat) : Int))) (c_close I hD hE) I ih'
      rw [if_neg c5]
      by_cases c6 : and32 x0 63 = 6
      · rw [if_pos c6]
        simp only [s1, s2, s3, s4, s5, bd_mk]
        exact step_ok (K := law_L18 xs L n (-100) 0 101 (6 * ((k + 1 : Nat) : Int))) (c_when I hD hE) I ih'
      rw [if_neg c6]
      by_cases c7 : and32 x0 63 = 7
      · rw [if_pos c7]
        simp only [s1, s2, s3, s4, s5, bd_mk]
        exact step_ok (K := law_L18 xs L n (-100) 0 101 (6 * ((k + 1 : Nat) : Int))) (c_summer I hD hE r1) I ih'
      rw [if_neg c7]
      by_cases c8 : and32 x0 63 = 8
      · rw [if_pos c8]
        simp only [s1, s2, s3, s4, s5, bd_mk]
        exact step_ok (K := law_L18 xs L n (-100) 0 101 (6 * ((k + 1 : Nat) : Int))) (c_comes I hD hE h0) I ih'
      rw [if_neg c8]
      by_cases c9 : and32 x0 63 = 9
      · rw [if_pos c9]
        simp only [s1, s2, s3, s4, s5, bd_mk]
        exact step_ok (K := law_L18 xs L n (-100) 0 101 (6 * ((k + 1 : Nat) : Int))) (c_of I hD hE) I ih'
      rw [if_neg c9]
      by_cases c10 : and32 x0 63 = 10
      · rw [if_pos c10]
        simp only [s1, s2, s3, s4, s5, bd_mk]
        exact step_ok (K := law_L18 xs L n (-100) 0 101 (6 * ((k + 1 : Nat) : Int))) (c_slip I hD hE) I ih'
      rw [if_neg c10]
      by_cases c11 : and32 x0 63 = 11
      · rw [if_pos c11]
        simp only [s1, s2, s3, s4, s5, bd_mk]
        exact step_ok (K := law_L18 xs L n (-100) 0 101 (6 * ((k + 1 : Nat) : Int))) (c_go I hD hE) I ih'
      rw [if_neg c11]
      by_cases c12 : and32 x0 63 = 12
      · rw [if_pos c12]
        simp only [s1, s2, s3, s4, s5, bd_mk]
        exact step_ok (K := law_L18 xs L n (-100) 0 101 (6 * ((k + 1 : Nat) : Int))) (c_toss I hD hE) I ih'
      rw [if_neg c12]
      by_cases c13 : and32 x0 63 = 13
      · rw [if_pos c13]
        simp only [s1, s2, s3, s4, s5, bd_mk]
        exact step_ok (K := law_L18 xs L n (-100) 0 101 (6 * ((k + 1 : Nat) : Int))) (c_rest I hD hE) I ih'
      rw [if_neg c13]
      by_cases c14 : and32 x0 63 = 14
      · rw [if_pos c14]
        simp only [s1, s2, s3, s4, s5, bd_mk]
        exact step_ok (K := law_L18 xs L n (-100) 0 101 (6 * ((k + 1 : Nat) : Int))) (c_give I hD hE) I ih'
      rw [if_neg c14]
      by_cases c15 : and32 x0 63 = 15
      · rw [if_pos c15]
        simp only [s1, s2, s3, s4, s5, bd_mk]
        exact step_ok (K := law_L18 xs L n (-100) 0 101 (6 * ((k + 1 : Nat) : Int))) (c_change I hD hE) I ih'
      rw [if_neg c15]
      by_cases c16 : and32 x0 63 = 16
      · rw [if_pos c16]
        simp only [s1, s2, s3, s4, s5, bd_mk]
        exact step_ok (K := law_L18 xs L n (-100) 0 101 (6 * ((k + 1 : Nat) : Int))) (c_judge I hD hE) I ih'
      rw [if_neg c16]
      by_cases c17 : and32 x0 63 = 17
      · rw [if_pos c17]
        simp only [s1, s2, s3, s4, s5, bd_mk]
        exact step_ok (K := law_L18 xs L n (-100) 0 101 (6 * ((k + 1 : Nat) : Int))) (c_perform I hD hE) I ih'
      rw [if_neg c17]
      by_cases c18 : and32 x0 63 = 18
      · rw [if_pos c18]
        simp only [s1, s2, s3, s4, s5, bd_mk]
        exact step_ok (K := law_L18 xs L n (-100) 0 101 (6 * ((k + 1 : Nat) : Int))) (c_treasury I hD hE) I ih'
      rw [if_neg c18]
      by_cases c19 : and32 x0 63 = 19
      · rw [if_pos c19]
        simp only [s1, s2, s3, s4, s5, bd_mk]
        exact step_ok (K := law_L18 xs L n (-100) 0 101 (6 * ((k + 1 : Nat) : Int))) (c_owes I hD hE r1) I ih'
      rw [if_neg c19]
      by_cases c20 : and32 x0 63 = 20
      · rw [if_pos c20]
        exact step_ok (K := law_L18 xs L n (-100) 0 101 (6 * ((k + 1 : Nat) : Int))) (c_lapse I hD hE) I ih'
      rw [if_neg c20]
      by_cases c21 : and32 x0 63 = 21
      · rw [if_pos c21]
        simp only [s1, s2, s3, s4, s5, bd_mk]
        exact step_ok (K := law_L18 xs L n (-100) 0 101 (6 * ((k + 1 : Nat) : Int))) (c_blocked I hD hE) I ih'
      rw [if_neg c21]
      by_cases c22 : and32 x0 63 = 22
      · rw [if_pos c22]
        simp only [s1, s2, s3, s4, s5, bd_mk]
        exact step_ok (K := law_L18 xs L n (-100) 0 101 (6 * ((k + 1 : Nat) : Int))) (c_homeward I hD hE) I ih'
      rw [if_neg c22]
      by_cases c23 : and32 x0 63 = 23
      · rw [if_pos c23]
        simp only [s1, s2, s3, s4, s5, bd_mk]
        exact step_ok (K := law_L18 xs L n (-100) 0 101 (6 * ((k + 1 : Nat) : Int))) (c_safe I hD hE) I ih'
      rw [if_neg c23]
      by_cases c24 : and32 x0 63 = 24
      · rw [if_pos c24]
        simp only [s1, s2, s3, s4, s5, bd_mk]
        exact step_ok (K := law_L18 xs L n (-100) 0 101 (6 * ((k + 1 : Nat) : Int))) (c_needs I hD hE) I ih'
      rw [if_neg c24]
      by_cases c25 : and32 x0 63 = 25
      · rw [if_pos c25]
        simp only [s1, s2, s3, s4, s5, bd_mk]
        exact step_ok (K := law_L18 xs L n (-100) 0 101 (6 * ((k + 1 : Nat) : Int))) (c_partner I hD hE) I ih'
      rw [if_neg c25]
      by_cases c26 : and32 x0 63 = 26
      · rw [if_pos c26]
        simp only [s1, s2, s3, s4, s5, bd_mk]
        exact step_ok (K := law_L18 xs L n (-100) 0 101 (6 * ((k + 1 : Nat) : Int))) (c_cheapest I hD hE) I ih'
      rw [if_neg c26]
      by_cases c27 : and32 x0 63 = 27
      · rw [if_pos c27]
        simp only [s1, s2, s3, s4, s5, bd_mk]
        exact step_ok (K := law_L18 xs L n (-100) 0 101 (6 * ((k + 1 : Nat) : Int))) (c_price I hD hE) I ih'
      rw [if_neg c27]
      by_cases c28 : and32 x0 63 = 28
      · rw [if_pos c28]
        simp only [s1, s2, s3, s4, s5, bd_mk]
        exact step_ok (K := law_L18 xs L n (-100) 0 101 (6 * ((k + 1 : Nat) : Int))) (c_gain I hD hE) I ih'
      rw [if_neg c28]
      by_cases c29 : and32 x0 63 = 29
      · rw [if_pos c29]
        simp only [s1, s2, s3, s4, s5, bd_mk]
        exact step_ok (K := law_L18 xs L n (-100) 0 101 (6 * ((k + 1 : Nat) : Int))) (c_through I hD hE r2 r4) I ih'
      rw [if_neg c29]
      by_cases c30 : and32 x0 63 = 30
      · rw [if_pos c30]
        simp only [s1, s2, s3, s4, s5, bd_mk]
        exact step_ok (K := law_L18 xs L n (-100) 0 101 (6 * ((k + 1 : Nat) : Int))) (c_journeys I hD hE) I ih'
      rw [if_neg c30]
      by_cases c31 : and32 x0 63 = 31
      · rw [if_pos c31]
        simp only [s1, s2, s3, s4, s5, bd_mk]
        exact step_ok (K := law_L18 xs L n (-100) 0 101 (6 * ((k + 1 : Nat) : Int))) (c_forged I hD hE) I ih'
      rw [if_neg c31]
      by_cases c32 : and32 x0 63 = 32
      · rw [if_pos c32]
        simp only [s1, s2, s3, s4, s5, bd_mk]
        exact step_ok (K := law_L18 xs L n (-100) 0 101 (6 * ((k + 1 : Nat) : Int))) (c_journey I hD hE r3 r4) I ih'
      rw [if_neg c32]
      by_cases c33 : and32 x0 63 = 33
      · rw [if_pos c33]
        simp only [s1, s2, s3, s4, s5, bd_mk]
        exact step_ok (K := law_L18 xs L n (-100) 0 101 (6 * ((k + 1 : Nat) : Int))) (c_lane I hD hE r3 r4) I ih'
      rw [if_neg c33]
      by_cases c34 : and32 x0 63 = 34
      · rw [if_pos c34]
        simp only [s1, s2, s3, s4, s5, bd_mk]
        exact step_ok (K := law_L18 xs L n (-100) 0 101 (6 * ((k + 1 : Nat) : Int))) (c_box I hD hE r1) I ih'
      rw [if_neg c34]
      by_cases c35 : and32 x0 63 = 35
      · rw [if_pos c35]
        simp only [s1, s2, s3, s4, s5, bd_mk]
        exact step_ok (K := law_L18 xs L n (-100) 0 101 (6 * ((k + 1 : Nat) : Int))) (c_cutOff I hD hE) I ih'
      rw [if_neg c35]
      by_cases c36 : and32 x0 63 = 36
      · rw [if_pos c36]
        simp only [s1, s2, s3, s4, s5, bd_mk]
        exact step_ok (K := law_L18 xs L n (-100) 0 101 (6 * ((k + 1 : Nat) : Int))) (c_ledger I hD hE) I ih'
      rw [if_neg c36]
      by_cases c37 : and32 x0 63 = 37
      · rw [if_pos c37]
        simp only [s1, s2, s3, s4, s5, bd_mk]
        exact step_ok (K := law_L18 xs L n (-100) 0 101 (6 * ((k + 1 : Nat) : Int))) (c_meet I hD hE) I ih'
      rw [if_neg c37]
      by_cases c38 : and32 x0 63 = 38
      · rw [if_pos c38]
        simp only [s1, s2, s3, s4, s5, bd_mk]
        exact step_ok (K := law_L18 xs L n (-100) 0 101 (6 * ((k + 1 : Nat) : Int))) (c_fair I hD hE) I ih'
      rw [if_neg c38]
      by_cases c39 : and32 x0 63 = 39
      · rw [if_pos c39]
        simp only [s1, s2, s3, s4, s5, bd_mk]
        exact step_ok (K := law_L18 xs L n (-100) 0 101 (6 * ((k + 1 : Nat) : Int))) (c_numbers I hD hE) I ih'
      rw [if_neg c39]
      by_cases c40 : and32 x0 63 = 40
      · rw [if_pos c40]
        simp only [s1, s2, s3, s4, s5, bd_mk]
        exact step_ok64 (K := law_L18 xs L n (-100) 0 101 (6 * ((k + 1 : Nat) : Int))) (c_write I hD hE) I ih'
      rw [if_neg c40]
      by_cases c41 : and32 x0 63 = 41
      · rw [if_pos c41]
        simp only [s1, s2, s3, s4, s5, bd_mk]
        exact step_ok (K := law_L18 xs L n (-100) 0 101 (6 * ((k + 1 : Nat) : Int))) (c_copy I hD hE) I ih'
      rw [if_neg c41]
      by_cases c42 : and32 x0 63 = 42
      · rw [if_pos c42]
        simp only [s1, s2, s3, s4, s5, bd_mk]
        exact step_ok (K := law_L18 xs L n (-100) 0 101 (6 * ((k + 1 : Nat) : Int))) (call_image I hD) I ih'
      rw [if_neg c42]
      by_cases c43 : and32 x0 63 = 43
      · rw [if_pos c43]
        simp only [s1, s2, s3, s4, s5, bd_mk]
        exact step_ok (K := law_L18 xs L n (-100) 0 101 (6 * ((k + 1 : Nat) : Int))) (call_restore I hD) I ih'
      rw [if_neg c43]
      by_cases c44 : and32 x0 63 = 44
      · rw [if_pos c44]
        simp only [s1, s2, s3, s4, s5, bd_mk]
        exact step_ok (K := law_L18 xs L n (-100) 0 101 (6 * ((k + 1 : Nat) : Int))) (c_count I hD hE) I ih'
      rw [if_neg c44]
      exact ih' sh V (INV_more I (by omega) (by omega) (by omega))
end LAWS
