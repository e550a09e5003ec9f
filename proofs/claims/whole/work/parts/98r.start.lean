/-! PURE: the start -/
section START
def st1 : Option (Int × Mem) := T_init 0 (newc 11 16 ([], fun _ _ => 0))
def st2 : Option (Int × Mem) := bd2 st1 fun _ μ2 => M_init (nlen μ2) (newc 12 52 μ2)
def stM : Mem := match st2 with
  | some (_, μ) => μ
  | none => ([], fun _ _ => 0)
def stV : Int → Int → Int := stM.2
theorem st_1 : st1.isSome = true := by decide +kernel
theorem st_2 : st2.isSome = true := by decide +kernel
theorem st_n : (bd2 st1 fun _ μ => some (nlen μ)) = some 101 := by decide +kernel
theorem st_sh : stM.1 = SH0 := by decide +kernel
theorem st_pt : ∀ q ∈ ptC, stV q.1 q.2.1 = q.2.2 := by decide +kernel
theorem st_pm : ∀ q ∈ ptM, stV q.1 q.2.1 = q.2.2 := by decide +kernel
theorem st_w : ∀ t ∈ ([45, 50, 57, 80] : List Int), stV t 6 = t + 1 ∧ stV t 7 = t + 2 ∧ stV t 8 = t + 3 := by decide +kernel
theorem st_tp : ∀ i ∈ ([0, 1, 2, 3, 4, 5] : List Int), stV (11 + 4 * i) 6 = 12 + 4 * i ∧ stV (11 + 4 * i) 7 = 13 + 4 * i ∧ stV (11 + 4 * i) 8 = 14 + 4 * i := by decide +kernel
theorem st_rw : ∀ w ∈ ([0, 1, 2, 3] : List Int), stV 128 w = -1 ∧ stV (93 + 2 * w) 2 = 1 := by decide +kernel
theorem st_f : (stV 35 0 = -1 ∧ stV 35 1 = -1 ∧ stV 103 0 = 0 ∧ stV 103 1 = 0) ∧ (stV 0 1 = 0 ∧ stV 101 5 = 0 ∧ stV 101 15 = 1) ∧ (stV 0 2 = 0 ∧ stV 101 13 = 0 ∧ stV 0 3 = -1 ∧ stV 101 14 = -1) ∧ stV 2 3 = 0 ∧ stV 2 4 = 0 ∧ stV 2 5 = 0 := by decide +kernel
theorem st_k : (stV 3 0 = 0 ∧ stV 3 1 = 0 ∧ stV 3 2 = 360 ∧ stV 3 3 = 50 ∧ stV 3 4 = 90 ∧ stV 3 5 = 269 ∧ stV 3 6 = 0 ∧ stV 3 7 = 0) ∧ (stV 102 0 = 0 ∧ stV 102 1 = 0 ∧ stV 102 2 = 360 ∧ stV 102 3 = 50 ∧ stV 102 4 = 90 ∧ stV 102 5 = 269 ∧ stV 102 6 = 0 ∧ stV 102 7 = 0) ∧ stV 102 152 = 0 := by decide +kernel
theorem st_l : ∀ d ∈ List.range 720, stV 10 (d : Int) = 0 ∧ stV 102 (909 + (d : Int)) = 0 := by decide +kernel
theorem st_inv {sh : List (Nat × Nat)} (hs : sh = SH0) : INV sh stV 0 0 := by
  subst hs
  obtain ⟨⟨i1, i2, i3, i4⟩, ⟨t1, t2, b15⟩, ⟨f1, f2, f3, f4⟩, w3, w4, w5⟩ := st_f
  obtain ⟨⟨k0, k1, k2, k3, k4, k5, k6, k7⟩, ⟨s0, s1, s2, s3, s4, s5, s6, s7⟩, s152⟩ := st_k
  have l : ∀ d : Int, 0 ≤ d → d < 720 → stV 10 d = 0 ∧ stV 102 (909 + d) = 0 := fun d d0 d1 => by
    have := st_l d.toNat (List.mem_range.mpr (by omega))
    rw [show ((d.toNat : Nat) : Int) = d by omega] at this; exact this
  have Pp : Pt stV := st_pt
  have Tp : TP stV := by
    have h : ∀ i : Int, 0 ≤ i → i < 6 → stV (11 + 4 * i) 6 = 12 + 4 * i ∧ stV (11 + 4 * i) 7 = 13 + 4 * i ∧ stV (11 + 4 * i) 8 = 14 + 4 * i := fun i i0 i1 => st_tp i (by
      have : i = 0 ∨ i = 1 ∨ i = 2 ∨ i = 3 ∨ i = 4 ∨ i = 5 := by omega
      rcases this with rfl | rfl | rfl | rfl | rfl | rfl <;> decide)
    refine ⟨fun i i0 i1 => ⟨i, i0, i1, h i i0 i1⟩, fun i j i0 i1 j0 j1 hn => ?_⟩
    rw [(h i i0 i1).1, (h j j0 j1).1]; omega
  have Cc : CW stV (stV 102) := by
    refine ⟨⟨by omega, by omega, by omega, by omega, by omega, by omega, by omega, by omega, fun r r0 r1 => by omega⟩, ?_, by omega, fun i i0 i1 => by omega, fun d d0 d1 => by rw [(l d d0 d1).1, (l d d0 d1).2], by rw [w5, s152]; decide⟩
    unfold CM
    rw [w4, s7]
    refine ⟨by decide, by decide, fun r r0 r1 => ?_⟩
    have hz : ∀ r : Nat, r < 24 → bitI 0 (r : Int) = 0 := by decide
    have := hz r.toNat (by omega)
    rw [show ((r.toNat : Nat) : Int) = r by omega] at this
    rw [this, if_neg (by omega)]
  have Oo : SOk (stV 102) 0 := by
    refine ⟨?_, by omega, by omega, fun i i0 i1 => by omega, fun r r0 r1 => by omega, fun d d0 d1 => by rw [(l d d0 d1).2]; exact R32_0⟩
    unfold KOk
    rw [s0, s7, s2, s3, s4, s5, s1]
    exact ⟨by decide, by decide, by decide, by decide, by decide, by decide, by decide, by decide, by decide, by decide, by decide, fun _ => rfl, fun z => absurd z (by decide), fun r r0 r1 => by omega⟩
  refine ⟨⟨fun a _ => rfl, Pp, Cc, Oo, Tp, by decide⟩, ⟨st_pm, b15⟩, fun t ht => st_w t (by rcases ht with rfl | rfl | rfl | rfl <;> decide), fun w w0 w1 => ?_, ⟨by omega, by omega, by omega, fun k q0 q1 => by omega⟩, ⟨fun i q0 q1 => ?_, fun h => absurd i1 h⟩, ⟨by omega, by omega⟩, ⟨fun i q0 q1 => by omega, ?_⟩, fun i q0 q1 h => ?_⟩
  · refine Or.inl (st_rw w ?_)
    have : w = 0 ∨ w = 1 ∨ w = 2 ∨ w = 3 := by omega
    rcases this with rfl | rfl | rfl | rfl <;> decide
  · have : i = 0 ∨ i = 1 := by omega
    rcases this with rfl | rfl
    · exact Or.inl ⟨i1, i3⟩
    · exact Or.inl ⟨i2, i4⟩
  · rw [s152]; decide
  · have : i = 0 ∨ i = 1 := by omega
    rcases this with rfl | rfl
    · omega
    · omega
theorem st_run : ∃ x μ2 x' sh V, T_init 0 (newc 11 16 ([], fun _ _ => 0)) = some (x, μ2) ∧ nlen μ2 = 101 ∧ M_init 101 (newc 12 52 μ2) = some (x', (sh, V)) ∧ INV sh V 0 0 := by
  obtain ⟨⟨x, μ2⟩, h1⟩ := Option.isSome_iff_exists.mp st_1
  obtain ⟨⟨x', sh, V⟩, h2⟩ := Option.isSome_iff_exists.mp st_2
  have hM : stM = (sh, V) := by unfold stM; rw [h2]
  have hV : stV = V := by unfold stV; rw [hM]
  have hs : sh = SH0 := by have := st_sh; rw [hM] at this; exact this
  have hn := st_n
  rw [h1, bd2_mk] at hn
  have hn' : nlen μ2 = 101 := Option.some.inj hn
  unfold st2 at h2
  rw [h1, bd2_mk, hn'] at h2
  exact ⟨x, μ2, x', sh, V, h1, hn', h2, by rw [← hV]; exact st_inv hs⟩
end START
