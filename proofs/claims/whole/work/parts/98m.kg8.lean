/-! PURE: kingdom; the call -/
section KG8
variable {sh : List (Nat × Nat)} {V V' V1 V2 W W' W1 W2 : Int → Int → Int} {S S' R : Int → Int} {τ : Nat → Int} {N p q n : Nat} {D : Int}
theorem upn {a b i j x : Int} (h : ¬ (a = b ∧ j = i)) : upV V b i x a j = V a j := if_neg h
/-- the draft becomes the land -/
theorem become_d (H : Sh sh) (P : Pt V) : ∃ V', Kg_become 3 38 (sh, V) = some (0, (sh, V')) ∧ (∀ j, 0 ≤ j → j < 8 → V' 3 j = V 38 j) ∧ (∀ j, 8 ≤ j → V' 3 j = V 3 j) ∧ (∀ r, 0 ≤ r → r < 24 → V' 4 r = V 39 r ∧ V' 5 r = V 40 r ∧ V' 6 r = V 41 r ∧ V' 7 r = V 42 r ∧ V' 8 r = V 43 r) ∧ ∀ a j, (a < 3 ∨ 8 < a) → V' a j = V a j := by
  have e1 : (kS sh 3).1 = 1 := by rw [k_3 H]
  have e2 : (kS sh 38).1 = 1 := by rw [k_38 H]
  have ne : (38 : Int) ≠ 3 := by decide
  have cN : ∀ (W : Int → Int → Int) (A B : Int) (a j : Int), a ≠ B → cpV W A 0 B 0 24 a j = W a j := fun W A B a j ha => if_neg (fun e => ha e.1)
  have cA : ∀ (W : Int → Int → Int) (A B : Int) (r : Int), 0 ≤ r → r < 24 → cpV W A 0 B 0 24 B r = W A r := fun W A B r r0 r1 => by
    unfold cpV; rw [if_pos ⟨rfl, by omega, by omega⟩]; congr 1; omega
  generalize hU : upV (upV (upV (upV (upV (upV (upV (upV V 3 0 (V 38 0)) 3 1 (V 38 1)) 3 2 (V 38 2)) 3 3 (V 38 3)) 3 4 (V 38 4)) 3 5 (V 38 5)) 3 6 (V 38 6)) 3 7 (V 38 7) = U
  have fU : ∀ a j, a ≠ 3 → U a j = V a j := fun a j ha => by rw [← hU, up_row ha, up_row ha, up_row ha, up_row ha, up_row ha, up_row ha, up_row ha, up_row ha]
  have gU : ∀ j, 8 ≤ j → U 3 j = V 3 j := fun j hj => by rw [← hU, up_col (by omega), up_col (by omega), up_col (by omega), up_col (by omega), up_col (by omega), up_col (by omega), up_col (by omega), up_col (by omega)]
  have ac : ∀ (W : Int → Int → Int) (a b : Int) (f : Mem → Option (Int × Mem)), (39 ≤ a ∧ a ≤ 43) → (4 ≤ b ∧ b ≤ 8) → bd (acopy 20 (sh, W) a 0 b 0 24) f = f (sh, cpV W a 0 b 0 24) := fun W a b f ha hb => by
    have ka : kS sh a = (20, 24) := by
      have : a = 39 ∨ a = 40 ∨ a = 41 ∨ a = 42 ∨ a = 43 := by omega
      rcases this with rfl | rfl | rfl | rfl | rfl
      · exact k_39 H
      · exact k_40 H
      · exact k_41 H
      · exact k_42 H
      · exact k_43 H
    have kb : kS sh b = (20, 24) := by
      have : b = 4 ∨ b = 5 ∨ b = 6 ∨ b = 7 ∨ b = 8 := by omega
      rcases this with rfl | rfl | rfl | rfl | rfl
      · exact k_4 H
      · exact k_5 H
      · exact k_6 H
      · exact k_7 H
      · exact k_8 H
    rw [acopy_ok (by rw [ka]) (by rw [kb]) (by decide) (by decide) (by decide) (by rw [ka]; decide) (by rw [kb]; decide), bd_mk]
  refine ⟨cpV (cpV (cpV (cpV (cpV U 39 0 4 0 24) 40 0 5 0 24) 41 0 6 0 24) 42 0 7 0 24) 43 0 8 0 24, ?_, fun j j0 j1 => ?_, fun j hj => ?_, fun r r0 r1 => ?_, fun a j ha => ?_⟩
  · unfold Kg_become
    rw [bgt e2, bpt e1, bgt e2, up_row ne, bpt e1, bgt e2, up_row ne, up_row ne, bpt e1, bgt e2, up_row ne, up_row ne, up_row ne, bpt e1, bgt e2, up_row ne, up_row ne, up_row ne, up_row ne, bpt e1, bgt e2, up_row ne, up_row ne, up_row ne, up_row ne, up_row ne, bpt e1, bgt e2, up_row ne, up_row ne, up_row ne, up_row ne, up_row ne, up_row ne, bpt e1, bgt e2, up_row ne, up_row ne, up_row ne, up_row ne, up_row ne, up_row ne, up_row ne, bpt e1, hU]
    rw [bgt e2, fU _ _ ne, q_38_8 P, bgt e1, gU _ (by decide), q_3_8 P, ac _ _ _ _ (by decide) (by decide)]
    rw [bgt e2, cN _ _ _ _ _ (by decide), fU _ _ ne, q_38_9 P, bgt e1, cN _ _ _ _ _ (by decide), gU _ (by decide), q_3_9 P, ac _ _ _ _ (by decide) (by decide)]
    rw [bgt e2, cN _ _ _ _ _ (by decide), cN _ _ _ _ _ (by decide), fU _ _ ne, q_38_10 P, bgt e1, cN _ _ _ _ _ (by decide), cN _ _ _ _ _ (by decide), gU _ (by decide), q_3_10 P, ac _ _ _ _ (by decide) (by decide)]
    rw [bgt e2, cN _ _ _ _ _ (by decide), cN _ _ _ _ _ (by decide), cN _ _ _ _ _ (by decide), fU _ _ ne, q_38_11 P, bgt e1, cN _ _ _ _ _ (by decide), cN _ _ _ _ _ (by decide), cN _ _ _ _ _ (by decide), gU _ (by decide), q_3_11 P, ac _ _ _ _ (by decide) (by decide)]
    rw [bgt e2, cN _ _ _ _ _ (by decide), cN _ _ _ _ _ (by decide), cN _ _ _ _ _ (by decide), cN _ _ _ _ _ (by decide), fU _ _ ne, q_38_12 P, bgt e1, cN _ _ _ _ _ (by decide), cN _ _ _ _ _ (by decide), cN _ _ _ _ _ (by decide), cN _ _ _ _ _ (by decide), gU _ (by decide), q_3_12 P, ac _ _ _ _ (by decide) (by decide)]
  · rw [cN _ _ _ _ _ (by decide), cN _ _ _ _ _ (by decide), cN _ _ _ _ _ (by decide), cN _ _ _ _ _ (by decide), cN _ _ _ _ _ (by decide), ← hU]
    have : j = 0 ∨ j = 1 ∨ j = 2 ∨ j = 3 ∨ j = 4 ∨ j = 5 ∨ j = 6 ∨ j = 7 := by omega
    rcases this with rfl | rfl | rfl | rfl | rfl | rfl | rfl | rfl <;> simp (disch := decide) only [up_col, up_eq]
  · rw [cN _ _ _ _ _ (by decide), cN _ _ _ _ _ (by decide), cN _ _ _ _ _ (by decide), cN _ _ _ _ _ (by decide), cN _ _ _ _ _ (by decide)]
    exact gU j hj
  · refine ⟨?_, ?_, ?_, ?_, ?_⟩
    · rw [cN _ _ _ _ _ (by decide), cN _ _ _ _ _ (by decide), cN _ _ _ _ _ (by decide), cN _ _ _ _ _ (by decide), cA _ _ _ _ r0 r1, fU _ _ (by decide)]
    · rw [cN _ _ _ _ _ (by decide), cN _ _ _ _ _ (by decide), cN _ _ _ _ _ (by decide), cA _ _ _ _ r0 r1, cN _ _ _ _ _ (by decide), fU _ _ (by decide)]
    · rw [cN _ _ _ _ _ (by decide), cN _ _ _ _ _ (by decide), cA _ _ _ _ r0 r1, cN _ _ _ _ _ (by decide), cN _ _ _ _ _ (by decide), fU _ _ (by decide)]
    · rw [cN _ _ _ _ _ (by decide), cA _ _ _ _ r0 r1, cN _ _ _ _ _ (by decide), cN _ _ _ _ _ (by decide), cN _ _ _ _ _ (by decide), fU _ _ (by decide)]
    · rw [cA _ _ _ _ r0 r1, cN _ _ _ _ _ (by decide), cN _ _ _ _ _ (by decide), cN _ _ _ _ _ (by decide), cN _ _ _ _ _ (by decide), fU _ _ (by decide)]
  · rw [cN _ _ _ _ _ (by omega), cN _ _ _ _ _ (by omega), cN _ _ _ _ _ (by omega), cN _ _ _ _ _ (by omega), cN _ _ _ _ _ (by omega)]
    exact fU a j (by omega)
/-- the world of a draft -/
def nwS (R S : Int → Int) : Int → Int := fun k => if 0 ≤ k ∧ k < 1629 then (if k < 128 then R k else 0) else S k
theorem nwS_lo {k : Int} (h0 : 0 ≤ k) (h1 : k < 128) : nwS R S k = R k := by unfold nwS; rw [if_pos ⟨h0, by omega⟩, if_pos h1]
theorem nwS_0 {k : Int} (h0 : 128 ≤ k) (h1 : k < 1629) : nwS R S k = 0 := by unfold nwS; rw [if_pos ⟨by omega, h1⟩, if_neg (by omega)]
theorem nwS_hi {k : Int} (h0 : 1629 ≤ k) : nwS R S k = S k := by unfold nwS; rw [if_neg (by omega)]
theorem nwS_SOk (K : KOk R) : SOk (nwS R S) D := by
  obtain ⟨k1, k2, k3, k4, k5, k6, k7, k8, k9, k10, k11, k12, k13, k14⟩ := K
  have e7 : nwS R S 7 = R 7 := nwS_lo (by decide) (by decide)
  have e152 : nwS R S 152 = 0 := nwS_0 (by decide) (by decide)
  refine ⟨?_, by rw [e152]; decide, by rw [e152]; decide, fun i i0 i1 => by rw [e152] at i1; omega, fun r r0 r1 => Or.inl (nwS_0 (by omega) (by rw [e7] at r1; omega)), fun d d0 d1 => by rw [nwS_0 (by omega) (by omega)]; unfold R32; omega⟩
  unfold KOk
  rw [e7, nwS_lo (k := 0) (by decide) (by decide), nwS_lo (k := 1) (by decide) (by decide), nwS_lo (k := 2) (by decide) (by decide), nwS_lo (k := 3) (by decide) (by decide), nwS_lo (k := 4) (by decide) (by decide), nwS_lo (k := 5) (by decide) (by decide)]
  refine ⟨k1, k2, k3, k4, k5, k6, k7, k8, k9, k10, k11, k12, k13, fun r r0 r1 => ?_⟩
  rw [nwS_lo (k := 8 + r) (by omega) (by omega), nwS_lo (k := 32 + r) (by omega) (by omega), nwS_lo (k := 56 + r) (by omega) (by omega), nwS_lo (k := 80 + r) (by omega) (by omega), nwS_lo (k := 104 + r) (by omega) (by omega)]
  exact k14 r r0 r1
theorem begin_ok (H : Sh sh) (P : Pt V) (T : TP V) (DD : DR V W) (K : KOk (W 105)) : ∃ V', Wo_begin 2 38 (sh, V) = some (0, (sh, V')) ∧ CW V' (nwS (W 105) S) ∧ TP V' ∧ Pt V' ∧ V' 3 6 = W 105 6 ∧ ∀ a j, (a < 2 ∨ 10 < a) → V' a j = V a j := by
  obtain ⟨Vb, b1, b2, b3, b4, b5⟩ := become_d H P
  have Pb : Pt Vb := fun q hq => by
    have z : ∀ q ∈ ptC, (q.1 < 3 ∨ 8 < q.1) ∨ (q.1 = 3 ∧ 8 ≤ q.2.1) := by decide
    rcases z q hq with w | w
    · rw [b5 _ _ w]; exact P q hq
    · have := P q hq
      rw [w.1] at this ⊢
      rw [b3 _ w.2]; exact this
  have hk : (kS sh 2).1 = 10 := by rw [k_2 H]
  have F : ∀ a j, ¬ (a = 2 ∧ (j = 3 ∨ j = 4 ∨ j = 5)) → a ≠ 10 → fillV (upV (upV (upV Vb 2 3 0) 2 4 0) 2 5 0) 10 0 720 a j = Vb a j := fun a j h1 h2 => by
    unfold fillV
    rw [if_neg (fun e => h2 e.1), upn (by omega), upn (by omega), upn (by omega)]
  have f2 : ∀ j, (j = 3 ∨ j = 4 ∨ j = 5) → fillV (upV (upV (upV Vb 2 3 0) 2 4 0) 2 5 0) 10 0 720 2 j = 0 := fun j hj => by
    unfold fillV
    rw [if_neg (fun e => by have := e.1; omega)]
    rcases hj with rfl | rfl | rfl <;> simp (disch := decide) only [up_col, up_eq]
  have f10 : ∀ j, 0 ≤ j → j < 720 → fillV (upV (upV (upV Vb 2 3 0) 2 4 0) 2 5 0) 10 0 720 10 j = 0 := fun j h0 h1 => by
    unfold fillV; rw [if_pos ⟨rfl, h0, h1⟩]
  have run : Wo_begin 2 38 (sh, V) = some (0, (sh, fillV (upV (upV (upV Vb 2 3 0) 2 4 0) 2 5 0) 10 0 720)) := by
    unfold Wo_begin
    have P3 : Pt (upV (upV (upV Vb 2 3 0) 2 4 0) 2 5 0) := fun q hq => by
      have z : ∀ q ∈ ptC, ¬ (q.1 = 2 ∧ (q.2.1 = 3 ∨ q.2.1 = 4 ∨ q.2.1 = 5)) := by decide
      have := z q hq
      rw [upn (by omega), upn (by omega), upn (by omega)]; exact Pb q hq
    rw [bgt hk, q_2_0 P, bit (by rw [k_3 H]), b1, bd2_mk, bpt hk, bpt hk, bpt hk, bgt hk, q_2_2 P3, J_fill_eq (k_10 H) (by decide), bd2_mk]
    rfl
  rw [run]
  generalize fillV (upV (upV (upV Vb 2 3 0) 2 4 0) 2 5 0) 10 0 720 = Vf at F f2 f10
  have Pf : Pt Vf := fun q hq => by
    have z : ∀ q ∈ ptC, ¬ (q.1 = 2 ∧ (q.2.1 = 3 ∨ q.2.1 = 4 ∨ q.2.1 = 5)) ∧ q.1 ≠ 10 := by decide
    have := z q hq
    rw [F _ _ this.1 this.2]; exact Pb q hq
  have e7 : nwS (W 105) S 7 = W 105 7 := nwS_lo (by decide) (by decide)
  have k4 := K.2.2.2.1
  have lo : ∀ a j, (a < 2 ∨ 10 < a) → Vf a j = V a j := fun a j h => by rw [F a j (by omega) (by omega), b5 a j (by omega)]
  have h3 : ∀ j, 0 ≤ j → j < 8 → Vf 3 j = W 105 j := fun j j0 j1 => by rw [F _ _ (by omega) (by decide), b2 j j0 j1]; exact DD.1 j j0 j1
  refine ⟨Vf, rfl, ⟨?_, ?_, ?_, ?_, ?_, ?_⟩, TP_of T (fun i j i0 i1 j0 j1 => lo _ _ (by omega)), Pf, h3 6 (by decide) (by decide), lo⟩
  · refine ⟨by rw [h3 0 (by decide) (by decide), nwS_lo (by decide) (by decide)], by rw [h3 1 (by decide) (by decide), nwS_lo (by decide) (by decide)], by rw [h3 2 (by decide) (by decide), nwS_lo (by decide) (by decide)], by rw [h3 3 (by decide) (by decide), nwS_lo (by decide) (by decide)], by rw [h3 4 (by decide) (by decide), nwS_lo (by decide) (by decide)], by rw [h3 5 (by decide) (by decide), nwS_lo (by decide) (by decide)], by rw [h3 6 (by decide) (by decide), nwS_lo (by decide) (by decide)], by rw [h3 7 (by decide) (by decide), nwS_lo (by decide) (by decide)], fun r r0 r1 => ?_⟩
    rw [e7] at r1
    obtain ⟨g1, g2, g3, g4, g5⟩ := b4 r r0 (by omega)
    obtain ⟨d1, d2, d3, d4, d5⟩ := DD.2 r r0 r1
    rw [F _ _ (by omega) (by decide), F _ _ (by omega) (by decide), F _ _ (by omega) (by decide), F _ _ (by omega) (by decide), F _ _ (by omega) (by decide), g1, g2, g3, g4, g5, d1, d2, d3, d4, d5, nwS_lo (by omega) (by omega), nwS_lo (by omega) (by omega), nwS_lo (by omega) (by omega), nwS_lo (by omega) (by omega), nwS_lo (by omega) (by omega)]
    exact ⟨rfl, rfl, rfl, rfl, rfl⟩
  · unfold CM
    rw [f2 4 (by decide)]
    refine ⟨by decide, by decide, fun r r0 r1 => ?_⟩
    have hz : ∀ r : Nat, r < 24 → bitI 0 (r : Int) = 0 := by decide
    have := hz r.toNat (by omega)
    rw [show ((r.toNat : Nat) : Int) = r by omega] at this
    rw [this]
    split
    · rw [nwS_0 (by omega) (by omega)]
    · rfl
  · rw [f2 3 (by decide), nwS_0 (by decide) (by decide)]
  · intro i i0 i1
    rw [nwS_0 (by decide) (by decide)] at i1; omega
  · intro d d0 d1
    rw [f10 d d0 d1, nwS_0 (by omega) (by omega)]
  · rw [f2 5 (by decide), nwS_0 (by decide) (by decide)]
    exact (by decide : (0 : Int) = w32 0)
end KG8
