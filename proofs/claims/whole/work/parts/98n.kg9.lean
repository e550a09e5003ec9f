/-! PURE: kingdom; both sides of the call -/
section KG9
variable {sh : List (Nat × Nat)} {V V' V1 V2 W W' W1 W2 : Int → Int → Int} {S S' R : Int → Int} {τ : Nat → Int} {N p q n : Nat} {D a : Int}
theorem pl_2 (H : Sh sh) : ∀ (n k : Nat) (W : Int → Int → Int), k ≤ 128 → 128 - k < n → ∃ W', (∀ kk : Int → Mem → Option (Int × Mem), M_plain_L2 kk n 105 (k : Int) (sh, setR W 102 S) = kk 105 (sh, setR W' 102 S)) ∧ (∀ a j, a ≠ 105 → W' a j = W a j) ∧ (∀ j : Int, j < k → W' 105 j = W 105 j) ∧ ∀ j : Int, k ≤ j → j < 128 → W' 105 j = 0 := by
  intro n
  induction n with
  | zero => intro k W _ h; omega
  | succ n ih =>
    intro k W hk hn
    by_cases g : k = 128
    · subst g
      exact ⟨W, fun kk => by rw [M_plain_L2, if_neg (by decide)], fun _ _ _ => rfl, fun _ _ => rfl, fun j h0 h1 => by omega⟩
    · obtain ⟨W', e1, e2, e3, e4⟩ := ih (k + 1) (upV W 105 k 0) (by omega) (by omega)
      have w : w32 ((k : Int) + 1) = ((k + 1 : Nat) : Int) := by rw [w32_id (by omega) (by omega)]; omega
      refine ⟨W', fun kk => ?_, fun a j ha => by rw [e2 a j ha, up_row ha], fun j hj => by rw [e3 j (by omega), up_col (by omega)], fun j h0 h1 => ?_⟩
      · rw [M_plain_L2, if_pos (c := (k : Int) < 128) (by omega), ms105 H (by omega) (by omega), w]
        exact e1 kk
      · by_cases u : j = k
        · rw [e3 j (by omega), u, up_eq]
        · exact e4 j (by omega) h1
theorem plain_ok (H : Sh sh) : ∃ W', M_plain 105 (sh, setR W 102 S) = some (0, (sh, setR W' 102 S)) ∧ (∀ a j, a ≠ 105 → W' a j = W a j) ∧ W' 105 0 = 0 ∧ W' 105 1 = 0 ∧ W' 105 2 = 360 ∧ W' 105 3 = 50 ∧ W' 105 4 = 90 ∧ W' 105 5 = 269 ∧ W' 105 6 = 0 ∧ W' 105 7 = 0 := by
  obtain ⟨W1, e1, e2, e3, e4⟩ := pl_2 (S := S) H FU 0 W (by decide) (by unfold FU; omega)
  refine ⟨upV (upV (upV (upV W1 105 2 360) 105 3 50) 105 4 90) 105 5 269, ?_, fun a j ha => by rw [up_row ha, up_row ha, up_row ha, up_row ha, e2 a j ha], ?_⟩
  · unfold M_plain
    refine (e1 _).trans ?_
    rw [ms105 H (by decide) (by decide), ms105 H (by decide) (by decide), ms105 H (by decide) (by decide), ms105 H (by decide) (by decide)]
  · have z : ∀ j : Int, 0 ≤ j → j < 128 → W1 105 j = 0 := fun j h0 h1 => e4 j h0 h1
    simp (disch := decide) only [up_eq, up_col, z]
    decide
/-- the draft begins -/
theorem read_start (H : Sh sh) (P : Pt V) (a0 : 0 ≤ a) (a1 : a ≤ 700) : ∃ V0, Rd_read 37 1 a (sh, V) = Rd_read_L39 FU 37 0 (sh, V0) ∧ (V0 37 3 = 1 ∧ V0 37 4 = a ∧ V0 37 6 = 0 ∧ V0 37 1 = 0 ∧ V0 37 2 = -1) ∧ (V0 38 0 = 0 ∧ V0 38 1 = 0 ∧ V0 38 2 = 360 ∧ V0 38 3 = 50 ∧ V0 38 4 = 90 ∧ V0 38 5 = 269 ∧ V0 38 6 = 0 ∧ V0 38 7 = 0) ∧ ∀ b j, ¬ (b = 37 ∧ 1 ≤ j) → ¬ (b = 38 ∧ j < 8) → V0 b j = V b j := by
  have al : ∀ U : Int → Int → Int, alen 22 (sh, U) 1 = some 700 := fun U => by rw [alen_ok (by rw [k_1 H]) (by rw [k_1 H]; decide), k_1 H]; rfl
  have cl : ∀ U : Int → Int → Int, Kg_clear 38 (sh, U) = some (0, (sh, upV (upV (upV (upV (upV (upV (upV (upV U 38 0 0) 38 1 0) 38 2 360) 38 3 50) 38 4 90) 38 5 269) 38 6 0) 38 7 0)) := fun U => by
    unfold Kg_clear
    rw [rp38 H, rp38 H, rp38 H, rp38 H, rp38 H, rp38 H, rp38 H, rp38 H]
  refine ⟨upV (upV (upV (upV (upV (upV (upV (upV (upV (upV (upV (upV (upV V 37 3 1) 37 4 a) 37 6 0) 37 1 0) 37 2 (-1)) 38 0 0) 38 1 0) 38 2 360) 38 3 50) 38 4 90) 38 5 269) 38 6 0) 38 7 0, ?_, ?_, ?_, ?_⟩
  · unfold Rd_read
    rw [rp37 H, al, bd_mk, J_min_b, if_neg (by omega), rp37 H, rp37 H, rp37 H, rp37 H, rg37 H, up_col (by decide), up_col (by decide), up_col (by decide), up_col (by decide), up_col (by decide), q_37_0 P, bit (by rw [k_38 H]), cl, bd2_mk]
  · simp (disch := decide) only [up_row, up_eq, up_col, and_self]
  · simp (disch := decide) only [up_row, up_eq, up_col, and_self]
  · intro b j h1 h2
    rw [upn (by omega), upn (by omega), upn (by omega), upn (by omega), upn (by omega), upn (by omega), upn (by omega), upn (by omega), upn (by omega), upn (by omega), upn (by omega), upn (by omega), upn (by omega)]
def nwK (R S : Int → Int) (m : Int) : Int → Int := fun k => if 0 ≤ k ∧ k < m then (if k < 128 then R k else 0) else S k
theorem k120 (H : Sh sh) (P : PM W) : ∀ (n k : Nat), k ≤ 1629 → 1629 - k < n → M_kingdom_L120 n 101 (k : Int) (sh, setR W 102 (nwK (W 105) S k)) = some (nwS (W 105) S 6, (sh, setR W 102 (nwS (W 105) S))) := by
  intro n
  induction n with
  | zero => intro k _ h; omega
  | succ n ih =>
    intro k hk hn
    by_cases g : k = 1629
    · subst g
      rw [M_kingdom_L120, if_neg (by decide), bg101 H, q_101_1 P, bl102 H (by decide) (by decide)]
      rfl
    · have w : w32 ((k : Int) + 1) = ((k + 1 : Nat) : Int) := by rw [w32_id (by omega) (by omega)]; omega
      have e : up (nwK (W 105) S k) k (if (k : Int) < 128 then W 105 k else 0) = nwK (W 105) S ((k + 1 : Nat) : Int) := by
        funext j; unfold up nwK
        by_cases u : j = k
        · rw [if_pos u, u, if_pos (c := 0 ≤ (k : Int) ∧ (k : Int) < ((k + 1 : Nat) : Int)) (by omega)]
        · rw [if_neg u]
          by_cases v : 0 ≤ j ∧ j < k
          · rw [if_pos v, if_pos (c := 0 ≤ j ∧ j < ((k + 1 : Nat) : Int)) (by omega)]
          · rw [if_neg v, if_neg (c := 0 ≤ j ∧ j < ((k + 1 : Nat) : Int)) (by omega)]
      rw [M_kingdom_L120, if_pos (c := (k : Int) < 1629) (by omega), bg101 H, q_101_1 P]
      by_cases u : (k : Int) < 128
      · rw [if_pos u] at e
        rw [if_pos u, bg101 H, q_101_4 P, ml105 H (by omega) u, bd_mk, bs102 H (by omega) (by omega), e, w]
        exact ih (k + 1) (by omega) (by omega)
      · rw [if_neg u] at e
        rw [if_neg u, bd_mk, bs102 H (by omega) (by omega), e, w]
        exact ih (k + 1) (by omega) (by omega)
theorem DR_of (h : DR V W) (f : ∀ a j, 38 ≤ a → V' a j = V a j) (g : ∀ j, W' 105 j = W 105 j) : DR V' W' := by
  refine ⟨fun j j0 j1 => by rw [f _ _ (by decide), g]; exact h.1 j j0 j1, fun r r0 r1 => ?_⟩
  rw [g] at r1
  rw [f _ _ (by decide), f _ _ (by decide), f _ _ (by decide), f _ _ (by decide), f _ _ (by decide), g, g, g, g, g]
  exact h.2 r r0 r1
theorem Pt_up0 {j x : Int} (h : 1 ≤ j ∧ j ≤ 3) : Pt (upV V 0 j x) = Pt V := by
  have : j = 1 ∨ j = 2 ∨ j = 3 := by omega
  rcases this with rfl | rfl | rfl <;> exact Pt_fld2 (by decide)
theorem PO_nwS {E : Int} (hE : 0 ≤ E) : PO (nwS R S) E := by
  have e : nwS R S 152 = 0 := nwS_0 (by decide) (by decide)
  refine ⟨fun i i0 i1 => by rw [e] at i1; omega, ?_⟩
  rw [e]
  show (0 : Int) ≤ _
  omega
set_option maxHeartbeats 1000000 in
theorem rk_kingdom (X : Cx sh V S D) (P2 : PM W) (hT : TA V W) (hF : V 0 2 = W 101 13 ∧ V 0 3 = W 101 14) : ∃ y V1 W1 S', T_kingdom 0 a (sh, V) = some (y, (sh, V1)) ∧ M_kingdom 101 a (sh, setR W 102 S) = some (y, (sh, setR W1 102 S')) ∧ CW V1 S' ∧ SOk S' D ∧ TP V1 ∧ Pt V1 ∧ TA V1 W1 ∧ (V1 0 2 = W1 101 13 ∧ V1 0 3 = W1 101 14) ∧ (∀ k, 1629 ≤ k → S' k = S k) ∧ (∀ E, 0 ≤ E → PO S E → PO S' E) ∧ (∀ a j, a ≠ 0 → ¬ (2 ≤ a ∧ a ≤ 10) → ¬ (37 ≤ a ∧ a ≤ 43) → V1 a j = V a j) ∧ ∀ a j, ¬ MSc a j → ¬ (a = 101 ∧ (j = 5 ∨ j = 13 ∨ j = 14)) → W1 a j = W a j := by
  obtain ⟨H, P, C, O, T, hD⟩ := id X
  obtain ⟨t1, t2, t3, t4⟩ := id hT
  unfold T_kingdom M_kingdom
  rw [bp101 H, bg101 H, up_col (by decide), ← t1, M_within_b]
  by_cases g : 0 ≤ a ∧ a ≤ V 0 1
  · rw [B_t g, if_neg (c := (1 : Int) = 0) (by decide), if_neg (c := a < 0) (by omega), bgt (by rw [k_0 H]), if_neg (c := V 0 1 < a) (by omega), bgt (by rw [k_0 H]), q_0_7 P, bgt (by rw [k_0 H]), q_0_0 P, ri37 H]
    obtain ⟨V0, r1, ⟨r2, r3, r4, r5, r6⟩, ⟨r7, r8, r9, r10, r11, r12, r13, r14⟩, r15⟩ := read_start H P g.1 (by omega)
    rw [r1, bp101 H, bp101 H, bp101 H, bp101 H, bg101 H]
    have P3 : PM (upV (upV (upV (upV (upV W 101 0 0) 101 8 a) 101 5 0) 101 7 0) 101 11 0) := by
      rw [PM_fld (by decide), PM_fld (by decide), PM_fld (by decide), PM_fld (by decide), PM_fld (by decide)]; exact P2
    have w8 : upV (upV (upV (upV (upV W 101 0 0) 101 8 a) 101 5 0) 101 7 0) 101 11 0 101 8 = a := by simp (disch := decide) only [up_eq, up_col]
    have w7 : upV (upV (upV (upV (upV W 101 0 0) 101 8 a) 101 5 0) 101 7 0) 101 11 0 101 7 = 0 := by simp (disch := decide) only [up_eq, up_col]
    have w5 : upV (upV (upV (upV (upV W 101 0 0) 101 8 a) 101 5 0) 101 7 0) 101 11 0 101 5 = 0 := by simp (disch := decide) only [up_eq, up_col]
    have w11 : upV (upV (upV (upV (upV W 101 0 0) 101 8 a) 101 5 0) 101 7 0) 101 11 0 101 11 = 0 := up_eq
    have wf : ∀ b j, ¬ (b = 101 ∧ (j = 0 ∨ j = 5 ∨ j = 7 ∨ j = 8 ∨ j = 11)) → upV (upV (upV (upV (upV W 101 0 0) 101 8 a) 101 5 0) 101 7 0) 101 11 0 b j = W b j := fun b j h => by
      rw [upn (by omega), upn (by omega), upn (by omega), upn (by omega), upn (by omega)]
    generalize upV (upV (upV (upV (upV W 101 0 0) 101 8 a) 101 5 0) 101 7 0) 101 11 0 = Wa at P3 w8 w7 w5 w11 wf ⊢
    obtain ⟨Wb, p1, p2, p3, p4, p5, p6, p7, p8, p9, p10⟩ := plain_ok (W := Wa) (S := S) H
    have Pb : PM Wb := fun q hq => by
      have z : ∀ q ∈ ptM, q.1 ≠ 105 := by decide
      rw [p2 _ _ (z q hq)]; exact P3 q hq
    obtain ⟨N, hN⟩ : ∃ N : Nat, a = N := ⟨a.toNat, by omega⟩
    have MR : MRd Wb (fun k => V 1 k) N := ⟨Pb, by omega, by rw [p2 _ _ (by decide), w8, hN], fun k hk => by
      obtain ⟨u1, u2⟩ := t4 k (by omega) (by omega)
      rw [p2 _ _ (by decide), wf _ _ (by omega), u2]; exact ⟨rfl, u1⟩⟩
    obtain ⟨Wc, n1, n2, n3, n4, n5⟩ := next_ok (S := S) (p := 0) H MR (by rw [p2 _ _ (by decide), w7]; rfl) (by omega)
    rw [q_101_4 P3, p1, bd2_mk, bi101 H, n5, bd2_mk]
    have CR0 : CRd V0 (fun k => V 1 k) N := ⟨by omega, by rw [r15 _ _ (by omega) (by omega)]; exact q_37_0 P, r2, by omega, ⟨by rw [r15 _ _ (by omega) (by omega)]; exact q_38_8 P, by rw [r15 _ _ (by omega) (by omega)]; exact q_38_9 P, by rw [r15 _ _ (by omega) (by omega)]; exact q_38_10 P, by rw [r15 _ _ (by omega) (by omega)]; exact q_38_11 P, by rw [r15 _ _ (by omega) (by omega)]; exact q_38_12 P⟩, fun k hk => by
      obtain ⟨u1, u2⟩ := t4 k (by omega) (by omega)
      rw [r15 _ _ (by omega) (by omega)]; exact ⟨rfl, u1⟩⟩
    have c105 : ∀ j, Wc 105 j = Wb 105 j := fun j => n1 _ _ (by omega)
    have st : KSt V0 Wc (fun k => V 1 k) N 0 := Or.inl ⟨0, Nat.le_refl _, CR0, KN_MRd n1 MR, ⟨r5, r6⟩, r4, by omega, by rw [n3, p2 _ _ (by decide), w11], n2⟩
    have D0 : DR V0 Wc := by
      refine ⟨fun j j0 j1 => ?_, fun r s0 s1 => ?_⟩
      · rw [c105]
        have : j = 0 ∨ j = 1 ∨ j = 2 ∨ j = 3 ∨ j = 4 ∨ j = 5 ∨ j = 6 ∨ j = 7 := by omega
        rcases this with rfl | rfl | rfl | rfl | rfl | rfl | rfl | rfl <;> omega
      · rw [c105] at s1; omega
    have L0 : LOk (Wc 105) := by
      have q0 : Wc 105 0 = 0 := by rw [c105, p3]
      have q1 : Wc 105 1 = 0 := by rw [c105, p4]
      have q2 : Wc 105 2 = 360 := by rw [c105, p5]
      have q3 : Wc 105 3 = 50 := by rw [c105, p6]
      have q4 : Wc 105 4 = 90 := by rw [c105, p7]
      have q5 : Wc 105 5 = 269 := by rw [c105, p8]
      have q7 : Wc 105 7 = 0 := by rw [c105, p10]
      unfold LOk KOk
      rw [q0, q7, q2, q3, q4, q5, q1]
      refine ⟨⟨by decide, by decide, by decide, by decide, by decide, by decide, by decide, by decide, by decide, by decide, by decide, fun _ => rfl, fun z => absurd z (by decide), fun r s0 s1 => by omega⟩, fun _ => rfl⟩
    obtain ⟨Vd, Wd, d1, d2, d3, d4, d5, d6, d7⟩ := lines_ok (S := S) H FU 0 V0 Wc st (by unfold FU; omega) (fun _ => by unfold FU; omega) (by omega) (fun _ => ⟨D0, L0⟩)
    have vf : ∀ b j, b ≠ 37 → b ≠ 38 → ¬ (39 ≤ b ∧ b ≤ 43) → Vd b j = V b j := fun b j h1 h2 h3 => by rw [d3 b j (fun z => h1 z.1) (fun z => h2 z.1) h3, r15 b j (by omega) (by omega)]
    have v37 : Vd 37 0 = 38 := by rw [d3 _ _ (by unfold RFd; omega) (by omega) (by omega), r15 _ _ (by omega) (by omega)]; exact q_37_0 P
    have v38 : ∀ j, 8 ≤ j → Vd 38 j = V 38 j := fun j hj => by rw [d3 _ _ (by omega) (by omega) (by omega), r15 _ _ (by omega) (by omega)]
    have Pd : Pt Vd := fun q hq => by
      have z : ∀ q ∈ ptC, (q.1 ≠ 37 ∧ q.1 ≠ 38 ∧ ¬ (39 ≤ q.1 ∧ q.1 ≤ 43)) ∨ (q.1 = 37 ∧ q.2.1 = 0 ∧ q.2.2 = 38) ∨ (q.1 = 38 ∧ 8 ≤ q.2.1) := by decide
      rcases z q hq with h | ⟨h1, h2, h3⟩ | ⟨h1, h2⟩
      · rw [vf _ _ h.1 h.2.1 h.2.2]; exact P q hq
      · rw [h1, h2, h3]; exact v37
      · rw [h1, v38 _ h2, ← h1]; exact P q hq
    have mf : ∀ b j, ¬ MSc b j → ¬ (b = 101 ∧ j = 5) → Wd b j = W b j := fun b j h1 h2 => by
      rw [d4 b j (fun z => h1 (by unfold MSc; unfold MFd at z; omega)) (fun z => h1 (by unfold MSc; omega)), n1 b j (fun z => h1 (by unfold MSc; unfold MFd at z; omega)), p2 b j (fun z => h1 (by unfold MSc; omega)), wf b j (fun z => by unfold MSc at h1; omega)]
    have m5 : Wd 101 5 = 0 := by rw [d4 _ _ (by unfold MFd; omega) (by decide), n1 _ _ (by unfold MFd; omega), p2 _ _ (by decide), w5]
    have Pm : PM Wd := PM_fm (KN_MRd n1 MR).1 (KD_FM d4)
    have d1' : Rd_read_L39 FU 37 0 (sh, V0) = some (0, (sh, Vd)) := d1
    rw [d1', bd2_mk, bpt (by rw [k_0 H]), bgt (by rw [k_0 H]), up_col (by decide), q_0_7 Pd, rg37 H, up_row (by decide), bpt (by rw [k_0 H]), bgt (by rw [k_0 H]), up_col (by decide), up_col (by decide), q_0_7 Pd, rg37 H, up_row (by decide), up_row (by decide), bpt (by rw [k_0 H]), bgt (by rw [k_0 H]), up_col (by decide), up_eq, d2]
    unfold M_kingdom_J76
    rw [bg101 H, bp101 H, bg101 H, up_col (by decide)]
    have Pe : Pt (upV (upV (upV Vd 0 1 0) 0 2 (Vd 37 1)) 0 3 (Vd 37 2)) := by
      rw [Pt_up0 (by decide), Pt_up0 (by decide), Pt_up0 (by decide)]; exact Pd
    have e1 : upV (upV (upV Vd 0 1 0) 0 2 (Vd 37 1)) 0 3 (Vd 37 2) 0 1 = 0 := by simp (disch := decide) only [up_eq, up_col]
    have e2 : upV (upV (upV Vd 0 1 0) 0 2 (Vd 37 1)) 0 3 (Vd 37 2) 0 2 = Vd 37 1 := by simp (disch := decide) only [up_eq, up_col]
    have e3 : upV (upV (upV Vd 0 1 0) 0 2 (Vd 37 1)) 0 3 (Vd 37 2) 0 3 = Vd 37 2 := up_eq
    have ef : ∀ b j, b ≠ 0 → upV (upV (upV Vd 0 1 0) 0 2 (Vd 37 1)) 0 3 (Vd 37 2) b j = Vd b j := fun b j hb => by rw [up_row hb, up_row hb, up_row hb]
    have ea : upV (upV (upV Vd 0 1 0) 0 2 (Vd 37 1)) 0 3 (Vd 37 2) 0 4 = 2 := by
      have := q_0_4 Pe; exact this
    have eb : upV (upV (upV Vd 0 1 0) 0 2 (Vd 37 1)) 0 3 (Vd 37 2) 0 7 = 37 := q_0_7 Pe
    generalize upV (upV (upV Vd 0 1 0) 0 2 (Vd 37 1)) 0 3 (Vd 37 2) = Ve at Pe e1 e2 e3 ef ea eb ⊢
    have Te : TP Ve := TP_of T (fun i j i0 i1 j0 j1 => by rw [ef _ _ (by omega), vf _ _ (by omega) (by omega) (by omega)])
    by_cases z : Vd 37 1 = 0
    · obtain ⟨z1, z2, z3⟩ := d7 z
      rw [if_pos z, if_pos (by omega), bd_mk, bp101 H, bg101 H, up_col (by decide), up_col (by decide), if_pos (by omega)]
      have PmE : PM (upV (upV Wd 101 13 (Wd 101 11)) 101 14 (-1)) := by rw [PM_fld (by decide), PM_fld (by decide)]; exact Pm
      have De : DR Ve (upV (upV Wd 101 13 (Wd 101 11)) 101 14 (-1)) := DR_of z2 (fun b j hb => ef b j (by omega)) (fun j => by rw [up_row (by decide), up_row (by decide)])
      have u105 : upV (upV Wd 101 13 (Wd 101 11)) 101 14 (-1) 105 = Wd 105 := by funext j; rw [up_row (by decide), up_row (by decide)]
      have Ke : KOk (upV (upV Wd 101 13 (Wd 101 11)) 101 14 (-1) 105) := by rw [u105]; exact z3.1
      obtain ⟨Vg, b1, b2, b3, b4, b5, b6⟩ := begin_ok (S := S) H Pe Te De Ke
      have k0 := k120 (S := S) H PmE FU 0 (by omega) (by unfold FU; omega)
      have kS0 : nwK (upV (upV Wd 101 13 (Wd 101 11)) 101 14 (-1) 105) S ((0 : Nat) : Int) = S := by
        funext j; unfold nwK; rw [if_neg (by omega)]
      rw [kS0, nwS_lo (k := 6) (by decide) (by decide)] at k0
      rw [bgt (by rw [k_0 H]), ea, bgt (by rw [k_0 H]), eb, rg37 H, ef _ _ (by decide), v37, bit (by rw [k_2 H]), b1, bd2_mk, bgt (by rw [k_0 H]), q_0_4 b4, bgt (by rw [k_2 H]), q_2_0 b4, bgt (by rw [k_3 H]), b5]
      refine ⟨_, Vg, upV (upV Wd 101 13 (Wd 101 11)) 101 14 (-1), nwS (upV (upV Wd 101 13 (Wd 101 11)) 101 14 (-1) 105) S, rfl, k0, b2, nwS_SOk Ke, b3, b4, ⟨?_, ?_, ?_, ?_⟩, ⟨?_, ?_⟩, fun k hk => nwS_hi hk, fun E hE _ => PO_nwS hE, fun b j h1 h2 h3 => ?_, fun b j h1 h2 => ?_⟩
      · rw [b6 _ _ (by omega), e1, up_col (by decide), up_col (by decide), m5]
      · rw [b6 _ _ (by omega), e1]; decide
      · rw [b6 _ _ (by omega), e1]; decide
      · intro k q0 q1; rw [b6 _ _ (by omega), e1] at q1; omega
      · rw [b6 _ _ (by omega), e2, up_col (by decide), up_eq, d5]
      · rw [b6 _ _ (by omega), e3, up_eq, z1]
      · rw [b6 _ _ (by omega), ef _ _ h1, vf _ _ (by omega) (by omega) (by omega)]
      · rw [upn (by omega), upn (by omega), mf _ _ h1 (by omega)]
    · rw [if_neg z, if_neg (by omega), bg101 H, up_col (by decide), bd_mk, bp101 H, bg101 H, up_col (by decide), up_col (by decide), if_neg (by omega), bg101 H, up_col (by decide), up_col (by decide), bgt (by rw [k_0 H]), e2]
      have Xe : Cx sh Ve S D := Cx_mid X (fun b j h1 h2 => by rw [ef _ _ (by omega), vf _ _ (by omega) (by omega) (by omega)]) Pe
      refine ⟨_, Ve, upV (upV Wd 101 13 (Wd 101 11)) 101 14 (Wd 101 12), S, rfl, by rw [d5], Xe.2.2.1, O, Te, Pe, ⟨?_, ?_, ?_, ?_⟩, ⟨?_, ?_⟩, fun k hk => rfl, fun E hE h => h, fun b j h1 h2 h3 => ?_, fun b j h1 h2 => ?_⟩
      · rw [e1, up_col (by decide), up_col (by decide), m5]
      · rw [e1]; decide
      · rw [e1]; decide
      · intro k q0 q1; rw [e1] at q1; omega
      · rw [e2, up_col (by decide), up_eq, d5]
      · rw [e3, up_eq, d6 z]
      · rw [ef _ _ h1, vf _ _ (by omega) (by omega) (by omega)]
      · rw [upn (by omega), upn (by omega), mf _ _ h1 (by omega)]
  · rw [B_f g, if_pos (c := (0 : Int) = 0) rfl]
    have fr : ∀ b j, ¬ MSc b j → upV W 101 0 0 b j = W b j := fun b j h => FM0 b j h
    refine ⟨-3, V, upV W 101 0 0, S, ?_, rfl, C, O, T, P, ⟨by rw [up_col (by decide)]; exact t1, t2, t3, fun k k0 k1 => by rw [up_row (by decide)]; exact t4 k k0 k1⟩, by rw [up_col (by decide), up_col (by decide)]; exact hF, fun _ _ => rfl, fun _ _ h => h, fun _ _ _ _ _ => rfl, fun b j h _ => fr b j h⟩
    by_cases u : a < 0
    · rw [if_pos u]
    · rw [if_neg u, bgt (by rw [k_0 H]), if_pos (by omega)]
end KG9
