/-! THE MACHINE DOES AS THE FUNCTIONS SAY, part 1 -/
set_option maxRecDepth 100000 in
set_option maxHeartbeats 4000000 in
theorem L_Ct_init {E : EX} {l : Launch} {a0 res : Int} {μ μ' : Mem}  (h : Ct_init a0 μ = some (res, μ')) : Ok E l 1 yX0_init (.code yX0_init cX0_init 1 none) 5 2621 [(2, a0)] μ none μ' := by
  refine Ok.of (own := "TollsBack$Counter") [(0, 2, a0)] (by decide +kernel) rfl (Nat.le_of_ble_eq_true rfl) rfl ?_
  intro X hL hRm hin hX hM
  unfold Ct_init at h
  subst hL
  refine r_aloadn (pc := 0) (cs := (0, 0)) hX 0 rfl (dk D_X0_init 0 rfl) ?_
  obtain ⟨_, hi, h⟩ := bd_some h
  refine r_objI (pc := 1) (cs := (0, 0)) hX (isk_nn hi (by decide)) ml_0_3 (Rm_of hRm (by decide) ⟨by (try dsimp only); omega, by (try dsimp only); omega⟩) (Nat.le_of_ble_eq_true rfl) (dk D_X0_init 1 rfl) ?_
  refine r_aloadn (pc := 4) (cs := (0, 0)) hX 0 rfl (dk D_X0_init 2 rfl) ?_
  refine r_sipush (pc := 5) (cs := (0, 0)) hX rfl (dk D_X0_init 3 rfl) ?_
  refine r_newJ (N := 1260) (pc := 8) (cs := (0, 0)) hX ac_long (by decide) (by rw [hRm]; exact ⟨by (show _ ≤ (rmOf _ _ _).cells); (simp only [rmOf]); omega, by (show _ ≤ (rmOf _ _ _).slots); (simp only [rmOf]); omega⟩) (dk D_X0_init 4 rfl) ?_
  obtain ⟨μ1, hμ1, h⟩ := bd_some h
  refine r_putF (pc := 10) (cs := (1, 1260)) hX fl_0_11 (hin rfl) ⟨_, _, _, rfl, rfl⟩ rfl rfl trivial hμ1 (dk D_X0_init 5 rfl) ?_
  refine r_aloadn (pc := 13) (cs := (1, 1260)) hX 0 rfl (dk D_X0_init 6 rfl) ?_
  refine r_sipush (pc := 14) (cs := (1, 1260)) hX rfl (dk D_X0_init 7 rfl) ?_
  refine r_newJ (N := 1260) (pc := 17) (cs := (1, 1260)) hX ac_long (by decide) (by rw [hRm]; exact ⟨by (show _ ≤ (rmOf _ _ _).cells); (simp only [rmOf]); omega, by (show _ ≤ (rmOf _ _ _).slots); (simp only [rmOf]); omega⟩) (dk D_X0_init 8 rfl) ?_
  obtain ⟨μ2, hμ2, h⟩ := bd_some h
  refine r_putF (pc := 19) (cs := (2, 2520)) hX fl_0_15 (hin rfl) ⟨_, _, _, rfl, rfl⟩ rfl rfl trivial hμ2 (dk D_X0_init 9 rfl) ?_
  refine r_aloadn (pc := 22) (cs := (2, 2520)) hX 0 rfl (dk D_X0_init 10 rfl) ?_
  refine r_bipush (pc := 23) (cs := (2, 2520)) hX rfl (dk D_X0_init 11 rfl) ?_
  refine r_newJ (N := 21) (pc := 25) (cs := (2, 2520)) hX ac_long (by decide) (by rw [hRm]; exact ⟨by (show _ ≤ (rmOf _ _ _).cells); (simp only [rmOf]); omega, by (show _ ≤ (rmOf _ _ _).slots); (simp only [rmOf]); omega⟩) (dk D_X0_init 12 rfl) ?_
  obtain ⟨μ3, hμ3, h⟩ := bd_some h
  refine r_putF (pc := 27) (cs := (3, 2541)) hX fl_0_18 (hin rfl) ⟨_, _, _, rfl, rfl⟩ rfl rfl trivial hμ3 (dk D_X0_init 13 rfl) ?_
  refine r_aloadn (pc := 30) (cs := (3, 2541)) hX 0 rfl (dk D_X0_init 14 rfl) ?_
  refine r_bipush (pc := 31) (cs := (3, 2541)) hX rfl (dk D_X0_init 15 rfl) ?_
  refine r_newI (N := 40) (pc := 33) (cs := (3, 2541)) hX ac_int (by decide) (by rw [hRm]; exact ⟨by (show _ ≤ (rmOf _ _ _).cells); (simp only [rmOf]); omega, by (show _ ≤ (rmOf _ _ _).slots); (simp only [rmOf]); omega⟩) (dk D_X0_init 16 rfl) ?_
  obtain ⟨μ4, hμ4, h⟩ := bd_some h
  refine r_putF (pc := 35) (cs := (4, 2581)) hX fl_0_21 (hin rfl) ⟨_, _, _, rfl, rfl⟩ rfl rfl trivial hμ4 (dk D_X0_init 17 rfl) ?_
  refine r_aloadn (pc := 38) (cs := (4, 2581)) hX 0 rfl (dk D_X0_init 18 rfl) ?_
  refine r_bipush (pc := 39) (cs := (4, 2581)) hX rfl (dk D_X0_init 19 rfl) ?_
  refine r_newI (N := 40) (pc := 41) (cs := (4, 2581)) hX ac_int (by decide) (by rw [hRm]; exact ⟨by (show _ ≤ (rmOf _ _ _).cells); (simp only [rmOf]); omega, by (show _ ≤ (rmOf _ _ _).slots); (simp only [rmOf]); omega⟩) (dk D_X0_init 20 rfl) ?_
  obtain ⟨μ5, hμ5, h⟩ := bd_some h
  refine r_putF (pc := 43) (cs := (5, 2621)) hX fl_0_25 (hin rfl) ⟨_, _, _, rfl, rfl⟩ rfl rfl trivial hμ5 (dk D_X0_init 21 rfl) ?_
  cases h
  exact r_return (pc := 46) hX hM ⟨by (try dsimp only); omega, by (try dsimp only); omega⟩ (dk D_X0_init 22 rfl)
set_option maxRecDepth 100000 in
set_option maxHeartbeats 4000000 in
theorem L_J_minJ {E : EX} {l : Launch} {a0 a1 res : Int} {μ μ' : Mem} (q_a0 : R64 a0) (q_a1 : R64 a1) (h : J_minJ a0 a1 μ = some (res, μ')) : Ok E l 1 yJ9_min_f86c9 (.code yJ9_min_f86c9 cJ9_min_f86c9 4 (some .long)) 0 0 [(1, a0), (1, a1)] μ (some (1, res)) μ' := by
  refine Ok.of (own := "java/lang/Math") [(0, 1, a0), (2, 1, a1)] (by decide +kernel) rfl (Nat.le_of_ble_eq_true rfl) rfl ?_
  intro X hL hRm hin hX hM
  unfold J_minJ at h
  subst hL
  refine r_lloadn (pc := 0) hX 0 rfl (dk D_J9_min_f86c9 0 rfl) ?_
  refine r_lloadn (pc := 1) hX 1 rfl (dk D_J9_min_f86c9 1 rfl) ?_
  refine r_lcmp (pc := 2) hX q_a0 q_a1 (dk D_J9_min_f86c9 2 rfl) ?_
  refine r_if_gt (pc := 3) hX (R32_cmp _ _) 10 rfl (dk D_J9_min_f86c9 3 rfl) (fun hc => ?_) (fun hc => ?_)
  · rw [if_pos hc] at h
    refine r_lloadn (pc := 10) hX 1 rfl (dk D_J9_min_f86c9 6 rfl) ?_
    cases h
    exact r_lreturn (pc := 11) hX q_a1 hM ⟨by decide, by decide⟩ (dk D_J9_min_f86c9 7 rfl)
  · rw [if_neg hc] at h
    refine r_lloadn (pc := 6) hX 0 rfl (dk D_J9_min_f86c9 4 rfl) ?_
    refine r_goto (pc := 7) hX 11 rfl (dk D_J9_min_f86c9 5 rfl) ?_
    cases h
    exact r_lreturn (pc := 11) hX q_a0 hM ⟨by decide, by decide⟩ (dk D_J9_min_f86c9 7 rfl)
set_option maxRecDepth 100000 in
set_option maxHeartbeats 4000000 in
theorem L_Ct_plus {E : EX} {l : Launch} {a0 a1 a2 a3 res : Int} {μ μ' : Mem} (q_a1 : R64 a1) (q_a2 : R64 a2) (q_a3 : R64 a3) (h : Ct_plus a0 a1 a2 a3 μ = some (res, μ')) : Ok E l 2 yX0_plus (.code yX0_plus cX0_plus 7 (some .long)) 0 0 [(2, a0), (1, a1), (1, a2), (1, a3)] μ (some (1, res)) μ' := by
  refine Ok.of (own := "TollsBack$Counter") [(0, 2, a0), (1, 1, a1), (3, 1, a2), (5, 1, a3)] (by decide +kernel) rfl (Nat.le_of_ble_eq_true rfl) rfl ?_
  intro X hL hRm hin hX hM
  unfold Ct_plus at h
  subst hL
  refine r_aloadn (pc := 0) hX 0 rfl (dk D_X0_plus 0 rfl) ?_
  obtain ⟨x1, hx1, h⟩ := bd_some h
  refine r_getI (pc := 1) hX fl_0_28 rfl rfl hx1 (dk D_X0_plus 1 rfl) (fun qx1 => ?_)
  refine r_if_eq (pc := 4) hX qx1 28 rfl (dk D_X0_plus 2 rfl) (fun hc => ?_) (fun hc => ?_)
  · rw [if_pos hc] at h
    refine r_lloadn (pc := 28) hX 1 rfl (dk D_X0_plus 13 rfl) ?_
    refine r_lloadn (pc := 29) hX 2 rfl (dk D_X0_plus 14 rfl) ?_
    refine r_lload (pc := 30) hX 3 rfl (dk D_X0_plus 15 rfl) ?_
    refine r_lmul (pc := 32) hX (dk D_X0_plus 16 rfl) ?_
    refine r_ladd (pc := 33) hX (dk D_X0_plus 17 rfl) ?_
    refine r_ldc2 (pc := 34) hX cn_0_115 (dk D_X0_plus 18 rfl) ?_
    obtain ⟨x2, hx2, h⟩ := bd_some h
    refine r_lrem (pc := 37) hX (R64_lit rfl) hx2 (dk D_X0_plus 19 rfl) (fun qx2 => ?_)
    cases h
    exact r_lreturn (pc := 38) hX qx2 hM ⟨by decide, by decide⟩ (dk D_X0_plus 20 rfl)
  · rw [if_neg hc] at h
    refine r_ldc2 (pc := 7) hX cn_0_107 (dk D_X0_plus 3 rfl) ?_
    refine r_lloadn (pc := 10) hX 1 rfl (dk D_X0_plus 4 rfl) ?_
    refine r_ldc2 (pc := 11) hX cn_0_107 (dk D_X0_plus 5 rfl) ?_
    refine r_lloadn (pc := 14) hX 2 rfl (dk D_X0_plus 6 rfl) ?_
    refine r_lload (pc := 15) hX 3 rfl (dk D_X0_plus 7 rfl) ?_
    refine r_lmul (pc := 17) hX (dk D_X0_plus 8 rfl) ?_
    obtain ⟨x3, μ4, hx3, h⟩ := bd2_some h
    refine r_invS0 (As := [(1, 2147483648), (1, (w64 (a2 * a3)))]) (pc := 18) hX ml_0_109 (L_J_minJ (R64_lit rfl) (R64_w _) hx3) (Rm_of hRm (by decide) ⟨by decide, by decide⟩) (by decide) rfl (Nat.le_of_ble_eq_true rfl) rfl (dk D_X0_plus 9 rfl) (fun qx3 => ?_)
    refine r_ladd (pc := 21) hX (dk D_X0_plus 10 rfl) ?_
    obtain ⟨x5, μ6, hx5, h⟩ := bd2_some h
    refine r_invS0 (As := [(1, 2147483648), (1, (w64 (a1 + x3)))]) (pc := 22) hX ml_0_109 (L_J_minJ (R64_lit rfl) (R64_w _) hx5) (Rm_of hRm (by decide) ⟨by decide, by decide⟩) (by decide) rfl (Nat.le_of_ble_eq_true rfl) rfl (dk D_X0_plus 11 rfl) (fun qx5 => ?_)
    refine r_goto (pc := 25) hX 38 rfl (dk D_X0_plus 12 rfl) ?_
    cases h
    exact r_lreturn (pc := 38) hX qx5 hM ⟨by decide, by decide⟩ (dk D_X0_plus 20 rfl)
set_option maxRecDepth 100000 in
set_option maxHeartbeats 4000000 in
theorem L_Ct_multiply_L12 {E : EX} {X : CX} {res : Int} {μe : Mem} (hX : Good E X cX0_multiply 7 "TollsBack$Counter") (hM : GoodM E X none none μe 0 0) (hRm : cR X = rmOf 3 0 0) {k53 : Int → Int → Int → Int → Mem → Option (Int × Mem)} (hk53 : ∀ (u0 u1 u2 u3 : Int) (μ : Mem), R32 u1 → R32 u2 → R64 u3 → k53 u0 u1 u2 u3 μ = some (res, μe) → At E X cX0_multiply 7 "TollsBack$Counter" (0, 0) 53 [(0, 2, u0), (1, 0, u1), (3, 0, u2), (4, 1, u3)] [] μ) : ∀ (n : Nat) (v0 v1 v3 v4 v6 : Int) (μ : Mem) (q_v1 : R32 v1) (q_v3 : R32 v3) (q_v4 : R64 v4) (q_v6 : R32 v6) (h : Ct_multiply_L12 k53 n v0 v1 v3 v4 v6 μ = some (res, μe)), At E X cX0_multiply 7 "TollsBack$Counter" (0, 0) 12 [(0, 2, v0), (1, 0, v1), (3, 0, v3), (4, 1, v4), (6, 0, v6)] [] μ := by
  intro n
  induction n with
  | zero =>
    intro v0 v1 v3 v4 v6 μ q_v1 q_v3 q_v4 q_v6 h
    have h : (none : Option (Int × Mem)) = some (res, μe) := h
    cases h
  | succ n ih =>
    intro v0 v1 v3 v4 v6 μ q_v1 q_v3 q_v4 q_v6 h
    rw [Ct_multiply_L12.eq_2] at h
    refine r_iload (pc := 12) hX 4 rfl (dk D_X0_multiply 8 rfl) ?_
    refine r_iloadn (pc := 14) hX 2 rfl (dk D_X0_multiply 9 rfl) ?_
    refine r_icmp_gt (pc := 15) hX q_v6 q_v3 53 rfl (dk D_X0_multiply 10 rfl) (fun hc => ?_) (fun hc => ?_)
    · rw [if_pos hc] at h
      refine r_sub (lv' := [(0, 2, v0), (1, 0, v1), (3, 0, v3), (4, 1, v4)]) [0, 1, 2, 3] rfl ?_
      exact hk53 v0 v1 v3 v4 μ q_v1 q_v3 q_v4 h
    · rw [if_neg hc] at h
      refine r_aloadn (pc := 18) hX 0 rfl (dk D_X0_multiply 11 rfl) ?_
      refine r_lload (pc := 19) hX 3 rfl (dk D_X0_multiply 12 rfl) ?_
      refine r_aloadn (pc := 21) hX 0 rfl (dk D_X0_multiply 13 rfl) ?_
      obtain ⟨x1, hx1, h⟩ := bd_some h
      refine r_getR (pc := 22) hX fl_0_18 rfl hx1 (dk D_X0_multiply 14 rfl) ?_
      refine r_iload (pc := 25) hX 4 rfl (dk D_X0_multiply 15 rfl) ?_
      obtain ⟨x2, hx2, h⟩ := bd_some h
      refine r_lald (pc := 27) hX q_v6 hx2 (dk D_X0_multiply 16 rfl) (fun qx2 => ?_)
      refine r_aloadn (pc := 28) hX 0 rfl (dk D_X0_multiply 17 rfl) ?_
      obtain ⟨x3, hx3, h⟩ := bd_some h
      refine r_getR (pc := 29) hX fl_0_11 rfl hx3 (dk D_X0_multiply 18 rfl) ?_
      refine r_iloadn (pc := 32) hX 1 rfl (dk D_X0_multiply 19 rfl) ?_
      refine r_bipush (pc := 33) hX rfl (dk D_X0_multiply 20 rfl) ?_
      refine r_imul (pc := 35) hX (dk D_X0_multiply 21 rfl) ?_
      refine r_iloadn (pc := 36) hX 2 rfl (dk D_X0_multiply 22 rfl) ?_
      refine r_iadd (pc := 37) hX (dk D_X0_multiply 23 rfl) ?_
      refine r_iload (pc := 38) hX 4 rfl (dk D_X0_multiply 24 rfl) ?_
      refine r_isub (pc := 40) hX (dk D_X0_multiply 25 rfl) ?_
      obtain ⟨x4, hx4, h⟩ := bd_some h
      refine r_lald (pc := 41) hX (R32_w _) hx4 (dk D_X0_multiply 26 rfl) (fun qx4 => ?_)
      obtain ⟨_, hi, h⟩ := bd_some h
      obtain ⟨x5, μ6, hx5, h⟩ := bd2_some h
      refine r_invV0 (As := [(1, v4), (1, x2), (1, x4)]) (pc := 42) hX ml_0_103 (L_Ct_plus q_v4 qx2 qx4 hx5) (isk_u hi) (Rm_of hRm (by decide) ⟨by decide, by decide⟩) (by decide) rfl (Nat.le_of_ble_eq_true rfl) rfl (dk D_X0_multiply 27 rfl) (fun qx5 => ?_)
      refine r_lstore (lv' := [(4, 1, x5), (0, 2, v0), (1, 0, v1), (3, 0, v3), (6, 0, v6)]) (pc := 45) hX (by decide) rfl (dk D_X0_multiply 28 rfl) ?_
      refine r_iinc (lv' := [(6, 0, (w32 (v6 + 1))), (4, 1, x5), (0, 2, v0), (1, 0, v1), (3, 0, v3)]) (pc := 47) hX 4 rfl (by decide) rfl (dk D_X0_multiply 29 rfl) ?_
      refine r_goto (pc := 50) hX 12 rfl (dk D_X0_multiply 30 rfl) ?_
      refine r_sub (lv' := [(0, 2, v0), (1, 0, v1), (3, 0, v3), (4, 1, x5), (6, 0, (w32 (v6 + 1)))]) [2, 3, 4, 1, 0] rfl ?_
      exact ih v0 v1 v3 x5 (w32 (v6 + 1)) μ6 q_v1 q_v3 qx5 (R32_w _) h
set_option maxRecDepth 100000 in
set_option maxHeartbeats 4000000 in
theorem L_Ct_multiply_L2 {E : EX} {X : CX} {res : Int} {μe : Mem} (hX : Good E X cX0_multiply 7 "TollsBack$Counter") (hM : GoodM E X none none μe 0 0) (hRm : cR X = rmOf 3 0 0) : ∀ (n : Nat) (v0 v1 v3 : Int) (μ : Mem) (q_v1 : R32 v1) (q_v3 : R32 v3) (h : Ct_multiply_L2 n v0 v1 v3 μ = some (res, μe)), At E X cX0_multiply 7 "TollsBack$Counter" (0, 0) 2 [(0, 2, v0), (1, 0, v1), (3, 0, v3)] [] μ := by
  intro n
  induction n with
  | zero =>
    intro v0 v1 v3 μ q_v1 q_v3 h
    have h : (none : Option (Int × Mem)) = some (res, μe) := h
    cases h
  | succ n ih =>
    intro v0 v1 v3 μ q_v1 q_v3 h
    rw [Ct_multiply_L2.eq_2] at h
    refine r_iloadn (pc := 2) hX 2 rfl (dk D_X0_multiply 2 rfl) ?_
    refine r_if_lt (pc := 3) hX q_v3 67 rfl (dk D_X0_multiply 3 rfl) (fun hc => ?_) (fun hc => ?_)
    · rw [if_pos hc] at h
      cases h
      exact r_return (pc := 67) hX hM ⟨by decide, by decide⟩ (dk D_X0_multiply 38 rfl)
    · rw [if_neg hc] at h
      refine r_lconst (x := 0) (pc := 6) hX (by decide) (dk D_X0_multiply 4 rfl) ?_
      refine r_lstore (lv' := [(4, 1, 0), (0, 2, v0), (1, 0, v1), (3, 0, v3)]) (pc := 7) hX (by decide) rfl (dk D_X0_multiply 5 rfl) ?_
      refine r_iconst (pc := 9) hX (dk D_X0_multiply 6 rfl) ?_
      refine r_istore (lv' := [(6, 0, 0), (4, 1, 0), (0, 2, v0), (1, 0, v1), (3, 0, v3)]) (pc := 10) hX (by decide) rfl (dk D_X0_multiply 7 rfl) ?_
      refine r_sub (lv' := [(0, 2, v0), (1, 0, v1), (3, 0, v3), (4, 1, 0), (6, 0, 0)]) [2, 3, 4, 1, 0] rfl ?_
      refine L_Ct_multiply_L12 hX hM hRm ?_ FU v0 v1 v3 0 0 μ q_v1 q_v3 (R64_lit rfl) (R32_lit rfl) h
      intro x1 x2 x3 x4 μ5 qx2 qx3 qx4 h
      refine r_aloadn (pc := 53) hX 0 rfl (dk D_X0_multiply 31 rfl) ?_
      obtain ⟨x6, hx6, h⟩ := bd_some h
      refine r_getR (pc := 54) hX fl_0_18 rfl hx6 (dk D_X0_multiply 32 rfl) ?_
      refine r_iloadn (pc := 57) hX 2 rfl (dk D_X0_multiply 33 rfl) ?_
      refine r_lload (pc := 58) hX 3 rfl (dk D_X0_multiply 34 rfl) ?_
      obtain ⟨μ7, hμ7, h⟩ := bd_some h
      refine r_last (pc := 60) hX qx3 qx4 hμ7 (dk D_X0_multiply 35 rfl) ?_
      refine r_iinc (lv' := [(3, 0, (w32 (x3 + (-1)))), (0, 2, x1), (1, 0, x2), (4, 1, x4)]) (pc := 61) hX 2 rfl (by decide) rfl (dk D_X0_multiply 36 rfl) ?_
      refine r_goto (pc := 64) hX 2 rfl (dk D_X0_multiply 37 rfl) ?_
      refine r_sub (lv' := [(0, 2, x1), (1, 0, x2), (3, 0, (w32 (x3 + (-1))))]) [1, 2, 0] rfl ?_
      exact ih x1 x2 (w32 (x3 + (-1))) μ7 qx2 (R32_w _) h
set_option maxRecDepth 100000 in
set_option maxHeartbeats 4000000 in
theorem L_Ct_multiply {E : EX} {l : Launch} {a0 a1 a2 res : Int} {μ μ' : Mem} (q_a1 : R32 a1) (q_a2 : R32 a2) (h : Ct_multiply a0 a1 a2 μ = some (res, μ')) : Ok E l 3 yX0_multiply (.code yX0_multiply cX0_multiply 7 none) 0 0 [(2, a0), (0, a1), (0, a2)] μ none μ' := by
  refine Ok.of (own := "TollsBack$Counter") [(0, 2, a0), (1, 0, a1), (2, 0, a2)] (by decide +kernel) rfl (Nat.le_of_ble_eq_true rfl) rfl ?_
  intro X hL hRm hin hX hM
  unfold Ct_multiply at h
  subst hL
  refine r_iloadn (pc := 0) hX 2 rfl (dk D_X0_multiply 0 rfl) ?_
  refine r_istoren (lv' := [(3, 0, a2), (0, 2, a0), (1, 0, a1), (2, 0, a2)]) (pc := 1) hX (by decide) rfl (dk D_X0_multiply 1 rfl) ?_
  refine r_sub (lv' := [(0, 2, a0), (1, 0, a1), (3, 0, a2)]) [1, 2, 0] rfl ?_
  refine L_Ct_multiply_L2 hX hM hRm FU a0 a1 a2 μ q_a1 q_a2 h
set_option maxRecDepth 100000 in
set_option maxHeartbeats 4000000 in
theorem L_Wo_isOpen {E : EX} {l : Launch} {a0 a1 res : Int} {μ μ' : Mem} (q_a1 : R32 a1) (h : Wo_isOpen a0 a1 μ = some (res, μ')) : Ok E l 1 yX10_isOpen (.code yX10_isOpen cX10_isOpen 2 (some .boolean)) 0 0 [(2, a0), (0, a1)] μ (some (0, res)) μ' := by
  refine Ok.of (own := "TollsBack$World") [(0, 2, a0), (1, 0, a1)] (by decide +kernel) rfl (Nat.le_of_ble_eq_true rfl) rfl ?_
  intro X hL hRm hin hX hM
  unfold Wo_isOpen at h
  subst hL
  refine r_aloadn (pc := 0) hX 0 rfl (dk D_X10_isOpen 0 rfl) ?_
  obtain ⟨x1, hx1, h⟩ := bd_some h
  refine r_getI (pc := 1) hX fl_10_37 rfl rfl hx1 (dk D_X10_isOpen 1 rfl) (fun qx1 => ?_)
  refine r_iloadn (pc := 4) hX 1 rfl (dk D_X10_isOpen 2 rfl) ?_
  refine r_ishr (pc := 5) hX (dk D_X10_isOpen 3 rfl) ?_
  refine r_iconst (pc := 6) hX (dk D_X10_isOpen 4 rfl) ?_
  refine r_iand (pc := 7) hX (dk D_X10_isOpen 5 rfl) ?_
  refine r_if_ne (pc := 8) hX (R32_t _) 15 rfl (dk D_X10_isOpen 6 rfl) (fun hc => ?_) (fun hc => ?_)
  · rw [if_neg hc] at h
    refine r_iconst (pc := 15) hX (dk D_X10_isOpen 9 rfl) ?_
    cases h
    exact r_zreturn (pc := 16) hX (R32_lit rfl) hM (Or.inl rfl) ⟨by decide, by decide⟩ (dk D_X10_isOpen 10 rfl)
  · rw [if_pos hc] at h
    refine r_iconst (pc := 11) hX (dk D_X10_isOpen 7 rfl) ?_
    refine r_goto (pc := 12) hX 16 rfl (dk D_X10_isOpen 8 rfl) ?_
    cases h
    exact r_zreturn (pc := 16) hX (R32_lit rfl) hM (Or.inr rfl) ⟨by decide, by decide⟩ (dk D_X10_isOpen 10 rfl)
set_option maxRecDepth 100000 in
set_option maxHeartbeats 4000000 in
theorem L_Ct_countFrom_L3 {E : EX} {X : CX} {res : Int} {μe : Mem} (hX : Good E X cX0_countFrom 8 "TollsBack$Counter") (hM : GoodM E X (some .long) (some (1, res)) μe 0 0) (hRm : cR X = rmOf 4 0 0) {k44 : Int → Int → Int → Int → Int → Mem → Option (Int × Mem)} (hk44 : ∀ (u0 u1 u2 u3 u4 : Int) (μ : Mem), R32 u2 → R32 u3 → R32 u4 → k44 u0 u1 u2 u3 u4 μ = some (res, μe) → At E X cX0_countFrom 8 "TollsBack$Counter" (0, 0) 44 [(0, 2, u0), (1, 2, u1), (2, 0, u2), (3, 0, u3), (4, 0, u4)] [] μ) : ∀ (n : Nat) (v0 v1 v2 v3 v4 : Int) (μ : Mem) (q_v2 : R32 v2) (q_v3 : R32 v3) (q_v4 : R32 v4) (h : Ct_countFrom_L3 k44 n v0 v1 v2 v3 v4 μ = some (res, μe)), At E X cX0_countFrom 8 "TollsBack$Counter" (0, 0) 3 [(0, 2, v0), (1, 2, v1), (2, 0, v2), (3, 0, v3), (4, 0, v4)] [] μ := by
  intro n
  induction n with
  | zero =>
    intro v0 v1 v2 v3 v4 μ q_v2 q_v3 q_v4 h
    have h : (none : Option (Int × Mem)) = some (res, μe) := h
    cases h
  | succ n ih =>
    intro v0 v1 v2 v3 v4 μ q_v2 q_v3 q_v4 h
    rw [Ct_countFrom_L3.eq_2] at h
    refine r_iload (pc := 3) hX 4 rfl (dk D_X0_countFrom 2 rfl) ?_
    refine r_aloadn (pc := 5) hX 0 rfl (dk D_X0_countFrom 3 rfl) ?_
    obtain ⟨x1, hx1, h⟩ := bd_some h
    refine r_getI (pc := 6) hX fl_0_78 rfl rfl hx1 (dk D_X0_countFrom 4 rfl) (fun qx1 => ?_)
    refine r_icmp_ge (pc := 9) hX q_v4 qx1 44 rfl (dk D_X0_countFrom 5 rfl) (fun hc => ?_) (fun hc => ?_)
    · rw [if_neg hc] at h
      exact hk44 v0 v1 v2 v3 v4 μ q_v2 q_v3 q_v4 h
    · rw [if_pos hc] at h
      refine r_iload (pc := 12) hX 4 rfl (dk D_X0_countFrom 6 rfl) ?_
      refine r_aloadn (pc := 14) hX 0 rfl (dk D_X0_countFrom 7 rfl) ?_
      obtain ⟨x2, hx2, h⟩ := bd_some h
      refine r_getI (pc := 15) hX fl_0_86 rfl rfl hx2 (dk D_X0_countFrom 8 rfl) (fun qx2 => ?_)
      refine r_icmp_ge (pc := 18) hX q_v4 qx2 44 rfl (dk D_X0_countFrom 9 rfl) (fun hc => ?_) (fun hc => ?_)
      · rw [if_neg hc] at h
        exact hk44 v0 v1 v2 v3 v4 μ q_v2 q_v3 q_v4 h
      · rw [if_pos hc] at h
        refine r_aloadn (pc := 21) hX 0 rfl (dk D_X0_countFrom 10 rfl) ?_
        obtain ⟨x3, hx3, h⟩ := bd_some h
        refine r_getR (pc := 22) hX fl_0_25 rfl hx3 (dk D_X0_countFrom 11 rfl) ?_
        refine r_iload (pc := 25) hX 4 rfl (dk D_X0_countFrom 12 rfl) ?_
        obtain ⟨x4, hx4, h⟩ := bd_some h
        refine r_iald (pc := 27) hX q_v4 hx4 (dk D_X0_countFrom 13 rfl) (fun qx4 => ?_)
        refine r_aloadn (pc := 28) hX 0 rfl (dk D_X0_countFrom 14 rfl) ?_
        obtain ⟨x5, hx5, h⟩ := bd_some h
        refine r_getR (pc := 29) hX fl_0_21 rfl hx5 (dk D_X0_countFrom 15 rfl) ?_
        refine r_iload (pc := 32) hX 4 rfl (dk D_X0_countFrom 16 rfl) ?_
        obtain ⟨x6, hx6, h⟩ := bd_some h
        refine r_iald (pc := 34) hX q_v4 hx6 (dk D_X0_countFrom 17 rfl) (fun qx6 => ?_)
        refine r_icmp_ne (pc := 35) hX qx4 qx6 44 rfl (dk D_X0_countFrom 18 rfl) (fun hc => ?_) (fun hc => ?_)
        · rw [if_neg hc] at h
          exact hk44 v0 v1 v2 v3 v4 μ q_v2 q_v3 q_v4 h
        · rw [if_pos hc] at h
          refine r_iinc (lv' := [(4, 0, (w32 (v4 + 1))), (0, 2, v0), (1, 2, v1), (2, 0, v2), (3, 0, v3)]) (pc := 38) hX 4 rfl (by decide) rfl (dk D_X0_countFrom 19 rfl) ?_
          refine r_goto (pc := 41) hX 3 rfl (dk D_X0_countFrom 20 rfl) ?_
          refine r_sub (lv' := [(0, 2, v0), (1, 2, v1), (2, 0, v2), (3, 0, v3), (4, 0, (w32 (v4 + 1)))]) [1, 2, 3, 4, 0] rfl ?_
          exact ih v0 v1 v2 v3 (w32 (v4 + 1)) μ q_v2 q_v3 (R32_w _) h
set_option maxRecDepth 100000 in
set_option maxHeartbeats 4000000 in
theorem L_Ct_countFrom_L114 {E : EX} {X : CX} {res : Int} {μe : Mem} (hX : Good E X cX0_countFrom 8 "TollsBack$Counter") (hM : GoodM E X (some .long) (some (1, res)) μe 0 0) (hRm : cR X = rmOf 4 0 0) {k142 : Int → Int → Int → Int → Mem → Option (Int × Mem)} (hk142 : ∀ (u0 u1 u2 u3 : Int) (μ : Mem), R32 u2 → R32 u3 → k142 u0 u1 u2 u3 μ = some (res, μe) → At E X cX0_countFrom 8 "TollsBack$Counter" (0, 0) 142 [(0, 2, u0), (1, 2, u1), (4, 0, u2), (6, 0, u3)] [] μ) : ∀ (n : Nat) (v0 v1 v4 v6 v7 : Int) (μ : Mem) (q_v4 : R32 v4) (q_v6 : R32 v6) (q_v7 : R32 v7) (h : Ct_countFrom_L114 k142 n v0 v1 v4 v6 v7 μ = some (res, μe)), At E X cX0_countFrom 8 "TollsBack$Counter" (0, 0) 114 [(0, 2, v0), (1, 2, v1), (4, 0, v4), (6, 0, v6), (7, 0, v7)] [] μ := by
  intro n
  induction n with
  | zero =>
    intro v0 v1 v4 v6 v7 μ q_v4 q_v6 q_v7 h
    have h : (none : Option (Int × Mem)) = some (res, μe) := h
    cases h
  | succ n ih =>
    intro v0 v1 v4 v6 v7 μ q_v4 q_v6 q_v7 h
    rw [Ct_countFrom_L114.eq_2] at h
    refine r_iload (pc := 114) hX 4 rfl (dk D_X0_countFrom 64 rfl) ?_
    refine r_iload (pc := 116) hX 2 rfl (dk D_X0_countFrom 65 rfl) ?_
    refine r_icmp_lt (pc := 118) hX q_v7 q_v4 142 rfl (dk D_X0_countFrom 66 rfl) (fun hc => ?_) (fun hc => ?_)
    · rw [if_pos hc] at h
      refine r_sub (lv' := [(0, 2, v0), (1, 2, v1), (4, 0, v4), (6, 0, v6)]) [0, 1, 2, 3] rfl ?_
      exact hk142 v0 v1 v4 v6 μ q_v4 q_v6 h
    · rw [if_neg hc] at h
      refine r_aloadn (pc := 121) hX 0 rfl (dk D_X0_countFrom 67 rfl) ?_
      refine r_aloadn (pc := 122) hX 0 rfl (dk D_X0_countFrom 68 rfl) ?_
      obtain ⟨x1, hx1, h⟩ := bd_some h
      refine r_getR (pc := 123) hX fl_0_25 rfl hx1 (dk D_X0_countFrom 69 rfl) ?_
      refine r_iload (pc := 126) hX 4 rfl (dk D_X0_countFrom 70 rfl) ?_
      obtain ⟨x2, hx2, h⟩ := bd_some h
      refine r_iald (pc := 128) hX q_v7 hx2 (dk D_X0_countFrom 71 rfl) (fun qx2 => ?_)
      refine r_iconst (pc := 129) hX (dk D_X0_countFrom 72 rfl) ?_
      refine r_ixor (pc := 130) hX (dk D_X0_countFrom 73 rfl) ?_
      refine r_iload (pc := 131) hX 3 rfl (dk D_X0_countFrom 74 rfl) ?_
      obtain ⟨_, hi, h⟩ := bd_some h
      obtain ⟨x3, μ4, hx3, h⟩ := bd2_some h
      refine r_invV0 (As := [(0, (xor32 x2 1)), (0, v6)]) (pc := 133) hX ml_0_123 (L_Ct_multiply (R32_t _) q_v6 hx3) (isk_u hi) (Rm_of hRm (by decide) ⟨by decide, by decide⟩) (by decide) rfl (Nat.le_of_ble_eq_true rfl) rfl (dk D_X0_countFrom 75 rfl) (fun _ => ?_)
      refine r_iinc (lv' := [(7, 0, (w32 (v7 + (-1)))), (0, 2, v0), (1, 2, v1), (4, 0, v4), (6, 0, v6)]) (pc := 136) hX 4 rfl (by decide) rfl (dk D_X0_countFrom 76 rfl) ?_
      refine r_goto (pc := 139) hX 114 rfl (dk D_X0_countFrom 77 rfl) ?_
      refine r_sub (lv' := [(0, 2, v0), (1, 2, v1), (4, 0, v4), (6, 0, v6), (7, 0, (w32 (v7 + (-1))))]) [1, 2, 3, 4, 0] rfl ?_
      exact ih v0 v1 v4 v6 (w32 (v7 + (-1))) μ4 q_v4 q_v6 (R32_w _) h
set_option maxRecDepth 100000 in
set_option maxHeartbeats 4000000 in
theorem L_Ct_countFrom_L146 {E : EX} {X : CX} {res : Int} {μe : Mem} (hX : Good E X cX0_countFrom 8 "TollsBack$Counter") (hM : GoodM E X (some .long) (some (1, res)) μe 0 0) (hRm : cR X = rmOf 4 0 0) : ∀ (n : Nat) (v0 v1 v6 v7 : Int) (μ : Mem) (q_v6 : R32 v6) (q_v7 : R32 v7) (h : Ct_countFrom_L146 n v0 v1 v6 v7 μ = some (res, μe)), At E X cX0_countFrom 8 "TollsBack$Counter" (0, 0) 146 [(0, 2, v0), (1, 2, v1), (6, 0, v6), (7, 0, v7)] [] μ := by
  intro n
  induction n with
  | zero =>
    intro v0 v1 v6 v7 μ q_v6 q_v7 h
    have h : (none : Option (Int × Mem)) = some (res, μe) := h
    cases h
  | succ n ih =>
    intro v0 v1 v6 v7 μ q_v6 q_v7 h
    rw [Ct_countFrom_L146.eq_2] at h
    refine r_iload (pc := 146) hX 3 rfl (dk D_X0_countFrom 80 rfl) ?_
    refine r_aloadn (pc := 148) hX 0 rfl (dk D_X0_countFrom 81 rfl) ?_
    obtain ⟨x1, hx1, h⟩ := bd_some h
    refine r_getI (pc := 149) hX fl_0_86 rfl rfl hx1 (dk D_X0_countFrom 82 rfl) (fun qx1 => ?_)
    refine r_icmp_ge (pc := 152) hX q_v7 qx1 192 rfl (dk D_X0_countFrom 83 rfl) (fun hc => ?_) (fun hc => ?_)
    · rw [if_neg hc] at h
      refine r_aloadn (pc := 192) hX 0 rfl (dk D_X0_countFrom 104 rfl) ?_
      obtain ⟨x2, hx2, h⟩ := bd_some h
      refine r_getR (pc := 193) hX fl_0_18 rfl hx2 (dk D_X0_countFrom 105 rfl) ?_
      refine r_iload (pc := 196) hX 2 rfl (dk D_X0_countFrom 106 rfl) ?_
      obtain ⟨x3, hx3, h⟩ := bd_some h
      refine r_lald (pc := 198) hX q_v6 hx3 (dk D_X0_countFrom 107 rfl) (fun qx3 => ?_)
      cases h
      exact r_lreturn (pc := 199) hX qx3 hM ⟨by decide, by decide⟩ (dk D_X0_countFrom 108 rfl)
    · rw [if_pos hc] at h
      refine r_aloadn (pc := 155) hX 1 rfl (dk D_X0_countFrom 84 rfl) ?_
      refine r_aloadn (pc := 156) hX 0 rfl (dk D_X0_countFrom 85 rfl) ?_
      obtain ⟨x4, hx4, h⟩ := bd_some h
      refine r_getR (pc := 157) hX fl_0_21 rfl hx4 (dk D_X0_countFrom 86 rfl) ?_
      refine r_iload (pc := 160) hX 3 rfl (dk D_X0_countFrom 87 rfl) ?_
      obtain ⟨x5, hx5, h⟩ := bd_some h
      refine r_iald (pc := 162) hX q_v7 hx5 (dk D_X0_countFrom 88 rfl) (fun qx5 => ?_)
      refine r_iconst (pc := 163) hX (dk D_X0_countFrom 89 rfl) ?_
      refine r_ishr (pc := 164) hX (dk D_X0_countFrom 90 rfl) ?_
      obtain ⟨_, hi, h⟩ := bd_some h
      obtain ⟨x6, μ7, hx6, h⟩ := bd2_some h
      refine r_invV0 (As := [(0, (shr32 x5 1))]) (pc := 165) hX ml_0_55 (L_Wo_isOpen (R32_t _) hx6) (isk_u hi) (Rm_of hRm (by decide) ⟨by decide, by decide⟩) (by decide) rfl (Nat.le_of_ble_eq_true rfl) rfl (dk D_X0_countFrom 91 rfl) (fun qx6 => ?_)
      refine r_if_ne (pc := 168) hX qx6 173 rfl (dk D_X0_countFrom 92 rfl) (fun hc => ?_) (fun hc => ?_)
      · rw [if_neg hc] at h
        refine r_aloadn (pc := 173) hX 0 rfl (dk D_X0_countFrom 95 rfl) ?_
        refine r_aloadn (pc := 174) hX 0 rfl (dk D_X0_countFrom 96 rfl) ?_
        obtain ⟨x8, hx8, h⟩ := bd_some h
        refine r_getR (pc := 175) hX fl_0_21 rfl hx8 (dk D_X0_countFrom 97 rfl) ?_
        refine r_iload (pc := 178) hX 3 rfl (dk D_X0_countFrom 98 rfl) ?_
        obtain ⟨x9, hx9, h⟩ := bd_some h
        refine r_iald (pc := 180) hX q_v7 hx9 (dk D_X0_countFrom 99 rfl) (fun qx9 => ?_)
        refine r_iload (pc := 181) hX 2 rfl (dk D_X0_countFrom 100 rfl) ?_
        obtain ⟨_, hi, h⟩ := bd_some h
        obtain ⟨x10, μ11, hx10, h⟩ := bd2_some h
        refine r_invV0 (As := [(0, x9), (0, v6)]) (pc := 183) hX ml_0_123 (L_Ct_multiply qx9 q_v6 hx10) (isk_u hi) (Rm_of hRm (by decide) ⟨by decide, by decide⟩) (by decide) rfl (Nat.le_of_ble_eq_true rfl) rfl (dk D_X0_countFrom 101 rfl) (fun _ => ?_)
        refine r_iinc (lv' := [(7, 0, (w32 (v7 + 1))), (0, 2, v0), (1, 2, v1), (6, 0, v6)]) (pc := 186) hX 3 rfl (by decide) rfl (dk D_X0_countFrom 102 rfl) ?_
        refine r_goto (pc := 189) hX 146 rfl (dk D_X0_countFrom 103 rfl) ?_
        refine r_sub (lv' := [(0, 2, v0), (1, 2, v1), (6, 0, v6), (7, 0, (w32 (v7 + 1)))]) [1, 2, 3, 0] rfl ?_
        exact ih v0 v1 v6 (w32 (v7 + 1)) μ11 q_v6 (R32_w _) h
      · rw [if_pos hc] at h
        refine r_lconst (x := 0) (pc := 171) hX (by decide) (dk D_X0_countFrom 93 rfl) ?_
        cases h
        exact r_lreturn (pc := 172) hX (R64_lit rfl) hM ⟨by decide, by decide⟩ (dk D_X0_countFrom 94 rfl)
set_option maxRecDepth 100000 in
set_option maxHeartbeats 4000000 in
theorem L_Ct_countFrom_J44 {E : EX} {X : CX} {res : Int} {μe : Mem} (hX : Good E X cX0_countFrom 8 "TollsBack$Counter") (hM : GoodM E X (some .long) (some (1, res)) μe 0 0) (hRm : cR X = rmOf 4 0 0) {v0 v1 v2 v3 v4 : Int} {μ : Mem} (q_v2 : R32 v2) (q_v3 : R32 v3) (q_v4 : R32 v4) (h : Ct_countFrom_J44 v0 v1 v2 v3 v4 μ = some (res, μe)) : At E X cX0_countFrom 8 "TollsBack$Counter" (0, 0) 44 [(0, 2, v0), (1, 2, v1), (2, 0, v2), (3, 0, v3), (4, 0, v4)] [] μ := by
  unfold Ct_countFrom_J44 at h
  refine r_iloadn (pc := 44) hX 3 rfl (dk D_X0_countFrom 21 rfl) ?_
  refine r_aloadn (pc := 45) hX 0 rfl (dk D_X0_countFrom 22 rfl) ?_
  obtain ⟨x1, hx1, h⟩ := bd_some h
  refine r_getI (pc := 46) hX fl_0_78 rfl rfl hx1 (dk D_X0_countFrom 23 rfl) (fun qx1 => ?_)
  refine r_iload (pc := 49) hX 4 rfl (dk D_X0_countFrom 24 rfl) ?_
  refine r_isub (pc := 51) hX (dk D_X0_countFrom 25 rfl) ?_
  refine r_isub (pc := 52) hX (dk D_X0_countFrom 26 rfl) ?_
  refine r_aloadn (pc := 53) hX 0 rfl (dk D_X0_countFrom 27 rfl) ?_
  obtain ⟨x2, hx2, h⟩ := bd_some h
  refine r_getI (pc := 54) hX fl_0_86 rfl rfl hx2 (dk D_X0_countFrom 28 rfl) (fun qx2 => ?_)
  refine r_iload (pc := 57) hX 4 rfl (dk D_X0_countFrom 29 rfl) ?_
  refine r_isub (pc := 59) hX (dk D_X0_countFrom 30 rfl) ?_
  refine r_isub (pc := 60) hX (dk D_X0_countFrom 31 rfl) ?_
  obtain ⟨x3, ex3, h⟩ := bd_some h
  replace ex3 := Option.some.inj ex3
  have qx3 : R32 x3 := ex3 ▸ (R32_w _)
  rw [ex3]
  refine r_istore (lv' := [(5, 0, x3), (0, 2, v0), (1, 2, v1), (2, 0, v2), (3, 0, v3), (4, 0, v4)]) (pc := 61) hX (by decide) rfl (dk D_X0_countFrom 32 rfl) ?_
  refine r_iload (pc := 63) hX 0 rfl (dk D_X0_countFrom 33 rfl) ?_
  refine r_if_lt (pc := 65) hX qx3 75 rfl (dk D_X0_countFrom 34 rfl) (fun hc => ?_) (fun hc => ?_)
  · rw [if_pos hc] at h
    refine r_lconst (x := 0) (pc := 75) hX (by decide) (dk D_X0_countFrom 39 rfl) ?_
    cases h
    exact r_lreturn (pc := 76) hX (R64_lit rfl) hM ⟨by decide, by decide⟩ (dk D_X0_countFrom 40 rfl)
  · rw [if_neg hc] at h
    refine r_iload (pc := 68) hX 0 rfl (dk D_X0_countFrom 35 rfl) ?_
    refine r_iconst (pc := 70) hX (dk D_X0_countFrom 36 rfl) ?_
    obtain ⟨x4, hx4, h⟩ := bd_some h
    refine r_irem (pc := 71) hX (R32_lit rfl) hx4 (dk D_X0_countFrom 37 rfl) (fun qx4 => ?_)
    refine r_if_eq (pc := 72) hX qx4 77 rfl (dk D_X0_countFrom 38 rfl) (fun hc => ?_) (fun hc => ?_)
    · rw [if_pos hc] at h
      refine r_iload (pc := 77) hX 0 rfl (dk D_X0_countFrom 41 rfl) ?_
      refine r_iconst (pc := 79) hX (dk D_X0_countFrom 42 rfl) ?_
      obtain ⟨x5, hx5, h⟩ := bd_some h
      refine r_idiv (pc := 80) hX (R32_lit rfl) hx5 (dk D_X0_countFrom 43 rfl) (fun qx5 => ?_)
      refine r_istore (lv' := [(6, 0, x5), (5, 0, x3), (0, 2, v0), (1, 2, v1), (2, 0, v2), (3, 0, v3), (4, 0, v4)]) (pc := 81) hX (by decide) rfl (dk D_X0_countFrom 44 rfl) ?_
      refine r_aloadn (pc := 83) hX 2 rfl (dk D_X0_countFrom 45 rfl) ?_
      obtain ⟨x6, hx6, h⟩ := bd_some h
      refine r_getR (pc := 84) hX fl_0_11 rfl hx6 (dk D_X0_countFrom 46 rfl) ?_
      refine r_bipush (pc := 87) hX rfl (dk D_X0_countFrom 47 rfl) ?_
      refine r_iloadn (pc := 89) hX 4 rfl (dk D_X0_countFrom 48 rfl) ?_
      refine r_iadd (pc := 90) hX (dk D_X0_countFrom 49 rfl) ?_
      refine r_bipush (pc := 91) hX rfl (dk D_X0_countFrom 50 rfl) ?_
      refine r_imul (pc := 93) hX (dk D_X0_countFrom 51 rfl) ?_
      refine r_aloadn (pc := 94) hX 2 rfl (dk D_X0_countFrom 52 rfl) ?_
      obtain ⟨x7, hx7, h⟩ := bd_some h
      refine r_getR (pc := 95) hX fl_0_18 rfl hx7 (dk D_X0_countFrom 53 rfl) ?_
      refine r_iconst (pc := 98) hX (dk D_X0_countFrom 54 rfl) ?_
      refine r_iload (pc := 99) hX 0 rfl (dk D_X0_countFrom 55 rfl) ?_
      refine r_iconst (pc := 101) hX (dk D_X0_countFrom 56 rfl) ?_
      refine r_iadd (pc := 102) hX (dk D_X0_countFrom 57 rfl) ?_
      obtain ⟨μ8, hμ8, h⟩ := bd_some h
      refine r_copyl (pc := 103) hX ml_0_117 (R32_w _) (R32_lit rfl) (R32_w _) (by rw [hRm]; exact ⟨by decide, by decide⟩) (Nat.le_of_ble_eq_true rfl) hμ8 (dk D_X0_countFrom 58 rfl) ?_
      refine r_aloadn (pc := 106) hX 2 rfl (dk D_X0_countFrom 59 rfl) ?_
      obtain ⟨x9, hx9, h⟩ := bd_some h
      refine r_getI (pc := 107) hX fl_0_78 rfl rfl hx9 (dk D_X0_countFrom 60 rfl) (fun qx9 => ?_)
      refine r_iconst (pc := 110) hX (dk D_X0_countFrom 61 rfl) ?_
      refine r_isub (pc := 111) hX (dk D_X0_countFrom 62 rfl) ?_
      obtain ⟨x10, ex10, h⟩ := bd_some h
      replace ex10 := Option.some.inj ex10
      have qx10 : R32 x10 := ex10 ▸ (R32_w _)
      rw [ex10]
      refine r_istore (lv' := [(7, 0, x10), (6, 0, x5), (5, 0, x3), (0, 2, v0), (1, 2, v1), (2, 0, v2), (3, 0, v3), (4, 0, v4)]) (pc := 112) hX (by decide) rfl (dk D_X0_countFrom 63 rfl) ?_
      refine r_sub (lv' := [(0, 2, v0), (1, 2, v1), (4, 0, v4), (6, 0, x5), (7, 0, x10)]) [3, 4, 7, 1, 0] rfl ?_
      refine L_Ct_countFrom_L114 hX hM hRm ?_ FU v0 v1 v4 x5 x10 μ8 q_v4 qx5 qx10 h
      intro x11 x12 x13 x14 μ15 qx13 qx14 h
      refine r_iload (pc := 142) hX 2 rfl (dk D_X0_countFrom 78 rfl) ?_
      refine r_istore (lv' := [(7, 0, x13), (0, 2, x11), (1, 2, x12), (4, 0, x13), (6, 0, x14)]) (pc := 144) hX (by decide) rfl (dk D_X0_countFrom 79 rfl) ?_
      refine r_sub (lv' := [(0, 2, x11), (1, 2, x12), (6, 0, x14), (7, 0, x13)]) [1, 2, 4, 0] rfl ?_
      refine L_Ct_countFrom_L146 hX hM hRm FU x11 x12 x14 x13 μ15 qx14 qx13 h
    · rw [if_neg hc] at h
      refine r_lconst (x := 0) (pc := 75) hX (by decide) (dk D_X0_countFrom 39 rfl) ?_
      cases h
      exact r_lreturn (pc := 76) hX (R64_lit rfl) hM ⟨by decide, by decide⟩ (dk D_X0_countFrom 40 rfl)
set_option maxRecDepth 100000 in
set_option maxHeartbeats 4000000 in
theorem L_Ct_countFrom {E : EX} {l : Launch} {a0 a1 a2 a3 res : Int} {μ μ' : Mem} (q_a2 : R32 a2) (q_a3 : R32 a3) (h : Ct_countFrom a0 a1 a2 a3 μ = some (res, μ')) : Ok E l 4 yX0_countFrom (.code yX0_countFrom cX0_countFrom 8 (some .long)) 0 0 [(2, a0), (2, a1), (0, a2), (0, a3)] μ (some (1, res)) μ' := by
  refine Ok.of (own := "TollsBack$Counter") [(0, 2, a0), (1, 2, a1), (2, 0, a2), (3, 0, a3)] (by decide +kernel) rfl (Nat.le_of_ble_eq_true rfl) rfl ?_
  intro X hL hRm hin hX hM
  unfold Ct_countFrom at h
  subst hL
  refine r_iconst (pc := 0) hX (dk D_X0_countFrom 0 rfl) ?_
  refine r_istore (lv' := [(4, 0, 0), (0, 2, a0), (1, 2, a1), (2, 0, a2), (3, 0, a3)]) (pc := 1) hX (by decide) rfl (dk D_X0_countFrom 1 rfl) ?_
  refine r_sub (lv' := [(0, 2, a0), (1, 2, a1), (2, 0, a2), (3, 0, a3), (4, 0, 0)]) [1, 2, 3, 4, 0] rfl ?_
  refine L_Ct_countFrom_L3 hX hM hRm ?_ FU a0 a1 a2 a3 0 μ q_a2 q_a3 (R32_lit rfl) h
  intro x1 x2 x3 x4 x5 μ6 qx3 qx4 qx5 h
  refine L_Ct_countFrom_J44 hX hM hRm qx3 qx4 qx5 h
set_option maxRecDepth 100000 in
set_option maxHeartbeats 4000000 in
theorem L_Ct_countRounds_L13 {E : EX} {X : CX} {res : Int} {μe : Mem} (hX : Good E X cX0_countRounds 6 "TollsBack$Counter") (hM : GoodM E X none none μe 0 0) (hRm : cR X = rmOf 3 0 0) {k59 : Int → Int → Int → Int → Mem → Option (Int × Mem)} (hk59 : ∀ (u0 u1 u2 u3 : Int) (μ : Mem), R32 u1 → R32 u2 → R64 u3 → k59 u0 u1 u2 u3 μ = some (res, μe) → At E X cX0_countRounds 6 "TollsBack$Counter" (0, 0) 59 [(0, 2, u0), (1, 0, u1), (2, 0, u2), (3, 1, u3)] [] μ) : ∀ (n : Nat) (v0 v1 v2 v3 v5 : Int) (μ : Mem) (q_v1 : R32 v1) (q_v2 : R32 v2) (q_v3 : R64 v3) (q_v5 : R32 v5) (h : Ct_countRounds_L13 k59 n v0 v1 v2 v3 v5 μ = some (res, μe)), At E X cX0_countRounds 6 "TollsBack$Counter" (0, 0) 13 [(0, 2, v0), (1, 0, v1), (2, 0, v2), (3, 1, v3), (5, 0, v5)] [] μ := by
  intro n
  induction n with
  | zero =>
    intro v0 v1 v2 v3 v5 μ q_v1 q_v2 q_v3 q_v5 h
    have h : (none : Option (Int × Mem)) = some (res, μe) := h
    cases h
  | succ n ih =>
    intro v0 v1 v2 v3 v5 μ q_v1 q_v2 q_v3 q_v5 h
    rw [Ct_countRounds_L13.eq_2] at h
    refine r_iload (pc := 13) hX 4 rfl (dk D_X0_countRounds 8 rfl) ?_
    refine r_iloadn (pc := 15) hX 2 rfl (dk D_X0_countRounds 9 rfl) ?_
    refine r_icmp_ge (pc := 16) hX q_v5 q_v2 59 rfl (dk D_X0_countRounds 10 rfl) (fun hc => ?_) (fun hc => ?_)
    · rw [if_neg hc] at h
      refine r_sub (lv' := [(0, 2, v0), (1, 0, v1), (2, 0, v2), (3, 1, v3)]) [0, 1, 2, 3] rfl ?_
      exact hk59 v0 v1 v2 v3 μ q_v1 q_v2 q_v3 h
    · rw [if_pos hc] at h
      refine r_aloadn (pc := 19) hX 0 rfl (dk D_X0_countRounds 11 rfl) ?_
      refine r_lloadn (pc := 20) hX 3 rfl (dk D_X0_countRounds 12 rfl) ?_
      refine r_aloadn (pc := 21) hX 0 rfl (dk D_X0_countRounds 13 rfl) ?_
      obtain ⟨x1, hx1, h⟩ := bd_some h
      refine r_getR (pc := 22) hX fl_0_15 rfl hx1 (dk D_X0_countRounds 14 rfl) ?_
      refine r_iloadn (pc := 25) hX 1 rfl (dk D_X0_countRounds 15 rfl) ?_
      refine r_bipush (pc := 26) hX rfl (dk D_X0_countRounds 16 rfl) ?_
      refine r_imul (pc := 28) hX (dk D_X0_countRounds 17 rfl) ?_
      refine r_iload (pc := 29) hX 4 rfl (dk D_X0_countRounds 18 rfl) ?_
      refine r_iadd (pc := 31) hX (dk D_X0_countRounds 19 rfl) ?_
      obtain ⟨x2, hx2, h⟩ := bd_some h
      refine r_lald (pc := 32) hX (R32_w _) hx2 (dk D_X0_countRounds 20 rfl) (fun qx2 => ?_)
      refine r_aloadn (pc := 33) hX 0 rfl (dk D_X0_countRounds 21 rfl) ?_
      obtain ⟨x3, hx3, h⟩ := bd_some h
      refine r_getR (pc := 34) hX fl_0_11 rfl hx3 (dk D_X0_countRounds 22 rfl) ?_
      refine r_iloadn (pc := 37) hX 1 rfl (dk D_X0_countRounds 23 rfl) ?_
      refine r_bipush (pc := 38) hX rfl (dk D_X0_countRounds 24 rfl) ?_
      refine r_imul (pc := 40) hX (dk D_X0_countRounds 25 rfl) ?_
      refine r_iloadn (pc := 41) hX 2 rfl (dk D_X0_countRounds 26 rfl) ?_
      refine r_iadd (pc := 42) hX (dk D_X0_countRounds 27 rfl) ?_
      refine r_iconst (pc := 43) hX (dk D_X0_countRounds 28 rfl) ?_
      refine r_isub (pc := 44) hX (dk D_X0_countRounds 29 rfl) ?_
      refine r_iload (pc := 45) hX 4 rfl (dk D_X0_countRounds 30 rfl) ?_
      refine r_isub (pc := 47) hX (dk D_X0_countRounds 31 rfl) ?_
      obtain ⟨x4, hx4, h⟩ := bd_some h
      refine r_lald (pc := 48) hX (R32_w _) hx4 (dk D_X0_countRounds 32 rfl) (fun qx4 => ?_)
      obtain ⟨_, hi, h⟩ := bd_some h
      obtain ⟨x5, μ6, hx5, h⟩ := bd2_some h
      refine r_invV0 (As := [(1, v3), (1, x2), (1, x4)]) (pc := 49) hX ml_0_103 (L_Ct_plus q_v3 qx2 qx4 hx5) (isk_u hi) (Rm_of hRm (by decide) ⟨by decide, by decide⟩) (by decide) rfl (Nat.le_of_ble_eq_true rfl) rfl (dk D_X0_countRounds 33 rfl) (fun qx5 => ?_)
      refine r_lstoren (lv' := [(3, 1, x5), (0, 2, v0), (1, 0, v1), (2, 0, v2), (5, 0, v5)]) (pc := 52) hX (by decide) rfl (dk D_X0_countRounds 34 rfl) ?_
      refine r_iinc (lv' := [(5, 0, (w32 (v5 + 1))), (3, 1, x5), (0, 2, v0), (1, 0, v1), (2, 0, v2)]) (pc := 53) hX 4 rfl (by decide) rfl (dk D_X0_countRounds 35 rfl) ?_
      refine r_goto (pc := 56) hX 13 rfl (dk D_X0_countRounds 36 rfl) ?_
      refine r_sub (lv' := [(0, 2, v0), (1, 0, v1), (2, 0, v2), (3, 1, x5), (5, 0, (w32 (v5 + 1)))]) [2, 3, 4, 1, 0] rfl ?_
      exact ih v0 v1 v2 x5 (w32 (v5 + 1)) μ6 q_v1 q_v2 qx5 (R32_w _) h
set_option maxRecDepth 100000 in
set_option maxHeartbeats 4000000 in
theorem L_Ct_countRounds {E : EX} {l : Launch} {a0 a1 a2 res : Int} {μ μ' : Mem} (q_a1 : R32 a1) (q_a2 : R32 a2) (h : Ct_countRounds a0 a1 a2 μ = some (res, μ')) : Ok E l 3 yX0_countRounds (.code yX0_countRounds cX0_countRounds 6 none) 0 0 [(2, a0), (0, a1), (0, a2)] μ none μ' := by
  refine Ok.of (own := "TollsBack$Counter") [(0, 2, a0), (1, 0, a1), (2, 0, a2)] (by decide +kernel) rfl (Nat.le_of_ble_eq_true rfl) rfl ?_
  intro X hL hRm hin hX hM
  unfold Ct_countRounds at h
  subst hL
  refine r_iloadn (pc := 0) hX 2 rfl (dk D_X0_countRounds 0 rfl) ?_
  refine r_if_ne (pc := 1) hX q_a2 8 rfl (dk D_X0_countRounds 1 rfl) (fun hc => ?_) (fun hc => ?_)
  · rw [if_neg hc] at h
    refine r_lconst (x := 0) (pc := 8) hX (by decide) (dk D_X0_countRounds 4 rfl) ?_
    refine r_lstoren (lv' := [(3, 1, 0), (0, 2, a0), (1, 0, a1), (2, 0, a2)]) (pc := 9) hX (by decide) rfl (dk D_X0_countRounds 5 rfl) ?_
    refine r_iconst (pc := 10) hX (dk D_X0_countRounds 6 rfl) ?_
    refine r_istore (lv' := [(5, 0, 0), (3, 1, 0), (0, 2, a0), (1, 0, a1), (2, 0, a2)]) (pc := 11) hX (by decide) rfl (dk D_X0_countRounds 7 rfl) ?_
    refine r_sub (lv' := [(0, 2, a0), (1, 0, a1), (2, 0, a2), (3, 1, 0), (5, 0, 0)]) [2, 3, 4, 1, 0] rfl ?_
    refine L_Ct_countRounds_L13 hX hM hRm ?_ FU a0 a1 a2 0 0 μ q_a1 q_a2 (R64_lit rfl) (R32_lit rfl) h
    intro x1 x2 x3 x4 μ5 qx2 qx3 qx4 h
    refine r_aloadn (pc := 59) hX 0 rfl (dk D_X0_countRounds 37 rfl) ?_
    obtain ⟨x6, hx6, h⟩ := bd_some h
    refine r_getR (pc := 60) hX fl_0_11 rfl hx6 (dk D_X0_countRounds 38 rfl) ?_
    refine r_iloadn (pc := 63) hX 1 rfl (dk D_X0_countRounds 39 rfl) ?_
    refine r_bipush (pc := 64) hX rfl (dk D_X0_countRounds 40 rfl) ?_
    refine r_imul (pc := 66) hX (dk D_X0_countRounds 41 rfl) ?_
    refine r_iloadn (pc := 67) hX 2 rfl (dk D_X0_countRounds 42 rfl) ?_
    refine r_iadd (pc := 68) hX (dk D_X0_countRounds 43 rfl) ?_
    refine r_lloadn (pc := 69) hX 3 rfl (dk D_X0_countRounds 44 rfl) ?_
    obtain ⟨μ7, hμ7, h⟩ := bd_some h
    refine r_last (pc := 70) hX (R32_w _) qx4 hμ7 (dk D_X0_countRounds 45 rfl) ?_
    cases h
    exact r_return (pc := 71) hX hM ⟨by decide, by decide⟩ (dk D_X0_countRounds 46 rfl)
  · rw [if_pos hc] at h
    refine r_lconst (x := 1) (pc := 4) hX (by decide) (dk D_X0_countRounds 2 rfl) ?_
    refine r_goto (pc := 5) hX 9 rfl (dk D_X0_countRounds 3 rfl) ?_
    refine r_lstoren (lv' := [(3, 1, 1), (0, 2, a0), (1, 0, a1), (2, 0, a2)]) (pc := 9) hX (by decide) rfl (dk D_X0_countRounds 5 rfl) ?_
    refine r_iconst (pc := 10) hX (dk D_X0_countRounds 6 rfl) ?_
    refine r_istore (lv' := [(5, 0, 0), (3, 1, 1), (0, 2, a0), (1, 0, a1), (2, 0, a2)]) (pc := 11) hX (by decide) rfl (dk D_X0_countRounds 7 rfl) ?_
    refine r_sub (lv' := [(0, 2, a0), (1, 0, a1), (2, 0, a2), (3, 1, 1), (5, 0, 0)]) [2, 3, 4, 1, 0] rfl ?_
    refine L_Ct_countRounds_L13 hX hM hRm ?_ FU a0 a1 a2 1 0 μ q_a1 q_a2 (R64_lit rfl) (R32_lit rfl) h
    intro x8 x9 x10 x11 μ12 qx9 qx10 qx11 h
    refine r_aloadn (pc := 59) hX 0 rfl (dk D_X0_countRounds 37 rfl) ?_
    obtain ⟨x13, hx13, h⟩ := bd_some h
    refine r_getR (pc := 60) hX fl_0_11 rfl hx13 (dk D_X0_countRounds 38 rfl) ?_
    refine r_iloadn (pc := 63) hX 1 rfl (dk D_X0_countRounds 39 rfl) ?_
    refine r_bipush (pc := 64) hX rfl (dk D_X0_countRounds 40 rfl) ?_
    refine r_imul (pc := 66) hX (dk D_X0_countRounds 41 rfl) ?_
    refine r_iloadn (pc := 67) hX 2 rfl (dk D_X0_countRounds 42 rfl) ?_
    refine r_iadd (pc := 68) hX (dk D_X0_countRounds 43 rfl) ?_
    refine r_lloadn (pc := 69) hX 3 rfl (dk D_X0_countRounds 44 rfl) ?_
    obtain ⟨μ14, hμ14, h⟩ := bd_some h
    refine r_last (pc := 70) hX (R32_w _) qx11 hμ14 (dk D_X0_countRounds 45 rfl) ?_
    cases h
    exact r_return (pc := 71) hX hM ⟨by decide, by decide⟩ (dk D_X0_countRounds 46 rfl)
set_option maxRecDepth 100000 in
set_option maxHeartbeats 4000000 in
theorem L_Kg_leadsFrom {E : EX} {l : Launch} {a0 a1 a2 res : Int} {μ μ' : Mem} (q_a1 : R32 a1) (q_a2 : R32 a2) (h : Kg_leadsFrom a0 a1 a2 μ = some (res, μ')) : Ok E l 1 yX1_leadsFrom (.code yX1_leadsFrom cX1_leadsFrom 3 (some .boolean)) 0 0 [(2, a0), (0, a1), (0, a2)] μ (some (0, res)) μ' := by
  refine Ok.of (own := "TollsBack$Kingdom") [(0, 2, a0), (1, 0, a1), (2, 0, a2)] (by decide +kernel) rfl (Nat.le_of_ble_eq_true rfl) rfl ?_
  intro X hL hRm hin hX hM
  unfold Kg_leadsFrom at h
  subst hL
  refine r_aloadn (pc := 0) hX 0 rfl (dk D_X1_leadsFrom 0 rfl) ?_
  obtain ⟨x1, hx1, h⟩ := bd_some h
  refine r_getR (pc := 1) hX fl_1_9 rfl hx1 (dk D_X1_leadsFrom 1 rfl) ?_
  refine r_iloadn (pc := 4) hX 1 rfl (dk D_X1_leadsFrom 2 rfl) ?_
  obtain ⟨x2, hx2, h⟩ := bd_some h
  refine r_iald (pc := 5) hX q_a1 hx2 (dk D_X1_leadsFrom 3 rfl) (fun qx2 => ?_)
  refine r_iloadn (pc := 6) hX 2 rfl (dk D_X1_leadsFrom 4 rfl) ?_
  refine r_icmp_eq (pc := 7) hX qx2 q_a2 20 rfl (dk D_X1_leadsFrom 5 rfl) (fun hc => ?_) (fun hc => ?_)
  · rw [if_pos hc] at h
    refine r_iconst (pc := 20) hX (dk D_X1_leadsFrom 12 rfl) ?_
    refine r_goto (pc := 21) hX 25 rfl (dk D_X1_leadsFrom 13 rfl) ?_
    cases h
    exact r_zreturn (pc := 25) hX (R32_lit rfl) hM (Or.inr rfl) ⟨by decide, by decide⟩ (dk D_X1_leadsFrom 15 rfl)
  · rw [if_neg hc] at h
    refine r_aloadn (pc := 10) hX 0 rfl (dk D_X1_leadsFrom 6 rfl) ?_
    obtain ⟨x3, hx3, h⟩ := bd_some h
    refine r_getR (pc := 11) hX fl_1_15 rfl hx3 (dk D_X1_leadsFrom 7 rfl) ?_
    refine r_iloadn (pc := 14) hX 1 rfl (dk D_X1_leadsFrom 8 rfl) ?_
    obtain ⟨x4, hx4, h⟩ := bd_some h
    refine r_iald (pc := 15) hX q_a1 hx4 (dk D_X1_leadsFrom 9 rfl) (fun qx4 => ?_)
    refine r_iloadn (pc := 16) hX 2 rfl (dk D_X1_leadsFrom 10 rfl) ?_
    refine r_icmp_ne (pc := 17) hX qx4 q_a2 24 rfl (dk D_X1_leadsFrom 11 rfl) (fun hc => ?_) (fun hc => ?_)
    · rw [if_neg hc] at h
      refine r_iconst (pc := 24) hX (dk D_X1_leadsFrom 14 rfl) ?_
      cases h
      exact r_zreturn (pc := 25) hX (R32_lit rfl) hM (Or.inl rfl) ⟨by decide, by decide⟩ (dk D_X1_leadsFrom 15 rfl)
    · rw [if_pos hc] at h
      refine r_iconst (pc := 20) hX (dk D_X1_leadsFrom 12 rfl) ?_
      refine r_goto (pc := 21) hX 25 rfl (dk D_X1_leadsFrom 13 rfl) ?_
      cases h
      exact r_zreturn (pc := 25) hX (R32_lit rfl) hM (Or.inr rfl) ⟨by decide, by decide⟩ (dk D_X1_leadsFrom 15 rfl)
set_option maxRecDepth 100000 in
set_option maxHeartbeats 4000000 in
theorem L_Kg_markOf {E : EX} {l : Launch} {a0 a1 a2 res : Int} {μ μ' : Mem} (q_a1 : R32 a1) (q_a2 : R32 a2) (h : Kg_markOf a0 a1 a2 μ = some (res, μ')) : Ok E l 1 yX1_markOf (.code yX1_markOf cX1_markOf 3 (some .int)) 0 0 [(2, a0), (0, a1), (0, a2)] μ (some (0, res)) μ' := by
  refine Ok.of (own := "TollsBack$Kingdom") [(0, 2, a0), (1, 0, a1), (2, 0, a2)] (by decide +kernel) rfl (Nat.le_of_ble_eq_true rfl) rfl ?_
  intro X hL hRm hin hX hM
  unfold Kg_markOf at h
  subst hL
  refine r_aloadn (pc := 0) hX 0 rfl (dk D_X1_markOf 0 rfl) ?_
  obtain ⟨x1, hx1, h⟩ := bd_some h
  refine r_getR (pc := 1) hX fl_1_9 rfl hx1 (dk D_X1_markOf 1 rfl) ?_
  refine r_iloadn (pc := 4) hX 1 rfl (dk D_X1_markOf 2 rfl) ?_
  obtain ⟨x2, hx2, h⟩ := bd_some h
  refine r_iald (pc := 5) hX q_a1 hx2 (dk D_X1_markOf 3 rfl) (fun qx2 => ?_)
  refine r_iloadn (pc := 6) hX 2 rfl (dk D_X1_markOf 4 rfl) ?_
  refine r_icmp_ne (pc := 7) hX qx2 q_a2 16 rfl (dk D_X1_markOf 5 rfl) (fun hc => ?_) (fun hc => ?_)
  · rw [if_neg hc] at h
    refine r_iconst (pc := 16) hX (dk D_X1_markOf 10 rfl) ?_
    refine r_iloadn (pc := 17) hX 1 rfl (dk D_X1_markOf 11 rfl) ?_
    refine r_imul (pc := 18) hX (dk D_X1_markOf 12 rfl) ?_
    refine r_iconst (pc := 19) hX (dk D_X1_markOf 13 rfl) ?_
    refine r_iadd (pc := 20) hX (dk D_X1_markOf 14 rfl) ?_
    cases h
    exact r_ireturn (pc := 21) hX (R32_w _) hM ⟨by decide, by decide⟩ (dk D_X1_markOf 15 rfl)
  · rw [if_pos hc] at h
    refine r_iconst (pc := 10) hX (dk D_X1_markOf 6 rfl) ?_
    refine r_iloadn (pc := 11) hX 1 rfl (dk D_X1_markOf 7 rfl) ?_
    refine r_imul (pc := 12) hX (dk D_X1_markOf 8 rfl) ?_
    refine r_goto (pc := 13) hX 21 rfl (dk D_X1_markOf 9 rfl) ?_
    cases h
    exact r_ireturn (pc := 21) hX (R32_w _) hM ⟨by decide, by decide⟩ (dk D_X1_markOf 15 rfl)
set_option maxRecDepth 100000 in
set_option maxHeartbeats 4000000 in
theorem L_Ct_sumBeyond_L6 {E : EX} {X : CX} {res : Int} {μe : Mem} (hX : Good E X cX0_sumBeyond 8 "TollsBack$Counter") (hM : GoodM E X none none μe 0 0) (hRm : cR X = rmOf 3 0 0) {k84 : Int → Int → Int → Int → Mem → Option (Int × Mem)} (hk84 : ∀ (u0 u1 u2 u3 : Int) (μ : Mem), R32 u1 → R32 u2 → R64 u3 → k84 u0 u1 u2 u3 μ = some (res, μe) → At E X cX0_sumBeyond 8 "TollsBack$Counter" (0, 0) 84 [(0, 2, u0), (2, 0, u1), (4, 0, u2), (5, 1, u3)] [] μ) : ∀ (n : Nat) (v0 v1 v2 v3 v4 v5 v7 : Int) (μ : Mem) (q_v2 : R32 v2) (q_v3 : R32 v3) (q_v4 : R32 v4) (q_v5 : R64 v5) (q_v7 : R32 v7) (h : Ct_sumBeyond_L6 k84 n v0 v1 v2 v3 v4 v5 v7 μ = some (res, μe)), At E X cX0_sumBeyond 8 "TollsBack$Counter" (0, 0) 6 [(0, 2, v0), (1, 2, v1), (2, 0, v2), (3, 0, v3), (4, 0, v4), (5, 1, v5), (7, 0, v7)] [] μ := by
  intro n
  induction n with
  | zero =>
    intro v0 v1 v2 v3 v4 v5 v7 μ q_v2 q_v3 q_v4 q_v5 q_v7 h
    have h : (none : Option (Int × Mem)) = some (res, μe) := h
    cases h
  | succ n ih =>
    intro v0 v1 v2 v3 v4 v5 v7 μ q_v2 q_v3 q_v4 q_v5 q_v7 h
    rw [Ct_sumBeyond_L6.eq_2] at h
    refine r_iload (pc := 6) hX 6 rfl (dk D_X0_sumBeyond 4 rfl) ?_
    refine r_aloadn (pc := 8) hX 1 rfl (dk D_X0_sumBeyond 5 rfl) ?_
    obtain ⟨x1, hx1, h⟩ := bd_some h
    refine r_getR (pc := 9) hX fl_0_36 rfl hx1 (dk D_X0_sumBeyond 6 rfl) ?_
    obtain ⟨x2, hx2, h⟩ := bd_some h
    refine r_getI (pc := 12) hX fl_0_52 rfl rfl hx2 (dk D_X0_sumBeyond 7 rfl) (fun qx2 => ?_)
    refine r_icmp_ge (pc := 15) hX q_v7 qx2 84 rfl (dk D_X0_sumBeyond 8 rfl) (fun hc => ?_) (fun hc => ?_)
    · rw [if_neg hc] at h
      refine r_sub (lv' := [(0, 2, v0), (2, 0, v2), (4, 0, v4), (5, 1, v5)]) [0, 2, 4, 5] rfl ?_
      exact hk84 v0 v2 v4 v5 μ q_v2 q_v4 q_v5 h
    · rw [if_pos hc] at h
      refine r_iload (pc := 18) hX 6 rfl (dk D_X0_sumBeyond 9 rfl) ?_
      refine r_iloadn (pc := 20) hX 2 rfl (dk D_X0_sumBeyond 10 rfl) ?_
      refine r_iconst (pc := 21) hX (dk D_X0_sumBeyond 11 rfl) ?_
      refine r_ishr (pc := 22) hX (dk D_X0_sumBeyond 12 rfl) ?_
      refine r_icmp_eq (pc := 23) hX q_v7 (R32_t _) 78 rfl (dk D_X0_sumBeyond 13 rfl) (fun hc => ?_) (fun hc => ?_)
      · rw [if_pos hc] at h
        refine r_iinc (lv' := [(7, 0, (w32 (v7 + 1))), (0, 2, v0), (1, 2, v1), (2, 0, v2), (3, 0, v3), (4, 0, v4), (5, 1, v5)]) (pc := 78) hX 6 rfl (by decide) rfl (dk D_X0_sumBeyond 41 rfl) ?_
        refine r_goto (pc := 81) hX 6 rfl (dk D_X0_sumBeyond 42 rfl) ?_
        refine r_sub (lv' := [(0, 2, v0), (1, 2, v1), (2, 0, v2), (3, 0, v3), (4, 0, v4), (5, 1, v5), (7, 0, (w32 (v7 + 1)))]) [1, 2, 3, 4, 5, 6, 0] rfl ?_
        exact ih v0 v1 v2 v3 v4 v5 (w32 (v7 + 1)) μ q_v2 q_v3 q_v4 q_v5 (R32_w _) h
      · rw [if_neg hc] at h
        refine r_aloadn (pc := 26) hX 1 rfl (dk D_X0_sumBeyond 14 rfl) ?_
        refine r_iload (pc := 27) hX 6 rfl (dk D_X0_sumBeyond 15 rfl) ?_
        obtain ⟨_, hi, h⟩ := bd_some h
        obtain ⟨x3, μ4, hx3, h⟩ := bd2_some h
        refine r_invV0 (As := [(0, v7)]) (pc := 29) hX ml_0_55 (L_Wo_isOpen q_v7 hx3) (isk_u hi) (Rm_of hRm (by decide) ⟨by decide, by decide⟩) (by decide) rfl (Nat.le_of_ble_eq_true rfl) rfl (dk D_X0_sumBeyond 16 rfl) (fun qx3 => ?_)
        refine r_if_eq (pc := 32) hX qx3 78 rfl (dk D_X0_sumBeyond 17 rfl) (fun hc => ?_) (fun hc => ?_)
        · rw [if_pos hc] at h
          refine r_iinc (lv' := [(7, 0, (w32 (v7 + 1))), (0, 2, v0), (1, 2, v1), (2, 0, v2), (3, 0, v3), (4, 0, v4), (5, 1, v5)]) (pc := 78) hX 6 rfl (by decide) rfl (dk D_X0_sumBeyond 41 rfl) ?_
          refine r_goto (pc := 81) hX 6 rfl (dk D_X0_sumBeyond 42 rfl) ?_
          refine r_sub (lv' := [(0, 2, v0), (1, 2, v1), (2, 0, v2), (3, 0, v3), (4, 0, v4), (5, 1, v5), (7, 0, (w32 (v7 + 1)))]) [1, 2, 3, 4, 5, 6, 0] rfl ?_
          exact ih v0 v1 v2 v3 v4 v5 (w32 (v7 + 1)) μ4 q_v2 q_v3 q_v4 q_v5 (R32_w _) h
        · rw [if_neg hc] at h
          refine r_aloadn (pc := 35) hX 1 rfl (dk D_X0_sumBeyond 18 rfl) ?_
          obtain ⟨x5, hx5, h⟩ := bd_some h
          refine r_getR (pc := 36) hX fl_0_36 rfl hx5 (dk D_X0_sumBeyond 19 rfl) ?_
          refine r_iload (pc := 39) hX 6 rfl (dk D_X0_sumBeyond 20 rfl) ?_
          refine r_iloadn (pc := 41) hX 3 rfl (dk D_X0_sumBeyond 21 rfl) ?_
          obtain ⟨_, hi, h⟩ := bd_some h
          obtain ⟨x6, μ7, hx6, h⟩ := bd2_some h
          refine r_invV0 (As := [(0, v7), (0, v3)]) (pc := 42) hX ml_0_59 (L_Kg_leadsFrom q_v7 q_v3 hx6) (isk_u hi) (Rm_of hRm (by decide) ⟨by decide, by decide⟩) (by decide) rfl (Nat.le_of_ble_eq_true rfl) rfl (dk D_X0_sumBeyond 22 rfl) (fun qx6 => ?_)
          refine r_if_eq (pc := 45) hX qx6 78 rfl (dk D_X0_sumBeyond 23 rfl) (fun hc => ?_) (fun hc => ?_)
          · rw [if_pos hc] at h
            refine r_iinc (lv' := [(7, 0, (w32 (v7 + 1))), (0, 2, v0), (1, 2, v1), (2, 0, v2), (3, 0, v3), (4, 0, v4), (5, 1, v5)]) (pc := 78) hX 6 rfl (by decide) rfl (dk D_X0_sumBeyond 41 rfl) ?_
            refine r_goto (pc := 81) hX 6 rfl (dk D_X0_sumBeyond 42 rfl) ?_
            refine r_sub (lv' := [(0, 2, v0), (1, 2, v1), (2, 0, v2), (3, 0, v3), (4, 0, v4), (5, 1, v5), (7, 0, (w32 (v7 + 1)))]) [1, 2, 3, 4, 5, 6, 0] rfl ?_
            exact ih v0 v1 v2 v3 v4 v5 (w32 (v7 + 1)) μ7 q_v2 q_v3 q_v4 q_v5 (R32_w _) h
          · rw [if_neg hc] at h
            refine r_aloadn (pc := 48) hX 0 rfl (dk D_X0_sumBeyond 24 rfl) ?_
            refine r_lload (pc := 49) hX 5 rfl (dk D_X0_sumBeyond 25 rfl) ?_
            refine r_lconst (x := 1) (pc := 51) hX (by decide) (dk D_X0_sumBeyond 26 rfl) ?_
            refine r_aloadn (pc := 52) hX 0 rfl (dk D_X0_sumBeyond 27 rfl) ?_
            obtain ⟨x8, hx8, h⟩ := bd_some h
            refine r_getR (pc := 53) hX fl_0_11 rfl hx8 (dk D_X0_sumBeyond 28 rfl) ?_
            refine r_aloadn (pc := 56) hX 1 rfl (dk D_X0_sumBeyond 29 rfl) ?_
            obtain ⟨x9, hx9, h⟩ := bd_some h
            refine r_getR (pc := 57) hX fl_0_36 rfl hx9 (dk D_X0_sumBeyond 30 rfl) ?_
            refine r_iload (pc := 60) hX 6 rfl (dk D_X0_sumBeyond 31 rfl) ?_
            refine r_iloadn (pc := 62) hX 3 rfl (dk D_X0_sumBeyond 32 rfl) ?_
            obtain ⟨_, hi, h⟩ := bd_some h
            obtain ⟨x10, μ11, hx10, h⟩ := bd2_some h
            refine r_invV0 (As := [(0, v7), (0, v3)]) (pc := 63) hX ml_0_63 (L_Kg_markOf q_v7 q_v3 hx10) (isk_u hi) (Rm_of hRm (by decide) ⟨by decide, by decide⟩) (by decide) rfl (Nat.le_of_ble_eq_true rfl) rfl (dk D_X0_sumBeyond 33 rfl) (fun qx10 => ?_)
            refine r_bipush (pc := 66) hX rfl (dk D_X0_sumBeyond 34 rfl) ?_
            refine r_imul (pc := 68) hX (dk D_X0_sumBeyond 35 rfl) ?_
            refine r_iload (pc := 69) hX 4 rfl (dk D_X0_sumBeyond 36 rfl) ?_
            refine r_iadd (pc := 71) hX (dk D_X0_sumBeyond 37 rfl) ?_
            obtain ⟨x12, hx12, h⟩ := bd_some h
            refine r_lald (pc := 72) hX (R32_w _) hx12 (dk D_X0_sumBeyond 38 rfl) (fun qx12 => ?_)
            obtain ⟨_, hi, h⟩ := bd_some h
            obtain ⟨x13, μ14, hx13, h⟩ := bd2_some h
            refine r_invV0 (As := [(1, v5), (1, 1), (1, x12)]) (pc := 73) hX ml_0_103 (L_Ct_plus q_v5 (R64_lit rfl) qx12 hx13) (isk_u hi) (Rm_of hRm (by decide) ⟨by decide, by decide⟩) (by decide) rfl (Nat.le_of_ble_eq_true rfl) rfl (dk D_X0_sumBeyond 39 rfl) (fun qx13 => ?_)
            refine r_lstore (lv' := [(5, 1, x13), (0, 2, v0), (1, 2, v1), (2, 0, v2), (3, 0, v3), (4, 0, v4), (7, 0, v7)]) (pc := 76) hX (by decide) rfl (dk D_X0_sumBeyond 40 rfl) ?_
            refine r_iinc (lv' := [(7, 0, (w32 (v7 + 1))), (5, 1, x13), (0, 2, v0), (1, 2, v1), (2, 0, v2), (3, 0, v3), (4, 0, v4)]) (pc := 78) hX 6 rfl (by decide) rfl (dk D_X0_sumBeyond 41 rfl) ?_
            refine r_goto (pc := 81) hX 6 rfl (dk D_X0_sumBeyond 42 rfl) ?_
            refine r_sub (lv' := [(0, 2, v0), (1, 2, v1), (2, 0, v2), (3, 0, v3), (4, 0, v4), (5, 1, x13), (7, 0, (w32 (v7 + 1)))]) [2, 3, 4, 5, 6, 1, 0] rfl ?_
            exact ih v0 v1 v2 v3 v4 x13 (w32 (v7 + 1)) μ14 q_v2 q_v3 q_v4 qx13 (R32_w _) h
set_option maxRecDepth 100000 in
set_option maxHeartbeats 4000000 in
theorem L_Ct_sumBeyond {E : EX} {l : Launch} {a0 a1 a2 a3 a4 res : Int} {μ μ' : Mem} (q_a2 : R32 a2) (q_a3 : R32 a3) (q_a4 : R32 a4) (h : Ct_sumBeyond a0 a1 a2 a3 a4 μ = some (res, μ')) : Ok E l 3 yX0_sumBeyond (.code yX0_sumBeyond cX0_sumBeyond 8 none) 0 0 [(2, a0), (2, a1), (0, a2), (0, a3), (0, a4)] μ none μ' := by
  refine Ok.of (own := "TollsBack$Counter") [(0, 2, a0), (1, 2, a1), (2, 0, a2), (3, 0, a3), (4, 0, a4)] (by decide +kernel) rfl (Nat.le_of_ble_eq_true rfl) rfl ?_
  intro X hL hRm hin hX hM
  unfold Ct_sumBeyond at h
  subst hL
  refine r_lconst (x := 0) (pc := 0) hX (by decide) (dk D_X0_sumBeyond 0 rfl) ?_
  refine r_lstore (lv' := [(5, 1, 0), (0, 2, a0), (1, 2, a1), (2, 0, a2), (3, 0, a3), (4, 0, a4)]) (pc := 1) hX (by decide) rfl (dk D_X0_sumBeyond 1 rfl) ?_
  refine r_iconst (pc := 3) hX (dk D_X0_sumBeyond 2 rfl) ?_
  refine r_istore (lv' := [(7, 0, 0), (5, 1, 0), (0, 2, a0), (1, 2, a1), (2, 0, a2), (3, 0, a3), (4, 0, a4)]) (pc := 4) hX (by decide) rfl (dk D_X0_sumBeyond 3 rfl) ?_
  refine r_sub (lv' := [(0, 2, a0), (1, 2, a1), (2, 0, a2), (3, 0, a3), (4, 0, a4), (5, 1, 0), (7, 0, 0)]) [2, 3, 4, 5, 6, 1, 0] rfl ?_
  refine L_Ct_sumBeyond_L6 hX hM hRm ?_ FU a0 a1 a2 a3 a4 0 0 μ q_a2 q_a3 q_a4 (R64_lit rfl) (R32_lit rfl) h
  intro x1 x2 x3 x4 μ5 qx2 qx3 qx4 h
  refine r_aloadn (pc := 84) hX 0 rfl (dk D_X0_sumBeyond 43 rfl) ?_
  obtain ⟨x6, hx6, h⟩ := bd_some h
  refine r_getR (pc := 85) hX fl_0_15 rfl hx6 (dk D_X0_sumBeyond 44 rfl) ?_
  refine r_iloadn (pc := 88) hX 1 rfl (dk D_X0_sumBeyond 45 rfl) ?_
  refine r_bipush (pc := 89) hX rfl (dk D_X0_sumBeyond 46 rfl) ?_
  refine r_imul (pc := 91) hX (dk D_X0_sumBeyond 47 rfl) ?_
  refine r_iload (pc := 92) hX 2 rfl (dk D_X0_sumBeyond 48 rfl) ?_
  refine r_iadd (pc := 94) hX (dk D_X0_sumBeyond 49 rfl) ?_
  refine r_lload (pc := 95) hX 3 rfl (dk D_X0_sumBeyond 50 rfl) ?_
  obtain ⟨μ7, hμ7, h⟩ := bd_some h
  refine r_last (pc := 97) hX (R32_w _) qx4 hμ7 (dk D_X0_sumBeyond 51 rfl) ?_
  cases h
  exact r_return (pc := 98) hX hM ⟨by decide, by decide⟩ (dk D_X0_sumBeyond 52 rfl)
set_option maxRecDepth 100000 in
set_option maxHeartbeats 4000000 in
theorem L_Kg_startOf {E : EX} {l : Launch} {a0 a1 res : Int} {μ μ' : Mem} (q_a1 : R32 a1) (h : Kg_startOf a0 a1 μ = some (res, μ')) : Ok E l 1 yX1_startOf (.code yX1_startOf cX1_startOf 2 (some .int)) 0 0 [(2, a0), (0, a1)] μ (some (0, res)) μ' := by
  refine Ok.of (own := "TollsBack$Kingdom") [(0, 2, a0), (1, 0, a1)] (by decide +kernel) rfl (Nat.le_of_ble_eq_true rfl) rfl ?_
  intro X hL hRm hin hX hM
  unfold Kg_startOf at h
  subst hL
  refine r_iloadn (pc := 0) hX 1 rfl (dk D_X1_startOf 0 rfl) ?_
  refine r_iconst (pc := 1) hX (dk D_X1_startOf 1 rfl) ?_
  refine r_iand (pc := 2) hX (dk D_X1_startOf 2 rfl) ?_
  refine r_if_ne (pc := 3) hX (R32_t _) 17 rfl (dk D_X1_startOf 3 rfl) (fun hc => ?_) (fun hc => ?_)
  · rw [if_neg hc] at h
    refine r_aloadn (pc := 17) hX 0 rfl (dk D_X1_startOf 11 rfl) ?_
    obtain ⟨x1, hx1, h⟩ := bd_some h
    refine r_getR (pc := 18) hX fl_1_15 rfl hx1 (dk D_X1_startOf 12 rfl) ?_
    refine r_iloadn (pc := 21) hX 1 rfl (dk D_X1_startOf 13 rfl) ?_
    refine r_iconst (pc := 22) hX (dk D_X1_startOf 14 rfl) ?_
    refine r_ishr (pc := 23) hX (dk D_X1_startOf 15 rfl) ?_
    obtain ⟨x2, hx2, h⟩ := bd_some h
    refine r_iald (pc := 24) hX (R32_t _) hx2 (dk D_X1_startOf 16 rfl) (fun qx2 => ?_)
    cases h
    exact r_ireturn (pc := 25) hX qx2 hM ⟨by decide, by decide⟩ (dk D_X1_startOf 17 rfl)
  · rw [if_pos hc] at h
    refine r_aloadn (pc := 6) hX 0 rfl (dk D_X1_startOf 4 rfl) ?_
    obtain ⟨x3, hx3, h⟩ := bd_some h
    refine r_getR (pc := 7) hX fl_1_9 rfl hx3 (dk D_X1_startOf 5 rfl) ?_
    refine r_iloadn (pc := 10) hX 1 rfl (dk D_X1_startOf 6 rfl) ?_
    refine r_iconst (pc := 11) hX (dk D_X1_startOf 7 rfl) ?_
    refine r_ishr (pc := 12) hX (dk D_X1_startOf 8 rfl) ?_
    obtain ⟨x4, hx4, h⟩ := bd_some h
    refine r_iald (pc := 13) hX (R32_t _) hx4 (dk D_X1_startOf 9 rfl) (fun qx4 => ?_)
    refine r_goto (pc := 14) hX 25 rfl (dk D_X1_startOf 10 rfl) ?_
    cases h
    exact r_ireturn (pc := 25) hX qx4 hM ⟨by decide, by decide⟩ (dk D_X1_startOf 17 rfl)
set_option maxRecDepth 100000 in
set_option maxHeartbeats 4000000 in
theorem L_Kg_endOf {E : EX} {l : Launch} {a0 a1 res : Int} {μ μ' : Mem} (q_a1 : R32 a1) (h : Kg_endOf a0 a1 μ = some (res, μ')) : Ok E l 2 yX1_endOf (.code yX1_endOf cX1_endOf 2 (some .int)) 0 0 [(2, a0), (0, a1)] μ (some (0, res)) μ' := by
  refine Ok.of (own := "TollsBack$Kingdom") [(0, 2, a0), (1, 0, a1)] (by decide +kernel) rfl (Nat.le_of_ble_eq_true rfl) rfl ?_
  intro X hL hRm hin hX hM
  unfold Kg_endOf at h
  subst hL
  refine r_aloadn (pc := 0) hX 0 rfl (dk D_X1_endOf 0 rfl) ?_
  refine r_iloadn (pc := 1) hX 1 rfl (dk D_X1_endOf 1 rfl) ?_
  refine r_iconst (pc := 2) hX (dk D_X1_endOf 2 rfl) ?_
  refine r_ixor (pc := 3) hX (dk D_X1_endOf 3 rfl) ?_
  obtain ⟨_, hi, h⟩ := bd_some h
  obtain ⟨x1, μ2, hx1, h⟩ := bd2_some h
  refine r_invV0 (As := [(0, (xor32 a1 1))]) (pc := 4) hX ml_1_71 (L_Kg_startOf (R32_t _) hx1) (isk_u hi) (Rm_of hRm (by decide) ⟨by decide, by decide⟩) (by decide) rfl (Nat.le_of_ble_eq_true rfl) rfl (dk D_X1_endOf 4 rfl) (fun qx1 => ?_)
  cases h
  exact r_ireturn (pc := 7) hX qx1 hM ⟨by decide, by decide⟩ (dk D_X1_endOf 5 rfl)
set_option maxRecDepth 100000 in
set_option maxHeartbeats 4000000 in
theorem L_Nu_smallAt {E : EX} {l : Launch} {a0 a1 res : Int} {μ μ' : Mem} (q_a1 : R32 a1) (h : Nu_smallAt a0 a1 μ = some (res, μ')) : Ok E l 1 yX2_smallAt (.code yX2_smallAt cX2_smallAt 4 (some .int)) 0 0 [(2, a0), (0, a1)] μ (some (0, res)) μ' := by
  refine Ok.of (own := "TollsBack$Numbers") [(0, 2, a0), (1, 0, a1)] (by decide +kernel) rfl (Nat.le_of_ble_eq_true rfl) rfl ?_
  intro X hL hRm hin hX hM
  unfold Nu_smallAt at h
  subst hL
  refine r_aloadn (pc := 0) hX 0 rfl (dk D_X2_smallAt 0 rfl) ?_
  obtain ⟨x1, hx1, h⟩ := bd_some h
  refine r_getR (pc := 1) hX fl_2_9 rfl hx1 (dk D_X2_smallAt 1 rfl) ?_
  refine r_iloadn (pc := 4) hX 1 rfl (dk D_X2_smallAt 2 rfl) ?_
  obtain ⟨x2, hx2, h⟩ := bd_some h
  refine r_lald (pc := 5) hX q_a1 hx2 (dk D_X2_smallAt 3 rfl) (fun qx2 => ?_)
  refine r_lstoren (lv' := [(2, 1, x2), (0, 2, a0), (1, 0, a1)]) (pc := 6) hX (by decide) rfl (dk D_X2_smallAt 4 rfl) ?_
  refine r_lloadn (pc := 7) hX 0 rfl (dk D_X2_smallAt 5 rfl) ?_
  refine r_lconst (x := 0) (pc := 8) hX (by decide) (dk D_X2_smallAt 6 rfl) ?_
  refine r_lcmp (pc := 9) hX qx2 (R64_lit rfl) (dk D_X2_smallAt 7 rfl) ?_
  refine r_if_lt (pc := 10) hX (R32_cmp _ _) 21 rfl (dk D_X2_smallAt 8 rfl) (fun hc => ?_) (fun hc => ?_)
  · rw [if_pos hc] at h
    refine r_iconst (pc := 21) hX (dk D_X2_smallAt 13 rfl) ?_
    refine r_goto (pc := 22) hX 27 rfl (dk D_X2_smallAt 14 rfl) ?_
    cases h
    exact r_ireturn (pc := 27) hX (R32_lit rfl) hM ⟨by decide, by decide⟩ (dk D_X2_smallAt 17 rfl)
  · rw [if_neg hc] at h
    refine r_lloadn (pc := 13) hX 0 rfl (dk D_X2_smallAt 9 rfl) ?_
    refine r_ldc2 (pc := 14) hX cn_2_32 (dk D_X2_smallAt 10 rfl) ?_
    refine r_lcmp (pc := 17) hX qx2 (R64_lit rfl) (dk D_X2_smallAt 11 rfl) ?_
    refine r_if_lt (pc := 18) hX (R32_cmp _ _) 25 rfl (dk D_X2_smallAt 12 rfl) (fun hc => ?_) (fun hc => ?_)
    · rw [if_pos hc] at h
      refine r_lloadn (pc := 25) hX 0 rfl (dk D_X2_smallAt 15 rfl) ?_
      refine r_l2i (pc := 26) hX qx2 (dk D_X2_smallAt 16 rfl) ?_
      cases h
      exact r_ireturn (pc := 27) hX (R32_w _) hM ⟨by decide, by decide⟩ (dk D_X2_smallAt 17 rfl)
    · rw [if_neg hc] at h
      refine r_iconst (pc := 21) hX (dk D_X2_smallAt 13 rfl) ?_
      refine r_goto (pc := 22) hX 27 rfl (dk D_X2_smallAt 14 rfl) ?_
      cases h
      exact r_ireturn (pc := 27) hX (R32_lit rfl) hM ⟨by decide, by decide⟩ (dk D_X2_smallAt 17 rfl)
set_option maxRecDepth 100000 in
set_option maxHeartbeats 4000000 in
theorem L_Ct_prepare_L16 {E : EX} {X : CX} {res : Int} {μe : Mem} (hX : Good E X cX0_prepare 6 "TollsBack$Counter") (hM : GoodM E X none none μe 0 0) (hRm : cR X = rmOf 4 0 0) {k44 : Int → Int → Int → Mem → Option (Int × Mem)} (hk44 : ∀ (u0 u1 u2 : Int) (μ : Mem), R32 u2 → k44 u0 u1 u2 μ = some (res, μe) → At E X cX0_prepare 6 "TollsBack$Counter" (0, 0) 44 [(0, 2, u0), (1, 2, u1), (3, 0, u2)] [] μ) : ∀ (n : Nat) (v0 v1 v2 v3 v4 : Int) (μ : Mem) (q_v3 : R32 v3) (q_v4 : R32 v4) (h : Ct_prepare_L16 k44 n v0 v1 v2 v3 v4 μ = some (res, μe)), At E X cX0_prepare 6 "TollsBack$Counter" (0, 0) 16 [(0, 2, v0), (1, 2, v1), (2, 2, v2), (3, 0, v3), (4, 0, v4)] [] μ := by
  intro n
  induction n with
  | zero =>
    intro v0 v1 v2 v3 v4 μ q_v3 q_v4 h
    have h : (none : Option (Int × Mem)) = some (res, μe) := h
    cases h
  | succ n ih =>
    intro v0 v1 v2 v3 v4 μ q_v3 q_v4 h
    rw [Ct_prepare_L16.eq_2] at h
    refine r_iload (pc := 16) hX 4 rfl (dk D_X0_prepare 9 rfl) ?_
    refine r_aloadn (pc := 18) hX 2 rfl (dk D_X0_prepare 10 rfl) ?_
    obtain ⟨x1, hx1, h⟩ := bd_some h
    refine r_getI (pc := 19) hX fl_0_81 rfl rfl hx1 (dk D_X0_prepare 11 rfl) (fun qx1 => ?_)
    refine r_icmp_ge (pc := 22) hX q_v4 qx1 44 rfl (dk D_X0_prepare 12 rfl) (fun hc => ?_) (fun hc => ?_)
    · rw [if_neg hc] at h
      refine r_sub (lv' := [(0, 2, v0), (1, 2, v1), (3, 0, v3)]) [0, 1, 3] rfl ?_
      exact hk44 v0 v1 v3 μ q_v3 h
    · rw [if_pos hc] at h
      refine r_aloadn (pc := 25) hX 0 rfl (dk D_X0_prepare 13 rfl) ?_
      obtain ⟨x2, hx2, h⟩ := bd_some h
      refine r_getR (pc := 26) hX fl_0_21 rfl hx2 (dk D_X0_prepare 14 rfl) ?_
      refine r_iload (pc := 29) hX 4 rfl (dk D_X0_prepare 15 rfl) ?_
      refine r_aloadn (pc := 31) hX 2 rfl (dk D_X0_prepare 16 rfl) ?_
      refine r_iload (pc := 32) hX 4 rfl (dk D_X0_prepare 17 rfl) ?_
      obtain ⟨_, hi, h⟩ := bd_some h
      obtain ⟨x3, μ4, hx3, h⟩ := bd2_some h
      refine r_invV0 (As := [(0, v4)]) (pc := 34) hX ml_0_89 (L_Nu_smallAt q_v4 hx3) (isk_u hi) (Rm_of hRm (by decide) ⟨by decide, by decide⟩) (by decide) rfl (Nat.le_of_ble_eq_true rfl) rfl (dk D_X0_prepare 18 rfl) (fun qx3 => ?_)
      obtain ⟨μ5, hμ5, h⟩ := bd_some h
      refine r_iast (pc := 37) hX q_v4 qx3 hμ5 (dk D_X0_prepare 19 rfl) ?_
      refine r_iinc (lv' := [(4, 0, (w32 (v4 + 1))), (0, 2, v0), (1, 2, v1), (2, 2, v2), (3, 0, v3)]) (pc := 38) hX 4 rfl (by decide) rfl (dk D_X0_prepare 20 rfl) ?_
      refine r_goto (pc := 41) hX 16 rfl (dk D_X0_prepare 21 rfl) ?_
      refine r_sub (lv' := [(0, 2, v0), (1, 2, v1), (2, 2, v2), (3, 0, v3), (4, 0, (w32 (v4 + 1)))]) [1, 2, 3, 4, 0] rfl ?_
      exact ih v0 v1 v2 v3 (w32 (v4 + 1)) μ5 q_v3 (R32_w _) h
set_option maxRecDepth 100000 in
set_option maxHeartbeats 4000000 in
theorem L_Ct_prepare_L65 {E : EX} {X : CX} {res : Int} {μe : Mem} (hX : Good E X cX0_prepare 6 "TollsBack$Counter") (hM : GoodM E X none none μe 0 0) (hRm : cR X = rmOf 4 0 0) {k93 : Int → Int → Int → Int → Mem → Option (Int × Mem)} (hk93 : ∀ (u0 u1 u2 u3 : Int) (μ : Mem), R32 u2 → R32 u3 → k93 u0 u1 u2 u3 μ = some (res, μe) → At E X cX0_prepare 6 "TollsBack$Counter" (0, 0) 93 [(0, 2, u0), (1, 2, u1), (3, 0, u2), (4, 0, u3)] [] μ) : ∀ (n : Nat) (v0 v1 v3 v4 v5 : Int) (μ : Mem) (q_v3 : R32 v3) (q_v4 : R32 v4) (q_v5 : R32 v5) (h : Ct_prepare_L65 k93 n v0 v1 v3 v4 v5 μ = some (res, μe)), At E X cX0_prepare 6 "TollsBack$Counter" (0, 0) 65 [(0, 2, v0), (1, 2, v1), (3, 0, v3), (4, 0, v4), (5, 0, v5)] [] μ := by
  intro n
  induction n with
  | zero =>
    intro v0 v1 v3 v4 v5 μ q_v3 q_v4 q_v5 h
    have h : (none : Option (Int × Mem)) = some (res, μe) := h
    cases h
  | succ n ih =>
    intro v0 v1 v3 v4 v5 μ q_v3 q_v4 q_v5 h
    rw [Ct_prepare_L65.eq_2] at h
    refine r_iload (pc := 65) hX 4 rfl (dk D_X0_prepare 34 rfl) ?_
    refine r_iconst (pc := 67) hX (dk D_X0_prepare 35 rfl) ?_
    refine r_aloadn (pc := 68) hX 1 rfl (dk D_X0_prepare 36 rfl) ?_
    obtain ⟨x1, hx1, h⟩ := bd_some h
    refine r_getR (pc := 69) hX fl_0_36 rfl hx1 (dk D_X0_prepare 37 rfl) ?_
    obtain ⟨x2, hx2, h⟩ := bd_some h
    refine r_getI (pc := 72) hX fl_0_52 rfl rfl hx2 (dk D_X0_prepare 38 rfl) (fun qx2 => ?_)
    refine r_imul (pc := 75) hX (dk D_X0_prepare 39 rfl) ?_
    refine r_icmp_ge (pc := 76) hX q_v5 (R32_w _) 93 rfl (dk D_X0_prepare 40 rfl) (fun hc => ?_) (fun hc => ?_)
    · rw [if_neg hc] at h
      refine r_sub (lv' := [(0, 2, v0), (1, 2, v1), (3, 0, v3), (4, 0, v4)]) [0, 1, 2, 3] rfl ?_
      exact hk93 v0 v1 v3 v4 μ q_v3 q_v4 h
    · rw [if_pos hc] at h
      refine r_aloadn (pc := 79) hX 0 rfl (dk D_X0_prepare 41 rfl) ?_
      refine r_iload (pc := 80) hX 4 rfl (dk D_X0_prepare 42 rfl) ?_
      refine r_iload (pc := 82) hX 3 rfl (dk D_X0_prepare 43 rfl) ?_
      obtain ⟨_, hi, h⟩ := bd_some h
      obtain ⟨x3, μ4, hx3, h⟩ := bd2_some h
      refine r_invV0 (As := [(0, v5), (0, v4)]) (pc := 84) hX ml_0_92 (L_Ct_countRounds q_v5 q_v4 hx3) (isk_u hi) (Rm_of hRm (by decide) ⟨by decide, by decide⟩) (by decide) rfl (Nat.le_of_ble_eq_true rfl) rfl (dk D_X0_prepare 44 rfl) (fun _ => ?_)
      refine r_iinc (lv' := [(5, 0, (w32 (v5 + 1))), (0, 2, v0), (1, 2, v1), (3, 0, v3), (4, 0, v4)]) (pc := 87) hX 4 rfl (by decide) rfl (dk D_X0_prepare 45 rfl) ?_
      refine r_goto (pc := 90) hX 65 rfl (dk D_X0_prepare 46 rfl) ?_
      refine r_sub (lv' := [(0, 2, v0), (1, 2, v1), (3, 0, v3), (4, 0, v4), (5, 0, (w32 (v5 + 1)))]) [1, 2, 3, 4, 0] rfl ?_
      exact ih v0 v1 v3 v4 (w32 (v5 + 1)) μ4 q_v3 q_v4 (R32_w _) h
set_option maxRecDepth 100000 in
set_option maxHeartbeats 4000000 in
theorem L_Ct_prepare_L96 {E : EX} {X : CX} {res : Int} {μe : Mem} (hX : Good E X cX0_prepare 6 "TollsBack$Counter") (hM : GoodM E X none none μe 0 0) (hRm : cR X = rmOf 4 0 0) {k125 : Int → Int → Int → Int → Mem → Option (Int × Mem)} (hk125 : ∀ (u0 u1 u2 u3 : Int) (μ : Mem), R32 u2 → R32 u3 → k125 u0 u1 u2 u3 μ = some (res, μe) → At E X cX0_prepare 6 "TollsBack$Counter" (0, 0) 125 [(0, 2, u0), (1, 2, u1), (3, 0, u2), (4, 0, u3)] [] μ) : ∀ (n : Nat) (v0 v1 v3 v4 v5 : Int) (μ : Mem) (q_v3 : R32 v3) (q_v4 : R32 v4) (q_v5 : R32 v5) (h : Ct_prepare_L96 k125 n v0 v1 v3 v4 v5 μ = some (res, μe)), At E X cX0_prepare 6 "TollsBack$Counter" (0, 0) 96 [(0, 2, v0), (1, 2, v1), (3, 0, v3), (4, 0, v4), (5, 0, v5)] [] μ := by
  intro n
  induction n with
  | zero =>
    intro v0 v1 v3 v4 v5 μ q_v3 q_v4 q_v5 h
    have h : (none : Option (Int × Mem)) = some (res, μe) := h
    cases h
  | succ n ih =>
    intro v0 v1 v3 v4 v5 μ q_v3 q_v4 q_v5 h
    rw [Ct_prepare_L96.eq_2] at h
    refine r_iload (pc := 96) hX 4 rfl (dk D_X0_prepare 49 rfl) ?_
    refine r_aloadn (pc := 98) hX 1 rfl (dk D_X0_prepare 50 rfl) ?_
    obtain ⟨x1, hx1, h⟩ := bd_some h
    refine r_getR (pc := 99) hX fl_0_36 rfl hx1 (dk D_X0_prepare 51 rfl) ?_
    obtain ⟨x2, hx2, h⟩ := bd_some h
    refine r_getI (pc := 102) hX fl_0_96 rfl rfl hx2 (dk D_X0_prepare 52 rfl) (fun qx2 => ?_)
    refine r_icmp_ge (pc := 105) hX q_v5 qx2 125 rfl (dk D_X0_prepare 53 rfl) (fun hc => ?_) (fun hc => ?_)
    · rw [if_neg hc] at h
      refine r_sub (lv' := [(0, 2, v0), (1, 2, v1), (3, 0, v3), (4, 0, v4)]) [0, 1, 2, 3] rfl ?_
      exact hk125 v0 v1 v3 v4 μ q_v3 q_v4 h
    · rw [if_pos hc] at h
      refine r_aloadn (pc := 108) hX 0 rfl (dk D_X0_prepare 54 rfl) ?_
      refine r_bipush (pc := 109) hX rfl (dk D_X0_prepare 55 rfl) ?_
      refine r_iload (pc := 111) hX 4 rfl (dk D_X0_prepare 56 rfl) ?_
      refine r_iadd (pc := 113) hX (dk D_X0_prepare 57 rfl) ?_
      refine r_iload (pc := 114) hX 3 rfl (dk D_X0_prepare 58 rfl) ?_
      obtain ⟨_, hi, h⟩ := bd_some h
      obtain ⟨x3, μ4, hx3, h⟩ := bd2_some h
      refine r_invV0 (As := [(0, (w32 (48 + v5))), (0, v4)]) (pc := 116) hX ml_0_92 (L_Ct_countRounds (R32_w _) q_v4 hx3) (isk_u hi) (Rm_of hRm (by decide) ⟨by decide, by decide⟩) (by decide) rfl (Nat.le_of_ble_eq_true rfl) rfl (dk D_X0_prepare 59 rfl) (fun _ => ?_)
      refine r_iinc (lv' := [(5, 0, (w32 (v5 + 1))), (0, 2, v0), (1, 2, v1), (3, 0, v3), (4, 0, v4)]) (pc := 119) hX 4 rfl (by decide) rfl (dk D_X0_prepare 60 rfl) ?_
      refine r_goto (pc := 122) hX 96 rfl (dk D_X0_prepare 61 rfl) ?_
      refine r_sub (lv' := [(0, 2, v0), (1, 2, v1), (3, 0, v3), (4, 0, v4), (5, 0, (w32 (v5 + 1)))]) [1, 2, 3, 4, 0] rfl ?_
      exact ih v0 v1 v3 v4 (w32 (v5 + 1)) μ4 q_v3 q_v4 (R32_w _) h
set_option maxRecDepth 100000 in
set_option maxHeartbeats 4000000 in
theorem L_Ct_prepare_L128 {E : EX} {X : CX} {res : Int} {μe : Mem} (hX : Good E X cX0_prepare 6 "TollsBack$Counter") (hM : GoodM E X none none μe 0 0) (hRm : cR X = rmOf 4 0 0) {k166 : Int → Int → Int → Int → Mem → Option (Int × Mem)} (hk166 : ∀ (u0 u1 u2 u3 : Int) (μ : Mem), R32 u2 → R32 u3 → k166 u0 u1 u2 u3 μ = some (res, μe) → At E X cX0_prepare 6 "TollsBack$Counter" (0, 0) 166 [(0, 2, u0), (1, 2, u1), (3, 0, u2), (4, 0, u3)] [] μ) : ∀ (n : Nat) (v0 v1 v3 v4 v5 : Int) (μ : Mem) (q_v3 : R32 v3) (q_v4 : R32 v4) (q_v5 : R32 v5) (h : Ct_prepare_L128 k166 n v0 v1 v3 v4 v5 μ = some (res, μe)), At E X cX0_prepare 6 "TollsBack$Counter" (0, 0) 128 [(0, 2, v0), (1, 2, v1), (3, 0, v3), (4, 0, v4), (5, 0, v5)] [] μ := by
  intro n
  induction n with
  | zero =>
    intro v0 v1 v3 v4 v5 μ q_v3 q_v4 q_v5 h
    have h : (none : Option (Int × Mem)) = some (res, μe) := h
    cases h
  | succ n ih =>
    intro v0 v1 v3 v4 v5 μ q_v3 q_v4 q_v5 h
    rw [Ct_prepare_L128.eq_2] at h
    refine r_iload (pc := 128) hX 4 rfl (dk D_X0_prepare 64 rfl) ?_
    refine r_iconst (pc := 130) hX (dk D_X0_prepare 65 rfl) ?_
    refine r_aloadn (pc := 131) hX 1 rfl (dk D_X0_prepare 66 rfl) ?_
    obtain ⟨x1, hx1, h⟩ := bd_some h
    refine r_getR (pc := 132) hX fl_0_36 rfl hx1 (dk D_X0_prepare 67 rfl) ?_
    obtain ⟨x2, hx2, h⟩ := bd_some h
    refine r_getI (pc := 135) hX fl_0_52 rfl rfl hx2 (dk D_X0_prepare 68 rfl) (fun qx2 => ?_)
    refine r_imul (pc := 138) hX (dk D_X0_prepare 69 rfl) ?_
    refine r_icmp_ge (pc := 139) hX q_v5 (R32_w _) 166 rfl (dk D_X0_prepare 70 rfl) (fun hc => ?_) (fun hc => ?_)
    · rw [if_neg hc] at h
      refine r_sub (lv' := [(0, 2, v0), (1, 2, v1), (3, 0, v3), (4, 0, v4)]) [0, 1, 2, 3] rfl ?_
      exact hk166 v0 v1 v3 v4 μ q_v3 q_v4 h
    · rw [if_pos hc] at h
      refine r_aloadn (pc := 142) hX 0 rfl (dk D_X0_prepare 71 rfl) ?_
      refine r_aloadn (pc := 143) hX 1 rfl (dk D_X0_prepare 72 rfl) ?_
      refine r_iload (pc := 144) hX 4 rfl (dk D_X0_prepare 73 rfl) ?_
      refine r_aloadn (pc := 146) hX 1 rfl (dk D_X0_prepare 74 rfl) ?_
      obtain ⟨x3, hx3, h⟩ := bd_some h
      refine r_getR (pc := 147) hX fl_0_36 rfl hx3 (dk D_X0_prepare 75 rfl) ?_
      refine r_iload (pc := 150) hX 4 rfl (dk D_X0_prepare 76 rfl) ?_
      obtain ⟨_, hi, h⟩ := bd_some h
      obtain ⟨x4, μ5, hx4, h⟩ := bd2_some h
      refine r_invV0 (As := [(0, v5)]) (pc := 152) hX ml_0_71 (L_Kg_endOf q_v5 hx4) (isk_u hi) (Rm_of hRm (by decide) ⟨by decide, by decide⟩) (by decide) rfl (Nat.le_of_ble_eq_true rfl) rfl (dk D_X0_prepare 77 rfl) (fun qx4 => ?_)
      refine r_iload (pc := 155) hX 3 rfl (dk D_X0_prepare 78 rfl) ?_
      obtain ⟨_, hi, h⟩ := bd_some h
      obtain ⟨x6, μ7, hx6, h⟩ := bd2_some h
      refine r_invV0 (As := [(2, v1), (0, v5), (0, x4), (0, v4)]) (pc := 157) hX ml_0_99 (L_Ct_sumBeyond q_v5 qx4 q_v4 hx6) (isk_u hi) (Rm_of hRm (by decide) ⟨by decide, by decide⟩) (by decide) rfl (Nat.le_of_ble_eq_true rfl) rfl (dk D_X0_prepare 79 rfl) (fun _ => ?_)
      refine r_iinc (lv' := [(5, 0, (w32 (v5 + 1))), (0, 2, v0), (1, 2, v1), (3, 0, v3), (4, 0, v4)]) (pc := 160) hX 4 rfl (by decide) rfl (dk D_X0_prepare 80 rfl) ?_
      refine r_goto (pc := 163) hX 128 rfl (dk D_X0_prepare 81 rfl) ?_
      refine r_sub (lv' := [(0, 2, v0), (1, 2, v1), (3, 0, v3), (4, 0, v4), (5, 0, (w32 (v5 + 1)))]) [1, 2, 3, 4, 0] rfl ?_
      exact ih v0 v1 v3 v4 (w32 (v5 + 1)) μ7 q_v3 q_v4 (R32_w _) h
set_option maxRecDepth 100000 in
set_option maxHeartbeats 4000000 in
theorem L_Ct_prepare_L169 {E : EX} {X : CX} {res : Int} {μe : Mem} (hX : Good E X cX0_prepare 6 "TollsBack$Counter") (hM : GoodM E X none none μe 0 0) (hRm : cR X = rmOf 4 0 0) {k201 : Int → Int → Int → Int → Mem → Option (Int × Mem)} (hk201 : ∀ (u0 u1 u2 u3 : Int) (μ : Mem), R32 u2 → R32 u3 → k201 u0 u1 u2 u3 μ = some (res, μe) → At E X cX0_prepare 6 "TollsBack$Counter" (0, 0) 201 [(0, 2, u0), (1, 2, u1), (3, 0, u2), (4, 0, u3)] [] μ) : ∀ (n : Nat) (v0 v1 v3 v4 v5 : Int) (μ : Mem) (q_v3 : R32 v3) (q_v4 : R32 v4) (q_v5 : R32 v5) (h : Ct_prepare_L169 k201 n v0 v1 v3 v4 v5 μ = some (res, μe)), At E X cX0_prepare 6 "TollsBack$Counter" (0, 0) 169 [(0, 2, v0), (1, 2, v1), (3, 0, v3), (4, 0, v4), (5, 0, v5)] [] μ := by
  intro n
  induction n with
  | zero =>
    intro v0 v1 v3 v4 v5 μ q_v3 q_v4 q_v5 h
    have h : (none : Option (Int × Mem)) = some (res, μe) := h
    cases h
  | succ n ih =>
    intro v0 v1 v3 v4 v5 μ q_v3 q_v4 q_v5 h
    rw [Ct_prepare_L169.eq_2] at h
    refine r_iload (pc := 169) hX 4 rfl (dk D_X0_prepare 84 rfl) ?_
    refine r_aloadn (pc := 171) hX 1 rfl (dk D_X0_prepare 85 rfl) ?_
    obtain ⟨x1, hx1, h⟩ := bd_some h
    refine r_getR (pc := 172) hX fl_0_36 rfl hx1 (dk D_X0_prepare 86 rfl) ?_
    obtain ⟨x2, hx2, h⟩ := bd_some h
    refine r_getI (pc := 175) hX fl_0_96 rfl rfl hx2 (dk D_X0_prepare 87 rfl) (fun qx2 => ?_)
    refine r_icmp_ge (pc := 178) hX q_v5 qx2 201 rfl (dk D_X0_prepare 88 rfl) (fun hc => ?_) (fun hc => ?_)
    · rw [if_neg hc] at h
      refine r_sub (lv' := [(0, 2, v0), (1, 2, v1), (3, 0, v3), (4, 0, v4)]) [0, 1, 2, 3] rfl ?_
      exact hk201 v0 v1 v3 v4 μ q_v3 q_v4 h
    · rw [if_pos hc] at h
      refine r_aloadn (pc := 181) hX 0 rfl (dk D_X0_prepare 89 rfl) ?_
      refine r_aloadn (pc := 182) hX 1 rfl (dk D_X0_prepare 90 rfl) ?_
      refine r_bipush (pc := 183) hX rfl (dk D_X0_prepare 91 rfl) ?_
      refine r_iload (pc := 185) hX 4 rfl (dk D_X0_prepare 92 rfl) ?_
      refine r_iadd (pc := 187) hX (dk D_X0_prepare 93 rfl) ?_
      refine r_iload (pc := 188) hX 4 rfl (dk D_X0_prepare 94 rfl) ?_
      refine r_iload (pc := 190) hX 3 rfl (dk D_X0_prepare 95 rfl) ?_
      obtain ⟨_, hi, h⟩ := bd_some h
      obtain ⟨x3, μ4, hx3, h⟩ := bd2_some h
      refine r_invV0 (As := [(2, v1), (0, (w32 (48 + v5))), (0, v5), (0, v4)]) (pc := 192) hX ml_0_99 (L_Ct_sumBeyond (R32_w _) q_v5 q_v4 hx3) (isk_u hi) (Rm_of hRm (by decide) ⟨by decide, by decide⟩) (by decide) rfl (Nat.le_of_ble_eq_true rfl) rfl (dk D_X0_prepare 96 rfl) (fun _ => ?_)
      refine r_iinc (lv' := [(5, 0, (w32 (v5 + 1))), (0, 2, v0), (1, 2, v1), (3, 0, v3), (4, 0, v4)]) (pc := 195) hX 4 rfl (by decide) rfl (dk D_X0_prepare 97 rfl) ?_
      refine r_goto (pc := 198) hX 169 rfl (dk D_X0_prepare 98 rfl) ?_
      refine r_sub (lv' := [(0, 2, v0), (1, 2, v1), (3, 0, v3), (4, 0, v4), (5, 0, (w32 (v5 + 1)))]) [1, 2, 3, 4, 0] rfl ?_
      exact ih v0 v1 v3 v4 (w32 (v5 + 1)) μ4 q_v3 q_v4 (R32_w _) h
set_option maxRecDepth 100000 in
set_option maxHeartbeats 4000000 in
theorem L_Ct_prepare_L47 {E : EX} {X : CX} {res : Int} {μe : Mem} (hX : Good E X cX0_prepare 6 "TollsBack$Counter") (hM : GoodM E X none none μe 0 0) (hRm : cR X = rmOf 4 0 0) : ∀ (n : Nat) (v0 v1 v3 v4 : Int) (μ : Mem) (q_v3 : R32 v3) (q_v4 : R32 v4) (h : Ct_prepare_L47 n v0 v1 v3 v4 μ = some (res, μe)), At E X cX0_prepare 6 "TollsBack$Counter" (0, 0) 47 [(0, 2, v0), (1, 2, v1), (3, 0, v3), (4, 0, v4)] [] μ := by
  intro n
  induction n with
  | zero =>
    intro v0 v1 v3 v4 μ q_v3 q_v4 h
    have h : (none : Option (Int × Mem)) = some (res, μe) := h
    cases h
  | succ n ih =>
    intro v0 v1 v3 v4 μ q_v3 q_v4 h
    rw [Ct_prepare_L47.eq_2] at h
    refine r_iload (pc := 47) hX 3 rfl (dk D_X0_prepare 24 rfl) ?_
    refine r_iloadn (pc := 49) hX 2 rfl (dk D_X0_prepare 25 rfl) ?_
    refine r_iconst (pc := 50) hX (dk D_X0_prepare 26 rfl) ?_
    obtain ⟨x1, hx1, h⟩ := bd_some h
    refine r_idiv (pc := 51) hX (R32_lit rfl) hx1 (dk D_X0_prepare 27 rfl) (fun qx1 => ?_)
    refine r_icmp_gt (pc := 52) hX q_v4 qx1 207 rfl (dk D_X0_prepare 28 rfl) (fun hc => ?_) (fun hc => ?_)
    · rw [if_pos hc] at h
      cases h
      exact r_return (pc := 207) hX hM ⟨by decide, by decide⟩ (dk D_X0_prepare 101 rfl)
    · rw [if_neg hc] at h
      refine r_iload (pc := 55) hX 3 rfl (dk D_X0_prepare 29 rfl) ?_
      refine r_bipush (pc := 57) hX rfl (dk D_X0_prepare 30 rfl) ?_
      refine r_icmp_ge (pc := 59) hX q_v4 (R32_lit rfl) 207 rfl (dk D_X0_prepare 31 rfl) (fun hc => ?_) (fun hc => ?_)
      · rw [if_neg hc] at h
        cases h
        exact r_return (pc := 207) hX hM ⟨by decide, by decide⟩ (dk D_X0_prepare 101 rfl)
      · rw [if_pos hc] at h
        refine r_iconst (pc := 62) hX (dk D_X0_prepare 32 rfl) ?_
        refine r_istore (lv' := [(5, 0, 0), (0, 2, v0), (1, 2, v1), (3, 0, v3), (4, 0, v4)]) (pc := 63) hX (by decide) rfl (dk D_X0_prepare 33 rfl) ?_
        refine r_sub (lv' := [(0, 2, v0), (1, 2, v1), (3, 0, v3), (4, 0, v4), (5, 0, 0)]) [1, 2, 3, 4, 0] rfl ?_
        refine L_Ct_prepare_L65 hX hM hRm ?_ FU v0 v1 v3 v4 0 μ q_v3 q_v4 (R32_lit rfl) h
        intro x2 x3 x4 x5 μ6 qx4 qx5 h
        refine r_iconst (pc := 93) hX (dk D_X0_prepare 47 rfl) ?_
        refine r_istore (lv' := [(5, 0, 0), (0, 2, x2), (1, 2, x3), (3, 0, x4), (4, 0, x5)]) (pc := 94) hX (by decide) rfl (dk D_X0_prepare 48 rfl) ?_
        refine r_sub (lv' := [(0, 2, x2), (1, 2, x3), (3, 0, x4), (4, 0, x5), (5, 0, 0)]) [1, 2, 3, 4, 0] rfl ?_
        refine L_Ct_prepare_L96 hX hM hRm ?_ FU x2 x3 x4 x5 0 μ6 qx4 qx5 (R32_lit rfl) h
        intro x7 x8 x9 x10 μ11 qx9 qx10 h
        refine r_iconst (pc := 125) hX (dk D_X0_prepare 62 rfl) ?_
        refine r_istore (lv' := [(5, 0, 0), (0, 2, x7), (1, 2, x8), (3, 0, x9), (4, 0, x10)]) (pc := 126) hX (by decide) rfl (dk D_X0_prepare 63 rfl) ?_
        refine r_sub (lv' := [(0, 2, x7), (1, 2, x8), (3, 0, x9), (4, 0, x10), (5, 0, 0)]) [1, 2, 3, 4, 0] rfl ?_
        refine L_Ct_prepare_L128 hX hM hRm ?_ FU x7 x8 x9 x10 0 μ11 qx9 qx10 (R32_lit rfl) h
        intro x12 x13 x14 x15 μ16 qx14 qx15 h
        refine r_iconst (pc := 166) hX (dk D_X0_prepare 82 rfl) ?_
        refine r_istore (lv' := [(5, 0, 0), (0, 2, x12), (1, 2, x13), (3, 0, x14), (4, 0, x15)]) (pc := 167) hX (by decide) rfl (dk D_X0_prepare 83 rfl) ?_
        refine r_sub (lv' := [(0, 2, x12), (1, 2, x13), (3, 0, x14), (4, 0, x15), (5, 0, 0)]) [1, 2, 3, 4, 0] rfl ?_
        refine L_Ct_prepare_L169 hX hM hRm ?_ FU x12 x13 x14 x15 0 μ16 qx14 qx15 (R32_lit rfl) h
        intro x17 x18 x19 x20 μ21 qx19 qx20 h
        refine r_iinc (lv' := [(4, 0, (w32 (x20 + 1))), (0, 2, x17), (1, 2, x18), (3, 0, x19)]) (pc := 201) hX 3 rfl (by decide) rfl (dk D_X0_prepare 99 rfl) ?_
        refine r_goto (pc := 204) hX 47 rfl (dk D_X0_prepare 100 rfl) ?_
        refine r_sub (lv' := [(0, 2, x17), (1, 2, x18), (3, 0, x19), (4, 0, (w32 (x20 + 1)))]) [1, 2, 3, 0] rfl ?_
        exact ih x17 x18 x19 (w32 (x20 + 1)) μ21 qx19 (R32_w _) h
set_option maxRecDepth 100000 in
set_option maxHeartbeats 4000000 in
theorem L_Ct_prepare {E : EX} {l : Launch} {a0 a1 a2 a3 res : Int} {μ μ' : Mem} (q_a3 : R32 a3) (h : Ct_prepare a0 a1 a2 a3 μ = some (res, μ')) : Ok E l 4 yX0_prepare (.code yX0_prepare cX0_prepare 6 none) 0 0 [(2, a0), (2, a1), (2, a2), (0, a3)] μ none μ' := by
  refine Ok.of (own := "TollsBack$Counter") [(0, 2, a0), (1, 2, a1), (2, 2, a2), (3, 0, a3)] (by decide +kernel) rfl (Nat.le_of_ble_eq_true rfl) rfl ?_
  intro X hL hRm hin hX hM
  unfold Ct_prepare at h
  subst hL
  refine r_aloadn (pc := 0) hX 0 rfl (dk D_X0_prepare 0 rfl) ?_
  refine r_iconst (pc := 1) hX (dk D_X0_prepare 1 rfl) ?_
  obtain ⟨μ1, hμ1, h⟩ := bd_some h
  refine r_putI (pc := 2) hX fl_0_78 rfl rfl (R32_lit rfl) trivial hμ1 (dk D_X0_prepare 2 rfl) ?_
  refine r_aloadn (pc := 5) hX 0 rfl (dk D_X0_prepare 3 rfl) ?_
  refine r_aloadn (pc := 6) hX 2 rfl (dk D_X0_prepare 4 rfl) ?_
  obtain ⟨x2, hx2, h⟩ := bd_some h
  refine r_getI (pc := 7) hX fl_0_81 rfl rfl hx2 (dk D_X0_prepare 5 rfl) (fun qx2 => ?_)
  obtain ⟨μ3, hμ3, h⟩ := bd_some h
  refine r_putI (pc := 10) hX fl_0_86 rfl rfl qx2 trivial hμ3 (dk D_X0_prepare 6 rfl) ?_
  refine r_iconst (pc := 13) hX (dk D_X0_prepare 7 rfl) ?_
  refine r_istore (lv' := [(4, 0, 0), (0, 2, a0), (1, 2, a1), (2, 2, a2), (3, 0, a3)]) (pc := 14) hX (by decide) rfl (dk D_X0_prepare 8 rfl) ?_
  refine r_sub (lv' := [(0, 2, a0), (1, 2, a1), (2, 2, a2), (3, 0, a3), (4, 0, 0)]) [1, 2, 3, 4, 0] rfl ?_
  refine L_Ct_prepare_L16 hX hM hRm ?_ FU a0 a1 a2 a3 0 μ3 q_a3 (R32_lit rfl) h
  intro x4 x5 x6 μ7 qx6 h
  refine r_iconst (pc := 44) hX (dk D_X0_prepare 22 rfl) ?_
  refine r_istore (lv' := [(4, 0, 0), (0, 2, x4), (1, 2, x5), (3, 0, x6)]) (pc := 45) hX (by decide) rfl (dk D_X0_prepare 23 rfl) ?_
  refine r_sub (lv' := [(0, 2, x4), (1, 2, x5), (3, 0, x6), (4, 0, 0)]) [1, 2, 3, 0] rfl ?_
  refine L_Ct_prepare_L47 hX hM hRm FU x4 x5 x6 0 μ7 qx6 (R32_lit rfl) h
set_option maxRecDepth 100000 in
set_option maxHeartbeats 4000000 in
theorem L_Ct_countAll {E : EX} {l : Launch} {a0 a1 a2 a3 res : Int} {μ μ' : Mem} (q_a3 : R32 a3) (h : Ct_countAll a0 a1 a2 a3 μ = some (res, μ')) : Ok E l 5 yX0_countAll (.code yX0_countAll cX0_countAll 4 (some .int)) 0 0 [(2, a0), (2, a1), (2, a2), (0, a3)] μ (some (0, res)) μ' := by
  refine Ok.of (own := "TollsBack$Counter") [(0, 2, a0), (1, 2, a1), (2, 2, a2), (3, 0, a3)] (by decide +kernel) rfl (Nat.le_of_ble_eq_true rfl) rfl ?_
  intro X hL hRm hin hX hM
  unfold Ct_countAll at h
  subst hL
  refine r_aloadn (pc := 0) hX 0 rfl (dk D_X0_countAll 0 rfl) ?_
  refine r_iconst (pc := 1) hX (dk D_X0_countAll 1 rfl) ?_
  obtain ⟨μ1, hμ1, h⟩ := bd_some h
  refine r_putI (pc := 2) hX fl_0_28 rfl rfl (R32_lit rfl) (Or.inl rfl) hμ1 (dk D_X0_countAll 2 rfl) ?_
  refine r_aloadn (pc := 5) hX 0 rfl (dk D_X0_countAll 3 rfl) ?_
  refine r_aloadn (pc := 6) hX 1 rfl (dk D_X0_countAll 4 rfl) ?_
  refine r_aloadn (pc := 7) hX 2 rfl (dk D_X0_countAll 5 rfl) ?_
  refine r_iloadn (pc := 8) hX 3 rfl (dk D_X0_countAll 6 rfl) ?_
  obtain ⟨_, hi, h⟩ := bd_some h
  obtain ⟨x2, μ3, hx2, h⟩ := bd2_some h
  refine r_invV0 (As := [(2, a1), (2, a2), (0, a3)]) (pc := 9) hX ml_0_32 (L_Ct_prepare q_a3 hx2) (isk_u hi) (Rm_of hRm (by decide) ⟨by decide, by decide⟩) (by decide) rfl (Nat.le_of_ble_eq_true rfl) rfl (dk D_X0_countAll 7 rfl) (fun _ => ?_)
  refine r_aloadn (pc := 12) hX 0 rfl (dk D_X0_countAll 8 rfl) ?_
  refine r_aloadn (pc := 13) hX 1 rfl (dk D_X0_countAll 9 rfl) ?_
  refine r_aloadn (pc := 14) hX 1 rfl (dk D_X0_countAll 10 rfl) ?_
  obtain ⟨x4, hx4, h⟩ := bd_some h
  refine r_getR (pc := 15) hX fl_0_36 rfl hx4 (dk D_X0_countAll 11 rfl) ?_
  obtain ⟨x5, hx5, h⟩ := bd_some h
  refine r_getI (pc := 18) hX fl_0_42 rfl rfl hx5 (dk D_X0_countAll 12 rfl) (fun qx5 => ?_)
  refine r_iloadn (pc := 21) hX 3 rfl (dk D_X0_countAll 13 rfl) ?_
  obtain ⟨_, hi, h⟩ := bd_some h
  obtain ⟨x6, μ7, hx6, h⟩ := bd2_some h
  refine r_invV0 (As := [(2, a1), (0, x5), (0, a3)]) (pc := 22) hX ml_0_48 (L_Ct_countFrom qx5 q_a3 hx6) (isk_u hi) (Rm_of hRm (by decide) ⟨by decide, by decide⟩) (by decide) rfl (Nat.le_of_ble_eq_true rfl) rfl (dk D_X0_countAll 14 rfl) (fun qx6 => ?_)
  refine r_l2i (pc := 25) hX qx6 (dk D_X0_countAll 15 rfl) ?_
  cases h
  exact r_ireturn (pc := 26) hX (R32_w _) hM ⟨by decide, by decide⟩ (dk D_X0_countAll 16 rfl)
set_option maxRecDepth 100000 in
set_option maxHeartbeats 4000000 in
theorem L_Ct_hold_J37 {E : EX} {X : CX} {res : Int} {μe : Mem} (hX : Good E X cX0_hold 2 "TollsBack$Counter") (hM : GoodM E X none none μe 0 0) (hRm : cR X = rmOf 1 0 0) {v0 v1 : Int} {μ : Mem} (q_v1 : R32 v1) (h : Ct_hold_J37 v0 v1 μ = some (res, μe)) : At E X cX0_hold 2 "TollsBack$Counter" (0, 0) 37 [(0, 2, v0), (1, 0, v1)] [] μ := by
  unfold Ct_hold_J37 at h
  refine r_aloadn (pc := 37) hX 0 rfl (dk D_X0_hold 21 rfl) ?_
  obtain ⟨x1, hx1, h⟩ := bd_some h
  refine r_getI (pc := 38) hX fl_0_78 rfl rfl hx1 (dk D_X0_hold 22 rfl) (fun qx1 => ?_)
  refine r_bipush (pc := 41) hX rfl (dk D_X0_hold 23 rfl) ?_
  refine r_icmp_ge (pc := 43) hX qx1 (R32_lit rfl) 66 rfl (dk D_X0_hold 24 rfl) (fun hc => ?_) (fun hc => ?_)
  · rw [if_neg hc] at h
    cases h
    exact r_return (pc := 66) hX hM ⟨by decide, by decide⟩ (dk D_X0_hold 37 rfl)
  · rw [if_pos hc] at h
    refine r_aloadn (pc := 46) hX 0 rfl (dk D_X0_hold 25 rfl) ?_
    obtain ⟨x2, hx2, h⟩ := bd_some h
    refine r_getR (pc := 47) hX fl_0_25 rfl hx2 (dk D_X0_hold 26 rfl) ?_
    refine r_aloadn (pc := 50) hX 0 rfl (dk D_X0_hold 27 rfl) ?_
    obtain ⟨x3, hx3, h⟩ := bd_some h
    refine r_getI (pc := 51) hX fl_0_78 rfl rfl hx3 (dk D_X0_hold 28 rfl) (fun qx3 => ?_)
    refine r_iloadn (pc := 54) hX 1 rfl (dk D_X0_hold 29 rfl) ?_
    obtain ⟨μ4, hμ4, h⟩ := bd_some h
    refine r_iast (pc := 55) hX qx3 q_v1 hμ4 (dk D_X0_hold 30 rfl) ?_
    refine r_aloadn (pc := 56) hX 0 rfl (dk D_X0_hold 31 rfl) ?_
    refine r_dup (pc := 57) hX rfl (dk D_X0_hold 32 rfl) ?_
    obtain ⟨x5, hx5, h⟩ := bd_some h
    refine r_getI (pc := 58) hX fl_0_78 rfl rfl hx5 (dk D_X0_hold 33 rfl) (fun qx5 => ?_)
    refine r_iconst (pc := 61) hX (dk D_X0_hold 34 rfl) ?_
    refine r_iadd (pc := 62) hX (dk D_X0_hold 35 rfl) ?_
    obtain ⟨μ6, hμ6, h⟩ := bd_some h
    refine r_putI (pc := 63) hX fl_0_78 rfl rfl (R32_w _) trivial hμ6 (dk D_X0_hold 36 rfl) ?_
    cases h
    exact r_return (pc := 66) hX hM ⟨by decide, by decide⟩ (dk D_X0_hold 37 rfl)
set_option maxRecDepth 100000 in
set_option maxHeartbeats 4000000 in
theorem L_Ct_hold {E : EX} {l : Launch} {a0 a1 res : Int} {μ μ' : Mem} (q_a1 : R32 a1) (h : Ct_hold a0 a1 μ = some (res, μ')) : Ok E l 1 yX0_hold (.code yX0_hold cX0_hold 2 none) 0 0 [(2, a0), (0, a1)] μ none μ' := by
  refine Ok.of (own := "TollsBack$Counter") [(0, 2, a0), (1, 0, a1)] (by decide +kernel) rfl (Nat.le_of_ble_eq_true rfl) rfl ?_
  intro X hL hRm hin hX hM
  unfold Ct_hold at h
  subst hL
  refine r_aloadn (pc := 0) hX 0 rfl (dk D_X0_hold 0 rfl) ?_
  obtain ⟨x1, hx1, h⟩ := bd_some h
  refine r_getI (pc := 1) hX fl_0_78 rfl rfl hx1 (dk D_X0_hold 1 rfl) (fun qx1 => ?_)
  refine r_if_le (pc := 4) hX qx1 37 rfl (dk D_X0_hold 2 rfl) (fun hc => ?_) (fun hc => ?_)
  · rw [if_neg hc] at h
    refine L_Ct_hold_J37 hX hM hRm q_a1 h
  · rw [if_pos hc] at h
    refine r_aloadn (pc := 7) hX 0 rfl (dk D_X0_hold 3 rfl) ?_
    obtain ⟨x2, hx2, h⟩ := bd_some h
    refine r_getR (pc := 8) hX fl_0_25 rfl hx2 (dk D_X0_hold 4 rfl) ?_
    refine r_aloadn (pc := 11) hX 0 rfl (dk D_X0_hold 5 rfl) ?_
    obtain ⟨x3, hx3, h⟩ := bd_some h
    refine r_getI (pc := 12) hX fl_0_78 rfl rfl hx3 (dk D_X0_hold 6 rfl) (fun qx3 => ?_)
    refine r_iconst (pc := 15) hX (dk D_X0_hold 7 rfl) ?_
    refine r_isub (pc := 16) hX (dk D_X0_hold 8 rfl) ?_
    obtain ⟨x4, hx4, h⟩ := bd_some h
    refine r_iald (pc := 17) hX (R32_w _) hx4 (dk D_X0_hold 9 rfl) (fun qx4 => ?_)
    refine r_iloadn (pc := 18) hX 1 rfl (dk D_X0_hold 10 rfl) ?_
    refine r_iconst (pc := 19) hX (dk D_X0_hold 11 rfl) ?_
    refine r_ixor (pc := 20) hX (dk D_X0_hold 12 rfl) ?_
    refine r_icmp_ne (pc := 21) hX qx4 (R32_t _) 37 rfl (dk D_X0_hold 13 rfl) (fun hc => ?_) (fun hc => ?_)
    · rw [if_neg hc] at h
      refine L_Ct_hold_J37 hX hM hRm q_a1 h
    · rw [if_pos hc] at h
      refine r_aloadn (pc := 24) hX 0 rfl (dk D_X0_hold 14 rfl) ?_
      refine r_dup (pc := 25) hX rfl (dk D_X0_hold 15 rfl) ?_
      obtain ⟨x5, hx5, h⟩ := bd_some h
      refine r_getI (pc := 26) hX fl_0_78 rfl rfl hx5 (dk D_X0_hold 16 rfl) (fun qx5 => ?_)
      refine r_iconst (pc := 29) hX (dk D_X0_hold 17 rfl) ?_
      refine r_isub (pc := 30) hX (dk D_X0_hold 18 rfl) ?_
      obtain ⟨μ6, hμ6, h⟩ := bd_some h
      refine r_putI (pc := 31) hX fl_0_78 rfl rfl (R32_w _) trivial hμ6 (dk D_X0_hold 19 rfl) ?_
      refine r_goto (pc := 34) hX 66 rfl (dk D_X0_hold 20 rfl) ?_
      cases h
      exact r_return (pc := 66) hX hM ⟨by decide, by decide⟩ (dk D_X0_hold 37 rfl)
set_option maxRecDepth 100000 in
set_option maxHeartbeats 4000000 in
theorem L_Kg_across {E : EX} {l : Launch} {a0 a1 a2 res : Int} {μ μ' : Mem} (q_a1 : R32 a1) (q_a2 : R32 a2) (h : Kg_across a0 a1 a2 μ = some (res, μ')) : Ok E l 1 yX1_across (.code yX1_across cX1_across 3 (some .int)) 0 0 [(2, a0), (0, a1), (0, a2)] μ (some (0, res)) μ' := by
  refine Ok.of (own := "TollsBack$Kingdom") [(0, 2, a0), (1, 0, a1), (2, 0, a2)] (by decide +kernel) rfl (Nat.le_of_ble_eq_true rfl) rfl ?_
  intro X hL hRm hin hX hM
  unfold Kg_across at h
  subst hL
  refine r_aloadn (pc := 0) hX 0 rfl (dk D_X1_across 0 rfl) ?_
  obtain ⟨x1, hx1, h⟩ := bd_some h
  refine r_getR (pc := 1) hX fl_1_9 rfl hx1 (dk D_X1_across 1 rfl) ?_
  refine r_iloadn (pc := 4) hX 1 rfl (dk D_X1_across 2 rfl) ?_
  obtain ⟨x2, hx2, h⟩ := bd_some h
  refine r_iald (pc := 5) hX q_a1 hx2 (dk D_X1_across 3 rfl) (fun qx2 => ?_)
  refine r_iloadn (pc := 6) hX 2 rfl (dk D_X1_across 4 rfl) ?_
  refine r_icmp_ne (pc := 7) hX qx2 q_a2 19 rfl (dk D_X1_across 5 rfl) (fun hc => ?_) (fun hc => ?_)
  · rw [if_neg hc] at h
    refine r_aloadn (pc := 19) hX 0 rfl (dk D_X1_across 11 rfl) ?_
    obtain ⟨x3, hx3, h⟩ := bd_some h
    refine r_getR (pc := 20) hX fl_1_9 rfl hx3 (dk D_X1_across 12 rfl) ?_
    refine r_iloadn (pc := 23) hX 1 rfl (dk D_X1_across 13 rfl) ?_
    obtain ⟨x4, hx4, h⟩ := bd_some h
    refine r_iald (pc := 24) hX q_a1 hx4 (dk D_X1_across 14 rfl) (fun qx4 => ?_)
    cases h
    exact r_ireturn (pc := 25) hX qx4 hM ⟨by decide, by decide⟩ (dk D_X1_across 15 rfl)
  · rw [if_pos hc] at h
    refine r_aloadn (pc := 10) hX 0 rfl (dk D_X1_across 6 rfl) ?_
    obtain ⟨x5, hx5, h⟩ := bd_some h
    refine r_getR (pc := 11) hX fl_1_15 rfl hx5 (dk D_X1_across 7 rfl) ?_
    refine r_iloadn (pc := 14) hX 1 rfl (dk D_X1_across 8 rfl) ?_
    obtain ⟨x6, hx6, h⟩ := bd_some h
    refine r_iald (pc := 15) hX q_a1 hx6 (dk D_X1_across 9 rfl) (fun qx6 => ?_)
    refine r_goto (pc := 16) hX 25 rfl (dk D_X1_across 10 rfl) ?_
    cases h
    exact r_ireturn (pc := 25) hX qx6 hM ⟨by decide, by decide⟩ (dk D_X1_across 15 rfl)
set_option maxRecDepth 100000 in
set_option maxHeartbeats 4000000 in
theorem L_Ct_roadOf_L42 {E : EX} {X : CX} {res : Int} {μe : Mem} (hX : Good E X cX0_roadOf 15 "TollsBack$Counter") (hM : GoodM E X (some .int) (some (0, res)) μe 0 0) (hRm : cR X = rmOf 5 0 0) {k163 : Int → Int → Int → Int → Int → Int → Int → Int → Mem → Option (Int × Mem)} (hk163 : ∀ (u0 u1 u2 u3 u4 u5 u6 u7 : Int) (μ : Mem), R32 u2 → R32 u3 → R64 u4 → R32 u5 → R32 u6 → R32 u7 → k163 u0 u1 u2 u3 u4 u5 u6 u7 μ = some (res, μe) → At E X cX0_roadOf 15 "TollsBack$Counter" (0, 0) 163 [(0, 2, u0), (1, 2, u1), (3, 0, u2), (5, 0, u3), (6, 1, u4), (8, 0, u5), (9, 0, u6), (10, 0, u7)] [] μ) : ∀ (n : Nat) (v0 v1 v3 v5 v6 v8 v9 v10 v11 : Int) (μ : Mem) (q_v3 : R32 v3) (q_v5 : R32 v5) (q_v6 : R64 v6) (q_v8 : R32 v8) (q_v9 : R32 v9) (q_v10 : R32 v10) (q_v11 : R32 v11) (h : Ct_roadOf_L42 k163 n v0 v1 v3 v5 v6 v8 v9 v10 v11 μ = some (res, μe)), At E X cX0_roadOf 15 "TollsBack$Counter" (0, 0) 42 [(0, 2, v0), (1, 2, v1), (3, 0, v3), (5, 0, v5), (6, 1, v6), (8, 0, v8), (9, 0, v9), (10, 0, v10), (11, 0, v11)] [] μ := by
  intro n
  induction n with
  | zero =>
    intro v0 v1 v3 v5 v6 v8 v9 v10 v11 μ q_v3 q_v5 q_v6 q_v8 q_v9 q_v10 q_v11 h
    have h : (none : Option (Int × Mem)) = some (res, μe) := h
    cases h
  | succ n ih =>
    intro v0 v1 v3 v5 v6 v8 v9 v10 v11 μ q_v3 q_v5 q_v6 q_v8 q_v9 q_v10 q_v11 h
    rw [Ct_roadOf_L42.eq_2] at h
    refine r_iload (pc := 42) hX 8 rfl (dk D_X0_roadOf 24 rfl) ?_
    refine r_aloadn (pc := 44) hX 1 rfl (dk D_X0_roadOf 25 rfl) ?_
    obtain ⟨x1, hx1, h⟩ := bd_some h
    refine r_getR (pc := 45) hX fl_0_36 rfl hx1 (dk D_X0_roadOf 26 rfl) ?_
    obtain ⟨x2, hx2, h⟩ := bd_some h
    refine r_getI (pc := 48) hX fl_0_52 rfl rfl hx2 (dk D_X0_roadOf 27 rfl) (fun qx2 => ?_)
    refine r_icmp_ge (pc := 51) hX q_v11 qx2 163 rfl (dk D_X0_roadOf 28 rfl) (fun hc => ?_) (fun hc => ?_)
    · rw [if_neg hc] at h
      refine r_sub (lv' := [(0, 2, v0), (1, 2, v1), (3, 0, v3), (5, 0, v5), (6, 1, v6), (8, 0, v8), (9, 0, v9), (10, 0, v10)]) [0, 1, 2, 3, 4, 5, 6, 7] rfl ?_
      exact hk163 v0 v1 v3 v5 v6 v8 v9 v10 μ q_v3 q_v5 q_v6 q_v8 q_v9 q_v10 h
    · rw [if_pos hc] at h
      refine r_iload (pc := 54) hX 7 rfl (dk D_X0_roadOf 29 rfl) ?_
      refine r_iconst (pc := 56) hX (dk D_X0_roadOf 30 rfl) ?_
      refine r_icmp_ne (pc := 57) hX q_v10 (R32_lit rfl) 163 rfl (dk D_X0_roadOf 31 rfl) (fun hc => ?_) (fun hc => ?_)
      · rw [if_neg hc] at h
        refine r_sub (lv' := [(0, 2, v0), (1, 2, v1), (3, 0, v3), (5, 0, v5), (6, 1, v6), (8, 0, v8), (9, 0, v9), (10, 0, v10)]) [0, 1, 2, 3, 4, 5, 6, 7] rfl ?_
        exact hk163 v0 v1 v3 v5 v6 v8 v9 v10 μ q_v3 q_v5 q_v6 q_v8 q_v9 q_v10 h
      · rw [if_pos hc] at h
        refine r_aloadn (pc := 60) hX 1 rfl (dk D_X0_roadOf 32 rfl) ?_
        refine r_iload (pc := 61) hX 8 rfl (dk D_X0_roadOf 33 rfl) ?_
        obtain ⟨_, hi, h⟩ := bd_some h
        obtain ⟨x3, μ4, hx3, h⟩ := bd2_some h
        refine r_invV0 (As := [(0, v11)]) (pc := 63) hX ml_0_55 (L_Wo_isOpen q_v11 hx3) (isk_u hi) (Rm_of hRm (by decide) ⟨by decide, by decide⟩) (by decide) rfl (Nat.le_of_ble_eq_true rfl) rfl (dk D_X0_roadOf 34 rfl) (fun qx3 => ?_)
        refine r_if_eq (pc := 66) hX qx3 157 rfl (dk D_X0_roadOf 35 rfl) (fun hc => ?_) (fun hc => ?_)
        · rw [if_pos hc] at h
          refine r_iinc (lv' := [(11, 0, (w32 (v11 + 1))), (0, 2, v0), (1, 2, v1), (3, 0, v3), (5, 0, v5), (6, 1, v6), (8, 0, v8), (9, 0, v9), (10, 0, v10)]) (pc := 157) hX 8 rfl (by decide) rfl (dk D_X0_roadOf 81 rfl) ?_
          refine r_goto (pc := 160) hX 42 rfl (dk D_X0_roadOf 82 rfl) ?_
          refine r_sub (lv' := [(0, 2, v0), (1, 2, v1), (3, 0, v3), (5, 0, v5), (6, 1, v6), (8, 0, v8), (9, 0, v9), (10, 0, v10), (11, 0, (w32 (v11 + 1)))]) [1, 2, 3, 4, 5, 6, 7, 8, 0] rfl ?_
          exact ih v0 v1 v3 v5 v6 v8 v9 v10 (w32 (v11 + 1)) μ4 q_v3 q_v5 q_v6 q_v8 q_v9 q_v10 (R32_w _) h
        · rw [if_neg hc] at h
          refine r_aloadn (pc := 69) hX 1 rfl (dk D_X0_roadOf 36 rfl) ?_
          obtain ⟨x5, hx5, h⟩ := bd_some h
          refine r_getR (pc := 70) hX fl_0_36 rfl hx5 (dk D_X0_roadOf 37 rfl) ?_
          refine r_iload (pc := 73) hX 8 rfl (dk D_X0_roadOf 38 rfl) ?_
          refine r_iload (pc := 75) hX 5 rfl (dk D_X0_roadOf 39 rfl) ?_
          obtain ⟨_, hi, h⟩ := bd_some h
          obtain ⟨x6, μ7, hx6, h⟩ := bd2_some h
          refine r_invV0 (As := [(0, v11), (0, v8)]) (pc := 77) hX ml_0_59 (L_Kg_leadsFrom q_v11 q_v8 hx6) (isk_u hi) (Rm_of hRm (by decide) ⟨by decide, by decide⟩) (by decide) rfl (Nat.le_of_ble_eq_true rfl) rfl (dk D_X0_roadOf 40 rfl) (fun qx6 => ?_)
          refine r_if_ne (pc := 80) hX qx6 86 rfl (dk D_X0_roadOf 41 rfl) (fun hc => ?_) (fun hc => ?_)
          · rw [if_neg hc] at h
            refine r_aloadn (pc := 86) hX 1 rfl (dk D_X0_roadOf 43 rfl) ?_
            obtain ⟨x8, hx8, h⟩ := bd_some h
            refine r_getR (pc := 87) hX fl_0_36 rfl hx8 (dk D_X0_roadOf 44 rfl) ?_
            refine r_iload (pc := 90) hX 8 rfl (dk D_X0_roadOf 45 rfl) ?_
            refine r_iload (pc := 92) hX 5 rfl (dk D_X0_roadOf 46 rfl) ?_
            obtain ⟨_, hi, h⟩ := bd_some h
            obtain ⟨x9, μ10, hx9, h⟩ := bd2_some h
            refine r_invV0 (As := [(0, v11), (0, v8)]) (pc := 94) hX ml_0_63 (L_Kg_markOf q_v11 q_v8 hx9) (isk_u hi) (Rm_of hRm (by decide) ⟨by decide, by decide⟩) (by decide) rfl (Nat.le_of_ble_eq_true rfl) rfl (dk D_X0_roadOf 47 rfl) (fun qx9 => ?_)
            refine r_istore (lv' := [(12, 0, x9), (0, 2, v0), (1, 2, v1), (3, 0, v3), (5, 0, v5), (6, 1, v6), (8, 0, v8), (9, 0, v9), (10, 0, v10), (11, 0, v11)]) (pc := 97) hX (by decide) rfl (dk D_X0_roadOf 48 rfl) ?_
            refine r_aloadn (pc := 99) hX 1 rfl (dk D_X0_roadOf 49 rfl) ?_
            refine r_iload (pc := 100) hX 0 rfl (dk D_X0_roadOf 50 rfl) ?_
            obtain ⟨_, hi, h⟩ := bd_some h
            obtain ⟨x11, μ12, hx11, h⟩ := bd2_some h
            refine r_invV0 (As := [(0, x9)]) (pc := 102) hX ml_0_67 (L_Ct_hold qx9 hx11) (isk_u hi) (Rm_of hRm (by decide) ⟨by decide, by decide⟩) (by decide) rfl (Nat.le_of_ble_eq_true rfl) rfl (dk D_X0_roadOf 51 rfl) (fun _ => ?_)
            refine r_aloadn (pc := 105) hX 1 rfl (dk D_X0_roadOf 52 rfl) ?_
            refine r_aloadn (pc := 106) hX 2 rfl (dk D_X0_roadOf 53 rfl) ?_
            refine r_aloadn (pc := 107) hX 2 rfl (dk D_X0_roadOf 54 rfl) ?_
            obtain ⟨x13, hx13, h⟩ := bd_some h
            refine r_getR (pc := 108) hX fl_0_36 rfl hx13 (dk D_X0_roadOf 55 rfl) ?_
            refine r_iload (pc := 111) hX 0 rfl (dk D_X0_roadOf 56 rfl) ?_
            obtain ⟨_, hi, h⟩ := bd_some h
            obtain ⟨x14, μ15, hx14, h⟩ := bd2_some h
            refine r_invV0 (As := [(0, x9)]) (pc := 113) hX ml_0_71 (L_Kg_endOf qx9 hx14) (isk_u hi) (Rm_of hRm (by decide) ⟨by decide, by decide⟩) (by decide) rfl (Nat.le_of_ble_eq_true rfl) rfl (dk D_X0_roadOf 57 rfl) (fun qx14 => ?_)
            refine r_iloadn (pc := 116) hX 3 rfl (dk D_X0_roadOf 58 rfl) ?_
            refine r_iload (pc := 117) hX 7 rfl (dk D_X0_roadOf 59 rfl) ?_
            refine r_isub (pc := 119) hX (dk D_X0_roadOf 60 rfl) ?_
            refine r_iconst (pc := 120) hX (dk D_X0_roadOf 61 rfl) ?_
            refine r_isub (pc := 121) hX (dk D_X0_roadOf 62 rfl) ?_
            obtain ⟨_, hi, h⟩ := bd_some h
            obtain ⟨x16, μ17, hx16, h⟩ := bd2_some h
            refine r_invV0 (As := [(2, v1), (0, x14), (0, (w32 ((w32 (v3 - v9)) - 1)))]) (pc := 122) hX ml_0_48 (L_Ct_countFrom qx14 (R32_w _) hx16) (isk_u hi) (Rm_of hRm (by decide) ⟨by decide, by decide⟩) (by decide) rfl (Nat.le_of_ble_eq_true rfl) rfl (dk D_X0_roadOf 63 rfl) (fun qx16 => ?_)
            refine r_lstore (lv' := [(13, 1, x16), (12, 0, x9), (0, 2, v0), (1, 2, v1), (3, 0, v3), (5, 0, v5), (6, 1, v6), (8, 0, v8), (9, 0, v9), (10, 0, v10), (11, 0, v11)]) (pc := 125) hX (by decide) rfl (dk D_X0_roadOf 64 rfl) ?_
            refine r_lload (pc := 127) hX 6 rfl (dk D_X0_roadOf 65 rfl) ?_
            refine r_lload (pc := 129) hX 0 rfl (dk D_X0_roadOf 66 rfl) ?_
            refine r_lcmp (pc := 131) hX q_v6 qx16 (dk D_X0_roadOf 67 rfl) ?_
            refine r_if_ge (pc := 132) hX (R32_cmp _ _) 142 rfl (dk D_X0_roadOf 68 rfl) (fun hc => ?_) (fun hc => ?_)
            · rw [if_neg hc] at h
              refine r_lload (pc := 142) hX 6 rfl (dk D_X0_roadOf 72 rfl) ?_
              refine r_lload (pc := 144) hX 0 rfl (dk D_X0_roadOf 73 rfl) ?_
              refine r_lsub (pc := 146) hX (dk D_X0_roadOf 74 rfl) ?_
              obtain ⟨x18, ex18, h⟩ := bd_some h
              replace ex18 := Option.some.inj ex18
              have qx18 : R64 x18 := ex18 ▸ (R64_w _)
              rw [ex18]
              refine r_lstore (lv' := [(6, 1, x18), (13, 1, x16), (12, 0, x9), (0, 2, v0), (1, 2, v1), (3, 0, v3), (5, 0, v5), (8, 0, v8), (9, 0, v9), (10, 0, v10), (11, 0, v11)]) (pc := 147) hX (by decide) rfl (dk D_X0_roadOf 75 rfl) ?_
              refine r_aloadn (pc := 149) hX 3 rfl (dk D_X0_roadOf 76 rfl) ?_
              refine r_iload (pc := 150) hX 2 rfl (dk D_X0_roadOf 77 rfl) ?_
              refine r_iconst (pc := 152) hX (dk D_X0_roadOf 78 rfl) ?_
              refine r_ixor (pc := 153) hX (dk D_X0_roadOf 79 rfl) ?_
              obtain ⟨_, hi, h⟩ := bd_some h
              obtain ⟨x19, μ20, hx19, h⟩ := bd2_some h
              refine r_invV0 (As := [(0, (xor32 x9 1))]) (pc := 154) hX ml_0_67 (L_Ct_hold (R32_t _) hx19) (isk_u hi) (Rm_of hRm (by decide) ⟨by decide, by decide⟩) (by decide) rfl (Nat.le_of_ble_eq_true rfl) rfl (dk D_X0_roadOf 80 rfl) (fun _ => ?_)
              refine r_iinc (lv' := [(11, 0, (w32 (v11 + 1))), (6, 1, x18), (13, 1, x16), (12, 0, x9), (0, 2, v0), (1, 2, v1), (3, 0, v3), (5, 0, v5), (8, 0, v8), (9, 0, v9), (10, 0, v10)]) (pc := 157) hX 10 rfl (by decide) rfl (dk D_X0_roadOf 81 rfl) ?_
              refine r_goto (pc := 160) hX 42 rfl (dk D_X0_roadOf 82 rfl) ?_
              refine r_sub (lv' := [(0, 2, v0), (1, 2, v1), (3, 0, v3), (5, 0, v5), (6, 1, x18), (8, 0, v8), (9, 0, v9), (10, 0, v10), (11, 0, (w32 (v11 + 1)))]) [4, 5, 6, 7, 1, 8, 9, 10, 0] rfl ?_
              exact ih v0 v1 v3 v5 x18 v8 v9 v10 (w32 (v11 + 1)) μ20 q_v3 q_v5 qx18 q_v8 q_v9 q_v10 (R32_w _) h
            · rw [if_pos hc] at h
              refine r_iload (pc := 135) hX 10 rfl (dk D_X0_roadOf 69 rfl) ?_
              refine r_istore (lv' := [(10, 0, v11), (13, 1, x16), (12, 0, x9), (0, 2, v0), (1, 2, v1), (3, 0, v3), (5, 0, v5), (6, 1, v6), (8, 0, v8), (9, 0, v9), (11, 0, v11)]) (pc := 137) hX (by decide) rfl (dk D_X0_roadOf 70 rfl) ?_
              refine r_goto (pc := 139) hX 157 rfl (dk D_X0_roadOf 71 rfl) ?_
              refine r_iinc (lv' := [(11, 0, (w32 (v11 + 1))), (10, 0, v11), (13, 1, x16), (12, 0, x9), (0, 2, v0), (1, 2, v1), (3, 0, v3), (5, 0, v5), (6, 1, v6), (8, 0, v8), (9, 0, v9)]) (pc := 157) hX 10 rfl (by decide) rfl (dk D_X0_roadOf 81 rfl) ?_
              refine r_goto (pc := 160) hX 42 rfl (dk D_X0_roadOf 82 rfl) ?_
              refine r_sub (lv' := [(0, 2, v0), (1, 2, v1), (3, 0, v3), (5, 0, v5), (6, 1, v6), (8, 0, v8), (9, 0, v9), (10, 0, v11), (11, 0, (w32 (v11 + 1)))]) [4, 5, 6, 7, 8, 9, 10, 1, 0] rfl ?_
              exact ih v0 v1 v3 v5 v6 v8 v9 v11 (w32 (v11 + 1)) μ17 q_v3 q_v5 q_v6 q_v8 q_v9 q_v11 (R32_w _) h
          · rw [if_pos hc] at h
            refine r_goto (pc := 83) hX 157 rfl (dk D_X0_roadOf 42 rfl) ?_
            refine r_iinc (lv' := [(11, 0, (w32 (v11 + 1))), (0, 2, v0), (1, 2, v1), (3, 0, v3), (5, 0, v5), (6, 1, v6), (8, 0, v8), (9, 0, v9), (10, 0, v10)]) (pc := 157) hX 8 rfl (by decide) rfl (dk D_X0_roadOf 81 rfl) ?_
            refine r_goto (pc := 160) hX 42 rfl (dk D_X0_roadOf 82 rfl) ?_
            refine r_sub (lv' := [(0, 2, v0), (1, 2, v1), (3, 0, v3), (5, 0, v5), (6, 1, v6), (8, 0, v8), (9, 0, v9), (10, 0, v10), (11, 0, (w32 (v11 + 1)))]) [1, 2, 3, 4, 5, 6, 7, 8, 0] rfl ?_
            exact ih v0 v1 v3 v5 v6 v8 v9 v10 (w32 (v11 + 1)) μ7 q_v3 q_v5 q_v6 q_v8 q_v9 q_v10 (R32_w _) h
set_option maxRecDepth 100000 in
set_option maxHeartbeats 4000000 in
theorem L_Ct_roadOf_J163 {E : EX} {X : CX} {res : Int} {μe : Mem} (hX : Good E X cX0_roadOf 15 "TollsBack$Counter") (hM : GoodM E X (some .int) (some (0, res)) μe 0 0) (hRm : cR X = rmOf 5 0 0) {k29 : Int → Int → Int → Int → Int → Int → Int → Mem → Option (Int × Mem)} (hk29 : ∀ (u0 u1 u2 u3 u4 u5 u6 : Int) (μ : Mem), R32 u2 → R32 u3 → R64 u4 → R32 u5 → R32 u6 → k29 u0 u1 u2 u3 u4 u5 u6 μ = some (res, μe) → At E X cX0_roadOf 15 "TollsBack$Counter" (0, 0) 29 [(0, 2, u0), (1, 2, u1), (3, 0, u2), (5, 0, u3), (6, 1, u4), (8, 0, u5), (9, 0, u6)] [] μ) {v0 v1 v3 v5 v6 v8 v9 v10 : Int} {μ : Mem} (q_v3 : R32 v3) (q_v5 : R32 v5) (q_v6 : R64 v6) (q_v8 : R32 v8) (q_v9 : R32 v9) (q_v10 : R32 v10) (h : Ct_roadOf_J163 k29 v0 v1 v3 v5 v6 v8 v9 v10 μ = some (res, μe)) : At E X cX0_roadOf 15 "TollsBack$Counter" (0, 0) 163 [(0, 2, v0), (1, 2, v1), (3, 0, v3), (5, 0, v5), (6, 1, v6), (8, 0, v8), (9, 0, v9), (10, 0, v10)] [] μ := by
  unfold Ct_roadOf_J163 at h
  refine r_iload (pc := 163) hX 7 rfl (dk D_X0_roadOf 83 rfl) ?_
  refine r_iconst (pc := 165) hX (dk D_X0_roadOf 84 rfl) ?_
  refine r_icmp_eq (pc := 166) hX q_v10 (R32_lit rfl) 176 rfl (dk D_X0_roadOf 85 rfl) (fun hc => ?_) (fun hc => ?_)
  · rw [if_pos hc] at h
    refine r_iload (pc := 176) hX 7 rfl (dk D_X0_roadOf 89 rfl) ?_
    cases h
    exact r_ireturn (pc := 178) hX q_v10 hM ⟨by decide, by decide⟩ (dk D_X0_roadOf 90 rfl)
  · rw [if_neg hc] at h
    refine r_iload (pc := 169) hX 6 rfl (dk D_X0_roadOf 86 rfl) ?_
    refine r_iload (pc := 171) hX 3 rfl (dk D_X0_roadOf 87 rfl) ?_
    refine r_icmp_ne (pc := 173) hX q_v9 q_v5 179 rfl (dk D_X0_roadOf 88 rfl) (fun hc => ?_) (fun hc => ?_)
    · rw [if_neg hc] at h
      refine r_aloadn (pc := 179) hX 1 rfl (dk D_X0_roadOf 91 rfl) ?_
      obtain ⟨x1, hx1, h⟩ := bd_some h
      refine r_getR (pc := 180) hX fl_0_36 rfl hx1 (dk D_X0_roadOf 92 rfl) ?_
      refine r_iload (pc := 183) hX 7 rfl (dk D_X0_roadOf 93 rfl) ?_
      refine r_iload (pc := 185) hX 5 rfl (dk D_X0_roadOf 94 rfl) ?_
      obtain ⟨_, hi, h⟩ := bd_some h
      obtain ⟨x2, μ3, hx2, h⟩ := bd2_some h
      refine r_invV0 (As := [(0, v10), (0, v8)]) (pc := 187) hX ml_0_75 (L_Kg_across q_v10 q_v8 hx2) (isk_u hi) (Rm_of hRm (by decide) ⟨by decide, by decide⟩) (by decide) rfl (Nat.le_of_ble_eq_true rfl) rfl (dk D_X0_roadOf 95 rfl) (fun qx2 => ?_)
      refine r_istore (lv' := [(8, 0, x2), (0, 2, v0), (1, 2, v1), (3, 0, v3), (5, 0, v5), (6, 1, v6), (9, 0, v9), (10, 0, v10)]) (pc := 190) hX (by decide) rfl (dk D_X0_roadOf 96 rfl) ?_
      refine r_iinc (lv' := [(9, 0, (w32 (v9 + 1))), (8, 0, x2), (0, 2, v0), (1, 2, v1), (3, 0, v3), (5, 0, v5), (6, 1, v6), (10, 0, v10)]) (pc := 192) hX 6 rfl (by decide) rfl (dk D_X0_roadOf 97 rfl) ?_
      refine r_goto (pc := 195) hX 29 rfl (dk D_X0_roadOf 98 rfl) ?_
      refine r_sub (lv' := [(0, 2, v0), (1, 2, v1), (3, 0, v3), (5, 0, v5), (6, 1, v6), (8, 0, x2), (9, 0, (w32 (v9 + 1)))]) [2, 3, 4, 5, 6, 1, 0] rfl ?_
      exact hk29 v0 v1 v3 v5 v6 x2 (w32 (v9 + 1)) μ3 q_v3 q_v5 q_v6 qx2 (R32_w _) h
    · rw [if_pos hc] at h
      refine r_iload (pc := 176) hX 7 rfl (dk D_X0_roadOf 89 rfl) ?_
      cases h
      exact r_ireturn (pc := 178) hX q_v10 hM ⟨by decide, by decide⟩ (dk D_X0_roadOf 90 rfl)
set_option maxRecDepth 100000 in
set_option maxHeartbeats 4000000 in
theorem L_Ct_roadOf_L29 {E : EX} {X : CX} {res : Int} {μe : Mem} (hX : Good E X cX0_roadOf 15 "TollsBack$Counter") (hM : GoodM E X (some .int) (some (0, res)) μe 0 0) (hRm : cR X = rmOf 5 0 0) : ∀ (n : Nat) (v0 v1 v3 v5 v6 v8 v9 : Int) (μ : Mem) (q_v3 : R32 v3) (q_v5 : R32 v5) (q_v6 : R64 v6) (q_v8 : R32 v8) (q_v9 : R32 v9) (h : Ct_roadOf_L29 n v0 v1 v3 v5 v6 v8 v9 μ = some (res, μe)), At E X cX0_roadOf 15 "TollsBack$Counter" (0, 0) 29 [(0, 2, v0), (1, 2, v1), (3, 0, v3), (5, 0, v5), (6, 1, v6), (8, 0, v8), (9, 0, v9)] [] μ := by
  intro n
  induction n with
  | zero =>
    intro v0 v1 v3 v5 v6 v8 v9 μ q_v3 q_v5 q_v6 q_v8 q_v9 h
    have h : (none : Option (Int × Mem)) = some (res, μe) := h
    cases h
  | succ n ih =>
    intro v0 v1 v3 v5 v6 v8 v9 μ q_v3 q_v5 q_v6 q_v8 q_v9 h
    rw [Ct_roadOf_L29.eq_2] at h
    refine r_iload (pc := 29) hX 6 rfl (dk D_X0_roadOf 17 rfl) ?_
    refine r_iload (pc := 31) hX 3 rfl (dk D_X0_roadOf 18 rfl) ?_
    refine r_icmp_gt (pc := 33) hX q_v9 q_v5 198 rfl (dk D_X0_roadOf 19 rfl) (fun hc => ?_) (fun hc => ?_)
    · rw [if_pos hc] at h
      refine r_iconst (pc := 198) hX (dk D_X0_roadOf 99 rfl) ?_
      cases h
      exact r_ireturn (pc := 199) hX (R32_lit rfl) hM ⟨by decide, by decide⟩ (dk D_X0_roadOf 100 rfl)
    · rw [if_neg hc] at h
      refine r_iconst (pc := 36) hX (dk D_X0_roadOf 20 rfl) ?_
      refine r_istore (lv' := [(10, 0, (-1)), (0, 2, v0), (1, 2, v1), (3, 0, v3), (5, 0, v5), (6, 1, v6), (8, 0, v8), (9, 0, v9)]) (pc := 37) hX (by decide) rfl (dk D_X0_roadOf 21 rfl) ?_
      refine r_iconst (pc := 39) hX (dk D_X0_roadOf 22 rfl) ?_
      refine r_istore (lv' := [(11, 0, 0), (10, 0, (-1)), (0, 2, v0), (1, 2, v1), (3, 0, v3), (5, 0, v5), (6, 1, v6), (8, 0, v8), (9, 0, v9)]) (pc := 40) hX (by decide) rfl (dk D_X0_roadOf 23 rfl) ?_
      refine r_sub (lv' := [(0, 2, v0), (1, 2, v1), (3, 0, v3), (5, 0, v5), (6, 1, v6), (8, 0, v8), (9, 0, v9), (10, 0, (-1)), (11, 0, 0)]) [2, 3, 4, 5, 6, 7, 8, 1, 0] rfl ?_
      refine L_Ct_roadOf_L42 hX hM hRm ?_ FU v0 v1 v3 v5 v6 v8 v9 (-1) 0 μ q_v3 q_v5 q_v6 q_v8 q_v9 (R32_lit rfl) (R32_lit rfl) h
      intro x1 x2 x3 x4 x5 x6 x7 x8 μ9 qx3 qx4 qx5 qx6 qx7 qx8 h
      refine L_Ct_roadOf_J163 hX hM hRm (fun u0 u1 u2 u3 u4 u5 u6 μ qu2 qu3 qu4 qu5 qu6 h => ih u0 u1 u2 u3 u4 u5 u6 μ qu2 qu3 qu4 qu5 qu6 h) qx3 qx4 qx5 qx6 qx7 qx8 h
set_option maxRecDepth 100000 in
set_option maxHeartbeats 4000000 in
theorem L_Ct_roadOf {E : EX} {l : Launch} {a0 a1 a2 a3 a4 a5 res : Int} {μ μ' : Mem} (q_a3 : R32 a3) (q_a4 : R32 a4) (q_a5 : R32 a5) (h : Ct_roadOf a0 a1 a2 a3 a4 a5 μ = some (res, μ')) : Ok E l 5 yX0_roadOf (.code yX0_roadOf cX0_roadOf 15 (some .int)) 0 0 [(2, a0), (2, a1), (2, a2), (0, a3), (0, a4), (0, a5)] μ (some (0, res)) μ' := by
  refine Ok.of (own := "TollsBack$Counter") [(0, 2, a0), (1, 2, a1), (2, 2, a2), (3, 0, a3), (4, 0, a4), (5, 0, a5)] (by decide +kernel) rfl (Nat.le_of_ble_eq_true rfl) rfl ?_
  intro X hL hRm hin hX hM
  unfold Ct_roadOf at h
  subst hL
  refine r_aloadn (pc := 0) hX 0 rfl (dk D_X0_roadOf 0 rfl) ?_
  refine r_iconst (pc := 1) hX (dk D_X0_roadOf 1 rfl) ?_
  obtain ⟨μ1, hμ1, h⟩ := bd_some h
  refine r_putI (pc := 2) hX fl_0_28 rfl rfl (R32_lit rfl) (Or.inr rfl) hμ1 (dk D_X0_roadOf 2 rfl) ?_
  refine r_aloadn (pc := 5) hX 0 rfl (dk D_X0_roadOf 3 rfl) ?_
  refine r_aloadn (pc := 6) hX 1 rfl (dk D_X0_roadOf 4 rfl) ?_
  refine r_aloadn (pc := 7) hX 2 rfl (dk D_X0_roadOf 5 rfl) ?_
  refine r_iloadn (pc := 8) hX 3 rfl (dk D_X0_roadOf 6 rfl) ?_
  obtain ⟨_, hi, h⟩ := bd_some h
  obtain ⟨x2, μ3, hx2, h⟩ := bd2_some h
  refine r_invV0 (As := [(2, a1), (2, a2), (0, a3)]) (pc := 9) hX ml_0_32 (L_Ct_prepare q_a3 hx2) (isk_u hi) (Rm_of hRm (by decide) ⟨by decide, by decide⟩) (by decide) rfl (Nat.le_of_ble_eq_true rfl) rfl (dk D_X0_roadOf 7 rfl) (fun _ => ?_)
  refine r_iload (pc := 12) hX 4 rfl (dk D_X0_roadOf 8 rfl) ?_
  refine r_i2l (pc := 14) hX q_a4 (dk D_X0_roadOf 9 rfl) ?_
  refine r_lstore (lv' := [(6, 1, a4), (0, 2, a0), (1, 2, a1), (2, 2, a2), (3, 0, a3), (4, 0, a4), (5, 0, a5)]) (pc := 15) hX (by decide) rfl (dk D_X0_roadOf 10 rfl) ?_
  refine r_aloadn (pc := 17) hX 2 rfl (dk D_X0_roadOf 11 rfl) ?_
  obtain ⟨x4, hx4, h⟩ := bd_some h
  refine r_getR (pc := 18) hX fl_0_36 rfl hx4 (dk D_X0_roadOf 12 rfl) ?_
  obtain ⟨x5, hx5, h⟩ := bd_some h
  refine r_getI (pc := 21) hX fl_0_42 rfl rfl hx5 (dk D_X0_roadOf 13 rfl) (fun qx5 => ?_)
  refine r_istore (lv' := [(8, 0, x5), (6, 1, a4), (0, 2, a0), (1, 2, a1), (2, 2, a2), (3, 0, a3), (4, 0, a4), (5, 0, a5)]) (pc := 24) hX (by decide) rfl (dk D_X0_roadOf 14 rfl) ?_
  refine r_iconst (pc := 26) hX (dk D_X0_roadOf 15 rfl) ?_
  refine r_istore (lv' := [(9, 0, 0), (8, 0, x5), (6, 1, a4), (0, 2, a0), (1, 2, a1), (2, 2, a2), (3, 0, a3), (4, 0, a4), (5, 0, a5)]) (pc := 27) hX (by decide) rfl (dk D_X0_roadOf 16 rfl) ?_
  refine r_sub (lv' := [(0, 2, a0), (1, 2, a1), (3, 0, a3), (5, 0, a5), (6, 1, a4), (8, 0, x5), (9, 0, 0)]) [3, 4, 6, 8, 2, 1, 0] rfl ?_
  refine L_Ct_roadOf_L29 hX hM hRm FU a0 a1 a3 a5 a4 x5 0 μ3 q_a3 q_a5 (R64_of q_a4) qx5 (R32_lit rfl) h
set_option maxRecDepth 100000 in
set_option maxHeartbeats 4000000 in
theorem L_Kg_clear {E : EX} {l : Launch} {a0 res : Int} {μ μ' : Mem}  (h : Kg_clear a0 μ = some (res, μ')) : Ok E l 1 yX1_clear (.code yX1_clear cX1_clear 1 none) 0 0 [(2, a0)] μ none μ' := by
  refine Ok.of (own := "TollsBack$Kingdom") [(0, 2, a0)] (by decide +kernel) rfl (Nat.le_of_ble_eq_true rfl) rfl ?_
  intro X hL hRm hin hX hM
  unfold Kg_clear at h
  subst hL
  refine r_aloadn (pc := 0) hX 0 rfl (dk D_X1_clear 0 rfl) ?_
  refine r_iconst (pc := 1) hX (dk D_X1_clear 1 rfl) ?_
  obtain ⟨μ1, hμ1, h⟩ := bd_some h
  refine r_putI (pc := 2) hX fl_1_30 rfl rfl (R32_lit rfl) trivial hμ1 (dk D_X1_clear 2 rfl) ?_
  refine r_aloadn (pc := 5) hX 0 rfl (dk D_X1_clear 3 rfl) ?_
  refine r_iconst (pc := 6) hX (dk D_X1_clear 4 rfl) ?_
  obtain ⟨μ2, hμ2, h⟩ := bd_some h
  refine r_putI (pc := 7) hX fl_1_34 rfl rfl (R32_lit rfl) trivial hμ2 (dk D_X1_clear 5 rfl) ?_
  refine r_aloadn (pc := 10) hX 0 rfl (dk D_X1_clear 6 rfl) ?_
  refine r_sipush (pc := 11) hX rfl (dk D_X1_clear 7 rfl) ?_
  obtain ⟨μ3, hμ3, h⟩ := bd_some h
  refine r_putI (pc := 14) hX fl_1_37 rfl rfl (R32_lit rfl) trivial hμ3 (dk D_X1_clear 8 rfl) ?_
  refine r_aloadn (pc := 17) hX 0 rfl (dk D_X1_clear 9 rfl) ?_
  refine r_bipush (pc := 18) hX rfl (dk D_X1_clear 10 rfl) ?_
  obtain ⟨μ4, hμ4, h⟩ := bd_some h
  refine r_putI (pc := 20) hX fl_1_40 rfl rfl (R32_lit rfl) trivial hμ4 (dk D_X1_clear 11 rfl) ?_
  refine r_aloadn (pc := 23) hX 0 rfl (dk D_X1_clear 12 rfl) ?_
  refine r_bipush (pc := 24) hX rfl (dk D_X1_clear 13 rfl) ?_
  obtain ⟨μ5, hμ5, h⟩ := bd_some h
  refine r_putI (pc := 26) hX fl_1_43 rfl rfl (R32_lit rfl) trivial hμ5 (dk D_X1_clear 14 rfl) ?_
  refine r_aloadn (pc := 29) hX 0 rfl (dk D_X1_clear 15 rfl) ?_
  refine r_sipush (pc := 30) hX rfl (dk D_X1_clear 16 rfl) ?_
  obtain ⟨μ6, hμ6, h⟩ := bd_some h
  refine r_putI (pc := 33) hX fl_1_46 rfl rfl (R32_lit rfl) trivial hμ6 (dk D_X1_clear 17 rfl) ?_
  refine r_aloadn (pc := 36) hX 0 rfl (dk D_X1_clear 18 rfl) ?_
  refine r_iconst (pc := 37) hX (dk D_X1_clear 19 rfl) ?_
  obtain ⟨μ7, hμ7, h⟩ := bd_some h
  refine r_putI (pc := 38) hX fl_1_49 rfl rfl (R32_lit rfl) trivial hμ7 (dk D_X1_clear 20 rfl) ?_
  refine r_aloadn (pc := 41) hX 0 rfl (dk D_X1_clear 21 rfl) ?_
  refine r_iconst (pc := 42) hX (dk D_X1_clear 22 rfl) ?_
  obtain ⟨μ8, hμ8, h⟩ := bd_some h
  refine r_putI (pc := 43) hX fl_1_52 rfl rfl (R32_lit rfl) trivial hμ8 (dk D_X1_clear 23 rfl) ?_
  cases h
  exact r_return (pc := 46) hX hM ⟨by decide, by decide⟩ (dk D_X1_clear 24 rfl)
set_option maxRecDepth 100000 in
set_option maxHeartbeats 4000000 in
theorem L_Kg_init {E : EX} {l : Launch} {a0 res : Int} {μ μ' : Mem}  (h : Kg_init a0 μ = some (res, μ')) : Ok E l 2 yX1_init (.code yX1_init cX1_init 1 none) 5 120 [(2, a0)] μ none μ' := by
  refine Ok.of (own := "TollsBack$Kingdom") [(0, 2, a0)] (by decide +kernel) rfl (Nat.le_of_ble_eq_true rfl) rfl ?_
  intro X hL hRm hin hX hM
  unfold Kg_init at h
  subst hL
  refine r_aloadn (pc := 0) (cs := (0, 0)) hX 0 rfl (dk D_X1_init 0 rfl) ?_
  obtain ⟨_, hi, h⟩ := bd_some h
  refine r_objI (pc := 1) (cs := (0, 0)) hX (isk_nn hi (by decide)) ml_1_3 (Rm_of hRm (by decide) ⟨by (try dsimp only); omega, by (try dsimp only); omega⟩) (Nat.le_of_ble_eq_true rfl) (dk D_X1_init 1 rfl) ?_
  refine r_aloadn (pc := 4) (cs := (0, 0)) hX 0 rfl (dk D_X1_init 2 rfl) ?_
  refine r_bipush (pc := 5) (cs := (0, 0)) hX rfl (dk D_X1_init 3 rfl) ?_
  refine r_newI (N := 24) (pc := 7) (cs := (0, 0)) hX ac_int (by decide) (by rw [hRm]; exact ⟨by (show _ ≤ (rmOf _ _ _).cells); (simp only [rmOf]); omega, by (show _ ≤ (rmOf _ _ _).slots); (simp only [rmOf]); omega⟩) (dk D_X1_init 4 rfl) ?_
  obtain ⟨μ1, hμ1, h⟩ := bd_some h
  refine r_putF (pc := 9) (cs := (1, 24)) hX fl_1_9 (hin rfl) ⟨_, _, _, rfl, rfl⟩ rfl rfl trivial hμ1 (dk D_X1_init 5 rfl) ?_
  refine r_aloadn (pc := 12) (cs := (1, 24)) hX 0 rfl (dk D_X1_init 6 rfl) ?_
  refine r_bipush (pc := 13) (cs := (1, 24)) hX rfl (dk D_X1_init 7 rfl) ?_
  refine r_newI (N := 24) (pc := 15) (cs := (1, 24)) hX ac_int (by decide) (by rw [hRm]; exact ⟨by (show _ ≤ (rmOf _ _ _).cells); (simp only [rmOf]); omega, by (show _ ≤ (rmOf _ _ _).slots); (simp only [rmOf]); omega⟩) (dk D_X1_init 8 rfl) ?_
  obtain ⟨μ2, hμ2, h⟩ := bd_some h
  refine r_putF (pc := 17) (cs := (2, 48)) hX fl_1_15 (hin rfl) ⟨_, _, _, rfl, rfl⟩ rfl rfl trivial hμ2 (dk D_X1_init 9 rfl) ?_
  refine r_aloadn (pc := 20) (cs := (2, 48)) hX 0 rfl (dk D_X1_init 10 rfl) ?_
  refine r_bipush (pc := 21) (cs := (2, 48)) hX rfl (dk D_X1_init 11 rfl) ?_
  refine r_newI (N := 24) (pc := 23) (cs := (2, 48)) hX ac_int (by decide) (by rw [hRm]; exact ⟨by (show _ ≤ (rmOf _ _ _).cells); (simp only [rmOf]); omega, by (show _ ≤ (rmOf _ _ _).slots); (simp only [rmOf]); omega⟩) (dk D_X1_init 12 rfl) ?_
  obtain ⟨μ3, hμ3, h⟩ := bd_some h
  refine r_putF (pc := 25) (cs := (3, 72)) hX fl_1_18 (hin rfl) ⟨_, _, _, rfl, rfl⟩ rfl rfl trivial hμ3 (dk D_X1_init 13 rfl) ?_
  refine r_aloadn (pc := 28) (cs := (3, 72)) hX 0 rfl (dk D_X1_init 14 rfl) ?_
  refine r_bipush (pc := 29) (cs := (3, 72)) hX rfl (dk D_X1_init 15 rfl) ?_
  refine r_newI (N := 24) (pc := 31) (cs := (3, 72)) hX ac_int (by decide) (by rw [hRm]; exact ⟨by (show _ ≤ (rmOf _ _ _).cells); (simp only [rmOf]); omega, by (show _ ≤ (rmOf _ _ _).slots); (simp only [rmOf]); omega⟩) (dk D_X1_init 16 rfl) ?_
  obtain ⟨μ4, hμ4, h⟩ := bd_some h
  refine r_putF (pc := 33) (cs := (4, 96)) hX fl_1_21 (hin rfl) ⟨_, _, _, rfl, rfl⟩ rfl rfl trivial hμ4 (dk D_X1_init 17 rfl) ?_
  refine r_aloadn (pc := 36) (cs := (4, 96)) hX 0 rfl (dk D_X1_init 18 rfl) ?_
  refine r_bipush (pc := 37) (cs := (4, 96)) hX rfl (dk D_X1_init 19 rfl) ?_
  refine r_newI (N := 24) (pc := 39) (cs := (4, 96)) hX ac_int (by decide) (by rw [hRm]; exact ⟨by (show _ ≤ (rmOf _ _ _).cells); (simp only [rmOf]); omega, by (show _ ≤ (rmOf _ _ _).slots); (simp only [rmOf]); omega⟩) (dk D_X1_init 20 rfl) ?_
  obtain ⟨μ5, hμ5, h⟩ := bd_some h
  refine r_putF (pc := 41) (cs := (5, 120)) hX fl_1_24 (hin rfl) ⟨_, _, _, rfl, rfl⟩ rfl rfl trivial hμ5 (dk D_X1_init 21 rfl) ?_
  refine r_aloadn (pc := 44) (cs := (5, 120)) hX 0 rfl (dk D_X1_init 22 rfl) ?_
  obtain ⟨_, hi, h⟩ := bd_some h
  obtain ⟨x6, μ7, hx6, h⟩ := bd2_some h
  refine r_invV0 (As := []) (pc := 45) (cs := (5, 120)) hX ml_1_27 (L_Kg_clear hx6) (isk_u hi) (Rm_of hRm (by decide) ⟨by (try dsimp only); omega, by (try dsimp only); omega⟩) (by decide) rfl (Nat.le_of_ble_eq_true rfl) rfl (dk D_X1_init 23 rfl) (fun _ => ?_)
  cases h
  exact r_return (pc := 48) hX hM ⟨by (try dsimp only); omega, by (try dsimp only); omega⟩ (dk D_X1_init 24 rfl)
set_option maxRecDepth 100000 in
set_option maxHeartbeats 4000000 in
theorem L_Kg_become {E : EX} {l : Launch} {a0 a1 res : Int} {μ μ' : Mem}  (h : Kg_become a0 a1 μ = some (res, μ')) : Ok E l 1 yX1_become (.code yX1_become cX1_become 2 none) 0 0 [(2, a0), (2, a1)] μ none μ' := by
  refine Ok.of (own := "TollsBack$Kingdom") [(0, 2, a0), (1, 2, a1)] (by decide +kernel) rfl (Nat.le_of_ble_eq_true rfl) rfl ?_
  intro X hL hRm hin hX hM
  unfold Kg_become at h
  subst hL
  refine r_aloadn (pc := 0) hX 0 rfl (dk D_X1_become 0 rfl) ?_
  refine r_aloadn (pc := 1) hX 1 rfl (dk D_X1_become 1 rfl) ?_
  obtain ⟨x1, hx1, h⟩ := bd_some h
  refine r_getI (pc := 2) hX fl_1_30 rfl rfl hx1 (dk D_X1_become 2 rfl) (fun qx1 => ?_)
  obtain ⟨μ2, hμ2, h⟩ := bd_some h
  refine r_putI (pc := 5) hX fl_1_30 rfl rfl qx1 trivial hμ2 (dk D_X1_become 3 rfl) ?_
  refine r_aloadn (pc := 8) hX 0 rfl (dk D_X1_become 4 rfl) ?_
  refine r_aloadn (pc := 9) hX 1 rfl (dk D_X1_become 5 rfl) ?_
  obtain ⟨x3, hx3, h⟩ := bd_some h
  refine r_getI (pc := 10) hX fl_1_34 rfl rfl hx3 (dk D_X1_become 6 rfl) (fun qx3 => ?_)
  obtain ⟨μ4, hμ4, h⟩ := bd_some h
  refine r_putI (pc := 13) hX fl_1_34 rfl rfl qx3 trivial hμ4 (dk D_X1_become 7 rfl) ?_
  refine r_aloadn (pc := 16) hX 0 rfl (dk D_X1_become 8 rfl) ?_
  refine r_aloadn (pc := 17) hX 1 rfl (dk D_X1_become 9 rfl) ?_
  obtain ⟨x5, hx5, h⟩ := bd_some h
  refine r_getI (pc := 18) hX fl_1_37 rfl rfl hx5 (dk D_X1_become 10 rfl) (fun qx5 => ?_)
  obtain ⟨μ6, hμ6, h⟩ := bd_some h
  refine r_putI (pc := 21) hX fl_1_37 rfl rfl qx5 trivial hμ6 (dk D_X1_become 11 rfl) ?_
  refine r_aloadn (pc := 24) hX 0 rfl (dk D_X1_become 12 rfl) ?_
  refine r_aloadn (pc := 25) hX 1 rfl (dk D_X1_become 13 rfl) ?_
  obtain ⟨x7, hx7, h⟩ := bd_some h
  refine r_getI (pc := 26) hX fl_1_40 rfl rfl hx7 (dk D_X1_become 14 rfl) (fun qx7 => ?_)
  obtain ⟨μ8, hμ8, h⟩ := bd_some h
  refine r_putI (pc := 29) hX fl_1_40 rfl rfl qx7 trivial hμ8 (dk D_X1_become 15 rfl) ?_
  refine r_aloadn (pc := 32) hX 0 rfl (dk D_X1_become 16 rfl) ?_
  refine r_aloadn (pc := 33) hX 1 rfl (dk D_X1_become 17 rfl) ?_
  obtain ⟨x9, hx9, h⟩ := bd_some h
  refine r_getI (pc := 34) hX fl_1_43 rfl rfl hx9 (dk D_X1_become 18 rfl) (fun qx9 => ?_)
  obtain ⟨μ10, hμ10, h⟩ := bd_some h
  refine r_putI (pc := 37) hX fl_1_43 rfl rfl qx9 trivial hμ10 (dk D_X1_become 19 rfl) ?_
  refine r_aloadn (pc := 40) hX 0 rfl (dk D_X1_become 20 rfl) ?_
  refine r_aloadn (pc := 41) hX 1 rfl (dk D_X1_become 21 rfl) ?_
  obtain ⟨x11, hx11, h⟩ := bd_some h
  refine r_getI (pc := 42) hX fl_1_46 rfl rfl hx11 (dk D_X1_become 22 rfl) (fun qx11 => ?_)
  obtain ⟨μ12, hμ12, h⟩ := bd_some h
  refine r_putI (pc := 45) hX fl_1_46 rfl rfl qx11 trivial hμ12 (dk D_X1_become 23 rfl) ?_
  refine r_aloadn (pc := 48) hX 0 rfl (dk D_X1_become 24 rfl) ?_
  refine r_aloadn (pc := 49) hX 1 rfl (dk D_X1_become 25 rfl) ?_
  obtain ⟨x13, hx13, h⟩ := bd_some h
  refine r_getI (pc := 50) hX fl_1_49 rfl rfl hx13 (dk D_X1_become 26 rfl) (fun qx13 => ?_)
  obtain ⟨μ14, hμ14, h⟩ := bd_some h
  refine r_putI (pc := 53) hX fl_1_49 rfl rfl qx13 trivial hμ14 (dk D_X1_become 27 rfl) ?_
  refine r_aloadn (pc := 56) hX 0 rfl (dk D_X1_become 28 rfl) ?_
  refine r_aloadn (pc := 57) hX 1 rfl (dk D_X1_become 29 rfl) ?_
  obtain ⟨x15, hx15, h⟩ := bd_some h
  refine r_getI (pc := 58) hX fl_1_52 rfl rfl hx15 (dk D_X1_become 30 rfl) (fun qx15 => ?_)
  obtain ⟨μ16, hμ16, h⟩ := bd_some h
  refine r_putI (pc := 61) hX fl_1_52 rfl rfl qx15 trivial hμ16 (dk D_X1_become 31 rfl) ?_
  refine r_aloadn (pc := 64) hX 1 rfl (dk D_X1_become 32 rfl) ?_
  obtain ⟨x17, hx17, h⟩ := bd_some h
  refine r_getR (pc := 65) hX fl_1_9 rfl hx17 (dk D_X1_become 33 rfl) ?_
  refine r_iconst (pc := 68) hX (dk D_X1_become 34 rfl) ?_
  refine r_aloadn (pc := 69) hX 0 rfl (dk D_X1_become 35 rfl) ?_
  obtain ⟨x18, hx18, h⟩ := bd_some h
  refine r_getR (pc := 70) hX fl_1_9 rfl hx18 (dk D_X1_become 36 rfl) ?_
  refine r_iconst (pc := 73) hX (dk D_X1_become 37 rfl) ?_
  refine r_bipush (pc := 74) hX rfl (dk D_X1_become 38 rfl) ?_
  obtain ⟨μ19, hμ19, h⟩ := bd_some h
  refine r_copyi (pc := 76) hX ml_1_55 (R32_lit rfl) (R32_lit rfl) (R32_lit rfl) (by rw [hRm]; exact ⟨by decide, by decide⟩) (Nat.le_of_ble_eq_true rfl) hμ19 (dk D_X1_become 39 rfl) ?_
  refine r_aloadn (pc := 79) hX 1 rfl (dk D_X1_become 40 rfl) ?_
  obtain ⟨x20, hx20, h⟩ := bd_some h
  refine r_getR (pc := 80) hX fl_1_15 rfl hx20 (dk D_X1_become 41 rfl) ?_
  refine r_iconst (pc := 83) hX (dk D_X1_become 42 rfl) ?_
  refine r_aloadn (pc := 84) hX 0 rfl (dk D_X1_become 43 rfl) ?_
  obtain ⟨x21, hx21, h⟩ := bd_some h
  refine r_getR (pc := 85) hX fl_1_15 rfl hx21 (dk D_X1_become 44 rfl) ?_
  refine r_iconst (pc := 88) hX (dk D_X1_become 45 rfl) ?_
  refine r_bipush (pc := 89) hX rfl (dk D_X1_become 46 rfl) ?_
  obtain ⟨μ22, hμ22, h⟩ := bd_some h
  refine r_copyi (pc := 91) hX ml_1_55 (R32_lit rfl) (R32_lit rfl) (R32_lit rfl) (by rw [hRm]; exact ⟨by decide, by decide⟩) (Nat.le_of_ble_eq_true rfl) hμ22 (dk D_X1_become 47 rfl) ?_
  refine r_aloadn (pc := 94) hX 1 rfl (dk D_X1_become 48 rfl) ?_
  obtain ⟨x23, hx23, h⟩ := bd_some h
  refine r_getR (pc := 95) hX fl_1_18 rfl hx23 (dk D_X1_become 49 rfl) ?_
  refine r_iconst (pc := 98) hX (dk D_X1_become 50 rfl) ?_
  refine r_aloadn (pc := 99) hX 0 rfl (dk D_X1_become 51 rfl) ?_
  obtain ⟨x24, hx24, h⟩ := bd_some h
  refine r_getR (pc := 100) hX fl_1_18 rfl hx24 (dk D_X1_become 52 rfl) ?_
  refine r_iconst (pc := 103) hX (dk D_X1_become 53 rfl) ?_
  refine r_bipush (pc := 104) hX rfl (dk D_X1_become 54 rfl) ?_
  obtain ⟨μ25, hμ25, h⟩ := bd_some h
  refine r_copyi (pc := 106) hX ml_1_55 (R32_lit rfl) (R32_lit rfl) (R32_lit rfl) (by rw [hRm]; exact ⟨by decide, by decide⟩) (Nat.le_of_ble_eq_true rfl) hμ25 (dk D_X1_become 55 rfl) ?_
  refine r_aloadn (pc := 109) hX 1 rfl (dk D_X1_become 56 rfl) ?_
  obtain ⟨x26, hx26, h⟩ := bd_some h
  refine r_getR (pc := 110) hX fl_1_21 rfl hx26 (dk D_X1_become 57 rfl) ?_
  refine r_iconst (pc := 113) hX (dk D_X1_become 58 rfl) ?_
  refine r_aloadn (pc := 114) hX 0 rfl (dk D_X1_become 59 rfl) ?_
  obtain ⟨x27, hx27, h⟩ := bd_some h
  refine r_getR (pc := 115) hX fl_1_21 rfl hx27 (dk D_X1_become 60 rfl) ?_
  refine r_iconst (pc := 118) hX (dk D_X1_become 61 rfl) ?_
  refine r_bipush (pc := 119) hX rfl (dk D_X1_become 62 rfl) ?_
  obtain ⟨μ28, hμ28, h⟩ := bd_some h
  refine r_copyi (pc := 121) hX ml_1_55 (R32_lit rfl) (R32_lit rfl) (R32_lit rfl) (by rw [hRm]; exact ⟨by decide, by decide⟩) (Nat.le_of_ble_eq_true rfl) hμ28 (dk D_X1_become 63 rfl) ?_
  refine r_aloadn (pc := 124) hX 1 rfl (dk D_X1_become 64 rfl) ?_
  obtain ⟨x29, hx29, h⟩ := bd_some h
  refine r_getR (pc := 125) hX fl_1_24 rfl hx29 (dk D_X1_become 65 rfl) ?_
  refine r_iconst (pc := 128) hX (dk D_X1_become 66 rfl) ?_
  refine r_aloadn (pc := 129) hX 0 rfl (dk D_X1_become 67 rfl) ?_
  obtain ⟨x30, hx30, h⟩ := bd_some h
  refine r_getR (pc := 130) hX fl_1_24 rfl hx30 (dk D_X1_become 68 rfl) ?_
  refine r_iconst (pc := 133) hX (dk D_X1_become 69 rfl) ?_
  refine r_bipush (pc := 134) hX rfl (dk D_X1_become 70 rfl) ?_
  obtain ⟨μ31, hμ31, h⟩ := bd_some h
  refine r_copyi (pc := 136) hX ml_1_55 (R32_lit rfl) (R32_lit rfl) (R32_lit rfl) (by rw [hRm]; exact ⟨by decide, by decide⟩) (Nat.le_of_ble_eq_true rfl) hμ31 (dk D_X1_become 71 rfl) ?_
  cases h
  exact r_return (pc := 139) hX hM ⟨by decide, by decide⟩ (dk D_X1_become 72 rfl)
set_option maxRecDepth 100000 in
set_option maxHeartbeats 4000000 in
theorem L_Kg_hasTown {E : EX} {l : Launch} {a0 a1 res : Int} {μ μ' : Mem} (q_a1 : R32 a1) (h : Kg_hasTown a0 a1 μ = some (res, μ')) : Ok E l 1 yX1_hasTown (.code yX1_hasTown cX1_hasTown 2 (some .boolean)) 0 0 [(2, a0), (0, a1)] μ (some (0, res)) μ' := by
  refine Ok.of (own := "TollsBack$Kingdom") [(0, 2, a0), (1, 0, a1)] (by decide +kernel) rfl (Nat.le_of_ble_eq_true rfl) rfl ?_
  intro X hL hRm hin hX hM
  unfold Kg_hasTown at h
  subst hL
  refine r_iloadn (pc := 0) hX 1 rfl (dk D_X1_hasTown 0 rfl) ?_
  refine r_if_lt (pc := 1) hX q_a1 16 rfl (dk D_X1_hasTown 1 rfl) (fun hc => ?_) (fun hc => ?_)
  · rw [if_pos hc] at h
    refine r_iconst (pc := 16) hX (dk D_X1_hasTown 8 rfl) ?_
    cases h
    exact r_zreturn (pc := 17) hX (R32_lit rfl) hM (Or.inl rfl) ⟨by decide, by decide⟩ (dk D_X1_hasTown 9 rfl)
  · rw [if_neg hc] at h
    refine r_iloadn (pc := 4) hX 1 rfl (dk D_X1_hasTown 2 rfl) ?_
    refine r_aloadn (pc := 5) hX 0 rfl (dk D_X1_hasTown 3 rfl) ?_
    obtain ⟨x1, hx1, h⟩ := bd_some h
    refine r_getI (pc := 6) hX fl_1_30 rfl rfl hx1 (dk D_X1_hasTown 4 rfl) (fun qx1 => ?_)
    refine r_icmp_ge (pc := 9) hX q_a1 qx1 16 rfl (dk D_X1_hasTown 5 rfl) (fun hc => ?_) (fun hc => ?_)
    · rw [if_neg hc] at h
      refine r_iconst (pc := 16) hX (dk D_X1_hasTown 8 rfl) ?_
      cases h
      exact r_zreturn (pc := 17) hX (R32_lit rfl) hM (Or.inl rfl) ⟨by decide, by decide⟩ (dk D_X1_hasTown 9 rfl)
    · rw [if_pos hc] at h
      refine r_iconst (pc := 12) hX (dk D_X1_hasTown 6 rfl) ?_
      refine r_goto (pc := 13) hX 17 rfl (dk D_X1_hasTown 7 rfl) ?_
      cases h
      exact r_zreturn (pc := 17) hX (R32_lit rfl) hM (Or.inr rfl) ⟨by decide, by decide⟩ (dk D_X1_hasTown 9 rfl)
set_option maxRecDepth 100000 in
set_option maxHeartbeats 4000000 in
theorem L_Kg_hasTowns {E : EX} {l : Launch} {a0 a1 res : Int} {μ μ' : Mem} (q_a1 : R32 a1) (h : Kg_hasTowns a0 a1 μ = some (res, μ')) : Ok E l 1 yX1_hasTowns (.code yX1_hasTowns cX1_hasTowns 2 (some .boolean)) 0 0 [(2, a0), (0, a1)] μ (some (0, res)) μ' := by
  refine Ok.of (own := "TollsBack$Kingdom") [(0, 2, a0), (1, 0, a1)] (by decide +kernel) rfl (Nat.le_of_ble_eq_true rfl) rfl ?_
  intro X hL hRm hin hX hM
  unfold Kg_hasTowns at h
  subst hL
  refine r_iloadn (pc := 0) hX 1 rfl (dk D_X1_hasTowns 0 rfl) ?_
  refine r_if_lt (pc := 1) hX q_a1 17 rfl (dk D_X1_hasTowns 1 rfl) (fun hc => ?_) (fun hc => ?_)
  · rw [if_pos hc] at h
    refine r_iconst (pc := 17) hX (dk D_X1_hasTowns 9 rfl) ?_
    cases h
    exact r_zreturn (pc := 18) hX (R32_lit rfl) hM (Or.inl rfl) ⟨by decide, by decide⟩ (dk D_X1_hasTowns 10 rfl)
  · rw [if_neg hc] at h
    refine r_iloadn (pc := 4) hX 1 rfl (dk D_X1_hasTowns 2 rfl) ?_
    refine r_aloadn (pc := 5) hX 0 rfl (dk D_X1_hasTowns 3 rfl) ?_
    obtain ⟨x1, hx1, h⟩ := bd_some h
    refine r_getI (pc := 6) hX fl_1_30 rfl rfl hx1 (dk D_X1_hasTowns 4 rfl) (fun qx1 => ?_)
    refine r_ishr (pc := 9) hX (dk D_X1_hasTowns 5 rfl) ?_
    refine r_if_ne (pc := 10) hX (R32_t _) 17 rfl (dk D_X1_hasTowns 6 rfl) (fun hc => ?_) (fun hc => ?_)
    · rw [if_neg hc] at h
      refine r_iconst (pc := 17) hX (dk D_X1_hasTowns 9 rfl) ?_
      cases h
      exact r_zreturn (pc := 18) hX (R32_lit rfl) hM (Or.inl rfl) ⟨by decide, by decide⟩ (dk D_X1_hasTowns 10 rfl)
    · rw [if_pos hc] at h
      refine r_iconst (pc := 13) hX (dk D_X1_hasTowns 7 rfl) ?_
      refine r_goto (pc := 14) hX 18 rfl (dk D_X1_hasTowns 8 rfl) ?_
      cases h
      exact r_zreturn (pc := 18) hX (R32_lit rfl) hM (Or.inr rfl) ⟨by decide, by decide⟩ (dk D_X1_hasTowns 10 rfl)
set_option maxRecDepth 100000 in
set_option maxHeartbeats 4000000 in
theorem L_Kg_hasRoad {E : EX} {l : Launch} {a0 a1 res : Int} {μ μ' : Mem} (q_a1 : R32 a1) (h : Kg_hasRoad a0 a1 μ = some (res, μ')) : Ok E l 1 yX1_hasRoad (.code yX1_hasRoad cX1_hasRoad 2 (some .boolean)) 0 0 [(2, a0), (0, a1)] μ (some (0, res)) μ' := by
  refine Ok.of (own := "TollsBack$Kingdom") [(0, 2, a0), (1, 0, a1)] (by decide +kernel) rfl (Nat.le_of_ble_eq_true rfl) rfl ?_
  intro X hL hRm hin hX hM
  unfold Kg_hasRoad at h
  subst hL
  refine r_iloadn (pc := 0) hX 1 rfl (dk D_X1_hasRoad 0 rfl) ?_
  refine r_if_lt (pc := 1) hX q_a1 16 rfl (dk D_X1_hasRoad 1 rfl) (fun hc => ?_) (fun hc => ?_)
  · rw [if_pos hc] at h
    refine r_iconst (pc := 16) hX (dk D_X1_hasRoad 8 rfl) ?_
    cases h
    exact r_zreturn (pc := 17) hX (R32_lit rfl) hM (Or.inl rfl) ⟨by decide, by decide⟩ (dk D_X1_hasRoad 9 rfl)
  · rw [if_neg hc] at h
    refine r_iloadn (pc := 4) hX 1 rfl (dk D_X1_hasRoad 2 rfl) ?_
    refine r_aloadn (pc := 5) hX 0 rfl (dk D_X1_hasRoad 3 rfl) ?_
    obtain ⟨x1, hx1, h⟩ := bd_some h
    refine r_getI (pc := 6) hX fl_1_52 rfl rfl hx1 (dk D_X1_hasRoad 4 rfl) (fun qx1 => ?_)
    refine r_icmp_ge (pc := 9) hX q_a1 qx1 16 rfl (dk D_X1_hasRoad 5 rfl) (fun hc => ?_) (fun hc => ?_)
    · rw [if_neg hc] at h
      refine r_iconst (pc := 16) hX (dk D_X1_hasRoad 8 rfl) ?_
      cases h
      exact r_zreturn (pc := 17) hX (R32_lit rfl) hM (Or.inl rfl) ⟨by decide, by decide⟩ (dk D_X1_hasRoad 9 rfl)
    · rw [if_pos hc] at h
      refine r_iconst (pc := 12) hX (dk D_X1_hasRoad 6 rfl) ?_
      refine r_goto (pc := 13) hX 17 rfl (dk D_X1_hasRoad 7 rfl) ?_
      cases h
      exact r_zreturn (pc := 17) hX (R32_lit rfl) hM (Or.inr rfl) ⟨by decide, by decide⟩ (dk D_X1_hasRoad 9 rfl)
set_option maxRecDepth 100000 in
set_option maxHeartbeats 4000000 in
theorem L_J_floorMod {E : EX} {l : Launch} {a0 a1 res : Int} {μ μ' : Mem} (q_a0 : R32 a0) (q_a1 : R32 a1) (h : J_floorMod a0 a1 μ = some (res, μ')) : Ok E l 1 yJ9_floorMod_7cf53 (.code yJ9_floorMod_7cf53 cJ9_floorMod_7cf53 3 (some .int)) 0 0 [(0, a0), (0, a1)] μ (some (0, res)) μ' := by
  refine Ok.of (own := "java/lang/Math") [(0, 0, a0), (1, 0, a1)] (by decide +kernel) rfl (Nat.le_of_ble_eq_true rfl) rfl ?_
  intro X hL hRm hin hX hM
  unfold J_floorMod at h
  subst hL
  refine r_iloadn (pc := 0) hX 0 rfl (dk D_J9_floorMod_7cf53 0 rfl) ?_
  refine r_iloadn (pc := 1) hX 1 rfl (dk D_J9_floorMod_7cf53 1 rfl) ?_
  obtain ⟨x1, hx1, h⟩ := bd_some h
  refine r_irem (pc := 2) hX q_a1 hx1 (dk D_J9_floorMod_7cf53 2 rfl) (fun qx1 => ?_)
  refine r_istoren (lv' := [(2, 0, x1), (0, 0, a0), (1, 0, a1)]) (pc := 3) hX (by decide) rfl (dk D_J9_floorMod_7cf53 3 rfl) ?_
  refine r_iloadn (pc := 4) hX 1 rfl (dk D_J9_floorMod_7cf53 4 rfl) ?_
  refine r_iloadn (pc := 5) hX 2 rfl (dk D_J9_floorMod_7cf53 5 rfl) ?_
  refine r_ixor (pc := 6) hX (dk D_J9_floorMod_7cf53 6 rfl) ?_
  refine r_if_ge (pc := 7) hX (R32_t _) 18 rfl (dk D_J9_floorMod_7cf53 7 rfl) (fun hc => ?_) (fun hc => ?_)
  · rw [if_neg hc] at h
    refine r_iloadn (pc := 18) hX 0 rfl (dk D_J9_floorMod_7cf53 14 rfl) ?_
    cases h
    exact r_ireturn (pc := 19) hX qx1 hM ⟨by decide, by decide⟩ (dk D_J9_floorMod_7cf53 15 rfl)
  · rw [if_pos hc] at h
    refine r_iloadn (pc := 10) hX 0 rfl (dk D_J9_floorMod_7cf53 8 rfl) ?_
    refine r_if_eq (pc := 11) hX qx1 18 rfl (dk D_J9_floorMod_7cf53 9 rfl) (fun hc => ?_) (fun hc => ?_)
    · rw [if_pos hc] at h
      refine r_iloadn (pc := 18) hX 0 rfl (dk D_J9_floorMod_7cf53 14 rfl) ?_
      cases h
      exact r_ireturn (pc := 19) hX qx1 hM ⟨by decide, by decide⟩ (dk D_J9_floorMod_7cf53 15 rfl)
    · rw [if_neg hc] at h
      refine r_iloadn (pc := 14) hX 0 rfl (dk D_J9_floorMod_7cf53 10 rfl) ?_
      refine r_iloadn (pc := 15) hX 2 rfl (dk D_J9_floorMod_7cf53 11 rfl) ?_
      refine r_iadd (pc := 16) hX (dk D_J9_floorMod_7cf53 12 rfl) ?_
      cases h
      exact r_ireturn (pc := 17) hX (R32_w _) hM ⟨by decide, by decide⟩ (dk D_J9_floorMod_7cf53 13 rfl)
set_option maxRecDepth 100000 in
set_option maxHeartbeats 4000000 in
theorem L_Kg_isSummer {E : EX} {l : Launch} {a0 a1 res : Int} {μ μ' : Mem} (q_a1 : R32 a1) (h : Kg_isSummer a0 a1 μ = some (res, μ')) : Ok E l 2 yX1_isSummer (.code yX1_isSummer cX1_isSummer 3 (some .boolean)) 0 0 [(2, a0), (0, a1)] μ (some (0, res)) μ' := by
  refine Ok.of (own := "TollsBack$Kingdom") [(0, 2, a0), (1, 0, a1)] (by decide +kernel) rfl (Nat.le_of_ble_eq_true rfl) rfl ?_
  intro X hL hRm hin hX hM
  unfold Kg_isSummer at h
  subst hL
  refine r_iloadn (pc := 0) hX 1 rfl (dk D_X1_isSummer 0 rfl) ?_
  refine r_sipush (pc := 1) hX rfl (dk D_X1_isSummer 1 rfl) ?_
  obtain ⟨x1, μ2, hx1, h⟩ := bd2_some h
  refine r_invS0 (As := [(0, a1), (0, 360)]) (pc := 4) hX ml_1_61 (L_J_floorMod q_a1 (R32_lit rfl) hx1) (Rm_of hRm (by decide) ⟨by decide, by decide⟩) (by decide) rfl (Nat.le_of_ble_eq_true rfl) rfl (dk D_X1_isSummer 2 rfl) (fun qx1 => ?_)
  refine r_istoren (lv' := [(2, 0, x1), (0, 2, a0), (1, 0, a1)]) (pc := 7) hX (by decide) rfl (dk D_X1_isSummer 3 rfl) ?_
  refine r_iloadn (pc := 8) hX 0 rfl (dk D_X1_isSummer 4 rfl) ?_
  refine r_aloadn (pc := 9) hX 1 rfl (dk D_X1_isSummer 5 rfl) ?_
  obtain ⟨x3, hx3, h⟩ := bd_some h
  refine r_getI (pc := 10) hX fl_1_43 rfl rfl hx3 (dk D_X1_isSummer 6 rfl) (fun qx3 => ?_)
  refine r_icmp_lt (pc := 13) hX qx1 qx3 28 rfl (dk D_X1_isSummer 7 rfl) (fun hc => ?_) (fun hc => ?_)
  · rw [if_pos hc] at h
    refine r_iconst (pc := 28) hX (dk D_X1_isSummer 14 rfl) ?_
    cases h
    exact r_zreturn (pc := 29) hX (R32_lit rfl) hM (Or.inl rfl) ⟨by decide, by decide⟩ (dk D_X1_isSummer 15 rfl)
  · rw [if_neg hc] at h
    refine r_iloadn (pc := 16) hX 0 rfl (dk D_X1_isSummer 8 rfl) ?_
    refine r_aloadn (pc := 17) hX 1 rfl (dk D_X1_isSummer 9 rfl) ?_
    obtain ⟨x4, hx4, h⟩ := bd_some h
    refine r_getI (pc := 18) hX fl_1_46 rfl rfl hx4 (dk D_X1_isSummer 10 rfl) (fun qx4 => ?_)
    refine r_icmp_gt (pc := 21) hX qx1 qx4 28 rfl (dk D_X1_isSummer 11 rfl) (fun hc => ?_) (fun hc => ?_)
    · rw [if_pos hc] at h
      refine r_iconst (pc := 28) hX (dk D_X1_isSummer 14 rfl) ?_
      cases h
      exact r_zreturn (pc := 29) hX (R32_lit rfl) hM (Or.inl rfl) ⟨by decide, by decide⟩ (dk D_X1_isSummer 15 rfl)
    · rw [if_neg hc] at h
      refine r_iconst (pc := 24) hX (dk D_X1_isSummer 12 rfl) ?_
      refine r_goto (pc := 25) hX 29 rfl (dk D_X1_isSummer 13 rfl) ?_
      cases h
      exact r_zreturn (pc := 29) hX (R32_lit rfl) hM (Or.inr rfl) ⟨by decide, by decide⟩ (dk D_X1_isSummer 15 rfl)
set_option maxRecDepth 100000 in
set_option maxHeartbeats 4000000 in
theorem L_Kg_tollOn {E : EX} {l : Launch} {a0 a1 a2 res : Int} {μ μ' : Mem} (q_a1 : R32 a1) (q_a2 : R32 a2) (h : Kg_tollOn a0 a1 a2 μ = some (res, μ')) : Ok E l 3 yX1_tollOn (.code yX1_tollOn cX1_tollOn 3 (some .int)) 0 0 [(2, a0), (0, a1), (0, a2)] μ (some (0, res)) μ' := by
  refine Ok.of (own := "TollsBack$Kingdom") [(0, 2, a0), (1, 0, a1), (2, 0, a2)] (by decide +kernel) rfl (Nat.le_of_ble_eq_true rfl) rfl ?_
  intro X hL hRm hin hX hM
  unfold Kg_tollOn at h
  subst hL
  refine r_aloadn (pc := 0) hX 0 rfl (dk D_X1_tollOn 0 rfl) ?_
  refine r_iloadn (pc := 1) hX 2 rfl (dk D_X1_tollOn 1 rfl) ?_
  obtain ⟨_, hi, h⟩ := bd_some h
  obtain ⟨x1, μ2, hx1, h⟩ := bd2_some h
  refine r_invV0 (As := [(0, a2)]) (pc := 2) hX ml_1_67 (L_Kg_isSummer q_a2 hx1) (isk_u hi) (Rm_of hRm (by decide) ⟨by decide, by decide⟩) (by decide) rfl (Nat.le_of_ble_eq_true rfl) rfl (dk D_X1_tollOn 2 rfl) (fun qx1 => ?_)
  refine r_if_eq (pc := 5) hX qx1 17 rfl (dk D_X1_tollOn 3 rfl) (fun hc => ?_) (fun hc => ?_)
  · rw [if_pos hc] at h
    refine r_aloadn (pc := 17) hX 0 rfl (dk D_X1_tollOn 9 rfl) ?_
    obtain ⟨x3, hx3, h⟩ := bd_some h
    refine r_getR (pc := 18) hX fl_1_18 rfl hx3 (dk D_X1_tollOn 10 rfl) ?_
    refine r_iloadn (pc := 21) hX 1 rfl (dk D_X1_tollOn 11 rfl) ?_
    obtain ⟨x4, hx4, h⟩ := bd_some h
    refine r_iald (pc := 22) hX q_a1 hx4 (dk D_X1_tollOn 12 rfl) (fun qx4 => ?_)
    cases h
    exact r_ireturn (pc := 23) hX qx4 hM ⟨by decide, by decide⟩ (dk D_X1_tollOn 13 rfl)
  · rw [if_neg hc] at h
    refine r_aloadn (pc := 8) hX 0 rfl (dk D_X1_tollOn 4 rfl) ?_
    obtain ⟨x5, hx5, h⟩ := bd_some h
    refine r_getR (pc := 9) hX fl_1_21 rfl hx5 (dk D_X1_tollOn 5 rfl) ?_
    refine r_iloadn (pc := 12) hX 1 rfl (dk D_X1_tollOn 6 rfl) ?_
    obtain ⟨x6, hx6, h⟩ := bd_some h
    refine r_iald (pc := 13) hX q_a1 hx6 (dk D_X1_tollOn 7 rfl) (fun qx6 => ?_)
    refine r_goto (pc := 14) hX 23 rfl (dk D_X1_tollOn 8 rfl) ?_
    cases h
    exact r_ireturn (pc := 23) hX qx6 hM ⟨by decide, by decide⟩ (dk D_X1_tollOn 13 rfl)
set_option maxRecDepth 100000 in
set_option maxHeartbeats 4000000 in
theorem L_Kg_isLate {E : EX} {l : Launch} {a0 a1 a2 a3 res : Int} {μ μ' : Mem} (q_a2 : R32 a2) (q_a3 : R32 a3) (h : Kg_isLate a0 a1 a2 a3 μ = some (res, μ')) : Ok E l 1 yX1_isLate (.code yX1_isLate cX1_isLate 4 (some .boolean)) 0 0 [(2, a0), (2, a1), (0, a2), (0, a3)] μ (some (0, res)) μ' := by
  refine Ok.of (own := "TollsBack$Kingdom") [(0, 2, a0), (1, 2, a1), (2, 0, a2), (3, 0, a3)] (by decide +kernel) rfl (Nat.le_of_ble_eq_true rfl) rfl ?_
  intro X hL hRm hin hX hM
  unfold Kg_isLate at h
  subst hL
  refine r_iloadn (pc := 0) hX 3 rfl (dk D_X1_isLate 0 rfl) ?_
  refine r_aloadn (pc := 1) hX 1 rfl (dk D_X1_isLate 1 rfl) ?_
  obtain ⟨x1, hx1, h⟩ := bd_some h
  refine r_getR (pc := 2) hX fl_1_75 rfl hx1 (dk D_X1_isLate 2 rfl) ?_
  refine r_iloadn (pc := 5) hX 2 rfl (dk D_X1_isLate 3 rfl) ?_
  obtain ⟨x2, hx2, h⟩ := bd_some h
  refine r_iald (pc := 6) hX q_a2 hx2 (dk D_X1_isLate 4 rfl) (fun qx2 => ?_)
  refine r_isub (pc := 7) hX (dk D_X1_isLate 5 rfl) ?_
  refine r_aloadn (pc := 8) hX 0 rfl (dk D_X1_isLate 6 rfl) ?_
  obtain ⟨x3, hx3, h⟩ := bd_some h
  refine r_getI (pc := 9) hX fl_1_37 rfl rfl hx3 (dk D_X1_isLate 7 rfl) (fun qx3 => ?_)
  refine r_icmp_le (pc := 12) hX (R32_w _) qx3 19 rfl (dk D_X1_isLate 8 rfl) (fun hc => ?_) (fun hc => ?_)
  · rw [if_neg hc] at h
    refine r_iconst (pc := 19) hX (dk D_X1_isLate 11 rfl) ?_
    cases h
    exact r_zreturn (pc := 20) hX (R32_lit rfl) hM (Or.inl rfl) ⟨by decide, by decide⟩ (dk D_X1_isLate 12 rfl)
  · rw [if_pos hc] at h
    refine r_iconst (pc := 15) hX (dk D_X1_isLate 9 rfl) ?_
    refine r_goto (pc := 16) hX 20 rfl (dk D_X1_isLate 10 rfl) ?_
    cases h
    exact r_zreturn (pc := 20) hX (R32_lit rfl) hM (Or.inr rfl) ⟨by decide, by decide⟩ (dk D_X1_isLate 12 rfl)
set_option maxRecDepth 100000 in
set_option maxHeartbeats 4000000 in
theorem L_Kg_worthOn {E : EX} {l : Launch} {a0 a1 a2 a3 res : Int} {μ μ' : Mem} (q_a2 : R32 a2) (q_a3 : R32 a3) (h : Kg_worthOn a0 a1 a2 a3 μ = some (res, μ')) : Ok E l 2 yX1_worthOn (.code yX1_worthOn cX1_worthOn 4 (some .int)) 0 0 [(2, a0), (2, a1), (0, a2), (0, a3)] μ (some (0, res)) μ' := by
  refine Ok.of (own := "TollsBack$Kingdom") [(0, 2, a0), (1, 2, a1), (2, 0, a2), (3, 0, a3)] (by decide +kernel) rfl (Nat.le_of_ble_eq_true rfl) rfl ?_
  intro X hL hRm hin hX hM
  unfold Kg_worthOn at h
  subst hL
  refine r_aloadn (pc := 0) hX 0 rfl (dk D_X1_worthOn 0 rfl) ?_
  refine r_aloadn (pc := 1) hX 1 rfl (dk D_X1_worthOn 1 rfl) ?_
  refine r_iloadn (pc := 2) hX 2 rfl (dk D_X1_worthOn 2 rfl) ?_
  refine r_iloadn (pc := 3) hX 3 rfl (dk D_X1_worthOn 3 rfl) ?_
  obtain ⟨_, hi, h⟩ := bd_some h
  obtain ⟨x1, μ2, hx1, h⟩ := bd2_some h
  refine r_invV0 (As := [(2, a1), (0, a2), (0, a3)]) (pc := 4) hX ml_1_80 (L_Kg_isLate q_a2 q_a3 hx1) (isk_u hi) (Rm_of hRm (by decide) ⟨by decide, by decide⟩) (by decide) rfl (Nat.le_of_ble_eq_true rfl) rfl (dk D_X1_worthOn 4 rfl) (fun qx1 => ?_)
  refine r_if_eq (pc := 7) hX qx1 27 rfl (dk D_X1_worthOn 5 rfl) (fun hc => ?_) (fun hc => ?_)
  · rw [if_pos hc] at h
    refine r_aloadn (pc := 27) hX 1 rfl (dk D_X1_worthOn 16 rfl) ?_
    obtain ⟨x3, hx3, h⟩ := bd_some h
    refine r_getR (pc := 28) hX fl_1_84 rfl hx3 (dk D_X1_worthOn 17 rfl) ?_
    refine r_iloadn (pc := 31) hX 2 rfl (dk D_X1_worthOn 18 rfl) ?_
    obtain ⟨x4, hx4, h⟩ := bd_some h
    refine r_iald (pc := 32) hX q_a2 hx4 (dk D_X1_worthOn 19 rfl) (fun qx4 => ?_)
    cases h
    exact r_ireturn (pc := 33) hX qx4 hM ⟨by decide, by decide⟩ (dk D_X1_worthOn 20 rfl)
  · rw [if_neg hc] at h
    refine r_aloadn (pc := 10) hX 1 rfl (dk D_X1_worthOn 6 rfl) ?_
    obtain ⟨x5, hx5, h⟩ := bd_some h
    refine r_getR (pc := 11) hX fl_1_84 rfl hx5 (dk D_X1_worthOn 7 rfl) ?_
    refine r_iloadn (pc := 14) hX 2 rfl (dk D_X1_worthOn 8 rfl) ?_
    obtain ⟨x6, hx6, h⟩ := bd_some h
    refine r_iald (pc := 15) hX q_a2 hx6 (dk D_X1_worthOn 9 rfl) (fun qx6 => ?_)
    refine r_aloadn (pc := 16) hX 0 rfl (dk D_X1_worthOn 10 rfl) ?_
    obtain ⟨x7, hx7, h⟩ := bd_some h
    refine r_getI (pc := 17) hX fl_1_40 rfl rfl hx7 (dk D_X1_worthOn 11 rfl) (fun qx7 => ?_)
    refine r_imul (pc := 20) hX (dk D_X1_worthOn 12 rfl) ?_
    refine r_bipush (pc := 21) hX rfl (dk D_X1_worthOn 13 rfl) ?_
    obtain ⟨x8, hx8, h⟩ := bd_some h
    refine r_idiv (pc := 23) hX (R32_lit rfl) hx8 (dk D_X1_worthOn 14 rfl) (fun qx8 => ?_)
    refine r_goto (pc := 24) hX 33 rfl (dk D_X1_worthOn 15 rfl) ?_
    cases h
    exact r_ireturn (pc := 33) hX qx8 hM ⟨by decide, by decide⟩ (dk D_X1_worthOn 20 rfl)
set_option maxRecDepth 100000 in
set_option maxHeartbeats 4000000 in
theorem L_Nu_init {E : EX} {l : Launch} {a0 res : Int} {μ μ' : Mem}  (h : Nu_init a0 μ = some (res, μ')) : Ok E l 1 yX2_init (.code yX2_init cX2_init 1 none) 1 40 [(2, a0)] μ none μ' := by
  refine Ok.of (own := "TollsBack$Numbers") [(0, 2, a0)] (by decide +kernel) rfl (Nat.le_of_ble_eq_true rfl) rfl ?_
  intro X hL hRm hin hX hM
  unfold Nu_init at h
  subst hL
  refine r_aloadn (pc := 0) (cs := (0, 0)) hX 0 rfl (dk D_X2_init 0 rfl) ?_
  obtain ⟨_, hi, h⟩ := bd_some h
  refine r_objI (pc := 1) (cs := (0, 0)) hX (isk_nn hi (by decide)) ml_2_3 (Rm_of hRm (by decide) ⟨by (try dsimp only); omega, by (try dsimp only); omega⟩) (Nat.le_of_ble_eq_true rfl) (dk D_X2_init 1 rfl) ?_
  refine r_aloadn (pc := 4) (cs := (0, 0)) hX 0 rfl (dk D_X2_init 2 rfl) ?_
  refine r_bipush (pc := 5) (cs := (0, 0)) hX rfl (dk D_X2_init 3 rfl) ?_
  refine r_newJ (N := 40) (pc := 7) (cs := (0, 0)) hX ac_long (by decide) (by rw [hRm]; exact ⟨by (show _ ≤ (rmOf _ _ _).cells); (simp only [rmOf]); omega, by (show _ ≤ (rmOf _ _ _).slots); (simp only [rmOf]); omega⟩) (dk D_X2_init 4 rfl) ?_
  obtain ⟨μ1, hμ1, h⟩ := bd_some h
  refine r_putF (pc := 9) (cs := (1, 40)) hX fl_2_9 (hin rfl) ⟨_, _, _, rfl, rfl⟩ rfl rfl trivial hμ1 (dk D_X2_init 5 rfl) ?_
  refine r_aloadn (pc := 12) (cs := (1, 40)) hX 0 rfl (dk D_X2_init 6 rfl) ?_
  refine r_iconst (pc := 13) (cs := (1, 40)) hX (dk D_X2_init 7 rfl) ?_
  obtain ⟨μ2, hμ2, h⟩ := bd_some h
  refine r_putI (pc := 14) (cs := (1, 40)) hX fl_2_15 rfl rfl (R32_lit rfl) (Or.inr rfl) hμ2 (dk D_X2_init 8 rfl) ?_
  cases h
  exact r_return (pc := 17) hX hM ⟨by (try dsimp only); omega, by (try dsimp only); omega⟩ (dk D_X2_init 9 rfl)
set_option maxRecDepth 100000 in
set_option maxHeartbeats 4000000 in
theorem L_J_fillJ_L6 {E : EX} {X : CX} {res : Int} {μe : Mem} (hX : Good E X cJ7_fill_d0a16 5 "java/util/Arrays") (hM : GoodM E X none none μe 0 0) (hRm : cR X = rmOf 1 0 0) : ∀ (n : Nat) (v0 v1 v3 v4 : Int) (μ : Mem) (q_v1 : R64 v1) (q_v3 : R32 v3) (q_v4 : R32 v4) (h : J_fillJ_L6 n v0 v1 v3 v4 μ = some (res, μe)), At E X cJ7_fill_d0a16 5 "java/util/Arrays" (0, 0) 6 [(0, 2, v0), (1, 1, v1), (3, 0, v3), (4, 0, v4)] [] μ := by
  intro n
  induction n with
  | zero =>
    intro v0 v1 v3 v4 μ q_v1 q_v3 q_v4 h
    have h : (none : Option (Int × Mem)) = some (res, μe) := h
    cases h
  | succ n ih =>
    intro v0 v1 v3 v4 μ q_v1 q_v3 q_v4 h
    rw [J_fillJ_L6.eq_2] at h
    refine r_iloadn (pc := 6) hX 2 rfl (dk D_J7_fill_d0a16 5 rfl) ?_
    refine r_iload (pc := 7) hX 3 rfl (dk D_J7_fill_d0a16 6 rfl) ?_
    refine r_icmp_ge (pc := 9) hX q_v3 q_v4 22 rfl (dk D_J7_fill_d0a16 7 rfl) (fun hc => ?_) (fun hc => ?_)
    · rw [if_neg hc] at h
      cases h
      exact r_return (pc := 22) hX hM ⟨by decide, by decide⟩ (dk D_J7_fill_d0a16 14 rfl)
    · rw [if_pos hc] at h
      refine r_aloadn (pc := 12) hX 0 rfl (dk D_J7_fill_d0a16 8 rfl) ?_
      refine r_iloadn (pc := 13) hX 2 rfl (dk D_J7_fill_d0a16 9 rfl) ?_
      refine r_lloadn (pc := 14) hX 1 rfl (dk D_J7_fill_d0a16 10 rfl) ?_
      obtain ⟨μ1, hμ1, h⟩ := bd_some h
      refine r_last (pc := 15) hX q_v3 q_v1 hμ1 (dk D_J7_fill_d0a16 11 rfl) ?_
      refine r_iinc (lv' := [(3, 0, (w32 (v3 + 1))), (0, 2, v0), (1, 1, v1), (4, 0, v4)]) (pc := 16) hX 2 rfl (by decide) rfl (dk D_J7_fill_d0a16 12 rfl) ?_
      refine r_goto (pc := 19) hX 6 rfl (dk D_J7_fill_d0a16 13 rfl) ?_
      refine r_sub (lv' := [(0, 2, v0), (1, 1, v1), (3, 0, (w32 (v3 + 1))), (4, 0, v4)]) [1, 2, 0, 3] rfl ?_
      exact ih v0 v1 (w32 (v3 + 1)) v4 μ1 q_v1 (R32_w _) q_v4 h
set_option maxRecDepth 100000 in
set_option maxHeartbeats 4000000 in
theorem L_J_fillJ {E : EX} {l : Launch} {a0 a1 res : Int} {μ μ' : Mem} (q_a1 : R64 a1) (h : J_fillJ a0 a1 μ = some (res, μ')) : Ok E l 1 yJ7_fill_d0a16 (.code yJ7_fill_d0a16 cJ7_fill_d0a16 5 none) 0 0 [(2, a0), (1, a1)] μ none μ' := by
  refine Ok.of (own := "java/util/Arrays") [(0, 2, a0), (1, 1, a1)] (by decide +kernel) rfl (Nat.le_of_ble_eq_true rfl) rfl ?_
  intro X hL hRm hin hX hM
  unfold J_fillJ at h
  subst hL
  refine r_iconst (pc := 0) hX (dk D_J7_fill_d0a16 0 rfl) ?_
  refine r_istoren (lv' := [(3, 0, 0), (0, 2, a0), (1, 1, a1)]) (pc := 1) hX (by decide) rfl (dk D_J7_fill_d0a16 1 rfl) ?_
  refine r_aloadn (pc := 2) hX 1 rfl (dk D_J7_fill_d0a16 2 rfl) ?_
  obtain ⟨x1, hx1, h⟩ := bd_some h
  refine r_alen21 (pc := 3) hX hx1 (dk D_J7_fill_d0a16 3 rfl) (fun qx1 => ?_)
  refine r_istore (lv' := [(4, 0, x1), (3, 0, 0), (0, 2, a0), (1, 1, a1)]) (pc := 4) hX (by decide) rfl (dk D_J7_fill_d0a16 4 rfl) ?_
  refine r_sub (lv' := [(0, 2, a0), (1, 1, a1), (3, 0, 0), (4, 0, x1)]) [2, 3, 1, 0] rfl ?_
  refine L_J_fillJ_L6 hX hM hRm FU a0 a1 0 x1 μ q_a1 (R32_lit rfl) qx1 h
set_option maxRecDepth 100000 in
set_option maxHeartbeats 4000000 in
theorem L_Nu_renew {E : EX} {l : Launch} {a0 a1 a2 res : Int} {μ μ' : Mem} (q_a1 : R32 a1) (q_a2 : R32 a2) (h : Nu_renew a0 a1 a2 μ = some (res, μ')) : Ok E l 2 yX2_renew (.code yX2_renew cX2_renew 3 none) 0 0 [(2, a0), (0, a1), (0, a2)] μ none μ' := by
  refine Ok.of (own := "TollsBack$Numbers") [(0, 2, a0), (1, 0, a1), (2, 0, a2)] (by decide +kernel) rfl (Nat.le_of_ble_eq_true rfl) rfl ?_
  intro X hL hRm hin hX hM
  unfold Nu_renew at h
  subst hL
  refine r_aloadn (pc := 0) hX 0 rfl (dk D_X2_renew 0 rfl) ?_
  refine r_iconst (pc := 1) hX (dk D_X2_renew 1 rfl) ?_
  obtain ⟨μ1, hμ1, h⟩ := bd_some h
  refine r_putI (pc := 2) hX fl_2_15 rfl rfl (R32_lit rfl) (Or.inl rfl) hμ1 (dk D_X2_renew 2 rfl) ?_
  refine r_aloadn (pc := 5) hX 0 rfl (dk D_X2_renew 3 rfl) ?_
  refine r_iloadn (pc := 6) hX 1 rfl (dk D_X2_renew 4 rfl) ?_
  obtain ⟨μ2, hμ2, h⟩ := bd_some h
  refine r_putI (pc := 7) hX fl_2_19 rfl rfl q_a1 trivial hμ2 (dk D_X2_renew 5 rfl) ?_
  refine r_aloadn (pc := 10) hX 0 rfl (dk D_X2_renew 6 rfl) ?_
  refine r_iloadn (pc := 11) hX 2 rfl (dk D_X2_renew 7 rfl) ?_
  obtain ⟨μ3, hμ3, h⟩ := bd_some h
  refine r_putI (pc := 12) hX fl_2_23 rfl rfl q_a2 trivial hμ3 (dk D_X2_renew 8 rfl) ?_
  refine r_aloadn (pc := 15) hX 0 rfl (dk D_X2_renew 9 rfl) ?_
  obtain ⟨x4, hx4, h⟩ := bd_some h
  refine r_getR (pc := 16) hX fl_2_9 rfl hx4 (dk D_X2_renew 10 rfl) ?_
  refine r_lconst (x := 0) (pc := 19) hX (by decide) (dk D_X2_renew 11 rfl) ?_
  obtain ⟨x5, μ6, hx5, h⟩ := bd2_some h
  refine r_invS0 (As := [(2, x4), (1, 0)]) (pc := 20) hX ml_2_26 (L_J_fillJ (R64_lit rfl) hx5) (Rm_of hRm (by decide) ⟨by decide, by decide⟩) (by decide) rfl (Nat.le_of_ble_eq_true rfl) rfl (dk D_X2_renew 12 rfl) (fun _ => ?_)
  cases h
  exact r_return (pc := 23) hX hM ⟨by decide, by decide⟩ (dk D_X2_renew 13 rfl)
set_option maxRecDepth 100000 in
set_option maxHeartbeats 4000000 in
theorem L_Nu_put {E : EX} {l : Launch} {a0 a1 a2 res : Int} {μ μ' : Mem} (q_a1 : R32 a1) (q_a2 : R64 a2) (h : Nu_put a0 a1 a2 μ = some (res, μ')) : Ok E l 1 yX2_put (.code yX2_put cX2_put 4 none) 0 0 [(2, a0), (0, a1), (1, a2)] μ none μ' := by
  refine Ok.of (own := "TollsBack$Numbers") [(0, 2, a0), (1, 0, a1), (2, 1, a2)] (by decide +kernel) rfl (Nat.le_of_ble_eq_true rfl) rfl ?_
  intro X hL hRm hin hX hM
  unfold Nu_put at h
  subst hL
  refine r_aloadn (pc := 0) hX 0 rfl (dk D_X2_put 0 rfl) ?_
  obtain ⟨x1, hx1, h⟩ := bd_some h
  refine r_getI (pc := 1) hX fl_2_19 rfl rfl hx1 (dk D_X2_put 1 rfl) (fun qx1 => ?_)
  by_cases hc0 : x1 = 0
  · rw [if_pos hc0] at h
    refine r_table (pc := 4) hX (by rw [hc0]; exact R32_lit rfl) 32 (dk D_X2_put 2 rfl) (by omega) (by omega) (by rw [hc0]; rfl) rfl ?_
    refine r_aloadn (pc := 32) hX 0 rfl (dk D_X2_put 3 rfl) ?_
    obtain ⟨x2, hx2, h⟩ := bd_some h
    refine r_getR (pc := 33) hX fl_2_9 rfl hx2 (dk D_X2_put 4 rfl) ?_
    refine r_iloadn (pc := 36) hX 1 rfl (dk D_X2_put 5 rfl) ?_
    refine r_lloadn (pc := 37) hX 2 rfl (dk D_X2_put 6 rfl) ?_
    refine r_l2i (pc := 38) hX q_a2 (dk D_X2_put 7 rfl) ?_
    refine r_i2b (pc := 39) hX (dk D_X2_put 8 rfl) ?_
    refine r_i2l (pc := 40) hX (R32_t _) (dk D_X2_put 9 rfl) ?_
    obtain ⟨μ3, hμ3, h⟩ := bd_some h
    refine r_last (pc := 41) hX q_a1 (R64_of (R32_t _)) hμ3 (dk D_X2_put 10 rfl) ?_
    refine r_goto (pc := 42) hX 77 rfl (dk D_X2_put 11 rfl) ?_
    cases h
    exact r_return (pc := 77) hX hM ⟨by decide, by decide⟩ (dk D_X2_put 34 rfl)
  · rw [if_neg hc0] at h
    by_cases hc1 : x1 = 1
    · rw [if_pos hc1] at h
      refine r_table (pc := 4) hX (by rw [hc1]; exact R32_lit rfl) 45 (dk D_X2_put 2 rfl) (by omega) (by omega) (by rw [hc1]; rfl) rfl ?_
      refine r_aloadn (pc := 45) hX 0 rfl (dk D_X2_put 12 rfl) ?_
      obtain ⟨x4, hx4, h⟩ := bd_some h
      refine r_getR (pc := 46) hX fl_2_9 rfl hx4 (dk D_X2_put 13 rfl) ?_
      refine r_iloadn (pc := 49) hX 1 rfl (dk D_X2_put 14 rfl) ?_
      refine r_lloadn (pc := 50) hX 2 rfl (dk D_X2_put 15 rfl) ?_
      refine r_l2i (pc := 51) hX q_a2 (dk D_X2_put 16 rfl) ?_
      refine r_i2s (pc := 52) hX (dk D_X2_put 17 rfl) ?_
      refine r_i2l (pc := 53) hX (R32_t _) (dk D_X2_put 18 rfl) ?_
      obtain ⟨μ5, hμ5, h⟩ := bd_some h
      refine r_last (pc := 54) hX q_a1 (R64_of (R32_t _)) hμ5 (dk D_X2_put 19 rfl) ?_
      refine r_goto (pc := 55) hX 77 rfl (dk D_X2_put 20 rfl) ?_
      cases h
      exact r_return (pc := 77) hX hM ⟨by decide, by decide⟩ (dk D_X2_put 34 rfl)
    · rw [if_neg hc1] at h
      by_cases hc2 : x1 = 2
      · rw [if_pos hc2] at h
        refine r_table (pc := 4) hX (by rw [hc2]; exact R32_lit rfl) 58 (dk D_X2_put 2 rfl) (by omega) (by omega) (by rw [hc2]; rfl) rfl ?_
        refine r_aloadn (pc := 58) hX 0 rfl (dk D_X2_put 21 rfl) ?_
        obtain ⟨x6, hx6, h⟩ := bd_some h
        refine r_getR (pc := 59) hX fl_2_9 rfl hx6 (dk D_X2_put 22 rfl) ?_
        refine r_iloadn (pc := 62) hX 1 rfl (dk D_X2_put 23 rfl) ?_
        refine r_lloadn (pc := 63) hX 2 rfl (dk D_X2_put 24 rfl) ?_
        refine r_l2i (pc := 64) hX q_a2 (dk D_X2_put 25 rfl) ?_
        refine r_i2l (pc := 65) hX (R32_w _) (dk D_X2_put 26 rfl) ?_
        obtain ⟨μ7, hμ7, h⟩ := bd_some h
        refine r_last (pc := 66) hX q_a1 (R64_of (R32_w _)) hμ7 (dk D_X2_put 27 rfl) ?_
        refine r_goto (pc := 67) hX 77 rfl (dk D_X2_put 28 rfl) ?_
        cases h
        exact r_return (pc := 77) hX hM ⟨by decide, by decide⟩ (dk D_X2_put 34 rfl)
      · rw [if_neg hc2] at h
        refine r_tableD (pc := 4) hX qx1 70 (dk D_X2_put 2 rfl) (by omega) rfl ?_
        refine r_aloadn (pc := 70) hX 0 rfl (dk D_X2_put 29 rfl) ?_
        obtain ⟨x8, hx8, h⟩ := bd_some h
        refine r_getR (pc := 71) hX fl_2_9 rfl hx8 (dk D_X2_put 30 rfl) ?_
        refine r_iloadn (pc := 74) hX 1 rfl (dk D_X2_put 31 rfl) ?_
        refine r_lloadn (pc := 75) hX 2 rfl (dk D_X2_put 32 rfl) ?_
        obtain ⟨μ9, hμ9, h⟩ := bd_some h
        refine r_last (pc := 76) hX q_a1 q_a2 hμ9 (dk D_X2_put 33 rfl) ?_
        cases h
        exact r_return (pc := 77) hX hM ⟨by decide, by decide⟩ (dk D_X2_put 34 rfl)
set_option maxRecDepth 100000 in
set_option maxHeartbeats 4000000 in
theorem L_Rd_init {E : EX} {l : Launch} {a0 res : Int} {μ μ' : Mem}  (h : Rd_init a0 μ = some (res, μ')) : Ok E l 3 yX3_init (.code yX3_init cX3_init 1 none) 7 133 [(2, a0)] μ none μ' := by
  refine Ok.of (own := "TollsBack$Reader") [(0, 2, a0)] (by decide +kernel) rfl (Nat.le_of_ble_eq_true rfl) rfl ?_
  intro X hL hRm hin hX hM
  unfold Rd_init at h
  subst hL
  refine r_aloadn (pc := 0) (cs := (0, 0)) hX 0 rfl (dk D_X3_init 0 rfl) ?_
  obtain ⟨_, hi, h⟩ := bd_some h
  refine r_objI (pc := 1) (cs := (0, 0)) hX (isk_nn hi (by decide)) ml_3_3 (Rm_of hRm (by decide) ⟨by (try dsimp only); omega, by (try dsimp only); omega⟩) (Nat.le_of_ble_eq_true rfl) (dk D_X3_init 1 rfl) ?_
  refine r_aloadn (pc := 4) (cs := (0, 0)) hX 0 rfl (dk D_X3_init 2 rfl) ?_
  refine r_new (pc := 5) (cs := (0, 0)) hX nw_3_9 (by rw [hRm]; exact ⟨by (show _ ≤ (rmOf _ _ _).cells); (simp only [rmOf]); omega, by (show _ ≤ (rmOf _ _ _).slots); (simp only [rmOf]); omega⟩) (dk D_X3_init 3 rfl) ?_
  refine r_dup (pc := 8) (cs := (1, 13)) hX rfl (dk D_X3_init 4 rfl) ?_
  obtain ⟨x1, μ2, hx1, h⟩ := bd2_some h
  refine r_invI (As := []) (pc := 9) (cs := (1, 13)) hX ml_3_11 (L_Kg_init hx1) nlen_nn (Rm_of hRm (by decide) ⟨by (try dsimp only); omega, by (try dsimp only); omega⟩) (by decide) rfl (Nat.le_of_ble_eq_true rfl) rfl (dk D_X3_init 5 rfl) ?_
  obtain ⟨μ3, hμ3, h⟩ := bd_some h
  refine r_putF (pc := 12) (cs := (6, 133)) hX fl_3_12 (hin rfl) ⟨_, _, _, rfl, rfl⟩ rfl rfl trivial hμ3 (dk D_X3_init 6 rfl) ?_
  refine r_aloadn (pc := 15) (cs := (6, 133)) hX 0 rfl (dk D_X3_init 7 rfl) ?_
  refine r_iconst (pc := 16) (cs := (6, 133)) hX (dk D_X3_init 8 rfl) ?_
  refine r_newB (N := 0) (pc := 17) (cs := (6, 133)) hX ac_byte (by decide) (by rw [hRm]; exact ⟨by (show _ ≤ (rmOf _ _ _).cells); (simp only [rmOf]); omega, by (show _ ≤ (rmOf _ _ _).slots); (simp only [rmOf]); omega⟩) (dk D_X3_init 9 rfl) ?_
  obtain ⟨μ4, hμ4, h⟩ := bd_some h
  refine r_putR (pc := 19) (cs := (7, 133)) hX fl_3_18 rfl rfl trivial hμ4 (dk D_X3_init 10 rfl) ?_
  cases h
  exact r_return (pc := 22) hX hM ⟨by (try dsimp only); omega, by (try dsimp only); omega⟩ (dk D_X3_init 11 rfl)
set_option maxRecDepth 100000 in
set_option maxHeartbeats 4000000 in
theorem L_J_min {E : EX} {l : Launch} {a0 a1 res : Int} {μ μ' : Mem} (q_a0 : R32 a0) (q_a1 : R32 a1) (h : J_min a0 a1 μ = some (res, μ')) : Ok E l 1 yJ9_min_7cf53 (.code yJ9_min_7cf53 cJ9_min_7cf53 2 (some .int)) 0 0 [(0, a0), (0, a1)] μ (some (0, res)) μ' := by
  refine Ok.of (own := "java/lang/Math") [(0, 0, a0), (1, 0, a1)] (by decide +kernel) rfl (Nat.le_of_ble_eq_true rfl) rfl ?_
  intro X hL hRm hin hX hM
  unfold J_min at h
  subst hL
  refine r_iloadn (pc := 0) hX 0 rfl (dk D_J9_min_7cf53 0 rfl) ?_
  refine r_iloadn (pc := 1) hX 1 rfl (dk D_J9_min_7cf53 1 rfl) ?_
  refine r_icmp_gt (pc := 2) hX q_a0 q_a1 9 rfl (dk D_J9_min_7cf53 2 rfl) (fun hc => ?_) (fun hc => ?_)
  · rw [if_pos hc] at h
    refine r_iloadn (pc := 9) hX 1 rfl (dk D_J9_min_7cf53 5 rfl) ?_
    cases h
    exact r_ireturn (pc := 10) hX q_a1 hM ⟨by decide, by decide⟩ (dk D_J9_min_7cf53 6 rfl)
  · rw [if_neg hc] at h
    refine r_iloadn (pc := 5) hX 0 rfl (dk D_J9_min_7cf53 3 rfl) ?_
    refine r_goto (pc := 6) hX 10 rfl (dk D_J9_min_7cf53 4 rfl) ?_
    cases h
    exact r_ireturn (pc := 10) hX q_a0 hM ⟨by decide, by decide⟩ (dk D_J9_min_7cf53 6 rfl)
set_option maxRecDepth 100000 in
set_option maxHeartbeats 4000000 in
theorem L_Rd_blame {E : EX} {l : Launch} {a0 a1 res : Int} {μ μ' : Mem} (q_a1 : R32 a1) (h : Rd_blame a0 a1 μ = some (res, μ')) : Ok E l 1 yX3_blame (.code yX3_blame cX3_blame 2 none) 0 0 [(2, a0), (0, a1)] μ none μ' := by
  refine Ok.of (own := "TollsBack$Reader") [(0, 2, a0), (1, 0, a1)] (by decide +kernel) rfl (Nat.le_of_ble_eq_true rfl) rfl ?_
  intro X hL hRm hin hX hM
  unfold Rd_blame at h
  subst hL
  refine r_aloadn (pc := 0) hX 0 rfl (dk D_X3_blame 0 rfl) ?_
  obtain ⟨x1, hx1, h⟩ := bd_some h
  refine r_getI (pc := 1) hX fl_3_35 rfl rfl hx1 (dk D_X3_blame 1 rfl) (fun qx1 => ?_)
  refine r_if_ne (pc := 4) hX qx1 20 rfl (dk D_X3_blame 2 rfl) (fun hc => ?_) (fun hc => ?_)
  · rw [if_neg hc] at h
    cases h
    exact r_return (pc := 20) hX hM ⟨by decide, by decide⟩ (dk D_X3_blame 10 rfl)
  · rw [if_pos hc] at h
    refine r_aloadn (pc := 7) hX 0 rfl (dk D_X3_blame 3 rfl) ?_
    refine r_iloadn (pc := 8) hX 1 rfl (dk D_X3_blame 4 rfl) ?_
    obtain ⟨μ2, hμ2, h⟩ := bd_some h
    refine r_putI (pc := 9) hX fl_3_35 rfl rfl q_a1 trivial hμ2 (dk D_X3_blame 5 rfl) ?_
    refine r_aloadn (pc := 12) hX 0 rfl (dk D_X3_blame 6 rfl) ?_
    refine r_aloadn (pc := 13) hX 0 rfl (dk D_X3_blame 7 rfl) ?_
    obtain ⟨x3, hx3, h⟩ := bd_some h
    refine r_getI (pc := 14) hX fl_3_139 rfl rfl hx3 (dk D_X3_blame 8 rfl) (fun qx3 => ?_)
    obtain ⟨μ4, hμ4, h⟩ := bd_some h
    refine r_putI (pc := 17) hX fl_3_38 rfl rfl qx3 trivial hμ4 (dk D_X3_blame 9 rfl) ?_
    cases h
    exact r_return (pc := 20) hX hM ⟨by decide, by decide⟩ (dk D_X3_blame 10 rfl)
set_option maxRecDepth 100000 in
set_option maxHeartbeats 4000000 in
theorem L_Rd_isBlank {E : EX} {l : Launch} {a0 res : Int} {μ μ' : Mem} (q_a0 : R32 a0) (h : Rd_isBlank a0 μ = some (res, μ')) : Ok E l 1 yX3_isBlank (.code yX3_isBlank cX3_isBlank 1 (some .boolean)) 0 0 [(0, a0)] μ (some (0, res)) μ' := by
  refine Ok.of (own := "TollsBack$Reader") [(0, 0, a0)] (by decide +kernel) rfl (Nat.le_of_ble_eq_true rfl) rfl ?_
  intro X hL hRm hin hX hM
  unfold Rd_isBlank at h
  subst hL
  refine r_iloadn (pc := 0) hX 0 rfl (dk D_X3_isBlank 0 rfl) ?_
  refine r_bipush (pc := 1) hX rfl (dk D_X3_isBlank 1 rfl) ?_
  refine r_icmp_eq (pc := 3) hX q_a0 (R32_lit rfl) 12 rfl (dk D_X3_isBlank 2 rfl) (fun hc => ?_) (fun hc => ?_)
  · rw [if_pos hc] at h
    refine r_iconst (pc := 12) hX (dk D_X3_isBlank 6 rfl) ?_
    refine r_goto (pc := 13) hX 17 rfl (dk D_X3_isBlank 7 rfl) ?_
    cases h
    exact r_zreturn (pc := 17) hX (R32_lit rfl) hM (Or.inr rfl) ⟨by decide, by decide⟩ (dk D_X3_isBlank 9 rfl)
  · rw [if_neg hc] at h
    refine r_iloadn (pc := 6) hX 0 rfl (dk D_X3_isBlank 3 rfl) ?_
    refine r_bipush (pc := 7) hX rfl (dk D_X3_isBlank 4 rfl) ?_
    refine r_icmp_ne (pc := 9) hX q_a0 (R32_lit rfl) 16 rfl (dk D_X3_isBlank 5 rfl) (fun hc => ?_) (fun hc => ?_)
    · rw [if_neg hc] at h
      refine r_iconst (pc := 16) hX (dk D_X3_isBlank 8 rfl) ?_
      cases h
      exact r_zreturn (pc := 17) hX (R32_lit rfl) hM (Or.inl rfl) ⟨by decide, by decide⟩ (dk D_X3_isBlank 9 rfl)
    · rw [if_pos hc] at h
      refine r_iconst (pc := 12) hX (dk D_X3_isBlank 6 rfl) ?_
      refine r_goto (pc := 13) hX 17 rfl (dk D_X3_isBlank 7 rfl) ?_
      cases h
      exact r_zreturn (pc := 17) hX (R32_lit rfl) hM (Or.inr rfl) ⟨by decide, by decide⟩ (dk D_X3_isBlank 9 rfl)
set_option maxRecDepth 100000 in
set_option maxHeartbeats 4000000 in
theorem L_Rd_isDigit {E : EX} {l : Launch} {a0 res : Int} {μ μ' : Mem} (q_a0 : R32 a0) (h : Rd_isDigit a0 μ = some (res, μ')) : Ok E l 1 yX3_isDigit (.code yX3_isDigit cX3_isDigit 1 (some .boolean)) 0 0 [(0, a0)] μ (some (0, res)) μ' := by
  refine Ok.of (own := "TollsBack$Reader") [(0, 0, a0)] (by decide +kernel) rfl (Nat.le_of_ble_eq_true rfl) rfl ?_
  intro X hL hRm hin hX hM
  unfold Rd_isDigit at h
  subst hL
  refine r_iloadn (pc := 0) hX 0 rfl (dk D_X3_isDigit 0 rfl) ?_
  refine r_bipush (pc := 1) hX rfl (dk D_X3_isDigit 1 rfl) ?_
  refine r_icmp_lt (pc := 3) hX q_a0 (R32_lit rfl) 16 rfl (dk D_X3_isDigit 2 rfl) (fun hc => ?_) (fun hc => ?_)
  · rw [if_pos hc] at h
    refine r_iconst (pc := 16) hX (dk D_X3_isDigit 8 rfl) ?_
    cases h
    exact r_zreturn (pc := 17) hX (R32_lit rfl) hM (Or.inl rfl) ⟨by decide, by decide⟩ (dk D_X3_isDigit 9 rfl)
  · rw [if_neg hc] at h
    refine r_iloadn (pc := 6) hX 0 rfl (dk D_X3_isDigit 3 rfl) ?_
    refine r_bipush (pc := 7) hX rfl (dk D_X3_isDigit 4 rfl) ?_
    refine r_icmp_gt (pc := 9) hX q_a0 (R32_lit rfl) 16 rfl (dk D_X3_isDigit 5 rfl) (fun hc => ?_) (fun hc => ?_)
    · rw [if_pos hc] at h
      refine r_iconst (pc := 16) hX (dk D_X3_isDigit 8 rfl) ?_
      cases h
      exact r_zreturn (pc := 17) hX (R32_lit rfl) hM (Or.inl rfl) ⟨by decide, by decide⟩ (dk D_X3_isDigit 9 rfl)
    · rw [if_neg hc] at h
      refine r_iconst (pc := 12) hX (dk D_X3_isDigit 6 rfl) ?_
      refine r_goto (pc := 13) hX 17 rfl (dk D_X3_isDigit 7 rfl) ?_
      cases h
      exact r_zreturn (pc := 17) hX (R32_lit rfl) hM (Or.inr rfl) ⟨by decide, by decide⟩ (dk D_X3_isDigit 9 rfl)
set_option maxRecDepth 100000 in
set_option maxHeartbeats 4000000 in
theorem L_Rd_isLetter {E : EX} {l : Launch} {a0 res : Int} {μ μ' : Mem} (q_a0 : R32 a0) (h : Rd_isLetter a0 μ = some (res, μ')) : Ok E l 1 yX3_isLetter (.code yX3_isLetter cX3_isLetter 1 (some .boolean)) 0 0 [(0, a0)] μ (some (0, res)) μ' := by
  refine Ok.of (own := "TollsBack$Reader") [(0, 0, a0)] (by decide +kernel) rfl (Nat.le_of_ble_eq_true rfl) rfl ?_
  intro X hL hRm hin hX hM
  unfold Rd_isLetter at h
  subst hL
  refine r_iloadn (pc := 0) hX 0 rfl (dk D_X3_isLetter 0 rfl) ?_
  refine r_bipush (pc := 1) hX rfl (dk D_X3_isLetter 1 rfl) ?_
  refine r_icmp_lt (pc := 3) hX q_a0 (R32_lit rfl) 16 rfl (dk D_X3_isLetter 2 rfl) (fun hc => ?_) (fun hc => ?_)
  · rw [if_pos hc] at h
    refine r_iconst (pc := 16) hX (dk D_X3_isLetter 8 rfl) ?_
    cases h
    exact r_zreturn (pc := 17) hX (R32_lit rfl) hM (Or.inl rfl) ⟨by decide, by decide⟩ (dk D_X3_isLetter 9 rfl)
  · rw [if_neg hc] at h
    refine r_iloadn (pc := 6) hX 0 rfl (dk D_X3_isLetter 3 rfl) ?_
    refine r_bipush (pc := 7) hX rfl (dk D_X3_isLetter 4 rfl) ?_
    refine r_icmp_gt (pc := 9) hX q_a0 (R32_lit rfl) 16 rfl (dk D_X3_isLetter 5 rfl) (fun hc => ?_) (fun hc => ?_)
    · rw [if_pos hc] at h
      refine r_iconst (pc := 16) hX (dk D_X3_isLetter 8 rfl) ?_
      cases h
      exact r_zreturn (pc := 17) hX (R32_lit rfl) hM (Or.inl rfl) ⟨by decide, by decide⟩ (dk D_X3_isLetter 9 rfl)
    · rw [if_neg hc] at h
      refine r_iconst (pc := 12) hX (dk D_X3_isLetter 6 rfl) ?_
      refine r_goto (pc := 13) hX 17 rfl (dk D_X3_isLetter 7 rfl) ?_
      cases h
      exact r_zreturn (pc := 17) hX (R32_lit rfl) hM (Or.inr rfl) ⟨by decide, by decide⟩ (dk D_X3_isLetter 9 rfl)
set_option maxRecDepth 100000 in
set_option maxHeartbeats 4000000 in
theorem L_Rd_readNumber_L10 {E : EX} {X : CX} {res : Int} {μe : Mem} (hX : Good E X cX3_readNumber 1 "TollsBack$Reader") (hM : GoodM E X none none μe 0 0) (hRm : cR X = rmOf 2 0 0) {k73 : Int → Mem → Option (Int × Mem)} (hk73 : ∀ (u0 : Int) (μ : Mem), k73 u0 μ = some (res, μe) → At E X cX3_readNumber 1 "TollsBack$Reader" (0, 0) 73 [(0, 2, u0)] [] μ) : ∀ (n : Nat) (v0 : Int) (μ : Mem)  (h : Rd_readNumber_L10 k73 n v0 μ = some (res, μe)), At E X cX3_readNumber 1 "TollsBack$Reader" (0, 0) 10 [(0, 2, v0)] [] μ := by
  intro n
  induction n with
  | zero =>
    intro v0 μ  h
    have h : (none : Option (Int × Mem)) = some (res, μe) := h
    cases h
  | succ n ih =>
    intro v0 μ  h
    rw [Rd_readNumber_L10.eq_2] at h
    refine r_aloadn (pc := 10) hX 0 rfl (dk D_X3_readNumber 6 rfl) ?_
    obtain ⟨x1, hx1, h⟩ := bd_some h
    refine r_getI (pc := 11) hX fl_3_32 rfl rfl hx1 (dk D_X3_readNumber 7 rfl) (fun qx1 => ?_)
    refine r_aloadn (pc := 14) hX 0 rfl (dk D_X3_readNumber 8 rfl) ?_
    obtain ⟨x2, hx2, h⟩ := bd_some h
    refine r_getI (pc := 15) hX fl_3_28 rfl rfl hx2 (dk D_X3_readNumber 9 rfl) (fun qx2 => ?_)
    refine r_icmp_ge (pc := 18) hX qx1 qx2 73 rfl (dk D_X3_readNumber 10 rfl) (fun hc => ?_) (fun hc => ?_)
    · rw [if_neg hc] at h
      exact hk73 v0 μ h
    · rw [if_pos hc] at h
      refine r_aloadn (pc := 21) hX 0 rfl (dk D_X3_readNumber 11 rfl) ?_
      obtain ⟨x3, hx3, h⟩ := bd_some h
      refine r_getR (pc := 22) hX fl_3_18 rfl hx3 (dk D_X3_readNumber 12 rfl) ?_
      refine r_aloadn (pc := 25) hX 0 rfl (dk D_X3_readNumber 13 rfl) ?_
      obtain ⟨x4, hx4, h⟩ := bd_some h
      refine r_getI (pc := 26) hX fl_3_32 rfl rfl hx4 (dk D_X3_readNumber 14 rfl) (fun qx4 => ?_)
      obtain ⟨x5, hx5, h⟩ := bd_some h
      refine r_bald (pc := 29) hX qx4 hx5 (dk D_X3_readNumber 15 rfl) (fun qx5 => ?_)
      obtain ⟨x6, μ7, hx6, h⟩ := bd2_some h
      refine r_invS0 (As := [(0, x5)]) (pc := 30) hX ml_3_161 (L_Rd_isDigit qx5 hx6) (Rm_of hRm (by decide) ⟨by decide, by decide⟩) (by decide) rfl (Nat.le_of_ble_eq_true rfl) rfl (dk D_X3_readNumber 16 rfl) (fun qx6 => ?_)
      refine r_if_eq (pc := 33) hX qx6 73 rfl (dk D_X3_readNumber 17 rfl) (fun hc => ?_) (fun hc => ?_)
      · rw [if_pos hc] at h
        exact hk73 v0 μ7 h
      · rw [if_neg hc] at h
        refine r_aloadn (pc := 36) hX 0 rfl (dk D_X3_readNumber 18 rfl) ?_
        refine r_bipush (pc := 37) hX rfl (dk D_X3_readNumber 19 rfl) ?_
        refine r_aloadn (pc := 39) hX 0 rfl (dk D_X3_readNumber 20 rfl) ?_
        obtain ⟨x8, hx8, h⟩ := bd_some h
        refine r_getI (pc := 40) hX fl_3_136 rfl rfl hx8 (dk D_X3_readNumber 21 rfl) (fun qx8 => ?_)
        refine r_imul (pc := 43) hX (dk D_X3_readNumber 22 rfl) ?_
        refine r_aloadn (pc := 44) hX 0 rfl (dk D_X3_readNumber 23 rfl) ?_
        obtain ⟨x9, hx9, h⟩ := bd_some h
        refine r_getR (pc := 45) hX fl_3_18 rfl hx9 (dk D_X3_readNumber 24 rfl) ?_
        refine r_aloadn (pc := 48) hX 0 rfl (dk D_X3_readNumber 25 rfl) ?_
        obtain ⟨x10, hx10, h⟩ := bd_some h
        refine r_getI (pc := 49) hX fl_3_32 rfl rfl hx10 (dk D_X3_readNumber 26 rfl) (fun qx10 => ?_)
        obtain ⟨x11, hx11, h⟩ := bd_some h
        refine r_bald (pc := 52) hX qx10 hx11 (dk D_X3_readNumber 27 rfl) (fun qx11 => ?_)
        refine r_iadd (pc := 53) hX (dk D_X3_readNumber 28 rfl) ?_
        refine r_bipush (pc := 54) hX rfl (dk D_X3_readNumber 29 rfl) ?_
        refine r_isub (pc := 56) hX (dk D_X3_readNumber 30 rfl) ?_
        obtain ⟨μ12, hμ12, h⟩ := bd_some h
        refine r_putI (pc := 57) hX fl_3_136 rfl rfl (R32_w _) trivial hμ12 (dk D_X3_readNumber 31 rfl) ?_
        refine r_aloadn (pc := 60) hX 0 rfl (dk D_X3_readNumber 32 rfl) ?_
        refine r_dup (pc := 61) hX rfl (dk D_X3_readNumber 33 rfl) ?_
        obtain ⟨x13, hx13, h⟩ := bd_some h
        refine r_getI (pc := 62) hX fl_3_32 rfl rfl hx13 (dk D_X3_readNumber 34 rfl) (fun qx13 => ?_)
        refine r_iconst (pc := 65) hX (dk D_X3_readNumber 35 rfl) ?_
        refine r_iadd (pc := 66) hX (dk D_X3_readNumber 36 rfl) ?_
        obtain ⟨μ14, hμ14, h⟩ := bd_some h
        refine r_putI (pc := 67) hX fl_3_32 rfl rfl (R32_w _) trivial hμ14 (dk D_X3_readNumber 37 rfl) ?_
        refine r_goto (pc := 70) hX 10 rfl (dk D_X3_readNumber 38 rfl) ?_
        exact ih v0 μ14 h
set_option maxRecDepth 100000 in
set_option maxHeartbeats 4000000 in
theorem L_Rd_readNumber_J73 {E : EX} {X : CX} {res : Int} {μe : Mem} (hX : Good E X cX3_readNumber 1 "TollsBack$Reader") (hM : GoodM E X none none μe 0 0) (hRm : cR X = rmOf 2 0 0) {v0 : Int} {μ : Mem}  (h : Rd_readNumber_J73 v0 μ = some (res, μe)) : At E X cX3_readNumber 1 "TollsBack$Reader" (0, 0) 73 [(0, 2, v0)] [] μ := by
  unfold Rd_readNumber_J73 at h
  refine r_aloadn (pc := 73) hX 0 rfl (dk D_X3_readNumber 39 rfl) ?_
  obtain ⟨x1, hx1, h⟩ := bd_some h
  refine r_getI (pc := 74) hX fl_3_32 rfl rfl hx1 (dk D_X3_readNumber 40 rfl) (fun qx1 => ?_)
  refine r_aloadn (pc := 77) hX 0 rfl (dk D_X3_readNumber 41 rfl) ?_
  obtain ⟨x2, hx2, h⟩ := bd_some h
  refine r_getI (pc := 78) hX fl_3_139 rfl rfl hx2 (dk D_X3_readNumber 42 rfl) (fun qx2 => ?_)
  refine r_isub (pc := 81) hX (dk D_X3_readNumber 43 rfl) ?_
  refine r_iconst (pc := 82) hX (dk D_X3_readNumber 44 rfl) ?_
  refine r_icmp_le (pc := 83) hX (R32_w _) (R32_lit rfl) 91 rfl (dk D_X3_readNumber 45 rfl) (fun hc => ?_) (fun hc => ?_)
  · rw [if_neg hc] at h
    cases h
    exact r_return (pc := 91) hX hM ⟨by decide, by decide⟩ (dk D_X3_readNumber 49 rfl)
  · rw [if_pos hc] at h
    refine r_aloadn (pc := 86) hX 0 rfl (dk D_X3_readNumber 46 rfl) ?_
    refine r_iconst (pc := 87) hX (dk D_X3_readNumber 47 rfl) ?_
    obtain ⟨_, hi, h⟩ := bd_some h
    obtain ⟨x3, μ4, hx3, h⟩ := bd2_some h
    refine r_invV0 (As := [(0, 1)]) (pc := 88) hX ml_3_103 (L_Rd_blame (R32_lit rfl) hx3) (isk_u hi) (Rm_of hRm (by decide) ⟨by decide, by decide⟩) (by decide) rfl (Nat.le_of_ble_eq_true rfl) rfl (dk D_X3_readNumber 48 rfl) (fun _ => ?_)
    cases h
    exact r_return (pc := 91) hX hM ⟨by decide, by decide⟩ (dk D_X3_readNumber 49 rfl)
set_option maxRecDepth 100000 in
set_option maxHeartbeats 4000000 in
theorem L_Rd_readNumber {E : EX} {l : Launch} {a0 res : Int} {μ μ' : Mem}  (h : Rd_readNumber a0 μ = some (res, μ')) : Ok E l 2 yX3_readNumber (.code yX3_readNumber cX3_readNumber 1 none) 0 0 [(2, a0)] μ none μ' := by
  refine Ok.of (own := "TollsBack$Reader") [(0, 2, a0)] (by decide +kernel) rfl (Nat.le_of_ble_eq_true rfl) rfl ?_
  intro X hL hRm hin hX hM
  unfold Rd_readNumber at h
  subst hL
  refine r_aloadn (pc := 0) hX 0 rfl (dk D_X3_readNumber 0 rfl) ?_
  refine r_iconst (pc := 1) hX (dk D_X3_readNumber 1 rfl) ?_
  obtain ⟨μ1, hμ1, h⟩ := bd_some h
  refine r_putI (pc := 2) hX fl_3_47 rfl rfl (R32_lit rfl) trivial hμ1 (dk D_X3_readNumber 2 rfl) ?_
  refine r_aloadn (pc := 5) hX 0 rfl (dk D_X3_readNumber 3 rfl) ?_
  refine r_iconst (pc := 6) hX (dk D_X3_readNumber 4 rfl) ?_
  obtain ⟨μ2, hμ2, h⟩ := bd_some h
  refine r_putI (pc := 7) hX fl_3_136 rfl rfl (R32_lit rfl) trivial hμ2 (dk D_X3_readNumber 5 rfl) ?_
  refine L_Rd_readNumber_L10 hX hM hRm ?_ FU a0 μ2 h
  intro x3 μ4  h
  refine L_Rd_readNumber_J73 hX hM hRm h
set_option maxRecDepth 100000 in
set_option maxHeartbeats 4000000 in
theorem L_Rd_readWord_L5 {E : EX} {X : CX} {res : Int} {μe : Mem} (hX : Good E X cX3_readWord 1 "TollsBack$Reader") (hM : GoodM E X none none μe 0 0) (hRm : cR X = rmOf 2 0 0) : ∀ (n : Nat) (v0 : Int) (μ : Mem)  (h : Rd_readWord_L5 n v0 μ = some (res, μe)), At E X cX3_readWord 1 "TollsBack$Reader" (0, 0) 5 [(0, 2, v0)] [] μ := by
  intro n
  induction n with
  | zero =>
    intro v0 μ  h
    have h : (none : Option (Int × Mem)) = some (res, μe) := h
    cases h
  | succ n ih =>
    intro v0 μ  h
    rw [Rd_readWord_L5.eq_2] at h
    refine r_aloadn (pc := 5) hX 0 rfl (dk D_X3_readWord 3 rfl) ?_
    obtain ⟨x1, hx1, h⟩ := bd_some h
    refine r_getI (pc := 6) hX fl_3_32 rfl rfl hx1 (dk D_X3_readWord 4 rfl) (fun qx1 => ?_)
    refine r_aloadn (pc := 9) hX 0 rfl (dk D_X3_readWord 5 rfl) ?_
    obtain ⟨x2, hx2, h⟩ := bd_some h
    refine r_getI (pc := 10) hX fl_3_28 rfl rfl hx2 (dk D_X3_readWord 6 rfl) (fun qx2 => ?_)
    refine r_icmp_ge (pc := 13) hX qx1 qx2 44 rfl (dk D_X3_readWord 7 rfl) (fun hc => ?_) (fun hc => ?_)
    · rw [if_neg hc] at h
      cases h
      exact r_return (pc := 44) hX hM ⟨by decide, by decide⟩ (dk D_X3_readWord 22 rfl)
    · rw [if_pos hc] at h
      refine r_aloadn (pc := 16) hX 0 rfl (dk D_X3_readWord 8 rfl) ?_
      obtain ⟨x3, hx3, h⟩ := bd_some h
      refine r_getR (pc := 17) hX fl_3_18 rfl hx3 (dk D_X3_readWord 9 rfl) ?_
      refine r_aloadn (pc := 20) hX 0 rfl (dk D_X3_readWord 10 rfl) ?_
      obtain ⟨x4, hx4, h⟩ := bd_some h
      refine r_getI (pc := 21) hX fl_3_32 rfl rfl hx4 (dk D_X3_readWord 11 rfl) (fun qx4 => ?_)
      obtain ⟨x5, hx5, h⟩ := bd_some h
      refine r_bald (pc := 24) hX qx4 hx5 (dk D_X3_readWord 12 rfl) (fun qx5 => ?_)
      obtain ⟨x6, μ7, hx6, h⟩ := bd2_some h
      refine r_invS0 (As := [(0, x5)]) (pc := 25) hX ml_3_155 (L_Rd_isLetter qx5 hx6) (Rm_of hRm (by decide) ⟨by decide, by decide⟩) (by decide) rfl (Nat.le_of_ble_eq_true rfl) rfl (dk D_X3_readWord 13 rfl) (fun qx6 => ?_)
      refine r_if_eq (pc := 28) hX qx6 44 rfl (dk D_X3_readWord 14 rfl) (fun hc => ?_) (fun hc => ?_)
      · rw [if_pos hc] at h
        cases h
        exact r_return (pc := 44) hX hM ⟨by decide, by decide⟩ (dk D_X3_readWord 22 rfl)
      · rw [if_neg hc] at h
        refine r_aloadn (pc := 31) hX 0 rfl (dk D_X3_readWord 15 rfl) ?_
        refine r_dup (pc := 32) hX rfl (dk D_X3_readWord 16 rfl) ?_
        obtain ⟨x8, hx8, h⟩ := bd_some h
        refine r_getI (pc := 33) hX fl_3_32 rfl rfl hx8 (dk D_X3_readWord 17 rfl) (fun qx8 => ?_)
        refine r_iconst (pc := 36) hX (dk D_X3_readWord 18 rfl) ?_
        refine r_iadd (pc := 37) hX (dk D_X3_readWord 19 rfl) ?_
        obtain ⟨μ9, hμ9, h⟩ := bd_some h
        refine r_putI (pc := 38) hX fl_3_32 rfl rfl (R32_w _) trivial hμ9 (dk D_X3_readWord 20 rfl) ?_
        refine r_goto (pc := 41) hX 5 rfl (dk D_X3_readWord 21 rfl) ?_
        exact ih v0 μ9 h
set_option maxRecDepth 100000 in
set_option maxHeartbeats 4000000 in
theorem L_Rd_readWord {E : EX} {l : Launch} {a0 res : Int} {μ μ' : Mem}  (h : Rd_readWord a0 μ = some (res, μ')) : Ok E l 2 yX3_readWord (.code yX3_readWord cX3_readWord 1 none) 0 0 [(2, a0)] μ none μ' := by
  refine Ok.of (own := "TollsBack$Reader") [(0, 2, a0)] (by decide +kernel) rfl (Nat.le_of_ble_eq_true rfl) rfl ?_
  intro X hL hRm hin hX hM
  unfold Rd_readWord at h
  subst hL
  refine r_aloadn (pc := 0) hX 0 rfl (dk D_X3_readWord 0 rfl) ?_
  refine r_iconst (pc := 1) hX (dk D_X3_readWord 1 rfl) ?_
  obtain ⟨μ1, hμ1, h⟩ := bd_some h
  refine r_putI (pc := 2) hX fl_3_47 rfl rfl (R32_lit rfl) trivial hμ1 (dk D_X3_readWord 2 rfl) ?_
  refine L_Rd_readWord_L5 hX hM hRm FU a0 μ1 h
set_option maxRecDepth 100000 in
set_option maxHeartbeats 4000000 in
theorem L_Rd_advance_J39 {E : EX} {X : CX} {res : Int} {μe : Mem} (hX : Good E X cX3_advance 1 "TollsBack$Reader") (hM : GoodM E X none none μe 0 0) (hRm : cR X = rmOf 3 0 0) {v0 : Int} {μ : Mem}  (h : Rd_advance_J39 v0 μ = some (res, μe)) : At E X cX3_advance 1 "TollsBack$Reader" (0, 0) 39 [(0, 2, v0)] [] μ := by
  unfold Rd_advance_J39 at h
  refine r_aloadn (pc := 39) hX 0 rfl (dk D_X3_advance 19 rfl) ?_
  refine r_aloadn (pc := 40) hX 0 rfl (dk D_X3_advance 20 rfl) ?_
  obtain ⟨x1, hx1, h⟩ := bd_some h
  refine r_getI (pc := 41) hX fl_3_32 rfl rfl hx1 (dk D_X3_advance 21 rfl) (fun qx1 => ?_)
  obtain ⟨μ2, hμ2, h⟩ := bd_some h
  refine r_putI (pc := 44) hX fl_3_139 rfl rfl qx1 trivial hμ2 (dk D_X3_advance 22 rfl) ?_
  refine r_aloadn (pc := 47) hX 0 rfl (dk D_X3_advance 23 rfl) ?_
  obtain ⟨x3, hx3, h⟩ := bd_some h
  refine r_getI (pc := 48) hX fl_3_32 rfl rfl hx3 (dk D_X3_advance 24 rfl) (fun qx3 => ?_)
  refine r_aloadn (pc := 51) hX 0 rfl (dk D_X3_advance 25 rfl) ?_
  obtain ⟨x4, hx4, h⟩ := bd_some h
  refine r_getI (pc := 52) hX fl_3_28 rfl rfl hx4 (dk D_X3_advance 26 rfl) (fun qx4 => ?_)
  refine r_icmp_lt (pc := 55) hX qx3 qx4 66 rfl (dk D_X3_advance 27 rfl) (fun hc => ?_) (fun hc => ?_)
  · rw [if_pos hc] at h
    refine r_aloadn (pc := 66) hX 0 rfl (dk D_X3_advance 32 rfl) ?_
    obtain ⟨x5, hx5, h⟩ := bd_some h
    refine r_getR (pc := 67) hX fl_3_18 rfl hx5 (dk D_X3_advance 33 rfl) ?_
    refine r_aloadn (pc := 70) hX 0 rfl (dk D_X3_advance 34 rfl) ?_
    obtain ⟨x6, hx6, h⟩ := bd_some h
    refine r_getI (pc := 71) hX fl_3_32 rfl rfl hx6 (dk D_X3_advance 35 rfl) (fun qx6 => ?_)
    obtain ⟨x7, hx7, h⟩ := bd_some h
    refine r_bald (pc := 74) hX qx6 hx7 (dk D_X3_advance 36 rfl) (fun qx7 => ?_)
    obtain ⟨x8, μ9, hx8, h⟩ := bd2_some h
    refine r_invS0 (As := [(0, x7)]) (pc := 75) hX ml_3_155 (L_Rd_isLetter qx7 hx8) (Rm_of hRm (by decide) ⟨by decide, by decide⟩) (by decide) rfl (Nat.le_of_ble_eq_true rfl) rfl (dk D_X3_advance 37 rfl) (fun qx8 => ?_)
    refine r_if_eq (pc := 78) hX qx8 88 rfl (dk D_X3_advance 38 rfl) (fun hc => ?_) (fun hc => ?_)
    · rw [if_pos hc] at h
      refine r_aloadn (pc := 88) hX 0 rfl (dk D_X3_advance 42 rfl) ?_
      obtain ⟨x10, hx10, h⟩ := bd_some h
      refine r_getR (pc := 89) hX fl_3_18 rfl hx10 (dk D_X3_advance 43 rfl) ?_
      refine r_aloadn (pc := 92) hX 0 rfl (dk D_X3_advance 44 rfl) ?_
      obtain ⟨x11, hx11, h⟩ := bd_some h
      refine r_getI (pc := 93) hX fl_3_32 rfl rfl hx11 (dk D_X3_advance 45 rfl) (fun qx11 => ?_)
      obtain ⟨x12, hx12, h⟩ := bd_some h
      refine r_bald (pc := 96) hX qx11 hx12 (dk D_X3_advance 46 rfl) (fun qx12 => ?_)
      obtain ⟨x13, μ14, hx13, h⟩ := bd2_some h
      refine r_invS0 (As := [(0, x12)]) (pc := 97) hX ml_3_161 (L_Rd_isDigit qx12 hx13) (Rm_of hRm (by decide) ⟨by decide, by decide⟩) (by decide) rfl (Nat.le_of_ble_eq_true rfl) rfl (dk D_X3_advance 47 rfl) (fun qx13 => ?_)
      refine r_if_eq (pc := 100) hX qx13 110 rfl (dk D_X3_advance 48 rfl) (fun hc => ?_) (fun hc => ?_)
      · rw [if_pos hc] at h
        refine r_aloadn (pc := 110) hX 0 rfl (dk D_X3_advance 52 rfl) ?_
        obtain ⟨x15, hx15, h⟩ := bd_some h
        refine r_getR (pc := 111) hX fl_3_18 rfl hx15 (dk D_X3_advance 53 rfl) ?_
        refine r_aloadn (pc := 114) hX 0 rfl (dk D_X3_advance 54 rfl) ?_
        obtain ⟨x16, hx16, h⟩ := bd_some h
        refine r_getI (pc := 115) hX fl_3_32 rfl rfl hx16 (dk D_X3_advance 55 rfl) (fun qx16 => ?_)
        obtain ⟨x17, hx17, h⟩ := bd_some h
        refine r_bald (pc := 118) hX qx16 hx17 (dk D_X3_advance 56 rfl) (fun qx17 => ?_)
        refine r_bipush (pc := 119) hX rfl (dk D_X3_advance 57 rfl) ?_
        refine r_icmp_ne (pc := 121) hX qx17 (R32_lit rfl) 142 rfl (dk D_X3_advance 58 rfl) (fun hc => ?_) (fun hc => ?_)
        · rw [if_neg hc] at h
          refine r_aloadn (pc := 142) hX 0 rfl (dk D_X3_advance 69 rfl) ?_
          refine r_iconst (pc := 143) hX (dk D_X3_advance 70 rfl) ?_
          obtain ⟨_, hi, h⟩ := bd_some h
          obtain ⟨x18, μ19, hx18, h⟩ := bd2_some h
          refine r_invV0 (As := [(0, 1)]) (pc := 144) hX ml_3_103 (L_Rd_blame (R32_lit rfl) hx18) (isk_u hi) (Rm_of hRm (by decide) ⟨by decide, by decide⟩) (by decide) rfl (Nat.le_of_ble_eq_true rfl) rfl (dk D_X3_advance 71 rfl) (fun _ => ?_)
          refine r_aloadn (pc := 147) hX 0 rfl (dk D_X3_advance 72 rfl) ?_
          refine r_dup (pc := 148) hX rfl (dk D_X3_advance 73 rfl) ?_
          obtain ⟨x20, hx20, h⟩ := bd_some h
          refine r_getI (pc := 149) hX fl_3_32 rfl rfl hx20 (dk D_X3_advance 74 rfl) (fun qx20 => ?_)
          refine r_iconst (pc := 152) hX (dk D_X3_advance 75 rfl) ?_
          refine r_iadd (pc := 153) hX (dk D_X3_advance 76 rfl) ?_
          obtain ⟨μ21, hμ21, h⟩ := bd_some h
          refine r_putI (pc := 154) hX fl_3_32 rfl rfl (R32_w _) trivial hμ21 (dk D_X3_advance 77 rfl) ?_
          cases h
          exact r_return (pc := 157) hX hM ⟨by decide, by decide⟩ (dk D_X3_advance 78 rfl)
        · rw [if_pos hc] at h
          refine r_aloadn (pc := 124) hX 0 rfl (dk D_X3_advance 59 rfl) ?_
          refine r_iconst (pc := 125) hX (dk D_X3_advance 60 rfl) ?_
          obtain ⟨μ22, hμ22, h⟩ := bd_some h
          refine r_putI (pc := 126) hX fl_3_47 rfl rfl (R32_lit rfl) trivial hμ22 (dk D_X3_advance 61 rfl) ?_
          refine r_aloadn (pc := 129) hX 0 rfl (dk D_X3_advance 62 rfl) ?_
          refine r_dup (pc := 130) hX rfl (dk D_X3_advance 63 rfl) ?_
          obtain ⟨x23, hx23, h⟩ := bd_some h
          refine r_getI (pc := 131) hX fl_3_32 rfl rfl hx23 (dk D_X3_advance 64 rfl) (fun qx23 => ?_)
          refine r_iconst (pc := 134) hX (dk D_X3_advance 65 rfl) ?_
          refine r_iadd (pc := 135) hX (dk D_X3_advance 66 rfl) ?_
          obtain ⟨μ24, hμ24, h⟩ := bd_some h
          refine r_putI (pc := 136) hX fl_3_32 rfl rfl (R32_w _) trivial hμ24 (dk D_X3_advance 67 rfl) ?_
          refine r_goto (pc := 139) hX 157 rfl (dk D_X3_advance 68 rfl) ?_
          cases h
          exact r_return (pc := 157) hX hM ⟨by decide, by decide⟩ (dk D_X3_advance 78 rfl)
      · rw [if_neg hc] at h
        refine r_aloadn (pc := 103) hX 0 rfl (dk D_X3_advance 49 rfl) ?_
        obtain ⟨_, hi, h⟩ := bd_some h
        obtain ⟨x25, μ26, hx25, h⟩ := bd2_some h
        refine r_invV0 (As := []) (pc := 104) hX ml_3_164 (L_Rd_readNumber hx25) (isk_u hi) (Rm_of hRm (by decide) ⟨by decide, by decide⟩) (by decide) rfl (Nat.le_of_ble_eq_true rfl) rfl (dk D_X3_advance 50 rfl) (fun _ => ?_)
        refine r_goto (pc := 107) hX 157 rfl (dk D_X3_advance 51 rfl) ?_
        cases h
        exact r_return (pc := 157) hX hM ⟨by decide, by decide⟩ (dk D_X3_advance 78 rfl)
    · rw [if_neg hc] at h
      refine r_aloadn (pc := 81) hX 0 rfl (dk D_X3_advance 39 rfl) ?_
      obtain ⟨_, hi, h⟩ := bd_some h
      obtain ⟨x27, μ28, hx27, h⟩ := bd2_some h
      refine r_invV0 (As := []) (pc := 82) hX ml_3_158 (L_Rd_readWord hx27) (isk_u hi) (Rm_of hRm (by decide) ⟨by decide, by decide⟩) (by decide) rfl (Nat.le_of_ble_eq_true rfl) rfl (dk D_X3_advance 40 rfl) (fun _ => ?_)
      refine r_goto (pc := 85) hX 157 rfl (dk D_X3_advance 41 rfl) ?_
      cases h
      exact r_return (pc := 157) hX hM ⟨by decide, by decide⟩ (dk D_X3_advance 78 rfl)
  · rw [if_neg hc] at h
    refine r_aloadn (pc := 58) hX 0 rfl (dk D_X3_advance 28 rfl) ?_
    refine r_iconst (pc := 59) hX (dk D_X3_advance 29 rfl) ?_
    obtain ⟨μ29, hμ29, h⟩ := bd_some h
    refine r_putI (pc := 60) hX fl_3_47 rfl rfl (R32_lit rfl) trivial hμ29 (dk D_X3_advance 30 rfl) ?_
    refine r_goto (pc := 63) hX 157 rfl (dk D_X3_advance 31 rfl) ?_
    cases h
    exact r_return (pc := 157) hX hM ⟨by decide, by decide⟩ (dk D_X3_advance 78 rfl)
set_option maxRecDepth 100000 in
set_option maxHeartbeats 4000000 in
theorem L_Rd_advance_L0 {E : EX} {X : CX} {res : Int} {μe : Mem} (hX : Good E X cX3_advance 1 "TollsBack$Reader") (hM : GoodM E X none none μe 0 0) (hRm : cR X = rmOf 3 0 0) {k39 : Int → Mem → Option (Int × Mem)} (hk39 : ∀ (u0 : Int) (μ : Mem), k39 u0 μ = some (res, μe) → At E X cX3_advance 1 "TollsBack$Reader" (0, 0) 39 [(0, 2, u0)] [] μ) : ∀ (n : Nat) (v0 : Int) (μ : Mem)  (h : Rd_advance_L0 k39 n v0 μ = some (res, μe)), At E X cX3_advance 1 "TollsBack$Reader" (0, 0) 0 [(0, 2, v0)] [] μ := by
  intro n
  induction n with
  | zero =>
    intro v0 μ  h
    have h : (none : Option (Int × Mem)) = some (res, μe) := h
    cases h
  | succ n ih =>
    intro v0 μ  h
    rw [Rd_advance_L0.eq_2] at h
    refine r_aloadn (pc := 0) hX 0 rfl (dk D_X3_advance 0 rfl) ?_
    obtain ⟨x1, hx1, h⟩ := bd_some h
    refine r_getI (pc := 1) hX fl_3_32 rfl rfl hx1 (dk D_X3_advance 1 rfl) (fun qx1 => ?_)
    refine r_aloadn (pc := 4) hX 0 rfl (dk D_X3_advance 2 rfl) ?_
    obtain ⟨x2, hx2, h⟩ := bd_some h
    refine r_getI (pc := 5) hX fl_3_28 rfl rfl hx2 (dk D_X3_advance 3 rfl) (fun qx2 => ?_)
    refine r_icmp_ge (pc := 8) hX qx1 qx2 39 rfl (dk D_X3_advance 4 rfl) (fun hc => ?_) (fun hc => ?_)
    · rw [if_neg hc] at h
      exact hk39 v0 μ h
    · rw [if_pos hc] at h
      refine r_aloadn (pc := 11) hX 0 rfl (dk D_X3_advance 5 rfl) ?_
      obtain ⟨x3, hx3, h⟩ := bd_some h
      refine r_getR (pc := 12) hX fl_3_18 rfl hx3 (dk D_X3_advance 6 rfl) ?_
      refine r_aloadn (pc := 15) hX 0 rfl (dk D_X3_advance 7 rfl) ?_
      obtain ⟨x4, hx4, h⟩ := bd_some h
      refine r_getI (pc := 16) hX fl_3_32 rfl rfl hx4 (dk D_X3_advance 8 rfl) (fun qx4 => ?_)
      obtain ⟨x5, hx5, h⟩ := bd_some h
      refine r_bald (pc := 19) hX qx4 hx5 (dk D_X3_advance 9 rfl) (fun qx5 => ?_)
      obtain ⟨x6, μ7, hx6, h⟩ := bd2_some h
      refine r_invS0 (As := [(0, x5)]) (pc := 20) hX ml_3_151 (L_Rd_isBlank qx5 hx6) (Rm_of hRm (by decide) ⟨by decide, by decide⟩) (by decide) rfl (Nat.le_of_ble_eq_true rfl) rfl (dk D_X3_advance 10 rfl) (fun qx6 => ?_)
      refine r_if_eq (pc := 23) hX qx6 39 rfl (dk D_X3_advance 11 rfl) (fun hc => ?_) (fun hc => ?_)
      · rw [if_pos hc] at h
        exact hk39 v0 μ7 h
      · rw [if_neg hc] at h
        refine r_aloadn (pc := 26) hX 0 rfl (dk D_X3_advance 12 rfl) ?_
        refine r_dup (pc := 27) hX rfl (dk D_X3_advance 13 rfl) ?_
        obtain ⟨x8, hx8, h⟩ := bd_some h
        refine r_getI (pc := 28) hX fl_3_32 rfl rfl hx8 (dk D_X3_advance 14 rfl) (fun qx8 => ?_)
        refine r_iconst (pc := 31) hX (dk D_X3_advance 15 rfl) ?_
        refine r_iadd (pc := 32) hX (dk D_X3_advance 16 rfl) ?_
        obtain ⟨μ9, hμ9, h⟩ := bd_some h
        refine r_putI (pc := 33) hX fl_3_32 rfl rfl (R32_w _) trivial hμ9 (dk D_X3_advance 17 rfl) ?_
        refine r_goto (pc := 36) hX 0 rfl (dk D_X3_advance 18 rfl) ?_
        exact ih v0 μ9 h
set_option maxRecDepth 100000 in
set_option maxHeartbeats 4000000 in
theorem L_Rd_advance {E : EX} {l : Launch} {a0 res : Int} {μ μ' : Mem}  (h : Rd_advance a0 μ = some (res, μ')) : Ok E l 3 yX3_advance (.code yX3_advance cX3_advance 1 none) 0 0 [(2, a0)] μ none μ' := by
  refine Ok.of (own := "TollsBack$Reader") [(0, 2, a0)] (by decide +kernel) rfl (Nat.le_of_ble_eq_true rfl) rfl ?_
  intro X hL hRm hin hX hM
  unfold Rd_advance at h
  subst hL
  refine r_aloadn (pc := 0) hX 0 rfl (dk D_X3_advance 0 rfl) ?_
  obtain ⟨x1, hx1, h⟩ := bd_some h
  refine r_getI (pc := 1) hX fl_3_32 rfl rfl hx1 (dk D_X3_advance 1 rfl) (fun qx1 => ?_)
  refine r_aloadn (pc := 4) hX 0 rfl (dk D_X3_advance 2 rfl) ?_
  obtain ⟨x2, hx2, h⟩ := bd_some h
  refine r_getI (pc := 5) hX fl_3_28 rfl rfl hx2 (dk D_X3_advance 3 rfl) (fun qx2 => ?_)
  refine r_icmp_ge (pc := 8) hX qx1 qx2 39 rfl (dk D_X3_advance 4 rfl) (fun hc => ?_) (fun hc => ?_)
  · rw [if_neg hc] at h
    refine L_Rd_advance_J39 hX hM hRm h
  · rw [if_pos hc] at h
    refine r_aloadn (pc := 11) hX 0 rfl (dk D_X3_advance 5 rfl) ?_
    obtain ⟨x3, hx3, h⟩ := bd_some h
    refine r_getR (pc := 12) hX fl_3_18 rfl hx3 (dk D_X3_advance 6 rfl) ?_
    refine r_aloadn (pc := 15) hX 0 rfl (dk D_X3_advance 7 rfl) ?_
    obtain ⟨x4, hx4, h⟩ := bd_some h
    refine r_getI (pc := 16) hX fl_3_32 rfl rfl hx4 (dk D_X3_advance 8 rfl) (fun qx4 => ?_)
    obtain ⟨x5, hx5, h⟩ := bd_some h
    refine r_bald (pc := 19) hX qx4 hx5 (dk D_X3_advance 9 rfl) (fun qx5 => ?_)
    obtain ⟨x6, μ7, hx6, h⟩ := bd2_some h
    refine r_invS0 (As := [(0, x5)]) (pc := 20) hX ml_3_151 (L_Rd_isBlank qx5 hx6) (Rm_of hRm (by decide) ⟨by decide, by decide⟩) (by decide) rfl (Nat.le_of_ble_eq_true rfl) rfl (dk D_X3_advance 10 rfl) (fun qx6 => ?_)
    refine r_if_eq (pc := 23) hX qx6 39 rfl (dk D_X3_advance 11 rfl) (fun hc => ?_) (fun hc => ?_)
    · rw [if_pos hc] at h
      refine L_Rd_advance_J39 hX hM hRm h
    · rw [if_neg hc] at h
      refine r_aloadn (pc := 26) hX 0 rfl (dk D_X3_advance 12 rfl) ?_
      refine r_dup (pc := 27) hX rfl (dk D_X3_advance 13 rfl) ?_
      obtain ⟨x8, hx8, h⟩ := bd_some h
      refine r_getI (pc := 28) hX fl_3_32 rfl rfl hx8 (dk D_X3_advance 14 rfl) (fun qx8 => ?_)
      refine r_iconst (pc := 31) hX (dk D_X3_advance 15 rfl) ?_
      refine r_iadd (pc := 32) hX (dk D_X3_advance 16 rfl) ?_
      obtain ⟨μ9, hμ9, h⟩ := bd_some h
      refine r_putI (pc := 33) hX fl_3_32 rfl rfl (R32_w _) trivial hμ9 (dk D_X3_advance 17 rfl) ?_
      refine r_goto (pc := 36) hX 0 rfl (dk D_X3_advance 18 rfl) ?_
      refine L_Rd_advance_L0 hX hM hRm ?_ FU a0 μ9 h
      intro x10 μ11  h
      refine L_Rd_advance_J39 hX hM hRm h
set_option maxRecDepth 100000 in
set_option maxHeartbeats 4000000 in
theorem L_Rd_expectSign {E : EX} {l : Launch} {a0 res : Int} {μ μ' : Mem}  (h : Rd_expectSign a0 μ = some (res, μ')) : Ok E l 4 yX3_expectSign (.code yX3_expectSign cX3_expectSign 1 none) 0 0 [(2, a0)] μ none μ' := by
  refine Ok.of (own := "TollsBack$Reader") [(0, 2, a0)] (by decide +kernel) rfl (Nat.le_of_ble_eq_true rfl) rfl ?_
  intro X hL hRm hin hX hM
  unfold Rd_expectSign at h
  subst hL
  refine r_aloadn (pc := 0) hX 0 rfl (dk D_X3_expectSign 0 rfl) ?_
  obtain ⟨_, hi, h⟩ := bd_some h
  obtain ⟨x1, μ2, hx1, h⟩ := bd2_some h
  refine r_invV0 (As := []) (pc := 1) hX ml_3_44 (L_Rd_advance hx1) (isk_u hi) (Rm_of hRm (by decide) ⟨by decide, by decide⟩) (by decide) rfl (Nat.le_of_ble_eq_true rfl) rfl (dk D_X3_expectSign 1 rfl) (fun _ => ?_)
  refine r_aloadn (pc := 4) hX 0 rfl (dk D_X3_expectSign 2 rfl) ?_
  obtain ⟨x3, hx3, h⟩ := bd_some h
  refine r_getI (pc := 5) hX fl_3_47 rfl rfl hx3 (dk D_X3_expectSign 3 rfl) (fun qx3 => ?_)
  refine r_iconst (pc := 8) hX (dk D_X3_expectSign 4 rfl) ?_
  refine r_icmp_eq (pc := 9) hX qx3 (R32_lit rfl) 17 rfl (dk D_X3_expectSign 5 rfl) (fun hc => ?_) (fun hc => ?_)
  · rw [if_pos hc] at h
    cases h
    exact r_return (pc := 17) hX hM ⟨by decide, by decide⟩ (dk D_X3_expectSign 9 rfl)
  · rw [if_neg hc] at h
    refine r_aloadn (pc := 12) hX 0 rfl (dk D_X3_expectSign 6 rfl) ?_
    refine r_iconst (pc := 13) hX (dk D_X3_expectSign 7 rfl) ?_
    obtain ⟨_, hi, h⟩ := bd_some h
    obtain ⟨x4, μ5, hx4, h⟩ := bd2_some h
    refine r_invV0 (As := [(0, 2)]) (pc := 14) hX ml_3_103 (L_Rd_blame (R32_lit rfl) hx4) (isk_u hi) (Rm_of hRm (by decide) ⟨by decide, by decide⟩) (by decide) rfl (Nat.le_of_ble_eq_true rfl) rfl (dk D_X3_expectSign 8 rfl) (fun _ => ?_)
    cases h
    exact r_return (pc := 17) hX hM ⟨by decide, by decide⟩ (dk D_X3_expectSign 9 rfl)
set_option maxRecDepth 100000 in
set_option maxHeartbeats 4000000 in
theorem L_Rd_expectNumber_J36 {E : EX} {X : CX} {res : Int} {μe : Mem} (hX : Good E X cX3_expectNumber 3 "TollsBack$Reader") (hM : GoodM E X (some .int) (some (0, res)) μe 0 0) (hRm : cR X = rmOf 4 0 0) {v0 : Int} {μ : Mem}  (h : Rd_expectNumber_J36 v0 μ = some (res, μe)) : At E X cX3_expectNumber 3 "TollsBack$Reader" (0, 0) 36 [(0, 2, v0)] [] μ := by
  unfold Rd_expectNumber_J36 at h
  refine r_aloadn (pc := 36) hX 0 rfl (dk D_X3_expectNumber 18 rfl) ?_
  refine r_iconst (pc := 37) hX (dk D_X3_expectNumber 19 rfl) ?_
  obtain ⟨_, hi, h⟩ := bd_some h
  obtain ⟨x1, μ2, hx1, h⟩ := bd2_some h
  refine r_invV0 (As := [(0, 3)]) (pc := 38) hX ml_3_103 (L_Rd_blame (R32_lit rfl) hx1) (isk_u hi) (Rm_of hRm (by decide) ⟨by decide, by decide⟩) (by decide) rfl (Nat.le_of_ble_eq_true rfl) rfl (dk D_X3_expectNumber 20 rfl) (fun _ => ?_)
  refine r_aloadn (pc := 41) hX 0 rfl (dk D_X3_expectNumber 21 rfl) ?_
  obtain ⟨x3, hx3, h⟩ := bd_some h
  refine r_getI (pc := 42) hX fl_3_136 rfl rfl hx3 (dk D_X3_expectNumber 22 rfl) (fun qx3 => ?_)
  cases h
  exact r_ireturn (pc := 45) hX qx3 hM ⟨by decide, by decide⟩ (dk D_X3_expectNumber 23 rfl)
set_option maxRecDepth 100000 in
set_option maxHeartbeats 4000000 in
theorem L_Rd_expectNumber {E : EX} {l : Launch} {a0 a1 a2 res : Int} {μ μ' : Mem} (q_a1 : R32 a1) (q_a2 : R32 a2) (h : Rd_expectNumber a0 a1 a2 μ = some (res, μ')) : Ok E l 4 yX3_expectNumber (.code yX3_expectNumber cX3_expectNumber 3 (some .int)) 0 0 [(2, a0), (0, a1), (0, a2)] μ (some (0, res)) μ' := by
  refine Ok.of (own := "TollsBack$Reader") [(0, 2, a0), (1, 0, a1), (2, 0, a2)] (by decide +kernel) rfl (Nat.le_of_ble_eq_true rfl) rfl ?_
  intro X hL hRm hin hX hM
  unfold Rd_expectNumber at h
  subst hL
  refine r_aloadn (pc := 0) hX 0 rfl (dk D_X3_expectNumber 0 rfl) ?_
  obtain ⟨_, hi, h⟩ := bd_some h
  obtain ⟨x1, μ2, hx1, h⟩ := bd2_some h
  refine r_invV0 (As := []) (pc := 1) hX ml_3_44 (L_Rd_advance hx1) (isk_u hi) (Rm_of hRm (by decide) ⟨by decide, by decide⟩) (by decide) rfl (Nat.le_of_ble_eq_true rfl) rfl (dk D_X3_expectNumber 1 rfl) (fun _ => ?_)
  refine r_aloadn (pc := 4) hX 0 rfl (dk D_X3_expectNumber 2 rfl) ?_
  obtain ⟨x3, hx3, h⟩ := bd_some h
  refine r_getI (pc := 5) hX fl_3_47 rfl rfl hx3 (dk D_X3_expectNumber 3 rfl) (fun qx3 => ?_)
  refine r_iconst (pc := 8) hX (dk D_X3_expectNumber 4 rfl) ?_
  refine r_icmp_eq (pc := 9) hX qx3 (R32_lit rfl) 20 rfl (dk D_X3_expectNumber 5 rfl) (fun hc => ?_) (fun hc => ?_)
  · rw [if_pos hc] at h
    refine r_aloadn (pc := 20) hX 0 rfl (dk D_X3_expectNumber 10 rfl) ?_
    obtain ⟨x4, hx4, h⟩ := bd_some h
    refine r_getI (pc := 21) hX fl_3_136 rfl rfl hx4 (dk D_X3_expectNumber 11 rfl) (fun qx4 => ?_)
    refine r_iloadn (pc := 24) hX 1 rfl (dk D_X3_expectNumber 12 rfl) ?_
    refine r_icmp_lt (pc := 25) hX qx4 q_a1 36 rfl (dk D_X3_expectNumber 13 rfl) (fun hc => ?_) (fun hc => ?_)
    · rw [if_pos hc] at h
      refine r_sub (lv' := [(0, 2, a0)]) [0] rfl ?_
      refine L_Rd_expectNumber_J36 hX hM hRm h
    · rw [if_neg hc] at h
      refine r_aloadn (pc := 28) hX 0 rfl (dk D_X3_expectNumber 14 rfl) ?_
      obtain ⟨x5, hx5, h⟩ := bd_some h
      refine r_getI (pc := 29) hX fl_3_136 rfl rfl hx5 (dk D_X3_expectNumber 15 rfl) (fun qx5 => ?_)
      refine r_iloadn (pc := 32) hX 2 rfl (dk D_X3_expectNumber 16 rfl) ?_
      refine r_icmp_le (pc := 33) hX qx5 q_a2 41 rfl (dk D_X3_expectNumber 17 rfl) (fun hc => ?_) (fun hc => ?_)
      · rw [if_neg hc] at h
        refine r_aloadn (pc := 41) hX 0 rfl (dk D_X3_expectNumber 21 rfl) ?_
        obtain ⟨x6, hx6, h⟩ := bd_some h
        refine r_getI (pc := 42) hX fl_3_136 rfl rfl hx6 (dk D_X3_expectNumber 22 rfl) (fun qx6 => ?_)
        cases h
        exact r_ireturn (pc := 45) hX qx6 hM ⟨by decide, by decide⟩ (dk D_X3_expectNumber 23 rfl)
      · rw [if_pos hc] at h
        refine r_sub (lv' := [(0, 2, a0)]) [0] rfl ?_
        refine L_Rd_expectNumber_J36 hX hM hRm h
  · rw [if_neg hc] at h
    refine r_aloadn (pc := 12) hX 0 rfl (dk D_X3_expectNumber 6 rfl) ?_
    refine r_iconst (pc := 13) hX (dk D_X3_expectNumber 7 rfl) ?_
    obtain ⟨_, hi, h⟩ := bd_some h
    obtain ⟨x7, μ8, hx7, h⟩ := bd2_some h
    refine r_invV0 (As := [(0, 2)]) (pc := 14) hX ml_3_103 (L_Rd_blame (R32_lit rfl) hx7) (isk_u hi) (Rm_of hRm (by decide) ⟨by decide, by decide⟩) (by decide) rfl (Nat.le_of_ble_eq_true rfl) rfl (dk D_X3_expectNumber 8 rfl) (fun _ => ?_)
    refine r_goto (pc := 17) hX 41 rfl (dk D_X3_expectNumber 9 rfl) ?_
    refine r_aloadn (pc := 41) hX 0 rfl (dk D_X3_expectNumber 21 rfl) ?_
    obtain ⟨x9, hx9, h⟩ := bd_some h
    refine r_getI (pc := 42) hX fl_3_136 rfl rfl hx9 (dk D_X3_expectNumber 22 rfl) (fun qx9 => ?_)
    cases h
    exact r_ireturn (pc := 45) hX qx9 hM ⟨by decide, by decide⟩ (dk D_X3_expectNumber 23 rfl)
set_option maxRecDepth 100000 in
set_option maxHeartbeats 4000000 in
theorem L_Rd_isWord_L28 {E : EX} {X : CX} {res : Int} {μe : Mem} (hX : Good E X cX3_isWord 3 "TollsBack$Reader") (hM : GoodM E X (some .boolean) (some (0, res)) μe 0 0) (hRm : cR X = rmOf 5 0 0) : ∀ (n : Nat) (v0 v1 v2 : Int) (μ : Mem) (q_v2 : R32 v2) (h : Rd_isWord_L28 n v0 v1 v2 μ = some (res, μe)), At E X cX3_isWord 3 "TollsBack$Reader" (0, 0) 28 [(0, 2, v0), (1, 2, v1), (2, 0, v2)] [] μ := by
  intro n
  induction n with
  | zero =>
    intro v0 v1 v2 μ q_v2 h
    have h : (none : Option (Int × Mem)) = some (res, μe) := h
    cases h
  | succ n ih =>
    intro v0 v1 v2 μ q_v2 h
    rw [Rd_isWord_L28.eq_2] at h
    refine r_iloadn (pc := 28) hX 2 rfl (dk D_X3_isWord 16 rfl) ?_
    refine r_aloadn (pc := 29) hX 1 rfl (dk D_X3_isWord 17 rfl) ?_
    obtain ⟨x1, μ2, hx1, h⟩ := bd2_some h
    refine r_J_len (pc := 30) hX ml_3_142 hx1 (Rm_of hRm (by decide) ⟨by decide, by decide⟩) (Nat.le_of_ble_eq_true rfl) (dk D_X3_isWord 18 rfl) (fun qx1 => ?_)
    refine r_icmp_ge (pc := 33) hX q_v2 qx1 63 rfl (dk D_X3_isWord 19 rfl) (fun hc => ?_) (fun hc => ?_)
    · rw [if_neg hc] at h
      refine r_iconst (pc := 63) hX (dk D_X3_isWord 35 rfl) ?_
      cases h
      exact r_zreturn (pc := 64) hX (R32_lit rfl) hM (Or.inr rfl) ⟨by decide, by decide⟩ (dk D_X3_isWord 36 rfl)
    · rw [if_pos hc] at h
      refine r_aloadn (pc := 36) hX 0 rfl (dk D_X3_isWord 20 rfl) ?_
      obtain ⟨x3, hx3, h⟩ := bd_some h
      refine r_getR (pc := 37) hX fl_3_18 rfl hx3 (dk D_X3_isWord 21 rfl) ?_
      refine r_aloadn (pc := 40) hX 0 rfl (dk D_X3_isWord 22 rfl) ?_
      obtain ⟨x4, hx4, h⟩ := bd_some h
      refine r_getI (pc := 41) hX fl_3_139 rfl rfl hx4 (dk D_X3_isWord 23 rfl) (fun qx4 => ?_)
      refine r_iloadn (pc := 44) hX 2 rfl (dk D_X3_isWord 24 rfl) ?_
      refine r_iadd (pc := 45) hX (dk D_X3_isWord 25 rfl) ?_
      obtain ⟨x5, hx5, h⟩ := bd_some h
      refine r_bald (pc := 46) hX (R32_w _) hx5 (dk D_X3_isWord 26 rfl) (fun qx5 => ?_)
      refine r_aloadn (pc := 47) hX 1 rfl (dk D_X3_isWord 27 rfl) ?_
      refine r_iloadn (pc := 48) hX 2 rfl (dk D_X3_isWord 28 rfl) ?_
      obtain ⟨x6, μ7, hx6, h⟩ := bd2_some h
      refine r_J_chr (pc := 49) hX ml_3_147 q_v2 hx6 (Rm_of hRm (by decide) ⟨by decide, by decide⟩) (Nat.le_of_ble_eq_true rfl) (dk D_X3_isWord 29 rfl) (fun qx6 => ?_)
      refine r_icmp_eq (pc := 52) hX qx5 qx6 57 rfl (dk D_X3_isWord 30 rfl) (fun hc => ?_) (fun hc => ?_)
      · rw [if_pos hc] at h
        refine r_iinc (lv' := [(2, 0, (w32 (v2 + 1))), (0, 2, v0), (1, 2, v1)]) (pc := 57) hX 2 rfl (by decide) rfl (dk D_X3_isWord 33 rfl) ?_
        refine r_goto (pc := 60) hX 28 rfl (dk D_X3_isWord 34 rfl) ?_
        refine r_sub (lv' := [(0, 2, v0), (1, 2, v1), (2, 0, (w32 (v2 + 1)))]) [1, 2, 0] rfl ?_
        exact ih v0 v1 (w32 (v2 + 1)) μ7 (R32_w _) h
      · rw [if_neg hc] at h
        refine r_iconst (pc := 55) hX (dk D_X3_isWord 31 rfl) ?_
        cases h
        exact r_zreturn (pc := 56) hX (R32_lit rfl) hM (Or.inl rfl) ⟨by decide, by decide⟩ (dk D_X3_isWord 32 rfl)
set_option maxRecDepth 100000 in
set_option maxHeartbeats 4000000 in
theorem L_Rd_isWord {E : EX} {l : Launch} {a0 a1 res : Int} {μ μ' : Mem}  (h : Rd_isWord a0 a1 μ = some (res, μ')) : Ok E l 5 yX3_isWord (.code yX3_isWord cX3_isWord 3 (some .boolean)) 0 0 [(2, a0), (2, a1)] μ (some (0, res)) μ' := by
  refine Ok.of (own := "TollsBack$Reader") [(0, 2, a0), (1, 2, a1)] (by decide +kernel) rfl (Nat.le_of_ble_eq_true rfl) rfl ?_
  intro X hL hRm hin hX hM
  unfold Rd_isWord at h
  subst hL
  refine r_aloadn (pc := 0) hX 0 rfl (dk D_X3_isWord 0 rfl) ?_
  obtain ⟨x1, hx1, h⟩ := bd_some h
  refine r_getI (pc := 1) hX fl_3_47 rfl rfl hx1 (dk D_X3_isWord 1 rfl) (fun qx1 => ?_)
  refine r_iconst (pc := 4) hX (dk D_X3_isWord 2 rfl) ?_
  refine r_icmp_ne (pc := 5) hX qx1 (R32_lit rfl) 24 rfl (dk D_X3_isWord 3 rfl) (fun hc => ?_) (fun hc => ?_)
  · rw [if_neg hc] at h
    refine r_iconst (pc := 24) hX (dk D_X3_isWord 12 rfl) ?_
    cases h
    exact r_zreturn (pc := 25) hX (R32_lit rfl) hM (Or.inl rfl) ⟨by decide, by decide⟩ (dk D_X3_isWord 13 rfl)
  · rw [if_pos hc] at h
    refine r_aloadn (pc := 8) hX 0 rfl (dk D_X3_isWord 4 rfl) ?_
    obtain ⟨x2, hx2, h⟩ := bd_some h
    refine r_getI (pc := 9) hX fl_3_32 rfl rfl hx2 (dk D_X3_isWord 5 rfl) (fun qx2 => ?_)
    refine r_aloadn (pc := 12) hX 0 rfl (dk D_X3_isWord 6 rfl) ?_
    obtain ⟨x3, hx3, h⟩ := bd_some h
    refine r_getI (pc := 13) hX fl_3_139 rfl rfl hx3 (dk D_X3_isWord 7 rfl) (fun qx3 => ?_)
    refine r_isub (pc := 16) hX (dk D_X3_isWord 8 rfl) ?_
    refine r_aloadn (pc := 17) hX 1 rfl (dk D_X3_isWord 9 rfl) ?_
    obtain ⟨x4, μ5, hx4, h⟩ := bd2_some h
    refine r_J_len (pc := 18) hX ml_3_142 hx4 (Rm_of hRm (by decide) ⟨by decide, by decide⟩) (Nat.le_of_ble_eq_true rfl) (dk D_X3_isWord 10 rfl) (fun qx4 => ?_)
    refine r_icmp_eq (pc := 21) hX (R32_w _) qx4 26 rfl (dk D_X3_isWord 11 rfl) (fun hc => ?_) (fun hc => ?_)
    · rw [if_pos hc] at h
      refine r_iconst (pc := 26) hX (dk D_X3_isWord 14 rfl) ?_
      refine r_istoren (lv' := [(2, 0, 0), (0, 2, a0), (1, 2, a1)]) (pc := 27) hX (by decide) rfl (dk D_X3_isWord 15 rfl) ?_
      refine r_sub (lv' := [(0, 2, a0), (1, 2, a1), (2, 0, 0)]) [1, 2, 0] rfl ?_
      refine L_Rd_isWord_L28 hX hM hRm FU a0 a1 0 μ5 (R32_lit rfl) h
    · rw [if_neg hc] at h
      refine r_iconst (pc := 24) hX (dk D_X3_isWord 12 rfl) ?_
      cases h
      exact r_zreturn (pc := 25) hX (R32_lit rfl) hM (Or.inl rfl) ⟨by decide, by decide⟩ (dk D_X3_isWord 13 rfl)
set_option maxRecDepth 100000 in
set_option maxHeartbeats 4000000 in
theorem L_Rd_expectWord {E : EX} {l : Launch} {a0 a1 res : Int} {μ μ' : Mem}  (h : Rd_expectWord a0 a1 μ = some (res, μ')) : Ok E l 6 yX3_expectWord (.code yX3_expectWord cX3_expectWord 2 none) 0 0 [(2, a0), (2, a1)] μ none μ' := by
  refine Ok.of (own := "TollsBack$Reader") [(0, 2, a0), (1, 2, a1)] (by decide +kernel) rfl (Nat.le_of_ble_eq_true rfl) rfl ?_
  intro X hL hRm hin hX hM
  unfold Rd_expectWord at h
  subst hL
  refine r_aloadn (pc := 0) hX 0 rfl (dk D_X3_expectWord 0 rfl) ?_
  obtain ⟨_, hi, h⟩ := bd_some h
  obtain ⟨x1, μ2, hx1, h⟩ := bd2_some h
  refine r_invV0 (As := []) (pc := 1) hX ml_3_44 (L_Rd_advance hx1) (isk_u hi) (Rm_of hRm (by decide) ⟨by decide, by decide⟩) (by decide) rfl (Nat.le_of_ble_eq_true rfl) rfl (dk D_X3_expectWord 1 rfl) (fun _ => ?_)
  refine r_aloadn (pc := 4) hX 0 rfl (dk D_X3_expectWord 2 rfl) ?_
  refine r_aloadn (pc := 5) hX 1 rfl (dk D_X3_expectWord 3 rfl) ?_
  obtain ⟨_, hi, h⟩ := bd_some h
  obtain ⟨x3, μ4, hx3, h⟩ := bd2_some h
  refine r_invV0 (As := [(2, a1)]) (pc := 6) hX ml_3_61 (L_Rd_isWord hx3) (isk_u hi) (Rm_of hRm (by decide) ⟨by decide, by decide⟩) (by decide) rfl (Nat.le_of_ble_eq_true rfl) rfl (dk D_X3_expectWord 4 rfl) (fun qx3 => ?_)
  refine r_if_ne (pc := 9) hX qx3 17 rfl (dk D_X3_expectWord 5 rfl) (fun hc => ?_) (fun hc => ?_)
  · rw [if_neg hc] at h
    cases h
    exact r_return (pc := 17) hX hM ⟨by decide, by decide⟩ (dk D_X3_expectWord 9 rfl)
  · rw [if_pos hc] at h
    refine r_aloadn (pc := 12) hX 0 rfl (dk D_X3_expectWord 6 rfl) ?_
    refine r_iconst (pc := 13) hX (dk D_X3_expectWord 7 rfl) ?_
    obtain ⟨_, hi, h⟩ := bd_some h
    obtain ⟨x5, μ6, hx5, h⟩ := bd2_some h
    refine r_invV0 (As := [(0, 2)]) (pc := 14) hX ml_3_103 (L_Rd_blame (R32_lit rfl) hx5) (isk_u hi) (Rm_of hRm (by decide) ⟨by decide, by decide⟩) (by decide) rfl (Nat.le_of_ble_eq_true rfl) rfl (dk D_X3_expectWord 8 rfl) (fun _ => ?_)
    cases h
    exact r_return (pc := 17) hX hM ⟨by decide, by decide⟩ (dk D_X3_expectWord 9 rfl)
set_option maxRecDepth 100000 in
set_option maxHeartbeats 4000000 in
theorem L_Rd_readHome {E : EX} {l : Launch} {a0 res : Int} {μ μ' : Mem}  (h : Rd_readHome a0 μ = some (res, μ')) : Ok E l 5 yX3_readHome (.code yX3_readHome cX3_readHome 1 none) 0 0 [(2, a0)] μ none μ' := by
  refine Ok.of (own := "TollsBack$Reader") [(0, 2, a0)] (by decide +kernel) rfl (Nat.le_of_ble_eq_true rfl) rfl ?_
  intro X hL hRm hin hX hM
  unfold Rd_readHome at h
  subst hL
  refine r_aloadn (pc := 0) hX 0 rfl (dk D_X3_readHome 0 rfl) ?_
  obtain ⟨x1, hx1, h⟩ := bd_some h
  refine r_getR (pc := 1) hX fl_3_12 rfl hx1 (dk D_X3_readHome 1 rfl) ?_
  obtain ⟨x2, hx2, h⟩ := bd_some h
  refine r_getI (pc := 4) hX fl_3_107 rfl rfl hx2 (dk D_X3_readHome 2 rfl) (fun qx2 => ?_)
  obtain ⟨μ3, hb, h⟩ := bd_some h
  have hj : At E X cX3_readHome 1 "TollsBack$Reader" (0, 0) 15 [(0, 2, a0)] [] μ3 := by
    clear hb
    refine r_aloadn (pc := 15) hX 0 rfl (dk D_X3_readHome 7 rfl) ?_
    obtain ⟨x6, hx6, h⟩ := bd_some h
    refine r_getR (pc := 16) hX fl_3_12 rfl hx6 (dk D_X3_readHome 8 rfl) ?_
    refine r_aloadn (pc := 19) hX 0 rfl (dk D_X3_readHome 9 rfl) ?_
    refine r_iconst (pc := 20) hX (dk D_X3_readHome 10 rfl) ?_
    refine r_aloadn (pc := 21) hX 0 rfl (dk D_X3_readHome 11 rfl) ?_
    obtain ⟨x7, hx7, h⟩ := bd_some h
    refine r_getR (pc := 22) hX fl_3_12 rfl hx7 (dk D_X3_readHome 12 rfl) ?_
    obtain ⟨x8, hx8, h⟩ := bd_some h
    refine r_getI (pc := 25) hX fl_3_107 rfl rfl hx8 (dk D_X3_readHome 13 rfl) (fun qx8 => ?_)
    refine r_iconst (pc := 28) hX (dk D_X3_readHome 14 rfl) ?_
    refine r_isub (pc := 29) hX (dk D_X3_readHome 15 rfl) ?_
    obtain ⟨_, hi, h⟩ := bd_some h
    obtain ⟨x9, μ10, hx9, h⟩ := bd2_some h
    refine r_invV0 (As := [(0, 0), (0, (w32 (x8 - 1)))]) (pc := 30) hX ml_3_75 (L_Rd_expectNumber (R32_lit rfl) (R32_w _) hx9) (isk_u hi) (Rm_of hRm (by decide) ⟨by decide, by decide⟩) (by decide) rfl (Nat.le_of_ble_eq_true rfl) rfl (dk D_X3_readHome 16 rfl) (fun qx9 => ?_)
    obtain ⟨μ11, hμ11, h⟩ := bd_some h
    refine r_putI (pc := 33) hX fl_3_109 rfl rfl qx9 trivial hμ11 (dk D_X3_readHome 17 rfl) ?_
    cases h
    exact r_return (pc := 36) hX hM ⟨by decide, by decide⟩ (dk D_X3_readHome 18 rfl)
  clear h
  have h := hb
  clear hb
  refine r_if_ne (pc := 7) hX qx2 15 rfl (dk D_X3_readHome 3 rfl) (fun hc => ?_) (fun hc => ?_)
  · rw [if_neg hc] at h
    replace h := Option.some.inj h
    subst μ3
    exact hj
  · rw [if_pos hc] at h
    refine r_aloadn (pc := 10) hX 0 rfl (dk D_X3_readHome 4 rfl) ?_
    refine r_iconst (pc := 11) hX (dk D_X3_readHome 5 rfl) ?_
    obtain ⟨_, hi, h⟩ := bd_some h
    obtain ⟨x4, μ5, hx4, h⟩ := bd2_some h
    refine r_invV0 (As := [(0, 2)]) (pc := 12) hX ml_3_103 (L_Rd_blame (R32_lit rfl) hx4) (isk_u hi) (Rm_of hRm (by decide) ⟨by decide, by decide⟩) (by decide) rfl (Nat.le_of_ble_eq_true rfl) rfl (dk D_X3_readHome 6 rfl) (fun _ => ?_)
    replace h := Option.some.inj h
    subst μ3
    exact hj
set_option maxRecDepth 100000 in
set_option maxHeartbeats 4000000 in
theorem L_Rd_addRoad {E : EX} {l : Launch} {a0 a1 a2 a3 a4 a5 res : Int} {μ μ' : Mem} (q_a1 : R32 a1) (q_a2 : R32 a2) (q_a3 : R32 a3) (q_a4 : R32 a4) (q_a5 : R32 a5) (h : Rd_addRoad a0 a1 a2 a3 a4 a5 μ = some (res, μ')) : Ok E l 1 yX3_addRoad (.code yX3_addRoad cX3_addRoad 7 none) 0 0 [(2, a0), (0, a1), (0, a2), (0, a3), (0, a4), (0, a5)] μ none μ' := by
  refine Ok.of (own := "TollsBack$Reader") [(0, 2, a0), (1, 0, a1), (2, 0, a2), (3, 0, a3), (4, 0, a4), (5, 0, a5)] (by decide +kernel) rfl (Nat.le_of_ble_eq_true rfl) rfl ?_
  intro X hL hRm hin hX hM
  unfold Rd_addRoad at h
  subst hL
  refine r_aloadn (pc := 0) hX 0 rfl (dk D_X3_addRoad 0 rfl) ?_
  obtain ⟨x1, hx1, h⟩ := bd_some h
  refine r_getR (pc := 1) hX fl_3_12 rfl hx1 (dk D_X3_addRoad 1 rfl) ?_
  obtain ⟨x2, hx2, h⟩ := bd_some h
  refine r_getI (pc := 4) hX fl_3_111 rfl rfl hx2 (dk D_X3_addRoad 2 rfl) (fun qx2 => ?_)
  refine r_istore (lv' := [(6, 0, x2), (0, 2, a0), (1, 0, a1), (2, 0, a2), (3, 0, a3), (4, 0, a4), (5, 0, a5)]) (pc := 7) hX (by decide) rfl (dk D_X3_addRoad 3 rfl) ?_
  refine r_iload (pc := 9) hX 0 rfl (dk D_X3_addRoad 4 rfl) ?_
  refine r_bipush (pc := 11) hX rfl (dk D_X3_addRoad 5 rfl) ?_
  refine r_icmp_ge (pc := 13) hX qx2 (R32_lit rfl) 86 rfl (dk D_X3_addRoad 6 rfl) (fun hc => ?_) (fun hc => ?_)
  · rw [if_neg hc] at h
    cases h
    exact r_return (pc := 86) hX hM ⟨by decide, by decide⟩ (dk D_X3_addRoad 44 rfl)
  · rw [if_pos hc] at h
    refine r_aloadn (pc := 16) hX 1 rfl (dk D_X3_addRoad 7 rfl) ?_
    obtain ⟨x3, hx3, h⟩ := bd_some h
    refine r_getR (pc := 17) hX fl_3_12 rfl hx3 (dk D_X3_addRoad 8 rfl) ?_
    obtain ⟨x4, hx4, h⟩ := bd_some h
    refine r_getR (pc := 20) hX fl_3_122 rfl hx4 (dk D_X3_addRoad 9 rfl) ?_
    refine r_iload (pc := 23) hX 0 rfl (dk D_X3_addRoad 10 rfl) ?_
    refine r_iloadn (pc := 25) hX 2 rfl (dk D_X3_addRoad 11 rfl) ?_
    obtain ⟨μ5, hμ5, h⟩ := bd_some h
    refine r_iast (pc := 26) hX qx2 q_a1 hμ5 (dk D_X3_addRoad 12 rfl) ?_
    refine r_aloadn (pc := 27) hX 1 rfl (dk D_X3_addRoad 13 rfl) ?_
    obtain ⟨x6, hx6, h⟩ := bd_some h
    refine r_getR (pc := 28) hX fl_3_12 rfl hx6 (dk D_X3_addRoad 14 rfl) ?_
    obtain ⟨x7, hx7, h⟩ := bd_some h
    refine r_getR (pc := 31) hX fl_3_126 rfl hx7 (dk D_X3_addRoad 15 rfl) ?_
    refine r_iload (pc := 34) hX 0 rfl (dk D_X3_addRoad 16 rfl) ?_
    refine r_iloadn (pc := 36) hX 3 rfl (dk D_X3_addRoad 17 rfl) ?_
    obtain ⟨μ8, hμ8, h⟩ := bd_some h
    refine r_iast (pc := 37) hX qx2 q_a2 hμ8 (dk D_X3_addRoad 18 rfl) ?_
    refine r_aloadn (pc := 38) hX 1 rfl (dk D_X3_addRoad 19 rfl) ?_
    obtain ⟨x9, hx9, h⟩ := bd_some h
    refine r_getR (pc := 39) hX fl_3_12 rfl hx9 (dk D_X3_addRoad 20 rfl) ?_
    obtain ⟨x10, hx10, h⟩ := bd_some h
    refine r_getR (pc := 42) hX fl_3_129 rfl hx10 (dk D_X3_addRoad 21 rfl) ?_
    refine r_iload (pc := 45) hX 0 rfl (dk D_X3_addRoad 22 rfl) ?_
    refine r_iloadn (pc := 47) hX 4 rfl (dk D_X3_addRoad 23 rfl) ?_
    obtain ⟨μ11, hμ11, h⟩ := bd_some h
    refine r_iast (pc := 48) hX qx2 q_a3 hμ11 (dk D_X3_addRoad 24 rfl) ?_
    refine r_aloadn (pc := 49) hX 1 rfl (dk D_X3_addRoad 25 rfl) ?_
    obtain ⟨x12, hx12, h⟩ := bd_some h
    refine r_getR (pc := 50) hX fl_3_12 rfl hx12 (dk D_X3_addRoad 26 rfl) ?_
    obtain ⟨x13, hx13, h⟩ := bd_some h
    refine r_getR (pc := 53) hX fl_3_131 rfl hx13 (dk D_X3_addRoad 27 rfl) ?_
    refine r_iload (pc := 56) hX 0 rfl (dk D_X3_addRoad 28 rfl) ?_
    refine r_iload (pc := 58) hX 5 rfl (dk D_X3_addRoad 29 rfl) ?_
    obtain ⟨μ14, hμ14, h⟩ := bd_some h
    refine r_iast (pc := 60) hX qx2 q_a4 hμ14 (dk D_X3_addRoad 30 rfl) ?_
    refine r_aloadn (pc := 61) hX 1 rfl (dk D_X3_addRoad 31 rfl) ?_
    obtain ⟨x15, hx15, h⟩ := bd_some h
    refine r_getR (pc := 62) hX fl_3_12 rfl hx15 (dk D_X3_addRoad 32 rfl) ?_
    obtain ⟨x16, hx16, h⟩ := bd_some h
    refine r_getR (pc := 65) hX fl_3_134 rfl hx16 (dk D_X3_addRoad 33 rfl) ?_
    refine r_iload (pc := 68) hX 0 rfl (dk D_X3_addRoad 34 rfl) ?_
    refine r_iload (pc := 70) hX 6 rfl (dk D_X3_addRoad 35 rfl) ?_
    obtain ⟨μ17, hμ17, h⟩ := bd_some h
    refine r_iast (pc := 72) hX qx2 q_a5 hμ17 (dk D_X3_addRoad 36 rfl) ?_
    refine r_aloadn (pc := 73) hX 1 rfl (dk D_X3_addRoad 37 rfl) ?_
    obtain ⟨x18, hx18, h⟩ := bd_some h
    refine r_getR (pc := 74) hX fl_3_12 rfl hx18 (dk D_X3_addRoad 38 rfl) ?_
    refine r_dup (pc := 77) hX rfl (dk D_X3_addRoad 39 rfl) ?_
    obtain ⟨x19, hx19, h⟩ := bd_some h
    refine r_getI (pc := 78) hX fl_3_111 rfl rfl hx19 (dk D_X3_addRoad 40 rfl) (fun qx19 => ?_)
    refine r_iconst (pc := 81) hX (dk D_X3_addRoad 41 rfl) ?_
    refine r_iadd (pc := 82) hX (dk D_X3_addRoad 42 rfl) ?_
    obtain ⟨μ20, hμ20, h⟩ := bd_some h
    refine r_putI (pc := 83) hX fl_3_111 rfl rfl (R32_w _) trivial hμ20 (dk D_X3_addRoad 43 rfl) ?_
    cases h
    exact r_return (pc := 86) hX hM ⟨by decide, by decide⟩ (dk D_X3_addRoad 44 rfl)
set_option maxRecDepth 100000 in
set_option maxHeartbeats 4000000 in
theorem L_Rd_readRoad {E : EX} {l : Launch} {a0 res : Int} {μ μ' : Mem}  (h : Rd_readRoad a0 μ = some (res, μ')) : Ok E l 7 yX3_readRoad (.code yX3_readRoad cX3_readRoad 6 none) 0 0 [(2, a0)] μ none μ' := by
  refine Ok.of (own := "TollsBack$Reader") [(0, 2, a0)] (by decide +kernel) rfl (Nat.le_of_ble_eq_true rfl) rfl ?_
  intro X hL hRm hin hX hM
  unfold Rd_readRoad at h
  subst hL
  refine r_aloadn (pc := 0) hX 0 rfl (dk D_X3_readRoad 0 rfl) ?_
  obtain ⟨x1, hx1, h⟩ := bd_some h
  refine r_getR (pc := 1) hX fl_3_12 rfl hx1 (dk D_X3_readRoad 1 rfl) ?_
  obtain ⟨x2, hx2, h⟩ := bd_some h
  refine r_getI (pc := 4) hX fl_3_107 rfl rfl hx2 (dk D_X3_readRoad 2 rfl) (fun qx2 => ?_)
  obtain ⟨μ3, hb, h⟩ := bd_some h
  have hj : At E X cX3_readRoad 6 "TollsBack$Reader" (0, 0) 15 [(0, 2, a0)] [] μ3 := by
    clear hb
    refine r_aloadn (pc := 15) hX 0 rfl (dk D_X3_readRoad 7 rfl) ?_
    obtain ⟨x6, hx6, h⟩ := bd_some h
    refine r_getR (pc := 16) hX fl_3_12 rfl hx6 (dk D_X3_readRoad 8 rfl) ?_
    obtain ⟨x7, hx7, h⟩ := bd_some h
    refine r_getI (pc := 19) hX fl_3_111 rfl rfl hx7 (dk D_X3_readRoad 9 rfl) (fun qx7 => ?_)
    refine r_bipush (pc := 22) hX rfl (dk D_X3_readRoad 10 rfl) ?_
    obtain ⟨μ8, hb, h⟩ := bd_some h
    have hj : At E X cX3_readRoad 6 "TollsBack$Reader" (0, 0) 32 [(0, 2, a0)] [] μ8 := by
      clear hb
      refine r_aloadn (pc := 32) hX 0 rfl (dk D_X3_readRoad 15 rfl) ?_
      refine r_iconst (pc := 33) hX (dk D_X3_readRoad 16 rfl) ?_
      refine r_aloadn (pc := 34) hX 0 rfl (dk D_X3_readRoad 17 rfl) ?_
      obtain ⟨x11, hx11, h⟩ := bd_some h
      refine r_getR (pc := 35) hX fl_3_12 rfl hx11 (dk D_X3_readRoad 18 rfl) ?_
      obtain ⟨x12, hx12, h⟩ := bd_some h
      refine r_getI (pc := 38) hX fl_3_107 rfl rfl hx12 (dk D_X3_readRoad 19 rfl) (fun qx12 => ?_)
      refine r_iconst (pc := 41) hX (dk D_X3_readRoad 20 rfl) ?_
      refine r_isub (pc := 42) hX (dk D_X3_readRoad 21 rfl) ?_
      obtain ⟨_, hi, h⟩ := bd_some h
      obtain ⟨x13, μ14, hx13, h⟩ := bd2_some h
      refine r_invV0 (As := [(0, 0), (0, (w32 (x12 - 1)))]) (pc := 43) hX ml_3_75 (L_Rd_expectNumber (R32_lit rfl) (R32_w _) hx13) (isk_u hi) (Rm_of hRm (by decide) ⟨by decide, by decide⟩) (by decide) rfl (Nat.le_of_ble_eq_true rfl) rfl (dk D_X3_readRoad 22 rfl) (fun qx13 => ?_)
      refine r_istoren (lv' := [(1, 0, x13), (0, 2, a0)]) (pc := 46) hX (by decide) rfl (dk D_X3_readRoad 23 rfl) ?_
      refine r_aloadn (pc := 47) hX 1 rfl (dk D_X3_readRoad 24 rfl) ?_
      refine r_ldcS (i := 5) (pc := 48) hX (by decide) rfl (dk D_X3_readRoad 25 rfl) ?_
      obtain ⟨_, hi, h⟩ := bd_some h
      obtain ⟨x15, μ16, hx15, h⟩ := bd2_some h
      refine r_invV0 (As := [(2, (-2 - ((5 : Nat) : Int)))]) (pc := 50) hX ml_3_91 (L_Rd_expectWord hx15) (isk_u hi) (Rm_of hRm (by decide) ⟨by decide, by decide⟩) (by decide) rfl (Nat.le_of_ble_eq_true rfl) rfl (dk D_X3_readRoad 26 rfl) (fun _ => ?_)
      refine r_aloadn (pc := 53) hX 1 rfl (dk D_X3_readRoad 27 rfl) ?_
      refine r_iconst (pc := 54) hX (dk D_X3_readRoad 28 rfl) ?_
      refine r_aloadn (pc := 55) hX 1 rfl (dk D_X3_readRoad 29 rfl) ?_
      obtain ⟨x17, hx17, h⟩ := bd_some h
      refine r_getR (pc := 56) hX fl_3_12 rfl hx17 (dk D_X3_readRoad 30 rfl) ?_
      obtain ⟨x18, hx18, h⟩ := bd_some h
      refine r_getI (pc := 59) hX fl_3_107 rfl rfl hx18 (dk D_X3_readRoad 31 rfl) (fun qx18 => ?_)
      refine r_iconst (pc := 62) hX (dk D_X3_readRoad 32 rfl) ?_
      refine r_isub (pc := 63) hX (dk D_X3_readRoad 33 rfl) ?_
      obtain ⟨_, hi, h⟩ := bd_some h
      obtain ⟨x19, μ20, hx19, h⟩ := bd2_some h
      refine r_invV0 (As := [(0, 0), (0, (w32 (x18 - 1)))]) (pc := 64) hX ml_3_75 (L_Rd_expectNumber (R32_lit rfl) (R32_w _) hx19) (isk_u hi) (Rm_of hRm (by decide) ⟨by decide, by decide⟩) (by decide) rfl (Nat.le_of_ble_eq_true rfl) rfl (dk D_X3_readRoad 34 rfl) (fun qx19 => ?_)
      refine r_istoren (lv' := [(2, 0, x19), (1, 0, x13), (0, 2, a0)]) (pc := 67) hX (by decide) rfl (dk D_X3_readRoad 35 rfl) ?_
      refine r_iloadn (pc := 68) hX 0 rfl (dk D_X3_readRoad 36 rfl) ?_
      refine r_iloadn (pc := 69) hX 1 rfl (dk D_X3_readRoad 37 rfl) ?_
      obtain ⟨μ21, hb, h⟩ := bd_some h
      have hj : At E X cX3_readRoad 6 "TollsBack$Reader" (0, 0) 78 [(0, 2, a0), (1, 0, x13), (2, 0, x19)] [] μ21 := by
        clear hb
        refine r_aloadn (pc := 78) hX 0 rfl (dk D_X3_readRoad 42 rfl) ?_
        refine r_ldcS (i := 7) (pc := 79) hX (by decide) rfl (dk D_X3_readRoad 43 rfl) ?_
        obtain ⟨_, hi, h⟩ := bd_some h
        obtain ⟨x24, μ25, hx24, h⟩ := bd2_some h
        refine r_invV0 (As := [(2, (-2 - ((7 : Nat) : Int)))]) (pc := 81) hX ml_3_91 (L_Rd_expectWord hx24) (isk_u hi) (Rm_of hRm (by decide) ⟨by decide, by decide⟩) (by decide) rfl (Nat.le_of_ble_eq_true rfl) rfl (dk D_X3_readRoad 44 rfl) (fun _ => ?_)
        refine r_aloadn (pc := 84) hX 0 rfl (dk D_X3_readRoad 45 rfl) ?_
        refine r_iconst (pc := 85) hX (dk D_X3_readRoad 46 rfl) ?_
        refine r_sipush (pc := 86) hX rfl (dk D_X3_readRoad 47 rfl) ?_
        obtain ⟨_, hi, h⟩ := bd_some h
        obtain ⟨x26, μ27, hx26, h⟩ := bd2_some h
        refine r_invV0 (As := [(0, 0), (0, 999)]) (pc := 89) hX ml_3_75 (L_Rd_expectNumber (R32_lit rfl) (R32_lit rfl) hx26) (isk_u hi) (Rm_of hRm (by decide) ⟨by decide, by decide⟩) (by decide) rfl (Nat.le_of_ble_eq_true rfl) rfl (dk D_X3_readRoad 48 rfl) (fun qx26 => ?_)
        refine r_istoren (lv' := [(3, 0, x26), (0, 2, a0), (1, 0, x13), (2, 0, x19)]) (pc := 92) hX (by decide) rfl (dk D_X3_readRoad 49 rfl) ?_
        refine r_iloadn (pc := 93) hX 0 rfl (dk D_X3_readRoad 50 rfl) ?_
        refine r_istore (lv' := [(4, 0, x26), (3, 0, x26), (0, 2, a0), (1, 0, x13), (2, 0, x19)]) (pc := 94) hX (by decide) rfl (dk D_X3_readRoad 51 rfl) ?_
        refine r_aloadn (pc := 96) hX 2 rfl (dk D_X3_readRoad 52 rfl) ?_
        obtain ⟨_, hi, h⟩ := bd_some h
        obtain ⟨x28, μ29, hx28, h⟩ := bd2_some h
        refine r_invV0 (As := []) (pc := 97) hX ml_3_44 (L_Rd_advance hx28) (isk_u hi) (Rm_of hRm (by decide) ⟨by decide, by decide⟩) (by decide) rfl (Nat.le_of_ble_eq_true rfl) rfl (dk D_X3_readRoad 53 rfl) (fun _ => ?_)
        refine r_aloadn (pc := 100) hX 2 rfl (dk D_X3_readRoad 54 rfl) ?_
        refine r_ldcS (i := 4) (pc := 101) hX (by decide) rfl (dk D_X3_readRoad 55 rfl) ?_
        obtain ⟨_, hi, h⟩ := bd_some h
        obtain ⟨x30, μ31, hx30, h⟩ := bd2_some h
        refine r_invV0 (As := [(2, (-2 - ((4 : Nat) : Int)))]) (pc := 103) hX ml_3_61 (L_Rd_isWord hx30) (isk_u hi) (Rm_of hRm (by decide) ⟨by decide, by decide⟩) (by decide) rfl (Nat.le_of_ble_eq_true rfl) rfl (dk D_X3_readRoad 56 rfl) (fun qx30 => ?_)
        obtain ⟨y32, μ33, hb, h⟩ := bd2_some h
        have hj : R32 y32 → At E X cX3_readRoad 6 "TollsBack$Reader" (0, 0) 123 [(0, 2, a0), (1, 0, x13), (2, 0, x19), (3, 0, x26), (4, 0, y32)] [] μ33 := by
          intro qy32
          clear hb
          refine r_aloadn (pc := 123) hX 0 rfl (dk D_X3_readRoad 65 rfl) ?_
          refine r_ldcS (i := 8) (pc := 124) hX (by decide) rfl (dk D_X3_readRoad 66 rfl) ?_
          obtain ⟨_, hi, h⟩ := bd_some h
          obtain ⟨x38, μ39, hx38, h⟩ := bd2_some h
          refine r_invV0 (As := [(2, (-2 - ((8 : Nat) : Int)))]) (pc := 126) hX ml_3_61 (L_Rd_isWord hx38) (isk_u hi) (Rm_of hRm (by decide) ⟨by decide, by decide⟩) (by decide) rfl (Nat.le_of_ble_eq_true rfl) rfl (dk D_X3_readRoad 67 rfl) (fun qx38 => ?_)
          obtain ⟨μ40, hb, h⟩ := bd_some h
          have hj : At E X cX3_readRoad 6 "TollsBack$Reader" (0, 0) 137 [(0, 2, a0), (1, 0, x13), (2, 0, x19), (3, 0, x26), (4, 0, y32)] [] μ40 := by
            clear hb
            refine r_aloadn (pc := 137) hX 0 rfl (dk D_X3_readRoad 72 rfl) ?_
            refine r_iconst (pc := 138) hX (dk D_X3_readRoad 73 rfl) ?_
            refine r_bipush (pc := 139) hX rfl (dk D_X3_readRoad 74 rfl) ?_
            obtain ⟨_, hi, h⟩ := bd_some h
            obtain ⟨x43, μ44, hx43, h⟩ := bd2_some h
            refine r_invV0 (As := [(0, 1), (0, 90)]) (pc := 141) hX ml_3_75 (L_Rd_expectNumber (R32_lit rfl) (R32_lit rfl) hx43) (isk_u hi) (Rm_of hRm (by decide) ⟨by decide, by decide⟩) (by decide) rfl (Nat.le_of_ble_eq_true rfl) rfl (dk D_X3_readRoad 75 rfl) (fun qx43 => ?_)
            refine r_istore (lv' := [(5, 0, x43), (0, 2, a0), (1, 0, x13), (2, 0, x19), (3, 0, x26), (4, 0, y32)]) (pc := 144) hX (by decide) rfl (dk D_X3_readRoad 76 rfl) ?_
            refine r_aloadn (pc := 146) hX 1 rfl (dk D_X3_readRoad 77 rfl) ?_
            obtain ⟨x45, hx45, h⟩ := bd_some h
            refine r_getI (pc := 147) hX fl_3_35 rfl rfl hx45 (dk D_X3_readRoad 78 rfl) (fun qx45 => ?_)
            refine r_if_ne (pc := 150) hX qx45 164 rfl (dk D_X3_readRoad 79 rfl) (fun hc => ?_) (fun hc => ?_)
            · rw [if_neg hc] at h
              cases h
              exact r_return (pc := 164) hX hM ⟨by decide, by decide⟩ (dk D_X3_readRoad 87 rfl)
            · rw [if_pos hc] at h
              refine r_aloadn (pc := 153) hX 1 rfl (dk D_X3_readRoad 80 rfl) ?_
              refine r_iloadn (pc := 154) hX 2 rfl (dk D_X3_readRoad 81 rfl) ?_
              refine r_iloadn (pc := 155) hX 3 rfl (dk D_X3_readRoad 82 rfl) ?_
              refine r_iloadn (pc := 156) hX 4 rfl (dk D_X3_readRoad 83 rfl) ?_
              refine r_iload (pc := 157) hX 5 rfl (dk D_X3_readRoad 84 rfl) ?_
              refine r_iload (pc := 159) hX 0 rfl (dk D_X3_readRoad 85 rfl) ?_
              obtain ⟨_, hi, h⟩ := bd_some h
              obtain ⟨x46, μ47, hx46, h⟩ := bd2_some h
              refine r_invV0 (As := [(0, x13), (0, x19), (0, x26), (0, y32), (0, x43)]) (pc := 161) hX ml_3_118 (L_Rd_addRoad qx13 qx19 qx26 qy32 qx43 hx46) (isk_u hi) (Rm_of hRm (by decide) ⟨by decide, by decide⟩) (by decide) rfl (Nat.le_of_ble_eq_true rfl) rfl (dk D_X3_readRoad 86 rfl) (fun _ => ?_)
              cases h
              exact r_return (pc := 164) hX hM ⟨by decide, by decide⟩ (dk D_X3_readRoad 87 rfl)
          clear h
          have h := hb
          clear hb
          refine r_if_ne (pc := 129) hX qx38 137 rfl (dk D_X3_readRoad 68 rfl) (fun hc => ?_) (fun hc => ?_)
          · rw [if_neg hc] at h
            replace h := Option.some.inj h
            subst μ40
            exact hj
          · rw [if_pos hc] at h
            refine r_aloadn (pc := 132) hX 0 rfl (dk D_X3_readRoad 69 rfl) ?_
            refine r_iconst (pc := 133) hX (dk D_X3_readRoad 70 rfl) ?_
            obtain ⟨_, hi, h⟩ := bd_some h
            obtain ⟨x41, μ42, hx41, h⟩ := bd2_some h
            refine r_invV0 (As := [(0, 2)]) (pc := 134) hX ml_3_103 (L_Rd_blame (R32_lit rfl) hx41) (isk_u hi) (Rm_of hRm (by decide) ⟨by decide, by decide⟩) (by decide) rfl (Nat.le_of_ble_eq_true rfl) rfl (dk D_X3_readRoad 71 rfl) (fun _ => ?_)
            replace h := Option.some.inj h
            subst μ40
            exact hj
        clear h
        have h := hb
        clear hb
        refine r_if_eq (pc := 106) hX qx30 123 rfl (dk D_X3_readRoad 57 rfl) (fun hc => ?_) (fun hc => ?_)
        · rw [if_pos hc] at h
          replace h := Option.some.inj h
          obtain ⟨h_0, h⟩ := Prod.mk.inj h
          subst y32
          subst μ33
          refine r_sub (lv' := [(0, 2, a0), (1, 0, x13), (2, 0, x19), (3, 0, x26), (4, 0, x26)]) [2, 3, 4, 1, 0] rfl ?_
          exact hj qx26
        · rw [if_neg hc] at h
          refine r_aloadn (pc := 109) hX 2 rfl (dk D_X3_readRoad 58 rfl) ?_
          refine r_iconst (pc := 110) hX (dk D_X3_readRoad 59 rfl) ?_
          refine r_sipush (pc := 111) hX rfl (dk D_X3_readRoad 60 rfl) ?_
          obtain ⟨_, hi, h⟩ := bd_some h
          obtain ⟨x34, μ35, hx34, h⟩ := bd2_some h
          refine r_invV0 (As := [(0, 0), (0, 999)]) (pc := 114) hX ml_3_75 (L_Rd_expectNumber (R32_lit rfl) (R32_lit rfl) hx34) (isk_u hi) (Rm_of hRm (by decide) ⟨by decide, by decide⟩) (by decide) rfl (Nat.le_of_ble_eq_true rfl) rfl (dk D_X3_readRoad 61 rfl) (fun qx34 => ?_)
          refine r_istore (lv' := [(4, 0, x34), (3, 0, x26), (0, 2, a0), (1, 0, x13), (2, 0, x19)]) (pc := 117) hX (by decide) rfl (dk D_X3_readRoad 62 rfl) ?_
          refine r_aloadn (pc := 119) hX 2 rfl (dk D_X3_readRoad 63 rfl) ?_
          obtain ⟨_, hi, h⟩ := bd_some h
          obtain ⟨x36, μ37, hx36, h⟩ := bd2_some h
          refine r_invV0 (As := []) (pc := 120) hX ml_3_44 (L_Rd_advance hx36) (isk_u hi) (Rm_of hRm (by decide) ⟨by decide, by decide⟩) (by decide) rfl (Nat.le_of_ble_eq_true rfl) rfl (dk D_X3_readRoad 64 rfl) (fun _ => ?_)
          replace h := Option.some.inj h
          obtain ⟨h_0, h⟩ := Prod.mk.inj h
          subst y32
          subst μ33
          refine r_sub (lv' := [(0, 2, a0), (1, 0, x13), (2, 0, x19), (3, 0, x26), (4, 0, x34)]) [2, 3, 4, 1, 0] rfl ?_
          exact hj qx34
      clear h
      have h := hb
      clear hb
      refine r_icmp_ne (pc := 70) hX qx19 qx13 78 rfl (dk D_X3_readRoad 38 rfl) (fun hc => ?_) (fun hc => ?_)
      · rw [if_neg hc] at h
        replace h := Option.some.inj h
        subst μ21
        refine r_sub (lv' := [(0, 2, a0), (1, 0, x13), (2, 0, x19)]) [2, 1, 0] rfl ?_
        exact hj
      · rw [if_pos hc] at h
        refine r_aloadn (pc := 73) hX 2 rfl (dk D_X3_readRoad 39 rfl) ?_
        refine r_iconst (pc := 74) hX (dk D_X3_readRoad 40 rfl) ?_
        obtain ⟨_, hi, h⟩ := bd_some h
        obtain ⟨x22, μ23, hx22, h⟩ := bd2_some h
        refine r_invV0 (As := [(0, 3)]) (pc := 75) hX ml_3_103 (L_Rd_blame (R32_lit rfl) hx22) (isk_u hi) (Rm_of hRm (by decide) ⟨by decide, by decide⟩) (by decide) rfl (Nat.le_of_ble_eq_true rfl) rfl (dk D_X3_readRoad 41 rfl) (fun _ => ?_)
        replace h := Option.some.inj h
        subst μ21
        refine r_sub (lv' := [(0, 2, a0), (1, 0, x13), (2, 0, x19)]) [2, 1, 0] rfl ?_
        exact hj
    clear h
    have h := hb
    clear hb
    refine r_icmp_lt (pc := 24) hX qx7 (R32_lit rfl) 32 rfl (dk D_X3_readRoad 11 rfl) (fun hc => ?_) (fun hc => ?_)
    · rw [if_pos hc] at h
      replace h := Option.some.inj h
      subst μ8
      exact hj
    · rw [if_neg hc] at h
      refine r_aloadn (pc := 27) hX 0 rfl (dk D_X3_readRoad 12 rfl) ?_
      refine r_iconst (pc := 28) hX (dk D_X3_readRoad 13 rfl) ?_
      obtain ⟨_, hi, h⟩ := bd_some h
      obtain ⟨x9, μ10, hx9, h⟩ := bd2_some h
      refine r_invV0 (As := [(0, 4)]) (pc := 29) hX ml_3_103 (L_Rd_blame (R32_lit rfl) hx9) (isk_u hi) (Rm_of hRm (by decide) ⟨by decide, by decide⟩) (by decide) rfl (Nat.le_of_ble_eq_true rfl) rfl (dk D_X3_readRoad 14 rfl) (fun _ => ?_)
      replace h := Option.some.inj h
      subst μ8
      exact hj
  clear h
  have h := hb
  clear hb
  refine r_if_ne (pc := 7) hX qx2 15 rfl (dk D_X3_readRoad 3 rfl) (fun hc => ?_) (fun hc => ?_)
  · rw [if_neg hc] at h
    replace h := Option.some.inj h
    subst μ3
    exact hj
  · rw [if_pos hc] at h
    refine r_aloadn (pc := 10) hX 0 rfl (dk D_X3_readRoad 4 rfl) ?_
    refine r_iconst (pc := 11) hX (dk D_X3_readRoad 5 rfl) ?_
    obtain ⟨_, hi, h⟩ := bd_some h
    obtain ⟨x4, μ5, hx4, h⟩ := bd2_some h
    refine r_invV0 (As := [(0, 2)]) (pc := 12) hX ml_3_103 (L_Rd_blame (R32_lit rfl) hx4) (isk_u hi) (Rm_of hRm (by decide) ⟨by decide, by decide⟩) (by decide) rfl (Nat.le_of_ble_eq_true rfl) rfl (dk D_X3_readRoad 6 rfl) (fun _ => ?_)
    replace h := Option.some.inj h
    subst μ3
    exact hj
set_option maxRecDepth 100000 in
set_option maxHeartbeats 4000000 in
theorem L_Rd_readTowns {E : EX} {l : Launch} {a0 res : Int} {μ μ' : Mem}  (h : Rd_readTowns a0 μ = some (res, μ')) : Ok E l 5 yX3_readTowns (.code yX3_readTowns cX3_readTowns 1 none) 0 0 [(2, a0)] μ none μ' := by
  refine Ok.of (own := "TollsBack$Reader") [(0, 2, a0)] (by decide +kernel) rfl (Nat.le_of_ble_eq_true rfl) rfl ?_
  intro X hL hRm hin hX hM
  unfold Rd_readTowns at h
  subst hL
  refine r_aloadn (pc := 0) hX 0 rfl (dk D_X3_readTowns 0 rfl) ?_
  obtain ⟨x1, hx1, h⟩ := bd_some h
  refine r_getR (pc := 1) hX fl_3_12 rfl hx1 (dk D_X3_readTowns 1 rfl) ?_
  obtain ⟨x2, hx2, h⟩ := bd_some h
  refine r_getI (pc := 4) hX fl_3_107 rfl rfl hx2 (dk D_X3_readTowns 2 rfl) (fun qx2 => ?_)
  obtain ⟨μ3, hb, h⟩ := bd_some h
  have hj : At E X cX3_readTowns 1 "TollsBack$Reader" (0, 0) 15 [(0, 2, a0)] [] μ3 := by
    clear hb
    refine r_aloadn (pc := 15) hX 0 rfl (dk D_X3_readTowns 7 rfl) ?_
    obtain ⟨x6, hx6, h⟩ := bd_some h
    refine r_getR (pc := 16) hX fl_3_12 rfl hx6 (dk D_X3_readTowns 8 rfl) ?_
    refine r_aloadn (pc := 19) hX 0 rfl (dk D_X3_readTowns 9 rfl) ?_
    refine r_iconst (pc := 20) hX (dk D_X3_readTowns 10 rfl) ?_
    refine r_bipush (pc := 21) hX rfl (dk D_X3_readTowns 11 rfl) ?_
    obtain ⟨_, hi, h⟩ := bd_some h
    obtain ⟨x7, μ8, hx7, h⟩ := bd2_some h
    refine r_invV0 (As := [(0, 2), (0, 12)]) (pc := 23) hX ml_3_75 (L_Rd_expectNumber (R32_lit rfl) (R32_lit rfl) hx7) (isk_u hi) (Rm_of hRm (by decide) ⟨by decide, by decide⟩) (by decide) rfl (Nat.le_of_ble_eq_true rfl) rfl (dk D_X3_readTowns 12 rfl) (fun qx7 => ?_)
    obtain ⟨μ9, hμ9, h⟩ := bd_some h
    refine r_putI (pc := 26) hX fl_3_107 rfl rfl qx7 trivial hμ9 (dk D_X3_readTowns 13 rfl) ?_
    cases h
    exact r_return (pc := 29) hX hM ⟨by decide, by decide⟩ (dk D_X3_readTowns 14 rfl)
  clear h
  have h := hb
  clear hb
  refine r_if_eq (pc := 7) hX qx2 15 rfl (dk D_X3_readTowns 3 rfl) (fun hc => ?_) (fun hc => ?_)
  · rw [if_pos hc] at h
    replace h := Option.some.inj h
    subst μ3
    exact hj
  · rw [if_neg hc] at h
    refine r_aloadn (pc := 10) hX 0 rfl (dk D_X3_readTowns 4 rfl) ?_
    refine r_iconst (pc := 11) hX (dk D_X3_readTowns 5 rfl) ?_
    obtain ⟨_, hi, h⟩ := bd_some h
    obtain ⟨x4, μ5, hx4, h⟩ := bd2_some h
    refine r_invV0 (As := [(0, 4)]) (pc := 12) hX ml_3_103 (L_Rd_blame (R32_lit rfl) hx4) (isk_u hi) (Rm_of hRm (by decide) ⟨by decide, by decide⟩) (by decide) rfl (Nat.le_of_ble_eq_true rfl) rfl (dk D_X3_readTowns 6 rfl) (fun _ => ?_)
    replace h := Option.some.inj h
    subst μ3
    exact hj
set_option maxRecDepth 100000 in
set_option maxHeartbeats 4000000 in
theorem L_Rd_readLine {E : EX} {l : Launch} {a0 res : Int} {μ μ' : Mem}  (h : Rd_readLine a0 μ = some (res, μ')) : Ok E l 8 yX3_readLine (.code yX3_readLine cX3_readLine 1 none) 0 0 [(2, a0)] μ none μ' := by
  refine Ok.of (own := "TollsBack$Reader") [(0, 2, a0)] (by decide +kernel) rfl (Nat.le_of_ble_eq_true rfl) rfl ?_
  intro X hL hRm hin hX hM
  unfold Rd_readLine at h
  subst hL
  refine r_aloadn (pc := 0) hX 0 rfl (dk D_X3_readLine 0 rfl) ?_
  refine r_ldcS (i := 0) (pc := 1) hX (by decide) rfl (dk D_X3_readLine 1 rfl) ?_
  obtain ⟨_, hi, h⟩ := bd_some h
  obtain ⟨x1, μ2, hx1, h⟩ := bd2_some h
  refine r_invV0 (As := [(2, (-2 - ((0 : Nat) : Int)))]) (pc := 3) hX ml_3_61 (L_Rd_isWord hx1) (isk_u hi) (Rm_of hRm (by decide) ⟨by decide, by decide⟩) (by decide) rfl (Nat.le_of_ble_eq_true rfl) rfl (dk D_X3_readLine 2 rfl) (fun qx1 => ?_)
  refine r_if_eq (pc := 6) hX qx1 16 rfl (dk D_X3_readLine 3 rfl) (fun hc => ?_) (fun hc => ?_)
  · rw [if_pos hc] at h
    refine r_aloadn (pc := 16) hX 0 rfl (dk D_X3_readLine 7 rfl) ?_
    refine r_ldcS (i := 1) (pc := 17) hX (by decide) rfl (dk D_X3_readLine 8 rfl) ?_
    obtain ⟨_, hi, h⟩ := bd_some h
    obtain ⟨x3, μ4, hx3, h⟩ := bd2_some h
    refine r_invV0 (As := [(2, (-2 - ((1 : Nat) : Int)))]) (pc := 19) hX ml_3_61 (L_Rd_isWord hx3) (isk_u hi) (Rm_of hRm (by decide) ⟨by decide, by decide⟩) (by decide) rfl (Nat.le_of_ble_eq_true rfl) rfl (dk D_X3_readLine 9 rfl) (fun qx3 => ?_)
    refine r_if_eq (pc := 22) hX qx3 32 rfl (dk D_X3_readLine 10 rfl) (fun hc => ?_) (fun hc => ?_)
    · rw [if_pos hc] at h
      refine r_aloadn (pc := 32) hX 0 rfl (dk D_X3_readLine 14 rfl) ?_
      refine r_ldcS (i := 2) (pc := 33) hX (by decide) rfl (dk D_X3_readLine 15 rfl) ?_
      obtain ⟨_, hi, h⟩ := bd_some h
      obtain ⟨x5, μ6, hx5, h⟩ := bd2_some h
      refine r_invV0 (As := [(2, (-2 - ((2 : Nat) : Int)))]) (pc := 35) hX ml_3_61 (L_Rd_isWord hx5) (isk_u hi) (Rm_of hRm (by decide) ⟨by decide, by decide⟩) (by decide) rfl (Nat.le_of_ble_eq_true rfl) rfl (dk D_X3_readLine 16 rfl) (fun qx5 => ?_)
      refine r_if_eq (pc := 38) hX qx5 59 rfl (dk D_X3_readLine 17 rfl) (fun hc => ?_) (fun hc => ?_)
      · rw [if_pos hc] at h
        refine r_aloadn (pc := 59) hX 0 rfl (dk D_X3_readLine 26 rfl) ?_
        refine r_ldcS (i := 3) (pc := 60) hX (by decide) rfl (dk D_X3_readLine 27 rfl) ?_
        obtain ⟨_, hi, h⟩ := bd_some h
        obtain ⟨x7, μ8, hx7, h⟩ := bd2_some h
        refine r_invV0 (As := [(2, (-2 - ((3 : Nat) : Int)))]) (pc := 62) hX ml_3_61 (L_Rd_isWord hx7) (isk_u hi) (Rm_of hRm (by decide) ⟨by decide, by decide⟩) (by decide) rfl (Nat.le_of_ble_eq_true rfl) rfl (dk D_X3_readLine 28 rfl) (fun qx7 => ?_)
        refine r_if_eq (pc := 65) hX qx7 85 rfl (dk D_X3_readLine 29 rfl) (fun hc => ?_) (fun hc => ?_)
        · rw [if_pos hc] at h
          refine r_aloadn (pc := 85) hX 0 rfl (dk D_X3_readLine 38 rfl) ?_
          refine r_ldcS (i := 4) (pc := 86) hX (by decide) rfl (dk D_X3_readLine 39 rfl) ?_
          obtain ⟨_, hi, h⟩ := bd_some h
          obtain ⟨x9, μ10, hx9, h⟩ := bd2_some h
          refine r_invV0 (As := [(2, (-2 - ((4 : Nat) : Int)))]) (pc := 88) hX ml_3_61 (L_Rd_isWord hx9) (isk_u hi) (Rm_of hRm (by decide) ⟨by decide, by decide⟩) (by decide) rfl (Nat.le_of_ble_eq_true rfl) rfl (dk D_X3_readLine 40 rfl) (fun qx9 => ?_)
          refine r_if_eq (pc := 91) hX qx9 139 rfl (dk D_X3_readLine 41 rfl) (fun hc => ?_) (fun hc => ?_)
          · rw [if_pos hc] at h
            refine r_aloadn (pc := 139) hX 0 rfl (dk D_X3_readLine 62 rfl) ?_
            refine r_ldcS (i := 6) (pc := 140) hX (by decide) rfl (dk D_X3_readLine 63 rfl) ?_
            obtain ⟨_, hi, h⟩ := bd_some h
            obtain ⟨x11, μ12, hx11, h⟩ := bd2_some h
            refine r_invV0 (As := [(2, (-2 - ((6 : Nat) : Int)))]) (pc := 142) hX ml_3_61 (L_Rd_isWord hx11) (isk_u hi) (Rm_of hRm (by decide) ⟨by decide, by decide⟩) (by decide) rfl (Nat.le_of_ble_eq_true rfl) rfl (dk D_X3_readLine 64 rfl) (fun qx11 => ?_)
            refine r_if_eq (pc := 145) hX qx11 155 rfl (dk D_X3_readLine 65 rfl) (fun hc => ?_) (fun hc => ?_)
            · rw [if_pos hc] at h
              refine r_aloadn (pc := 155) hX 0 rfl (dk D_X3_readLine 69 rfl) ?_
              refine r_iconst (pc := 156) hX (dk D_X3_readLine 70 rfl) ?_
              obtain ⟨_, hi, h⟩ := bd_some h
              obtain ⟨x13, μ14, hx13, h⟩ := bd2_some h
              refine r_invV0 (As := [(0, 2)]) (pc := 157) hX ml_3_103 (L_Rd_blame (R32_lit rfl) hx13) (isk_u hi) (Rm_of hRm (by decide) ⟨by decide, by decide⟩) (by decide) rfl (Nat.le_of_ble_eq_true rfl) rfl (dk D_X3_readLine 71 rfl) (fun _ => ?_)
              cases h
              exact r_return (pc := 160) hX hM ⟨by decide, by decide⟩ (dk D_X3_readLine 72 rfl)
            · rw [if_neg hc] at h
              refine r_aloadn (pc := 148) hX 0 rfl (dk D_X3_readLine 66 rfl) ?_
              obtain ⟨_, hi, h⟩ := bd_some h
              obtain ⟨x15, μ16, hx15, h⟩ := bd2_some h
              refine r_invV0 (As := []) (pc := 149) hX ml_3_100 (L_Rd_readRoad hx15) (isk_u hi) (Rm_of hRm (by decide) ⟨by decide, by decide⟩) (by decide) rfl (Nat.le_of_ble_eq_true rfl) rfl (dk D_X3_readLine 67 rfl) (fun _ => ?_)
              refine r_goto (pc := 152) hX 160 rfl (dk D_X3_readLine 68 rfl) ?_
              cases h
              exact r_return (pc := 160) hX hM ⟨by decide, by decide⟩ (dk D_X3_readLine 72 rfl)
          · rw [if_neg hc] at h
            refine r_aloadn (pc := 94) hX 0 rfl (dk D_X3_readLine 42 rfl) ?_
            obtain ⟨x17, hx17, h⟩ := bd_some h
            refine r_getR (pc := 95) hX fl_3_12 rfl hx17 (dk D_X3_readLine 43 rfl) ?_
            refine r_aloadn (pc := 98) hX 0 rfl (dk D_X3_readLine 44 rfl) ?_
            refine r_iconst (pc := 99) hX (dk D_X3_readLine 45 rfl) ?_
            refine r_sipush (pc := 100) hX rfl (dk D_X3_readLine 46 rfl) ?_
            obtain ⟨_, hi, h⟩ := bd_some h
            obtain ⟨x18, μ19, hx18, h⟩ := bd2_some h
            refine r_invV0 (As := [(0, 0), (0, 359)]) (pc := 103) hX ml_3_75 (L_Rd_expectNumber (R32_lit rfl) (R32_lit rfl) hx18) (isk_u hi) (Rm_of hRm (by decide) ⟨by decide, by decide⟩) (by decide) rfl (Nat.le_of_ble_eq_true rfl) rfl (dk D_X3_readLine 47 rfl) (fun qx18 => ?_)
            obtain ⟨μ20, hμ20, h⟩ := bd_some h
            refine r_putI (pc := 106) hX fl_3_86 rfl rfl qx18 trivial hμ20 (dk D_X3_readLine 48 rfl) ?_
            refine r_aloadn (pc := 109) hX 0 rfl (dk D_X3_readLine 49 rfl) ?_
            refine r_ldcS (i := 5) (pc := 110) hX (by decide) rfl (dk D_X3_readLine 50 rfl) ?_
            obtain ⟨_, hi, h⟩ := bd_some h
            obtain ⟨x21, μ22, hx21, h⟩ := bd2_some h
            refine r_invV0 (As := [(2, (-2 - ((5 : Nat) : Int)))]) (pc := 112) hX ml_3_91 (L_Rd_expectWord hx21) (isk_u hi) (Rm_of hRm (by decide) ⟨by decide, by decide⟩) (by decide) rfl (Nat.le_of_ble_eq_true rfl) rfl (dk D_X3_readLine 51 rfl) (fun _ => ?_)
            refine r_aloadn (pc := 115) hX 0 rfl (dk D_X3_readLine 52 rfl) ?_
            obtain ⟨x23, hx23, h⟩ := bd_some h
            refine r_getR (pc := 116) hX fl_3_12 rfl hx23 (dk D_X3_readLine 53 rfl) ?_
            refine r_aloadn (pc := 119) hX 0 rfl (dk D_X3_readLine 54 rfl) ?_
            refine r_aloadn (pc := 120) hX 0 rfl (dk D_X3_readLine 55 rfl) ?_
            obtain ⟨x24, hx24, h⟩ := bd_some h
            refine r_getR (pc := 121) hX fl_3_12 rfl hx24 (dk D_X3_readLine 56 rfl) ?_
            obtain ⟨x25, hx25, h⟩ := bd_some h
            refine r_getI (pc := 124) hX fl_3_86 rfl rfl hx25 (dk D_X3_readLine 57 rfl) (fun qx25 => ?_)
            refine r_sipush (pc := 127) hX rfl (dk D_X3_readLine 58 rfl) ?_
            obtain ⟨_, hi, h⟩ := bd_some h
            obtain ⟨x26, μ27, hx26, h⟩ := bd2_some h
            refine r_invV0 (As := [(0, x25), (0, 359)]) (pc := 130) hX ml_3_75 (L_Rd_expectNumber qx25 (R32_lit rfl) hx26) (isk_u hi) (Rm_of hRm (by decide) ⟨by decide, by decide⟩) (by decide) rfl (Nat.le_of_ble_eq_true rfl) rfl (dk D_X3_readLine 59 rfl) (fun qx26 => ?_)
            obtain ⟨μ28, hμ28, h⟩ := bd_some h
            refine r_putI (pc := 133) hX fl_3_95 rfl rfl qx26 trivial hμ28 (dk D_X3_readLine 60 rfl) ?_
            refine r_goto (pc := 136) hX 160 rfl (dk D_X3_readLine 61 rfl) ?_
            cases h
            exact r_return (pc := 160) hX hM ⟨by decide, by decide⟩ (dk D_X3_readLine 72 rfl)
        · rw [if_neg hc] at h
          refine r_aloadn (pc := 68) hX 0 rfl (dk D_X3_readLine 30 rfl) ?_
          obtain ⟨x29, hx29, h⟩ := bd_some h
          refine r_getR (pc := 69) hX fl_3_12 rfl hx29 (dk D_X3_readLine 31 rfl) ?_
          refine r_aloadn (pc := 72) hX 0 rfl (dk D_X3_readLine 32 rfl) ?_
          refine r_iconst (pc := 73) hX (dk D_X3_readLine 33 rfl) ?_
          refine r_bipush (pc := 74) hX rfl (dk D_X3_readLine 34 rfl) ?_
          obtain ⟨_, hi, h⟩ := bd_some h
          obtain ⟨x30, μ31, hx30, h⟩ := bd2_some h
          refine r_invV0 (As := [(0, 0), (0, 100)]) (pc := 76) hX ml_3_75 (L_Rd_expectNumber (R32_lit rfl) (R32_lit rfl) hx30) (isk_u hi) (Rm_of hRm (by decide) ⟨by decide, by decide⟩) (by decide) rfl (Nat.le_of_ble_eq_true rfl) rfl (dk D_X3_readLine 35 rfl) (fun qx30 => ?_)
          obtain ⟨μ32, hμ32, h⟩ := bd_some h
          refine r_putI (pc := 79) hX fl_3_82 rfl rfl qx30 trivial hμ32 (dk D_X3_readLine 36 rfl) ?_
          refine r_goto (pc := 82) hX 160 rfl (dk D_X3_readLine 37 rfl) ?_
          cases h
          exact r_return (pc := 160) hX hM ⟨by decide, by decide⟩ (dk D_X3_readLine 72 rfl)
      · rw [if_neg hc] at h
        refine r_aloadn (pc := 41) hX 0 rfl (dk D_X3_readLine 18 rfl) ?_
        obtain ⟨x33, hx33, h⟩ := bd_some h
        refine r_getR (pc := 42) hX fl_3_12 rfl hx33 (dk D_X3_readLine 19 rfl) ?_
        refine r_aloadn (pc := 45) hX 0 rfl (dk D_X3_readLine 20 rfl) ?_
        refine r_iconst (pc := 46) hX (dk D_X3_readLine 21 rfl) ?_
        refine r_sipush (pc := 47) hX rfl (dk D_X3_readLine 22 rfl) ?_
        obtain ⟨_, hi, h⟩ := bd_some h
        obtain ⟨x34, μ35, hx34, h⟩ := bd2_some h
        refine r_invV0 (As := [(0, 1), (0, 360)]) (pc := 50) hX ml_3_75 (L_Rd_expectNumber (R32_lit rfl) (R32_lit rfl) hx34) (isk_u hi) (Rm_of hRm (by decide) ⟨by decide, by decide⟩) (by decide) rfl (Nat.le_of_ble_eq_true rfl) rfl (dk D_X3_readLine 23 rfl) (fun qx34 => ?_)
        obtain ⟨μ36, hμ36, h⟩ := bd_some h
        refine r_putI (pc := 53) hX fl_3_78 rfl rfl qx34 trivial hμ36 (dk D_X3_readLine 24 rfl) ?_
        refine r_goto (pc := 56) hX 160 rfl (dk D_X3_readLine 25 rfl) ?_
        cases h
        exact r_return (pc := 160) hX hM ⟨by decide, by decide⟩ (dk D_X3_readLine 72 rfl)
    · rw [if_neg hc] at h
      refine r_aloadn (pc := 25) hX 0 rfl (dk D_X3_readLine 11 rfl) ?_
      obtain ⟨_, hi, h⟩ := bd_some h
      obtain ⟨x37, μ38, hx37, h⟩ := bd2_some h
      refine r_invV0 (As := []) (pc := 26) hX ml_3_70 (L_Rd_readHome hx37) (isk_u hi) (Rm_of hRm (by decide) ⟨by decide, by decide⟩) (by decide) rfl (Nat.le_of_ble_eq_true rfl) rfl (dk D_X3_readLine 12 rfl) (fun _ => ?_)
      refine r_goto (pc := 29) hX 160 rfl (dk D_X3_readLine 13 rfl) ?_
      cases h
      exact r_return (pc := 160) hX hM ⟨by decide, by decide⟩ (dk D_X3_readLine 72 rfl)
  · rw [if_neg hc] at h
    refine r_aloadn (pc := 9) hX 0 rfl (dk D_X3_readLine 4 rfl) ?_
    obtain ⟨_, hi, h⟩ := bd_some h
    obtain ⟨x39, μ40, hx39, h⟩ := bd2_some h
    refine r_invV0 (As := []) (pc := 10) hX ml_3_65 (L_Rd_readTowns hx39) (isk_u hi) (Rm_of hRm (by decide) ⟨by decide, by decide⟩) (by decide) rfl (Nat.le_of_ble_eq_true rfl) rfl (dk D_X3_readLine 5 rfl) (fun _ => ?_)
    refine r_goto (pc := 13) hX 160 rfl (dk D_X3_readLine 6 rfl) ?_
    cases h
    exact r_return (pc := 160) hX hM ⟨by decide, by decide⟩ (dk D_X3_readLine 72 rfl)
set_option maxRecDepth 100000 in
set_option maxHeartbeats 4000000 in
theorem L_Rd_read_L39 {E : EX} {X : CX} {res : Int} {μe : Mem} (hX : Good E X cX3_read 4 "TollsBack$Reader") (hM : GoodM E X none none μe 0 0) (hRm : cR X = rmOf 9 0 0) : ∀ (n : Nat) (v0 v3 : Int) (μ : Mem) (q_v3 : R32 v3) (h : Rd_read_L39 n v0 v3 μ = some (res, μe)), At E X cX3_read 4 "TollsBack$Reader" (0, 0) 39 [(0, 2, v0), (3, 0, v3)] [] μ := by
  intro n
  induction n with
  | zero =>
    intro v0 v3 μ q_v3 h
    have h : (none : Option (Int × Mem)) = some (res, μe) := h
    cases h
  | succ n ih =>
    intro v0 v3 μ q_v3 h
    rw [Rd_read_L39.eq_2] at h
    refine r_iloadn (pc := 39) hX 1 rfl (dk D_X3_read 23 rfl) ?_
    refine r_aloadn (pc := 40) hX 0 rfl (dk D_X3_read 24 rfl) ?_
    obtain ⟨x1, hx1, h⟩ := bd_some h
    refine r_getI (pc := 41) hX fl_3_28 rfl rfl hx1 (dk D_X3_read 25 rfl) (fun qx1 => ?_)
    refine r_icmp_gt (pc := 44) hX q_v3 qx1 93 rfl (dk D_X3_read 26 rfl) (fun hc => ?_) (fun hc => ?_)
    · rw [if_pos hc] at h
      cases h
      exact r_return (pc := 93) hX hM ⟨by decide, by decide⟩ (dk D_X3_read 49 rfl)
    · rw [if_neg hc] at h
      refine r_aloadn (pc := 47) hX 0 rfl (dk D_X3_read 27 rfl) ?_
      obtain ⟨_, hi, h⟩ := bd_some h
      obtain ⟨x2, μ3, hx2, h⟩ := bd2_some h
      refine r_invV0 (As := []) (pc := 48) hX ml_3_44 (L_Rd_advance hx2) (isk_u hi) (Rm_of hRm (by decide) ⟨by decide, by decide⟩) (by decide) rfl (Nat.le_of_ble_eq_true rfl) rfl (dk D_X3_read 28 rfl) (fun _ => ?_)
      refine r_aloadn (pc := 51) hX 0 rfl (dk D_X3_read 29 rfl) ?_
      obtain ⟨x4, hx4, h⟩ := bd_some h
      refine r_getI (pc := 52) hX fl_3_35 rfl rfl hx4 (dk D_X3_read 30 rfl) (fun qx4 => ?_)
      refine r_if_ne (pc := 55) hX qx4 65 rfl (dk D_X3_read 31 rfl) (fun hc => ?_) (fun hc => ?_)
      · rw [if_neg hc] at h
        cases h
        exact r_return (pc := 65) hX hM ⟨by decide, by decide⟩ (dk D_X3_read 35 rfl)
      · rw [if_pos hc] at h
        refine r_aloadn (pc := 58) hX 0 rfl (dk D_X3_read 32 rfl) ?_
        obtain ⟨x5, hx5, h⟩ := bd_some h
        refine r_getI (pc := 59) hX fl_3_47 rfl rfl hx5 (dk D_X3_read 33 rfl) (fun qx5 => ?_)
        refine r_if_ne (pc := 62) hX qx5 66 rfl (dk D_X3_read 34 rfl) (fun hc => ?_) (fun hc => ?_)
        · rw [if_neg hc] at h
          refine r_aloadn (pc := 66) hX 0 rfl (dk D_X3_read 36 rfl) ?_
          obtain ⟨_, hi, h⟩ := bd_some h
          obtain ⟨x6, μ7, hx6, h⟩ := bd2_some h
          refine r_invV0 (As := []) (pc := 67) hX ml_3_50 (L_Rd_readLine hx6) (isk_u hi) (Rm_of hRm (by decide) ⟨by decide, by decide⟩) (by decide) rfl (Nat.le_of_ble_eq_true rfl) rfl (dk D_X3_read 37 rfl) (fun _ => ?_)
          refine r_aloadn (pc := 70) hX 0 rfl (dk D_X3_read 38 rfl) ?_
          obtain ⟨_, hi, h⟩ := bd_some h
          obtain ⟨x8, μ9, hx8, h⟩ := bd2_some h
          refine r_invV0 (As := []) (pc := 71) hX ml_3_53 (L_Rd_expectSign hx8) (isk_u hi) (Rm_of hRm (by decide) ⟨by decide, by decide⟩) (by decide) rfl (Nat.le_of_ble_eq_true rfl) rfl (dk D_X3_read 39 rfl) (fun _ => ?_)
          refine r_aloadn (pc := 74) hX 0 rfl (dk D_X3_read 40 rfl) ?_
          obtain ⟨x10, hx10, h⟩ := bd_some h
          refine r_getR (pc := 75) hX fl_3_12 rfl hx10 (dk D_X3_read 41 rfl) ?_
          refine r_dup (pc := 78) hX rfl (dk D_X3_read 42 rfl) ?_
          obtain ⟨x11, hx11, h⟩ := bd_some h
          refine r_getI (pc := 79) hX fl_3_56 rfl rfl hx11 (dk D_X3_read 43 rfl) (fun qx11 => ?_)
          refine r_iconst (pc := 82) hX (dk D_X3_read 44 rfl) ?_
          refine r_iadd (pc := 83) hX (dk D_X3_read 45 rfl) ?_
          obtain ⟨μ12, hμ12, h⟩ := bd_some h
          refine r_putI (pc := 84) hX fl_3_56 rfl rfl (R32_w _) trivial hμ12 (dk D_X3_read 46 rfl) ?_
          refine r_iinc (lv' := [(3, 0, (w32 (v3 + 1))), (0, 2, v0)]) (pc := 87) hX 1 rfl (by decide) rfl (dk D_X3_read 47 rfl) ?_
          refine r_goto (pc := 90) hX 39 rfl (dk D_X3_read 48 rfl) ?_
          refine r_sub (lv' := [(0, 2, v0), (3, 0, (w32 (v3 + 1)))]) [1, 0] rfl ?_
          exact ih v0 (w32 (v3 + 1)) μ12 (R32_w _) h
        · rw [if_pos hc] at h
          cases h
          exact r_return (pc := 65) hX hM ⟨by decide, by decide⟩ (dk D_X3_read 35 rfl)
set_option maxRecDepth 100000 in
set_option maxHeartbeats 4000000 in
theorem L_Rd_read {E : EX} {l : Launch} {a0 a1 a2 res : Int} {μ μ' : Mem} (q_a2 : R32 a2) (h : Rd_read a0 a1 a2 μ = some (res, μ')) : Ok E l 9 yX3_read (.code yX3_read cX3_read 4 none) 0 0 [(2, a0), (2, a1), (0, a2)] μ none μ' := by
  refine Ok.of (own := "TollsBack$Reader") [(0, 2, a0), (1, 2, a1), (2, 0, a2)] (by decide +kernel) rfl (Nat.le_of_ble_eq_true rfl) rfl ?_
  intro X hL hRm hin hX hM
  unfold Rd_read at h
  subst hL
  refine r_aloadn (pc := 0) hX 0 rfl (dk D_X3_read 0 rfl) ?_
  refine r_aloadn (pc := 1) hX 1 rfl (dk D_X3_read 1 rfl) ?_
  obtain ⟨μ1, hμ1, h⟩ := bd_some h
  refine r_putR (pc := 2) hX fl_3_18 rfl rfl trivial hμ1 (dk D_X3_read 2 rfl) ?_
  refine r_aloadn (pc := 5) hX 0 rfl (dk D_X3_read 3 rfl) ?_
  refine r_iloadn (pc := 6) hX 2 rfl (dk D_X3_read 4 rfl) ?_
  refine r_aloadn (pc := 7) hX 1 rfl (dk D_X3_read 5 rfl) ?_
  obtain ⟨x2, hx2, h⟩ := bd_some h
  refine r_alen22 (pc := 8) hX hx2 (dk D_X3_read 6 rfl) (fun qx2 => ?_)
  obtain ⟨x3, μ4, hx3, h⟩ := bd2_some h
  refine r_invS0 (As := [(0, a2), (0, x2)]) (pc := 9) hX ml_3_22 (L_J_min q_a2 qx2 hx3) (Rm_of hRm (by decide) ⟨by decide, by decide⟩) (by decide) rfl (Nat.le_of_ble_eq_true rfl) rfl (dk D_X3_read 7 rfl) (fun qx3 => ?_)
  obtain ⟨μ5, hμ5, h⟩ := bd_some h
  refine r_putI (pc := 12) hX fl_3_28 rfl rfl qx3 trivial hμ5 (dk D_X3_read 8 rfl) ?_
  refine r_aloadn (pc := 15) hX 0 rfl (dk D_X3_read 9 rfl) ?_
  refine r_iconst (pc := 16) hX (dk D_X3_read 10 rfl) ?_
  obtain ⟨μ6, hμ6, h⟩ := bd_some h
  refine r_putI (pc := 17) hX fl_3_32 rfl rfl (R32_lit rfl) trivial hμ6 (dk D_X3_read 11 rfl) ?_
  refine r_aloadn (pc := 20) hX 0 rfl (dk D_X3_read 12 rfl) ?_
  refine r_iconst (pc := 21) hX (dk D_X3_read 13 rfl) ?_
  obtain ⟨μ7, hμ7, h⟩ := bd_some h
  refine r_putI (pc := 22) hX fl_3_35 rfl rfl (R32_lit rfl) trivial hμ7 (dk D_X3_read 14 rfl) ?_
  refine r_aloadn (pc := 25) hX 0 rfl (dk D_X3_read 15 rfl) ?_
  refine r_iconst (pc := 26) hX (dk D_X3_read 16 rfl) ?_
  obtain ⟨μ8, hμ8, h⟩ := bd_some h
  refine r_putI (pc := 27) hX fl_3_38 rfl rfl (R32_lit rfl) trivial hμ8 (dk D_X3_read 17 rfl) ?_
  refine r_aloadn (pc := 30) hX 0 rfl (dk D_X3_read 18 rfl) ?_
  obtain ⟨x9, hx9, h⟩ := bd_some h
  refine r_getR (pc := 31) hX fl_3_12 rfl hx9 (dk D_X3_read 19 rfl) ?_
  obtain ⟨_, hi, h⟩ := bd_some h
  obtain ⟨x10, μ11, hx10, h⟩ := bd2_some h
  refine r_invV0 (As := []) (pc := 34) hX ml_3_41 (L_Kg_clear hx10) (isk_u hi) (Rm_of hRm (by decide) ⟨by decide, by decide⟩) (by decide) rfl (Nat.le_of_ble_eq_true rfl) rfl (dk D_X3_read 20 rfl) (fun _ => ?_)
  refine r_iconst (pc := 37) hX (dk D_X3_read 21 rfl) ?_
  refine r_istoren (lv' := [(3, 0, 0), (0, 2, a0), (1, 2, a1), (2, 0, a2)]) (pc := 38) hX (by decide) rfl (dk D_X3_read 22 rfl) ?_
  refine r_sub (lv' := [(0, 2, a0), (3, 0, 0)]) [1, 0] rfl ?_
  refine L_Rd_read_L39 hX hM hRm FU a0 0 μ11 (R32_lit rfl) h
set_option maxRecDepth 100000 in
set_option maxHeartbeats 4000000 in
theorem L_Re_init {E : EX} {l : Launch} {a0 res : Int} {μ μ' : Mem}  (h : Re_init a0 μ = some (res, μ')) : Ok E l 1 yX4_init (.code yX4_init cX4_init 1 none) 0 0 [(2, a0)] μ none μ' := by
  refine Ok.of (own := "TollsBack$Retreat") [(0, 2, a0)] (by decide +kernel) rfl (Nat.le_of_ble_eq_true rfl) rfl ?_
  intro X hL hRm hin hX hM
  unfold Re_init at h
  subst hL
  refine r_aloadn (pc := 0) hX 0 rfl (dk D_X4_init 0 rfl) ?_
  obtain ⟨_, hi, h⟩ := bd_some h
  refine r_objI (pc := 1) hX (isk_nn hi (by decide)) ml_4_1 (Rm_of hRm (by decide) ⟨by decide, by decide⟩) (Nat.le_of_ble_eq_true rfl) (dk D_X4_init 1 rfl) ?_
  cases h
  exact r_return (pc := 4) hX hM ⟨by decide, by decide⟩ (dk D_X4_init 2 rfl)
set_option maxRecDepth 100000 in
set_option maxHeartbeats 4000000 in
theorem L_Re_follow_L40 {E : EX} {X : CX} {res : Int} {μe : Mem} (hX : Good E X cX4_follow 6 "TollsBack$Retreat") (hM : GoodM E X (some .boolean) (some (0, res)) μe 0 0) (hRm : cR X = rmOf 3 0 0) : ∀ (n : Nat) (v0 v1 v2 v3 v4 v5 : Int) (μ : Mem) (q_v4 : R32 v4) (q_v5 : R32 v5) (h : Re_follow_L40 n v0 v1 v2 v3 v4 v5 μ = some (res, μe)), At E X cX4_follow 6 "TollsBack$Retreat" (0, 0) 40 [(0, 2, v0), (1, 2, v1), (2, 2, v2), (3, 2, v3), (4, 0, v4), (5, 0, v5)] [] μ := by
  intro n
  induction n with
  | zero =>
    intro v0 v1 v2 v3 v4 v5 μ q_v4 q_v5 h
    have h : (none : Option (Int × Mem)) = some (res, μe) := h
    cases h
  | succ n ih =>
    intro v0 v1 v2 v3 v4 v5 μ q_v4 q_v5 h
    rw [Re_follow_L40.eq_2] at h
    refine r_iload (pc := 40) hX 5 rfl (dk D_X4_follow 23 rfl) ?_
    refine r_if_lt (pc := 42) hX q_v5 207 rfl (dk D_X4_follow 24 rfl) (fun hc => ?_) (fun hc => ?_)
    · rw [if_pos hc] at h
      refine r_iconst (pc := 207) hX (dk D_X4_follow 114 rfl) ?_
      cases h
      exact r_zreturn (pc := 208) hX (R32_lit rfl) hM (Or.inr rfl) ⟨by decide, by decide⟩ (dk D_X4_follow 115 rfl)
    · rw [if_neg hc] at h
      refine r_aloadn (pc := 45) hX 1 rfl (dk D_X4_follow 25 rfl) ?_
      refine r_aloadn (pc := 46) hX 2 rfl (dk D_X4_follow 26 rfl) ?_
      obtain ⟨x1, hx1, h⟩ := bd_some h
      refine r_getR (pc := 47) hX fl_4_39 rfl hx1 (dk D_X4_follow 27 rfl) ?_
      refine r_iload (pc := 50) hX 5 rfl (dk D_X4_follow 28 rfl) ?_
      obtain ⟨x2, hx2, h⟩ := bd_some h
      refine r_iald (pc := 52) hX q_v5 hx2 (dk D_X4_follow 29 rfl) (fun qx2 => ?_)
      refine r_iconst (pc := 53) hX (dk D_X4_follow 30 rfl) ?_
      refine r_ishr (pc := 54) hX (dk D_X4_follow 31 rfl) ?_
      obtain ⟨_, hi, h⟩ := bd_some h
      obtain ⟨x3, μ4, hx3, h⟩ := bd2_some h
      refine r_invV0 (As := [(0, (shr32 x2 1))]) (pc := 55) hX ml_4_43 (L_Wo_isOpen (R32_t _) hx3) (isk_u hi) (Rm_of hRm (by decide) ⟨by decide, by decide⟩) (by decide) rfl (Nat.le_of_ble_eq_true rfl) rfl (dk D_X4_follow 32 rfl) (fun qx3 => ?_)
      refine r_if_eq (pc := 58) hX qx3 77 rfl (dk D_X4_follow 33 rfl) (fun hc => ?_) (fun hc => ?_)
      · rw [if_pos hc] at h
        refine r_iconst (pc := 77) hX (dk D_X4_follow 42 rfl) ?_
        cases h
        exact r_zreturn (pc := 78) hX (R32_lit rfl) hM (Or.inl rfl) ⟨by decide, by decide⟩ (dk D_X4_follow 43 rfl)
      · rw [if_neg hc] at h
        refine r_aloadn (pc := 61) hX 3 rfl (dk D_X4_follow 34 rfl) ?_
        refine r_aloadn (pc := 62) hX 2 rfl (dk D_X4_follow 35 rfl) ?_
        obtain ⟨x5, hx5, h⟩ := bd_some h
        refine r_getR (pc := 63) hX fl_4_39 rfl hx5 (dk D_X4_follow 36 rfl) ?_
        refine r_iload (pc := 66) hX 5 rfl (dk D_X4_follow 37 rfl) ?_
        obtain ⟨x6, hx6, h⟩ := bd_some h
        refine r_iald (pc := 68) hX q_v5 hx6 (dk D_X4_follow 38 rfl) (fun qx6 => ?_)
        obtain ⟨_, hi, h⟩ := bd_some h
        obtain ⟨x7, μ8, hx7, h⟩ := bd2_some h
        refine r_invV0 (As := [(0, x6)]) (pc := 69) hX ml_4_47 (L_Kg_endOf qx6 hx7) (isk_u hi) (Rm_of hRm (by decide) ⟨by decide, by decide⟩) (by decide) rfl (Nat.le_of_ble_eq_true rfl) rfl (dk D_X4_follow 39 rfl) (fun qx7 => ?_)
        refine r_iload (pc := 72) hX 4 rfl (dk D_X4_follow 40 rfl) ?_
        refine r_icmp_eq (pc := 74) hX qx7 q_v4 79 rfl (dk D_X4_follow 41 rfl) (fun hc => ?_) (fun hc => ?_)
        · rw [if_pos hc] at h
          refine r_aloadn (pc := 79) hX 0 rfl (dk D_X4_follow 44 rfl) ?_
          refine r_dup (pc := 80) hX rfl (dk D_X4_follow 45 rfl) ?_
          obtain ⟨x9, hx9, h⟩ := bd_some h
          refine r_getI (pc := 81) hX fl_4_19 rfl rfl hx9 (dk D_X4_follow 46 rfl) (fun qx9 => ?_)
          refine r_aloadn (pc := 84) hX 3 rfl (dk D_X4_follow 47 rfl) ?_
          refine r_aloadn (pc := 85) hX 2 rfl (dk D_X4_follow 48 rfl) ?_
          refine r_iload (pc := 86) hX 5 rfl (dk D_X4_follow 49 rfl) ?_
          refine r_aloadn (pc := 88) hX 2 rfl (dk D_X4_follow 50 rfl) ?_
          obtain ⟨x10, hx10, h⟩ := bd_some h
          refine r_getI (pc := 89) hX fl_4_53 rfl rfl hx10 (dk D_X4_follow 51 rfl) (fun qx10 => ?_)
          refine r_aloadn (pc := 92) hX 0 rfl (dk D_X4_follow 52 rfl) ?_
          obtain ⟨x11, hx11, h⟩ := bd_some h
          refine r_getI (pc := 93) hX fl_4_24 rfl rfl hx11 (dk D_X4_follow 53 rfl) (fun qx11 => ?_)
          refine r_iadd (pc := 96) hX (dk D_X4_follow 54 rfl) ?_
          obtain ⟨_, hi, h⟩ := bd_some h
          obtain ⟨x12, μ13, hx12, h⟩ := bd2_some h
          refine r_invV0 (As := [(2, v2), (0, v5), (0, (w32 (x10 + x11)))]) (pc := 97) hX ml_4_56 (L_Kg_worthOn q_v5 (R32_w _) hx12) (isk_u hi) (Rm_of hRm (by decide) ⟨by decide, by decide⟩) (by decide) rfl (Nat.le_of_ble_eq_true rfl) rfl (dk D_X4_follow 55 rfl) (fun qx12 => ?_)
          refine r_iadd (pc := 100) hX (dk D_X4_follow 56 rfl) ?_
          obtain ⟨μ14, hμ14, h⟩ := bd_some h
          refine r_putI (pc := 101) hX fl_4_19 rfl rfl (R32_w _) trivial hμ14 (dk D_X4_follow 57 rfl) ?_
          refine r_aloadn (pc := 104) hX 0 rfl (dk D_X4_follow 58 rfl) ?_
          refine r_dup (pc := 105) hX rfl (dk D_X4_follow 59 rfl) ?_
          obtain ⟨x15, hx15, h⟩ := bd_some h
          refine r_getI (pc := 106) hX fl_4_27 rfl rfl hx15 (dk D_X4_follow 60 rfl) (fun qx15 => ?_)
          refine r_aloadn (pc := 109) hX 3 rfl (dk D_X4_follow 61 rfl) ?_
          refine r_aloadn (pc := 110) hX 2 rfl (dk D_X4_follow 62 rfl) ?_
          refine r_iload (pc := 111) hX 5 rfl (dk D_X4_follow 63 rfl) ?_
          refine r_aloadn (pc := 113) hX 2 rfl (dk D_X4_follow 64 rfl) ?_
          obtain ⟨x16, hx16, h⟩ := bd_some h
          refine r_getI (pc := 114) hX fl_4_53 rfl rfl hx16 (dk D_X4_follow 65 rfl) (fun qx16 => ?_)
          refine r_aloadn (pc := 117) hX 0 rfl (dk D_X4_follow 66 rfl) ?_
          obtain ⟨x17, hx17, h⟩ := bd_some h
          refine r_getI (pc := 118) hX fl_4_24 rfl rfl hx17 (dk D_X4_follow 67 rfl) (fun qx17 => ?_)
          refine r_iadd (pc := 121) hX (dk D_X4_follow 68 rfl) ?_
          obtain ⟨_, hi, h⟩ := bd_some h
          obtain ⟨x18, μ19, hx18, h⟩ := bd2_some h
          refine r_invV0 (As := [(2, v2), (0, v5), (0, (w32 (x16 + x17)))]) (pc := 122) hX ml_4_60 (L_Kg_isLate q_v5 (R32_w _) hx18) (isk_u hi) (Rm_of hRm (by decide) ⟨by decide, by decide⟩) (by decide) rfl (Nat.le_of_ble_eq_true rfl) rfl (dk D_X4_follow 69 rfl) (fun qx18 => ?_)
          obtain ⟨y20, hb, h⟩ := bd_some h
          have hj : R32 y20 → At E X cX4_follow 6 "TollsBack$Retreat" (0, 0) 133 [(0, 2, v0), (1, 2, v1), (2, 2, v2), (3, 2, v3), (5, 0, v5)] [(0, y20), (0, x15), (2, v0)] μ19 := by
            intro qy20
            clear hb
            refine r_iadd (pc := 133) hX (dk D_X4_follow 74 rfl) ?_
            obtain ⟨μ21, hμ21, h⟩ := bd_some h
            refine r_putI (pc := 134) hX fl_4_27 rfl rfl (R32_w _) trivial hμ21 (dk D_X4_follow 75 rfl) ?_
            refine r_aloadn (pc := 137) hX 0 rfl (dk D_X4_follow 76 rfl) ?_
            refine r_aloadn (pc := 138) hX 0 rfl (dk D_X4_follow 77 rfl) ?_
            obtain ⟨x22, hx22, h⟩ := bd_some h
            refine r_getI (pc := 139) hX fl_4_33 rfl rfl hx22 (dk D_X4_follow 78 rfl) (fun qx22 => ?_)
            refine r_aloadn (pc := 142) hX 2 rfl (dk D_X4_follow 79 rfl) ?_
            obtain ⟨x23, hx23, h⟩ := bd_some h
            refine r_getR (pc := 143) hX fl_4_64 rfl hx23 (dk D_X4_follow 80 rfl) ?_
            refine r_iload (pc := 146) hX 4 rfl (dk D_X4_follow 81 rfl) ?_
            obtain ⟨x24, hx24, h⟩ := bd_some h
            refine r_iald (pc := 148) hX q_v5 hx24 (dk D_X4_follow 82 rfl) (fun qx24 => ?_)
            refine r_aloadn (pc := 149) hX 3 rfl (dk D_X4_follow 83 rfl) ?_
            obtain ⟨x25, hx25, h⟩ := bd_some h
            refine r_getI (pc := 150) hX fl_4_67 rfl rfl hx25 (dk D_X4_follow 84 rfl) (fun qx25 => ?_)
            refine r_iadd (pc := 153) hX (dk D_X4_follow 85 rfl) ?_
            refine r_aloadn (pc := 154) hX 0 rfl (dk D_X4_follow 86 rfl) ?_
            obtain ⟨x26, hx26, h⟩ := bd_some h
            refine r_getI (pc := 155) hX fl_4_24 rfl rfl hx26 (dk D_X4_follow 87 rfl) (fun qx26 => ?_)
            refine r_isub (pc := 158) hX (dk D_X4_follow 88 rfl) ?_
            obtain ⟨x27, μ28, hx27, h⟩ := bd2_some h
            refine r_invS0 (As := [(0, x22), (0, (w32 ((w32 (x24 + x25)) - x26)))]) (pc := 159) hX ml_4_70 (L_J_min qx22 (R32_w _) hx27) (Rm_of hRm (by decide) ⟨by decide, by decide⟩) (by decide) rfl (Nat.le_of_ble_eq_true rfl) rfl (dk D_X4_follow 89 rfl) (fun qx27 => ?_)
            obtain ⟨μ29, hμ29, h⟩ := bd_some h
            refine r_putI (pc := 162) hX fl_4_33 rfl rfl qx27 trivial hμ29 (dk D_X4_follow 90 rfl) ?_
            refine r_aloadn (pc := 165) hX 0 rfl (dk D_X4_follow 91 rfl) ?_
            refine r_dup (pc := 166) hX rfl (dk D_X4_follow 92 rfl) ?_
            obtain ⟨x30, hx30, h⟩ := bd_some h
            refine r_getI (pc := 167) hX fl_4_24 rfl rfl hx30 (dk D_X4_follow 93 rfl) (fun qx30 => ?_)
            refine r_aloadn (pc := 170) hX 3 rfl (dk D_X4_follow 94 rfl) ?_
            obtain ⟨x31, hx31, h⟩ := bd_some h
            refine r_getR (pc := 171) hX fl_4_76 rfl hx31 (dk D_X4_follow 95 rfl) ?_
            refine r_aloadn (pc := 174) hX 2 rfl (dk D_X4_follow 96 rfl) ?_
            obtain ⟨x32, hx32, h⟩ := bd_some h
            refine r_getR (pc := 175) hX fl_4_39 rfl hx32 (dk D_X4_follow 97 rfl) ?_
            refine r_iload (pc := 178) hX 4 rfl (dk D_X4_follow 98 rfl) ?_
            obtain ⟨x33, hx33, h⟩ := bd_some h
            refine r_iald (pc := 180) hX q_v5 hx33 (dk D_X4_follow 99 rfl) (fun qx33 => ?_)
            refine r_iconst (pc := 181) hX (dk D_X4_follow 100 rfl) ?_
            refine r_ishr (pc := 182) hX (dk D_X4_follow 101 rfl) ?_
            obtain ⟨x34, hx34, h⟩ := bd_some h
            refine r_iald (pc := 183) hX (R32_t _) hx34 (dk D_X4_follow 102 rfl) (fun qx34 => ?_)
            refine r_iadd (pc := 184) hX (dk D_X4_follow 103 rfl) ?_
            obtain ⟨μ35, hμ35, h⟩ := bd_some h
            refine r_putI (pc := 185) hX fl_4_24 rfl rfl (R32_w _) trivial hμ35 (dk D_X4_follow 104 rfl) ?_
            refine r_aloadn (pc := 188) hX 3 rfl (dk D_X4_follow 105 rfl) ?_
            refine r_aloadn (pc := 189) hX 2 rfl (dk D_X4_follow 106 rfl) ?_
            obtain ⟨x36, hx36, h⟩ := bd_some h
            refine r_getR (pc := 190) hX fl_4_39 rfl hx36 (dk D_X4_follow 107 rfl) ?_
            refine r_iload (pc := 193) hX 4 rfl (dk D_X4_follow 108 rfl) ?_
            obtain ⟨x37, hx37, h⟩ := bd_some h
            refine r_iald (pc := 195) hX q_v5 hx37 (dk D_X4_follow 109 rfl) (fun qx37 => ?_)
            obtain ⟨_, hi, h⟩ := bd_some h
            obtain ⟨x38, μ39, hx38, h⟩ := bd2_some h
            refine r_invV0 (As := [(0, x37)]) (pc := 196) hX ml_4_78 (L_Kg_startOf qx37 hx38) (isk_u hi) (Rm_of hRm (by decide) ⟨by decide, by decide⟩) (by decide) rfl (Nat.le_of_ble_eq_true rfl) rfl (dk D_X4_follow 110 rfl) (fun qx38 => ?_)
            refine r_istore (lv' := [(4, 0, x38), (0, 2, v0), (1, 2, v1), (2, 2, v2), (3, 2, v3), (5, 0, v5)]) (pc := 199) hX (by decide) rfl (dk D_X4_follow 111 rfl) ?_
            refine r_iinc (lv' := [(5, 0, (w32 (v5 + (-1)))), (4, 0, x38), (0, 2, v0), (1, 2, v1), (2, 2, v2), (3, 2, v3)]) (pc := 201) hX 5 rfl (by decide) rfl (dk D_X4_follow 112 rfl) ?_
            refine r_goto (pc := 204) hX 40 rfl (dk D_X4_follow 113 rfl) ?_
            refine r_sub (lv' := [(0, 2, v0), (1, 2, v1), (2, 2, v2), (3, 2, v3), (4, 0, x38), (5, 0, (w32 (v5 + (-1))))]) [2, 3, 4, 5, 1, 0] rfl ?_
            exact ih v0 v1 v2 v3 x38 (w32 (v5 + (-1))) μ39 qx38 (R32_w _) h
          clear h
          have h := hb
          clear hb
          refine r_if_eq (pc := 125) hX qx18 132 rfl (dk D_X4_follow 70 rfl) (fun hc => ?_) (fun hc => ?_)
          · rw [if_pos hc] at h
            refine r_iconst (pc := 132) hX (dk D_X4_follow 73 rfl) ?_
            replace h := Option.some.inj h
            subst y20
            refine r_sub (lv' := [(0, 2, v0), (1, 2, v1), (2, 2, v2), (3, 2, v3), (5, 0, v5)]) [0, 1, 2, 3, 5] rfl ?_
            exact hj (R32_lit rfl)
          · rw [if_neg hc] at h
            refine r_iconst (pc := 128) hX (dk D_X4_follow 71 rfl) ?_
            refine r_goto (pc := 129) hX 133 rfl (dk D_X4_follow 72 rfl) ?_
            replace h := Option.some.inj h
            subst y20
            refine r_sub (lv' := [(0, 2, v0), (1, 2, v1), (2, 2, v2), (3, 2, v3), (5, 0, v5)]) [0, 1, 2, 3, 5] rfl ?_
            exact hj (R32_lit rfl)
        · rw [if_neg hc] at h
          refine r_iconst (pc := 77) hX (dk D_X4_follow 42 rfl) ?_
          cases h
          exact r_zreturn (pc := 78) hX (R32_lit rfl) hM (Or.inl rfl) ⟨by decide, by decide⟩ (dk D_X4_follow 43 rfl)
set_option maxRecDepth 100000 in
set_option maxHeartbeats 4000000 in
theorem L_Re_follow {E : EX} {l : Launch} {a0 a1 a2 res : Int} {μ μ' : Mem}  (h : Re_follow a0 a1 a2 μ = some (res, μ')) : Ok E l 3 yX4_follow (.code yX4_follow cX4_follow 6 (some .boolean)) 0 0 [(2, a0), (2, a1), (2, a2)] μ (some (0, res)) μ' := by
  refine Ok.of (own := "TollsBack$Retreat") [(0, 2, a0), (1, 2, a1), (2, 2, a2)] (by decide +kernel) rfl (Nat.le_of_ble_eq_true rfl) rfl ?_
  intro X hL hRm hin hX hM
  unfold Re_follow at h
  subst hL
  refine r_aloadn (pc := 0) hX 1 rfl (dk D_X4_follow 0 rfl) ?_
  obtain ⟨x1, hx1, h⟩ := bd_some h
  refine r_getR (pc := 1) hX fl_4_7 rfl hx1 (dk D_X4_follow 1 rfl) ?_
  refine r_astoren (lv' := [(3, 2, x1), (0, 2, a0), (1, 2, a1), (2, 2, a2)]) (pc := 4) hX (by decide) rfl (dk D_X4_follow 2 rfl) ?_
  refine r_aloadn (pc := 5) hX 3 rfl (dk D_X4_follow 3 rfl) ?_
  obtain ⟨x2, hx2, h⟩ := bd_some h
  refine r_getI (pc := 6) hX fl_4_13 rfl rfl hx2 (dk D_X4_follow 4 rfl) (fun qx2 => ?_)
  refine r_istore (lv' := [(4, 0, x2), (3, 2, x1), (0, 2, a0), (1, 2, a1), (2, 2, a2)]) (pc := 9) hX (by decide) rfl (dk D_X4_follow 5 rfl) ?_
  refine r_aloadn (pc := 11) hX 2 rfl (dk D_X4_follow 6 rfl) ?_
  refine r_iconst (pc := 12) hX (dk D_X4_follow 7 rfl) ?_
  obtain ⟨μ3, hμ3, h⟩ := bd_some h
  refine r_putI (pc := 13) hX fl_4_19 rfl rfl (R32_lit rfl) trivial hμ3 (dk D_X4_follow 8 rfl) ?_
  refine r_aloadn (pc := 16) hX 2 rfl (dk D_X4_follow 9 rfl) ?_
  refine r_iconst (pc := 17) hX (dk D_X4_follow 10 rfl) ?_
  obtain ⟨μ4, hμ4, h⟩ := bd_some h
  refine r_putI (pc := 18) hX fl_4_24 rfl rfl (R32_lit rfl) trivial hμ4 (dk D_X4_follow 11 rfl) ?_
  refine r_aloadn (pc := 21) hX 2 rfl (dk D_X4_follow 12 rfl) ?_
  refine r_iconst (pc := 22) hX (dk D_X4_follow 13 rfl) ?_
  obtain ⟨μ5, hμ5, h⟩ := bd_some h
  refine r_putI (pc := 23) hX fl_4_27 rfl rfl (R32_lit rfl) trivial hμ5 (dk D_X4_follow 14 rfl) ?_
  refine r_aloadn (pc := 26) hX 2 rfl (dk D_X4_follow 15 rfl) ?_
  refine r_ldc (pc := 27) hX cn_4_32 (dk D_X4_follow 16 rfl) ?_
  obtain ⟨μ6, hμ6, h⟩ := bd_some h
  refine r_putI (pc := 29) hX fl_4_33 rfl rfl (R32_lit rfl) trivial hμ6 (dk D_X4_follow 17 rfl) ?_
  refine r_aloadn (pc := 32) hX 4 rfl (dk D_X4_follow 18 rfl) ?_
  obtain ⟨x7, hx7, h⟩ := bd_some h
  refine r_getI (pc := 33) hX fl_4_36 rfl rfl hx7 (dk D_X4_follow 19 rfl) (fun qx7 => ?_)
  refine r_iconst (pc := 36) hX (dk D_X4_follow 20 rfl) ?_
  refine r_isub (pc := 37) hX (dk D_X4_follow 21 rfl) ?_
  obtain ⟨x8, ex8, h⟩ := bd_some h
  replace ex8 := Option.some.inj ex8
  have qx8 : R32 x8 := ex8 ▸ (R32_w _)
  rw [ex8]
  refine r_istore (lv' := [(5, 0, x8), (4, 0, x2), (3, 2, x1), (0, 2, a0), (1, 2, a1), (2, 2, a2)]) (pc := 38) hX (by decide) rfl (dk D_X4_follow 22 rfl) ?_
  refine r_sub (lv' := [(0, 2, a0), (1, 2, a1), (2, 2, a2), (3, 2, x1), (4, 0, x2), (5, 0, x8)]) [3, 4, 5, 2, 1, 0] rfl ?_
  refine L_Re_follow_L40 hX hM hRm FU a0 a1 a2 x1 x2 x8 μ6 qx2 qx8 h
set_option maxRecDepth 100000 in
set_option maxHeartbeats 4000000 in
theorem L_Tr_init {E : EX} {l : Launch} {a0 res : Int} {μ μ' : Mem}  (h : Tr_init a0 μ = some (res, μ')) : Ok E l 1 yX6_init (.code yX6_init cX6_init 1 none) 3 120 [(2, a0)] μ none μ' := by
  refine Ok.of (own := "TollsBack$Traveller") [(0, 2, a0)] (by decide +kernel) rfl (Nat.le_of_ble_eq_true rfl) rfl ?_
  intro X hL hRm hin hX hM
  unfold Tr_init at h
  subst hL
  refine r_aloadn (pc := 0) (cs := (0, 0)) hX 0 rfl (dk D_X6_init 0 rfl) ?_
  obtain ⟨_, hi, h⟩ := bd_some h
  refine r_objI (pc := 1) (cs := (0, 0)) hX (isk_nn hi (by decide)) ml_6_3 (Rm_of hRm (by decide) ⟨by (try dsimp only); omega, by (try dsimp only); omega⟩) (Nat.le_of_ble_eq_true rfl) (dk D_X6_init 1 rfl) ?_
  refine r_aloadn (pc := 4) (cs := (0, 0)) hX 0 rfl (dk D_X6_init 2 rfl) ?_
  refine r_bipush (pc := 5) (cs := (0, 0)) hX rfl (dk D_X6_init 3 rfl) ?_
  refine r_newI (N := 40) (pc := 7) (cs := (0, 0)) hX ac_int (by decide) (by rw [hRm]; exact ⟨by (show _ ≤ (rmOf _ _ _).cells); (simp only [rmOf]); omega, by (show _ ≤ (rmOf _ _ _).slots); (simp only [rmOf]); omega⟩) (dk D_X6_init 4 rfl) ?_
  obtain ⟨μ1, hμ1, h⟩ := bd_some h
  refine r_putR (pc := 9) (cs := (1, 40)) hX fl_6_9 rfl rfl trivial hμ1 (dk D_X6_init 5 rfl) ?_
  refine r_aloadn (pc := 12) (cs := (1, 40)) hX 0 rfl (dk D_X6_init 6 rfl) ?_
  refine r_bipush (pc := 13) (cs := (1, 40)) hX rfl (dk D_X6_init 7 rfl) ?_
  refine r_newI (N := 40) (pc := 15) (cs := (1, 40)) hX ac_int (by decide) (by rw [hRm]; exact ⟨by (show _ ≤ (rmOf _ _ _).cells); (simp only [rmOf]); omega, by (show _ ≤ (rmOf _ _ _).slots); (simp only [rmOf]); omega⟩) (dk D_X6_init 8 rfl) ?_
  obtain ⟨μ2, hμ2, h⟩ := bd_some h
  refine r_putR (pc := 17) (cs := (2, 80)) hX fl_6_15 rfl rfl trivial hμ2 (dk D_X6_init 9 rfl) ?_
  refine r_aloadn (pc := 20) (cs := (2, 80)) hX 0 rfl (dk D_X6_init 10 rfl) ?_
  refine r_bipush (pc := 21) (cs := (2, 80)) hX rfl (dk D_X6_init 11 rfl) ?_
  refine r_newI (N := 40) (pc := 23) (cs := (2, 80)) hX ac_int (by decide) (by rw [hRm]; exact ⟨by (show _ ≤ (rmOf _ _ _).cells); (simp only [rmOf]); omega, by (show _ ≤ (rmOf _ _ _).slots); (simp only [rmOf]); omega⟩) (dk D_X6_init 12 rfl) ?_
  obtain ⟨μ3, hμ3, h⟩ := bd_some h
  refine r_putR (pc := 25) (cs := (3, 120)) hX fl_6_18 rfl rfl trivial hμ3 (dk D_X6_init 13 rfl) ?_
  cases h
  exact r_return (pc := 28) hX hM ⟨by (try dsimp only); omega, by (try dsimp only); omega⟩ (dk D_X6_init 14 rfl)
set_option maxRecDepth 100000 in
set_option maxHeartbeats 4000000 in
theorem L_To_init {E : EX} {l : Launch} {a0 res : Int} {μ μ' : Mem}  (h : To_init a0 μ = some (res, μ')) : Ok E l 2 yX5_init (.code yX5_init cX5_init 1 none) 16 221 [(2, a0)] μ none μ' := by
  refine Ok.of (own := "TollsBack$Tour") [(0, 2, a0)] (by decide +kernel) rfl (Nat.le_of_ble_eq_true rfl) rfl ?_
  intro X hL hRm hin hX hM
  unfold To_init at h
  subst hL
  refine r_aloadn (pc := 0) (cs := (0, 0)) hX 0 rfl (dk D_X5_init 0 rfl) ?_
  obtain ⟨_, hi, h⟩ := bd_some h
  refine r_objI (pc := 1) (cs := (0, 0)) hX (isk_nn hi (by decide)) ml_5_3 (Rm_of hRm (by decide) ⟨by (try dsimp only); omega, by (try dsimp only); omega⟩) (Nat.le_of_ble_eq_true rfl) (dk D_X5_init 1 rfl) ?_
  refine r_aloadn (pc := 4) (cs := (0, 0)) hX 0 rfl (dk D_X5_init 2 rfl) ?_
  refine r_bipush (pc := 5) (cs := (0, 0)) hX rfl (dk D_X5_init 3 rfl) ?_
  refine r_newI (N := 8) (pc := 7) (cs := (0, 0)) hX ac_int (by decide) (by rw [hRm]; exact ⟨by (show _ ≤ (rmOf _ _ _).cells); (simp only [rmOf]); omega, by (show _ ≤ (rmOf _ _ _).slots); (simp only [rmOf]); omega⟩) (dk D_X5_init 4 rfl) ?_
  obtain ⟨μ1, hμ1, h⟩ := bd_some h
  refine r_putF (pc := 9) (cs := (1, 8)) hX fl_5_9 (hin rfl) ⟨_, _, _, rfl, rfl⟩ rfl rfl trivial hμ1 (dk D_X5_init 5 rfl) ?_
  refine r_aloadn (pc := 12) (cs := (1, 8)) hX 0 rfl (dk D_X5_init 6 rfl) ?_
  refine r_bipush (pc := 13) (cs := (1, 8)) hX rfl (dk D_X5_init 7 rfl) ?_
  refine r_newI (N := 8) (pc := 15) (cs := (1, 8)) hX ac_int (by decide) (by rw [hRm]; exact ⟨by (show _ ≤ (rmOf _ _ _).cells); (simp only [rmOf]); omega, by (show _ ≤ (rmOf _ _ _).slots); (simp only [rmOf]); omega⟩) (dk D_X5_init 8 rfl) ?_
  obtain ⟨μ2, hμ2, h⟩ := bd_some h
  refine r_putF (pc := 17) (cs := (2, 16)) hX fl_5_15 (hin rfl) ⟨_, _, _, rfl, rfl⟩ rfl rfl trivial hμ2 (dk D_X5_init 9 rfl) ?_
  refine r_aloadn (pc := 20) (cs := (2, 16)) hX 0 rfl (dk D_X5_init 10 rfl) ?_
  refine r_bipush (pc := 21) (cs := (2, 16)) hX rfl (dk D_X5_init 11 rfl) ?_
  refine r_newI (N := 12) (pc := 23) (cs := (2, 16)) hX ac_int (by decide) (by rw [hRm]; exact ⟨by (show _ ≤ (rmOf _ _ _).cells); (simp only [rmOf]); omega, by (show _ ≤ (rmOf _ _ _).slots); (simp only [rmOf]); omega⟩) (dk D_X5_init 12 rfl) ?_
  obtain ⟨μ3, hμ3, h⟩ := bd_some h
  refine r_putF (pc := 25) (cs := (3, 28)) hX fl_5_18 (hin rfl) ⟨_, _, _, rfl, rfl⟩ rfl rfl trivial hμ3 (dk D_X5_init 13 rfl) ?_
  refine r_aloadn (pc := 28) (cs := (3, 28)) hX 0 rfl (dk D_X5_init 14 rfl) ?_
  refine r_bipush (pc := 29) (cs := (3, 28)) hX rfl (dk D_X5_init 15 rfl) ?_
  refine r_bipush (pc := 31) (cs := (3, 28)) hX rfl (dk D_X5_init 16 rfl) ?_
  refine r_mna (N := 8) (K := 7) (pc := 33) (cs := (3, 28)) hX mna_w (by decide) (by decide) (by rw [hRm]; exact ⟨by (show _ ≤ (rmOf _ _ _).cells); (simp only [rmOf]); omega, by (show _ ≤ (rmOf _ _ _).slots); (simp only [rmOf]); omega⟩) (dk D_X5_init 17 rfl) ?_
  obtain ⟨μ4, hμ4, h⟩ := bd_some h
  refine r_putF (pc := 37) (cs := (12, 92)) hX fl_5_25 (hin rfl) ⟨_, _, _, rfl, rfl⟩ rfl rfl trivial hμ4 (dk D_X5_init 18 rfl) ?_
  refine r_aloadn (pc := 40) (cs := (12, 92)) hX 0 rfl (dk D_X5_init 19 rfl) ?_
  refine r_new (pc := 41) (cs := (12, 92)) hX nw_5_21 (by rw [hRm]; exact ⟨by (show _ ≤ (rmOf _ _ _).cells); (simp only [rmOf]); omega, by (show _ ≤ (rmOf _ _ _).slots); (simp only [rmOf]); omega⟩) (dk D_X5_init 20 rfl) ?_
  refine r_dup (pc := 44) (cs := (13, 101)) hX rfl (dk D_X5_init 21 rfl) ?_
  obtain ⟨x5, μ6, hx5, h⟩ := bd2_some h
  refine r_invIN (As := []) (pc := 45) (cs := (13, 101)) hX ml_5_28 (L_Tr_init hx5) nlen_nn (Rm_of hRm (by decide) ⟨by (try dsimp only); omega, by (try dsimp only); omega⟩) (by decide) rfl (Nat.le_of_ble_eq_true rfl) rfl (dk D_X5_init 22 rfl) ?_
  obtain ⟨μ7, hμ7, h⟩ := bd_some h
  refine r_putF (pc := 48) (cs := (16, 221)) hX fl_5_29 (hin rfl) ⟨_, _, _, rfl, rfl⟩ rfl rfl trivial hμ7 (dk D_X5_init 23 rfl) ?_
  cases h
  exact r_return (pc := 51) hX hM ⟨by (try dsimp only); omega, by (try dsimp only); omega⟩ (dk D_X5_init 24 rfl)
set_option maxRecDepth 100000 in
set_option maxHeartbeats 4000000 in
theorem L_Wo_openRoadsAt_L4 {E : EX} {X : CX} {res : Int} {μe : Mem} (hX : Good E X cX10_openRoadsAt 4 "TollsBack$World") (hM : GoodM E X (some .int) (some (0, res)) μe 0 0) (hRm : cR X = rmOf 2 0 0) : ∀ (n : Nat) (v0 v1 v2 v3 : Int) (μ : Mem) (q_v1 : R32 v1) (q_v2 : R32 v2) (q_v3 : R32 v3) (h : Wo_openRoadsAt_L4 n v0 v1 v2 v3 μ = some (res, μe)), At E X cX10_openRoadsAt 4 "TollsBack$World" (0, 0) 4 [(0, 2, v0), (1, 0, v1), (2, 0, v2), (3, 0, v3)] [] μ := by
  intro n
  induction n with
  | zero =>
    intro v0 v1 v2 v3 μ q_v1 q_v2 q_v3 h
    have h : (none : Option (Int × Mem)) = some (res, μe) := h
    cases h
  | succ n ih =>
    intro v0 v1 v2 v3 μ q_v1 q_v2 q_v3 h
    rw [Wo_openRoadsAt_L4.eq_2] at h
    refine r_iloadn (pc := 4) hX 3 rfl (dk D_X10_openRoadsAt 4 rfl) ?_
    refine r_aloadn (pc := 5) hX 0 rfl (dk D_X10_openRoadsAt 5 rfl) ?_
    obtain ⟨x1, hx1, h⟩ := bd_some h
    refine r_getR (pc := 6) hX fl_10_12 rfl hx1 (dk D_X10_openRoadsAt 6 rfl) ?_
    obtain ⟨x2, hx2, h⟩ := bd_some h
    refine r_getI (pc := 9) hX fl_10_69 rfl rfl hx2 (dk D_X10_openRoadsAt 7 rfl) (fun qx2 => ?_)
    refine r_icmp_ge (pc := 12) hX q_v3 qx2 47 rfl (dk D_X10_openRoadsAt 8 rfl) (fun hc => ?_) (fun hc => ?_)
    · rw [if_neg hc] at h
      refine r_iloadn (pc := 47) hX 2 rfl (dk D_X10_openRoadsAt 27 rfl) ?_
      cases h
      exact r_ireturn (pc := 48) hX q_v2 hM ⟨by decide, by decide⟩ (dk D_X10_openRoadsAt 28 rfl)
    · rw [if_pos hc] at h
      refine r_aloadn (pc := 15) hX 0 rfl (dk D_X10_openRoadsAt 9 rfl) ?_
      refine r_iloadn (pc := 16) hX 3 rfl (dk D_X10_openRoadsAt 10 rfl) ?_
      obtain ⟨_, hi, h⟩ := bd_some h
      obtain ⟨x3, μ4, hx3, h⟩ := bd2_some h
      refine r_invV0 (As := [(0, v3)]) (pc := 17) hX ml_10_72 (L_Wo_isOpen q_v3 hx3) (isk_u hi) (Rm_of hRm (by decide) ⟨by decide, by decide⟩) (by decide) rfl (Nat.le_of_ble_eq_true rfl) rfl (dk D_X10_openRoadsAt 11 rfl) (fun qx3 => ?_)
      refine r_if_eq (pc := 20) hX qx3 41 rfl (dk D_X10_openRoadsAt 12 rfl) (fun hc => ?_) (fun hc => ?_)
      · rw [if_pos hc] at h
        refine r_iinc (lv' := [(3, 0, (w32 (v3 + 1))), (0, 2, v0), (1, 0, v1), (2, 0, v2)]) (pc := 41) hX 3 rfl (by decide) rfl (dk D_X10_openRoadsAt 25 rfl) ?_
        refine r_goto (pc := 44) hX 4 rfl (dk D_X10_openRoadsAt 26 rfl) ?_
        refine r_sub (lv' := [(0, 2, v0), (1, 0, v1), (2, 0, v2), (3, 0, (w32 (v3 + 1)))]) [1, 2, 3, 0] rfl ?_
        exact ih v0 v1 v2 (w32 (v3 + 1)) μ4 q_v1 q_v2 (R32_w _) h
      · rw [if_neg hc] at h
        refine r_aloadn (pc := 23) hX 0 rfl (dk D_X10_openRoadsAt 13 rfl) ?_
        obtain ⟨x5, hx5, h⟩ := bd_some h
        refine r_getR (pc := 24) hX fl_10_12 rfl hx5 (dk D_X10_openRoadsAt 14 rfl) ?_
        refine r_iloadn (pc := 27) hX 3 rfl (dk D_X10_openRoadsAt 15 rfl) ?_
        refine r_iloadn (pc := 28) hX 1 rfl (dk D_X10_openRoadsAt 16 rfl) ?_
        obtain ⟨_, hi, h⟩ := bd_some h
        obtain ⟨x6, μ7, hx6, h⟩ := bd2_some h
        refine r_invV0 (As := [(0, v3), (0, v1)]) (pc := 29) hX ml_10_75 (L_Kg_leadsFrom q_v3 q_v1 hx6) (isk_u hi) (Rm_of hRm (by decide) ⟨by decide, by decide⟩) (by decide) rfl (Nat.le_of_ble_eq_true rfl) rfl (dk D_X10_openRoadsAt 17 rfl) (fun qx6 => ?_)
        refine r_if_eq (pc := 32) hX qx6 41 rfl (dk D_X10_openRoadsAt 18 rfl) (fun hc => ?_) (fun hc => ?_)
        · rw [if_pos hc] at h
          refine r_iinc (lv' := [(3, 0, (w32 (v3 + 1))), (0, 2, v0), (1, 0, v1), (2, 0, v2)]) (pc := 41) hX 3 rfl (by decide) rfl (dk D_X10_openRoadsAt 25 rfl) ?_
          refine r_goto (pc := 44) hX 4 rfl (dk D_X10_openRoadsAt 26 rfl) ?_
          refine r_sub (lv' := [(0, 2, v0), (1, 0, v1), (2, 0, v2), (3, 0, (w32 (v3 + 1)))]) [1, 2, 3, 0] rfl ?_
          exact ih v0 v1 v2 (w32 (v3 + 1)) μ7 q_v1 q_v2 (R32_w _) h
        · rw [if_neg hc] at h
          refine r_iloadn (pc := 35) hX 2 rfl (dk D_X10_openRoadsAt 19 rfl) ?_
          refine r_iconst (pc := 36) hX (dk D_X10_openRoadsAt 20 rfl) ?_
          refine r_iloadn (pc := 37) hX 3 rfl (dk D_X10_openRoadsAt 21 rfl) ?_
          refine r_ishl (pc := 38) hX (dk D_X10_openRoadsAt 22 rfl) ?_
          refine r_ior (pc := 39) hX (dk D_X10_openRoadsAt 23 rfl) ?_
          obtain ⟨x8, ex8, h⟩ := bd_some h
          replace ex8 := Option.some.inj ex8
          have qx8 : R32 x8 := ex8 ▸ (R32_t _)
          rw [ex8]
          refine r_istoren (lv' := [(2, 0, x8), (0, 2, v0), (1, 0, v1), (3, 0, v3)]) (pc := 40) hX (by decide) rfl (dk D_X10_openRoadsAt 24 rfl) ?_
          refine r_iinc (lv' := [(3, 0, (w32 (v3 + 1))), (2, 0, x8), (0, 2, v0), (1, 0, v1)]) (pc := 41) hX 3 rfl (by decide) rfl (dk D_X10_openRoadsAt 25 rfl) ?_
          refine r_goto (pc := 44) hX 4 rfl (dk D_X10_openRoadsAt 26 rfl) ?_
          refine r_sub (lv' := [(0, 2, v0), (1, 0, v1), (2, 0, x8), (3, 0, (w32 (v3 + 1)))]) [2, 3, 1, 0] rfl ?_
          exact ih v0 v1 x8 (w32 (v3 + 1)) μ7 q_v1 qx8 (R32_w _) h
set_option maxRecDepth 100000 in
set_option maxHeartbeats 4000000 in
theorem L_Wo_openRoadsAt {E : EX} {l : Launch} {a0 a1 res : Int} {μ μ' : Mem} (q_a1 : R32 a1) (h : Wo_openRoadsAt a0 a1 μ = some (res, μ')) : Ok E l 2 yX10_openRoadsAt (.code yX10_openRoadsAt cX10_openRoadsAt 4 (some .int)) 0 0 [(2, a0), (0, a1)] μ (some (0, res)) μ' := by
  refine Ok.of (own := "TollsBack$World") [(0, 2, a0), (1, 0, a1)] (by decide +kernel) rfl (Nat.le_of_ble_eq_true rfl) rfl ?_
  intro X hL hRm hin hX hM
  unfold Wo_openRoadsAt at h
  subst hL
  refine r_iconst (pc := 0) hX (dk D_X10_openRoadsAt 0 rfl) ?_
  refine r_istoren (lv' := [(2, 0, 0), (0, 2, a0), (1, 0, a1)]) (pc := 1) hX (by decide) rfl (dk D_X10_openRoadsAt 1 rfl) ?_
  refine r_iconst (pc := 2) hX (dk D_X10_openRoadsAt 2 rfl) ?_
  refine r_istoren (lv' := [(3, 0, 0), (2, 0, 0), (0, 2, a0), (1, 0, a1)]) (pc := 3) hX (by decide) rfl (dk D_X10_openRoadsAt 3 rfl) ?_
  refine r_sub (lv' := [(0, 2, a0), (1, 0, a1), (2, 0, 0), (3, 0, 0)]) [2, 3, 1, 0] rfl ?_
  refine L_Wo_openRoadsAt_L4 hX hM hRm FU a0 a1 0 0 μ q_a1 (R32_lit rfl) (R32_lit rfl) h
set_option maxRecDepth 100000 in
set_option maxHeartbeats 4000000 in
theorem L_Wo_haveBack {E : EX} {l : Launch} {a0 a1 res : Int} {μ μ' : Mem}  (h : Wo_haveBack a0 a1 μ = some (res, μ')) : Ok E l 3 yX10_haveBack (.code yX10_haveBack cX10_haveBack 3 (some .int)) 0 0 [(2, a0), (2, a1)] μ (some (0, res)) μ' := by
  refine Ok.of (own := "TollsBack$World") [(0, 2, a0), (1, 2, a1)] (by decide +kernel) rfl (Nat.le_of_ble_eq_true rfl) rfl ?_
  intro X hL hRm hin hX hM
  unfold Wo_haveBack at h
  subst hL
  refine r_aloadn (pc := 0) hX 1 rfl (dk D_X10_haveBack 0 rfl) ?_
  refine r_dup (pc := 1) hX rfl (dk D_X10_haveBack 1 rfl) ?_
  obtain ⟨x1, hx1, h⟩ := bd_some h
  refine r_getI (pc := 2) hX fl_10_108 rfl rfl hx1 (dk D_X10_haveBack 2 rfl) (fun qx1 => ?_)
  refine r_iconst (pc := 5) hX (dk D_X10_haveBack 3 rfl) ?_
  refine r_isub (pc := 6) hX (dk D_X10_haveBack 4 rfl) ?_
  obtain ⟨μ2, hμ2, h⟩ := bd_some h
  refine r_putI (pc := 7) hX fl_10_108 rfl rfl (R32_w _) trivial hμ2 (dk D_X10_haveBack 5 rfl) ?_
  refine r_aloadn (pc := 10) hX 0 rfl (dk D_X10_haveBack 6 rfl) ?_
  obtain ⟨x3, hx3, h⟩ := bd_some h
  refine r_getR (pc := 11) hX fl_10_12 rfl hx3 (dk D_X10_haveBack 7 rfl) ?_
  refine r_aloadn (pc := 14) hX 1 rfl (dk D_X10_haveBack 8 rfl) ?_
  refine r_aloadn (pc := 15) hX 1 rfl (dk D_X10_haveBack 9 rfl) ?_
  obtain ⟨x4, hx4, h⟩ := bd_some h
  refine r_getI (pc := 16) hX fl_10_108 rfl rfl hx4 (dk D_X10_haveBack 10 rfl) (fun qx4 => ?_)
  refine r_aloadn (pc := 19) hX 1 rfl (dk D_X10_haveBack 11 rfl) ?_
  obtain ⟨x5, hx5, h⟩ := bd_some h
  refine r_getI (pc := 20) hX fl_10_88 rfl rfl hx5 (dk D_X10_haveBack 12 rfl) (fun qx5 => ?_)
  obtain ⟨_, hi, h⟩ := bd_some h
  obtain ⟨x6, μ7, hx6, h⟩ := bd2_some h
  refine r_invV0 (As := [(2, a1), (0, x4), (0, x5)]) (pc := 23) hX ml_10_128 (L_Kg_worthOn qx4 qx5 hx6) (isk_u hi) (Rm_of hRm (by decide) ⟨by decide, by decide⟩) (by decide) rfl (Nat.le_of_ble_eq_true rfl) rfl (dk D_X10_haveBack 13 rfl) (fun qx6 => ?_)
  refine r_istoren (lv' := [(2, 0, x6), (0, 2, a0), (1, 2, a1)]) (pc := 26) hX (by decide) rfl (dk D_X10_haveBack 14 rfl) ?_
  refine r_aloadn (pc := 27) hX 2 rfl (dk D_X10_haveBack 15 rfl) ?_
  refine r_dup (pc := 28) hX rfl (dk D_X10_haveBack 16 rfl) ?_
  obtain ⟨x8, hx8, h⟩ := bd_some h
  refine r_getI (pc := 29) hX fl_10_132 rfl rfl hx8 (dk D_X10_haveBack 17 rfl) (fun qx8 => ?_)
  refine r_iloadn (pc := 32) hX 0 rfl (dk D_X10_haveBack 18 rfl) ?_
  refine r_iadd (pc := 33) hX (dk D_X10_haveBack 19 rfl) ?_
  obtain ⟨μ9, hμ9, h⟩ := bd_some h
  refine r_putI (pc := 34) hX fl_10_132 rfl rfl (R32_w _) trivial hμ9 (dk D_X10_haveBack 20 rfl) ?_
  refine r_aloadn (pc := 37) hX 2 rfl (dk D_X10_haveBack 21 rfl) ?_
  refine r_dup (pc := 38) hX rfl (dk D_X10_haveBack 22 rfl) ?_
  obtain ⟨x10, hx10, h⟩ := bd_some h
  refine r_getI (pc := 39) hX fl_10_135 rfl rfl hx10 (dk D_X10_haveBack 23 rfl) (fun qx10 => ?_)
  refine r_iloadn (pc := 42) hX 0 rfl (dk D_X10_haveBack 24 rfl) ?_
  refine r_iadd (pc := 43) hX (dk D_X10_haveBack 25 rfl) ?_
  obtain ⟨μ11, hμ11, h⟩ := bd_some h
  refine r_putI (pc := 44) hX fl_10_135 rfl rfl (R32_w _) trivial hμ11 (dk D_X10_haveBack 26 rfl) ?_
  refine r_sipush (pc := 47) hX rfl (dk D_X10_haveBack 27 rfl) ?_
  refine r_iloadn (pc := 50) hX 0 rfl (dk D_X10_haveBack 28 rfl) ?_
  refine r_iadd (pc := 51) hX (dk D_X10_haveBack 29 rfl) ?_
  cases h
  exact r_ireturn (pc := 52) hX (R32_w _) hM ⟨by decide, by decide⟩ (dk D_X10_haveBack 30 rfl)
set_option maxRecDepth 100000 in
set_option maxHeartbeats 4000000 in
theorem L_Tr_push {E : EX} {l : Launch} {a0 a1 a2 a3 res : Int} {μ μ' : Mem} (q_a1 : R32 a1) (q_a2 : R32 a2) (q_a3 : R32 a3) (h : Tr_push a0 a1 a2 a3 μ = some (res, μ')) : Ok E l 1 yX6_push (.code yX6_push cX6_push 4 none) 0 0 [(2, a0), (0, a1), (0, a2), (0, a3)] μ none μ' := by
  refine Ok.of (own := "TollsBack$Traveller") [(0, 2, a0), (1, 0, a1), (2, 0, a2), (3, 0, a3)] (by decide +kernel) rfl (Nat.le_of_ble_eq_true rfl) rfl ?_
  intro X hL hRm hin hX hM
  unfold Tr_push at h
  subst hL
  refine r_aloadn (pc := 0) hX 0 rfl (dk D_X6_push 0 rfl) ?_
  obtain ⟨x1, hx1, h⟩ := bd_some h
  refine r_getI (pc := 1) hX fl_6_37 rfl rfl hx1 (dk D_X6_push 1 rfl) (fun qx1 => ?_)
  refine r_bipush (pc := 4) hX rfl (dk D_X6_push 2 rfl) ?_
  refine r_icmp_ge (pc := 6) hX qx1 (R32_lit rfl) 49 rfl (dk D_X6_push 3 rfl) (fun hc => ?_) (fun hc => ?_)
  · rw [if_neg hc] at h
    cases h
    exact r_return (pc := 49) hX hM ⟨by decide, by decide⟩ (dk D_X6_push 28 rfl)
  · rw [if_pos hc] at h
    refine r_aloadn (pc := 9) hX 0 rfl (dk D_X6_push 4 rfl) ?_
    obtain ⟨x2, hx2, h⟩ := bd_some h
    refine r_getR (pc := 10) hX fl_6_9 rfl hx2 (dk D_X6_push 5 rfl) ?_
    refine r_aloadn (pc := 13) hX 0 rfl (dk D_X6_push 6 rfl) ?_
    obtain ⟨x3, hx3, h⟩ := bd_some h
    refine r_getI (pc := 14) hX fl_6_37 rfl rfl hx3 (dk D_X6_push 7 rfl) (fun qx3 => ?_)
    refine r_iloadn (pc := 17) hX 1 rfl (dk D_X6_push 8 rfl) ?_
    obtain ⟨μ4, hμ4, h⟩ := bd_some h
    refine r_iast (pc := 18) hX qx3 q_a1 hμ4 (dk D_X6_push 9 rfl) ?_
    refine r_aloadn (pc := 19) hX 0 rfl (dk D_X6_push 10 rfl) ?_
    obtain ⟨x5, hx5, h⟩ := bd_some h
    refine r_getR (pc := 20) hX fl_6_15 rfl hx5 (dk D_X6_push 11 rfl) ?_
    refine r_aloadn (pc := 23) hX 0 rfl (dk D_X6_push 12 rfl) ?_
    obtain ⟨x6, hx6, h⟩ := bd_some h
    refine r_getI (pc := 24) hX fl_6_37 rfl rfl hx6 (dk D_X6_push 13 rfl) (fun qx6 => ?_)
    refine r_iloadn (pc := 27) hX 2 rfl (dk D_X6_push 14 rfl) ?_
    obtain ⟨μ7, hμ7, h⟩ := bd_some h
    refine r_iast (pc := 28) hX qx6 q_a2 hμ7 (dk D_X6_push 15 rfl) ?_
    refine r_aloadn (pc := 29) hX 0 rfl (dk D_X6_push 16 rfl) ?_
    obtain ⟨x8, hx8, h⟩ := bd_some h
    refine r_getR (pc := 30) hX fl_6_18 rfl hx8 (dk D_X6_push 17 rfl) ?_
    refine r_aloadn (pc := 33) hX 0 rfl (dk D_X6_push 18 rfl) ?_
    obtain ⟨x9, hx9, h⟩ := bd_some h
    refine r_getI (pc := 34) hX fl_6_37 rfl rfl hx9 (dk D_X6_push 19 rfl) (fun qx9 => ?_)
    refine r_iloadn (pc := 37) hX 3 rfl (dk D_X6_push 20 rfl) ?_
    obtain ⟨μ10, hμ10, h⟩ := bd_some h
    refine r_iast (pc := 38) hX qx9 q_a3 hμ10 (dk D_X6_push 21 rfl) ?_
    refine r_aloadn (pc := 39) hX 0 rfl (dk D_X6_push 22 rfl) ?_
    refine r_dup (pc := 40) hX rfl (dk D_X6_push 23 rfl) ?_
    obtain ⟨x11, hx11, h⟩ := bd_some h
    refine r_getI (pc := 41) hX fl_6_37 rfl rfl hx11 (dk D_X6_push 24 rfl) (fun qx11 => ?_)
    refine r_iconst (pc := 44) hX (dk D_X6_push 25 rfl) ?_
    refine r_iadd (pc := 45) hX (dk D_X6_push 26 rfl) ?_
    obtain ⟨μ12, hμ12, h⟩ := bd_some h
    refine r_putI (pc := 46) hX fl_6_37 rfl rfl (R32_w _) trivial hμ12 (dk D_X6_push 27 rfl) ?_
    cases h
    exact r_return (pc := 49) hX hM ⟨by decide, by decide⟩ (dk D_X6_push 28 rfl)
set_option maxRecDepth 100000 in
set_option maxHeartbeats 4000000 in
theorem L_Wo_pay {E : EX} {l : Launch} {a0 a1 a2 res : Int} {μ μ' : Mem} (q_a2 : R32 a2) (h : Wo_pay a0 a1 a2 μ = some (res, μ')) : Ok E l 4 yX10_pay (.code yX10_pay cX10_pay 4 (some .int)) 0 0 [(2, a0), (2, a1), (0, a2)] μ (some (0, res)) μ' := by
  refine Ok.of (own := "TollsBack$World") [(0, 2, a0), (1, 2, a1), (2, 0, a2)] (by decide +kernel) rfl (Nat.le_of_ble_eq_true rfl) rfl ?_
  intro X hL hRm hin hX hM
  unfold Wo_pay at h
  subst hL
  refine r_aloadn (pc := 0) hX 0 rfl (dk D_X10_pay 0 rfl) ?_
  obtain ⟨x1, hx1, h⟩ := bd_some h
  refine r_getR (pc := 1) hX fl_10_12 rfl hx1 (dk D_X10_pay 1 rfl) ?_
  refine r_iloadn (pc := 4) hX 2 rfl (dk D_X10_pay 2 rfl) ?_
  refine r_iconst (pc := 5) hX (dk D_X10_pay 3 rfl) ?_
  refine r_ishr (pc := 6) hX (dk D_X10_pay 4 rfl) ?_
  refine r_aloadn (pc := 7) hX 1 rfl (dk D_X10_pay 5 rfl) ?_
  obtain ⟨x2, hx2, h⟩ := bd_some h
  refine r_getI (pc := 8) hX fl_10_88 rfl rfl hx2 (dk D_X10_pay 6 rfl) (fun qx2 => ?_)
  obtain ⟨_, hi, h⟩ := bd_some h
  obtain ⟨x3, μ4, hx3, h⟩ := bd2_some h
  refine r_invV0 (As := [(0, (shr32 a2 1)), (0, x2)]) (pc := 11) hX ml_10_138 (L_Kg_tollOn (R32_t _) qx2 hx3) (isk_u hi) (Rm_of hRm (by decide) ⟨by decide, by decide⟩) (by decide) rfl (Nat.le_of_ble_eq_true rfl) rfl (dk D_X10_pay 7 rfl) (fun qx3 => ?_)
  refine r_istoren (lv' := [(3, 0, x3), (0, 2, a0), (1, 2, a1), (2, 0, a2)]) (pc := 14) hX (by decide) rfl (dk D_X10_pay 8 rfl) ?_
  refine r_aloadn (pc := 15) hX 2 rfl (dk D_X10_pay 9 rfl) ?_
  obtain ⟨x5, hx5, h⟩ := bd_some h
  refine r_getI (pc := 16) hX fl_10_132 rfl rfl hx5 (dk D_X10_pay 10 rfl) (fun qx5 => ?_)
  refine r_iloadn (pc := 19) hX 0 rfl (dk D_X10_pay 11 rfl) ?_
  refine r_icmp_ge (pc := 20) hX qx5 qx3 26 rfl (dk D_X10_pay 12 rfl) (fun hc => ?_) (fun hc => ?_)
  · rw [if_neg hc] at h
    refine r_aloadn (pc := 26) hX 2 rfl (dk D_X10_pay 15 rfl) ?_
    obtain ⟨x6, hx6, h⟩ := bd_some h
    refine r_getI (pc := 27) hX fl_10_108 rfl rfl hx6 (dk D_X10_pay 16 rfl) (fun qx6 => ?_)
    refine r_bipush (pc := 30) hX rfl (dk D_X10_pay 17 rfl) ?_
    refine r_icmp_lt (pc := 32) hX qx6 (R32_lit rfl) 38 rfl (dk D_X10_pay 18 rfl) (fun hc => ?_) (fun hc => ?_)
    · rw [if_pos hc] at h
      refine r_aloadn (pc := 38) hX 2 rfl (dk D_X10_pay 21 rfl) ?_
      refine r_iloadn (pc := 39) hX 3 rfl (dk D_X10_pay 22 rfl) ?_
      refine r_aloadn (pc := 40) hX 2 rfl (dk D_X10_pay 23 rfl) ?_
      obtain ⟨x7, hx7, h⟩ := bd_some h
      refine r_getI (pc := 41) hX fl_10_88 rfl rfl hx7 (dk D_X10_pay 24 rfl) (fun qx7 => ?_)
      refine r_iloadn (pc := 44) hX 0 rfl (dk D_X10_pay 25 rfl) ?_
      obtain ⟨_, hi, h⟩ := bd_some h
      obtain ⟨x8, μ9, hx8, h⟩ := bd2_some h
      refine r_invV0 (As := [(0, a2), (0, x7), (0, x3)]) (pc := 45) hX ml_10_141 (L_Tr_push q_a2 qx7 qx3 hx8) (isk_u hi) (Rm_of hRm (by decide) ⟨by decide, by decide⟩) (by decide) rfl (Nat.le_of_ble_eq_true rfl) rfl (dk D_X10_pay 26 rfl) (fun _ => ?_)
      refine r_aloadn (pc := 48) hX 2 rfl (dk D_X10_pay 27 rfl) ?_
      refine r_dup (pc := 49) hX rfl (dk D_X10_pay 28 rfl) ?_
      obtain ⟨x10, hx10, h⟩ := bd_some h
      refine r_getI (pc := 50) hX fl_10_132 rfl rfl hx10 (dk D_X10_pay 29 rfl) (fun qx10 => ?_)
      refine r_iloadn (pc := 53) hX 0 rfl (dk D_X10_pay 30 rfl) ?_
      refine r_isub (pc := 54) hX (dk D_X10_pay 31 rfl) ?_
      obtain ⟨μ11, hμ11, h⟩ := bd_some h
      refine r_putI (pc := 55) hX fl_10_132 rfl rfl (R32_w _) trivial hμ11 (dk D_X10_pay 32 rfl) ?_
      refine r_aloadn (pc := 58) hX 2 rfl (dk D_X10_pay 33 rfl) ?_
      refine r_dup (pc := 59) hX rfl (dk D_X10_pay 34 rfl) ?_
      obtain ⟨x12, hx12, h⟩ := bd_some h
      refine r_getI (pc := 60) hX fl_10_145 rfl rfl hx12 (dk D_X10_pay 35 rfl) (fun qx12 => ?_)
      refine r_iloadn (pc := 63) hX 0 rfl (dk D_X10_pay 36 rfl) ?_
      refine r_iadd (pc := 64) hX (dk D_X10_pay 37 rfl) ?_
      obtain ⟨μ13, hμ13, h⟩ := bd_some h
      refine r_putI (pc := 65) hX fl_10_145 rfl rfl (R32_w _) trivial hμ13 (dk D_X10_pay 38 rfl) ?_
      refine r_iloadn (pc := 68) hX 0 rfl (dk D_X10_pay 39 rfl) ?_
      cases h
      exact r_ireturn (pc := 69) hX qx3 hM ⟨by decide, by decide⟩ (dk D_X10_pay 40 rfl)
    · rw [if_neg hc] at h
      refine r_bipush (pc := 35) hX rfl (dk D_X10_pay 19 rfl) ?_
      cases h
      exact r_ireturn (pc := 37) hX (R32_lit rfl) hM ⟨by decide, by decide⟩ (dk D_X10_pay 20 rfl)
  · rw [if_pos hc] at h
    refine r_bipush (pc := 23) hX rfl (dk D_X10_pay 13 rfl) ?_
    cases h
    exact r_ireturn (pc := 25) hX (R32_lit rfl) hM ⟨by decide, by decide⟩ (dk D_X10_pay 14 rfl)
set_option maxRecDepth 100000 in
set_option maxHeartbeats 4000000 in
theorem L_Wo_step {E : EX} {l : Launch} {a0 a1 a2 res : Int} {μ μ' : Mem} (q_a2 : R32 a2) (h : Wo_step a0 a1 a2 μ = some (res, μ')) : Ok E l 5 yX10_step (.code yX10_step cX10_step 6 (some .int)) 0 0 [(2, a0), (2, a1), (0, a2)] μ (some (0, res)) μ' := by
  refine Ok.of (own := "TollsBack$World") [(0, 2, a0), (1, 2, a1), (2, 0, a2)] (by decide +kernel) rfl (Nat.le_of_ble_eq_true rfl) rfl ?_
  intro X hL hRm hin hX hM
  unfold Wo_step at h
  subst hL
  refine r_aloadn (pc := 0) hX 0 rfl (dk D_X10_step 0 rfl) ?_
  obtain ⟨x1, hx1, h⟩ := bd_some h
  refine r_getR (pc := 1) hX fl_10_12 rfl hx1 (dk D_X10_step 1 rfl) ?_
  refine r_iloadn (pc := 4) hX 2 rfl (dk D_X10_step 2 rfl) ?_
  obtain ⟨_, hi, h⟩ := bd_some h
  obtain ⟨x2, μ3, hx2, h⟩ := bd2_some h
  refine r_invV0 (As := [(0, a2)]) (pc := 5) hX ml_10_98 (L_Kg_hasRoad q_a2 hx2) (isk_u hi) (Rm_of hRm (by decide) ⟨by decide, by decide⟩) (by decide) rfl (Nat.le_of_ble_eq_true rfl) rfl (dk D_X10_step 3 rfl) (fun qx2 => ?_)
  refine r_if_ne (pc := 8) hX qx2 14 rfl (dk D_X10_step 4 rfl) (fun hc => ?_) (fun hc => ?_)
  · rw [if_neg hc] at h
    refine r_aloadn (pc := 14) hX 0 rfl (dk D_X10_step 7 rfl) ?_
    refine r_iloadn (pc := 15) hX 2 rfl (dk D_X10_step 8 rfl) ?_
    obtain ⟨_, hi, h⟩ := bd_some h
    obtain ⟨x4, μ5, hx4, h⟩ := bd2_some h
    refine r_invV0 (As := [(0, a2)]) (pc := 16) hX ml_10_72 (L_Wo_isOpen q_a2 hx4) (isk_u hi) (Rm_of hRm (by decide) ⟨by decide, by decide⟩) (by decide) rfl (Nat.le_of_ble_eq_true rfl) rfl (dk D_X10_step 9 rfl) (fun qx4 => ?_)
    refine r_if_ne (pc := 19) hX qx4 25 rfl (dk D_X10_step 10 rfl) (fun hc => ?_) (fun hc => ?_)
    · rw [if_neg hc] at h
      refine r_aloadn (pc := 25) hX 0 rfl (dk D_X10_step 13 rfl) ?_
      obtain ⟨x6, hx6, h⟩ := bd_some h
      refine r_getR (pc := 26) hX fl_10_12 rfl hx6 (dk D_X10_step 14 rfl) ?_
      refine r_iloadn (pc := 29) hX 2 rfl (dk D_X10_step 15 rfl) ?_
      refine r_aloadn (pc := 30) hX 1 rfl (dk D_X10_step 16 rfl) ?_
      obtain ⟨x7, hx7, h⟩ := bd_some h
      refine r_getI (pc := 31) hX fl_10_101 rfl rfl hx7 (dk D_X10_step 17 rfl) (fun qx7 => ?_)
      obtain ⟨_, hi, h⟩ := bd_some h
      obtain ⟨x8, μ9, hx8, h⟩ := bd2_some h
      refine r_invV0 (As := [(0, a2), (0, x7)]) (pc := 34) hX ml_10_75 (L_Kg_leadsFrom q_a2 qx7 hx8) (isk_u hi) (Rm_of hRm (by decide) ⟨by decide, by decide⟩) (by decide) rfl (Nat.le_of_ble_eq_true rfl) rfl (dk D_X10_step 18 rfl) (fun qx8 => ?_)
      refine r_if_ne (pc := 37) hX qx8 43 rfl (dk D_X10_step 19 rfl) (fun hc => ?_) (fun hc => ?_)
      · rw [if_neg hc] at h
        refine r_aloadn (pc := 43) hX 0 rfl (dk D_X10_step 22 rfl) ?_
        obtain ⟨x10, hx10, h⟩ := bd_some h
        refine r_getR (pc := 44) hX fl_10_12 rfl hx10 (dk D_X10_step 23 rfl) ?_
        refine r_iloadn (pc := 47) hX 2 rfl (dk D_X10_step 24 rfl) ?_
        refine r_aloadn (pc := 48) hX 1 rfl (dk D_X10_step 25 rfl) ?_
        obtain ⟨x11, hx11, h⟩ := bd_some h
        refine r_getI (pc := 49) hX fl_10_101 rfl rfl hx11 (dk D_X10_step 26 rfl) (fun qx11 => ?_)
        obtain ⟨_, hi, h⟩ := bd_some h
        obtain ⟨x12, μ13, hx12, h⟩ := bd2_some h
        refine r_invV0 (As := [(0, a2), (0, x11)]) (pc := 52) hX ml_10_104 (L_Kg_markOf q_a2 qx11 hx12) (isk_u hi) (Rm_of hRm (by decide) ⟨by decide, by decide⟩) (by decide) rfl (Nat.le_of_ble_eq_true rfl) rfl (dk D_X10_step 27 rfl) (fun qx12 => ?_)
        refine r_istoren (lv' := [(3, 0, x12), (0, 2, a0), (1, 2, a1), (2, 0, a2)]) (pc := 55) hX (by decide) rfl (dk D_X10_step 28 rfl) ?_
        refine r_aloadn (pc := 56) hX 2 rfl (dk D_X10_step 29 rfl) ?_
        obtain ⟨x14, hx14, h⟩ := bd_some h
        refine r_getI (pc := 57) hX fl_10_108 rfl rfl hx14 (dk D_X10_step 30 rfl) (fun qx14 => ?_)
        obtain ⟨y15, hb, h⟩ := bd_some h
        have hj : R32 y15 → At E X cX10_step 6 "TollsBack$World" (0, 0) 85 [(0, 2, a0), (1, 2, a1), (2, 0, a2), (3, 0, x12)] [(0, y15)] μ13 := by
          intro qy15
          clear hb
          refine r_istore (lv' := [(4, 0, y15), (0, 2, a0), (1, 2, a1), (2, 0, a2), (3, 0, x12)]) (pc := 85) hX (by decide) rfl (dk D_X10_step 46 rfl) ?_
          refine r_iload (pc := 87) hX 0 rfl (dk D_X10_step 47 rfl) ?_
          obtain ⟨y19, μ20, hb, h⟩ := bd2_some h
          have hj : R32 y19 → At E X cX10_step 6 "TollsBack$World" (0, 0) 106 [(0, 2, a0), (1, 2, a1), (2, 0, a2), (3, 0, x12)] [(0, y19)] μ20 := by
            intro qy19
            clear hb
            refine r_istore (lv' := [(5, 0, y19), (0, 2, a0), (1, 2, a1), (2, 0, a2), (3, 0, x12)]) (pc := 106) hX (by decide) rfl (dk D_X10_step 57 rfl) ?_
            refine r_iload (pc := 108) hX 0 rfl (dk D_X10_step 58 rfl) ?_
            refine r_if_lt (pc := 110) hX qy19 143 rfl (dk D_X10_step 59 rfl) (fun hc => ?_) (fun hc => ?_)
            · rw [if_pos hc] at h
              refine r_iload (pc := 143) hX 0 rfl (dk D_X10_step 76 rfl) ?_
              cases h
              exact r_ireturn (pc := 145) hX qy19 hM ⟨by decide, by decide⟩ (dk D_X10_step 77 rfl)
            · rw [if_neg hc] at h
              refine r_aloadn (pc := 113) hX 2 rfl (dk D_X10_step 60 rfl) ?_
              refine r_aloadn (pc := 114) hX 1 rfl (dk D_X10_step 61 rfl) ?_
              obtain ⟨x25, hx25, h⟩ := bd_some h
              refine r_getR (pc := 115) hX fl_10_12 rfl hx25 (dk D_X10_step 62 rfl) ?_
              refine r_iloadn (pc := 118) hX 4 rfl (dk D_X10_step 63 rfl) ?_
              obtain ⟨_, hi, h⟩ := bd_some h
              obtain ⟨x26, μ27, hx26, h⟩ := bd2_some h
              refine r_invV0 (As := [(0, x12)]) (pc := 119) hX ml_10_121 (L_Kg_endOf qx12 hx26) (isk_u hi) (Rm_of hRm (by decide) ⟨by decide, by decide⟩) (by decide) rfl (Nat.le_of_ble_eq_true rfl) rfl (dk D_X10_step 64 rfl) (fun qx26 => ?_)
              obtain ⟨μ28, hμ28, h⟩ := bd_some h
              refine r_putI (pc := 122) hX fl_10_101 rfl rfl qx26 trivial hμ28 (dk D_X10_step 65 rfl) ?_
              refine r_aloadn (pc := 125) hX 2 rfl (dk D_X10_step 66 rfl) ?_
              refine r_dup (pc := 126) hX rfl (dk D_X10_step 67 rfl) ?_
              obtain ⟨x29, hx29, h⟩ := bd_some h
              refine r_getI (pc := 127) hX fl_10_88 rfl rfl hx29 (dk D_X10_step 68 rfl) (fun qx29 => ?_)
              refine r_aloadn (pc := 130) hX 1 rfl (dk D_X10_step 69 rfl) ?_
              obtain ⟨x30, hx30, h⟩ := bd_some h
              refine r_getR (pc := 131) hX fl_10_12 rfl hx30 (dk D_X10_step 70 rfl) ?_
              obtain ⟨x31, hx31, h⟩ := bd_some h
              refine r_getR (pc := 134) hX fl_10_125 rfl hx31 (dk D_X10_step 71 rfl) ?_
              refine r_iloadn (pc := 137) hX 3 rfl (dk D_X10_step 72 rfl) ?_
              obtain ⟨x32, hx32, h⟩ := bd_some h
              refine r_iald (pc := 138) hX q_a2 hx32 (dk D_X10_step 73 rfl) (fun qx32 => ?_)
              refine r_iadd (pc := 139) hX (dk D_X10_step 74 rfl) ?_
              obtain ⟨μ33, hμ33, h⟩ := bd_some h
              refine r_putI (pc := 140) hX fl_10_88 rfl rfl (R32_w _) trivial hμ33 (dk D_X10_step 75 rfl) ?_
              refine r_iload (pc := 143) hX 0 rfl (dk D_X10_step 76 rfl) ?_
              cases h
              exact r_ireturn (pc := 145) hX qy19 hM ⟨by decide, by decide⟩ (dk D_X10_step 77 rfl)
          clear h
          have h := hb
          clear hb
          refine r_if_eq (pc := 89) hX qy15 100 rfl (dk D_X10_step 48 rfl) (fun hc => ?_) (fun hc => ?_)
          · rw [if_pos hc] at h
            refine r_aloadn (pc := 100) hX 1 rfl (dk D_X10_step 53 rfl) ?_
            refine r_aloadn (pc := 101) hX 2 rfl (dk D_X10_step 54 rfl) ?_
            refine r_iloadn (pc := 102) hX 4 rfl (dk D_X10_step 55 rfl) ?_
            obtain ⟨_, hi, h⟩ := bd_some h
            obtain ⟨x21, μ22, hx21, h⟩ := bd2_some h
            refine r_invV0 (As := [(2, a1), (0, x12)]) (pc := 103) hX ml_10_118 (L_Wo_pay qx12 hx21) (isk_u hi) (Rm_of hRm (by decide) ⟨by decide, by decide⟩) (by decide) rfl (Nat.le_of_ble_eq_true rfl) rfl (dk D_X10_step 56 rfl) (fun qx21 => ?_)
            replace h := Option.some.inj h
            obtain ⟨h_0, h⟩ := Prod.mk.inj h
            subst y19
            subst μ20
            refine r_sub (lv' := [(0, 2, a0), (1, 2, a1), (2, 0, a2), (3, 0, x12)]) [1, 2, 3, 4] rfl ?_
            exact hj qx21
          · rw [if_neg hc] at h
            refine r_aloadn (pc := 92) hX 1 rfl (dk D_X10_step 49 rfl) ?_
            refine r_aloadn (pc := 93) hX 2 rfl (dk D_X10_step 50 rfl) ?_
            obtain ⟨_, hi, h⟩ := bd_some h
            obtain ⟨x23, μ24, hx23, h⟩ := bd2_some h
            refine r_invV0 (As := [(2, a1)]) (pc := 94) hX ml_10_114 (L_Wo_haveBack hx23) (isk_u hi) (Rm_of hRm (by decide) ⟨by decide, by decide⟩) (by decide) rfl (Nat.le_of_ble_eq_true rfl) rfl (dk D_X10_step 51 rfl) (fun qx23 => ?_)
            refine r_goto (pc := 97) hX 106 rfl (dk D_X10_step 52 rfl) ?_
            replace h := Option.some.inj h
            obtain ⟨h_0, h⟩ := Prod.mk.inj h
            subst y19
            subst μ20
            refine r_sub (lv' := [(0, 2, a0), (1, 2, a1), (2, 0, a2), (3, 0, x12)]) [1, 2, 3, 4] rfl ?_
            exact hj qx23
        clear h
        have h := hb
        clear hb
        refine r_if_le (pc := 60) hX qx14 84 rfl (dk D_X10_step 31 rfl) (fun hc => ?_) (fun hc => ?_)
        · rw [if_neg hc] at h
          refine r_iconst (pc := 84) hX (dk D_X10_step 45 rfl) ?_
          replace h := Option.some.inj h
          subst y15
          refine r_sub (lv' := [(0, 2, a0), (1, 2, a1), (2, 0, a2), (3, 0, x12)]) [1, 2, 3, 0] rfl ?_
          exact hj (R32_lit rfl)
        · rw [if_pos hc] at h
          refine r_aloadn (pc := 63) hX 2 rfl (dk D_X10_step 32 rfl) ?_
          obtain ⟨x16, hx16, h⟩ := bd_some h
          refine r_getR (pc := 64) hX fl_10_111 rfl hx16 (dk D_X10_step 33 rfl) ?_
          refine r_aloadn (pc := 67) hX 2 rfl (dk D_X10_step 34 rfl) ?_
          obtain ⟨x17, hx17, h⟩ := bd_some h
          refine r_getI (pc := 68) hX fl_10_108 rfl rfl hx17 (dk D_X10_step 35 rfl) (fun qx17 => ?_)
          refine r_iconst (pc := 71) hX (dk D_X10_step 36 rfl) ?_
          refine r_isub (pc := 72) hX (dk D_X10_step 37 rfl) ?_
          obtain ⟨x18, hx18, h⟩ := bd_some h
          refine r_iald (pc := 73) hX (R32_w _) hx18 (dk D_X10_step 38 rfl) (fun qx18 => ?_)
          refine r_iloadn (pc := 74) hX 0 rfl (dk D_X10_step 39 rfl) ?_
          refine r_iconst (pc := 75) hX (dk D_X10_step 40 rfl) ?_
          refine r_ixor (pc := 76) hX (dk D_X10_step 41 rfl) ?_
          refine r_icmp_ne (pc := 77) hX qx18 (R32_t _) 84 rfl (dk D_X10_step 42 rfl) (fun hc => ?_) (fun hc => ?_)
          · rw [if_neg hc] at h
            refine r_iconst (pc := 84) hX (dk D_X10_step 45 rfl) ?_
            replace h := Option.some.inj h
            subst y15
            refine r_sub (lv' := [(0, 2, a0), (1, 2, a1), (2, 0, a2), (3, 0, x12)]) [1, 2, 3, 0] rfl ?_
            exact hj (R32_lit rfl)
          · rw [if_pos hc] at h
            refine r_iconst (pc := 80) hX (dk D_X10_step 43 rfl) ?_
            refine r_goto (pc := 81) hX 85 rfl (dk D_X10_step 44 rfl) ?_
            replace h := Option.some.inj h
            subst y15
            refine r_sub (lv' := [(0, 2, a0), (1, 2, a1), (2, 0, a2), (3, 0, x12)]) [1, 2, 3, 0] rfl ?_
            exact hj (R32_lit rfl)
      · rw [if_pos hc] at h
        refine r_bipush (pc := 40) hX rfl (dk D_X10_step 20 rfl) ?_
        cases h
        exact r_ireturn (pc := 42) hX (R32_lit rfl) hM ⟨by decide, by decide⟩ (dk D_X10_step 21 rfl)
    · rw [if_pos hc] at h
      refine r_bipush (pc := 22) hX rfl (dk D_X10_step 11 rfl) ?_
      cases h
      exact r_ireturn (pc := 24) hX (R32_lit rfl) hM ⟨by decide, by decide⟩ (dk D_X10_step 12 rfl)
  · rw [if_pos hc] at h
    refine r_bipush (pc := 11) hX rfl (dk D_X10_step 5 rfl) ?_
    cases h
    exact r_ireturn (pc := 13) hX (R32_lit rfl) hM ⟨by decide, by decide⟩ (dk D_X10_step 6 rfl)
set_option maxRecDepth 100000 in
set_option maxHeartbeats 4000000 in
theorem L_To_judgeEnd {E : EX} {l : Launch} {a0 a1 a2 a3 res : Int} {μ μ' : Mem} (q_a2 : R32 a2) (q_a3 : R32 a3) (h : To_judgeEnd a0 a1 a2 a3 μ = some (res, μ')) : Ok E l 1 yX5_judgeEnd (.code yX5_judgeEnd cX5_judgeEnd 5 none) 0 0 [(2, a0), (2, a1), (0, a2), (0, a3)] μ none μ' := by
  refine Ok.of (own := "TollsBack$Tour") [(0, 2, a0), (1, 2, a1), (2, 0, a2), (3, 0, a3)] (by decide +kernel) rfl (Nat.le_of_ble_eq_true rfl) rfl ?_
  intro X hL hRm hin hX hM
  unfold To_judgeEnd at h
  subst hL
  refine r_aloadn (pc := 0) hX 0 rfl (dk D_X5_judgeEnd 0 rfl) ?_
  obtain ⟨x1, hx1, h⟩ := bd_some h
  refine r_getR (pc := 1) hX fl_5_29 rfl hx1 (dk D_X5_judgeEnd 1 rfl) ?_
  obtain ⟨x2, hx2, h⟩ := bd_some h
  refine r_getI (pc := 4) hX fl_5_71 rfl rfl hx2 (dk D_X5_judgeEnd 2 rfl) (fun qx2 => ?_)
  refine r_aloadn (pc := 7) hX 1 rfl (dk D_X5_judgeEnd 3 rfl) ?_
  obtain ⟨x3, hx3, h⟩ := bd_some h
  refine r_getR (pc := 8) hX fl_5_56 rfl hx3 (dk D_X5_judgeEnd 4 rfl) ?_
  obtain ⟨x4, hx4, h⟩ := bd_some h
  refine r_getI (pc := 11) hX fl_5_97 rfl rfl hx4 (dk D_X5_judgeEnd 5 rfl) (fun qx4 => ?_)
  refine r_icmp_ne (pc := 14) hX qx2 qx4 30 rfl (dk D_X5_judgeEnd 6 rfl) (fun hc => ?_) (fun hc => ?_)
  · rw [if_neg hc] at h
    cases h
    exact r_return (pc := 30) hX hM ⟨by decide, by decide⟩ (dk D_X5_judgeEnd 14 rfl)
  · rw [if_pos hc] at h
    refine r_iloadn (pc := 17) hX 3 rfl (dk D_X5_judgeEnd 7 rfl) ?_
    refine r_aloadn (pc := 18) hX 0 rfl (dk D_X5_judgeEnd 8 rfl) ?_
    obtain ⟨x5, hx5, h⟩ := bd_some h
    refine r_getI (pc := 19) hX fl_5_37 rfl rfl hx5 (dk D_X5_judgeEnd 9 rfl) (fun qx5 => ?_)
    refine r_iand (pc := 22) hX (dk D_X5_judgeEnd 10 rfl) ?_
    refine r_aloadn (pc := 23) hX 0 rfl (dk D_X5_judgeEnd 11 rfl) ?_
    obtain ⟨x6, hx6, h⟩ := bd_some h
    refine r_getI (pc := 24) hX fl_5_37 rfl rfl hx6 (dk D_X5_judgeEnd 12 rfl) (fun qx6 => ?_)
    refine r_icmp_eq (pc := 27) hX (R32_t _) qx6 31 rfl (dk D_X5_judgeEnd 13 rfl) (fun hc => ?_) (fun hc => ?_)
    · rw [if_pos hc] at h
      refine r_aloadn (pc := 31) hX 0 rfl (dk D_X5_judgeEnd 15 rfl) ?_
      obtain ⟨x7, hx7, h⟩ := bd_some h
      refine r_getI (pc := 32) hX fl_5_53 rfl rfl hx7 (dk D_X5_judgeEnd 16 rfl) (fun qx7 => ?_)
      refine r_iconst (pc := 35) hX (dk D_X5_judgeEnd 17 rfl) ?_
      obtain ⟨y8, hb, h⟩ := bd_some h
      have hj : R32 y8 → At E X cX5_judgeEnd 5 "TollsBack$Tour" (0, 0) 80 [(0, 2, a0), (2, 0, a2)] [(0, y8)] μ := by
        intro qy8
        clear hb
        refine r_istore (lv' := [(4, 0, y8), (0, 2, a0), (2, 0, a2)]) (pc := 80) hX (by decide) rfl (dk D_X5_judgeEnd 38 rfl) ?_
        refine r_iload (pc := 82) hX 0 rfl (dk D_X5_judgeEnd 39 rfl) ?_
        refine r_if_eq (pc := 84) hX qy8 117 rfl (dk D_X5_judgeEnd 40 rfl) (fun hc => ?_) (fun hc => ?_)
        · rw [if_pos hc] at h
          cases h
          exact r_return (pc := 117) hX hM ⟨by decide, by decide⟩ (dk D_X5_judgeEnd 57 rfl)
        · rw [if_neg hc] at h
          refine r_aloadn (pc := 87) hX 1 rfl (dk D_X5_judgeEnd 41 rfl) ?_
          refine r_aloadn (pc := 88) hX 1 rfl (dk D_X5_judgeEnd 42 rfl) ?_
          obtain ⟨x16, hx16, h⟩ := bd_some h
          refine r_getR (pc := 89) hX fl_5_29 rfl hx16 (dk D_X5_judgeEnd 43 rfl) ?_
          obtain ⟨x17, hx17, h⟩ := bd_some h
          refine r_getI (pc := 92) hX fl_5_100 rfl rfl hx17 (dk D_X5_judgeEnd 44 rfl) (fun qx17 => ?_)
          obtain ⟨μ18, hμ18, h⟩ := bd_some h
          refine r_putI (pc := 95) hX fl_5_103 rfl rfl qx17 trivial hμ18 (dk D_X5_judgeEnd 45 rfl) ?_
          refine r_aloadn (pc := 98) hX 1 rfl (dk D_X5_judgeEnd 46 rfl) ?_
          refine r_iloadn (pc := 99) hX 2 rfl (dk D_X5_judgeEnd 47 rfl) ?_
          obtain ⟨μ19, hμ19, h⟩ := bd_some h
          refine r_putI (pc := 100) hX fl_5_53 rfl rfl q_a2 trivial hμ19 (dk D_X5_judgeEnd 48 rfl) ?_
          refine r_aloadn (pc := 103) hX 1 rfl (dk D_X5_judgeEnd 49 rfl) ?_
          obtain ⟨x20, hx20, h⟩ := bd_some h
          refine r_getR (pc := 104) hX fl_5_15 rfl hx20 (dk D_X5_judgeEnd 50 rfl) ?_
          refine r_iconst (pc := 107) hX (dk D_X5_judgeEnd 51 rfl) ?_
          refine r_aloadn (pc := 108) hX 1 rfl (dk D_X5_judgeEnd 52 rfl) ?_
          obtain ⟨x21, hx21, h⟩ := bd_some h
          refine r_getR (pc := 109) hX fl_5_9 rfl hx21 (dk D_X5_judgeEnd 53 rfl) ?_
          refine r_iconst (pc := 112) hX (dk D_X5_judgeEnd 54 rfl) ?_
          refine r_iloadn (pc := 113) hX 2 rfl (dk D_X5_judgeEnd 55 rfl) ?_
          obtain ⟨μ22, hμ22, h⟩ := bd_some h
          refine r_copyi (pc := 114) hX ml_5_104 (R32_lit rfl) (R32_lit rfl) q_a2 (by rw [hRm]; exact ⟨by decide, by decide⟩) (Nat.le_of_ble_eq_true rfl) hμ22 (dk D_X5_judgeEnd 56 rfl) ?_
          cases h
          exact r_return (pc := 117) hX hM ⟨by decide, by decide⟩ (dk D_X5_judgeEnd 57 rfl)
      clear h
      have h := hb
      clear hb
      refine r_icmp_eq (pc := 36) hX qx7 (R32_lit rfl) 75 rfl (dk D_X5_judgeEnd 18 rfl) (fun hc => ?_) (fun hc => ?_)
      · rw [if_pos hc] at h
        refine r_iconst (pc := 75) hX (dk D_X5_judgeEnd 35 rfl) ?_
        refine r_goto (pc := 76) hX 80 rfl (dk D_X5_judgeEnd 36 rfl) ?_
        replace h := Option.some.inj h
        subst y8
        refine r_sub (lv' := [(0, 2, a0), (2, 0, a2)]) [0, 2] rfl ?_
        exact hj (R32_lit rfl)
      · rw [if_neg hc] at h
        refine r_aloadn (pc := 39) hX 0 rfl (dk D_X5_judgeEnd 19 rfl) ?_
        obtain ⟨x9, hx9, h⟩ := bd_some h
        refine r_getR (pc := 40) hX fl_5_29 rfl hx9 (dk D_X5_judgeEnd 20 rfl) ?_
        obtain ⟨x10, hx10, h⟩ := bd_some h
        refine r_getI (pc := 43) hX fl_5_100 rfl rfl hx10 (dk D_X5_judgeEnd 21 rfl) (fun qx10 => ?_)
        refine r_aloadn (pc := 46) hX 0 rfl (dk D_X5_judgeEnd 22 rfl) ?_
        obtain ⟨x11, hx11, h⟩ := bd_some h
        refine r_getI (pc := 47) hX fl_5_103 rfl rfl hx11 (dk D_X5_judgeEnd 23 rfl) (fun qx11 => ?_)
        refine r_icmp_gt (pc := 50) hX qx10 qx11 75 rfl (dk D_X5_judgeEnd 24 rfl) (fun hc => ?_) (fun hc => ?_)
        · rw [if_pos hc] at h
          refine r_iconst (pc := 75) hX (dk D_X5_judgeEnd 35 rfl) ?_
          refine r_goto (pc := 76) hX 80 rfl (dk D_X5_judgeEnd 36 rfl) ?_
          replace h := Option.some.inj h
          subst y8
          refine r_sub (lv' := [(0, 2, a0), (2, 0, a2)]) [0, 2] rfl ?_
          exact hj (R32_lit rfl)
        · rw [if_neg hc] at h
          refine r_aloadn (pc := 53) hX 0 rfl (dk D_X5_judgeEnd 25 rfl) ?_
          obtain ⟨x12, hx12, h⟩ := bd_some h
          refine r_getR (pc := 54) hX fl_5_29 rfl hx12 (dk D_X5_judgeEnd 26 rfl) ?_
          obtain ⟨x13, hx13, h⟩ := bd_some h
          refine r_getI (pc := 57) hX fl_5_100 rfl rfl hx13 (dk D_X5_judgeEnd 27 rfl) (fun qx13 => ?_)
          refine r_aloadn (pc := 60) hX 0 rfl (dk D_X5_judgeEnd 28 rfl) ?_
          obtain ⟨x14, hx14, h⟩ := bd_some h
          refine r_getI (pc := 61) hX fl_5_103 rfl rfl hx14 (dk D_X5_judgeEnd 29 rfl) (fun qx14 => ?_)
          refine r_icmp_ne (pc := 64) hX qx13 qx14 79 rfl (dk D_X5_judgeEnd 30 rfl) (fun hc => ?_) (fun hc => ?_)
          · rw [if_neg hc] at h
            refine r_iconst (pc := 79) hX (dk D_X5_judgeEnd 37 rfl) ?_
            replace h := Option.some.inj h
            subst y8
            refine r_sub (lv' := [(0, 2, a0), (2, 0, a2)]) [0, 2] rfl ?_
            exact hj (R32_lit rfl)
          · rw [if_pos hc] at h
            refine r_iloadn (pc := 67) hX 2 rfl (dk D_X5_judgeEnd 31 rfl) ?_
            refine r_aloadn (pc := 68) hX 0 rfl (dk D_X5_judgeEnd 32 rfl) ?_
            obtain ⟨x15, hx15, h⟩ := bd_some h
            refine r_getI (pc := 69) hX fl_5_53 rfl rfl hx15 (dk D_X5_judgeEnd 33 rfl) (fun qx15 => ?_)
            refine r_icmp_ge (pc := 72) hX q_a2 qx15 79 rfl (dk D_X5_judgeEnd 34 rfl) (fun hc => ?_) (fun hc => ?_)
            · rw [if_neg hc] at h
              refine r_iconst (pc := 79) hX (dk D_X5_judgeEnd 37 rfl) ?_
              replace h := Option.some.inj h
              subst y8
              refine r_sub (lv' := [(0, 2, a0), (2, 0, a2)]) [0, 2] rfl ?_
              exact hj (R32_lit rfl)
            · rw [if_pos hc] at h
              refine r_iconst (pc := 75) hX (dk D_X5_judgeEnd 35 rfl) ?_
              refine r_goto (pc := 76) hX 80 rfl (dk D_X5_judgeEnd 36 rfl) ?_
              replace h := Option.some.inj h
              subst y8
              refine r_sub (lv' := [(0, 2, a0), (2, 0, a2)]) [0, 2] rfl ?_
              exact hj (R32_lit rfl)
    · rw [if_neg hc] at h
      cases h
      exact r_return (pc := 30) hX hM ⟨by decide, by decide⟩ (dk D_X5_judgeEnd 14 rfl)
set_option maxRecDepth 100000 in
set_option maxHeartbeats 4000000 in
theorem L_Tr_keepIn {E : EX} {l : Launch} {a0 a1 res : Int} {μ μ' : Mem}  (h : Tr_keepIn a0 a1 μ = some (res, μ')) : Ok E l 1 yX6_keepIn (.code yX6_keepIn cX6_keepIn 2 none) 0 0 [(2, a0), (2, a1)] μ none μ' := by
  refine Ok.of (own := "TollsBack$Traveller") [(0, 2, a0), (1, 2, a1)] (by decide +kernel) rfl (Nat.le_of_ble_eq_true rfl) rfl ?_
  intro X hL hRm hin hX hM
  unfold Tr_keepIn at h
  subst hL
  refine r_aloadn (pc := 0) hX 1 rfl (dk D_X6_keepIn 0 rfl) ?_
  refine r_iconst (pc := 1) hX (dk D_X6_keepIn 1 rfl) ?_
  refine r_aloadn (pc := 2) hX 0 rfl (dk D_X6_keepIn 2 rfl) ?_
  obtain ⟨x1, hx1, h⟩ := bd_some h
  refine r_getI (pc := 3) hX fl_6_21 rfl rfl hx1 (dk D_X6_keepIn 3 rfl) (fun qx1 => ?_)
  obtain ⟨μ2, hμ2, h⟩ := bd_some h
  refine r_iast (pc := 6) hX (R32_lit rfl) qx1 hμ2 (dk D_X6_keepIn 4 rfl) ?_
  refine r_aloadn (pc := 7) hX 1 rfl (dk D_X6_keepIn 5 rfl) ?_
  refine r_iconst (pc := 8) hX (dk D_X6_keepIn 6 rfl) ?_
  refine r_aloadn (pc := 9) hX 0 rfl (dk D_X6_keepIn 7 rfl) ?_
  obtain ⟨x3, hx3, h⟩ := bd_some h
  refine r_getI (pc := 10) hX fl_6_25 rfl rfl hx3 (dk D_X6_keepIn 8 rfl) (fun qx3 => ?_)
  obtain ⟨μ4, hμ4, h⟩ := bd_some h
  refine r_iast (pc := 13) hX (R32_lit rfl) qx3 hμ4 (dk D_X6_keepIn 9 rfl) ?_
  refine r_aloadn (pc := 14) hX 1 rfl (dk D_X6_keepIn 10 rfl) ?_
  refine r_iconst (pc := 15) hX (dk D_X6_keepIn 11 rfl) ?_
  refine r_aloadn (pc := 16) hX 0 rfl (dk D_X6_keepIn 12 rfl) ?_
  obtain ⟨x5, hx5, h⟩ := bd_some h
  refine r_getI (pc := 17) hX fl_6_28 rfl rfl hx5 (dk D_X6_keepIn 13 rfl) (fun qx5 => ?_)
  obtain ⟨μ6, hμ6, h⟩ := bd_some h
  refine r_iast (pc := 20) hX (R32_lit rfl) qx5 hμ6 (dk D_X6_keepIn 14 rfl) ?_
  refine r_aloadn (pc := 21) hX 1 rfl (dk D_X6_keepIn 15 rfl) ?_
  refine r_iconst (pc := 22) hX (dk D_X6_keepIn 16 rfl) ?_
  refine r_aloadn (pc := 23) hX 0 rfl (dk D_X6_keepIn 17 rfl) ?_
  obtain ⟨x7, hx7, h⟩ := bd_some h
  refine r_getI (pc := 24) hX fl_6_37 rfl rfl hx7 (dk D_X6_keepIn 18 rfl) (fun qx7 => ?_)
  obtain ⟨μ8, hμ8, h⟩ := bd_some h
  refine r_iast (pc := 27) hX (R32_lit rfl) qx7 hμ8 (dk D_X6_keepIn 19 rfl) ?_
  refine r_aloadn (pc := 28) hX 0 rfl (dk D_X6_keepIn 20 rfl) ?_
  obtain ⟨x9, hx9, h⟩ := bd_some h
  refine r_getI (pc := 29) hX fl_6_37 rfl rfl hx9 (dk D_X6_keepIn 21 rfl) (fun qx9 => ?_)
  refine r_bipush (pc := 32) hX rfl (dk D_X6_keepIn 22 rfl) ?_
  refine r_icmp_ge (pc := 34) hX qx9 (R32_lit rfl) 74 rfl (dk D_X6_keepIn 23 rfl) (fun hc => ?_) (fun hc => ?_)
  · rw [if_neg hc] at h
    cases h
    exact r_return (pc := 74) hX hM ⟨by decide, by decide⟩ (dk D_X6_keepIn 48 rfl)
  · rw [if_pos hc] at h
    refine r_aloadn (pc := 37) hX 1 rfl (dk D_X6_keepIn 24 rfl) ?_
    refine r_iconst (pc := 38) hX (dk D_X6_keepIn 25 rfl) ?_
    refine r_aloadn (pc := 39) hX 0 rfl (dk D_X6_keepIn 26 rfl) ?_
    obtain ⟨x10, hx10, h⟩ := bd_some h
    refine r_getR (pc := 40) hX fl_6_9 rfl hx10 (dk D_X6_keepIn 27 rfl) ?_
    refine r_aloadn (pc := 43) hX 0 rfl (dk D_X6_keepIn 28 rfl) ?_
    obtain ⟨x11, hx11, h⟩ := bd_some h
    refine r_getI (pc := 44) hX fl_6_37 rfl rfl hx11 (dk D_X6_keepIn 29 rfl) (fun qx11 => ?_)
    obtain ⟨x12, hx12, h⟩ := bd_some h
    refine r_iald (pc := 47) hX qx11 hx12 (dk D_X6_keepIn 30 rfl) (fun qx12 => ?_)
    obtain ⟨μ13, hμ13, h⟩ := bd_some h
    refine r_iast (pc := 48) hX (R32_lit rfl) qx12 hμ13 (dk D_X6_keepIn 31 rfl) ?_
    refine r_aloadn (pc := 49) hX 1 rfl (dk D_X6_keepIn 32 rfl) ?_
    refine r_iconst (pc := 50) hX (dk D_X6_keepIn 33 rfl) ?_
    refine r_aloadn (pc := 51) hX 0 rfl (dk D_X6_keepIn 34 rfl) ?_
    obtain ⟨x14, hx14, h⟩ := bd_some h
    refine r_getR (pc := 52) hX fl_6_15 rfl hx14 (dk D_X6_keepIn 35 rfl) ?_
    refine r_aloadn (pc := 55) hX 0 rfl (dk D_X6_keepIn 36 rfl) ?_
    obtain ⟨x15, hx15, h⟩ := bd_some h
    refine r_getI (pc := 56) hX fl_6_37 rfl rfl hx15 (dk D_X6_keepIn 37 rfl) (fun qx15 => ?_)
    obtain ⟨x16, hx16, h⟩ := bd_some h
    refine r_iald (pc := 59) hX qx15 hx16 (dk D_X6_keepIn 38 rfl) (fun qx16 => ?_)
    obtain ⟨μ17, hμ17, h⟩ := bd_some h
    refine r_iast (pc := 60) hX (R32_lit rfl) qx16 hμ17 (dk D_X6_keepIn 39 rfl) ?_
    refine r_aloadn (pc := 61) hX 1 rfl (dk D_X6_keepIn 40 rfl) ?_
    refine r_bipush (pc := 62) hX rfl (dk D_X6_keepIn 41 rfl) ?_
    refine r_aloadn (pc := 64) hX 0 rfl (dk D_X6_keepIn 42 rfl) ?_
    obtain ⟨x18, hx18, h⟩ := bd_some h
    refine r_getR (pc := 65) hX fl_6_18 rfl hx18 (dk D_X6_keepIn 43 rfl) ?_
    refine r_aloadn (pc := 68) hX 0 rfl (dk D_X6_keepIn 44 rfl) ?_
    obtain ⟨x19, hx19, h⟩ := bd_some h
    refine r_getI (pc := 69) hX fl_6_37 rfl rfl hx19 (dk D_X6_keepIn 45 rfl) (fun qx19 => ?_)
    obtain ⟨x20, hx20, h⟩ := bd_some h
    refine r_iald (pc := 72) hX qx19 hx20 (dk D_X6_keepIn 46 rfl) (fun qx20 => ?_)
    obtain ⟨μ21, hμ21, h⟩ := bd_some h
    refine r_iast (pc := 73) hX (R32_lit rfl) qx20 hμ21 (dk D_X6_keepIn 47 rfl) ?_
    cases h
    exact r_return (pc := 74) hX hM ⟨by decide, by decide⟩ (dk D_X6_keepIn 48 rfl)
set_option maxRecDepth 100000 in
set_option maxHeartbeats 4000000 in
theorem L_Tr_regain {E : EX} {l : Launch} {a0 a1 res : Int} {μ μ' : Mem}  (h : Tr_regain a0 a1 μ = some (res, μ')) : Ok E l 1 yX6_regain (.code yX6_regain cX6_regain 2 none) 0 0 [(2, a0), (2, a1)] μ none μ' := by
  refine Ok.of (own := "TollsBack$Traveller") [(0, 2, a0), (1, 2, a1)] (by decide +kernel) rfl (Nat.le_of_ble_eq_true rfl) rfl ?_
  intro X hL hRm hin hX hM
  unfold Tr_regain at h
  subst hL
  refine r_aloadn (pc := 0) hX 0 rfl (dk D_X6_regain 0 rfl) ?_
  refine r_aloadn (pc := 1) hX 1 rfl (dk D_X6_regain 1 rfl) ?_
  refine r_iconst (pc := 2) hX (dk D_X6_regain 2 rfl) ?_
  obtain ⟨x1, hx1, h⟩ := bd_some h
  refine r_iald (pc := 3) hX (R32_lit rfl) hx1 (dk D_X6_regain 3 rfl) (fun qx1 => ?_)
  obtain ⟨μ2, hμ2, h⟩ := bd_some h
  refine r_putI (pc := 4) hX fl_6_21 rfl rfl qx1 trivial hμ2 (dk D_X6_regain 4 rfl) ?_
  refine r_aloadn (pc := 7) hX 0 rfl (dk D_X6_regain 5 rfl) ?_
  refine r_aloadn (pc := 8) hX 1 rfl (dk D_X6_regain 6 rfl) ?_
  refine r_iconst (pc := 9) hX (dk D_X6_regain 7 rfl) ?_
  obtain ⟨x3, hx3, h⟩ := bd_some h
  refine r_iald (pc := 10) hX (R32_lit rfl) hx3 (dk D_X6_regain 8 rfl) (fun qx3 => ?_)
  obtain ⟨μ4, hμ4, h⟩ := bd_some h
  refine r_putI (pc := 11) hX fl_6_25 rfl rfl qx3 trivial hμ4 (dk D_X6_regain 9 rfl) ?_
  refine r_aloadn (pc := 14) hX 0 rfl (dk D_X6_regain 10 rfl) ?_
  refine r_aloadn (pc := 15) hX 1 rfl (dk D_X6_regain 11 rfl) ?_
  refine r_iconst (pc := 16) hX (dk D_X6_regain 12 rfl) ?_
  obtain ⟨x5, hx5, h⟩ := bd_some h
  refine r_iald (pc := 17) hX (R32_lit rfl) hx5 (dk D_X6_regain 13 rfl) (fun qx5 => ?_)
  obtain ⟨μ6, hμ6, h⟩ := bd_some h
  refine r_putI (pc := 18) hX fl_6_28 rfl rfl qx5 trivial hμ6 (dk D_X6_regain 14 rfl) ?_
  refine r_aloadn (pc := 21) hX 0 rfl (dk D_X6_regain 15 rfl) ?_
  refine r_aloadn (pc := 22) hX 1 rfl (dk D_X6_regain 16 rfl) ?_
  refine r_iconst (pc := 23) hX (dk D_X6_regain 17 rfl) ?_
  obtain ⟨x7, hx7, h⟩ := bd_some h
  refine r_iald (pc := 24) hX (R32_lit rfl) hx7 (dk D_X6_regain 18 rfl) (fun qx7 => ?_)
  obtain ⟨μ8, hμ8, h⟩ := bd_some h
  refine r_putI (pc := 25) hX fl_6_37 rfl rfl qx7 trivial hμ8 (dk D_X6_regain 19 rfl) ?_
  refine r_aloadn (pc := 28) hX 0 rfl (dk D_X6_regain 20 rfl) ?_
  obtain ⟨x9, hx9, h⟩ := bd_some h
  refine r_getI (pc := 29) hX fl_6_37 rfl rfl hx9 (dk D_X6_regain 21 rfl) (fun qx9 => ?_)
  refine r_bipush (pc := 32) hX rfl (dk D_X6_regain 22 rfl) ?_
  refine r_icmp_ge (pc := 34) hX qx9 (R32_lit rfl) 74 rfl (dk D_X6_regain 23 rfl) (fun hc => ?_) (fun hc => ?_)
  · rw [if_neg hc] at h
    cases h
    exact r_return (pc := 74) hX hM ⟨by decide, by decide⟩ (dk D_X6_regain 48 rfl)
  · rw [if_pos hc] at h
    refine r_aloadn (pc := 37) hX 0 rfl (dk D_X6_regain 24 rfl) ?_
    obtain ⟨x10, hx10, h⟩ := bd_some h
    refine r_getR (pc := 38) hX fl_6_9 rfl hx10 (dk D_X6_regain 25 rfl) ?_
    refine r_aloadn (pc := 41) hX 0 rfl (dk D_X6_regain 26 rfl) ?_
    obtain ⟨x11, hx11, h⟩ := bd_some h
    refine r_getI (pc := 42) hX fl_6_37 rfl rfl hx11 (dk D_X6_regain 27 rfl) (fun qx11 => ?_)
    refine r_aloadn (pc := 45) hX 1 rfl (dk D_X6_regain 28 rfl) ?_
    refine r_iconst (pc := 46) hX (dk D_X6_regain 29 rfl) ?_
    obtain ⟨x12, hx12, h⟩ := bd_some h
    refine r_iald (pc := 47) hX (R32_lit rfl) hx12 (dk D_X6_regain 30 rfl) (fun qx12 => ?_)
    obtain ⟨μ13, hμ13, h⟩ := bd_some h
    refine r_iast (pc := 48) hX qx11 qx12 hμ13 (dk D_X6_regain 31 rfl) ?_
    refine r_aloadn (pc := 49) hX 0 rfl (dk D_X6_regain 32 rfl) ?_
    obtain ⟨x14, hx14, h⟩ := bd_some h
    refine r_getR (pc := 50) hX fl_6_15 rfl hx14 (dk D_X6_regain 33 rfl) ?_
    refine r_aloadn (pc := 53) hX 0 rfl (dk D_X6_regain 34 rfl) ?_
    obtain ⟨x15, hx15, h⟩ := bd_some h
    refine r_getI (pc := 54) hX fl_6_37 rfl rfl hx15 (dk D_X6_regain 35 rfl) (fun qx15 => ?_)
    refine r_aloadn (pc := 57) hX 1 rfl (dk D_X6_regain 36 rfl) ?_
    refine r_iconst (pc := 58) hX (dk D_X6_regain 37 rfl) ?_
    obtain ⟨x16, hx16, h⟩ := bd_some h
    refine r_iald (pc := 59) hX (R32_lit rfl) hx16 (dk D_X6_regain 38 rfl) (fun qx16 => ?_)
    obtain ⟨μ17, hμ17, h⟩ := bd_some h
    refine r_iast (pc := 60) hX qx15 qx16 hμ17 (dk D_X6_regain 39 rfl) ?_
    refine r_aloadn (pc := 61) hX 0 rfl (dk D_X6_regain 40 rfl) ?_
    obtain ⟨x18, hx18, h⟩ := bd_some h
    refine r_getR (pc := 62) hX fl_6_18 rfl hx18 (dk D_X6_regain 41 rfl) ?_
    refine r_aloadn (pc := 65) hX 0 rfl (dk D_X6_regain 42 rfl) ?_
    obtain ⟨x19, hx19, h⟩ := bd_some h
    refine r_getI (pc := 66) hX fl_6_37 rfl rfl hx19 (dk D_X6_regain 43 rfl) (fun qx19 => ?_)
    refine r_aloadn (pc := 69) hX 1 rfl (dk D_X6_regain 44 rfl) ?_
    refine r_bipush (pc := 70) hX rfl (dk D_X6_regain 45 rfl) ?_
    obtain ⟨x20, hx20, h⟩ := bd_some h
    refine r_iald (pc := 72) hX (R32_lit rfl) hx20 (dk D_X6_regain 46 rfl) (fun qx20 => ?_)
    obtain ⟨μ21, hμ21, h⟩ := bd_some h
    refine r_iast (pc := 73) hX qx19 qx20 hμ21 (dk D_X6_regain 47 rfl) ?_
    cases h
    exact r_return (pc := 74) hX hM ⟨by decide, by decide⟩ (dk D_X6_regain 48 rfl)
set_option maxRecDepth 100000 in
set_option maxHeartbeats 4000000 in
theorem L_To_explore_L33 {E : EX} {X : CX} {res : Int} {μe : Mem} {lev : Nat} (hX : Good E X cX5_explore 6 "TollsBack$Tour") (hM : GoodM E X none none μe 0 0) (hRm : cR X = rmOf lev 0 0) (hlev : 7 ≤ lev) {rc : Int → Int → Int → Int → Mem → Option (Int × Mem)} (hrc : ∀ (a0 a1 a2 a3 : Int) (μ μ' : Mem) (res : Int), R32 a2 → R32 a3 → rc a0 a1 a2 a3 μ = some (res, μ') → Ok E (cL X) (lev - 1) yX5_explore (.code yX5_explore cX5_explore 6 none) 0 0 [(2, a0), (2, a1), (0, a2), (0, a3)] μ none μ') : ∀ (n : Nat) (v0 v1 v2 v3 v4 v5 : Int) (μ : Mem) (q_v2 : R32 v2) (q_v3 : R32 v3) (q_v4 : R32 v4) (q_v5 : R32 v5) (h : To_explore_L33 rc n v0 v1 v2 v3 v4 v5 μ = some (res, μe)), At E X cX5_explore 6 "TollsBack$Tour" (0, 0) 33 [(0, 2, v0), (1, 2, v1), (2, 0, v2), (3, 0, v3), (4, 0, v4), (5, 0, v5)] [] μ := by
  intro n
  induction n with
  | zero =>
    intro v0 v1 v2 v3 v4 v5 μ q_v2 q_v3 q_v4 q_v5 h
    have h : (none : Option (Int × Mem)) = some (res, μe) := h
    cases h
  | succ n ih =>
    intro v0 v1 v2 v3 v4 v5 μ q_v2 q_v3 q_v4 q_v5 h
    rw [To_explore_L33.eq_2] at h
    refine r_iload (pc := 33) hX 5 rfl (dk D_X5_explore 19 rfl) ?_
    refine r_aloadn (pc := 35) hX 1 rfl (dk D_X5_explore 20 rfl) ?_
    obtain ⟨x1, hx1, h⟩ := bd_some h
    refine r_getR (pc := 36) hX fl_5_56 rfl hx1 (dk D_X5_explore 21 rfl) ?_
    obtain ⟨x2, hx2, h⟩ := bd_some h
    refine r_getI (pc := 39) hX fl_5_82 rfl rfl hx2 (dk D_X5_explore 22 rfl) (fun qx2 => ?_)
    refine r_icmp_ge (pc := 42) hX q_v5 qx2 149 rfl (dk D_X5_explore 23 rfl) (fun hc => ?_) (fun hc => ?_)
    · rw [if_neg hc] at h
      cases h
      exact r_return (pc := 149) hX hM ⟨by decide, by decide⟩ (dk D_X5_explore 81 rfl)
    · rw [if_pos hc] at h
      refine r_aloadn (pc := 45) hX 0 rfl (dk D_X5_explore 24 rfl) ?_
      obtain ⟨x3, hx3, h⟩ := bd_some h
      refine r_getI (pc := 46) hX fl_5_50 rfl rfl hx3 (dk D_X5_explore 25 rfl) (fun qx3 => ?_)
      refine r_ldc (pc := 49) hX cn_5_85 (dk D_X5_explore 26 rfl) ?_
      refine r_icmp_gt (pc := 51) hX qx3 (R32_lit rfl) 149 rfl (dk D_X5_explore 27 rfl) (fun hc => ?_) (fun hc => ?_)
      · rw [if_pos hc] at h
        cases h
        exact r_return (pc := 149) hX hM ⟨by decide, by decide⟩ (dk D_X5_explore 81 rfl)
      · rw [if_neg hc] at h
        refine r_iload (pc := 54) hX 4 rfl (dk D_X5_explore 28 rfl) ?_
        refine r_iload (pc := 56) hX 5 rfl (dk D_X5_explore 29 rfl) ?_
        refine r_ishr (pc := 58) hX (dk D_X5_explore 30 rfl) ?_
        refine r_iconst (pc := 59) hX (dk D_X5_explore 31 rfl) ?_
        refine r_iand (pc := 60) hX (dk D_X5_explore 32 rfl) ?_
        refine r_if_ne (pc := 61) hX (R32_t _) 67 rfl (dk D_X5_explore 33 rfl) (fun hc => ?_) (fun hc => ?_)
        · rw [if_neg hc] at h
          refine r_aloadn (pc := 67) hX 0 rfl (dk D_X5_explore 35 rfl) ?_
          obtain ⟨x4, hx4, h⟩ := bd_some h
          refine r_getR (pc := 68) hX fl_5_29 rfl hx4 (dk D_X5_explore 36 rfl) ?_
          refine r_aloadn (pc := 71) hX 0 rfl (dk D_X5_explore 37 rfl) ?_
          obtain ⟨x5, hx5, h⟩ := bd_some h
          refine r_getR (pc := 72) hX fl_5_25 rfl hx5 (dk D_X5_explore 38 rfl) ?_
          refine r_iloadn (pc := 75) hX 2 rfl (dk D_X5_explore 39 rfl) ?_
          obtain ⟨x6, hx6, h⟩ := bd_some h
          refine r_aald27 (pc := 76) hX q_v2 hx6 (dk D_X5_explore 40 rfl) ?_
          obtain ⟨_, hi, h⟩ := bd_some h
          obtain ⟨x7, μ8, hx7, h⟩ := bd2_some h
          refine r_invV0 (As := [(2, x6)]) (pc := 77) hX ml_5_86 (L_Tr_keepIn hx7) (isk_u hi) (Rm_of hRm (by omega) ⟨by decide, by decide⟩) (by decide) rfl (Nat.le_of_ble_eq_true rfl) rfl (dk D_X5_explore 41 rfl) (fun _ => ?_)
          refine r_aloadn (pc := 80) hX 1 rfl (dk D_X5_explore 42 rfl) ?_
          refine r_aloadn (pc := 81) hX 0 rfl (dk D_X5_explore 43 rfl) ?_
          obtain ⟨x9, hx9, h⟩ := bd_some h
          refine r_getR (pc := 82) hX fl_5_29 rfl hx9 (dk D_X5_explore 44 rfl) ?_
          refine r_iload (pc := 85) hX 5 rfl (dk D_X5_explore 45 rfl) ?_
          obtain ⟨_, hi, h⟩ := bd_some h
          obtain ⟨x10, μ11, hx10, h⟩ := bd2_some h
          refine r_invV0 (As := [(2, x9), (0, v5)]) (pc := 87) hX ml_5_90 (L_Wo_step q_v5 hx10) (isk_u hi) (Rm_of hRm (by omega) ⟨by decide, by decide⟩) (by decide) rfl (Nat.le_of_ble_eq_true rfl) rfl (dk D_X5_explore 46 rfl) (fun qx10 => ?_)
          refine r_if_lt (pc := 90) hX qx10 143 rfl (dk D_X5_explore 47 rfl) (fun hc => ?_) (fun hc => ?_)
          · rw [if_pos hc] at h
            refine r_iinc (lv' := [(5, 0, (w32 (v5 + 1))), (0, 2, v0), (1, 2, v1), (2, 0, v2), (3, 0, v3), (4, 0, v4)]) (pc := 143) hX 5 rfl (by decide) rfl (dk D_X5_explore 79 rfl) ?_
            refine r_goto (pc := 146) hX 33 rfl (dk D_X5_explore 80 rfl) ?_
            refine r_sub (lv' := [(0, 2, v0), (1, 2, v1), (2, 0, v2), (3, 0, v3), (4, 0, v4), (5, 0, (w32 (v5 + 1)))]) [1, 2, 3, 4, 5, 0] rfl ?_
            exact ih v0 v1 v2 v3 v4 (w32 (v5 + 1)) μ11 q_v2 q_v3 q_v4 (R32_w _) h
          · rw [if_neg hc] at h
            refine r_aloadn (pc := 93) hX 0 rfl (dk D_X5_explore 48 rfl) ?_
            refine r_dup (pc := 94) hX rfl (dk D_X5_explore 49 rfl) ?_
            obtain ⟨x12, hx12, h⟩ := bd_some h
            refine r_getI (pc := 95) hX fl_5_50 rfl rfl hx12 (dk D_X5_explore 50 rfl) (fun qx12 => ?_)
            refine r_iconst (pc := 98) hX (dk D_X5_explore 51 rfl) ?_
            refine r_iadd (pc := 99) hX (dk D_X5_explore 52 rfl) ?_
            obtain ⟨μ13, hμ13, h⟩ := bd_some h
            refine r_putI (pc := 100) hX fl_5_50 rfl rfl (R32_w _) trivial hμ13 (dk D_X5_explore 53 rfl) ?_
            refine r_aloadn (pc := 103) hX 0 rfl (dk D_X5_explore 54 rfl) ?_
            obtain ⟨x14, hx14, h⟩ := bd_some h
            refine r_getR (pc := 104) hX fl_5_15 rfl hx14 (dk D_X5_explore 55 rfl) ?_
            refine r_iloadn (pc := 107) hX 2 rfl (dk D_X5_explore 56 rfl) ?_
            refine r_iload (pc := 108) hX 5 rfl (dk D_X5_explore 57 rfl) ?_
            obtain ⟨μ15, hμ15, h⟩ := bd_some h
            refine r_iast (pc := 110) hX q_v2 q_v5 hμ15 (dk D_X5_explore 58 rfl) ?_
            refine r_aloadn (pc := 111) hX 0 rfl (dk D_X5_explore 59 rfl) ?_
            refine r_aloadn (pc := 112) hX 1 rfl (dk D_X5_explore 60 rfl) ?_
            refine r_iloadn (pc := 113) hX 2 rfl (dk D_X5_explore 61 rfl) ?_
            refine r_iconst (pc := 114) hX (dk D_X5_explore 62 rfl) ?_
            refine r_iadd (pc := 115) hX (dk D_X5_explore 63 rfl) ?_
            refine r_iloadn (pc := 116) hX 3 rfl (dk D_X5_explore 64 rfl) ?_
            refine r_iconst (pc := 117) hX (dk D_X5_explore 65 rfl) ?_
            refine r_aloadn (pc := 118) hX 0 rfl (dk D_X5_explore 66 rfl) ?_
            obtain ⟨x16, hx16, h⟩ := bd_some h
            refine r_getR (pc := 119) hX fl_5_29 rfl hx16 (dk D_X5_explore 67 rfl) ?_
            obtain ⟨x17, hx17, h⟩ := bd_some h
            refine r_getI (pc := 122) hX fl_5_71 rfl rfl hx17 (dk D_X5_explore 68 rfl) (fun qx17 => ?_)
            refine r_ishl (pc := 125) hX (dk D_X5_explore 69 rfl) ?_
            refine r_ior (pc := 126) hX (dk D_X5_explore 70 rfl) ?_
            obtain ⟨x18, μ19, hx18, h⟩ := bd2_some h
            refine r_invS0 (As := [(2, v0), (2, v1), (0, (w32 (v2 + 1))), (0, (or32 v3 (shl32 1 x17)))]) (pc := 127) hX ml_5_74 (hrc v0 v1 (w32 (v2 + 1)) (or32 v3 (shl32 1 x17)) _ _ _ (R32_w _) (R32_t _) hx18) (Rm_of hRm (by omega) ⟨by decide, by decide⟩) (by decide) rfl (Nat.le_of_ble_eq_true rfl) rfl (dk D_X5_explore 71 rfl) (fun _ => ?_)
            refine r_aloadn (pc := 130) hX 0 rfl (dk D_X5_explore 72 rfl) ?_
            obtain ⟨x20, hx20, h⟩ := bd_some h
            refine r_getR (pc := 131) hX fl_5_29 rfl hx20 (dk D_X5_explore 73 rfl) ?_
            refine r_aloadn (pc := 134) hX 0 rfl (dk D_X5_explore 74 rfl) ?_
            obtain ⟨x21, hx21, h⟩ := bd_some h
            refine r_getR (pc := 135) hX fl_5_25 rfl hx21 (dk D_X5_explore 75 rfl) ?_
            refine r_iloadn (pc := 138) hX 2 rfl (dk D_X5_explore 76 rfl) ?_
            obtain ⟨x22, hx22, h⟩ := bd_some h
            refine r_aald27 (pc := 139) hX q_v2 hx22 (dk D_X5_explore 77 rfl) ?_
            obtain ⟨_, hi, h⟩ := bd_some h
            obtain ⟨x23, μ24, hx23, h⟩ := bd2_some h
            refine r_invV0 (As := [(2, x22)]) (pc := 140) hX ml_5_94 (L_Tr_regain hx23) (isk_u hi) (Rm_of hRm (by omega) ⟨by decide, by decide⟩) (by decide) rfl (Nat.le_of_ble_eq_true rfl) rfl (dk D_X5_explore 78 rfl) (fun _ => ?_)
            refine r_iinc (lv' := [(5, 0, (w32 (v5 + 1))), (0, 2, v0), (1, 2, v1), (2, 0, v2), (3, 0, v3), (4, 0, v4)]) (pc := 143) hX 5 rfl (by decide) rfl (dk D_X5_explore 79 rfl) ?_
            refine r_goto (pc := 146) hX 33 rfl (dk D_X5_explore 80 rfl) ?_
            refine r_sub (lv' := [(0, 2, v0), (1, 2, v1), (2, 0, v2), (3, 0, v3), (4, 0, v4), (5, 0, (w32 (v5 + 1)))]) [1, 2, 3, 4, 5, 0] rfl ?_
            exact ih v0 v1 v2 v3 v4 (w32 (v5 + 1)) μ24 q_v2 q_v3 q_v4 (R32_w _) h
        · rw [if_pos hc] at h
          refine r_goto (pc := 64) hX 143 rfl (dk D_X5_explore 34 rfl) ?_
          refine r_iinc (lv' := [(5, 0, (w32 (v5 + 1))), (0, 2, v0), (1, 2, v1), (2, 0, v2), (3, 0, v3), (4, 0, v4)]) (pc := 143) hX 5 rfl (by decide) rfl (dk D_X5_explore 79 rfl) ?_
          refine r_goto (pc := 146) hX 33 rfl (dk D_X5_explore 80 rfl) ?_
          refine r_sub (lv' := [(0, 2, v0), (1, 2, v1), (2, 0, v2), (3, 0, v3), (4, 0, v4), (5, 0, (w32 (v5 + 1)))]) [1, 2, 3, 4, 5, 0] rfl ?_
          exact ih v0 v1 v2 v3 v4 (w32 (v5 + 1)) μ q_v2 q_v3 q_v4 (R32_w _) h
set_option maxRecDepth 100000 in
set_option maxHeartbeats 4000000 in
theorem L_To_explore {E : EX} {l : Launch} : ∀ (dp : Nat) (a0 a1 a2 a3 : Int) (μ μ' : Mem) (res : Int) (q_a2 : R32 a2) (q_a3 : R32 a3) (h : To_explore dp a0 a1 a2 a3 μ = some (res, μ')), Ok E l (6 + dp) yX5_explore (.code yX5_explore cX5_explore 6 none) 0 0 [(2, a0), (2, a1), (0, a2), (0, a3)] μ none μ' := by
  intro dp
  induction dp with
  | zero =>
    intro a0 a1 a2 a3 μ μ' res q_a2 q_a3 h
    have h : (none : Option (Int × Mem)) = some (res, μ') := h
    cases h
  | succ dp ih =>
    intro a0 a1 a2 a3 μ μ' res q_a2 q_a3 h
    have hrc : ∀ (a0 a1 a2 a3 : Int) (μ μ' : Mem) (res : Int), R32 a2 → R32 a3 → To_explore dp a0 a1 a2 a3 μ = some (res, μ') → Ok E l (6 + dp) yX5_explore (.code yX5_explore cX5_explore 6 none) 0 0 [(2, a0), (2, a1), (0, a2), (0, a3)] μ none μ' := fun a0 a1 a2 a3 μ μ' res q_a2 q_a3 h => ih a0 a1 a2 a3 μ μ' res q_a2 q_a3 h
    refine Ok.of (own := "TollsBack$Tour") [(0, 2, a0), (1, 2, a1), (2, 0, a2), (3, 0, a3)] (by decide +kernel) rfl (Nat.le_of_ble_eq_true rfl) rfl ?_
    intro X hL hRm hin hX hM
    rw [To_explore.eq_2] at h
    subst hL
    refine r_aloadn (pc := 0) hX 0 rfl (dk D_X5_explore 0 rfl) ?_
    refine r_aloadn (pc := 1) hX 1 rfl (dk D_X5_explore 1 rfl) ?_
    refine r_iloadn (pc := 2) hX 2 rfl (dk D_X5_explore 2 rfl) ?_
    refine r_iloadn (pc := 3) hX 3 rfl (dk D_X5_explore 3 rfl) ?_
    obtain ⟨_, hi, h⟩ := bd_some h
    obtain ⟨x1, μ2, hx1, h⟩ := bd2_some h
    refine r_invV0 (As := [(2, a1), (0, a2), (0, a3)]) (pc := 4) hX ml_5_78 (L_To_judgeEnd q_a2 q_a3 hx1) (isk_u hi) (Rm_of hRm (by omega) ⟨by decide, by decide⟩) (by decide) rfl (Nat.le_of_ble_eq_true rfl) rfl (dk D_X5_explore 4 rfl) (fun _ => ?_)
    refine r_iloadn (pc := 7) hX 2 rfl (dk D_X5_explore 5 rfl) ?_
    refine r_aloadn (pc := 8) hX 0 rfl (dk D_X5_explore 6 rfl) ?_
    obtain ⟨x3, hx3, h⟩ := bd_some h
    refine r_getI (pc := 9) hX fl_5_47 rfl rfl hx3 (dk D_X5_explore 7 rfl) (fun qx3 => ?_)
    refine r_icmp_lt (pc := 12) hX q_a2 qx3 16 rfl (dk D_X5_explore 8 rfl) (fun hc => ?_) (fun hc => ?_)
    · rw [if_pos hc] at h
      refine r_aloadn (pc := 16) hX 0 rfl (dk D_X5_explore 10 rfl) ?_
      obtain ⟨x4, hx4, h⟩ := bd_some h
      refine r_getR (pc := 17) hX fl_5_18 rfl hx4 (dk D_X5_explore 11 rfl) ?_
      refine r_aloadn (pc := 20) hX 0 rfl (dk D_X5_explore 12 rfl) ?_
      obtain ⟨x5, hx5, h⟩ := bd_some h
      refine r_getR (pc := 21) hX fl_5_29 rfl hx5 (dk D_X5_explore 13 rfl) ?_
      obtain ⟨x6, hx6, h⟩ := bd_some h
      refine r_getI (pc := 24) hX fl_5_71 rfl rfl hx6 (dk D_X5_explore 14 rfl) (fun qx6 => ?_)
      obtain ⟨x7, hx7, h⟩ := bd_some h
      refine r_iald (pc := 27) hX qx6 hx7 (dk D_X5_explore 15 rfl) (fun qx7 => ?_)
      refine r_istore (lv' := [(4, 0, x7), (0, 2, a0), (1, 2, a1), (2, 0, a2), (3, 0, a3)]) (pc := 28) hX (by decide) rfl (dk D_X5_explore 16 rfl) ?_
      refine r_iconst (pc := 30) hX (dk D_X5_explore 17 rfl) ?_
      refine r_istore (lv' := [(5, 0, 0), (4, 0, x7), (0, 2, a0), (1, 2, a1), (2, 0, a2), (3, 0, a3)]) (pc := 31) hX (by decide) rfl (dk D_X5_explore 18 rfl) ?_
      refine r_sub (lv' := [(0, 2, a0), (1, 2, a1), (2, 0, a2), (3, 0, a3), (4, 0, x7), (5, 0, 0)]) [2, 3, 4, 5, 1, 0] rfl ?_
      refine L_To_explore_L33 hX hM hRm (by omega) hrc FU a0 a1 a2 a3 x7 0 μ2 q_a2 q_a3 qx7 (R32_lit rfl) h
    · rw [if_neg hc] at h
      cases h
      exact r_return (pc := 15) hX hM ⟨by decide, by decide⟩ (dk D_X5_explore 9 rfl)
set_option maxRecDepth 100000 in
set_option maxHeartbeats 4000000 in
theorem L_Tr_become {E : EX} {l : Launch} {a0 a1 res : Int} {μ μ' : Mem}  (h : Tr_become a0 a1 μ = some (res, μ')) : Ok E l 1 yX6_become (.code yX6_become cX6_become 2 none) 0 0 [(2, a0), (2, a1)] μ none μ' := by
  refine Ok.of (own := "TollsBack$Traveller") [(0, 2, a0), (1, 2, a1)] (by decide +kernel) rfl (Nat.le_of_ble_eq_true rfl) rfl ?_
  intro X hL hRm hin hX hM
  unfold Tr_become at h
  subst hL
  refine r_aloadn (pc := 0) hX 0 rfl (dk D_X6_become 0 rfl) ?_
  refine r_aloadn (pc := 1) hX 1 rfl (dk D_X6_become 1 rfl) ?_
  obtain ⟨x1, hx1, h⟩ := bd_some h
  refine r_getI (pc := 2) hX fl_6_21 rfl rfl hx1 (dk D_X6_become 2 rfl) (fun qx1 => ?_)
  obtain ⟨μ2, hμ2, h⟩ := bd_some h
  refine r_putI (pc := 5) hX fl_6_21 rfl rfl qx1 trivial hμ2 (dk D_X6_become 3 rfl) ?_
  refine r_aloadn (pc := 8) hX 0 rfl (dk D_X6_become 4 rfl) ?_
  refine r_aloadn (pc := 9) hX 1 rfl (dk D_X6_become 5 rfl) ?_
  obtain ⟨x3, hx3, h⟩ := bd_some h
  refine r_getI (pc := 10) hX fl_6_25 rfl rfl hx3 (dk D_X6_become 6 rfl) (fun qx3 => ?_)
  obtain ⟨μ4, hμ4, h⟩ := bd_some h
  refine r_putI (pc := 13) hX fl_6_25 rfl rfl qx3 trivial hμ4 (dk D_X6_become 7 rfl) ?_
  refine r_aloadn (pc := 16) hX 0 rfl (dk D_X6_become 8 rfl) ?_
  refine r_aloadn (pc := 17) hX 1 rfl (dk D_X6_become 9 rfl) ?_
  obtain ⟨x5, hx5, h⟩ := bd_some h
  refine r_getI (pc := 18) hX fl_6_28 rfl rfl hx5 (dk D_X6_become 10 rfl) (fun qx5 => ?_)
  obtain ⟨μ6, hμ6, h⟩ := bd_some h
  refine r_putI (pc := 21) hX fl_6_28 rfl rfl qx5 trivial hμ6 (dk D_X6_become 11 rfl) ?_
  refine r_aloadn (pc := 24) hX 0 rfl (dk D_X6_become 12 rfl) ?_
  refine r_aloadn (pc := 25) hX 1 rfl (dk D_X6_become 13 rfl) ?_
  obtain ⟨x7, hx7, h⟩ := bd_some h
  refine r_getI (pc := 26) hX fl_6_31 rfl rfl hx7 (dk D_X6_become 14 rfl) (fun qx7 => ?_)
  obtain ⟨μ8, hμ8, h⟩ := bd_some h
  refine r_putI (pc := 29) hX fl_6_31 rfl rfl qx7 trivial hμ8 (dk D_X6_become 15 rfl) ?_
  refine r_aloadn (pc := 32) hX 0 rfl (dk D_X6_become 16 rfl) ?_
  refine r_aloadn (pc := 33) hX 1 rfl (dk D_X6_become 17 rfl) ?_
  obtain ⟨x9, hx9, h⟩ := bd_some h
  refine r_getI (pc := 34) hX fl_6_34 rfl rfl hx9 (dk D_X6_become 18 rfl) (fun qx9 => ?_)
  obtain ⟨μ10, hμ10, h⟩ := bd_some h
  refine r_putI (pc := 37) hX fl_6_34 rfl rfl qx9 trivial hμ10 (dk D_X6_become 19 rfl) ?_
  refine r_aloadn (pc := 40) hX 0 rfl (dk D_X6_become 20 rfl) ?_
  refine r_aloadn (pc := 41) hX 1 rfl (dk D_X6_become 21 rfl) ?_
  obtain ⟨x11, hx11, h⟩ := bd_some h
  refine r_getI (pc := 42) hX fl_6_37 rfl rfl hx11 (dk D_X6_become 22 rfl) (fun qx11 => ?_)
  obtain ⟨μ12, hμ12, h⟩ := bd_some h
  refine r_putI (pc := 45) hX fl_6_37 rfl rfl qx11 trivial hμ12 (dk D_X6_become 23 rfl) ?_
  refine r_aloadn (pc := 48) hX 1 rfl (dk D_X6_become 24 rfl) ?_
  obtain ⟨x13, hx13, h⟩ := bd_some h
  refine r_getR (pc := 49) hX fl_6_9 rfl hx13 (dk D_X6_become 25 rfl) ?_
  refine r_iconst (pc := 52) hX (dk D_X6_become 26 rfl) ?_
  refine r_aloadn (pc := 53) hX 0 rfl (dk D_X6_become 27 rfl) ?_
  obtain ⟨x14, hx14, h⟩ := bd_some h
  refine r_getR (pc := 54) hX fl_6_9 rfl hx14 (dk D_X6_become 28 rfl) ?_
  refine r_iconst (pc := 57) hX (dk D_X6_become 29 rfl) ?_
  refine r_bipush (pc := 58) hX rfl (dk D_X6_become 30 rfl) ?_
  obtain ⟨μ15, hμ15, h⟩ := bd_some h
  refine r_copyi (pc := 60) hX ml_6_40 (R32_lit rfl) (R32_lit rfl) (R32_lit rfl) (by rw [hRm]; exact ⟨by decide, by decide⟩) (Nat.le_of_ble_eq_true rfl) hμ15 (dk D_X6_become 31 rfl) ?_
  refine r_aloadn (pc := 63) hX 1 rfl (dk D_X6_become 32 rfl) ?_
  obtain ⟨x16, hx16, h⟩ := bd_some h
  refine r_getR (pc := 64) hX fl_6_15 rfl hx16 (dk D_X6_become 33 rfl) ?_
  refine r_iconst (pc := 67) hX (dk D_X6_become 34 rfl) ?_
  refine r_aloadn (pc := 68) hX 0 rfl (dk D_X6_become 35 rfl) ?_
  obtain ⟨x17, hx17, h⟩ := bd_some h
  refine r_getR (pc := 69) hX fl_6_15 rfl hx17 (dk D_X6_become 36 rfl) ?_
  refine r_iconst (pc := 72) hX (dk D_X6_become 37 rfl) ?_
  refine r_bipush (pc := 73) hX rfl (dk D_X6_become 38 rfl) ?_
  obtain ⟨μ18, hμ18, h⟩ := bd_some h
  refine r_copyi (pc := 75) hX ml_6_40 (R32_lit rfl) (R32_lit rfl) (R32_lit rfl) (by rw [hRm]; exact ⟨by decide, by decide⟩) (Nat.le_of_ble_eq_true rfl) hμ18 (dk D_X6_become 39 rfl) ?_
  refine r_aloadn (pc := 78) hX 1 rfl (dk D_X6_become 40 rfl) ?_
  obtain ⟨x19, hx19, h⟩ := bd_some h
  refine r_getR (pc := 79) hX fl_6_18 rfl hx19 (dk D_X6_become 41 rfl) ?_
  refine r_iconst (pc := 82) hX (dk D_X6_become 42 rfl) ?_
  refine r_aloadn (pc := 83) hX 0 rfl (dk D_X6_become 43 rfl) ?_
  obtain ⟨x20, hx20, h⟩ := bd_some h
  refine r_getR (pc := 84) hX fl_6_18 rfl hx20 (dk D_X6_become 44 rfl) ?_
  refine r_iconst (pc := 87) hX (dk D_X6_become 45 rfl) ?_
  refine r_bipush (pc := 88) hX rfl (dk D_X6_become 46 rfl) ?_
  obtain ⟨μ21, hμ21, h⟩ := bd_some h
  refine r_copyi (pc := 90) hX ml_6_40 (R32_lit rfl) (R32_lit rfl) (R32_lit rfl) (by rw [hRm]; exact ⟨by decide, by decide⟩) (Nat.le_of_ble_eq_true rfl) hμ21 (dk D_X6_become 47 rfl) ?_
  cases h
  exact r_return (pc := 93) hX hM ⟨by decide, by decide⟩ (dk D_X6_become 48 rfl)
set_option maxRecDepth 100000 in
set_option maxHeartbeats 4000000 in
theorem L_To_seek_L37 {E : EX} {X : CX} {res : Int} {μe : Mem} (hX : Good E X cX5_seek 6 "TollsBack$Tour") (hM : GoodM E X none none μe 0 0) (hRm : cR X = rmOf 19 0 0) {k68 : Int → Int → Int → Mem → Option (Int × Mem)} (hk68 : ∀ (u0 u1 u2 : Int) (μ : Mem), k68 u0 u1 u2 μ = some (res, μe) → At E X cX5_seek 6 "TollsBack$Tour" (0, 0) 68 [(0, 2, u0), (1, 2, u1), (2, 2, u2)] [] μ) : ∀ (n : Nat) (v0 v1 v2 v5 : Int) (μ : Mem) (q_v5 : R32 v5) (h : To_seek_L37 k68 n v0 v1 v2 v5 μ = some (res, μe)), At E X cX5_seek 6 "TollsBack$Tour" (0, 0) 37 [(0, 2, v0), (1, 2, v1), (2, 2, v2), (5, 0, v5)] [] μ := by
  intro n
  induction n with
  | zero =>
    intro v0 v1 v2 v5 μ q_v5 h
    have h : (none : Option (Int × Mem)) = some (res, μe) := h
    cases h
  | succ n ih =>
    intro v0 v1 v2 v5 μ q_v5 h
    rw [To_seek_L37.eq_2] at h
    refine r_iload (pc := 37) hX 3 rfl (dk D_X5_seek 20 rfl) ?_
    refine r_aloadn (pc := 39) hX 1 rfl (dk D_X5_seek 21 rfl) ?_
    obtain ⟨x1, hx1, h⟩ := bd_some h
    refine r_getR (pc := 40) hX fl_5_56 rfl hx1 (dk D_X5_seek 22 rfl) ?_
    obtain ⟨x2, hx2, h⟩ := bd_some h
    refine r_getI (pc := 43) hX fl_5_62 rfl rfl hx2 (dk D_X5_seek 23 rfl) (fun qx2 => ?_)
    refine r_icmp_ge (pc := 46) hX q_v5 qx2 68 rfl (dk D_X5_seek 24 rfl) (fun hc => ?_) (fun hc => ?_)
    · rw [if_neg hc] at h
      refine r_sub (lv' := [(0, 2, v0), (1, 2, v1), (2, 2, v2)]) [0, 1, 2] rfl ?_
      exact hk68 v0 v1 v2 μ h
    · rw [if_pos hc] at h
      refine r_aloadn (pc := 49) hX 0 rfl (dk D_X5_seek 25 rfl) ?_
      obtain ⟨x3, hx3, h⟩ := bd_some h
      refine r_getR (pc := 50) hX fl_5_18 rfl hx3 (dk D_X5_seek 26 rfl) ?_
      refine r_iload (pc := 53) hX 3 rfl (dk D_X5_seek 27 rfl) ?_
      refine r_aloadn (pc := 55) hX 1 rfl (dk D_X5_seek 28 rfl) ?_
      refine r_iload (pc := 56) hX 3 rfl (dk D_X5_seek 29 rfl) ?_
      obtain ⟨_, hi, h⟩ := bd_some h
      obtain ⟨x4, μ5, hx4, h⟩ := bd2_some h
      refine r_invV0 (As := [(0, v5)]) (pc := 58) hX ml_5_67 (L_Wo_openRoadsAt q_v5 hx4) (isk_u hi) (Rm_of hRm (by decide) ⟨by decide, by decide⟩) (by decide) rfl (Nat.le_of_ble_eq_true rfl) rfl (dk D_X5_seek 30 rfl) (fun qx4 => ?_)
      obtain ⟨μ6, hμ6, h⟩ := bd_some h
      refine r_iast (pc := 61) hX q_v5 qx4 hμ6 (dk D_X5_seek 31 rfl) ?_
      refine r_iinc (lv' := [(5, 0, (w32 (v5 + 1))), (0, 2, v0), (1, 2, v1), (2, 2, v2)]) (pc := 62) hX 3 rfl (by decide) rfl (dk D_X5_seek 32 rfl) ?_
      refine r_goto (pc := 65) hX 37 rfl (dk D_X5_seek 33 rfl) ?_
      refine r_sub (lv' := [(0, 2, v0), (1, 2, v1), (2, 2, v2), (5, 0, (w32 (v5 + 1)))]) [1, 2, 3, 0] rfl ?_
      exact ih v0 v1 v2 (w32 (v5 + 1)) μ6 (R32_w _) h
set_option maxRecDepth 100000 in
set_option maxHeartbeats 4000000 in
theorem L_To_seek {E : EX} {l : Launch} {a0 a1 a2 a3 a4 res : Int} {μ μ' : Mem} (q_a3 : R32 a3) (q_a4 : R32 a4) (h : To_seek a0 a1 a2 a3 a4 μ = some (res, μ')) : Ok E l 19 yX5_seek (.code yX5_seek cX5_seek 6 none) 0 0 [(2, a0), (2, a1), (2, a2), (0, a3), (0, a4)] μ none μ' := by
  refine Ok.of (own := "TollsBack$Tour") [(0, 2, a0), (1, 2, a1), (2, 2, a2), (3, 0, a3), (4, 0, a4)] (by decide +kernel) rfl (Nat.le_of_ble_eq_true rfl) rfl ?_
  intro X hL hRm hin hX hM
  unfold To_seek at h
  subst hL
  refine r_aloadn (pc := 0) hX 0 rfl (dk D_X5_seek 0 rfl) ?_
  obtain ⟨x1, hx1, h⟩ := bd_some h
  refine r_getR (pc := 1) hX fl_5_29 rfl hx1 (dk D_X5_seek 1 rfl) ?_
  refine r_aloadn (pc := 4) hX 2 rfl (dk D_X5_seek 2 rfl) ?_
  obtain ⟨_, hi, h⟩ := bd_some h
  obtain ⟨x2, μ3, hx2, h⟩ := bd2_some h
  refine r_invV0 (As := [(2, a2)]) (pc := 5) hX ml_5_33 (L_Tr_become hx2) (isk_u hi) (Rm_of hRm (by decide) ⟨by decide, by decide⟩) (by decide) rfl (Nat.le_of_ble_eq_true rfl) rfl (dk D_X5_seek 3 rfl) (fun _ => ?_)
  refine r_aloadn (pc := 8) hX 0 rfl (dk D_X5_seek 4 rfl) ?_
  refine r_iloadn (pc := 9) hX 3 rfl (dk D_X5_seek 5 rfl) ?_
  obtain ⟨μ4, hμ4, h⟩ := bd_some h
  refine r_putI (pc := 10) hX fl_5_37 rfl rfl q_a3 trivial hμ4 (dk D_X5_seek 6 rfl) ?_
  refine r_aloadn (pc := 13) hX 0 rfl (dk D_X5_seek 7 rfl) ?_
  refine r_iload (pc := 14) hX 4 rfl (dk D_X5_seek 8 rfl) ?_
  refine r_bipush (pc := 16) hX rfl (dk D_X5_seek 9 rfl) ?_
  obtain ⟨x5, μ6, hx5, h⟩ := bd2_some h
  refine r_invS0 (As := [(0, a4), (0, 8)]) (pc := 18) hX ml_5_41 (L_J_min q_a4 (R32_lit rfl) hx5) (Rm_of hRm (by decide) ⟨by decide, by decide⟩) (by decide) rfl (Nat.le_of_ble_eq_true rfl) rfl (dk D_X5_seek 10 rfl) (fun qx5 => ?_)
  obtain ⟨μ7, hμ7, h⟩ := bd_some h
  refine r_putI (pc := 21) hX fl_5_47 rfl rfl qx5 trivial hμ7 (dk D_X5_seek 11 rfl) ?_
  refine r_aloadn (pc := 24) hX 0 rfl (dk D_X5_seek 12 rfl) ?_
  refine r_iconst (pc := 25) hX (dk D_X5_seek 13 rfl) ?_
  obtain ⟨μ8, hμ8, h⟩ := bd_some h
  refine r_putI (pc := 26) hX fl_5_50 rfl rfl (R32_lit rfl) trivial hμ8 (dk D_X5_seek 14 rfl) ?_
  refine r_aloadn (pc := 29) hX 0 rfl (dk D_X5_seek 15 rfl) ?_
  refine r_iconst (pc := 30) hX (dk D_X5_seek 16 rfl) ?_
  obtain ⟨μ9, hμ9, h⟩ := bd_some h
  refine r_putI (pc := 31) hX fl_5_53 rfl rfl (R32_lit rfl) trivial hμ9 (dk D_X5_seek 17 rfl) ?_
  refine r_iconst (pc := 34) hX (dk D_X5_seek 18 rfl) ?_
  refine r_istore (lv' := [(5, 0, 0), (0, 2, a0), (1, 2, a1), (2, 2, a2), (3, 0, a3), (4, 0, a4)]) (pc := 35) hX (by decide) rfl (dk D_X5_seek 19 rfl) ?_
  refine r_sub (lv' := [(0, 2, a0), (1, 2, a1), (2, 2, a2), (5, 0, 0)]) [1, 2, 3, 0] rfl ?_
  refine L_To_seek_L37 hX hM hRm ?_ FU a0 a1 a2 0 μ9 (R32_lit rfl) h
  intro x10 x11 x12 μ13  h
  refine r_aloadn (pc := 68) hX 0 rfl (dk D_X5_seek 34 rfl) ?_
  refine r_aloadn (pc := 69) hX 1 rfl (dk D_X5_seek 35 rfl) ?_
  refine r_iconst (pc := 70) hX (dk D_X5_seek 36 rfl) ?_
  refine r_iconst (pc := 71) hX (dk D_X5_seek 37 rfl) ?_
  refine r_aloadn (pc := 72) hX 2 rfl (dk D_X5_seek 38 rfl) ?_
  obtain ⟨x14, hx14, h⟩ := bd_some h
  refine r_getI (pc := 73) hX fl_5_71 rfl rfl hx14 (dk D_X5_seek 39 rfl) (fun qx14 => ?_)
  refine r_ishl (pc := 76) hX (dk D_X5_seek 40 rfl) ?_
  obtain ⟨x15, μ16, hx15, h⟩ := bd2_some h
  refine r_invS0 (As := [(2, x10), (2, x11), (0, 0), (0, (shl32 1 x14))]) (pc := 77) hX ml_5_74 (L_To_explore 12 x10 x11 0 (shl32 1 x14) _ _ _ (R32_lit rfl) (R32_t _) hx15) (Rm_of hRm (by decide) ⟨by decide, by decide⟩) (by decide) rfl (Nat.le_of_ble_eq_true rfl) rfl (dk D_X5_seek 41 rfl) (fun _ => ?_)
  cases h
  exact r_return (pc := 80) hX hM ⟨by decide, by decide⟩ (dk D_X5_seek 42 rfl)
set_option maxRecDepth 100000 in
set_option maxHeartbeats 4000000 in
theorem L_Tr_begin {E : EX} {l : Launch} {a0 a1 a2 res : Int} {μ μ' : Mem} (q_a1 : R32 a1) (q_a2 : R32 a2) (h : Tr_begin a0 a1 a2 μ = some (res, μ')) : Ok E l 1 yX6_begin (.code yX6_begin cX6_begin 3 none) 0 0 [(2, a0), (0, a1), (0, a2)] μ none μ' := by
  refine Ok.of (own := "TollsBack$Traveller") [(0, 2, a0), (1, 0, a1), (2, 0, a2)] (by decide +kernel) rfl (Nat.le_of_ble_eq_true rfl) rfl ?_
  intro X hL hRm hin hX hM
  unfold Tr_begin at h
  subst hL
  refine r_aloadn (pc := 0) hX 0 rfl (dk D_X6_begin 0 rfl) ?_
  refine r_iloadn (pc := 1) hX 1 rfl (dk D_X6_begin 1 rfl) ?_
  obtain ⟨μ1, hμ1, h⟩ := bd_some h
  refine r_putI (pc := 2) hX fl_6_21 rfl rfl q_a1 trivial hμ1 (dk D_X6_begin 2 rfl) ?_
  refine r_aloadn (pc := 5) hX 0 rfl (dk D_X6_begin 3 rfl) ?_
  refine r_iconst (pc := 6) hX (dk D_X6_begin 4 rfl) ?_
  obtain ⟨μ2, hμ2, h⟩ := bd_some h
  refine r_putI (pc := 7) hX fl_6_25 rfl rfl (R32_lit rfl) trivial hμ2 (dk D_X6_begin 5 rfl) ?_
  refine r_aloadn (pc := 10) hX 0 rfl (dk D_X6_begin 6 rfl) ?_
  refine r_iloadn (pc := 11) hX 2 rfl (dk D_X6_begin 7 rfl) ?_
  obtain ⟨μ3, hμ3, h⟩ := bd_some h
  refine r_putI (pc := 12) hX fl_6_28 rfl rfl q_a2 trivial hμ3 (dk D_X6_begin 8 rfl) ?_
  refine r_aloadn (pc := 15) hX 0 rfl (dk D_X6_begin 9 rfl) ?_
  refine r_iconst (pc := 16) hX (dk D_X6_begin 10 rfl) ?_
  obtain ⟨μ4, hμ4, h⟩ := bd_some h
  refine r_putI (pc := 17) hX fl_6_31 rfl rfl (R32_lit rfl) trivial hμ4 (dk D_X6_begin 11 rfl) ?_
  refine r_aloadn (pc := 20) hX 0 rfl (dk D_X6_begin 12 rfl) ?_
  refine r_iconst (pc := 21) hX (dk D_X6_begin 13 rfl) ?_
  obtain ⟨μ5, hμ5, h⟩ := bd_some h
  refine r_putI (pc := 22) hX fl_6_34 rfl rfl (R32_lit rfl) trivial hμ5 (dk D_X6_begin 14 rfl) ?_
  refine r_aloadn (pc := 25) hX 0 rfl (dk D_X6_begin 15 rfl) ?_
  refine r_iconst (pc := 26) hX (dk D_X6_begin 16 rfl) ?_
  obtain ⟨μ6, hμ6, h⟩ := bd_some h
  refine r_putI (pc := 27) hX fl_6_37 rfl rfl (R32_lit rfl) trivial hμ6 (dk D_X6_begin 17 rfl) ?_
  cases h
  exact r_return (pc := 30) hX hM ⟨by decide, by decide⟩ (dk D_X6_begin 18 rfl)
set_option maxRecDepth 100000 in
set_option maxHeartbeats 4000000 in
theorem L_Tr_takeTopOf {E : EX} {l : Launch} {a0 a1 res : Int} {μ μ' : Mem}  (h : Tr_takeTopOf a0 a1 μ = some (res, μ')) : Ok E l 2 yX6_takeTopOf (.code yX6_takeTopOf cX6_takeTopOf 3 none) 0 0 [(2, a0), (2, a1)] μ none μ' := by
  refine Ok.of (own := "TollsBack$Traveller") [(0, 2, a0), (1, 2, a1)] (by decide +kernel) rfl (Nat.le_of_ble_eq_true rfl) rfl ?_
  intro X hL hRm hin hX hM
  unfold Tr_takeTopOf at h
  subst hL
  refine r_aloadn (pc := 0) hX 1 rfl (dk D_X6_takeTopOf 0 rfl) ?_
  obtain ⟨x1, hx1, h⟩ := bd_some h
  refine r_getI (pc := 1) hX fl_6_37 rfl rfl hx1 (dk D_X6_takeTopOf 1 rfl) (fun qx1 => ?_)
  refine r_iconst (pc := 4) hX (dk D_X6_takeTopOf 2 rfl) ?_
  refine r_isub (pc := 5) hX (dk D_X6_takeTopOf 3 rfl) ?_
  obtain ⟨x2, ex2, h⟩ := bd_some h
  replace ex2 := Option.some.inj ex2
  have qx2 : R32 x2 := ex2 ▸ (R32_w _)
  rw [ex2]
  refine r_istoren (lv' := [(2, 0, x2), (0, 2, a0), (1, 2, a1)]) (pc := 6) hX (by decide) rfl (dk D_X6_takeTopOf 4 rfl) ?_
  refine r_iloadn (pc := 7) hX 0 rfl (dk D_X6_takeTopOf 5 rfl) ?_
  refine r_if_lt (pc := 8) hX qx2 33 rfl (dk D_X6_takeTopOf 6 rfl) (fun hc => ?_) (fun hc => ?_)
  · rw [if_pos hc] at h
    cases h
    exact r_return (pc := 33) hX hM ⟨by decide, by decide⟩ (dk D_X6_takeTopOf 21 rfl)
  · rw [if_neg hc] at h
    refine r_aloadn (pc := 11) hX 1 rfl (dk D_X6_takeTopOf 7 rfl) ?_
    refine r_aloadn (pc := 12) hX 2 rfl (dk D_X6_takeTopOf 8 rfl) ?_
    obtain ⟨x3, hx3, h⟩ := bd_some h
    refine r_getR (pc := 13) hX fl_6_9 rfl hx3 (dk D_X6_takeTopOf 9 rfl) ?_
    refine r_iloadn (pc := 16) hX 0 rfl (dk D_X6_takeTopOf 10 rfl) ?_
    obtain ⟨x4, hx4, h⟩ := bd_some h
    refine r_iald (pc := 17) hX qx2 hx4 (dk D_X6_takeTopOf 11 rfl) (fun qx4 => ?_)
    refine r_aloadn (pc := 18) hX 2 rfl (dk D_X6_takeTopOf 12 rfl) ?_
    obtain ⟨x5, hx5, h⟩ := bd_some h
    refine r_getR (pc := 19) hX fl_6_15 rfl hx5 (dk D_X6_takeTopOf 13 rfl) ?_
    refine r_iloadn (pc := 22) hX 0 rfl (dk D_X6_takeTopOf 14 rfl) ?_
    obtain ⟨x6, hx6, h⟩ := bd_some h
    refine r_iald (pc := 23) hX qx2 hx6 (dk D_X6_takeTopOf 15 rfl) (fun qx6 => ?_)
    refine r_aloadn (pc := 24) hX 2 rfl (dk D_X6_takeTopOf 16 rfl) ?_
    obtain ⟨x7, hx7, h⟩ := bd_some h
    refine r_getR (pc := 25) hX fl_6_18 rfl hx7 (dk D_X6_takeTopOf 17 rfl) ?_
    refine r_iloadn (pc := 28) hX 0 rfl (dk D_X6_takeTopOf 18 rfl) ?_
    obtain ⟨x8, hx8, h⟩ := bd_some h
    refine r_iald (pc := 29) hX qx2 hx8 (dk D_X6_takeTopOf 19 rfl) (fun qx8 => ?_)
    obtain ⟨_, hi, h⟩ := bd_some h
    obtain ⟨x9, μ10, hx9, h⟩ := bd2_some h
    refine r_invV0 (As := [(0, x4), (0, x6), (0, x8)]) (pc := 30) hX ml_6_46 (L_Tr_push qx4 qx6 qx8 hx9) (isk_u hi) (Rm_of hRm (by decide) ⟨by decide, by decide⟩) (by decide) rfl (Nat.le_of_ble_eq_true rfl) rfl (dk D_X6_takeTopOf 20 rfl) (fun _ => ?_)
    cases h
    exact r_return (pc := 33) hX hM ⟨by decide, by decide⟩ (dk D_X6_takeTopOf 21 rfl)
set_option maxRecDepth 100000 in
set_option maxHeartbeats 4000000 in
theorem L_Tr_swapSlips {E : EX} {l : Launch} {a0 a1 res : Int} {μ μ' : Mem}  (h : Tr_swapSlips a0 a1 μ = some (res, μ')) : Ok E l 1 yX6_swapSlips (.code yX6_swapSlips cX6_swapSlips 6 none) 0 0 [(2, a0), (2, a1)] μ none μ' := by
  refine Ok.of (own := "TollsBack$Traveller") [(0, 2, a0), (1, 2, a1)] (by decide +kernel) rfl (Nat.le_of_ble_eq_true rfl) rfl ?_
  intro X hL hRm hin hX hM
  unfold Tr_swapSlips at h
  subst hL
  refine r_aloadn (pc := 0) hX 0 rfl (dk D_X6_swapSlips 0 rfl) ?_
  obtain ⟨x1, hx1, h⟩ := bd_some h
  refine r_getI (pc := 1) hX fl_6_37 rfl rfl hx1 (dk D_X6_swapSlips 1 rfl) (fun qx1 => ?_)
  refine r_istoren (lv' := [(2, 0, x1), (0, 2, a0), (1, 2, a1)]) (pc := 4) hX (by decide) rfl (dk D_X6_swapSlips 2 rfl) ?_
  refine r_aloadn (pc := 5) hX 1 rfl (dk D_X6_swapSlips 3 rfl) ?_
  obtain ⟨x2, hx2, h⟩ := bd_some h
  refine r_getR (pc := 6) hX fl_6_9 rfl hx2 (dk D_X6_swapSlips 4 rfl) ?_
  refine r_astoren (lv' := [(3, 2, x2), (2, 0, x1), (0, 2, a0), (1, 2, a1)]) (pc := 9) hX (by decide) rfl (dk D_X6_swapSlips 5 rfl) ?_
  refine r_aloadn (pc := 10) hX 2 rfl (dk D_X6_swapSlips 6 rfl) ?_
  obtain ⟨x3, hx3, h⟩ := bd_some h
  refine r_getR (pc := 11) hX fl_6_15 rfl hx3 (dk D_X6_swapSlips 7 rfl) ?_
  refine r_astore (lv' := [(4, 2, x3), (3, 2, x2), (2, 0, x1), (0, 2, a0), (1, 2, a1)]) (pc := 14) hX (by decide) rfl (dk D_X6_swapSlips 8 rfl) ?_
  refine r_aloadn (pc := 16) hX 3 rfl (dk D_X6_swapSlips 9 rfl) ?_
  obtain ⟨x4, hx4, h⟩ := bd_some h
  refine r_getR (pc := 17) hX fl_6_18 rfl hx4 (dk D_X6_swapSlips 10 rfl) ?_
  refine r_astore (lv' := [(5, 2, x4), (4, 2, x3), (3, 2, x2), (2, 0, x1), (0, 2, a0), (1, 2, a1)]) (pc := 20) hX (by decide) rfl (dk D_X6_swapSlips 11 rfl) ?_
  refine r_aloadn (pc := 22) hX 4 rfl (dk D_X6_swapSlips 12 rfl) ?_
  refine r_aloadn (pc := 23) hX 5 rfl (dk D_X6_swapSlips 13 rfl) ?_
  obtain ⟨x5, hx5, h⟩ := bd_some h
  refine r_getI (pc := 24) hX fl_6_37 rfl rfl hx5 (dk D_X6_swapSlips 14 rfl) (fun qx5 => ?_)
  obtain ⟨μ6, hμ6, h⟩ := bd_some h
  refine r_putI (pc := 27) hX fl_6_37 rfl rfl qx5 trivial hμ6 (dk D_X6_swapSlips 15 rfl) ?_
  refine r_aloadn (pc := 30) hX 4 rfl (dk D_X6_swapSlips 16 rfl) ?_
  refine r_aloadn (pc := 31) hX 5 rfl (dk D_X6_swapSlips 17 rfl) ?_
  obtain ⟨x7, hx7, h⟩ := bd_some h
  refine r_getR (pc := 32) hX fl_6_9 rfl hx7 (dk D_X6_swapSlips 18 rfl) ?_
  obtain ⟨μ8, hμ8, h⟩ := bd_some h
  refine r_putR (pc := 35) hX fl_6_9 rfl rfl trivial hμ8 (dk D_X6_swapSlips 19 rfl) ?_
  refine r_aloadn (pc := 38) hX 4 rfl (dk D_X6_swapSlips 20 rfl) ?_
  refine r_aloadn (pc := 39) hX 5 rfl (dk D_X6_swapSlips 21 rfl) ?_
  obtain ⟨x9, hx9, h⟩ := bd_some h
  refine r_getR (pc := 40) hX fl_6_15 rfl hx9 (dk D_X6_swapSlips 22 rfl) ?_
  obtain ⟨μ10, hμ10, h⟩ := bd_some h
  refine r_putR (pc := 43) hX fl_6_15 rfl rfl trivial hμ10 (dk D_X6_swapSlips 23 rfl) ?_
  refine r_aloadn (pc := 46) hX 4 rfl (dk D_X6_swapSlips 24 rfl) ?_
  refine r_aloadn (pc := 47) hX 5 rfl (dk D_X6_swapSlips 25 rfl) ?_
  obtain ⟨x11, hx11, h⟩ := bd_some h
  refine r_getR (pc := 48) hX fl_6_18 rfl hx11 (dk D_X6_swapSlips 26 rfl) ?_
  obtain ⟨μ12, hμ12, h⟩ := bd_some h
  refine r_putR (pc := 51) hX fl_6_18 rfl rfl trivial hμ12 (dk D_X6_swapSlips 27 rfl) ?_
  refine r_aloadn (pc := 54) hX 5 rfl (dk D_X6_swapSlips 28 rfl) ?_
  refine r_iloadn (pc := 55) hX 3 rfl (dk D_X6_swapSlips 29 rfl) ?_
  obtain ⟨μ13, hμ13, h⟩ := bd_some h
  refine r_putI (pc := 56) hX fl_6_37 rfl rfl qx1 trivial hμ13 (dk D_X6_swapSlips 30 rfl) ?_
  refine r_aloadn (pc := 59) hX 5 rfl (dk D_X6_swapSlips 31 rfl) ?_
  refine r_aloadn (pc := 60) hX 2 rfl (dk D_X6_swapSlips 32 rfl) ?_
  obtain ⟨μ14, hμ14, h⟩ := bd_some h
  refine r_putR (pc := 61) hX fl_6_9 rfl rfl trivial hμ14 (dk D_X6_swapSlips 33 rfl) ?_
  refine r_aloadn (pc := 64) hX 5 rfl (dk D_X6_swapSlips 34 rfl) ?_
  refine r_aload (pc := 65) hX 1 rfl (dk D_X6_swapSlips 35 rfl) ?_
  obtain ⟨μ15, hμ15, h⟩ := bd_some h
  refine r_putR (pc := 67) hX fl_6_15 rfl rfl trivial hμ15 (dk D_X6_swapSlips 36 rfl) ?_
  refine r_aloadn (pc := 70) hX 5 rfl (dk D_X6_swapSlips 37 rfl) ?_
  refine r_aload (pc := 71) hX 0 rfl (dk D_X6_swapSlips 38 rfl) ?_
  obtain ⟨μ16, hμ16, h⟩ := bd_some h
  refine r_putR (pc := 73) hX fl_6_18 rfl rfl trivial hμ16 (dk D_X6_swapSlips 39 rfl) ?_
  cases h
  exact r_return (pc := 76) hX hM ⟨by decide, by decide⟩ (dk D_X6_swapSlips 40 rfl)
set_option maxRecDepth 100000 in
set_option maxHeartbeats 4000000 in
theorem L_Te_init {E : EX} {l : Launch} {a0 res : Int} {μ μ' : Mem}  (h : Te_init a0 μ = some (res, μ')) : Ok E l 1 yX7_init (.code yX7_init cX7_init 1 none) 2 36 [(2, a0)] μ none μ' := by
  refine Ok.of (own := "TollsBack$Trees") [(0, 2, a0)] (by decide +kernel) rfl (Nat.le_of_ble_eq_true rfl) rfl ?_
  intro X hL hRm hin hX hM
  unfold Te_init at h
  subst hL
  refine r_aloadn (pc := 0) (cs := (0, 0)) hX 0 rfl (dk D_X7_init 0 rfl) ?_
  obtain ⟨_, hi, h⟩ := bd_some h
  refine r_objI (pc := 1) (cs := (0, 0)) hX (isk_nn hi (by decide)) ml_7_3 (Rm_of hRm (by decide) ⟨by (try dsimp only); omega, by (try dsimp only); omega⟩) (Nat.le_of_ble_eq_true rfl) (dk D_X7_init 1 rfl) ?_
  refine r_aloadn (pc := 4) (cs := (0, 0)) hX 0 rfl (dk D_X7_init 2 rfl) ?_
  refine r_bipush (pc := 5) (cs := (0, 0)) hX rfl (dk D_X7_init 3 rfl) ?_
  refine r_newI (N := 24) (pc := 7) (cs := (0, 0)) hX ac_int (by decide) (by rw [hRm]; exact ⟨by (show _ ≤ (rmOf _ _ _).cells); (simp only [rmOf]); omega, by (show _ ≤ (rmOf _ _ _).slots); (simp only [rmOf]); omega⟩) (dk D_X7_init 4 rfl) ?_
  obtain ⟨μ1, hμ1, h⟩ := bd_some h
  refine r_putF (pc := 9) (cs := (1, 24)) hX fl_7_9 (hin rfl) ⟨_, _, _, rfl, rfl⟩ rfl rfl trivial hμ1 (dk D_X7_init 5 rfl) ?_
  refine r_aloadn (pc := 12) (cs := (1, 24)) hX 0 rfl (dk D_X7_init 6 rfl) ?_
  refine r_bipush (pc := 13) (cs := (1, 24)) hX rfl (dk D_X7_init 7 rfl) ?_
  refine r_newI (N := 12) (pc := 15) (cs := (1, 24)) hX ac_int (by decide) (by rw [hRm]; exact ⟨by (show _ ≤ (rmOf _ _ _).cells); (simp only [rmOf]); omega, by (show _ ≤ (rmOf _ _ _).slots); (simp only [rmOf]); omega⟩) (dk D_X7_init 8 rfl) ?_
  obtain ⟨μ2, hμ2, h⟩ := bd_some h
  refine r_putF (pc := 17) (cs := (2, 36)) hX fl_7_15 (hin rfl) ⟨_, _, _, rfl, rfl⟩ rfl rfl trivial hμ2 (dk D_X7_init 9 rfl) ?_
  cases h
  exact r_return (pc := 20) hX hM ⟨by (try dsimp only); omega, by (try dsimp only); omega⟩ (dk D_X7_init 10 rfl)
set_option maxRecDepth 100000 in
set_option maxHeartbeats 4000000 in
theorem L_Te_sortRoads_L26 {E : EX} {X : CX} {res : Int} {μe : Mem} (hX : Good E X cX7_sortRoads 5 "TollsBack$Trees") (hM : GoodM E X (some .int) (some (0, res)) μe 0 0) (hRm : cR X = rmOf 2 0 0) {k82 : Int → Int → Int → Int → Int → Mem → Option (Int × Mem)} (hk82 : ∀ (u0 u1 u2 u3 u4 : Int) (μ : Mem), R32 u2 → R32 u3 → R32 u4 → k82 u0 u1 u2 u3 u4 μ = some (res, μe) → At E X cX7_sortRoads 5 "TollsBack$Trees" (0, 0) 82 [(0, 2, u0), (1, 2, u1), (2, 0, u2), (3, 0, u3), (4, 0, u4)] [] μ) : ∀ (n : Nat) (v0 v1 v2 v3 v4 : Int) (μ : Mem) (q_v2 : R32 v2) (q_v3 : R32 v3) (q_v4 : R32 v4) (h : Te_sortRoads_L26 k82 n v0 v1 v2 v3 v4 μ = some (res, μe)), At E X cX7_sortRoads 5 "TollsBack$Trees" (0, 0) 26 [(0, 2, v0), (1, 2, v1), (2, 0, v2), (3, 0, v3), (4, 0, v4)] [] μ := by
  intro n
  induction n with
  | zero =>
    intro v0 v1 v2 v3 v4 μ q_v2 q_v3 q_v4 h
    have h : (none : Option (Int × Mem)) = some (res, μe) := h
    cases h
  | succ n ih =>
    intro v0 v1 v2 v3 v4 μ q_v2 q_v3 q_v4 h
    rw [Te_sortRoads_L26.eq_2] at h
    refine r_iload (pc := 26) hX 4 rfl (dk D_X7_sortRoads 15 rfl) ?_
    refine r_if_le (pc := 28) hX q_v4 82 rfl (dk D_X7_sortRoads 16 rfl) (fun hc => ?_) (fun hc => ?_)
    · rw [if_neg hc] at h
      exact hk82 v0 v1 v2 v3 v4 μ q_v2 q_v3 q_v4 h
    · rw [if_pos hc] at h
      refine r_aloadn (pc := 31) hX 1 rfl (dk D_X7_sortRoads 17 rfl) ?_
      obtain ⟨x1, hx1, h⟩ := bd_some h
      refine r_getR (pc := 32) hX fl_7_22 rfl hx1 (dk D_X7_sortRoads 18 rfl) ?_
      obtain ⟨x2, hx2, h⟩ := bd_some h
      refine r_getR (pc := 35) hX fl_7_45 rfl hx2 (dk D_X7_sortRoads 19 rfl) ?_
      refine r_aloadn (pc := 38) hX 0 rfl (dk D_X7_sortRoads 20 rfl) ?_
      obtain ⟨x3, hx3, h⟩ := bd_some h
      refine r_getR (pc := 39) hX fl_7_9 rfl hx3 (dk D_X7_sortRoads 21 rfl) ?_
      refine r_iload (pc := 42) hX 4 rfl (dk D_X7_sortRoads 22 rfl) ?_
      refine r_iconst (pc := 44) hX (dk D_X7_sortRoads 23 rfl) ?_
      refine r_isub (pc := 45) hX (dk D_X7_sortRoads 24 rfl) ?_
      obtain ⟨x4, hx4, h⟩ := bd_some h
      refine r_iald (pc := 46) hX (R32_w _) hx4 (dk D_X7_sortRoads 25 rfl) (fun qx4 => ?_)
      obtain ⟨x5, hx5, h⟩ := bd_some h
      refine r_iald (pc := 47) hX qx4 hx5 (dk D_X7_sortRoads 26 rfl) (fun qx5 => ?_)
      refine r_aloadn (pc := 48) hX 1 rfl (dk D_X7_sortRoads 27 rfl) ?_
      obtain ⟨x6, hx6, h⟩ := bd_some h
      refine r_getR (pc := 49) hX fl_7_22 rfl hx6 (dk D_X7_sortRoads 28 rfl) ?_
      obtain ⟨x7, hx7, h⟩ := bd_some h
      refine r_getR (pc := 52) hX fl_7_45 rfl hx7 (dk D_X7_sortRoads 29 rfl) ?_
      refine r_iloadn (pc := 55) hX 3 rfl (dk D_X7_sortRoads 30 rfl) ?_
      obtain ⟨x8, hx8, h⟩ := bd_some h
      refine r_iald (pc := 56) hX q_v3 hx8 (dk D_X7_sortRoads 31 rfl) (fun qx8 => ?_)
      refine r_icmp_le (pc := 57) hX qx5 qx8 82 rfl (dk D_X7_sortRoads 32 rfl) (fun hc => ?_) (fun hc => ?_)
      · rw [if_neg hc] at h
        exact hk82 v0 v1 v2 v3 v4 μ q_v2 q_v3 q_v4 h
      · rw [if_pos hc] at h
        refine r_aloadn (pc := 60) hX 0 rfl (dk D_X7_sortRoads 33 rfl) ?_
        obtain ⟨x9, hx9, h⟩ := bd_some h
        refine r_getR (pc := 61) hX fl_7_9 rfl hx9 (dk D_X7_sortRoads 34 rfl) ?_
        refine r_iload (pc := 64) hX 4 rfl (dk D_X7_sortRoads 35 rfl) ?_
        refine r_aloadn (pc := 66) hX 0 rfl (dk D_X7_sortRoads 36 rfl) ?_
        obtain ⟨x10, hx10, h⟩ := bd_some h
        refine r_getR (pc := 67) hX fl_7_9 rfl hx10 (dk D_X7_sortRoads 37 rfl) ?_
        refine r_iload (pc := 70) hX 4 rfl (dk D_X7_sortRoads 38 rfl) ?_
        refine r_iconst (pc := 72) hX (dk D_X7_sortRoads 39 rfl) ?_
        refine r_isub (pc := 73) hX (dk D_X7_sortRoads 40 rfl) ?_
        obtain ⟨x11, hx11, h⟩ := bd_some h
        refine r_iald (pc := 74) hX (R32_w _) hx11 (dk D_X7_sortRoads 41 rfl) (fun qx11 => ?_)
        obtain ⟨μ12, hμ12, h⟩ := bd_some h
        refine r_iast (pc := 75) hX q_v4 qx11 hμ12 (dk D_X7_sortRoads 42 rfl) ?_
        refine r_iinc (lv' := [(4, 0, (w32 (v4 + (-1)))), (0, 2, v0), (1, 2, v1), (2, 0, v2), (3, 0, v3)]) (pc := 76) hX 4 rfl (by decide) rfl (dk D_X7_sortRoads 43 rfl) ?_
        refine r_goto (pc := 79) hX 26 rfl (dk D_X7_sortRoads 44 rfl) ?_
        refine r_sub (lv' := [(0, 2, v0), (1, 2, v1), (2, 0, v2), (3, 0, v3), (4, 0, (w32 (v4 + (-1))))]) [1, 2, 3, 4, 0] rfl ?_
        exact ih v0 v1 v2 v3 (w32 (v4 + (-1))) μ12 q_v2 q_v3 (R32_w _) h
set_option maxRecDepth 100000 in
set_option maxHeartbeats 4000000 in
theorem L_Te_sortRoads_J82 {E : EX} {X : CX} {res : Int} {μe : Mem} (hX : Good E X cX7_sortRoads 5 "TollsBack$Trees") (hM : GoodM E X (some .int) (some (0, res)) μe 0 0) (hRm : cR X = rmOf 2 0 0) {k93 : Int → Int → Int → Int → Mem → Option (Int × Mem)} (hk93 : ∀ (u0 u1 u2 u3 : Int) (μ : Mem), R32 u2 → R32 u3 → k93 u0 u1 u2 u3 μ = some (res, μe) → At E X cX7_sortRoads 5 "TollsBack$Trees" (0, 0) 93 [(0, 2, u0), (1, 2, u1), (2, 0, u2), (3, 0, u3)] [] μ) {v0 v1 v2 v3 v4 : Int} {μ : Mem} (q_v2 : R32 v2) (q_v3 : R32 v3) (q_v4 : R32 v4) (h : Te_sortRoads_J82 k93 v0 v1 v2 v3 v4 μ = some (res, μe)) : At E X cX7_sortRoads 5 "TollsBack$Trees" (0, 0) 82 [(0, 2, v0), (1, 2, v1), (2, 0, v2), (3, 0, v3), (4, 0, v4)] [] μ := by
  unfold Te_sortRoads_J82 at h
  refine r_aloadn (pc := 82) hX 0 rfl (dk D_X7_sortRoads 45 rfl) ?_
  obtain ⟨x1, hx1, h⟩ := bd_some h
  refine r_getR (pc := 83) hX fl_7_9 rfl hx1 (dk D_X7_sortRoads 46 rfl) ?_
  refine r_iload (pc := 86) hX 4 rfl (dk D_X7_sortRoads 47 rfl) ?_
  refine r_iloadn (pc := 88) hX 3 rfl (dk D_X7_sortRoads 48 rfl) ?_
  obtain ⟨μ2, hμ2, h⟩ := bd_some h
  refine r_iast (pc := 89) hX q_v4 q_v3 hμ2 (dk D_X7_sortRoads 49 rfl) ?_
  refine r_iinc (lv' := [(2, 0, (w32 (v2 + 1))), (0, 2, v0), (1, 2, v1), (3, 0, v3), (4, 0, v4)]) (pc := 90) hX 2 rfl (by decide) rfl (dk D_X7_sortRoads 50 rfl) ?_
  refine r_sub (lv' := [(0, 2, v0), (1, 2, v1), (2, 0, (w32 (v2 + 1))), (3, 0, v3)]) [1, 2, 0, 3] rfl ?_
  exact hk93 v0 v1 (w32 (v2 + 1)) v3 μ2 (R32_w _) q_v3 h
set_option maxRecDepth 100000 in
set_option maxHeartbeats 4000000 in
theorem L_Te_sortRoads_L4 {E : EX} {X : CX} {res : Int} {μe : Mem} (hX : Good E X cX7_sortRoads 5 "TollsBack$Trees") (hM : GoodM E X (some .int) (some (0, res)) μe 0 0) (hRm : cR X = rmOf 2 0 0) : ∀ (n : Nat) (v0 v1 v2 v3 : Int) (μ : Mem) (q_v2 : R32 v2) (q_v3 : R32 v3) (h : Te_sortRoads_L4 n v0 v1 v2 v3 μ = some (res, μe)), At E X cX7_sortRoads 5 "TollsBack$Trees" (0, 0) 4 [(0, 2, v0), (1, 2, v1), (2, 0, v2), (3, 0, v3)] [] μ := by
  intro n
  induction n with
  | zero =>
    intro v0 v1 v2 v3 μ q_v2 q_v3 h
    have h : (none : Option (Int × Mem)) = some (res, μe) := h
    cases h
  | succ n ih =>
    intro v0 v1 v2 v3 μ q_v2 q_v3 h
    rw [Te_sortRoads_L4.eq_2] at h
    refine r_iloadn (pc := 4) hX 3 rfl (dk D_X7_sortRoads 4 rfl) ?_
    refine r_aloadn (pc := 5) hX 1 rfl (dk D_X7_sortRoads 5 rfl) ?_
    obtain ⟨x1, hx1, h⟩ := bd_some h
    refine r_getR (pc := 6) hX fl_7_22 rfl hx1 (dk D_X7_sortRoads 6 rfl) ?_
    obtain ⟨x2, hx2, h⟩ := bd_some h
    refine r_getI (pc := 9) hX fl_7_38 rfl rfl hx2 (dk D_X7_sortRoads 7 rfl) (fun qx2 => ?_)
    refine r_icmp_ge (pc := 12) hX q_v3 qx2 99 rfl (dk D_X7_sortRoads 8 rfl) (fun hc => ?_) (fun hc => ?_)
    · rw [if_neg hc] at h
      refine r_iloadn (pc := 99) hX 2 rfl (dk D_X7_sortRoads 53 rfl) ?_
      cases h
      exact r_ireturn (pc := 100) hX q_v2 hM ⟨by decide, by decide⟩ (dk D_X7_sortRoads 54 rfl)
    · rw [if_pos hc] at h
      refine r_aloadn (pc := 15) hX 1 rfl (dk D_X7_sortRoads 9 rfl) ?_
      refine r_iloadn (pc := 16) hX 3 rfl (dk D_X7_sortRoads 10 rfl) ?_
      obtain ⟨_, hi, h⟩ := bd_some h
      obtain ⟨x3, μ4, hx3, h⟩ := bd2_some h
      refine r_invV0 (As := [(0, v3)]) (pc := 17) hX ml_7_41 (L_Wo_isOpen q_v3 hx3) (isk_u hi) (Rm_of hRm (by decide) ⟨by decide, by decide⟩) (by decide) rfl (Nat.le_of_ble_eq_true rfl) rfl (dk D_X7_sortRoads 11 rfl) (fun qx3 => ?_)
      refine r_if_eq (pc := 20) hX qx3 93 rfl (dk D_X7_sortRoads 12 rfl) (fun hc => ?_) (fun hc => ?_)
      · rw [if_pos hc] at h
        refine r_iinc (lv' := [(3, 0, (w32 (v3 + 1))), (0, 2, v0), (1, 2, v1), (2, 0, v2)]) (pc := 93) hX 3 rfl (by decide) rfl (dk D_X7_sortRoads 51 rfl) ?_
        refine r_goto (pc := 96) hX 4 rfl (dk D_X7_sortRoads 52 rfl) ?_
        refine r_sub (lv' := [(0, 2, v0), (1, 2, v1), (2, 0, v2), (3, 0, (w32 (v3 + 1)))]) [1, 2, 3, 0] rfl ?_
        exact ih v0 v1 v2 (w32 (v3 + 1)) μ4 q_v2 (R32_w _) h
      · rw [if_neg hc] at h
        refine r_iloadn (pc := 23) hX 2 rfl (dk D_X7_sortRoads 13 rfl) ?_
        refine r_istore (lv' := [(4, 0, v2), (0, 2, v0), (1, 2, v1), (2, 0, v2), (3, 0, v3)]) (pc := 24) hX (by decide) rfl (dk D_X7_sortRoads 14 rfl) ?_
        refine r_sub (lv' := [(0, 2, v0), (1, 2, v1), (2, 0, v2), (3, 0, v3), (4, 0, v2)]) [1, 2, 3, 4, 0] rfl ?_
        refine L_Te_sortRoads_L26 hX hM hRm ?_ FU v0 v1 v2 v3 v2 μ4 q_v2 q_v3 q_v2 h
        intro x5 x6 x7 x8 x9 μ10 qx7 qx8 qx9 h
        refine L_Te_sortRoads_J82 hX hM hRm ?_ qx7 qx8 qx9 h
        intro x11 x12 x13 x14 μ15 qx13 qx14 h
        refine r_iinc (lv' := [(3, 0, (w32 (x14 + 1))), (0, 2, x11), (1, 2, x12), (2, 0, x13)]) (pc := 93) hX 3 rfl (by decide) rfl (dk D_X7_sortRoads 51 rfl) ?_
        refine r_goto (pc := 96) hX 4 rfl (dk D_X7_sortRoads 52 rfl) ?_
        refine r_sub (lv' := [(0, 2, x11), (1, 2, x12), (2, 0, x13), (3, 0, (w32 (x14 + 1)))]) [1, 2, 3, 0] rfl ?_
        exact ih x11 x12 x13 (w32 (x14 + 1)) μ15 qx13 (R32_w _) h
set_option maxRecDepth 100000 in
set_option maxHeartbeats 4000000 in
theorem L_Te_sortRoads {E : EX} {l : Launch} {a0 a1 res : Int} {μ μ' : Mem}  (h : Te_sortRoads a0 a1 μ = some (res, μ')) : Ok E l 2 yX7_sortRoads (.code yX7_sortRoads cX7_sortRoads 5 (some .int)) 0 0 [(2, a0), (2, a1)] μ (some (0, res)) μ' := by
  refine Ok.of (own := "TollsBack$Trees") [(0, 2, a0), (1, 2, a1)] (by decide +kernel) rfl (Nat.le_of_ble_eq_true rfl) rfl ?_
  intro X hL hRm hin hX hM
  unfold Te_sortRoads at h
  subst hL
  refine r_iconst (pc := 0) hX (dk D_X7_sortRoads 0 rfl) ?_
  refine r_istoren (lv' := [(2, 0, 0), (0, 2, a0), (1, 2, a1)]) (pc := 1) hX (by decide) rfl (dk D_X7_sortRoads 1 rfl) ?_
  refine r_iconst (pc := 2) hX (dk D_X7_sortRoads 2 rfl) ?_
  refine r_istoren (lv' := [(3, 0, 0), (2, 0, 0), (0, 2, a0), (1, 2, a1)]) (pc := 3) hX (by decide) rfl (dk D_X7_sortRoads 3 rfl) ?_
  refine r_sub (lv' := [(0, 2, a0), (1, 2, a1), (2, 0, 0), (3, 0, 0)]) [2, 3, 1, 0] rfl ?_
  refine L_Te_sortRoads_L4 hX hM hRm FU a0 a1 0 0 μ (R32_lit rfl) (R32_lit rfl) h
set_option maxRecDepth 100000 in
set_option maxHeartbeats 4000000 in
theorem L_J_bitCount {E : EX} {l : Launch} {a0 res : Int} {μ μ' : Mem} (q_a0 : R32 a0) (h : J_bitCount a0 μ = some (res, μ')) : Ok E l 1 yJ6_bitCount_0f7a4 (.code yJ6_bitCount_0f7a4 cJ6_bitCount_0f7a4 1 (some .int)) 0 0 [(0, a0)] μ (some (0, res)) μ' := by
  refine Ok.of (own := "java/lang/Integer") [(0, 0, a0)] (by decide +kernel) rfl (Nat.le_of_ble_eq_true rfl) rfl ?_
  intro X hL hRm hin hX hM
  unfold J_bitCount at h
  subst hL
  refine r_iloadn (pc := 0) hX 0 rfl (dk D_J6_bitCount_0f7a4 0 rfl) ?_
  refine r_iloadn (pc := 1) hX 0 rfl (dk D_J6_bitCount_0f7a4 1 rfl) ?_
  refine r_iconst (pc := 2) hX (dk D_J6_bitCount_0f7a4 2 rfl) ?_
  refine r_iushr (pc := 3) hX (dk D_J6_bitCount_0f7a4 3 rfl) ?_
  refine r_ldcw (pc := 4) hX cn_J6_265 (dk D_J6_bitCount_0f7a4 4 rfl) ?_
  refine r_iand (pc := 7) hX (dk D_J6_bitCount_0f7a4 5 rfl) ?_
  refine r_isub (pc := 8) hX (dk D_J6_bitCount_0f7a4 6 rfl) ?_
  obtain ⟨x1, ex1, h⟩ := bd_some h
  replace ex1 := Option.some.inj ex1
  have qx1 : R32 x1 := ex1 ▸ (R32_w _)
  rw [ex1]
  refine r_istoren (lv' := [(0, 0, x1)]) (pc := 9) hX (by decide) rfl (dk D_J6_bitCount_0f7a4 7 rfl) ?_
  refine r_iloadn (pc := 10) hX 0 rfl (dk D_J6_bitCount_0f7a4 8 rfl) ?_
  refine r_ldcw (pc := 11) hX cn_J6_266 (dk D_J6_bitCount_0f7a4 9 rfl) ?_
  refine r_iand (pc := 14) hX (dk D_J6_bitCount_0f7a4 10 rfl) ?_
  refine r_iloadn (pc := 15) hX 0 rfl (dk D_J6_bitCount_0f7a4 11 rfl) ?_
  refine r_iconst (pc := 16) hX (dk D_J6_bitCount_0f7a4 12 rfl) ?_
  refine r_iushr (pc := 17) hX (dk D_J6_bitCount_0f7a4 13 rfl) ?_
  refine r_ldcw (pc := 18) hX cn_J6_266 (dk D_J6_bitCount_0f7a4 14 rfl) ?_
  refine r_iand (pc := 21) hX (dk D_J6_bitCount_0f7a4 15 rfl) ?_
  refine r_iadd (pc := 22) hX (dk D_J6_bitCount_0f7a4 16 rfl) ?_
  obtain ⟨x2, ex2, h⟩ := bd_some h
  replace ex2 := Option.some.inj ex2
  have qx2 : R32 x2 := ex2 ▸ (R32_w _)
  rw [ex2]
  refine r_istoren (lv' := [(0, 0, x2)]) (pc := 23) hX (by decide) rfl (dk D_J6_bitCount_0f7a4 17 rfl) ?_
  refine r_iloadn (pc := 24) hX 0 rfl (dk D_J6_bitCount_0f7a4 18 rfl) ?_
  refine r_iloadn (pc := 25) hX 0 rfl (dk D_J6_bitCount_0f7a4 19 rfl) ?_
  refine r_iconst (pc := 26) hX (dk D_J6_bitCount_0f7a4 20 rfl) ?_
  refine r_iushr (pc := 27) hX (dk D_J6_bitCount_0f7a4 21 rfl) ?_
  refine r_iadd (pc := 28) hX (dk D_J6_bitCount_0f7a4 22 rfl) ?_
  refine r_ldcw (pc := 29) hX cn_J6_267 (dk D_J6_bitCount_0f7a4 23 rfl) ?_
  refine r_iand (pc := 32) hX (dk D_J6_bitCount_0f7a4 24 rfl) ?_
  obtain ⟨x3, ex3, h⟩ := bd_some h
  replace ex3 := Option.some.inj ex3
  have qx3 : R32 x3 := ex3 ▸ (R32_t _)
  rw [ex3]
  refine r_istoren (lv' := [(0, 0, x3)]) (pc := 33) hX (by decide) rfl (dk D_J6_bitCount_0f7a4 25 rfl) ?_
  refine r_iloadn (pc := 34) hX 0 rfl (dk D_J6_bitCount_0f7a4 26 rfl) ?_
  refine r_iloadn (pc := 35) hX 0 rfl (dk D_J6_bitCount_0f7a4 27 rfl) ?_
  refine r_bipush (pc := 36) hX rfl (dk D_J6_bitCount_0f7a4 28 rfl) ?_
  refine r_iushr (pc := 38) hX (dk D_J6_bitCount_0f7a4 29 rfl) ?_
  refine r_iadd (pc := 39) hX (dk D_J6_bitCount_0f7a4 30 rfl) ?_
  obtain ⟨x4, ex4, h⟩ := bd_some h
  replace ex4 := Option.some.inj ex4
  have qx4 : R32 x4 := ex4 ▸ (R32_w _)
  rw [ex4]
  refine r_istoren (lv' := [(0, 0, x4)]) (pc := 40) hX (by decide) rfl (dk D_J6_bitCount_0f7a4 31 rfl) ?_
  refine r_iloadn (pc := 41) hX 0 rfl (dk D_J6_bitCount_0f7a4 32 rfl) ?_
  refine r_iloadn (pc := 42) hX 0 rfl (dk D_J6_bitCount_0f7a4 33 rfl) ?_
  refine r_bipush (pc := 43) hX rfl (dk D_J6_bitCount_0f7a4 34 rfl) ?_
  refine r_iushr (pc := 45) hX (dk D_J6_bitCount_0f7a4 35 rfl) ?_
  refine r_iadd (pc := 46) hX (dk D_J6_bitCount_0f7a4 36 rfl) ?_
  obtain ⟨x5, ex5, h⟩ := bd_some h
  replace ex5 := Option.some.inj ex5
  have qx5 : R32 x5 := ex5 ▸ (R32_w _)
  rw [ex5]
  refine r_istoren (lv' := [(0, 0, x5)]) (pc := 47) hX (by decide) rfl (dk D_J6_bitCount_0f7a4 37 rfl) ?_
  refine r_iloadn (pc := 48) hX 0 rfl (dk D_J6_bitCount_0f7a4 38 rfl) ?_
  refine r_bipush (pc := 49) hX rfl (dk D_J6_bitCount_0f7a4 39 rfl) ?_
  refine r_iand (pc := 51) hX (dk D_J6_bitCount_0f7a4 40 rfl) ?_
  cases h
  exact r_ireturn (pc := 52) hX (R32_t _) hM ⟨by decide, by decide⟩ (dk D_J6_bitCount_0f7a4 41 rfl)
set_option maxRecDepth 100000 in
set_option maxHeartbeats 4000000 in
theorem L_Te_unite_L2 {E : EX} {X : CX} {res : Int} {μe : Mem} (hX : Good E X cX7_unite 4 "TollsBack$Trees") (hM : GoodM E X none none μe 0 0) (hRm : cR X = rmOf 1 0 0) : ∀ (n : Nat) (v0 v1 v2 v3 : Int) (μ : Mem) (q_v2 : R32 v2) (q_v3 : R32 v3) (h : Te_unite_L2 n v0 v1 v2 v3 μ = some (res, μe)), At E X cX7_unite 4 "TollsBack$Trees" (0, 0) 2 [(0, 2, v0), (1, 2, v1), (2, 0, v2), (3, 0, v3)] [] μ := by
  intro n
  induction n with
  | zero =>
    intro v0 v1 v2 v3 μ q_v2 q_v3 h
    have h : (none : Option (Int × Mem)) = some (res, μe) := h
    cases h
  | succ n ih =>
    intro v0 v1 v2 v3 μ q_v2 q_v3 h
    rw [Te_unite_L2.eq_2] at h
    refine r_iloadn (pc := 2) hX 3 rfl (dk D_X7_unite 2 rfl) ?_
    refine r_aloadn (pc := 3) hX 1 rfl (dk D_X7_unite 3 rfl) ?_
    obtain ⟨x1, hx1, h⟩ := bd_some h
    refine r_getI (pc := 4) hX fl_7_28 rfl rfl hx1 (dk D_X7_unite 4 rfl) (fun qx1 => ?_)
    refine r_icmp_ge (pc := 7) hX q_v3 qx1 31 rfl (dk D_X7_unite 5 rfl) (fun hc => ?_) (fun hc => ?_)
    · rw [if_neg hc] at h
      cases h
      exact r_return (pc := 31) hX hM ⟨by decide, by decide⟩ (dk D_X7_unite 19 rfl)
    · rw [if_pos hc] at h
      refine r_iloadn (pc := 10) hX 2 rfl (dk D_X7_unite 6 rfl) ?_
      refine r_iloadn (pc := 11) hX 3 rfl (dk D_X7_unite 7 rfl) ?_
      refine r_ishr (pc := 12) hX (dk D_X7_unite 8 rfl) ?_
      refine r_iconst (pc := 13) hX (dk D_X7_unite 9 rfl) ?_
      refine r_iand (pc := 14) hX (dk D_X7_unite 10 rfl) ?_
      refine r_if_eq (pc := 15) hX (R32_t _) 25 rfl (dk D_X7_unite 11 rfl) (fun hc => ?_) (fun hc => ?_)
      · rw [if_pos hc] at h
        refine r_iinc (lv' := [(3, 0, (w32 (v3 + 1))), (0, 2, v0), (1, 2, v1), (2, 0, v2)]) (pc := 25) hX 3 rfl (by decide) rfl (dk D_X7_unite 17 rfl) ?_
        refine r_goto (pc := 28) hX 2 rfl (dk D_X7_unite 18 rfl) ?_
        refine r_sub (lv' := [(0, 2, v0), (1, 2, v1), (2, 0, v2), (3, 0, (w32 (v3 + 1)))]) [1, 2, 3, 0] rfl ?_
        exact ih v0 v1 v2 (w32 (v3 + 1)) μ q_v2 (R32_w _) h
      · rw [if_neg hc] at h
        refine r_aloadn (pc := 18) hX 0 rfl (dk D_X7_unite 12 rfl) ?_
        obtain ⟨x2, hx2, h⟩ := bd_some h
        refine r_getR (pc := 19) hX fl_7_15 rfl hx2 (dk D_X7_unite 13 rfl) ?_
        refine r_iloadn (pc := 22) hX 3 rfl (dk D_X7_unite 14 rfl) ?_
        refine r_iloadn (pc := 23) hX 2 rfl (dk D_X7_unite 15 rfl) ?_
        obtain ⟨μ3, hμ3, h⟩ := bd_some h
        refine r_iast (pc := 24) hX q_v3 q_v2 hμ3 (dk D_X7_unite 16 rfl) ?_
        refine r_iinc (lv' := [(3, 0, (w32 (v3 + 1))), (0, 2, v0), (1, 2, v1), (2, 0, v2)]) (pc := 25) hX 3 rfl (by decide) rfl (dk D_X7_unite 17 rfl) ?_
        refine r_goto (pc := 28) hX 2 rfl (dk D_X7_unite 18 rfl) ?_
        refine r_sub (lv' := [(0, 2, v0), (1, 2, v1), (2, 0, v2), (3, 0, (w32 (v3 + 1)))]) [1, 2, 3, 0] rfl ?_
        exact ih v0 v1 v2 (w32 (v3 + 1)) μ3 q_v2 (R32_w _) h
set_option maxRecDepth 100000 in
set_option maxHeartbeats 4000000 in
theorem L_Te_unite {E : EX} {l : Launch} {a0 a1 a2 res : Int} {μ μ' : Mem} (q_a2 : R32 a2) (h : Te_unite a0 a1 a2 μ = some (res, μ')) : Ok E l 1 yX7_unite (.code yX7_unite cX7_unite 4 none) 0 0 [(2, a0), (2, a1), (0, a2)] μ none μ' := by
  refine Ok.of (own := "TollsBack$Trees") [(0, 2, a0), (1, 2, a1), (2, 0, a2)] (by decide +kernel) rfl (Nat.le_of_ble_eq_true rfl) rfl ?_
  intro X hL hRm hin hX hM
  unfold Te_unite at h
  subst hL
  refine r_iconst (pc := 0) hX (dk D_X7_unite 0 rfl) ?_
  refine r_istoren (lv' := [(3, 0, 0), (0, 2, a0), (1, 2, a1), (2, 0, a2)]) (pc := 1) hX (by decide) rfl (dk D_X7_unite 1 rfl) ?_
  refine r_sub (lv' := [(0, 2, a0), (1, 2, a1), (2, 0, a2), (3, 0, 0)]) [1, 2, 3, 0] rfl ?_
  refine L_Te_unite_L2 hX hM hRm FU a0 a1 a2 0 μ q_a2 (R32_lit rfl) h
set_option maxRecDepth 100000 in
set_option maxHeartbeats 4000000 in
theorem L_Te_treeDays_L3 {E : EX} {X : CX} {res : Int} {μe : Mem} (hX : Good E X cX7_treeDays 10 "TollsBack$Trees") (hM : GoodM E X (some .int) (some (0, res)) μe 0 0) (hRm : cR X = rmOf 2 0 0) {k29 : Int → Int → Int → Int → Mem → Option (Int × Mem)} (hk29 : ∀ (u0 u1 u2 u3 : Int) (μ : Mem), R32 u2 → R32 u3 → k29 u0 u1 u2 u3 μ = some (res, μe) → At E X cX7_treeDays 10 "TollsBack$Trees" (0, 0) 29 [(0, 2, u0), (1, 2, u1), (2, 0, u2), (3, 0, u3)] [] μ) : ∀ (n : Nat) (v0 v1 v2 v3 v4 : Int) (μ : Mem) (q_v2 : R32 v2) (q_v3 : R32 v3) (q_v4 : R32 v4) (h : Te_treeDays_L3 k29 n v0 v1 v2 v3 v4 μ = some (res, μe)), At E X cX7_treeDays 10 "TollsBack$Trees" (0, 0) 3 [(0, 2, v0), (1, 2, v1), (2, 0, v2), (3, 0, v3), (4, 0, v4)] [] μ := by
  intro n
  induction n with
  | zero =>
    intro v0 v1 v2 v3 v4 μ q_v2 q_v3 q_v4 h
    have h : (none : Option (Int × Mem)) = some (res, μe) := h
    cases h
  | succ n ih =>
    intro v0 v1 v2 v3 v4 μ q_v2 q_v3 q_v4 h
    rw [Te_treeDays_L3.eq_2] at h
    refine r_iload (pc := 3) hX 4 rfl (dk D_X7_treeDays 2 rfl) ?_
    refine r_aloadn (pc := 5) hX 1 rfl (dk D_X7_treeDays 3 rfl) ?_
    obtain ⟨x1, hx1, h⟩ := bd_some h
    refine r_getI (pc := 6) hX fl_7_28 rfl rfl hx1 (dk D_X7_treeDays 4 rfl) (fun qx1 => ?_)
    refine r_icmp_ge (pc := 9) hX q_v4 qx1 29 rfl (dk D_X7_treeDays 5 rfl) (fun hc => ?_) (fun hc => ?_)
    · rw [if_neg hc] at h
      refine r_sub (lv' := [(0, 2, v0), (1, 2, v1), (2, 0, v2), (3, 0, v3)]) [0, 1, 2, 3] rfl ?_
      exact hk29 v0 v1 v2 v3 μ q_v2 q_v3 h
    · rw [if_pos hc] at h
      refine r_aloadn (pc := 12) hX 0 rfl (dk D_X7_treeDays 6 rfl) ?_
      obtain ⟨x2, hx2, h⟩ := bd_some h
      refine r_getR (pc := 13) hX fl_7_15 rfl hx2 (dk D_X7_treeDays 7 rfl) ?_
      refine r_iload (pc := 16) hX 4 rfl (dk D_X7_treeDays 8 rfl) ?_
      refine r_iconst (pc := 18) hX (dk D_X7_treeDays 9 rfl) ?_
      refine r_iload (pc := 19) hX 4 rfl (dk D_X7_treeDays 10 rfl) ?_
      refine r_ishl (pc := 21) hX (dk D_X7_treeDays 11 rfl) ?_
      obtain ⟨μ3, hμ3, h⟩ := bd_some h
      refine r_iast (pc := 22) hX q_v4 (R32_t _) hμ3 (dk D_X7_treeDays 12 rfl) ?_
      refine r_iinc (lv' := [(4, 0, (w32 (v4 + 1))), (0, 2, v0), (1, 2, v1), (2, 0, v2), (3, 0, v3)]) (pc := 23) hX 4 rfl (by decide) rfl (dk D_X7_treeDays 13 rfl) ?_
      refine r_goto (pc := 26) hX 3 rfl (dk D_X7_treeDays 14 rfl) ?_
      refine r_sub (lv' := [(0, 2, v0), (1, 2, v1), (2, 0, v2), (3, 0, v3), (4, 0, (w32 (v4 + 1)))]) [1, 2, 3, 4, 0] rfl ?_
      exact ih v0 v1 v2 v3 (w32 (v4 + 1)) μ3 q_v2 q_v3 (R32_w _) h
set_option maxRecDepth 100000 in
set_option maxHeartbeats 4000000 in
theorem L_Te_treeDays_L43 {E : EX} {X : CX} {res : Int} {μe : Mem} (hX : Good E X cX7_treeDays 10 "TollsBack$Trees") (hM : GoodM E X (some .int) (some (0, res)) μe 0 0) (hRm : cR X = rmOf 2 0 0) {k175 : Int → Int → Mem → Option (Int × Mem)} (hk175 : ∀ (u0 u1 : Int) (μ : Mem), R32 u0 → R32 u1 → k175 u0 u1 μ = some (res, μe) → At E X cX7_treeDays 10 "TollsBack$Trees" (0, 0) 175 [(4, 0, u0), (5, 0, u1)] [] μ) : ∀ (n : Nat) (v0 v1 v2 v3 v4 v5 v6 : Int) (μ : Mem) (q_v2 : R32 v2) (q_v3 : R32 v3) (q_v4 : R32 v4) (q_v5 : R32 v5) (q_v6 : R32 v6) (h : Te_treeDays_L43 k175 n v0 v1 v2 v3 v4 v5 v6 μ = some (res, μe)), At E X cX7_treeDays 10 "TollsBack$Trees" (0, 0) 43 [(0, 2, v0), (1, 2, v1), (2, 0, v2), (3, 0, v3), (4, 0, v4), (5, 0, v5), (6, 0, v6)] [] μ := by
  intro n
  induction n with
  | zero =>
    intro v0 v1 v2 v3 v4 v5 v6 μ q_v2 q_v3 q_v4 q_v5 q_v6 h
    have h : (none : Option (Int × Mem)) = some (res, μe) := h
    cases h
  | succ n ih =>
    intro v0 v1 v2 v3 v4 v5 v6 μ q_v2 q_v3 q_v4 q_v5 q_v6 h
    rw [Te_treeDays_L43.eq_2] at h
    refine r_iload (pc := 43) hX 6 rfl (dk D_X7_treeDays 24 rfl) ?_
    refine r_iloadn (pc := 45) hX 3 rfl (dk D_X7_treeDays 25 rfl) ?_
    refine r_icmp_ge (pc := 46) hX q_v6 q_v3 175 rfl (dk D_X7_treeDays 26 rfl) (fun hc => ?_) (fun hc => ?_)
    · rw [if_neg hc] at h
      refine r_sub (lv' := [(4, 0, v4), (5, 0, v5)]) [4, 5] rfl ?_
      exact hk175 v4 v5 μ q_v4 q_v5 h
    · rw [if_pos hc] at h
      refine r_iload (pc := 49) hX 5 rfl (dk D_X7_treeDays 27 rfl) ?_
      refine r_if_le (pc := 51) hX q_v5 175 rfl (dk D_X7_treeDays 28 rfl) (fun hc => ?_) (fun hc => ?_)
      · rw [if_neg hc] at h
        refine r_sub (lv' := [(4, 0, v4), (5, 0, v5)]) [4, 5] rfl ?_
        exact hk175 v4 v5 μ q_v4 q_v5 h
      · rw [if_pos hc] at h
        refine r_aloadn (pc := 54) hX 1 rfl (dk D_X7_treeDays 29 rfl) ?_
        obtain ⟨x1, hx1, h⟩ := bd_some h
        refine r_getR (pc := 55) hX fl_7_54 rfl hx1 (dk D_X7_treeDays 30 rfl) ?_
        refine r_aloadn (pc := 58) hX 0 rfl (dk D_X7_treeDays 31 rfl) ?_
        obtain ⟨x2, hx2, h⟩ := bd_some h
        refine r_getR (pc := 59) hX fl_7_9 rfl hx2 (dk D_X7_treeDays 32 rfl) ?_
        refine r_iload (pc := 62) hX 6 rfl (dk D_X7_treeDays 33 rfl) ?_
        obtain ⟨x3, hx3, h⟩ := bd_some h
        refine r_iald (pc := 64) hX q_v6 hx3 (dk D_X7_treeDays 34 rfl) (fun qx3 => ?_)
        obtain ⟨x4, hx4, h⟩ := bd_some h
        refine r_iald (pc := 65) hX qx3 hx4 (dk D_X7_treeDays 35 rfl) (fun qx4 => ?_)
        refine r_istore (lv' := [(7, 0, x4), (0, 2, v0), (1, 2, v1), (2, 0, v2), (3, 0, v3), (4, 0, v4), (5, 0, v5), (6, 0, v6)]) (pc := 66) hX (by decide) rfl (dk D_X7_treeDays 36 rfl) ?_
        refine r_aloadn (pc := 68) hX 2 rfl (dk D_X7_treeDays 37 rfl) ?_
        obtain ⟨x5, hx5, h⟩ := bd_some h
        refine r_getR (pc := 69) hX fl_7_57 rfl hx5 (dk D_X7_treeDays 38 rfl) ?_
        refine r_aloadn (pc := 72) hX 1 rfl (dk D_X7_treeDays 39 rfl) ?_
        obtain ⟨x6, hx6, h⟩ := bd_some h
        refine r_getR (pc := 73) hX fl_7_9 rfl hx6 (dk D_X7_treeDays 40 rfl) ?_
        refine r_iload (pc := 76) hX 7 rfl (dk D_X7_treeDays 41 rfl) ?_
        obtain ⟨x7, hx7, h⟩ := bd_some h
        refine r_iald (pc := 78) hX q_v6 hx7 (dk D_X7_treeDays 42 rfl) (fun qx7 => ?_)
        obtain ⟨x8, hx8, h⟩ := bd_some h
        refine r_iald (pc := 79) hX qx7 hx8 (dk D_X7_treeDays 43 rfl) (fun qx8 => ?_)
        refine r_istore (lv' := [(8, 0, x8), (7, 0, x4), (0, 2, v0), (1, 2, v1), (2, 0, v2), (3, 0, v3), (4, 0, v4), (5, 0, v5), (6, 0, v6)]) (pc := 80) hX (by decide) rfl (dk D_X7_treeDays 44 rfl) ?_
        refine r_iloadn (pc := 82) hX 4 rfl (dk D_X7_treeDays 45 rfl) ?_
        refine r_iload (pc := 83) hX 1 rfl (dk D_X7_treeDays 46 rfl) ?_
        refine r_ishr (pc := 85) hX (dk D_X7_treeDays 47 rfl) ?_
        refine r_iconst (pc := 86) hX (dk D_X7_treeDays 48 rfl) ?_
        refine r_iand (pc := 87) hX (dk D_X7_treeDays 49 rfl) ?_
        obtain ⟨y9, hb, h⟩ := bd_some h
        have hj : R32 y9 → At E X cX7_treeDays 10 "TollsBack$Trees" (0, 0) 105 [(0, 2, v0), (1, 2, v1), (2, 0, v2), (3, 0, v3), (4, 0, v4), (5, 0, v5), (6, 0, v6), (7, 0, x4), (8, 0, x8)] [(0, y9)] μ := by
          intro qy9
          clear hb
          refine r_istore (lv' := [(9, 0, y9), (0, 2, v0), (1, 2, v1), (2, 0, v2), (3, 0, v3), (4, 0, v4), (5, 0, v5), (6, 0, v6), (7, 0, x4), (8, 0, x8)]) (pc := 105) hX (by decide) rfl (dk D_X7_treeDays 60 rfl) ?_
          refine r_iload (pc := 107) hX 0 rfl (dk D_X7_treeDays 61 rfl) ?_
          refine r_if_eq (pc := 109) hX qy9 169 rfl (dk D_X7_treeDays 62 rfl) (fun hc => ?_) (fun hc => ?_)
          · rw [if_pos hc] at h
            refine r_iinc (lv' := [(6, 0, (w32 (v6 + 1))), (9, 0, y9), (0, 2, v0), (1, 2, v1), (2, 0, v2), (3, 0, v3), (4, 0, v4), (5, 0, v5), (7, 0, x4), (8, 0, x8)]) (pc := 169) hX 7 rfl (by decide) rfl (dk D_X7_treeDays 95 rfl) ?_
            refine r_goto (pc := 172) hX 43 rfl (dk D_X7_treeDays 96 rfl) ?_
            refine r_sub (lv' := [(0, 2, v0), (1, 2, v1), (2, 0, v2), (3, 0, v3), (4, 0, v4), (5, 0, v5), (6, 0, (w32 (v6 + 1)))]) [2, 3, 4, 5, 6, 7, 0] rfl ?_
            exact ih v0 v1 v2 v3 v4 v5 (w32 (v6 + 1)) μ q_v2 q_v3 q_v4 q_v5 (R32_w _) h
          · rw [if_neg hc] at h
            refine r_aloadn (pc := 112) hX 1 rfl (dk D_X7_treeDays 63 rfl) ?_
            obtain ⟨x10, hx10, h⟩ := bd_some h
            refine r_getR (pc := 113) hX fl_7_15 rfl hx10 (dk D_X7_treeDays 64 rfl) ?_
            refine r_iload (pc := 116) hX 8 rfl (dk D_X7_treeDays 65 rfl) ?_
            obtain ⟨x11, hx11, h⟩ := bd_some h
            refine r_iald (pc := 118) hX qx4 hx11 (dk D_X7_treeDays 66 rfl) (fun qx11 => ?_)
            refine r_aloadn (pc := 119) hX 1 rfl (dk D_X7_treeDays 67 rfl) ?_
            obtain ⟨x12, hx12, h⟩ := bd_some h
            refine r_getR (pc := 120) hX fl_7_15 rfl hx12 (dk D_X7_treeDays 68 rfl) ?_
            refine r_iload (pc := 123) hX 9 rfl (dk D_X7_treeDays 69 rfl) ?_
            obtain ⟨x13, hx13, h⟩ := bd_some h
            refine r_iald (pc := 125) hX qx8 hx13 (dk D_X7_treeDays 70 rfl) (fun qx13 => ?_)
            refine r_icmp_eq (pc := 126) hX qx11 qx13 169 rfl (dk D_X7_treeDays 71 rfl) (fun hc => ?_) (fun hc => ?_)
            · rw [if_pos hc] at h
              refine r_iinc (lv' := [(6, 0, (w32 (v6 + 1))), (9, 0, y9), (0, 2, v0), (1, 2, v1), (2, 0, v2), (3, 0, v3), (4, 0, v4), (5, 0, v5), (7, 0, x4), (8, 0, x8)]) (pc := 169) hX 7 rfl (by decide) rfl (dk D_X7_treeDays 95 rfl) ?_
              refine r_goto (pc := 172) hX 43 rfl (dk D_X7_treeDays 96 rfl) ?_
              refine r_sub (lv' := [(0, 2, v0), (1, 2, v1), (2, 0, v2), (3, 0, v3), (4, 0, v4), (5, 0, v5), (6, 0, (w32 (v6 + 1)))]) [2, 3, 4, 5, 6, 7, 0] rfl ?_
              exact ih v0 v1 v2 v3 v4 v5 (w32 (v6 + 1)) μ q_v2 q_v3 q_v4 q_v5 (R32_w _) h
            · rw [if_neg hc] at h
              refine r_aloadn (pc := 129) hX 1 rfl (dk D_X7_treeDays 72 rfl) ?_
              refine r_aloadn (pc := 130) hX 2 rfl (dk D_X7_treeDays 73 rfl) ?_
              refine r_aloadn (pc := 131) hX 1 rfl (dk D_X7_treeDays 74 rfl) ?_
              obtain ⟨x14, hx14, h⟩ := bd_some h
              refine r_getR (pc := 132) hX fl_7_15 rfl hx14 (dk D_X7_treeDays 75 rfl) ?_
              refine r_iload (pc := 135) hX 8 rfl (dk D_X7_treeDays 76 rfl) ?_
              obtain ⟨x15, hx15, h⟩ := bd_some h
              refine r_iald (pc := 137) hX qx4 hx15 (dk D_X7_treeDays 77 rfl) (fun qx15 => ?_)
              refine r_aloadn (pc := 138) hX 1 rfl (dk D_X7_treeDays 78 rfl) ?_
              obtain ⟨x16, hx16, h⟩ := bd_some h
              refine r_getR (pc := 139) hX fl_7_15 rfl hx16 (dk D_X7_treeDays 79 rfl) ?_
              refine r_iload (pc := 142) hX 9 rfl (dk D_X7_treeDays 80 rfl) ?_
              obtain ⟨x17, hx17, h⟩ := bd_some h
              refine r_iald (pc := 144) hX qx8 hx17 (dk D_X7_treeDays 81 rfl) (fun qx17 => ?_)
              refine r_ior (pc := 145) hX (dk D_X7_treeDays 82 rfl) ?_
              obtain ⟨_, hi, h⟩ := bd_some h
              obtain ⟨x18, μ19, hx18, h⟩ := bd2_some h
              refine r_invV0 (As := [(2, v1), (0, (or32 x15 x17))]) (pc := 146) hX ml_7_60 (L_Te_unite (R32_t _) hx18) (isk_u hi) (Rm_of hRm (by decide) ⟨by decide, by decide⟩) (by decide) rfl (Nat.le_of_ble_eq_true rfl) rfl (dk D_X7_treeDays 83 rfl) (fun _ => ?_)
              refine r_iload (pc := 149) hX 5 rfl (dk D_X7_treeDays 84 rfl) ?_
              refine r_aloadn (pc := 151) hX 2 rfl (dk D_X7_treeDays 85 rfl) ?_
              obtain ⟨x20, hx20, h⟩ := bd_some h
              refine r_getR (pc := 152) hX fl_7_45 rfl hx20 (dk D_X7_treeDays 86 rfl) ?_
              refine r_aloadn (pc := 155) hX 1 rfl (dk D_X7_treeDays 87 rfl) ?_
              obtain ⟨x21, hx21, h⟩ := bd_some h
              refine r_getR (pc := 156) hX fl_7_9 rfl hx21 (dk D_X7_treeDays 88 rfl) ?_
              refine r_iload (pc := 159) hX 7 rfl (dk D_X7_treeDays 89 rfl) ?_
              obtain ⟨x22, hx22, h⟩ := bd_some h
              refine r_iald (pc := 161) hX q_v6 hx22 (dk D_X7_treeDays 90 rfl) (fun qx22 => ?_)
              obtain ⟨x23, hx23, h⟩ := bd_some h
              refine r_iald (pc := 162) hX qx22 hx23 (dk D_X7_treeDays 91 rfl) (fun qx23 => ?_)
              refine r_iadd (pc := 163) hX (dk D_X7_treeDays 92 rfl) ?_
              obtain ⟨x24, ex24, h⟩ := bd_some h
              replace ex24 := Option.some.inj ex24
              have qx24 : R32 x24 := ex24 ▸ (R32_w _)
              rw [ex24]
              refine r_istore (lv' := [(4, 0, x24), (9, 0, y9), (0, 2, v0), (1, 2, v1), (2, 0, v2), (3, 0, v3), (5, 0, v5), (6, 0, v6), (7, 0, x4), (8, 0, x8)]) (pc := 164) hX (by decide) rfl (dk D_X7_treeDays 93 rfl) ?_
              refine r_iinc (lv' := [(5, 0, (w32 (v5 + (-1)))), (4, 0, x24), (9, 0, y9), (0, 2, v0), (1, 2, v1), (2, 0, v2), (3, 0, v3), (6, 0, v6), (7, 0, x4), (8, 0, x8)]) (pc := 166) hX 6 rfl (by decide) rfl (dk D_X7_treeDays 94 rfl) ?_
              refine r_iinc (lv' := [(6, 0, (w32 (v6 + 1))), (5, 0, (w32 (v5 + (-1)))), (4, 0, x24), (9, 0, y9), (0, 2, v0), (1, 2, v1), (2, 0, v2), (3, 0, v3), (7, 0, x4), (8, 0, x8)]) (pc := 169) hX 7 rfl (by decide) rfl (dk D_X7_treeDays 95 rfl) ?_
              refine r_goto (pc := 172) hX 43 rfl (dk D_X7_treeDays 96 rfl) ?_
              refine r_sub (lv' := [(0, 2, v0), (1, 2, v1), (2, 0, v2), (3, 0, v3), (4, 0, x24), (5, 0, (w32 (v5 + (-1)))), (6, 0, (w32 (v6 + 1)))]) [4, 5, 6, 7, 2, 1, 0] rfl ?_
              exact ih v0 v1 v2 v3 x24 (w32 (v5 + (-1))) (w32 (v6 + 1)) μ19 q_v2 q_v3 qx24 (R32_w _) (R32_w _) h
        clear h
        have h := hb
        clear hb
        refine r_if_eq (pc := 88) hX (R32_t _) 104 rfl (dk D_X7_treeDays 50 rfl) (fun hc => ?_) (fun hc => ?_)
        · rw [if_pos hc] at h
          refine r_iconst (pc := 104) hX (dk D_X7_treeDays 59 rfl) ?_
          replace h := Option.some.inj h
          subst y9
          refine r_sub (lv' := [(0, 2, v0), (1, 2, v1), (2, 0, v2), (3, 0, v3), (4, 0, v4), (5, 0, v5), (6, 0, v6), (7, 0, x4), (8, 0, x8)]) [2, 3, 4, 5, 6, 7, 8, 1, 0] rfl ?_
          exact hj (R32_lit rfl)
        · rw [if_neg hc] at h
          refine r_iloadn (pc := 91) hX 4 rfl (dk D_X7_treeDays 51 rfl) ?_
          refine r_iload (pc := 92) hX 0 rfl (dk D_X7_treeDays 52 rfl) ?_
          refine r_ishr (pc := 94) hX (dk D_X7_treeDays 53 rfl) ?_
          refine r_iconst (pc := 95) hX (dk D_X7_treeDays 54 rfl) ?_
          refine r_iand (pc := 96) hX (dk D_X7_treeDays 55 rfl) ?_
          refine r_if_eq (pc := 97) hX (R32_t _) 104 rfl (dk D_X7_treeDays 56 rfl) (fun hc => ?_) (fun hc => ?_)
          · rw [if_pos hc] at h
            refine r_iconst (pc := 104) hX (dk D_X7_treeDays 59 rfl) ?_
            replace h := Option.some.inj h
            subst y9
            refine r_sub (lv' := [(0, 2, v0), (1, 2, v1), (2, 0, v2), (3, 0, v3), (4, 0, v4), (5, 0, v5), (6, 0, v6), (7, 0, x4), (8, 0, x8)]) [2, 3, 4, 5, 6, 7, 8, 1, 0] rfl ?_
            exact hj (R32_lit rfl)
          · rw [if_neg hc] at h
            refine r_iconst (pc := 100) hX (dk D_X7_treeDays 57 rfl) ?_
            refine r_goto (pc := 101) hX 105 rfl (dk D_X7_treeDays 58 rfl) ?_
            replace h := Option.some.inj h
            subst y9
            refine r_sub (lv' := [(0, 2, v0), (1, 2, v1), (2, 0, v2), (3, 0, v3), (4, 0, v4), (5, 0, v5), (6, 0, v6), (7, 0, x4), (8, 0, x8)]) [2, 3, 4, 5, 6, 7, 8, 1, 0] rfl ?_
            exact hj (R32_lit rfl)
set_option maxRecDepth 100000 in
set_option maxHeartbeats 4000000 in
theorem L_Te_treeDays_J175 {E : EX} {X : CX} {res : Int} {μe : Mem} (hX : Good E X cX7_treeDays 10 "TollsBack$Trees") (hM : GoodM E X (some .int) (some (0, res)) μe 0 0) (hRm : cR X = rmOf 2 0 0) {v4 v5 : Int} {μ : Mem} (q_v4 : R32 v4) (q_v5 : R32 v5) (h : Te_treeDays_J175 v4 v5 μ = some (res, μe)) : At E X cX7_treeDays 10 "TollsBack$Trees" (0, 0) 175 [(4, 0, v4), (5, 0, v5)] [] μ := by
  unfold Te_treeDays_J175 at h
  refine r_iload (pc := 175) hX 1 rfl (dk D_X7_treeDays 97 rfl) ?_
  refine r_if_ne (pc := 177) hX q_v5 185 rfl (dk D_X7_treeDays 98 rfl) (fun hc => ?_) (fun hc => ?_)
  · rw [if_neg hc] at h
    refine r_iconst (pc := 185) hX (dk D_X7_treeDays 101 rfl) ?_
    cases h
    exact r_ireturn (pc := 186) hX (R32_lit rfl) hM ⟨by decide, by decide⟩ (dk D_X7_treeDays 102 rfl)
  · rw [if_pos hc] at h
    refine r_iload (pc := 180) hX 0 rfl (dk D_X7_treeDays 99 rfl) ?_
    refine r_goto (pc := 182) hX 186 rfl (dk D_X7_treeDays 100 rfl) ?_
    cases h
    exact r_ireturn (pc := 186) hX q_v4 hM ⟨by decide, by decide⟩ (dk D_X7_treeDays 102 rfl)
set_option maxRecDepth 100000 in
set_option maxHeartbeats 4000000 in
theorem L_Te_treeDays {E : EX} {l : Launch} {a0 a1 a2 a3 res : Int} {μ μ' : Mem} (q_a2 : R32 a2) (q_a3 : R32 a3) (h : Te_treeDays a0 a1 a2 a3 μ = some (res, μ')) : Ok E l 2 yX7_treeDays (.code yX7_treeDays cX7_treeDays 10 (some .int)) 0 0 [(2, a0), (2, a1), (0, a2), (0, a3)] μ (some (0, res)) μ' := by
  refine Ok.of (own := "TollsBack$Trees") [(0, 2, a0), (1, 2, a1), (2, 0, a2), (3, 0, a3)] (by decide +kernel) rfl (Nat.le_of_ble_eq_true rfl) rfl ?_
  intro X hL hRm hin hX hM
  unfold Te_treeDays at h
  subst hL
  refine r_iconst (pc := 0) hX (dk D_X7_treeDays 0 rfl) ?_
  refine r_istore (lv' := [(4, 0, 0), (0, 2, a0), (1, 2, a1), (2, 0, a2), (3, 0, a3)]) (pc := 1) hX (by decide) rfl (dk D_X7_treeDays 1 rfl) ?_
  refine r_sub (lv' := [(0, 2, a0), (1, 2, a1), (2, 0, a2), (3, 0, a3), (4, 0, 0)]) [1, 2, 3, 4, 0] rfl ?_
  refine L_Te_treeDays_L3 hX hM hRm ?_ FU a0 a1 a2 a3 0 μ q_a2 q_a3 (R32_lit rfl) h
  intro x1 x2 x3 x4 μ5 qx3 qx4 h
  refine r_iconst (pc := 29) hX (dk D_X7_treeDays 15 rfl) ?_
  refine r_istore (lv' := [(4, 0, 0), (0, 2, x1), (1, 2, x2), (2, 0, x3), (3, 0, x4)]) (pc := 30) hX (by decide) rfl (dk D_X7_treeDays 16 rfl) ?_
  refine r_iloadn (pc := 32) hX 3 rfl (dk D_X7_treeDays 17 rfl) ?_
  obtain ⟨x6, μ7, hx6, h⟩ := bd2_some h
  refine r_invS0 (As := [(0, x3)]) (pc := 33) hX ml_7_48 (L_J_bitCount qx3 hx6) (Rm_of hRm (by decide) ⟨by decide, by decide⟩) (by decide) rfl (Nat.le_of_ble_eq_true rfl) rfl (dk D_X7_treeDays 18 rfl) (fun qx6 => ?_)
  refine r_iconst (pc := 36) hX (dk D_X7_treeDays 19 rfl) ?_
  refine r_isub (pc := 37) hX (dk D_X7_treeDays 20 rfl) ?_
  obtain ⟨x8, ex8, h⟩ := bd_some h
  replace ex8 := Option.some.inj ex8
  have qx8 : R32 x8 := ex8 ▸ (R32_w _)
  rw [ex8]
  refine r_istore (lv' := [(5, 0, x8), (4, 0, 0), (0, 2, x1), (1, 2, x2), (2, 0, x3), (3, 0, x4)]) (pc := 38) hX (by decide) rfl (dk D_X7_treeDays 21 rfl) ?_
  refine r_iconst (pc := 40) hX (dk D_X7_treeDays 22 rfl) ?_
  refine r_istore (lv' := [(6, 0, 0), (5, 0, x8), (4, 0, 0), (0, 2, x1), (1, 2, x2), (2, 0, x3), (3, 0, x4)]) (pc := 41) hX (by decide) rfl (dk D_X7_treeDays 23 rfl) ?_
  refine r_sub (lv' := [(0, 2, x1), (1, 2, x2), (2, 0, x3), (3, 0, x4), (4, 0, 0), (5, 0, x8), (6, 0, 0)]) [3, 4, 5, 6, 2, 1, 0] rfl ?_
  refine L_Te_treeDays_L43 hX hM hRm ?_ FU x1 x2 x3 x4 0 x8 0 μ7 qx3 qx4 (R32_lit rfl) qx8 (R32_lit rfl) h
  intro x9 x10 μ11 qx9 qx10 h
  refine L_Te_treeDays_J175 hX hM hRm qx9 qx10 h
set_option maxRecDepth 100000 in
set_option maxHeartbeats 4000000 in
theorem L_Te_leastDays_L12 {E : EX} {X : CX} {res : Int} {μe : Mem} (hX : Good E X cX7_leastDays 7 "TollsBack$Trees") (hM : GoodM E X (some .int) (some (0, res)) μe 0 0) (hRm : cR X = rmOf 3 0 0) : ∀ (n : Nat) (v0 v1 v2 v3 v4 v5 : Int) (μ : Mem) (q_v2 : R32 v2) (q_v3 : R32 v3) (q_v4 : R32 v4) (q_v5 : R32 v5) (h : Te_leastDays_L12 n v0 v1 v2 v3 v4 v5 μ = some (res, μe)), At E X cX7_leastDays 7 "TollsBack$Trees" (0, 0) 12 [(0, 2, v0), (1, 2, v1), (2, 0, v2), (3, 0, v3), (4, 0, v4), (5, 0, v5)] [] μ := by
  intro n
  induction n with
  | zero =>
    intro v0 v1 v2 v3 v4 v5 μ q_v2 q_v3 q_v4 q_v5 h
    have h : (none : Option (Int × Mem)) = some (res, μe) := h
    cases h
  | succ n ih =>
    intro v0 v1 v2 v3 v4 v5 μ q_v2 q_v3 q_v4 q_v5 h
    rw [Te_leastDays_L12.eq_2] at h
    refine r_iload (pc := 12) hX 5 rfl (dk D_X7_leastDays 8 rfl) ?_
    refine r_iconst (pc := 14) hX (dk D_X7_leastDays 9 rfl) ?_
    refine r_aloadn (pc := 15) hX 1 rfl (dk D_X7_leastDays 10 rfl) ?_
    obtain ⟨x1, hx1, h⟩ := bd_some h
    refine r_getR (pc := 16) hX fl_7_22 rfl hx1 (dk D_X7_leastDays 11 rfl) ?_
    obtain ⟨x2, hx2, h⟩ := bd_some h
    refine r_getI (pc := 19) hX fl_7_28 rfl rfl hx2 (dk D_X7_leastDays 12 rfl) (fun qx2 => ?_)
    refine r_ishl (pc := 22) hX (dk D_X7_leastDays 13 rfl) ?_
    refine r_icmp_ge (pc := 23) hX q_v5 (R32_t _) 76 rfl (dk D_X7_leastDays 14 rfl) (fun hc => ?_) (fun hc => ?_)
    · rw [if_neg hc] at h
      refine r_iload (pc := 76) hX 4 rfl (dk D_X7_leastDays 40 rfl) ?_
      cases h
      exact r_ireturn (pc := 78) hX q_v4 hM ⟨by decide, by decide⟩ (dk D_X7_leastDays 41 rfl)
    · rw [if_pos hc] at h
      refine r_iload (pc := 26) hX 5 rfl (dk D_X7_leastDays 15 rfl) ?_
      refine r_iloadn (pc := 28) hX 2 rfl (dk D_X7_leastDays 16 rfl) ?_
      refine r_iand (pc := 29) hX (dk D_X7_leastDays 17 rfl) ?_
      refine r_iloadn (pc := 30) hX 2 rfl (dk D_X7_leastDays 18 rfl) ?_
      refine r_icmp_ne (pc := 31) hX (R32_t _) q_v2 70 rfl (dk D_X7_leastDays 19 rfl) (fun hc => ?_) (fun hc => ?_)
      · rw [if_neg hc] at h
        refine r_iinc (lv' := [(5, 0, (w32 (v5 + 1))), (0, 2, v0), (1, 2, v1), (2, 0, v2), (3, 0, v3), (4, 0, v4)]) (pc := 70) hX 5 rfl (by decide) rfl (dk D_X7_leastDays 38 rfl) ?_
        refine r_goto (pc := 73) hX 12 rfl (dk D_X7_leastDays 39 rfl) ?_
        refine r_sub (lv' := [(0, 2, v0), (1, 2, v1), (2, 0, v2), (3, 0, v3), (4, 0, v4), (5, 0, (w32 (v5 + 1)))]) [1, 2, 3, 4, 5, 0] rfl ?_
        exact ih v0 v1 v2 v3 v4 (w32 (v5 + 1)) μ q_v2 q_v3 q_v4 (R32_w _) h
      · rw [if_pos hc] at h
        refine r_aloadn (pc := 34) hX 0 rfl (dk D_X7_leastDays 20 rfl) ?_
        refine r_aloadn (pc := 35) hX 1 rfl (dk D_X7_leastDays 21 rfl) ?_
        obtain ⟨x3, hx3, h⟩ := bd_some h
        refine r_getR (pc := 36) hX fl_7_22 rfl hx3 (dk D_X7_leastDays 22 rfl) ?_
        refine r_iload (pc := 39) hX 5 rfl (dk D_X7_leastDays 23 rfl) ?_
        refine r_iloadn (pc := 41) hX 3 rfl (dk D_X7_leastDays 24 rfl) ?_
        obtain ⟨_, hi, h⟩ := bd_some h
        obtain ⟨x4, μ5, hx4, h⟩ := bd2_some h
        refine r_invV0 (As := [(2, x3), (0, v5), (0, v3)]) (pc := 42) hX ml_7_34 (L_Te_treeDays q_v5 q_v3 hx4) (isk_u hi) (Rm_of hRm (by decide) ⟨by decide, by decide⟩) (by decide) rfl (Nat.le_of_ble_eq_true rfl) rfl (dk D_X7_leastDays 25 rfl) (fun qx4 => ?_)
        refine r_istore (lv' := [(6, 0, x4), (0, 2, v0), (1, 2, v1), (2, 0, v2), (3, 0, v3), (4, 0, v4), (5, 0, v5)]) (pc := 45) hX (by decide) rfl (dk D_X7_leastDays 26 rfl) ?_
        refine r_iload (pc := 47) hX 0 rfl (dk D_X7_leastDays 27 rfl) ?_
        refine r_iconst (pc := 49) hX (dk D_X7_leastDays 28 rfl) ?_
        refine r_icmp_eq (pc := 50) hX qx4 (R32_lit rfl) 70 rfl (dk D_X7_leastDays 29 rfl) (fun hc => ?_) (fun hc => ?_)
        · rw [if_pos hc] at h
          refine r_iinc (lv' := [(5, 0, (w32 (v5 + 1))), (6, 0, x4), (0, 2, v0), (1, 2, v1), (2, 0, v2), (3, 0, v3), (4, 0, v4)]) (pc := 70) hX 6 rfl (by decide) rfl (dk D_X7_leastDays 38 rfl) ?_
          refine r_goto (pc := 73) hX 12 rfl (dk D_X7_leastDays 39 rfl) ?_
          refine r_sub (lv' := [(0, 2, v0), (1, 2, v1), (2, 0, v2), (3, 0, v3), (4, 0, v4), (5, 0, (w32 (v5 + 1)))]) [2, 3, 4, 5, 6, 0] rfl ?_
          exact ih v0 v1 v2 v3 v4 (w32 (v5 + 1)) μ5 q_v2 q_v3 q_v4 (R32_w _) h
        · rw [if_neg hc] at h
          refine r_iload (pc := 53) hX 5 rfl (dk D_X7_leastDays 30 rfl) ?_
          refine r_iconst (pc := 55) hX (dk D_X7_leastDays 31 rfl) ?_
          refine r_icmp_eq (pc := 56) hX q_v4 (R32_lit rfl) 66 rfl (dk D_X7_leastDays 32 rfl) (fun hc => ?_) (fun hc => ?_)
          · rw [if_pos hc] at h
            refine r_iload (pc := 66) hX 0 rfl (dk D_X7_leastDays 36 rfl) ?_
            refine r_istore (lv' := [(4, 0, x4), (6, 0, x4), (0, 2, v0), (1, 2, v1), (2, 0, v2), (3, 0, v3), (5, 0, v5)]) (pc := 68) hX (by decide) rfl (dk D_X7_leastDays 37 rfl) ?_
            refine r_iinc (lv' := [(5, 0, (w32 (v5 + 1))), (4, 0, x4), (6, 0, x4), (0, 2, v0), (1, 2, v1), (2, 0, v2), (3, 0, v3)]) (pc := 70) hX 6 rfl (by decide) rfl (dk D_X7_leastDays 38 rfl) ?_
            refine r_goto (pc := 73) hX 12 rfl (dk D_X7_leastDays 39 rfl) ?_
            refine r_sub (lv' := [(0, 2, v0), (1, 2, v1), (2, 0, v2), (3, 0, v3), (4, 0, x4), (5, 0, (w32 (v5 + 1)))]) [3, 4, 5, 6, 1, 0] rfl ?_
            exact ih v0 v1 v2 v3 x4 (w32 (v5 + 1)) μ5 q_v2 q_v3 qx4 (R32_w _) h
          · rw [if_neg hc] at h
            refine r_iload (pc := 59) hX 0 rfl (dk D_X7_leastDays 33 rfl) ?_
            refine r_iload (pc := 61) hX 5 rfl (dk D_X7_leastDays 34 rfl) ?_
            refine r_icmp_ge (pc := 63) hX qx4 q_v4 70 rfl (dk D_X7_leastDays 35 rfl) (fun hc => ?_) (fun hc => ?_)
            · rw [if_neg hc] at h
              refine r_iinc (lv' := [(5, 0, (w32 (v5 + 1))), (6, 0, x4), (0, 2, v0), (1, 2, v1), (2, 0, v2), (3, 0, v3), (4, 0, v4)]) (pc := 70) hX 6 rfl (by decide) rfl (dk D_X7_leastDays 38 rfl) ?_
              refine r_goto (pc := 73) hX 12 rfl (dk D_X7_leastDays 39 rfl) ?_
              refine r_sub (lv' := [(0, 2, v0), (1, 2, v1), (2, 0, v2), (3, 0, v3), (4, 0, v4), (5, 0, (w32 (v5 + 1)))]) [2, 3, 4, 5, 6, 0] rfl ?_
              exact ih v0 v1 v2 v3 v4 (w32 (v5 + 1)) μ5 q_v2 q_v3 q_v4 (R32_w _) h
            · rw [if_pos hc] at h
              refine r_iload (pc := 66) hX 0 rfl (dk D_X7_leastDays 36 rfl) ?_
              refine r_istore (lv' := [(4, 0, x4), (6, 0, x4), (0, 2, v0), (1, 2, v1), (2, 0, v2), (3, 0, v3), (5, 0, v5)]) (pc := 68) hX (by decide) rfl (dk D_X7_leastDays 37 rfl) ?_
              refine r_iinc (lv' := [(5, 0, (w32 (v5 + 1))), (4, 0, x4), (6, 0, x4), (0, 2, v0), (1, 2, v1), (2, 0, v2), (3, 0, v3)]) (pc := 70) hX 6 rfl (by decide) rfl (dk D_X7_leastDays 38 rfl) ?_
              refine r_goto (pc := 73) hX 12 rfl (dk D_X7_leastDays 39 rfl) ?_
              refine r_sub (lv' := [(0, 2, v0), (1, 2, v1), (2, 0, v2), (3, 0, v3), (4, 0, x4), (5, 0, (w32 (v5 + 1)))]) [3, 4, 5, 6, 1, 0] rfl ?_
              exact ih v0 v1 v2 v3 x4 (w32 (v5 + 1)) μ5 q_v2 q_v3 qx4 (R32_w _) h
set_option maxRecDepth 100000 in
set_option maxHeartbeats 4000000 in
theorem L_Te_leastDays {E : EX} {l : Launch} {a0 a1 a2 res : Int} {μ μ' : Mem} (q_a2 : R32 a2) (h : Te_leastDays a0 a1 a2 μ = some (res, μ')) : Ok E l 3 yX7_leastDays (.code yX7_leastDays cX7_leastDays 7 (some .int)) 0 0 [(2, a0), (2, a1), (0, a2)] μ (some (0, res)) μ' := by
  refine Ok.of (own := "TollsBack$Trees") [(0, 2, a0), (1, 2, a1), (2, 0, a2)] (by decide +kernel) rfl (Nat.le_of_ble_eq_true rfl) rfl ?_
  intro X hL hRm hin hX hM
  unfold Te_leastDays at h
  subst hL
  refine r_aloadn (pc := 0) hX 0 rfl (dk D_X7_leastDays 0 rfl) ?_
  refine r_aloadn (pc := 1) hX 1 rfl (dk D_X7_leastDays 1 rfl) ?_
  obtain ⟨_, hi, h⟩ := bd_some h
  obtain ⟨x1, μ2, hx1, h⟩ := bd2_some h
  refine r_invV0 (As := [(2, a1)]) (pc := 2) hX ml_7_18 (L_Te_sortRoads hx1) (isk_u hi) (Rm_of hRm (by decide) ⟨by decide, by decide⟩) (by decide) rfl (Nat.le_of_ble_eq_true rfl) rfl (dk D_X7_leastDays 2 rfl) (fun qx1 => ?_)
  refine r_istoren (lv' := [(3, 0, x1), (0, 2, a0), (1, 2, a1), (2, 0, a2)]) (pc := 5) hX (by decide) rfl (dk D_X7_leastDays 3 rfl) ?_
  refine r_iconst (pc := 6) hX (dk D_X7_leastDays 4 rfl) ?_
  refine r_istore (lv' := [(4, 0, (-1)), (3, 0, x1), (0, 2, a0), (1, 2, a1), (2, 0, a2)]) (pc := 7) hX (by decide) rfl (dk D_X7_leastDays 5 rfl) ?_
  refine r_iconst (pc := 9) hX (dk D_X7_leastDays 6 rfl) ?_
  refine r_istore (lv' := [(5, 0, 0), (4, 0, (-1)), (3, 0, x1), (0, 2, a0), (1, 2, a1), (2, 0, a2)]) (pc := 10) hX (by decide) rfl (dk D_X7_leastDays 7 rfl) ?_
  refine r_sub (lv' := [(0, 2, a0), (1, 2, a1), (2, 0, a2), (3, 0, x1), (4, 0, (-1)), (5, 0, 0)]) [3, 4, 5, 2, 1, 0] rfl ?_
  refine L_Te_leastDays_L12 hX hM hRm FU a0 a1 a2 x1 (-1) 0 μ2 q_a2 qx1 (R32_lit rfl) (R32_lit rfl) h
