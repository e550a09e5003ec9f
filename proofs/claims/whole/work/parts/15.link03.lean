/-! THE MACHINE DOES AS THE FUNCTIONS SAY, part 3 -/
set_option maxRecDepth 100000 in
set_option maxHeartbeats 4000000 in
theorem L_T_lane {E : EX} {l : Launch} {a0 a1 a2 a3 a4 res : Int} {μ μ' : Mem} (q_a1 : R32 a1) (q_a2 : R32 a2) (q_a3 : R32 a3) (q_a4 : R32 a4) (h : T_lane a0 a1 a2 a3 a4 μ = some (res, μ')) : Ok E l 5 yX11_lane (.code yX11_lane cX11_lane 6 (some .int)) 0 0 [(2, a0), (0, a1), (0, a2), (0, a3), (0, a4)] μ (some (0, res)) μ' := by
  refine Ok.of (own := "TollsBack") [(0, 2, a0), (1, 0, a1), (2, 0, a2), (3, 0, a3), (4, 0, a4)] (by decide +kernel) rfl (Nat.le_of_ble_eq_true rfl) rfl ?_
  intro X hL hRm hin hX hM
  unfold T_lane at h
  subst hL
  refine r_iload (pc := 0) hX 4 rfl (dk D_X11_lane 0 rfl) ?_
  refine r_if_lt (pc := 2) hX q_a4 11 rfl (dk D_X11_lane 1 rfl) (fun hc => ?_) (fun hc => ?_)
  · rw [if_pos hc] at h
    refine L_T_lane_J11 hX hM hRm ?_ ?_ q_a1 q_a2 q_a3 q_a4 h
    · intro x1 x2 x3 x4 x5 μ6 qx2 qx3 qx4 qx5 h
      refine r_iconst (pc := 21) hX (dk D_X11_lane 9 rfl) ?_
      refine r_goto (pc := 22) hX 26 rfl (dk D_X11_lane 10 rfl) ?_
      refine L_T_lane_J26 hX hM hRm qx2 qx3 qx4 qx5 (R32_lit rfl) h
    · intro x7 x8 x9 x10 x11 x12 μ13 qx8 qx9 qx10 qx11 qx12 h
      refine L_T_lane_J26 hX hM hRm qx8 qx9 qx10 qx11 qx12 h
  · rw [if_neg hc] at h
    refine r_iload (pc := 5) hX 4 rfl (dk D_X11_lane 2 rfl) ?_
    refine r_iconst (pc := 7) hX (dk D_X11_lane 3 rfl) ?_
    refine r_icmp_le (pc := 8) hX q_a4 (R32_lit rfl) 21 rfl (dk D_X11_lane 4 rfl) (fun hc => ?_) (fun hc => ?_)
    · rw [if_neg hc] at h
      refine r_iconst (pc := 21) hX (dk D_X11_lane 9 rfl) ?_
      refine r_goto (pc := 22) hX 26 rfl (dk D_X11_lane 10 rfl) ?_
      refine L_T_lane_J26 hX hM hRm q_a1 q_a2 q_a3 q_a4 (R32_lit rfl) h
    · rw [if_pos hc] at h
      refine L_T_lane_J11 hX hM hRm ?_ ?_ q_a1 q_a2 q_a3 q_a4 h
      · intro x14 x15 x16 x17 x18 μ19 qx15 qx16 qx17 qx18 h
        refine r_iconst (pc := 21) hX (dk D_X11_lane 9 rfl) ?_
        refine r_goto (pc := 22) hX 26 rfl (dk D_X11_lane 10 rfl) ?_
        refine L_T_lane_J26 hX hM hRm qx15 qx16 qx17 qx18 (R32_lit rfl) h
      · intro x20 x21 x22 x23 x24 x25 μ26 qx21 qx22 qx23 qx24 qx25 h
        refine L_T_lane_J26 hX hM hRm qx21 qx22 qx23 qx24 qx25 h
set_option maxRecDepth 100000 in
set_option maxHeartbeats 4000000 in
theorem L_T_box {E : EX} {l : Launch} {a0 a1 res : Int} {μ μ' : Mem} (q_a1 : R32 a1) (h : T_box a0 a1 μ = some (res, μ')) : Ok E l 4 yX11_box (.code yX11_box cX11_box 4 (some .int)) 0 0 [(2, a0), (0, a1)] μ (some (0, res)) μ' := by
  refine Ok.of (own := "TollsBack") [(0, 2, a0), (1, 0, a1)] (by decide +kernel) rfl (Nat.le_of_ble_eq_true rfl) rfl ?_
  intro X hL hRm hin hX hM
  unfold T_box at h
  subst hL
  refine r_aloadn (pc := 0) hX 0 rfl (dk D_X11_box 0 rfl) ?_
  obtain ⟨x1, hx1, h⟩ := bd_some h
  refine r_getR (pc := 1) hX fl_11_26 rfl hx1 (dk D_X11_box 1 rfl) ?_
  obtain ⟨x2, hx2, h⟩ := bd_some h
  refine r_getR (pc := 4) hX fl_11_118 rfl hx2 (dk D_X11_box 2 rfl) ?_
  refine r_astoren (lv' := [(2, 2, x2), (0, 2, a0), (1, 0, a1)]) (pc := 7) hX (by decide) rfl (dk D_X11_box 3 rfl) ?_
  refine r_aloadn (pc := 8) hX 0 rfl (dk D_X11_box 4 rfl) ?_
  obtain ⟨x3, hx3, h⟩ := bd_some h
  refine r_getI (pc := 9) hX fl_11_176 rfl rfl hx3 (dk D_X11_box 5 rfl) (fun qx3 => ?_)
  refine r_if_ne (pc := 12) hX qx3 18 rfl (dk D_X11_box 6 rfl) (fun hc => ?_) (fun hc => ?_)
  · rw [if_neg hc] at h
    refine r_aloadn (pc := 18) hX 0 rfl (dk D_X11_box 9 rfl) ?_
    refine r_iloadn (pc := 19) hX 2 rfl (dk D_X11_box 10 rfl) ?_
    obtain ⟨_, hi, h⟩ := bd_some h
    obtain ⟨x4, μ5, hx4, h⟩ := bd2_some h
    refine r_invV0 (As := [(0, a1)]) (pc := 20) hX ml_11_326 (L_Kg_hasTowns q_a1 hx4) (isk_u hi) (Rm_of hRm (by decide) ⟨by decide, by decide⟩) (by decide) rfl (Nat.le_of_ble_eq_true rfl) rfl (dk D_X11_box 11 rfl) (fun qx4 => ?_)
    refine r_if_ne (pc := 23) hX qx4 29 rfl (dk D_X11_box 12 rfl) (fun hc => ?_) (fun hc => ?_)
    · rw [if_neg hc] at h
      refine r_aloadn (pc := 29) hX 1 rfl (dk D_X11_box 15 rfl) ?_
      obtain ⟨x6, hx6, h⟩ := bd_some h
      refine r_getR (pc := 30) hX fl_11_95 rfl hx6 (dk D_X11_box 16 rfl) ?_
      refine r_aloadn (pc := 33) hX 1 rfl (dk D_X11_box 17 rfl) ?_
      obtain ⟨x7, hx7, h⟩ := bd_some h
      refine r_getR (pc := 34) hX fl_11_26 rfl hx7 (dk D_X11_box 18 rfl) ?_
      refine r_iloadn (pc := 37) hX 2 rfl (dk D_X11_box 19 rfl) ?_
      refine r_iconst (pc := 38) hX (dk D_X11_box 20 rfl) ?_
      refine r_aloadn (pc := 39) hX 0 rfl (dk D_X11_box 21 rfl) ?_
      obtain ⟨x8, hx8, h⟩ := bd_some h
      refine r_getI (pc := 40) hX fl_11_359 rfl rfl hx8 (dk D_X11_box 22 rfl) (fun qx8 => ?_)
      refine r_ishl (pc := 43) hX (dk D_X11_box 23 rfl) ?_
      refine r_ior (pc := 44) hX (dk D_X11_box 24 rfl) ?_
      obtain ⟨_, hi, h⟩ := bd_some h
      obtain ⟨x9, μ10, hx9, h⟩ := bd2_some h
      refine r_invV0 (As := [(2, x7), (0, (or32 a1 (shl32 1 x8)))]) (pc := 45) hX ml_11_383 (L_Te_leastDays (R32_t _) hx9) (isk_u hi) (Rm_of hRm (by decide) ⟨by decide, by decide⟩) (by decide) rfl (Nat.le_of_ble_eq_true rfl) rfl (dk D_X11_box 25 rfl) (fun qx9 => ?_)
      refine r_istoren (lv' := [(3, 0, x9), (2, 2, x2), (0, 2, a0), (1, 0, a1)]) (pc := 48) hX (by decide) rfl (dk D_X11_box 26 rfl) ?_
      refine r_iloadn (pc := 49) hX 0 rfl (dk D_X11_box 27 rfl) ?_
      refine r_iconst (pc := 50) hX (dk D_X11_box 28 rfl) ?_
      refine r_icmp_ne (pc := 51) hX qx9 (R32_lit rfl) 58 rfl (dk D_X11_box 29 rfl) (fun hc => ?_) (fun hc => ?_)
      · rw [if_neg hc] at h
        refine r_iconst (pc := 58) hX (dk D_X11_box 32 rfl) ?_
        refine r_iloadn (pc := 59) hX 0 rfl (dk D_X11_box 33 rfl) ?_
        refine r_imul (pc := 60) hX (dk D_X11_box 34 rfl) ?_
        cases h
        exact r_ireturn (pc := 61) hX (R32_w _) hM ⟨by decide, by decide⟩ (dk D_X11_box 35 rfl)
      · rw [if_pos hc] at h
        refine r_iconst (pc := 54) hX (dk D_X11_box 30 rfl) ?_
        refine r_goto (pc := 55) hX 61 rfl (dk D_X11_box 31 rfl) ?_
        cases h
        exact r_ireturn (pc := 61) hX (R32_lit rfl) hM ⟨by decide, by decide⟩ (dk D_X11_box 35 rfl)
    · rw [if_pos hc] at h
      refine r_bipush (pc := 26) hX rfl (dk D_X11_box 13 rfl) ?_
      cases h
      exact r_ireturn (pc := 28) hX (R32_lit rfl) hM ⟨by decide, by decide⟩ (dk D_X11_box 14 rfl)
  · rw [if_pos hc] at h
    refine r_bipush (pc := 15) hX rfl (dk D_X11_box 7 rfl) ?_
    cases h
    exact r_ireturn (pc := 17) hX (R32_lit rfl) hM ⟨by decide, by decide⟩ (dk D_X11_box 8 rfl)
set_option maxRecDepth 100000 in
set_option maxHeartbeats 4000000 in
theorem L_T_cutOff {E : EX} {l : Launch} {a0 a1 res : Int} {μ μ' : Mem} (q_a1 : R32 a1) (h : T_cutOff a0 a1 μ = some (res, μ')) : Ok E l 2 yX11_cutOff (.code yX11_cutOff cX11_cutOff 2 (some .int)) 0 0 [(2, a0), (0, a1)] μ (some (0, res)) μ' := by
  refine Ok.of (own := "TollsBack") [(0, 2, a0), (1, 0, a1)] (by decide +kernel) rfl (Nat.le_of_ble_eq_true rfl) rfl ?_
  intro X hL hRm hin hX hM
  unfold T_cutOff at h
  subst hL
  refine r_aloadn (pc := 0) hX 0 rfl (dk D_X11_cutOff 0 rfl) ?_
  obtain ⟨x1, hx1, h⟩ := bd_some h
  refine r_getR (pc := 1) hX fl_11_26 rfl hx1 (dk D_X11_cutOff 1 rfl) ?_
  obtain ⟨x2, hx2, h⟩ := bd_some h
  refine r_getR (pc := 4) hX fl_11_118 rfl hx2 (dk D_X11_cutOff 2 rfl) ?_
  refine r_iloadn (pc := 7) hX 1 rfl (dk D_X11_cutOff 3 rfl) ?_
  obtain ⟨_, hi, h⟩ := bd_some h
  obtain ⟨x3, μ4, hx3, h⟩ := bd2_some h
  refine r_invV0 (As := [(0, a1)]) (pc := 8) hX ml_11_126 (L_Kg_hasRoad q_a1 hx3) (isk_u hi) (Rm_of hRm (by decide) ⟨by decide, by decide⟩) (by decide) rfl (Nat.le_of_ble_eq_true rfl) rfl (dk D_X11_cutOff 4 rfl) (fun qx3 => ?_)
  refine r_if_ne (pc := 11) hX qx3 17 rfl (dk D_X11_cutOff 5 rfl) (fun hc => ?_) (fun hc => ?_)
  · rw [if_neg hc] at h
    refine r_aloadn (pc := 17) hX 0 rfl (dk D_X11_cutOff 8 rfl) ?_
    obtain ⟨x5, hx5, h⟩ := bd_some h
    refine r_getR (pc := 18) hX fl_11_26 rfl hx5 (dk D_X11_cutOff 9 rfl) ?_
    refine r_aloadn (pc := 21) hX 0 rfl (dk D_X11_cutOff 10 rfl) ?_
    obtain ⟨x6, hx6, h⟩ := bd_some h
    refine r_getR (pc := 22) hX fl_11_26 rfl hx6 (dk D_X11_cutOff 11 rfl) ?_
    obtain ⟨_, hi, h⟩ := bd_some h
    obtain ⟨x7, μ8, hx7, h⟩ := bd2_some h
    refine r_invV0 (As := []) (pc := 25) hX ml_11_387 (L_Wo_openRoads hx7) (isk_u hi) (Rm_of hRm (by decide) ⟨by decide, by decide⟩) (by decide) rfl (Nat.le_of_ble_eq_true rfl) rfl (dk D_X11_cutOff 12 rfl) (fun qx7 => ?_)
    obtain ⟨_, hi, h⟩ := bd_some h
    obtain ⟨x9, μ10, hx9, h⟩ := bd2_some h
    refine r_invV0 (As := [(0, x7)]) (pc := 28) hX ml_11_390 (L_Wo_reachable qx7 hx9) (isk_u hi) (Rm_of hRm (by decide) ⟨by decide, by decide⟩) (by decide) rfl (Nat.le_of_ble_eq_true rfl) rfl (dk D_X11_cutOff 13 rfl) (fun qx9 => ?_)
    refine r_aloadn (pc := 31) hX 0 rfl (dk D_X11_cutOff 14 rfl) ?_
    obtain ⟨x11, hx11, h⟩ := bd_some h
    refine r_getR (pc := 32) hX fl_11_26 rfl hx11 (dk D_X11_cutOff 15 rfl) ?_
    refine r_aloadn (pc := 35) hX 0 rfl (dk D_X11_cutOff 16 rfl) ?_
    obtain ⟨x12, hx12, h⟩ := bd_some h
    refine r_getR (pc := 36) hX fl_11_26 rfl hx12 (dk D_X11_cutOff 17 rfl) ?_
    obtain ⟨_, hi, h⟩ := bd_some h
    obtain ⟨x13, μ14, hx13, h⟩ := bd2_some h
    refine r_invV0 (As := []) (pc := 39) hX ml_11_387 (L_Wo_openRoads hx13) (isk_u hi) (Rm_of hRm (by decide) ⟨by decide, by decide⟩) (by decide) rfl (Nat.le_of_ble_eq_true rfl) rfl (dk D_X11_cutOff 18 rfl) (fun qx13 => ?_)
    refine r_iconst (pc := 42) hX (dk D_X11_cutOff 19 rfl) ?_
    refine r_iloadn (pc := 43) hX 1 rfl (dk D_X11_cutOff 20 rfl) ?_
    refine r_ishl (pc := 44) hX (dk D_X11_cutOff 21 rfl) ?_
    refine r_iconst (pc := 45) hX (dk D_X11_cutOff 22 rfl) ?_
    refine r_ixor (pc := 46) hX (dk D_X11_cutOff 23 rfl) ?_
    refine r_iand (pc := 47) hX (dk D_X11_cutOff 24 rfl) ?_
    obtain ⟨_, hi, h⟩ := bd_some h
    obtain ⟨x15, μ16, hx15, h⟩ := bd2_some h
    refine r_invV0 (As := [(0, (and32 x13 (xor32 (shl32 1 a1) (-1))))]) (pc := 48) hX ml_11_390 (L_Wo_reachable (R32_t _) hx15) (isk_u hi) (Rm_of hRm (by decide) ⟨by decide, by decide⟩) (by decide) rfl (Nat.le_of_ble_eq_true rfl) rfl (dk D_X11_cutOff 25 rfl) (fun qx15 => ?_)
    refine r_iconst (pc := 51) hX (dk D_X11_cutOff 26 rfl) ?_
    refine r_ixor (pc := 52) hX (dk D_X11_cutOff 27 rfl) ?_
    refine r_iand (pc := 53) hX (dk D_X11_cutOff 28 rfl) ?_
    cases h
    exact r_ireturn (pc := 54) hX (R32_t _) hM ⟨by decide, by decide⟩ (dk D_X11_cutOff 29 rfl)
  · rw [if_pos hc] at h
    refine r_bipush (pc := 14) hX rfl (dk D_X11_cutOff 6 rfl) ?_
    cases h
    exact r_ireturn (pc := 16) hX (R32_lit rfl) hM ⟨by decide, by decide⟩ (dk D_X11_cutOff 7 rfl)
set_option maxRecDepth 100000 in
set_option maxHeartbeats 4000000 in
theorem L_T_ledger_L24 {E : EX} {X : CX} {res : Int} {μe : Mem} (hX : Good E X cX11_ledger 5 "TollsBack") (hM : GoodM E X (some .int) (some (0, res)) μe 0 0) (hRm : cR X = rmOf 1 0 0) : ∀ (n : Nat) (v0 v2 v3 v4 : Int) (μ : Mem) (q_v2 : R32 v2) (q_v3 : R32 v3) (q_v4 : R32 v4) (h : T_ledger_L24 n v0 v2 v3 v4 μ = some (res, μe)), At E X cX11_ledger 5 "TollsBack" (0, 0) 24 [(0, 2, v0), (2, 0, v2), (3, 0, v3), (4, 0, v4)] [] μ := by
  intro n
  induction n with
  | zero =>
    intro v0 v2 v3 v4 μ q_v2 q_v3 q_v4 h
    have h : (none : Option (Int × Mem)) = some (res, μe) := h
    cases h
  | succ n ih =>
    intro v0 v2 v3 v4 μ q_v2 q_v3 q_v4 h
    rw [T_ledger_L24.eq_2] at h
    refine r_iload (pc := 24) hX 3 rfl (dk D_X11_ledger 14 rfl) ?_
    refine r_iloadn (pc := 26) hX 1 rfl (dk D_X11_ledger 15 rfl) ?_
    refine r_icmp_gt (pc := 27) hX q_v4 q_v2 49 rfl (dk D_X11_ledger 16 rfl) (fun hc => ?_) (fun hc => ?_)
    · rw [if_pos hc] at h
      refine r_iloadn (pc := 49) hX 2 rfl (dk D_X11_ledger 27 rfl) ?_
      cases h
      exact r_ireturn (pc := 50) hX q_v3 hM ⟨by decide, by decide⟩ (dk D_X11_ledger 28 rfl)
    · rw [if_neg hc] at h
      refine r_iloadn (pc := 30) hX 2 rfl (dk D_X11_ledger 17 rfl) ?_
      refine r_aloadn (pc := 31) hX 0 rfl (dk D_X11_ledger 18 rfl) ?_
      obtain ⟨x1, hx1, h⟩ := bd_some h
      refine r_getR (pc := 32) hX fl_11_26 rfl hx1 (dk D_X11_ledger 19 rfl) ?_
      obtain ⟨x2, hx2, h⟩ := bd_some h
      refine r_getR (pc := 35) hX fl_11_393 rfl hx2 (dk D_X11_ledger 20 rfl) ?_
      refine r_iload (pc := 38) hX 3 rfl (dk D_X11_ledger 21 rfl) ?_
      obtain ⟨x3, hx3, h⟩ := bd_some h
      refine r_iald (pc := 40) hX q_v4 hx3 (dk D_X11_ledger 22 rfl) (fun qx3 => ?_)
      refine r_iadd (pc := 41) hX (dk D_X11_ledger 23 rfl) ?_
      obtain ⟨x4, ex4, h⟩ := bd_some h
      replace ex4 := Option.some.inj ex4
      have qx4 : R32 x4 := ex4 ▸ (R32_w _)
      rw [ex4]
      refine r_istoren (lv' := [(3, 0, x4), (0, 2, v0), (2, 0, v2), (4, 0, v4)]) (pc := 42) hX (by decide) rfl (dk D_X11_ledger 24 rfl) ?_
      refine r_iinc (lv' := [(4, 0, (w32 (v4 + 1))), (3, 0, x4), (0, 2, v0), (2, 0, v2)]) (pc := 43) hX 3 rfl (by decide) rfl (dk D_X11_ledger 25 rfl) ?_
      refine r_goto (pc := 46) hX 24 rfl (dk D_X11_ledger 26 rfl) ?_
      refine r_sub (lv' := [(0, 2, v0), (2, 0, v2), (3, 0, x4), (4, 0, (w32 (v4 + 1)))]) [2, 3, 1, 0] rfl ?_
      exact ih v0 v2 x4 (w32 (v4 + 1)) μ q_v2 qx4 (R32_w _) h
set_option maxRecDepth 100000 in
set_option maxHeartbeats 4000000 in
theorem L_T_ledger {E : EX} {l : Launch} {a0 a1 a2 res : Int} {μ μ' : Mem} (q_a1 : R32 a1) (q_a2 : R32 a2) (h : T_ledger a0 a1 a2 μ = some (res, μ')) : Ok E l 1 yX11_ledger (.code yX11_ledger cX11_ledger 5 (some .int)) 0 0 [(2, a0), (0, a1), (0, a2)] μ (some (0, res)) μ' := by
  refine Ok.of (own := "TollsBack") [(0, 2, a0), (1, 0, a1), (2, 0, a2)] (by decide +kernel) rfl (Nat.le_of_ble_eq_true rfl) rfl ?_
  intro X hL hRm hin hX hM
  unfold T_ledger at h
  subst hL
  refine r_iloadn (pc := 0) hX 1 rfl (dk D_X11_ledger 0 rfl) ?_
  refine r_if_lt (pc := 1) hX q_a1 16 rfl (dk D_X11_ledger 1 rfl) (fun hc => ?_) (fun hc => ?_)
  · rw [if_pos hc] at h
    refine r_bipush (pc := 16) hX rfl (dk D_X11_ledger 8 rfl) ?_
    cases h
    exact r_ireturn (pc := 18) hX (R32_lit rfl) hM ⟨by decide, by decide⟩ (dk D_X11_ledger 9 rfl)
  · rw [if_neg hc] at h
    refine r_iloadn (pc := 4) hX 2 rfl (dk D_X11_ledger 2 rfl) ?_
    refine r_sipush (pc := 5) hX rfl (dk D_X11_ledger 3 rfl) ?_
    refine r_icmp_ge (pc := 8) hX q_a2 (R32_lit rfl) 16 rfl (dk D_X11_ledger 4 rfl) (fun hc => ?_) (fun hc => ?_)
    · rw [if_neg hc] at h
      refine r_bipush (pc := 16) hX rfl (dk D_X11_ledger 8 rfl) ?_
      cases h
      exact r_ireturn (pc := 18) hX (R32_lit rfl) hM ⟨by decide, by decide⟩ (dk D_X11_ledger 9 rfl)
    · rw [if_pos hc] at h
      refine r_iloadn (pc := 11) hX 2 rfl (dk D_X11_ledger 5 rfl) ?_
      refine r_iloadn (pc := 12) hX 1 rfl (dk D_X11_ledger 6 rfl) ?_
      refine r_icmp_ge (pc := 13) hX q_a2 q_a1 19 rfl (dk D_X11_ledger 7 rfl) (fun hc => ?_) (fun hc => ?_)
      · rw [if_neg hc] at h
        refine r_iconst (pc := 19) hX (dk D_X11_ledger 10 rfl) ?_
        refine r_istoren (lv' := [(3, 0, 0), (0, 2, a0), (1, 0, a1), (2, 0, a2)]) (pc := 20) hX (by decide) rfl (dk D_X11_ledger 11 rfl) ?_
        refine r_iloadn (pc := 21) hX 2 rfl (dk D_X11_ledger 12 rfl) ?_
        refine r_istore (lv' := [(4, 0, a1), (3, 0, 0), (0, 2, a0), (1, 0, a1), (2, 0, a2)]) (pc := 22) hX (by decide) rfl (dk D_X11_ledger 13 rfl) ?_
        refine r_sub (lv' := [(0, 2, a0), (2, 0, a2), (3, 0, 0), (4, 0, a1)]) [2, 4, 1, 0] rfl ?_
        refine L_T_ledger_L24 hX hM hRm FU a0 a2 0 a1 μ q_a2 (R32_lit rfl) q_a1 h
      · rw [if_pos hc] at h
        refine r_bipush (pc := 16) hX rfl (dk D_X11_ledger 8 rfl) ?_
        cases h
        exact r_ireturn (pc := 18) hX (R32_lit rfl) hM ⟨by decide, by decide⟩ (dk D_X11_ledger 9 rfl)
set_option maxRecDepth 100000 in
set_option maxHeartbeats 4000000 in
theorem L_T_meet {E : EX} {l : Launch} {a0 a1 a2 a3 a4 a5 res : Int} {μ μ' : Mem} (q_a1 : R32 a1) (q_a2 : R32 a2) (q_a3 : R32 a3) (q_a4 : R32 a4) (q_a5 : R32 a5) (h : T_meet a0 a1 a2 a3 a4 a5 μ = some (res, μ')) : Ok E l 7 yX11_meet (.code yX11_meet cX11_meet 10 (some .int)) 0 0 [(2, a0), (0, a1), (0, a2), (0, a3), (0, a4), (0, a5)] μ (some (0, res)) μ' := by
  refine Ok.of (own := "TollsBack") [(0, 2, a0), (1, 0, a1), (2, 0, a2), (3, 0, a3), (4, 0, a4), (5, 0, a5)] (by decide +kernel) rfl (Nat.le_of_ble_eq_true rfl) rfl ?_
  intro X hL hRm hin hX hM
  unfold T_meet at h
  subst hL
  refine r_iload (pc := 0) hX 5 rfl (dk D_X11_meet 0 rfl) ?_
  obtain ⟨y1, hb, h⟩ := bd_some h
  have hj : R32 y1 → At E X cX11_meet 10 "TollsBack" (0, 0) 16 [(0, 2, a0), (1, 0, a1), (2, 0, a2), (3, 0, a3), (4, 0, a4), (5, 0, a5)] [(0, y1)] μ := by
    intro qy1
    clear hb
    refine r_istore (lv' := [(6, 0, y1), (0, 2, a0), (1, 0, a1), (2, 0, a2), (3, 0, a3), (4, 0, a4), (5, 0, a5)]) (pc := 16) hX (by decide) rfl (dk D_X11_meet 8 rfl) ?_
    refine r_aloadn (pc := 18) hX 1 rfl (dk D_X11_meet 9 rfl) ?_
    obtain ⟨x2, hx2, h⟩ := bd_some h
    refine r_getR (pc := 19) hX fl_11_26 rfl hx2 (dk D_X11_meet 10 rfl) ?_
    refine r_iloadn (pc := 22) hX 2 rfl (dk D_X11_meet 11 rfl) ?_
    refine r_iloadn (pc := 23) hX 4 rfl (dk D_X11_meet 12 rfl) ?_
    obtain ⟨_, hi, h⟩ := bd_some h
    obtain ⟨x3, μ4, hx3, h⟩ := bd2_some h
    refine r_invV0 (As := [(0, a1), (0, a3)]) (pc := 24) hX ml_11_231 (L_Wo_hasPair q_a1 q_a3 hx3) (isk_u hi) (Rm_of hRm (by decide) ⟨by decide, by decide⟩) (by decide) rfl (Nat.le_of_ble_eq_true rfl) rfl (dk D_X11_meet 13 rfl) (fun qx3 => ?_)
    refine r_if_eq (pc := 27) hX qx3 50 rfl (dk D_X11_meet 14 rfl) (fun hc => ?_) (fun hc => ?_)
    · rw [if_pos hc] at h
      refine r_bipush (pc := 50) hX rfl (dk D_X11_meet 23 rfl) ?_
      cases h
      exact r_ireturn (pc := 52) hX (R32_lit rfl) hM ⟨by decide, by decide⟩ (dk D_X11_meet 24 rfl)
    · rw [if_neg hc] at h
      refine r_iloadn (pc := 30) hX 3 rfl (dk D_X11_meet 15 rfl) ?_
      obtain ⟨x5, μ6, hx5, h⟩ := bd2_some h
      refine r_invS0 (As := [(0, a2)]) (pc := 31) hX ml_11_242 (L_T_isRow q_a2 hx5) (Rm_of hRm (by decide) ⟨by decide, by decide⟩) (by decide) rfl (Nat.le_of_ble_eq_true rfl) rfl (dk D_X11_meet 16 rfl) (fun qx5 => ?_)
      refine r_if_eq (pc := 34) hX qx5 50 rfl (dk D_X11_meet 17 rfl) (fun hc => ?_) (fun hc => ?_)
      · rw [if_pos hc] at h
        refine r_bipush (pc := 50) hX rfl (dk D_X11_meet 23 rfl) ?_
        cases h
        exact r_ireturn (pc := 52) hX (R32_lit rfl) hM ⟨by decide, by decide⟩ (dk D_X11_meet 24 rfl)
      · rw [if_neg hc] at h
        refine r_iload (pc := 37) hX 5 rfl (dk D_X11_meet 18 rfl) ?_
        obtain ⟨x7, μ8, hx7, h⟩ := bd2_some h
        refine r_invS0 (As := [(0, a4)]) (pc := 39) hX ml_11_242 (L_T_isRow q_a4 hx7) (Rm_of hRm (by decide) ⟨by decide, by decide⟩) (by decide) rfl (Nat.le_of_ble_eq_true rfl) rfl (dk D_X11_meet 19 rfl) (fun qx7 => ?_)
        refine r_if_eq (pc := 42) hX qx7 50 rfl (dk D_X11_meet 20 rfl) (fun hc => ?_) (fun hc => ?_)
        · rw [if_pos hc] at h
          refine r_bipush (pc := 50) hX rfl (dk D_X11_meet 23 rfl) ?_
          cases h
          exact r_ireturn (pc := 52) hX (R32_lit rfl) hM ⟨by decide, by decide⟩ (dk D_X11_meet 24 rfl)
        · rw [if_neg hc] at h
          refine r_iload (pc := 45) hX 0 rfl (dk D_X11_meet 21 rfl) ?_
          refine r_if_ne (pc := 47) hX qy1 53 rfl (dk D_X11_meet 22 rfl) (fun hc => ?_) (fun hc => ?_)
          · rw [if_neg hc] at h
            refine r_aloadn (pc := 53) hX 1 rfl (dk D_X11_meet 25 rfl) ?_
            obtain ⟨x9, hx9, h⟩ := bd_some h
            refine r_getR (pc := 54) hX fl_11_36 rfl hx9 (dk D_X11_meet 26 rfl) ?_
            refine r_iloadn (pc := 57) hX 3 rfl (dk D_X11_meet 27 rfl) ?_
            obtain ⟨x10, hx10, h⟩ := bd_some h
            refine r_aald26 (pc := 58) hX q_a2 hx10 (dk D_X11_meet 28 rfl) ?_
            obtain ⟨x11, hx11, h⟩ := bd_some h
            refine r_getI (pc := 59) hX fl_11_245 rfl rfl hx11 (dk D_X11_meet 29 rfl) (fun qx11 => ?_)
            refine r_if_ne (pc := 62) hX qx11 78 rfl (dk D_X11_meet 30 rfl) (fun hc => ?_) (fun hc => ?_)
            · rw [if_neg hc] at h
              refine r_bipush (pc := 78) hX rfl (dk D_X11_meet 37 rfl) ?_
              cases h
              exact r_ireturn (pc := 80) hX (R32_lit rfl) hM ⟨by decide, by decide⟩ (dk D_X11_meet 38 rfl)
            · rw [if_pos hc] at h
              refine r_aloadn (pc := 65) hX 1 rfl (dk D_X11_meet 31 rfl) ?_
              obtain ⟨x12, hx12, h⟩ := bd_some h
              refine r_getR (pc := 66) hX fl_11_36 rfl hx12 (dk D_X11_meet 32 rfl) ?_
              refine r_iload (pc := 69) hX 5 rfl (dk D_X11_meet 33 rfl) ?_
              obtain ⟨x13, hx13, h⟩ := bd_some h
              refine r_aald26 (pc := 71) hX q_a4 hx13 (dk D_X11_meet 34 rfl) ?_
              obtain ⟨x14, hx14, h⟩ := bd_some h
              refine r_getI (pc := 72) hX fl_11_245 rfl rfl hx14 (dk D_X11_meet 35 rfl) (fun qx14 => ?_)
              refine r_if_eq (pc := 75) hX qx14 81 rfl (dk D_X11_meet 36 rfl) (fun hc => ?_) (fun hc => ?_)
              · rw [if_pos hc] at h
                refine r_aloadn (pc := 81) hX 1 rfl (dk D_X11_meet 39 rfl) ?_
                obtain ⟨x15, hx15, h⟩ := bd_some h
                refine r_getR (pc := 82) hX fl_11_26 rfl hx15 (dk D_X11_meet 40 rfl) ?_
                obtain ⟨x16, hx16, h⟩ := bd_some h
                refine r_getR (pc := 85) hX fl_11_186 rfl hx16 (dk D_X11_meet 41 rfl) ?_
                refine r_iloadn (pc := 88) hX 2 rfl (dk D_X11_meet 42 rfl) ?_
                obtain ⟨x17, hx17, h⟩ := bd_some h
                refine r_aald24 (pc := 89) hX q_a1 hx17 (dk D_X11_meet 43 rfl) ?_
                refine r_astore (lv' := [(7, 2, x17), (6, 0, y1), (0, 2, a0), (1, 0, a1), (2, 0, a2), (3, 0, a3), (4, 0, a4), (5, 0, a5)]) (pc := 90) hX (by decide) rfl (dk D_X11_meet 44 rfl) ?_
                refine r_aloadn (pc := 92) hX 2 rfl (dk D_X11_meet 45 rfl) ?_
                obtain ⟨x18, hx18, h⟩ := bd_some h
                refine r_getR (pc := 93) hX fl_11_26 rfl hx18 (dk D_X11_meet 46 rfl) ?_
                obtain ⟨x19, hx19, h⟩ := bd_some h
                refine r_getR (pc := 96) hX fl_11_186 rfl hx19 (dk D_X11_meet 47 rfl) ?_
                refine r_iloadn (pc := 99) hX 5 rfl (dk D_X11_meet 48 rfl) ?_
                obtain ⟨x20, hx20, h⟩ := bd_some h
                refine r_aald24 (pc := 100) hX q_a3 hx20 (dk D_X11_meet 49 rfl) ?_
                refine r_astore (lv' := [(8, 2, x20), (7, 2, x17), (6, 0, y1), (0, 2, a0), (1, 0, a1), (2, 0, a2), (3, 0, a3), (4, 0, a4), (5, 0, a5)]) (pc := 101) hX (by decide) rfl (dk D_X11_meet 50 rfl) ?_
                refine r_aloadn (pc := 103) hX 3 rfl (dk D_X11_meet 51 rfl) ?_
                obtain ⟨x21, hx21, h⟩ := bd_some h
                refine r_getR (pc := 104) hX fl_11_57 rfl hx21 (dk D_X11_meet 52 rfl) ?_
                refine r_aloadn (pc := 107) hX 3 rfl (dk D_X11_meet 53 rfl) ?_
                obtain ⟨x22, hx22, h⟩ := bd_some h
                refine r_getR (pc := 108) hX fl_11_26 rfl hx22 (dk D_X11_meet 54 rfl) ?_
                refine r_aload (pc := 111) hX 1 rfl (dk D_X11_meet 55 rfl) ?_
                refine r_aloadn (pc := 113) hX 3 rfl (dk D_X11_meet 56 rfl) ?_
                obtain ⟨x23, hx23, h⟩ := bd_some h
                refine r_getR (pc := 114) hX fl_11_36 rfl hx23 (dk D_X11_meet 57 rfl) ?_
                refine r_iloadn (pc := 117) hX 5 rfl (dk D_X11_meet 58 rfl) ?_
                obtain ⟨x24, hx24, h⟩ := bd_some h
                refine r_aald26 (pc := 118) hX q_a2 hx24 (dk D_X11_meet 59 rfl) ?_
                refine r_aload (pc := 119) hX 1 rfl (dk D_X11_meet 60 rfl) ?_
                obtain ⟨x25, hx25, h⟩ := bd_some h
                refine r_getI (pc := 121) hX fl_11_196 rfl rfl hx25 (dk D_X11_meet 61 rfl) (fun qx25 => ?_)
                obtain ⟨_, hi, h⟩ := bd_some h
                obtain ⟨x26, μ27, hx26, h⟩ := bd2_some h
                refine r_invV0 (As := [(2, x22), (2, x17), (2, x24), (0, x25)]) (pc := 124) hX ml_11_249 (L_Tp_follow qx25 hx26) (isk_u hi) (Rm_of hRm (by decide) ⟨by decide, by decide⟩) (by decide) rfl (Nat.le_of_ble_eq_true rfl) rfl (dk D_X11_meet 62 rfl) (fun _ => ?_)
                refine r_aloadn (pc := 127) hX 3 rfl (dk D_X11_meet 63 rfl) ?_
                obtain ⟨x28, hx28, h⟩ := bd_some h
                refine r_getR (pc := 128) hX fl_11_61 rfl hx28 (dk D_X11_meet 64 rfl) ?_
                refine r_aloadn (pc := 131) hX 3 rfl (dk D_X11_meet 65 rfl) ?_
                obtain ⟨x29, hx29, h⟩ := bd_some h
                refine r_getR (pc := 132) hX fl_11_26 rfl hx29 (dk D_X11_meet 66 rfl) ?_
                refine r_aload (pc := 135) hX 0 rfl (dk D_X11_meet 67 rfl) ?_
                refine r_aloadn (pc := 137) hX 3 rfl (dk D_X11_meet 68 rfl) ?_
                obtain ⟨x30, hx30, h⟩ := bd_some h
                refine r_getR (pc := 138) hX fl_11_36 rfl hx30 (dk D_X11_meet 69 rfl) ?_
                refine r_iload (pc := 141) hX 7 rfl (dk D_X11_meet 70 rfl) ?_
                obtain ⟨x31, hx31, h⟩ := bd_some h
                refine r_aald26 (pc := 143) hX q_a4 hx31 (dk D_X11_meet 71 rfl) ?_
                refine r_aload (pc := 144) hX 0 rfl (dk D_X11_meet 72 rfl) ?_
                obtain ⟨x32, hx32, h⟩ := bd_some h
                refine r_getI (pc := 146) hX fl_11_196 rfl rfl hx32 (dk D_X11_meet 73 rfl) (fun qx32 => ?_)
                obtain ⟨_, hi, h⟩ := bd_some h
                obtain ⟨x33, μ34, hx33, h⟩ := bd2_some h
                refine r_invV0 (As := [(2, x29), (2, x20), (2, x31), (0, x32)]) (pc := 149) hX ml_11_249 (L_Tp_follow qx32 hx33) (isk_u hi) (Rm_of hRm (by decide) ⟨by decide, by decide⟩) (by decide) rfl (Nat.le_of_ble_eq_true rfl) rfl (dk D_X11_meet 74 rfl) (fun _ => ?_)
                refine r_aloadn (pc := 152) hX 3 rfl (dk D_X11_meet 75 rfl) ?_
                obtain ⟨x35, hx35, h⟩ := bd_some h
                refine r_getR (pc := 153) hX fl_11_57 rfl hx35 (dk D_X11_meet 76 rfl) ?_
                refine r_aloadn (pc := 156) hX 3 rfl (dk D_X11_meet 77 rfl) ?_
                obtain ⟨x36, hx36, h⟩ := bd_some h
                refine r_getR (pc := 157) hX fl_11_61 rfl hx36 (dk D_X11_meet 78 rfl) ?_
                obtain ⟨_, hi, h⟩ := bd_some h
                obtain ⟨x37, μ38, hx37, h⟩ := bd2_some h
                refine r_invV0 (As := [(2, x36)]) (pc := 160) hX ml_11_396 (L_Tp_meets hx37) (isk_u hi) (Rm_of hRm (by decide) ⟨by decide, by decide⟩) (by decide) rfl (Nat.le_of_ble_eq_true rfl) rfl (dk D_X11_meet 79 rfl) (fun qx37 => ?_)
                refine r_istore (lv' := [(9, 0, x37), (8, 2, x20), (7, 2, x17), (6, 0, y1), (0, 2, a0), (1, 0, a1), (2, 0, a2), (3, 0, a3), (4, 0, a4), (5, 0, a5)]) (pc := 163) hX (by decide) rfl (dk D_X11_meet 80 rfl) ?_
                refine r_iload (pc := 165) hX 0 rfl (dk D_X11_meet 81 rfl) ?_
                refine r_iconst (pc := 167) hX (dk D_X11_meet 82 rfl) ?_
                refine r_icmp_ne (pc := 168) hX qx37 (R32_lit rfl) 173 rfl (dk D_X11_meet 83 rfl) (fun hc => ?_) (fun hc => ?_)
                · rw [if_neg hc] at h
                  refine r_iload (pc := 173) hX 9 rfl (dk D_X11_meet 86 rfl) ?_
                  refine r_if_ne (pc := 175) hX q_a5 183 rfl (dk D_X11_meet 87 rfl) (fun hc => ?_) (fun hc => ?_)
                  · rw [if_neg hc] at h
                    refine r_aloadn (pc := 183) hX 4 rfl (dk D_X11_meet 90 rfl) ?_
                    obtain ⟨x39, hx39, h⟩ := bd_some h
                    refine r_getR (pc := 184) hX fl_11_57 rfl hx39 (dk D_X11_meet 91 rfl) ?_
                    refine r_iload (pc := 187) hX 0 rfl (dk D_X11_meet 92 rfl) ?_
                    obtain ⟨_, hi, h⟩ := bd_some h
                    obtain ⟨x40, μ41, hx40, h⟩ := bd2_some h
                    refine r_invV0 (As := [(0, x37)]) (pc := 189) hX ml_11_400 (L_Tp_townOn qx37 hx40) (isk_u hi) (Rm_of hRm (by decide) ⟨by decide, by decide⟩) (by decide) rfl (Nat.le_of_ble_eq_true rfl) rfl (dk D_X11_meet 93 rfl) (fun qx40 => ?_)
                    cases h
                    exact r_ireturn (pc := 192) hX qx40 hM ⟨by decide, by decide⟩ (dk D_X11_meet 94 rfl)
                  · rw [if_pos hc] at h
                    refine r_iload (pc := 178) hX 0 rfl (dk D_X11_meet 88 rfl) ?_
                    refine r_goto (pc := 180) hX 192 rfl (dk D_X11_meet 89 rfl) ?_
                    cases h
                    exact r_ireturn (pc := 192) hX qx37 hM ⟨by decide, by decide⟩ (dk D_X11_meet 94 rfl)
                · rw [if_pos hc] at h
                  refine r_iconst (pc := 171) hX (dk D_X11_meet 84 rfl) ?_
                  cases h
                  exact r_ireturn (pc := 172) hX (R32_lit rfl) hM ⟨by decide, by decide⟩ (dk D_X11_meet 85 rfl)
              · rw [if_neg hc] at h
                refine r_bipush (pc := 78) hX rfl (dk D_X11_meet 37 rfl) ?_
                cases h
                exact r_ireturn (pc := 80) hX (R32_lit rfl) hM ⟨by decide, by decide⟩ (dk D_X11_meet 38 rfl)
          · rw [if_pos hc] at h
            refine r_bipush (pc := 50) hX rfl (dk D_X11_meet 23 rfl) ?_
            cases h
            exact r_ireturn (pc := 52) hX (R32_lit rfl) hM ⟨by decide, by decide⟩ (dk D_X11_meet 24 rfl)
  clear h
  have h := hb
  clear hb
  refine r_if_eq (pc := 2) hX q_a5 11 rfl (dk D_X11_meet 1 rfl) (fun hc => ?_) (fun hc => ?_)
  · rw [if_pos hc] at h
    refine r_iconst (pc := 11) hX (dk D_X11_meet 5 rfl) ?_
    refine r_goto (pc := 12) hX 16 rfl (dk D_X11_meet 6 rfl) ?_
    replace h := Option.some.inj h
    subst y1
    exact hj (R32_lit rfl)
  · rw [if_neg hc] at h
    refine r_iload (pc := 5) hX 5 rfl (dk D_X11_meet 2 rfl) ?_
    refine r_iconst (pc := 7) hX (dk D_X11_meet 3 rfl) ?_
    refine r_icmp_ne (pc := 8) hX q_a5 (R32_lit rfl) 15 rfl (dk D_X11_meet 4 rfl) (fun hc => ?_) (fun hc => ?_)
    · rw [if_neg hc] at h
      refine r_iconst (pc := 15) hX (dk D_X11_meet 7 rfl) ?_
      replace h := Option.some.inj h
      subst y1
      exact hj (R32_lit rfl)
    · rw [if_pos hc] at h
      refine r_iconst (pc := 11) hX (dk D_X11_meet 5 rfl) ?_
      refine r_goto (pc := 12) hX 16 rfl (dk D_X11_meet 6 rfl) ?_
      replace h := Option.some.inj h
      subst y1
      exact hj (R32_lit rfl)
set_option maxRecDepth 100000 in
set_option maxHeartbeats 4000000 in
theorem L_T_bitOf_L4 {E : EX} {X : CX} {res : Int} {μe : Mem} (hX : Good E X cX11_bitOf 4 "TollsBack") (hM : GoodM E X (some .int) (some (0, res)) μe 0 0) (hRm : cR X = rmOf 1 0 0) : ∀ (n : Nat) (v0 v2 v3 : Int) (μ : Mem) (q_v0 : R32 v0) (q_v2 : R32 v2) (q_v3 : R32 v3) (h : T_bitOf_L4 n v0 v2 v3 μ = some (res, μe)), At E X cX11_bitOf 4 "TollsBack" (0, 0) 4 [(0, 0, v0), (2, 0, v2), (3, 0, v3)] [] μ := by
  intro n
  induction n with
  | zero =>
    intro v0 v2 v3 μ q_v0 q_v2 q_v3 h
    have h : (none : Option (Int × Mem)) = some (res, μe) := h
    cases h
  | succ n ih =>
    intro v0 v2 v3 μ q_v0 q_v2 q_v3 h
    rw [T_bitOf_L4.eq_2] at h
    refine r_iloadn (pc := 4) hX 2 rfl (dk D_X11_bitOf 4 rfl) ?_
    refine r_bipush (pc := 5) hX rfl (dk D_X11_bitOf 5 rfl) ?_
    refine r_icmp_ge (pc := 7) hX q_v3 (R32_lit rfl) 33 rfl (dk D_X11_bitOf 6 rfl) (fun hc => ?_) (fun hc => ?_)
    · rw [if_neg hc] at h
      refine r_iconst (pc := 33) hX (dk D_X11_bitOf 20 rfl) ?_
      cases h
      exact r_ireturn (pc := 34) hX (R32_lit rfl) hM ⟨by decide, by decide⟩ (dk D_X11_bitOf 21 rfl)
    · rw [if_pos hc] at h
      refine r_iloadn (pc := 10) hX 0 rfl (dk D_X11_bitOf 7 rfl) ?_
      refine r_iloadn (pc := 11) hX 2 rfl (dk D_X11_bitOf 8 rfl) ?_
      refine r_ishr (pc := 12) hX (dk D_X11_bitOf 9 rfl) ?_
      refine r_iconst (pc := 13) hX (dk D_X11_bitOf 10 rfl) ?_
      refine r_iand (pc := 14) hX (dk D_X11_bitOf 11 rfl) ?_
      refine r_if_eq (pc := 15) hX (R32_t _) 27 rfl (dk D_X11_bitOf 12 rfl) (fun hc => ?_) (fun hc => ?_)
      · rw [if_pos hc] at h
        refine r_iinc (lv' := [(3, 0, (w32 (v3 + 1))), (0, 0, v0), (2, 0, v2)]) (pc := 27) hX 2 rfl (by decide) rfl (dk D_X11_bitOf 18 rfl) ?_
        refine r_goto (pc := 30) hX 4 rfl (dk D_X11_bitOf 19 rfl) ?_
        refine r_sub (lv' := [(0, 0, v0), (2, 0, v2), (3, 0, (w32 (v3 + 1)))]) [1, 2, 0] rfl ?_
        exact ih v0 v2 (w32 (v3 + 1)) μ q_v0 q_v2 (R32_w _) h
      · rw [if_neg hc] at h
        refine r_iloadn (pc := 18) hX 1 rfl (dk D_X11_bitOf 13 rfl) ?_
        refine r_if_ne (pc := 19) hX q_v2 24 rfl (dk D_X11_bitOf 14 rfl) (fun hc => ?_) (fun hc => ?_)
        · rw [if_neg hc] at h
          refine r_iinc (lv' := [(2, 0, (w32 (v2 + (-1)))), (0, 0, v0), (3, 0, v3)]) (pc := 24) hX 1 rfl (by decide) rfl (dk D_X11_bitOf 17 rfl) ?_
          refine r_iinc (lv' := [(3, 0, (w32 (v3 + 1))), (2, 0, (w32 (v2 + (-1)))), (0, 0, v0)]) (pc := 27) hX 2 rfl (by decide) rfl (dk D_X11_bitOf 18 rfl) ?_
          refine r_goto (pc := 30) hX 4 rfl (dk D_X11_bitOf 19 rfl) ?_
          refine r_sub (lv' := [(0, 0, v0), (2, 0, (w32 (v2 + (-1)))), (3, 0, (w32 (v3 + 1)))]) [2, 1, 0] rfl ?_
          exact ih v0 (w32 (v2 + (-1))) (w32 (v3 + 1)) μ q_v0 (R32_w _) (R32_w _) h
        · rw [if_pos hc] at h
          refine r_iloadn (pc := 22) hX 2 rfl (dk D_X11_bitOf 15 rfl) ?_
          cases h
          exact r_ireturn (pc := 23) hX q_v3 hM ⟨by decide, by decide⟩ (dk D_X11_bitOf 16 rfl)
set_option maxRecDepth 100000 in
set_option maxHeartbeats 4000000 in
theorem L_T_bitOf {E : EX} {l : Launch} {a0 a1 res : Int} {μ μ' : Mem} (q_a0 : R32 a0) (q_a1 : R32 a1) (h : T_bitOf a0 a1 μ = some (res, μ')) : Ok E l 1 yX11_bitOf (.code yX11_bitOf cX11_bitOf 4 (some .int)) 0 0 [(0, a0), (0, a1)] μ (some (0, res)) μ' := by
  refine Ok.of (own := "TollsBack") [(0, 0, a0), (1, 0, a1)] (by decide +kernel) rfl (Nat.le_of_ble_eq_true rfl) rfl ?_
  intro X hL hRm hin hX hM
  unfold T_bitOf at h
  subst hL
  refine r_iloadn (pc := 0) hX 1 rfl (dk D_X11_bitOf 0 rfl) ?_
  refine r_istoren (lv' := [(2, 0, a1), (0, 0, a0), (1, 0, a1)]) (pc := 1) hX (by decide) rfl (dk D_X11_bitOf 1 rfl) ?_
  refine r_iconst (pc := 2) hX (dk D_X11_bitOf 2 rfl) ?_
  refine r_istoren (lv' := [(3, 0, 0), (2, 0, a1), (0, 0, a0), (1, 0, a1)]) (pc := 3) hX (by decide) rfl (dk D_X11_bitOf 3 rfl) ?_
  refine r_sub (lv' := [(0, 0, a0), (2, 0, a1), (3, 0, 0)]) [2, 1, 0] rfl ?_
  refine L_T_bitOf_L4 hX hM hRm FU a0 a1 0 μ q_a0 q_a1 (R32_lit rfl) h
set_option maxRecDepth 100000 in
set_option maxHeartbeats 4000000 in
theorem L_T_fair_L45 {E : EX} {X : CX} {res : Int} {μe : Mem} (hX : Good E X cX11_fair 8 "TollsBack") (hM : GoodM E X (some .int) (some (0, res)) μe 0 0) (hRm : cR X = rmOf 7 0 0) : ∀ (n : Nat) (v0 v3 v4 v5 v6 : Int) (μ : Mem) (q_v3 : R32 v3) (q_v5 : R32 v5) (q_v6 : R32 v6) (h : T_fair_L45 n v0 v3 v4 v5 v6 μ = some (res, μe)), At E X cX11_fair 8 "TollsBack" (0, 0) 45 [(0, 2, v0), (3, 0, v3), (4, 2, v4), (5, 0, v5), (6, 0, v6)] [] μ := by
  intro n
  induction n with
  | zero =>
    intro v0 v3 v4 v5 v6 μ q_v3 q_v5 q_v6 h
    have h : (none : Option (Int × Mem)) = some (res, μe) := h
    cases h
  | succ n ih =>
    intro v0 v3 v4 v5 v6 μ q_v3 q_v5 q_v6 h
    rw [T_fair_L45.eq_2] at h
    refine r_iload (pc := 45) hX 4 rfl (dk D_X11_fair 25 rfl) ?_
    refine r_iloadn (pc := 47) hX 1 rfl (dk D_X11_fair 26 rfl) ?_
    refine r_icmp_ge (pc := 48) hX q_v6 q_v3 122 rfl (dk D_X11_fair 27 rfl) (fun hc => ?_) (fun hc => ?_)
    · rw [if_neg hc] at h
      refine r_iloadn (pc := 122) hX 1 rfl (dk D_X11_fair 61 rfl) ?_
      cases h
      exact r_ireturn (pc := 123) hX q_v3 hM ⟨by decide, by decide⟩ (dk D_X11_fair 62 rfl)
    · rw [if_pos hc] at h
      refine r_aloadn (pc := 51) hX 0 rfl (dk D_X11_fair 28 rfl) ?_
      obtain ⟨x1, hx1, h⟩ := bd_some h
      refine r_getR (pc := 52) hX fl_11_26 rfl hx1 (dk D_X11_fair 29 rfl) ?_
      refine r_aload (pc := 55) hX 2 rfl (dk D_X11_fair 30 rfl) ?_
      obtain ⟨x2, hx2, h⟩ := bd_some h
      refine r_getI (pc := 57) hX fl_11_190 rfl rfl hx2 (dk D_X11_fair 31 rfl) (fun qx2 => ?_)
      obtain ⟨_, hi, h⟩ := bd_some h
      obtain ⟨x3, μ4, hx3, h⟩ := bd2_some h
      refine r_invV0 (As := [(0, x2)]) (pc := 60) hX ml_11_152 (L_Wo_openRoadsAt qx2 hx3) (isk_u hi) (Rm_of hRm (by decide) ⟨by decide, by decide⟩) (by decide) rfl (Nat.le_of_ble_eq_true rfl) rfl (dk D_X11_fair 32 rfl) (fun qx3 => ?_)
      refine r_istore (lv' := [(7, 0, x3), (0, 2, v0), (3, 0, v3), (4, 2, v4), (5, 0, v5), (6, 0, v6)]) (pc := 63) hX (by decide) rfl (dk D_X11_fair 33 rfl) ?_
      refine r_iload (pc := 65) hX 0 rfl (dk D_X11_fair 34 rfl) ?_
      refine r_if_ne (pc := 67) hX qx3 73 rfl (dk D_X11_fair 35 rfl) (fun hc => ?_) (fun hc => ?_)
      · rw [if_neg hc] at h
        refine r_ldcw (pc := 73) hX cn_11_403 (dk D_X11_fair 38 rfl) ?_
        refine r_iload (pc := 76) hX 4 rfl (dk D_X11_fair 39 rfl) ?_
        refine r_imul (pc := 78) hX (dk D_X11_fair 40 rfl) ?_
        refine r_sipush (pc := 79) hX rfl (dk D_X11_fair 41 rfl) ?_
        refine r_iadd (pc := 82) hX (dk D_X11_fair 42 rfl) ?_
        obtain ⟨x5, ex5, h⟩ := bd_some h
        replace ex5 := Option.some.inj ex5
        have qx5 : R32 x5 := ex5 ▸ (R32_w _)
        rw [ex5]
        refine r_istore (lv' := [(5, 0, x5), (7, 0, x3), (0, 2, v0), (3, 0, v3), (4, 2, v4), (6, 0, v6)]) (pc := 83) hX (by decide) rfl (dk D_X11_fair 43 rfl) ?_
        refine r_aloadn (pc := 85) hX 2 rfl (dk D_X11_fair 44 rfl) ?_
        obtain ⟨x6, hx6, h⟩ := bd_some h
        refine r_getR (pc := 86) hX fl_11_26 rfl hx6 (dk D_X11_fair 45 rfl) ?_
        refine r_aload (pc := 89) hX 4 rfl (dk D_X11_fair 46 rfl) ?_
        refine r_iload (pc := 91) hX 1 rfl (dk D_X11_fair 47 rfl) ?_
        refine r_iload (pc := 93) hX 0 rfl (dk D_X11_fair 48 rfl) ?_
        refine r_bipush (pc := 95) hX rfl (dk D_X11_fair 49 rfl) ?_
        refine r_iushr (pc := 97) hX (dk D_X11_fair 50 rfl) ?_
        refine r_iload (pc := 98) hX 1 rfl (dk D_X11_fair 51 rfl) ?_
        obtain ⟨x7, μ8, hx7, h⟩ := bd2_some h
        refine r_invS0 (As := [(0, x3)]) (pc := 100) hX ml_11_404 (L_J_bitCount qx3 hx7) (Rm_of hRm (by decide) ⟨by decide, by decide⟩) (by decide) rfl (Nat.le_of_ble_eq_true rfl) rfl (dk D_X11_fair 52 rfl) (fun qx7 => ?_)
        obtain ⟨x9, hx9, h⟩ := bd_some h
        refine r_irem (pc := 103) hX qx7 hx9 (dk D_X11_fair 53 rfl) (fun qx9 => ?_)
        obtain ⟨x10, μ11, hx10, h⟩ := bd2_some h
        refine r_invS0 (As := [(0, x3), (0, x9)]) (pc := 104) hX ml_11_409 (L_T_bitOf qx3 qx9 hx10) (Rm_of hRm (by decide) ⟨by decide, by decide⟩) (by decide) rfl (Nat.le_of_ble_eq_true rfl) rfl (dk D_X11_fair 54 rfl) (fun qx10 => ?_)
        obtain ⟨_, hi, h⟩ := bd_some h
        obtain ⟨x12, μ13, hx12, h⟩ := bd2_some h
        refine r_invV0 (As := [(2, v4), (0, x10)]) (pc := 107) hX ml_11_227 (L_Wo_move qx10 hx12) (isk_u hi) (Rm_of hRm (by decide) ⟨by decide, by decide⟩) (by decide) rfl (Nat.le_of_ble_eq_true rfl) rfl (dk D_X11_fair 55 rfl) (fun qx12 => ?_)
        refine r_if_ge (pc := 110) hX qx12 116 rfl (dk D_X11_fair 56 rfl) (fun hc => ?_) (fun hc => ?_)
        · rw [if_neg hc] at h
          refine r_iinc (lv' := [(6, 0, (w32 (v6 + 1))), (5, 0, x5), (7, 0, x3), (0, 2, v0), (3, 0, v3), (4, 2, v4)]) (pc := 116) hX 5 rfl (by decide) rfl (dk D_X11_fair 59 rfl) ?_
          refine r_goto (pc := 119) hX 45 rfl (dk D_X11_fair 60 rfl) ?_
          refine r_sub (lv' := [(0, 2, v0), (3, 0, v3), (4, 2, v4), (5, 0, x5), (6, 0, (w32 (v6 + 1)))]) [3, 4, 5, 1, 0] rfl ?_
          exact ih v0 v3 v4 x5 (w32 (v6 + 1)) μ13 q_v3 qx5 (R32_w _) h
        · rw [if_pos hc] at h
          refine r_iload (pc := 113) hX 5 rfl (dk D_X11_fair 57 rfl) ?_
          cases h
          exact r_ireturn (pc := 115) hX q_v6 hM ⟨by decide, by decide⟩ (dk D_X11_fair 58 rfl)
      · rw [if_pos hc] at h
        refine r_iload (pc := 70) hX 5 rfl (dk D_X11_fair 36 rfl) ?_
        cases h
        exact r_ireturn (pc := 72) hX q_v6 hM ⟨by decide, by decide⟩ (dk D_X11_fair 37 rfl)
set_option maxRecDepth 100000 in
set_option maxHeartbeats 4000000 in
theorem L_T_fair {E : EX} {l : Launch} {a0 a1 a2 a3 res : Int} {μ μ' : Mem} (q_a1 : R32 a1) (q_a2 : R32 a2) (q_a3 : R32 a3) (h : T_fair a0 a1 a2 a3 μ = some (res, μ')) : Ok E l 7 yX11_fair (.code yX11_fair cX11_fair 8 (some .int)) 0 0 [(2, a0), (0, a1), (0, a2), (0, a3)] μ (some (0, res)) μ' := by
  refine Ok.of (own := "TollsBack") [(0, 2, a0), (1, 0, a1), (2, 0, a2), (3, 0, a3)] (by decide +kernel) rfl (Nat.le_of_ble_eq_true rfl) rfl ?_
  intro X hL hRm hin hX hM
  unfold T_fair at h
  subst hL
  refine r_aloadn (pc := 0) hX 0 rfl (dk D_X11_fair 0 rfl) ?_
  obtain ⟨x1, hx1, h⟩ := bd_some h
  refine r_getR (pc := 1) hX fl_11_26 rfl hx1 (dk D_X11_fair 1 rfl) ?_
  refine r_iloadn (pc := 4) hX 1 rfl (dk D_X11_fair 2 rfl) ?_
  obtain ⟨_, hi, h⟩ := bd_some h
  obtain ⟨x2, μ3, hx2, h⟩ := bd2_some h
  refine r_invV0 (As := [(0, a1)]) (pc := 5) hX ml_11_183 (L_Wo_hasTraveller q_a1 hx2) (isk_u hi) (Rm_of hRm (by decide) ⟨by decide, by decide⟩) (by decide) rfl (Nat.le_of_ble_eq_true rfl) rfl (dk D_X11_fair 3 rfl) (fun qx2 => ?_)
  refine r_if_ne (pc := 8) hX qx2 14 rfl (dk D_X11_fair 4 rfl) (fun hc => ?_) (fun hc => ?_)
  · rw [if_neg hc] at h
    refine r_iloadn (pc := 14) hX 3 rfl (dk D_X11_fair 7 rfl) ?_
    refine r_iconst (pc := 15) hX (dk D_X11_fair 8 rfl) ?_
    refine r_icmp_lt (pc := 16) hX q_a3 (R32_lit rfl) 25 rfl (dk D_X11_fair 9 rfl) (fun hc => ?_) (fun hc => ?_)
    · rw [if_pos hc] at h
      refine r_bipush (pc := 25) hX rfl (dk D_X11_fair 13 rfl) ?_
      cases h
      exact r_ireturn (pc := 27) hX (R32_lit rfl) hM ⟨by decide, by decide⟩ (dk D_X11_fair 14 rfl)
    · rw [if_neg hc] at h
      refine r_iloadn (pc := 19) hX 3 rfl (dk D_X11_fair 10 rfl) ?_
      refine r_bipush (pc := 20) hX rfl (dk D_X11_fair 11 rfl) ?_
      refine r_icmp_le (pc := 22) hX q_a3 (R32_lit rfl) 28 rfl (dk D_X11_fair 12 rfl) (fun hc => ?_) (fun hc => ?_)
      · rw [if_neg hc] at h
        refine r_aloadn (pc := 28) hX 0 rfl (dk D_X11_fair 15 rfl) ?_
        obtain ⟨x4, hx4, h⟩ := bd_some h
        refine r_getR (pc := 29) hX fl_11_26 rfl hx4 (dk D_X11_fair 16 rfl) ?_
        obtain ⟨x5, hx5, h⟩ := bd_some h
        refine r_getR (pc := 32) hX fl_11_186 rfl hx5 (dk D_X11_fair 17 rfl) ?_
        refine r_iloadn (pc := 35) hX 1 rfl (dk D_X11_fair 18 rfl) ?_
        obtain ⟨x6, hx6, h⟩ := bd_some h
        refine r_aald24 (pc := 36) hX q_a1 hx6 (dk D_X11_fair 19 rfl) ?_
        refine r_astore (lv' := [(4, 2, x6), (0, 2, a0), (1, 0, a1), (2, 0, a2), (3, 0, a3)]) (pc := 37) hX (by decide) rfl (dk D_X11_fair 20 rfl) ?_
        refine r_iloadn (pc := 39) hX 3 rfl (dk D_X11_fair 21 rfl) ?_
        refine r_istore (lv' := [(5, 0, a2), (4, 2, x6), (0, 2, a0), (1, 0, a1), (2, 0, a2), (3, 0, a3)]) (pc := 40) hX (by decide) rfl (dk D_X11_fair 22 rfl) ?_
        refine r_iconst (pc := 42) hX (dk D_X11_fair 23 rfl) ?_
        refine r_istore (lv' := [(6, 0, 0), (5, 0, a2), (4, 2, x6), (0, 2, a0), (1, 0, a1), (2, 0, a2), (3, 0, a3)]) (pc := 43) hX (by decide) rfl (dk D_X11_fair 24 rfl) ?_
        refine r_sub (lv' := [(0, 2, a0), (3, 0, a3), (4, 2, x6), (5, 0, a2), (6, 0, 0)]) [3, 6, 2, 1, 0] rfl ?_
        refine L_T_fair_L45 hX hM hRm FU a0 a3 x6 a2 0 μ3 q_a3 q_a2 (R32_lit rfl) h
      · rw [if_pos hc] at h
        refine r_bipush (pc := 25) hX rfl (dk D_X11_fair 13 rfl) ?_
        cases h
        exact r_ireturn (pc := 27) hX (R32_lit rfl) hM ⟨by decide, by decide⟩ (dk D_X11_fair 14 rfl)
  · rw [if_pos hc] at h
    refine r_bipush (pc := 11) hX rfl (dk D_X11_fair 5 rfl) ?_
    cases h
    exact r_ireturn (pc := 13) hX (R32_lit rfl) hM ⟨by decide, by decide⟩ (dk D_X11_fair 6 rfl)
set_option maxRecDepth 100000 in
set_option maxHeartbeats 4000000 in
theorem L_T_numbers {E : EX} {l : Launch} {a0 a1 a2 a3 res : Int} {μ μ' : Mem} (q_a1 : R32 a1) (q_a2 : R32 a2) (q_a3 : R32 a3) (h : T_numbers a0 a1 a2 a3 μ = some (res, μ')) : Ok E l 3 yX11_numbers (.code yX11_numbers cX11_numbers 4 (some .int)) 0 0 [(2, a0), (0, a1), (0, a2), (0, a3)] μ (some (0, res)) μ' := by
  refine Ok.of (own := "TollsBack") [(0, 2, a0), (1, 0, a1), (2, 0, a2), (3, 0, a3)] (by decide +kernel) rfl (Nat.le_of_ble_eq_true rfl) rfl ?_
  intro X hL hRm hin hX hM
  unfold T_numbers at h
  subst hL
  refine r_iloadn (pc := 0) hX 1 rfl (dk D_X11_numbers 0 rfl) ?_
  obtain ⟨x1, μ2, hx1, h⟩ := bd2_some h
  refine r_invS0 (As := [(0, a1)]) (pc := 1) hX ml_11_242 (L_T_isRow q_a1 hx1) (Rm_of hRm (by decide) ⟨by decide, by decide⟩) (by decide) rfl (Nat.le_of_ble_eq_true rfl) rfl (dk D_X11_numbers 1 rfl) (fun qx1 => ?_)
  refine r_if_eq (pc := 4) hX qx1 16 rfl (dk D_X11_numbers 2 rfl) (fun hc => ?_) (fun hc => ?_)
  · rw [if_pos hc] at h
    refine r_bipush (pc := 16) hX rfl (dk D_X11_numbers 8 rfl) ?_
    cases h
    exact r_ireturn (pc := 18) hX (R32_lit rfl) hM ⟨by decide, by decide⟩ (dk D_X11_numbers 9 rfl)
  · rw [if_neg hc] at h
    refine r_iloadn (pc := 7) hX 2 rfl (dk D_X11_numbers 3 rfl) ?_
    refine r_if_lt (pc := 8) hX q_a2 16 rfl (dk D_X11_numbers 4 rfl) (fun hc => ?_) (fun hc => ?_)
    · rw [if_pos hc] at h
      refine r_bipush (pc := 16) hX rfl (dk D_X11_numbers 8 rfl) ?_
      cases h
      exact r_ireturn (pc := 18) hX (R32_lit rfl) hM ⟨by decide, by decide⟩ (dk D_X11_numbers 9 rfl)
    · rw [if_neg hc] at h
      refine r_iloadn (pc := 11) hX 2 rfl (dk D_X11_numbers 5 rfl) ?_
      refine r_iconst (pc := 12) hX (dk D_X11_numbers 6 rfl) ?_
      refine r_icmp_le (pc := 13) hX q_a2 (R32_lit rfl) 19 rfl (dk D_X11_numbers 7 rfl) (fun hc => ?_) (fun hc => ?_)
      · rw [if_neg hc] at h
        refine r_iloadn (pc := 19) hX 3 rfl (dk D_X11_numbers 10 rfl) ?_
        refine r_if_lt (pc := 20) hX q_a3 29 rfl (dk D_X11_numbers 11 rfl) (fun hc => ?_) (fun hc => ?_)
        · rw [if_pos hc] at h
          refine r_bipush (pc := 29) hX rfl (dk D_X11_numbers 15 rfl) ?_
          cases h
          exact r_ireturn (pc := 31) hX (R32_lit rfl) hM ⟨by decide, by decide⟩ (dk D_X11_numbers 16 rfl)
        · rw [if_neg hc] at h
          refine r_iloadn (pc := 23) hX 3 rfl (dk D_X11_numbers 12 rfl) ?_
          refine r_bipush (pc := 24) hX rfl (dk D_X11_numbers 13 rfl) ?_
          refine r_icmp_le (pc := 26) hX q_a3 (R32_lit rfl) 32 rfl (dk D_X11_numbers 14 rfl) (fun hc => ?_) (fun hc => ?_)
          · rw [if_neg hc] at h
            refine r_aloadn (pc := 32) hX 0 rfl (dk D_X11_numbers 17 rfl) ?_
            obtain ⟨x3, hx3, h⟩ := bd_some h
            refine r_getR (pc := 33) hX fl_11_36 rfl hx3 (dk D_X11_numbers 18 rfl) ?_
            refine r_iloadn (pc := 36) hX 1 rfl (dk D_X11_numbers 19 rfl) ?_
            obtain ⟨x4, hx4, h⟩ := bd_some h
            refine r_aald26 (pc := 37) hX q_a1 hx4 (dk D_X11_numbers 20 rfl) ?_
            refine r_iloadn (pc := 38) hX 2 rfl (dk D_X11_numbers 21 rfl) ?_
            refine r_iloadn (pc := 39) hX 3 rfl (dk D_X11_numbers 22 rfl) ?_
            obtain ⟨_, hi, h⟩ := bd_some h
            obtain ⟨x5, μ6, hx5, h⟩ := bd2_some h
            refine r_invV0 (As := [(0, a2), (0, a3)]) (pc := 40) hX ml_11_412 (L_Nu_renew q_a2 q_a3 hx5) (isk_u hi) (Rm_of hRm (by decide) ⟨by decide, by decide⟩) (by decide) rfl (Nat.le_of_ble_eq_true rfl) rfl (dk D_X11_numbers 23 rfl) (fun _ => ?_)
            refine r_iconst (pc := 43) hX (dk D_X11_numbers 24 rfl) ?_
            cases h
            exact r_ireturn (pc := 44) hX (R32_lit rfl) hM ⟨by decide, by decide⟩ (dk D_X11_numbers 25 rfl)
          · rw [if_pos hc] at h
            refine r_bipush (pc := 29) hX rfl (dk D_X11_numbers 15 rfl) ?_
            cases h
            exact r_ireturn (pc := 31) hX (R32_lit rfl) hM ⟨by decide, by decide⟩ (dk D_X11_numbers 16 rfl)
      · rw [if_pos hc] at h
        refine r_bipush (pc := 16) hX rfl (dk D_X11_numbers 8 rfl) ?_
        cases h
        exact r_ireturn (pc := 18) hX (R32_lit rfl) hM ⟨by decide, by decide⟩ (dk D_X11_numbers 9 rfl)
set_option maxRecDepth 100000 in
set_option maxHeartbeats 4000000 in
theorem L_T_write {E : EX} {l : Launch} {a0 a1 a2 a3 res : Int} {μ μ' : Mem} (q_a1 : R32 a1) (q_a2 : R32 a2) (q_a3 : R64 a3) (h : T_write a0 a1 a2 a3 μ = some (res, μ')) : Ok E l 2 yX11_write (.code yX11_write cX11_write 6 (some .long)) 0 0 [(2, a0), (0, a1), (0, a2), (1, a3)] μ (some (1, res)) μ' := by
  refine Ok.of (own := "TollsBack") [(0, 2, a0), (1, 0, a1), (2, 0, a2), (3, 1, a3)] (by decide +kernel) rfl (Nat.le_of_ble_eq_true rfl) rfl ?_
  intro X hL hRm hin hX hM
  unfold T_write at h
  subst hL
  refine r_iloadn (pc := 0) hX 1 rfl (dk D_X11_write 0 rfl) ?_
  obtain ⟨x1, μ2, hx1, h⟩ := bd2_some h
  refine r_invS0 (As := [(0, a1)]) (pc := 1) hX ml_11_242 (L_T_isRow q_a1 hx1) (Rm_of hRm (by decide) ⟨by decide, by decide⟩) (by decide) rfl (Nat.le_of_ble_eq_true rfl) rfl (dk D_X11_write 1 rfl) (fun qx1 => ?_)
  refine r_if_ne (pc := 4) hX qx1 11 rfl (dk D_X11_write 2 rfl) (fun hc => ?_) (fun hc => ?_)
  · rw [if_neg hc] at h
    refine r_aloadn (pc := 11) hX 0 rfl (dk D_X11_write 5 rfl) ?_
    obtain ⟨x3, hx3, h⟩ := bd_some h
    refine r_getR (pc := 12) hX fl_11_36 rfl hx3 (dk D_X11_write 6 rfl) ?_
    refine r_iloadn (pc := 15) hX 1 rfl (dk D_X11_write 7 rfl) ?_
    obtain ⟨x4, hx4, h⟩ := bd_some h
    refine r_aald26 (pc := 16) hX q_a1 hx4 (dk D_X11_write 8 rfl) ?_
    refine r_astore (lv' := [(5, 2, x4), (0, 2, a0), (1, 0, a1), (2, 0, a2), (3, 1, a3)]) (pc := 17) hX (by decide) rfl (dk D_X11_write 9 rfl) ?_
    refine r_aload (pc := 19) hX 0 rfl (dk D_X11_write 10 rfl) ?_
    obtain ⟨x5, hx5, h⟩ := bd_some h
    refine r_getI (pc := 21) hX fl_11_245 rfl rfl hx5 (dk D_X11_write 11 rfl) (fun qx5 => ?_)
    refine r_if_eq (pc := 24) hX qx5 31 rfl (dk D_X11_write 12 rfl) (fun hc => ?_) (fun hc => ?_)
    · rw [if_pos hc] at h
      refine r_iloadn (pc := 31) hX 3 rfl (dk D_X11_write 15 rfl) ?_
      refine r_if_lt (pc := 32) hX q_a2 44 rfl (dk D_X11_write 16 rfl) (fun hc => ?_) (fun hc => ?_)
      · rw [if_pos hc] at h
        refine r_ldc2 (pc := 44) hX cn_11_420 (dk D_X11_write 21 rfl) ?_
        cases h
        exact r_lreturn (pc := 47) hX (R64_lit rfl) hM ⟨by decide, by decide⟩ (dk D_X11_write 22 rfl)
      · rw [if_neg hc] at h
        refine r_iloadn (pc := 35) hX 3 rfl (dk D_X11_write 17 rfl) ?_
        refine r_aload (pc := 36) hX 0 rfl (dk D_X11_write 18 rfl) ?_
        obtain ⟨x6, hx6, h⟩ := bd_some h
        refine r_getI (pc := 38) hX fl_11_262 rfl rfl hx6 (dk D_X11_write 19 rfl) (fun qx6 => ?_)
        refine r_icmp_lt (pc := 41) hX q_a2 qx6 48 rfl (dk D_X11_write 20 rfl) (fun hc => ?_) (fun hc => ?_)
        · rw [if_pos hc] at h
          refine r_aload (pc := 48) hX 0 rfl (dk D_X11_write 23 rfl) ?_
          refine r_iloadn (pc := 50) hX 3 rfl (dk D_X11_write 24 rfl) ?_
          refine r_lloadn (pc := 51) hX 4 rfl (dk D_X11_write 25 rfl) ?_
          obtain ⟨_, hi, h⟩ := bd_some h
          obtain ⟨x7, μ8, hx7, h⟩ := bd2_some h
          refine r_invV0 (As := [(0, a2), (1, a3)]) (pc := 52) hX ml_11_422 (L_Nu_put q_a2 q_a3 hx7) (isk_u hi) (Rm_of hRm (by decide) ⟨by decide, by decide⟩) (by decide) rfl (Nat.le_of_ble_eq_true rfl) rfl (dk D_X11_write 26 rfl) (fun _ => ?_)
          refine r_aload (pc := 55) hX 0 rfl (dk D_X11_write 27 rfl) ?_
          obtain ⟨x9, hx9, h⟩ := bd_some h
          refine r_getR (pc := 57) hX fl_11_426 rfl hx9 (dk D_X11_write 28 rfl) ?_
          refine r_iloadn (pc := 60) hX 3 rfl (dk D_X11_write 29 rfl) ?_
          obtain ⟨x10, hx10, h⟩ := bd_some h
          refine r_lald (pc := 61) hX q_a2 hx10 (dk D_X11_write 30 rfl) (fun qx10 => ?_)
          cases h
          exact r_lreturn (pc := 62) hX qx10 hM ⟨by decide, by decide⟩ (dk D_X11_write 31 rfl)
        · rw [if_neg hc] at h
          refine r_ldc2 (pc := 44) hX cn_11_420 (dk D_X11_write 21 rfl) ?_
          cases h
          exact r_lreturn (pc := 47) hX (R64_lit rfl) hM ⟨by decide, by decide⟩ (dk D_X11_write 22 rfl)
    · rw [if_neg hc] at h
      refine r_ldc2 (pc := 27) hX cn_11_418 (dk D_X11_write 13 rfl) ?_
      cases h
      exact r_lreturn (pc := 30) hX (R64_lit rfl) hM ⟨by decide, by decide⟩ (dk D_X11_write 14 rfl)
  · rw [if_pos hc] at h
    refine r_ldc2 (pc := 7) hX cn_11_416 (dk D_X11_write 3 rfl) ?_
    cases h
    exact r_lreturn (pc := 10) hX (R64_lit rfl) hM ⟨by decide, by decide⟩ (dk D_X11_write 4 rfl)
set_option maxRecDepth 100000 in
set_option maxHeartbeats 4000000 in
theorem L_T_copy_L68 {E : EX} {X : CX} {res : Int} {μe : Mem} (hX : Good E X cX11_copy 6 "TollsBack") (hM : GoodM E X (some .int) (some (0, res)) μe 0 0) (hRm : cR X = rmOf 2 0 0) : ∀ (n : Nat) (v3 v4 v5 : Int) (μ : Mem) (q_v5 : R32 v5) (h : T_copy_L68 n v3 v4 v5 μ = some (res, μe)), At E X cX11_copy 6 "TollsBack" (0, 0) 68 [(3, 2, v3), (4, 2, v4), (5, 0, v5)] [] μ := by
  intro n
  induction n with
  | zero =>
    intro v3 v4 v5 μ q_v5 h
    have h : (none : Option (Int × Mem)) = some (res, μe) := h
    cases h
  | succ n ih =>
    intro v3 v4 v5 μ q_v5 h
    rw [T_copy_L68.eq_2] at h
    refine r_iload (pc := 68) hX 2 rfl (dk D_X11_copy 35 rfl) ?_
    refine r_aloadn (pc := 70) hX 0 rfl (dk D_X11_copy 36 rfl) ?_
    obtain ⟨x1, hx1, h⟩ := bd_some h
    refine r_getI (pc := 71) hX fl_11_199 rfl rfl hx1 (dk D_X11_copy 37 rfl) (fun qx1 => ?_)
    refine r_icmp_ge (pc := 74) hX q_v5 qx1 98 rfl (dk D_X11_copy 38 rfl) (fun hc => ?_) (fun hc => ?_)
    · rw [if_neg hc] at h
      refine r_aloadn (pc := 98) hX 0 rfl (dk D_X11_copy 49 rfl) ?_
      obtain ⟨x2, hx2, h⟩ := bd_some h
      refine r_getI (pc := 99) hX fl_11_199 rfl rfl hx2 (dk D_X11_copy 50 rfl) (fun qx2 => ?_)
      cases h
      exact r_ireturn (pc := 102) hX qx2 hM ⟨by decide, by decide⟩ (dk D_X11_copy 51 rfl)
    · rw [if_pos hc] at h
      refine r_aload (pc := 77) hX 1 rfl (dk D_X11_copy 39 rfl) ?_
      refine r_iload (pc := 79) hX 2 rfl (dk D_X11_copy 40 rfl) ?_
      refine r_aloadn (pc := 81) hX 0 rfl (dk D_X11_copy 41 rfl) ?_
      obtain ⟨x3, hx3, h⟩ := bd_some h
      refine r_getR (pc := 82) hX fl_11_208 rfl hx3 (dk D_X11_copy 42 rfl) ?_
      refine r_iload (pc := 85) hX 2 rfl (dk D_X11_copy 43 rfl) ?_
      obtain ⟨x4, hx4, h⟩ := bd_some h
      refine r_iald (pc := 87) hX q_v5 hx4 (dk D_X11_copy 44 rfl) (fun qx4 => ?_)
      refine r_i2l (pc := 88) hX qx4 (dk D_X11_copy 45 rfl) ?_
      obtain ⟨_, hi, h⟩ := bd_some h
      obtain ⟨x5, μ6, hx5, h⟩ := bd2_some h
      refine r_invV0 (As := [(0, v5), (1, x4)]) (pc := 89) hX ml_11_422 (L_Nu_put q_v5 (R64_of qx4) hx5) (isk_u hi) (Rm_of hRm (by decide) ⟨by decide, by decide⟩) (by decide) rfl (Nat.le_of_ble_eq_true rfl) rfl (dk D_X11_copy 46 rfl) (fun _ => ?_)
      refine r_iinc (lv' := [(5, 0, (w32 (v5 + 1))), (3, 2, v3), (4, 2, v4)]) (pc := 92) hX 2 rfl (by decide) rfl (dk D_X11_copy 47 rfl) ?_
      refine r_goto (pc := 95) hX 68 rfl (dk D_X11_copy 48 rfl) ?_
      refine r_sub (lv' := [(3, 2, v3), (4, 2, v4), (5, 0, (w32 (v5 + 1)))]) [1, 2, 0] rfl ?_
      exact ih v3 v4 (w32 (v5 + 1)) μ6 (R32_w _) h
set_option maxRecDepth 100000 in
set_option maxHeartbeats 4000000 in
theorem L_T_copy {E : EX} {l : Launch} {a0 a1 a2 res : Int} {μ μ' : Mem} (q_a1 : R32 a1) (q_a2 : R32 a2) (h : T_copy a0 a1 a2 μ = some (res, μ')) : Ok E l 2 yX11_copy (.code yX11_copy cX11_copy 6 (some .int)) 0 0 [(2, a0), (0, a1), (0, a2)] μ (some (0, res)) μ' := by
  refine Ok.of (own := "TollsBack") [(0, 2, a0), (1, 0, a1), (2, 0, a2)] (by decide +kernel) rfl (Nat.le_of_ble_eq_true rfl) rfl ?_
  intro X hL hRm hin hX hM
  unfold T_copy at h
  subst hL
  refine r_aloadn (pc := 0) hX 0 rfl (dk D_X11_copy 0 rfl) ?_
  obtain ⟨x1, hx1, h⟩ := bd_some h
  refine r_getR (pc := 1) hX fl_11_26 rfl hx1 (dk D_X11_copy 1 rfl) ?_
  refine r_iloadn (pc := 4) hX 1 rfl (dk D_X11_copy 2 rfl) ?_
  obtain ⟨_, hi, h⟩ := bd_some h
  obtain ⟨x2, μ3, hx2, h⟩ := bd2_some h
  refine r_invV0 (As := [(0, a1)]) (pc := 5) hX ml_11_183 (L_Wo_hasTraveller q_a1 hx2) (isk_u hi) (Rm_of hRm (by decide) ⟨by decide, by decide⟩) (by decide) rfl (Nat.le_of_ble_eq_true rfl) rfl (dk D_X11_copy 3 rfl) (fun qx2 => ?_)
  refine r_if_eq (pc := 8) hX qx2 18 rfl (dk D_X11_copy 4 rfl) (fun hc => ?_) (fun hc => ?_)
  · rw [if_pos hc] at h
    refine r_bipush (pc := 18) hX rfl (dk D_X11_copy 8 rfl) ?_
    cases h
    exact r_ireturn (pc := 20) hX (R32_lit rfl) hM ⟨by decide, by decide⟩ (dk D_X11_copy 9 rfl)
  · rw [if_neg hc] at h
    refine r_iloadn (pc := 11) hX 2 rfl (dk D_X11_copy 5 rfl) ?_
    obtain ⟨x4, μ5, hx4, h⟩ := bd2_some h
    refine r_invS0 (As := [(0, a2)]) (pc := 12) hX ml_11_242 (L_T_isRow q_a2 hx4) (Rm_of hRm (by decide) ⟨by decide, by decide⟩) (by decide) rfl (Nat.le_of_ble_eq_true rfl) rfl (dk D_X11_copy 6 rfl) (fun qx4 => ?_)
    refine r_if_ne (pc := 15) hX qx4 21 rfl (dk D_X11_copy 7 rfl) (fun hc => ?_) (fun hc => ?_)
    · rw [if_neg hc] at h
      refine r_aloadn (pc := 21) hX 0 rfl (dk D_X11_copy 10 rfl) ?_
      obtain ⟨x6, hx6, h⟩ := bd_some h
      refine r_getR (pc := 22) hX fl_11_26 rfl hx6 (dk D_X11_copy 11 rfl) ?_
      obtain ⟨x7, hx7, h⟩ := bd_some h
      refine r_getR (pc := 25) hX fl_11_186 rfl hx7 (dk D_X11_copy 12 rfl) ?_
      refine r_iloadn (pc := 28) hX 1 rfl (dk D_X11_copy 13 rfl) ?_
      obtain ⟨x8, hx8, h⟩ := bd_some h
      refine r_aald24 (pc := 29) hX q_a1 hx8 (dk D_X11_copy 14 rfl) ?_
      refine r_astoren (lv' := [(3, 2, x8), (0, 2, a0), (1, 0, a1), (2, 0, a2)]) (pc := 30) hX (by decide) rfl (dk D_X11_copy 15 rfl) ?_
      refine r_aloadn (pc := 31) hX 1 rfl (dk D_X11_copy 16 rfl) ?_
      obtain ⟨x9, hx9, h⟩ := bd_some h
      refine r_getR (pc := 32) hX fl_11_36 rfl hx9 (dk D_X11_copy 17 rfl) ?_
      refine r_iloadn (pc := 35) hX 3 rfl (dk D_X11_copy 18 rfl) ?_
      obtain ⟨x10, hx10, h⟩ := bd_some h
      refine r_aald26 (pc := 36) hX q_a2 hx10 (dk D_X11_copy 19 rfl) ?_
      refine r_astore (lv' := [(4, 2, x10), (3, 2, x8), (0, 2, a0), (1, 0, a1), (2, 0, a2)]) (pc := 37) hX (by decide) rfl (dk D_X11_copy 20 rfl) ?_
      refine r_aload (pc := 39) hX 0 rfl (dk D_X11_copy 21 rfl) ?_
      obtain ⟨x11, hx11, h⟩ := bd_some h
      refine r_getI (pc := 41) hX fl_11_245 rfl rfl hx11 (dk D_X11_copy 22 rfl) (fun qx11 => ?_)
      refine r_if_eq (pc := 44) hX qx11 50 rfl (dk D_X11_copy 23 rfl) (fun hc => ?_) (fun hc => ?_)
      · rw [if_pos hc] at h
        refine r_aload (pc := 50) hX 0 rfl (dk D_X11_copy 26 rfl) ?_
        obtain ⟨x12, hx12, h⟩ := bd_some h
        refine r_getI (pc := 52) hX fl_11_262 rfl rfl hx12 (dk D_X11_copy 27 rfl) (fun qx12 => ?_)
        refine r_aloadn (pc := 55) hX 1 rfl (dk D_X11_copy 28 rfl) ?_
        obtain ⟨x13, hx13, h⟩ := bd_some h
        refine r_getI (pc := 56) hX fl_11_199 rfl rfl hx13 (dk D_X11_copy 29 rfl) (fun qx13 => ?_)
        refine r_icmp_ge (pc := 59) hX qx12 qx13 65 rfl (dk D_X11_copy 30 rfl) (fun hc => ?_) (fun hc => ?_)
        · rw [if_neg hc] at h
          refine r_iconst (pc := 65) hX (dk D_X11_copy 33 rfl) ?_
          refine r_istore (lv' := [(5, 0, 0), (4, 2, x10), (3, 2, x8), (0, 2, a0), (1, 0, a1), (2, 0, a2)]) (pc := 66) hX (by decide) rfl (dk D_X11_copy 34 rfl) ?_
          refine r_sub (lv' := [(3, 2, x8), (4, 2, x10), (5, 0, 0)]) [2, 1, 0] rfl ?_
          refine L_T_copy_L68 hX hM hRm FU x8 x10 0 μ5 (R32_lit rfl) h
        · rw [if_pos hc] at h
          refine r_bipush (pc := 62) hX rfl (dk D_X11_copy 31 rfl) ?_
          cases h
          exact r_ireturn (pc := 64) hX (R32_lit rfl) hM ⟨by decide, by decide⟩ (dk D_X11_copy 32 rfl)
      · rw [if_neg hc] at h
        refine r_bipush (pc := 47) hX rfl (dk D_X11_copy 24 rfl) ?_
        cases h
        exact r_ireturn (pc := 49) hX (R32_lit rfl) hM ⟨by decide, by decide⟩ (dk D_X11_copy 25 rfl)
    · rw [if_pos hc] at h
      refine r_bipush (pc := 18) hX rfl (dk D_X11_copy 8 rfl) ?_
      cases h
      exact r_ireturn (pc := 20) hX (R32_lit rfl) hM ⟨by decide, by decide⟩ (dk D_X11_copy 9 rfl)
set_option maxRecDepth 100000 in
set_option maxHeartbeats 4000000 in
theorem L_T_image_J34 {E : EX} {X : CX} {res : Int} {μe : Mem} (hX : Good E X cX11_image 2 "TollsBack") (hM : GoodM E X (some .int) (some (0, res)) μe 37 1768) (hRm : cR X = rmOf 4 37 1768) {v0 v1 : Int} {μ : Mem} {c0 s0 : Nat} (hcs : c0 ≤ 37 ∧ s0 ≤ 1768) (q_v1 : R32 v1) (h : T_image_J34 v0 v1 μ = some (res, μe)) : At E X cX11_image 2 "TollsBack" (c0, s0) 34 [(0, 2, v0), (1, 0, v1)] [] μ := by
  unfold T_image_J34 at h
  refine r_aloadn (pc := 34) (cs := (c0, s0)) hX 0 rfl (dk D_X11_image 19 rfl) ?_
  obtain ⟨x1, hx1, h⟩ := bd_some h
  refine r_getR (pc := 35) (cs := (c0, s0)) hX fl_11_30 rfl hx1 (dk D_X11_image 20 rfl) ?_
  refine r_iloadn (pc := 38) (cs := (c0, s0)) hX 1 rfl (dk D_X11_image 21 rfl) ?_
  obtain ⟨x2, hx2, h⟩ := bd_some h
  refine r_aald25 (pc := 39) (cs := (c0, s0)) hX q_v1 hx2 (dk D_X11_image 22 rfl) ?_
  refine r_aloadn (pc := 40) (cs := (c0, s0)) hX 0 rfl (dk D_X11_image 23 rfl) ?_
  obtain ⟨x3, hx3, h⟩ := bd_some h
  refine r_getR (pc := 41) (cs := (c0, s0)) hX fl_11_26 rfl hx3 (dk D_X11_image 24 rfl) ?_
  obtain ⟨_, hi, h⟩ := bd_some h
  obtain ⟨x4, μ5, hx4, h⟩ := bd2_some h
  refine r_invV0 (As := [(2, x3)]) (pc := 44) (cs := (c0, s0)) hX ml_11_430 (L_Wo_become hx4) (isk_u hi) (Rm_of hRm (by decide) ⟨by (try dsimp only); omega, by (try dsimp only); omega⟩) (by decide) rfl (Nat.le_of_ble_eq_true rfl) rfl (dk D_X11_image 25 rfl) (fun _ => ?_)
  refine r_iconst (pc := 47) (cs := (c0, s0)) hX (dk D_X11_image 26 rfl) ?_
  cases h
  exact r_ireturn (pc := 48) hX (R32_lit rfl) hM ⟨by (try dsimp only); omega, by (try dsimp only); omega⟩ (dk D_X11_image 27 rfl)
set_option maxRecDepth 100000 in
set_option maxHeartbeats 4000000 in
theorem L_T_image {E : EX} {l : Launch} {a0 a1 res : Int} {μ μ' : Mem} (q_a1 : R32 a1) (h : T_image a0 a1 μ = some (res, μ')) : Ok E l 4 yX11_image (.code yX11_image cX11_image 2 (some .int)) 37 1768 [(2, a0), (0, a1)] μ (some (0, res)) μ' := by
  refine Ok.of (own := "TollsBack") [(0, 2, a0), (1, 0, a1)] (by decide +kernel) rfl (Nat.le_of_ble_eq_true rfl) rfl ?_
  intro X hL hRm hin hX hM
  unfold T_image at h
  subst hL
  refine r_iloadn (pc := 0) (cs := (0, 0)) hX 1 rfl (dk D_X11_image 0 rfl) ?_
  refine r_if_lt (pc := 1) (cs := (0, 0)) hX q_a1 9 rfl (dk D_X11_image 1 rfl) (fun hc => ?_) (fun hc => ?_)
  · rw [if_pos hc] at h
    refine r_bipush (pc := 9) (cs := (0, 0)) hX rfl (dk D_X11_image 5 rfl) ?_
    cases h
    exact r_ireturn (pc := 11) hX (R32_lit rfl) hM ⟨by (try dsimp only); omega, by (try dsimp only); omega⟩ (dk D_X11_image 6 rfl)
  · rw [if_neg hc] at h
    refine r_iloadn (pc := 4) (cs := (0, 0)) hX 1 rfl (dk D_X11_image 2 rfl) ?_
    refine r_iconst (pc := 5) (cs := (0, 0)) hX (dk D_X11_image 3 rfl) ?_
    refine r_icmp_lt (pc := 6) (cs := (0, 0)) hX q_a1 (R32_lit rfl) 12 rfl (dk D_X11_image 4 rfl) (fun hc => ?_) (fun hc => ?_)
    · rw [if_pos hc] at h
      refine r_aloadn (pc := 12) (cs := (0, 0)) hX 0 rfl (dk D_X11_image 7 rfl) ?_
      obtain ⟨x1, hx1, h⟩ := bd_some h
      refine r_getR (pc := 13) (cs := (0, 0)) hX fl_11_30 rfl hx1 (dk D_X11_image 8 rfl) ?_
      refine r_iloadn (pc := 16) (cs := (0, 0)) hX 1 rfl (dk D_X11_image 9 rfl) ?_
      obtain ⟨x2, hx2, h⟩ := bd_some h
      refine r_aald25 (pc := 17) (cs := (0, 0)) hX q_a1 hx2 (dk D_X11_image 10 rfl) ?_
      refine r_nonnull (pc := 18) (cs := (0, 0)) hX 34 rfl (dk D_X11_image 11 rfl) (fun hc => ?_) (fun hc => ?_)
      · rw [if_neg hc] at h
        refine L_T_image_J34 hX hM hRm (by omega) q_a1 h
      · rw [if_pos hc] at h
        refine r_aloadn (pc := 21) (cs := (0, 0)) hX 0 rfl (dk D_X11_image 12 rfl) ?_
        obtain ⟨x3, hx3, h⟩ := bd_some h
        refine r_getR (pc := 22) (cs := (0, 0)) hX fl_11_30 rfl hx3 (dk D_X11_image 13 rfl) ?_
        refine r_iloadn (pc := 25) (cs := (0, 0)) hX 1 rfl (dk D_X11_image 14 rfl) ?_
        refine r_new (pc := 26) (cs := (0, 0)) hX nw_11_23 (by rw [hRm]; exact ⟨by (show _ ≤ (rmOf _ _ _).cells); (simp only [rmOf]); omega, by (show _ ≤ (rmOf _ _ _).slots); (simp only [rmOf]); omega⟩) (dk D_X11_image 15 rfl) ?_
        refine r_dup (pc := 29) (cs := (1, 6)) hX rfl (dk D_X11_image 16 rfl) ?_
        obtain ⟨x4, μ5, hx4, h⟩ := bd2_some h
        refine r_invI (As := []) (pc := 30) (cs := (1, 6)) hX ml_11_25 (L_Wo_init hx4) nlen_nn (Rm_of hRm (by decide) ⟨by (try dsimp only); omega, by (try dsimp only); omega⟩) (by decide) rfl (Nat.le_of_ble_eq_true rfl) rfl (dk D_X11_image 17 rfl) ?_
        obtain ⟨_, hi, h⟩ := bd_some h
        obtain ⟨μ6, hμ6, h⟩ := bd_some h
        refine r_aast25 (pc := 33) (cs := (37, 1768)) hX q_a1 (isk_u hi) hμ6 (dk D_X11_image 18 rfl) ?_
        refine L_T_image_J34 hX hM hRm (by omega) q_a1 h
    · rw [if_neg hc] at h
      refine r_bipush (pc := 9) (cs := (0, 0)) hX rfl (dk D_X11_image 5 rfl) ?_
      cases h
      exact r_ireturn (pc := 11) hX (R32_lit rfl) hM ⟨by (try dsimp only); omega, by (try dsimp only); omega⟩ (dk D_X11_image 6 rfl)
set_option maxRecDepth 100000 in
set_option maxHeartbeats 4000000 in
theorem L_T_restore {E : EX} {l : Launch} {a0 a1 res : Int} {μ μ' : Mem} (q_a1 : R32 a1) (h : T_restore a0 a1 μ = some (res, μ')) : Ok E l 3 yX11_restore (.code yX11_restore cX11_restore 2 (some .int)) 0 0 [(2, a0), (0, a1)] μ (some (0, res)) μ' := by
  refine Ok.of (own := "TollsBack") [(0, 2, a0), (1, 0, a1)] (by decide +kernel) rfl (Nat.le_of_ble_eq_true rfl) rfl ?_
  intro X hL hRm hin hX hM
  unfold T_restore at h
  subst hL
  refine r_iloadn (pc := 0) hX 1 rfl (dk D_X11_restore 0 rfl) ?_
  refine r_if_lt (pc := 1) hX q_a1 9 rfl (dk D_X11_restore 1 rfl) (fun hc => ?_) (fun hc => ?_)
  · rw [if_pos hc] at h
    refine r_bipush (pc := 9) hX rfl (dk D_X11_restore 5 rfl) ?_
    cases h
    exact r_ireturn (pc := 11) hX (R32_lit rfl) hM ⟨by decide, by decide⟩ (dk D_X11_restore 6 rfl)
  · rw [if_neg hc] at h
    refine r_iloadn (pc := 4) hX 1 rfl (dk D_X11_restore 2 rfl) ?_
    refine r_iconst (pc := 5) hX (dk D_X11_restore 3 rfl) ?_
    refine r_icmp_lt (pc := 6) hX q_a1 (R32_lit rfl) 12 rfl (dk D_X11_restore 4 rfl) (fun hc => ?_) (fun hc => ?_)
    · rw [if_pos hc] at h
      refine r_aloadn (pc := 12) hX 0 rfl (dk D_X11_restore 7 rfl) ?_
      obtain ⟨x1, hx1, h⟩ := bd_some h
      refine r_getR (pc := 13) hX fl_11_30 rfl hx1 (dk D_X11_restore 8 rfl) ?_
      refine r_iloadn (pc := 16) hX 1 rfl (dk D_X11_restore 9 rfl) ?_
      obtain ⟨x2, hx2, h⟩ := bd_some h
      refine r_aald25 (pc := 17) hX q_a1 hx2 (dk D_X11_restore 10 rfl) ?_
      refine r_nonnull (pc := 18) hX 24 rfl (dk D_X11_restore 11 rfl) (fun hc => ?_) (fun hc => ?_)
      · rw [if_neg hc] at h
        refine r_aloadn (pc := 24) hX 0 rfl (dk D_X11_restore 14 rfl) ?_
        obtain ⟨x3, hx3, h⟩ := bd_some h
        refine r_getR (pc := 25) hX fl_11_26 rfl hx3 (dk D_X11_restore 15 rfl) ?_
        refine r_aloadn (pc := 28) hX 0 rfl (dk D_X11_restore 16 rfl) ?_
        obtain ⟨x4, hx4, h⟩ := bd_some h
        refine r_getR (pc := 29) hX fl_11_30 rfl hx4 (dk D_X11_restore 17 rfl) ?_
        refine r_iloadn (pc := 32) hX 1 rfl (dk D_X11_restore 18 rfl) ?_
        obtain ⟨x5, hx5, h⟩ := bd_some h
        refine r_aald25 (pc := 33) hX q_a1 hx5 (dk D_X11_restore 19 rfl) ?_
        obtain ⟨_, hi, h⟩ := bd_some h
        obtain ⟨x6, μ7, hx6, h⟩ := bd2_some h
        refine r_invV0 (As := [(2, x5)]) (pc := 34) hX ml_11_430 (L_Wo_become hx6) (isk_u hi) (Rm_of hRm (by decide) ⟨by decide, by decide⟩) (by decide) rfl (Nat.le_of_ble_eq_true rfl) rfl (dk D_X11_restore 20 rfl) (fun _ => ?_)
        refine r_iconst (pc := 37) hX (dk D_X11_restore 21 rfl) ?_
        cases h
        exact r_ireturn (pc := 38) hX (R32_lit rfl) hM ⟨by decide, by decide⟩ (dk D_X11_restore 22 rfl)
      · rw [if_pos hc] at h
        refine r_bipush (pc := 21) hX rfl (dk D_X11_restore 12 rfl) ?_
        cases h
        exact r_ireturn (pc := 23) hX (R32_lit rfl) hM ⟨by decide, by decide⟩ (dk D_X11_restore 13 rfl)
    · rw [if_neg hc] at h
      refine r_bipush (pc := 9) hX rfl (dk D_X11_restore 5 rfl) ?_
      cases h
      exact r_ireturn (pc := 11) hX (R32_lit rfl) hM ⟨by decide, by decide⟩ (dk D_X11_restore 6 rfl)
set_option maxRecDepth 100000 in
set_option maxHeartbeats 4000000 in
theorem L_T_count {E : EX} {l : Launch} {a0 a1 res : Int} {μ μ' : Mem} (q_a1 : R32 a1) (h : T_count a0 a1 μ = some (res, μ')) : Ok E l 2 yX11_count (.code yX11_count cX11_count 3 (some .int)) 0 0 [(2, a0), (0, a1)] μ (some (0, res)) μ' := by
  refine Ok.of (own := "TollsBack") [(0, 2, a0), (1, 0, a1)] (by decide +kernel) rfl (Nat.le_of_ble_eq_true rfl) rfl ?_
  intro X hL hRm hin hX hM
  unfold T_count at h
  subst hL
  refine r_aloadn (pc := 0) hX 0 rfl (dk D_X11_count 0 rfl) ?_
  obtain ⟨x1, hx1, h⟩ := bd_some h
  refine r_getR (pc := 1) hX fl_11_26 rfl hx1 (dk D_X11_count 1 rfl) ?_
  obtain ⟨x2, hx2, h⟩ := bd_some h
  refine r_getR (pc := 4) hX fl_11_118 rfl hx2 (dk D_X11_count 2 rfl) ?_
  refine r_astoren (lv' := [(2, 2, x2), (0, 2, a0), (1, 0, a1)]) (pc := 7) hX (by decide) rfl (dk D_X11_count 3 rfl) ?_
  refine r_iloadn (pc := 8) hX 2 rfl (dk D_X11_count 4 rfl) ?_
  by_cases hc0 : a1 = 0
  · rw [if_pos hc0] at h
    refine r_table (pc := 9) hX (by rw [hc0]; exact R32_lit rfl) 60 (dk D_X11_count 5 rfl) (by omega) (by omega) (by rw [hc0]; rfl) rfl ?_
    refine r_aloadn (pc := 60) hX 0 rfl (dk D_X11_count 6 rfl) ?_
    obtain ⟨x3, hx3, h⟩ := bd_some h
    refine r_getI (pc := 61) hX fl_11_176 rfl rfl hx3 (dk D_X11_count 7 rfl) (fun qx3 => ?_)
    cases h
    exact r_ireturn (pc := 64) hX qx3 hM ⟨by decide, by decide⟩ (dk D_X11_count 8 rfl)
  · rw [if_neg hc0] at h
    by_cases hc1 : a1 = 1
    · rw [if_pos hc1] at h
      refine r_table (pc := 9) hX (by rw [hc1]; exact R32_lit rfl) 65 (dk D_X11_count 5 rfl) (by omega) (by omega) (by rw [hc1]; rfl) rfl ?_
      refine r_aloadn (pc := 65) hX 0 rfl (dk D_X11_count 9 rfl) ?_
      obtain ⟨x4, hx4, h⟩ := bd_some h
      refine r_getI (pc := 66) hX fl_11_433 rfl rfl hx4 (dk D_X11_count 10 rfl) (fun qx4 => ?_)
      cases h
      exact r_ireturn (pc := 69) hX qx4 hM ⟨by decide, by decide⟩ (dk D_X11_count 11 rfl)
    · rw [if_neg hc1] at h
      by_cases hc2 : a1 = 2
      · rw [if_pos hc2] at h
        refine r_table (pc := 9) hX (by rw [hc2]; exact R32_lit rfl) 70 (dk D_X11_count 5 rfl) (by omega) (by omega) (by rw [hc2]; rfl) rfl ?_
        refine r_aloadn (pc := 70) hX 1 rfl (dk D_X11_count 12 rfl) ?_
        obtain ⟨x5, hx5, h⟩ := bd_some h
        refine r_getR (pc := 71) hX fl_11_26 rfl hx5 (dk D_X11_count 13 rfl) ?_
        obtain ⟨x6, hx6, h⟩ := bd_some h
        refine r_getI (pc := 74) hX fl_11_173 rfl rfl hx6 (dk D_X11_count 14 rfl) (fun qx6 => ?_)
        cases h
        exact r_ireturn (pc := 77) hX qx6 hM ⟨by decide, by decide⟩ (dk D_X11_count 15 rfl)
      · rw [if_neg hc2] at h
        by_cases hc3 : a1 = 3
        · rw [if_pos hc3] at h
          refine r_table (pc := 9) hX (by rw [hc3]; exact R32_lit rfl) 78 (dk D_X11_count 5 rfl) (by omega) (by omega) (by rw [hc3]; rfl) rfl ?_
          refine r_aloadn (pc := 78) hX 0 rfl (dk D_X11_count 16 rfl) ?_
          obtain ⟨x7, hx7, h⟩ := bd_some h
          refine r_getI (pc := 79) hX fl_11_176 rfl rfl hx7 (dk D_X11_count 17 rfl) (fun qx7 => ?_)
          refine r_if_ne (pc := 82) hX qx7 89 rfl (dk D_X11_count 18 rfl) (fun hc => ?_) (fun hc => ?_)
          · rw [if_neg hc] at h
            refine r_aloadn (pc := 89) hX 0 rfl (dk D_X11_count 21 rfl) ?_
            obtain ⟨x8, hx8, h⟩ := bd_some h
            refine r_getI (pc := 90) hX fl_11_359 rfl rfl hx8 (dk D_X11_count 22 rfl) (fun qx8 => ?_)
            cases h
            exact r_ireturn (pc := 93) hX qx8 hM ⟨by decide, by decide⟩ (dk D_X11_count 23 rfl)
          · rw [if_pos hc] at h
            refine r_iconst (pc := 85) hX (dk D_X11_count 19 rfl) ?_
            refine r_goto (pc := 86) hX 93 rfl (dk D_X11_count 20 rfl) ?_
            cases h
            exact r_ireturn (pc := 93) hX (R32_lit rfl) hM ⟨by decide, by decide⟩ (dk D_X11_count 23 rfl)
        · rw [if_neg hc3] at h
          by_cases hc4 : a1 = 4
          · rw [if_pos hc4] at h
            refine r_table (pc := 9) hX (by rw [hc4]; exact R32_lit rfl) 94 (dk D_X11_count 5 rfl) (by omega) (by omega) (by rw [hc4]; rfl) rfl ?_
            refine r_aloadn (pc := 94) hX 0 rfl (dk D_X11_count 24 rfl) ?_
            obtain ⟨x9, hx9, h⟩ := bd_some h
            refine r_getI (pc := 95) hX fl_11_284 rfl rfl hx9 (dk D_X11_count 25 rfl) (fun qx9 => ?_)
            cases h
            exact r_ireturn (pc := 98) hX qx9 hM ⟨by decide, by decide⟩ (dk D_X11_count 26 rfl)
          · rw [if_neg hc4] at h
            by_cases hc5 : a1 = 5
            · rw [if_pos hc5] at h
              refine r_table (pc := 9) hX (by rw [hc5]; exact R32_lit rfl) 99 (dk D_X11_count 5 rfl) (by omega) (by omega) (by rw [hc5]; rfl) rfl ?_
              refine r_aloadn (pc := 99) hX 0 rfl (dk D_X11_count 27 rfl) ?_
              obtain ⟨x10, hx10, h⟩ := bd_some h
              refine r_getI (pc := 100) hX fl_11_436 rfl rfl hx10 (dk D_X11_count 28 rfl) (fun qx10 => ?_)
              cases h
              exact r_ireturn (pc := 103) hX qx10 hM ⟨by decide, by decide⟩ (dk D_X11_count 29 rfl)
            · rw [if_neg hc5] at h
              by_cases hc6 : a1 = 6
              · rw [if_pos hc6] at h
                refine r_table (pc := 9) hX (by rw [hc6]; exact R32_lit rfl) 104 (dk D_X11_count 5 rfl) (by omega) (by omega) (by rw [hc6]; rfl) rfl ?_
                refine r_aloadn (pc := 104) hX 1 rfl (dk D_X11_count 30 rfl) ?_
                obtain ⟨x11, hx11, h⟩ := bd_some h
                refine r_getR (pc := 105) hX fl_11_26 rfl hx11 (dk D_X11_count 31 rfl) ?_
                obtain ⟨x12, hx12, h⟩ := bd_some h
                refine r_getI (pc := 108) hX fl_11_437 rfl rfl hx12 (dk D_X11_count 32 rfl) (fun qx12 => ?_)
                obtain ⟨x13, μ14, hx13, h⟩ := bd2_some h
                refine r_invS0 (As := [(0, x12)]) (pc := 111) hX ml_11_404 (L_J_bitCount qx12 hx13) (Rm_of hRm (by decide) ⟨by decide, by decide⟩) (by decide) rfl (Nat.le_of_ble_eq_true rfl) rfl (dk D_X11_count 33 rfl) (fun qx13 => ?_)
                cases h
                exact r_ireturn (pc := 114) hX qx13 hM ⟨by decide, by decide⟩ (dk D_X11_count 34 rfl)
              · rw [if_neg hc6] at h
                by_cases hc7 : a1 = 7
                · rw [if_pos hc7] at h
                  refine r_table (pc := 9) hX (by rw [hc7]; exact R32_lit rfl) 115 (dk D_X11_count 5 rfl) (by omega) (by omega) (by rw [hc7]; rfl) rfl ?_
                  refine r_aloadn (pc := 115) hX 1 rfl (dk D_X11_count 35 rfl) ?_
                  obtain ⟨x15, hx15, h⟩ := bd_some h
                  refine r_getI (pc := 116) hX fl_11_13 rfl rfl hx15 (dk D_X11_count 36 rfl) (fun qx15 => ?_)
                  cases h
                  exact r_ireturn (pc := 119) hX qx15 hM ⟨by decide, by decide⟩ (dk D_X11_count 37 rfl)
                · rw [if_neg hc7] at h
                  by_cases hc8 : a1 = 8
                  · rw [if_pos hc8] at h
                    refine r_table (pc := 9) hX (by rw [hc8]; exact R32_lit rfl) 120 (dk D_X11_count 5 rfl) (by omega) (by omega) (by rw [hc8]; rfl) rfl ?_
                    refine r_aloadn (pc := 120) hX 0 rfl (dk D_X11_count 38 rfl) ?_
                    obtain ⟨x16, hx16, h⟩ := bd_some h
                    refine r_getI (pc := 121) hX fl_11_121 rfl rfl hx16 (dk D_X11_count 39 rfl) (fun qx16 => ?_)
                    cases h
                    exact r_ireturn (pc := 124) hX qx16 hM ⟨by decide, by decide⟩ (dk D_X11_count 40 rfl)
                  · rw [if_neg hc8] at h
                    refine r_tableD (pc := 9) hX q_a1 125 (dk D_X11_count 5 rfl) (by omega) rfl ?_
                    refine r_iconst (pc := 125) hX (dk D_X11_count 41 rfl) ?_
                    cases h
                    exact r_ireturn (pc := 126) hX (R32_lit rfl) hM ⟨by decide, by decide⟩ (dk D_X11_count 42 rfl)
set_option maxRecDepth 100000 in
set_option maxHeartbeats 4000000 in
theorem L_M_within {E : EX} {l : Launch} {a0 a1 a2 res : Int} {μ μ' : Mem} (q_a0 : R64 a0) (q_a1 : R64 a1) (q_a2 : R64 a2) (h : M_within a0 a1 a2 μ = some (res, μ')) : Ok E l 1 yX12_within (.code yX12_within cX12_within 6 (some .boolean)) 0 0 [(1, a0), (1, a1), (1, a2)] μ (some (0, res)) μ' := by
  refine Ok.of (own := "TollsBackModel") [(0, 1, a0), (2, 1, a1), (4, 1, a2)] (by decide +kernel) rfl (Nat.le_of_ble_eq_true rfl) rfl ?_
  intro X hL hRm hin hX hM
  unfold M_within at h
  subst hL
  refine r_lloadn (pc := 0) hX 0 rfl (dk D_X12_within 0 rfl) ?_
  refine r_lloadn (pc := 1) hX 1 rfl (dk D_X12_within 1 rfl) ?_
  refine r_lcmp (pc := 2) hX q_a0 q_a1 (dk D_X12_within 2 rfl) ?_
  refine r_if_lt (pc := 3) hX (R32_cmp _ _) 17 rfl (dk D_X12_within 3 rfl) (fun hc => ?_) (fun hc => ?_)
  · rw [if_pos hc] at h
    refine r_iconst (pc := 17) hX (dk D_X12_within 10 rfl) ?_
    cases h
    exact r_zreturn (pc := 18) hX (R32_lit rfl) hM (Or.inl rfl) ⟨by decide, by decide⟩ (dk D_X12_within 11 rfl)
  · rw [if_neg hc] at h
    refine r_lloadn (pc := 6) hX 0 rfl (dk D_X12_within 4 rfl) ?_
    refine r_lload (pc := 7) hX 2 rfl (dk D_X12_within 5 rfl) ?_
    refine r_lcmp (pc := 9) hX q_a0 q_a2 (dk D_X12_within 6 rfl) ?_
    refine r_if_gt (pc := 10) hX (R32_cmp _ _) 17 rfl (dk D_X12_within 7 rfl) (fun hc => ?_) (fun hc => ?_)
    · rw [if_pos hc] at h
      refine r_iconst (pc := 17) hX (dk D_X12_within 10 rfl) ?_
      cases h
      exact r_zreturn (pc := 18) hX (R32_lit rfl) hM (Or.inl rfl) ⟨by decide, by decide⟩ (dk D_X12_within 11 rfl)
    · rw [if_neg hc] at h
      refine r_iconst (pc := 13) hX (dk D_X12_within 8 rfl) ?_
      refine r_goto (pc := 14) hX 18 rfl (dk D_X12_within 9 rfl) ?_
      cases h
      exact r_zreturn (pc := 18) hX (R32_lit rfl) hM (Or.inr rfl) ⟨by decide, by decide⟩ (dk D_X12_within 11 rfl)
set_option maxRecDepth 100000 in
set_option maxHeartbeats 4000000 in
theorem L_M_plain_L2 {E : EX} {X : CX} {res : Int} {μe : Mem} (hX : Good E X cX12_plain 2 "TollsBackModel") (hM : GoodM E X none none μe 0 0) (hRm : cR X = rmOf 1 0 0) {k19 : Int → Mem → Option (Int × Mem)} (hk19 : ∀ (u0 : Int) (μ : Mem), k19 u0 μ = some (res, μe) → At E X cX12_plain 2 "TollsBackModel" (0, 0) 19 [(0, 2, u0)] [] μ) : ∀ (n : Nat) (v0 v1 : Int) (μ : Mem) (q_v1 : R32 v1) (h : M_plain_L2 k19 n v0 v1 μ = some (res, μe)), At E X cX12_plain 2 "TollsBackModel" (0, 0) 2 [(0, 2, v0), (1, 0, v1)] [] μ := by
  intro n
  induction n with
  | zero =>
    intro v0 v1 μ q_v1 h
    have h : (none : Option (Int × Mem)) = some (res, μe) := h
    cases h
  | succ n ih =>
    intro v0 v1 μ q_v1 h
    rw [M_plain_L2.eq_2] at h
    refine r_iloadn (pc := 2) hX 1 rfl (dk D_X12_plain 2 rfl) ?_
    refine r_sipush (pc := 3) hX rfl (dk D_X12_plain 3 rfl) ?_
    refine r_icmp_ge (pc := 6) hX q_v1 (R32_lit rfl) 19 rfl (dk D_X12_plain 4 rfl) (fun hc => ?_) (fun hc => ?_)
    · rw [if_neg hc] at h
      refine r_sub (lv' := [(0, 2, v0)]) [0] rfl ?_
      exact hk19 v0 μ h
    · rw [if_pos hc] at h
      refine r_aloadn (pc := 9) hX 0 rfl (dk D_X12_plain 5 rfl) ?_
      refine r_iloadn (pc := 10) hX 1 rfl (dk D_X12_plain 6 rfl) ?_
      refine r_iconst (pc := 11) hX (dk D_X12_plain 7 rfl) ?_
      obtain ⟨μ1, hμ1, h⟩ := bd_some h
      refine r_iast (pc := 12) hX q_v1 (R32_lit rfl) hμ1 (dk D_X12_plain 8 rfl) ?_
      refine r_iinc (lv' := [(1, 0, (w32 (v1 + 1))), (0, 2, v0)]) (pc := 13) hX 1 rfl (by decide) rfl (dk D_X12_plain 9 rfl) ?_
      refine r_goto (pc := 16) hX 2 rfl (dk D_X12_plain 10 rfl) ?_
      refine r_sub (lv' := [(0, 2, v0), (1, 0, (w32 (v1 + 1)))]) [1, 0] rfl ?_
      exact ih v0 (w32 (v1 + 1)) μ1 (R32_w _) h
set_option maxRecDepth 100000 in
set_option maxHeartbeats 4000000 in
theorem L_M_plain {E : EX} {l : Launch} {a0 res : Int} {μ μ' : Mem}  (h : M_plain a0 μ = some (res, μ')) : Ok E l 1 yX12_plain (.code yX12_plain cX12_plain 2 none) 0 0 [(2, a0)] μ none μ' := by
  refine Ok.of (own := "TollsBackModel") [(0, 2, a0)] (by decide +kernel) rfl (Nat.le_of_ble_eq_true rfl) rfl ?_
  intro X hL hRm hin hX hM
  unfold M_plain at h
  subst hL
  refine r_iconst (pc := 0) hX (dk D_X12_plain 0 rfl) ?_
  refine r_istoren (lv' := [(1, 0, 0), (0, 2, a0)]) (pc := 1) hX (by decide) rfl (dk D_X12_plain 1 rfl) ?_
  refine r_sub (lv' := [(0, 2, a0), (1, 0, 0)]) [1, 0] rfl ?_
  refine L_M_plain_L2 hX hM hRm ?_ FU a0 0 μ (R32_lit rfl) h
  intro x1 μ2  h
  refine r_aloadn (pc := 19) hX 0 rfl (dk D_X12_plain 11 rfl) ?_
  refine r_iconst (pc := 20) hX (dk D_X12_plain 12 rfl) ?_
  refine r_sipush (pc := 21) hX rfl (dk D_X12_plain 13 rfl) ?_
  obtain ⟨μ3, hμ3, h⟩ := bd_some h
  refine r_iast (pc := 24) hX (R32_lit rfl) (R32_lit rfl) hμ3 (dk D_X12_plain 14 rfl) ?_
  refine r_aloadn (pc := 25) hX 0 rfl (dk D_X12_plain 15 rfl) ?_
  refine r_iconst (pc := 26) hX (dk D_X12_plain 16 rfl) ?_
  refine r_bipush (pc := 27) hX rfl (dk D_X12_plain 17 rfl) ?_
  obtain ⟨μ4, hμ4, h⟩ := bd_some h
  refine r_iast (pc := 29) hX (R32_lit rfl) (R32_lit rfl) hμ4 (dk D_X12_plain 18 rfl) ?_
  refine r_aloadn (pc := 30) hX 0 rfl (dk D_X12_plain 19 rfl) ?_
  refine r_iconst (pc := 31) hX (dk D_X12_plain 20 rfl) ?_
  refine r_bipush (pc := 32) hX rfl (dk D_X12_plain 21 rfl) ?_
  obtain ⟨μ5, hμ5, h⟩ := bd_some h
  refine r_iast (pc := 34) hX (R32_lit rfl) (R32_lit rfl) hμ5 (dk D_X12_plain 22 rfl) ?_
  refine r_aloadn (pc := 35) hX 0 rfl (dk D_X12_plain 23 rfl) ?_
  refine r_iconst (pc := 36) hX (dk D_X12_plain 24 rfl) ?_
  refine r_sipush (pc := 37) hX rfl (dk D_X12_plain 25 rfl) ?_
  obtain ⟨μ6, hμ6, h⟩ := bd_some h
  refine r_iast (pc := 40) hX (R32_lit rfl) (R32_lit rfl) hμ6 (dk D_X12_plain 26 rfl) ?_
  cases h
  exact r_return (pc := 41) hX hM ⟨by decide, by decide⟩ (dk D_X12_plain 27 rfl)
set_option maxRecDepth 100000 in
set_option maxHeartbeats 4000000 in
theorem L_M_init {E : EX} {l : Launch} {a0 res : Int} {μ μ' : Mem}  (h : M_init a0 μ = some (res, μ')) : Ok E l 2 yX12_init (.code yX12_init cX12_init 1 none) 29 59230 [(2, a0)] μ none μ' := by
  refine Ok.of (own := "TollsBackModel") [(0, 2, a0)] (by decide +kernel) rfl (Nat.le_of_ble_eq_true rfl) rfl ?_
  intro X hL hRm hin hX hM
  unfold M_init at h
  subst hL
  refine r_aloadn (pc := 0) (cs := (0, 0)) hX 0 rfl (dk D_X12_init 0 rfl) ?_
  obtain ⟨_, hi, h⟩ := bd_some h
  refine r_objI (pc := 1) (cs := (0, 0)) hX (isk_nn hi (by decide)) ml_12_7 (Rm_of hRm (by decide) ⟨by (try dsimp only); omega, by (try dsimp only); omega⟩) (Nat.le_of_ble_eq_true rfl) (dk D_X12_init 1 rfl) ?_
  refine r_aloadn (pc := 4) (cs := (0, 0)) hX 0 rfl (dk D_X12_init 2 rfl) ?_
  refine r_sipush (pc := 5) (cs := (0, 0)) hX rfl (dk D_X12_init 3 rfl) ?_
  refine r_newI (N := 4887) (pc := 8) (cs := (0, 0)) hX ac_int (by decide) (by rw [hRm]; exact ⟨by (show _ ≤ (rmOf _ _ _).cells); (simp only [rmOf]); omega, by (show _ ≤ (rmOf _ _ _).slots); (simp only [rmOf]); omega⟩) (dk D_X12_init 4 rfl) ?_
  obtain ⟨μ1, hμ1, h⟩ := bd_some h
  refine r_putF (pc := 10) (cs := (1, 4887)) hX fl_12_13 (hin rfl) ⟨_, _, _, rfl, rfl⟩ rfl rfl trivial hμ1 (dk D_X12_init 5 rfl) ?_
  refine r_aloadn (pc := 13) (cs := (1, 4887)) hX 0 rfl (dk D_X12_init 6 rfl) ?_
  refine r_iconst (pc := 14) (cs := (1, 4887)) hX (dk D_X12_init 7 rfl) ?_
  refine r_newZ (N := 2) (pc := 15) (cs := (1, 4887)) hX ac_boolean (by decide) (by rw [hRm]; exact ⟨by (show _ ≤ (rmOf _ _ _).cells); (simp only [rmOf]); omega, by (show _ ≤ (rmOf _ _ _).slots); (simp only [rmOf]); omega⟩) (dk D_X12_init 8 rfl) ?_
  obtain ⟨μ2, hμ2, h⟩ := bd_some h
  refine r_putF (pc := 17) (cs := (2, 4889)) hX fl_12_17 (hin rfl) ⟨_, _, _, rfl, rfl⟩ rfl rfl trivial hμ2 (dk D_X12_init 9 rfl) ?_
  refine r_aloadn (pc := 20) (cs := (2, 4889)) hX 0 rfl (dk D_X12_init 10 rfl) ?_
  refine r_sipush (pc := 21) (cs := (2, 4889)) hX rfl (dk D_X12_init 11 rfl) ?_
  refine r_newI (N := 700) (pc := 24) (cs := (2, 4889)) hX ac_int (by decide) (by rw [hRm]; exact ⟨by (show _ ≤ (rmOf _ _ _).cells); (simp only [rmOf]); omega, by (show _ ≤ (rmOf _ _ _).slots); (simp only [rmOf]); omega⟩) (dk D_X12_init 12 rfl) ?_
  obtain ⟨μ3, hμ3, h⟩ := bd_some h
  refine r_putF (pc := 26) (cs := (3, 5589)) hX fl_12_21 (hin rfl) ⟨_, _, _, rfl, rfl⟩ rfl rfl trivial hμ3 (dk D_X12_init 13 rfl) ?_
  refine r_aloadn (pc := 29) (cs := (3, 5589)) hX 0 rfl (dk D_X12_init 14 rfl) ?_
  refine r_sipush (pc := 30) (cs := (3, 5589)) hX rfl (dk D_X12_init 15 rfl) ?_
  refine r_newI (N := 128) (pc := 33) (cs := (3, 5589)) hX ac_int (by decide) (by rw [hRm]; exact ⟨by (show _ ≤ (rmOf _ _ _).cells); (simp only [rmOf]); omega, by (show _ ≤ (rmOf _ _ _).slots); (simp only [rmOf]); omega⟩) (dk D_X12_init 16 rfl) ?_
  obtain ⟨μ4, hμ4, h⟩ := bd_some h
  refine r_putF (pc := 35) (cs := (4, 5717)) hX fl_12_24 (hin rfl) ⟨_, _, _, rfl, rfl⟩ rfl rfl trivial hμ4 (dk D_X12_init 17 rfl) ?_
  refine r_aloadn (pc := 38) (cs := (4, 5717)) hX 0 rfl (dk D_X12_init 18 rfl) ?_
  refine r_iconst (pc := 39) (cs := (4, 5717)) hX (dk D_X12_init 19 rfl) ?_
  obtain ⟨μ5, hμ5, h⟩ := bd_some h
  refine r_putI (pc := 40) (cs := (4, 5717)) hX fl_12_27 rfl rfl (R32_lit rfl) trivial hμ5 (dk D_X12_init 20 rfl) ?_
  refine r_aloadn (pc := 43) (cs := (4, 5717)) hX 0 rfl (dk D_X12_init 21 rfl) ?_
  refine r_iconst (pc := 44) (cs := (4, 5717)) hX (dk D_X12_init 22 rfl) ?_
  obtain ⟨μ6, hμ6, h⟩ := bd_some h
  refine r_putI (pc := 45) (cs := (4, 5717)) hX fl_12_30 rfl rfl (R32_lit rfl) (Or.inr rfl) hμ6 (dk D_X12_init 23 rfl) ?_
  refine r_aloadn (pc := 48) (cs := (4, 5717)) hX 0 rfl (dk D_X12_init 24 rfl) ?_
  refine r_bipush (pc := 49) (cs := (4, 5717)) hX rfl (dk D_X12_init 25 rfl) ?_
  refine r_newI (N := 126) (pc := 51) (cs := (4, 5717)) hX ac_int (by decide) (by rw [hRm]; exact ⟨by (show _ ≤ (rmOf _ _ _).cells); (simp only [rmOf]); omega, by (show _ ≤ (rmOf _ _ _).slots); (simp only [rmOf]); omega⟩) (dk D_X12_init 26 rfl) ?_
  obtain ⟨μ7, hμ7, h⟩ := bd_some h
  refine r_putF (pc := 53) (cs := (5, 5843)) hX fl_12_34 (hin rfl) ⟨_, _, _, rfl, rfl⟩ rfl rfl trivial hμ7 (dk D_X12_init 27 rfl) ?_
  refine r_aloadn (pc := 56) (cs := (5, 5843)) hX 0 rfl (dk D_X12_init 28 rfl) ?_
  refine r_sipush (pc := 57) (cs := (5, 5843)) hX rfl (dk D_X12_init 29 rfl) ?_
  refine r_newI (N := 504) (pc := 60) (cs := (5, 5843)) hX ac_int (by decide) (by rw [hRm]; exact ⟨by (show _ ≤ (rmOf _ _ _).cells); (simp only [rmOf]); omega, by (show _ ≤ (rmOf _ _ _).slots); (simp only [rmOf]); omega⟩) (dk D_X12_init 30 rfl) ?_
  obtain ⟨μ8, hμ8, h⟩ := bd_some h
  refine r_putF (pc := 62) (cs := (6, 6347)) hX fl_12_37 (hin rfl) ⟨_, _, _, rfl, rfl⟩ rfl rfl trivial hμ8 (dk D_X12_init 31 rfl) ?_
  refine r_aloadn (pc := 65) (cs := (6, 6347)) hX 0 rfl (dk D_X12_init 32 rfl) ?_
  refine r_sipush (pc := 66) (cs := (6, 6347)) hX rfl (dk D_X12_init 33 rfl) ?_
  refine r_newI (N := 504) (pc := 69) (cs := (6, 6347)) hX ac_int (by decide) (by rw [hRm]; exact ⟨by (show _ ≤ (rmOf _ _ _).cells); (simp only [rmOf]); omega, by (show _ ≤ (rmOf _ _ _).slots); (simp only [rmOf]); omega⟩) (dk D_X12_init 34 rfl) ?_
  obtain ⟨μ9, hμ9, h⟩ := bd_some h
  refine r_putF (pc := 71) (cs := (7, 6851)) hX fl_12_40 (hin rfl) ⟨_, _, _, rfl, rfl⟩ rfl rfl trivial hμ9 (dk D_X12_init 35 rfl) ?_
  refine r_aloadn (pc := 74) (cs := (7, 6851)) hX 0 rfl (dk D_X12_init 36 rfl) ?_
  refine r_bipush (pc := 75) (cs := (7, 6851)) hX rfl (dk D_X12_init 37 rfl) ?_
  refine r_newI (N := 41) (pc := 77) (cs := (7, 6851)) hX ac_int (by decide) (by rw [hRm]; exact ⟨by (show _ ≤ (rmOf _ _ _).cells); (simp only [rmOf]); omega, by (show _ ≤ (rmOf _ _ _).slots); (simp only [rmOf]); omega⟩) (dk D_X12_init 38 rfl) ?_
  obtain ⟨μ10, hμ10, h⟩ := bd_some h
  refine r_putF (pc := 79) (cs := (8, 6892)) hX fl_12_43 (hin rfl) ⟨_, _, _, rfl, rfl⟩ rfl rfl trivial hμ10 (dk D_X12_init 39 rfl) ?_
  refine r_aloadn (pc := 82) (cs := (8, 6892)) hX 0 rfl (dk D_X12_init 40 rfl) ?_
  refine r_bipush (pc := 83) (cs := (8, 6892)) hX rfl (dk D_X12_init 41 rfl) ?_
  refine r_newI (N := 41) (pc := 85) (cs := (8, 6892)) hX ac_int (by decide) (by rw [hRm]; exact ⟨by (show _ ≤ (rmOf _ _ _).cells); (simp only [rmOf]); omega, by (show _ ≤ (rmOf _ _ _).slots); (simp only [rmOf]); omega⟩) (dk D_X12_init 42 rfl) ?_
  obtain ⟨μ11, hμ11, h⟩ := bd_some h
  refine r_putF (pc := 87) (cs := (9, 6933)) hX fl_12_46 (hin rfl) ⟨_, _, _, rfl, rfl⟩ rfl rfl trivial hμ11 (dk D_X12_init 43 rfl) ?_
  refine r_aloadn (pc := 90) (cs := (9, 6933)) hX 0 rfl (dk D_X12_init 44 rfl) ?_
  refine r_sipush (pc := 91) (cs := (9, 6933)) hX rfl (dk D_X12_init 45 rfl) ?_
  refine r_newZ (N := 504) (pc := 94) (cs := (9, 6933)) hX ac_boolean (by decide) (by rw [hRm]; exact ⟨by (show _ ≤ (rmOf _ _ _).cells); (simp only [rmOf]); omega, by (show _ ≤ (rmOf _ _ _).slots); (simp only [rmOf]); omega⟩) (dk D_X12_init 46 rfl) ?_
  obtain ⟨μ12, hμ12, h⟩ := bd_some h
  refine r_putF (pc := 96) (cs := (10, 7437)) hX fl_12_49 (hin rfl) ⟨_, _, _, rfl, rfl⟩ rfl rfl trivial hμ12 (dk D_X12_init 47 rfl) ?_
  refine r_aloadn (pc := 99) (cs := (10, 7437)) hX 0 rfl (dk D_X12_init 48 rfl) ?_
  refine r_bipush (pc := 100) (cs := (10, 7437)) hX rfl (dk D_X12_init 49 rfl) ?_
  refine r_newI (N := 8) (pc := 102) (cs := (10, 7437)) hX ac_int (by decide) (by rw [hRm]; exact ⟨by (show _ ≤ (rmOf _ _ _).cells); (simp only [rmOf]); omega, by (show _ ≤ (rmOf _ _ _).slots); (simp only [rmOf]); omega⟩) (dk D_X12_init 50 rfl) ?_
  obtain ⟨μ13, hμ13, h⟩ := bd_some h
  refine r_putF (pc := 104) (cs := (11, 7445)) hX fl_12_52 (hin rfl) ⟨_, _, _, rfl, rfl⟩ rfl rfl trivial hμ13 (dk D_X12_init 51 rfl) ?_
  refine r_aloadn (pc := 107) (cs := (11, 7445)) hX 0 rfl (dk D_X12_init 52 rfl) ?_
  refine r_bipush (pc := 108) (cs := (11, 7445)) hX rfl (dk D_X12_init 53 rfl) ?_
  refine r_newI (N := 8) (pc := 110) (cs := (11, 7445)) hX ac_int (by decide) (by rw [hRm]; exact ⟨by (show _ ≤ (rmOf _ _ _).cells); (simp only [rmOf]); omega, by (show _ ≤ (rmOf _ _ _).slots); (simp only [rmOf]); omega⟩) (dk D_X12_init 54 rfl) ?_
  obtain ⟨μ14, hμ14, h⟩ := bd_some h
  refine r_putF (pc := 112) (cs := (12, 7453)) hX fl_12_55 (hin rfl) ⟨_, _, _, rfl, rfl⟩ rfl rfl trivial hμ14 (dk D_X12_init 55 rfl) ?_
  refine r_aloadn (pc := 115) (cs := (12, 7453)) hX 0 rfl (dk D_X12_init 56 rfl) ?_
  refine r_bipush (pc := 116) (cs := (12, 7453)) hX rfl (dk D_X12_init 57 rfl) ?_
  refine r_newI (N := 72) (pc := 118) (cs := (12, 7453)) hX ac_int (by decide) (by rw [hRm]; exact ⟨by (show _ ≤ (rmOf _ _ _).cells); (simp only [rmOf]); omega, by (show _ ≤ (rmOf _ _ _).slots); (simp only [rmOf]); omega⟩) (dk D_X12_init 58 rfl) ?_
  obtain ⟨μ15, hμ15, h⟩ := bd_some h
  refine r_putF (pc := 120) (cs := (13, 7525)) hX fl_12_58 (hin rfl) ⟨_, _, _, rfl, rfl⟩ rfl rfl trivial hμ15 (dk D_X12_init 59 rfl) ?_
  refine r_aloadn (pc := 123) (cs := (13, 7525)) hX 0 rfl (dk D_X12_init 60 rfl) ?_
  refine r_sipush (pc := 124) (cs := (13, 7525)) hX rfl (dk D_X12_init 61 rfl) ?_
  refine r_newJ (N := 1968) (pc := 127) (cs := (13, 7525)) hX ac_long (by decide) (by rw [hRm]; exact ⟨by (show _ ≤ (rmOf _ _ _).cells); (simp only [rmOf]); omega, by (show _ ≤ (rmOf _ _ _).slots); (simp only [rmOf]); omega⟩) (dk D_X12_init 62 rfl) ?_
  obtain ⟨μ16, hμ16, h⟩ := bd_some h
  refine r_putF (pc := 129) (cs := (14, 9493)) hX fl_12_61 (hin rfl) ⟨_, _, _, rfl, rfl⟩ rfl rfl trivial hμ16 (dk D_X12_init 63 rfl) ?_
  refine r_aloadn (pc := 132) (cs := (14, 9493)) hX 0 rfl (dk D_X12_init 64 rfl) ?_
  refine r_bipush (pc := 133) (cs := (14, 9493)) hX rfl (dk D_X12_init 65 rfl) ?_
  refine r_newJ (N := 41) (pc := 135) (cs := (14, 9493)) hX ac_long (by decide) (by rw [hRm]; exact ⟨by (show _ ≤ (rmOf _ _ _).cells); (simp only [rmOf]); omega, by (show _ ≤ (rmOf _ _ _).slots); (simp only [rmOf]); omega⟩) (dk D_X12_init 66 rfl) ?_
  obtain ⟨μ17, hμ17, h⟩ := bd_some h
  refine r_putF (pc := 137) (cs := (15, 9534)) hX fl_12_65 (hin rfl) ⟨_, _, _, rfl, rfl⟩ rfl rfl trivial hμ17 (dk D_X12_init 67 rfl) ?_
  refine r_aloadn (pc := 140) (cs := (15, 9534)) hX 0 rfl (dk D_X12_init 68 rfl) ?_
  refine r_bipush (pc := 141) (cs := (15, 9534)) hX rfl (dk D_X12_init 69 rfl) ?_
  refine r_newJ (N := 41) (pc := 143) (cs := (15, 9534)) hX ac_long (by decide) (by rw [hRm]; exact ⟨by (show _ ≤ (rmOf _ _ _).cells); (simp only [rmOf]); omega, by (show _ ≤ (rmOf _ _ _).slots); (simp only [rmOf]); omega⟩) (dk D_X12_init 70 rfl) ?_
  obtain ⟨μ18, hμ18, h⟩ := bd_some h
  refine r_putF (pc := 145) (cs := (16, 9575)) hX fl_12_68 (hin rfl) ⟨_, _, _, rfl, rfl⟩ rfl rfl trivial hμ18 (dk D_X12_init 71 rfl) ?_
  refine r_aloadn (pc := 148) (cs := (16, 9575)) hX 0 rfl (dk D_X12_init 72 rfl) ?_
  refine r_bipush (pc := 149) (cs := (16, 9575)) hX rfl (dk D_X12_init 73 rfl) ?_
  refine r_newI (N := 80) (pc := 151) (cs := (16, 9575)) hX ac_int (by decide) (by rw [hRm]; exact ⟨by (show _ ≤ (rmOf _ _ _).cells); (simp only [rmOf]); omega, by (show _ ≤ (rmOf _ _ _).slots); (simp only [rmOf]); omega⟩) (dk D_X12_init 74 rfl) ?_
  obtain ⟨μ19, hμ19, h⟩ := bd_some h
  refine r_putF (pc := 153) (cs := (17, 9655)) hX fl_12_71 (hin rfl) ⟨_, _, _, rfl, rfl⟩ rfl rfl trivial hμ19 (dk D_X12_init 75 rfl) ?_
  refine r_aloadn (pc := 156) (cs := (17, 9655)) hX 0 rfl (dk D_X12_init 76 rfl) ?_
  refine r_bipush (pc := 157) (cs := (17, 9655)) hX rfl (dk D_X12_init 77 rfl) ?_
  refine r_newI (N := 41) (pc := 159) (cs := (17, 9655)) hX ac_int (by decide) (by rw [hRm]; exact ⟨by (show _ ≤ (rmOf _ _ _).cells); (simp only [rmOf]); omega, by (show _ ≤ (rmOf _ _ _).slots); (simp only [rmOf]); omega⟩) (dk D_X12_init 78 rfl) ?_
  obtain ⟨μ20, hμ20, h⟩ := bd_some h
  refine r_putF (pc := 161) (cs := (18, 9696)) hX fl_12_74 (hin rfl) ⟨_, _, _, rfl, rfl⟩ rfl rfl trivial hμ20 (dk D_X12_init 79 rfl) ?_
  refine r_aloadn (pc := 164) (cs := (18, 9696)) hX 0 rfl (dk D_X12_init 80 rfl) ?_
  refine r_bipush (pc := 165) (cs := (18, 9696)) hX rfl (dk D_X12_init 81 rfl) ?_
  refine r_newI (N := 12) (pc := 167) (cs := (18, 9696)) hX ac_int (by decide) (by rw [hRm]; exact ⟨by (show _ ≤ (rmOf _ _ _).cells); (simp only [rmOf]); omega, by (show _ ≤ (rmOf _ _ _).slots); (simp only [rmOf]); omega⟩) (dk D_X12_init 82 rfl) ?_
  obtain ⟨μ21, hμ21, h⟩ := bd_some h
  refine r_putF (pc := 169) (cs := (19, 9708)) hX fl_12_77 (hin rfl) ⟨_, _, _, rfl, rfl⟩ rfl rfl trivial hμ21 (dk D_X12_init 83 rfl) ?_
  refine r_aloadn (pc := 172) (cs := (19, 9708)) hX 0 rfl (dk D_X12_init 84 rfl) ?_
  refine r_bipush (pc := 173) (cs := (19, 9708)) hX rfl (dk D_X12_init 85 rfl) ?_
  refine r_newI (N := 12) (pc := 175) (cs := (19, 9708)) hX ac_int (by decide) (by rw [hRm]; exact ⟨by (show _ ≤ (rmOf _ _ _).cells); (simp only [rmOf]); omega, by (show _ ≤ (rmOf _ _ _).slots); (simp only [rmOf]); omega⟩) (dk D_X12_init 86 rfl) ?_
  obtain ⟨μ22, hμ22, h⟩ := bd_some h
  refine r_putF (pc := 177) (cs := (20, 9720)) hX fl_12_80 (hin rfl) ⟨_, _, _, rfl, rfl⟩ rfl rfl trivial hμ22 (dk D_X12_init 87 rfl) ?_
  refine r_aloadn (pc := 180) (cs := (20, 9720)) hX 0 rfl (dk D_X12_init 88 rfl) ?_
  refine r_bipush (pc := 181) (cs := (20, 9720)) hX rfl (dk D_X12_init 89 rfl) ?_
  refine r_newI (N := 12) (pc := 183) (cs := (20, 9720)) hX ac_int (by decide) (by rw [hRm]; exact ⟨by (show _ ≤ (rmOf _ _ _).cells); (simp only [rmOf]); omega, by (show _ ≤ (rmOf _ _ _).slots); (simp only [rmOf]); omega⟩) (dk D_X12_init 90 rfl) ?_
  obtain ⟨μ23, hμ23, h⟩ := bd_some h
  refine r_putF (pc := 185) (cs := (21, 9732)) hX fl_12_83 (hin rfl) ⟨_, _, _, rfl, rfl⟩ rfl rfl trivial hμ23 (dk D_X12_init 91 rfl) ?_
  refine r_aloadn (pc := 188) (cs := (21, 9732)) hX 0 rfl (dk D_X12_init 92 rfl) ?_
  refine r_bipush (pc := 189) (cs := (21, 9732)) hX rfl (dk D_X12_init 93 rfl) ?_
  refine r_newZ (N := 12) (pc := 191) (cs := (21, 9732)) hX ac_boolean (by decide) (by rw [hRm]; exact ⟨by (show _ ≤ (rmOf _ _ _).cells); (simp only [rmOf]); omega, by (show _ ≤ (rmOf _ _ _).slots); (simp only [rmOf]); omega⟩) (dk D_X12_init 94 rfl) ?_
  obtain ⟨μ24, hμ24, h⟩ := bd_some h
  refine r_putF (pc := 193) (cs := (22, 9744)) hX fl_12_86 (hin rfl) ⟨_, _, _, rfl, rfl⟩ rfl rfl trivial hμ24 (dk D_X12_init 95 rfl) ?_
  refine r_aloadn (pc := 196) (cs := (22, 9744)) hX 0 rfl (dk D_X12_init 96 rfl) ?_
  refine r_ldc (pc := 197) (cs := (22, 9744)) hX cn_12_89 (dk D_X12_init 97 rfl) ?_
  refine r_newI (N := 49152) (pc := 199) (cs := (22, 9744)) hX ac_int (by decide) (by rw [hRm]; exact ⟨by (show _ ≤ (rmOf _ _ _).cells); (simp only [rmOf]); omega, by (show _ ≤ (rmOf _ _ _).slots); (simp only [rmOf]); omega⟩) (dk D_X12_init 98 rfl) ?_
  obtain ⟨μ25, hμ25, h⟩ := bd_some h
  refine r_putF (pc := 201) (cs := (23, 58896)) hX fl_12_90 (hin rfl) ⟨_, _, _, rfl, rfl⟩ rfl rfl trivial hμ25 (dk D_X12_init 99 rfl) ?_
  refine r_aloadn (pc := 204) (cs := (23, 58896)) hX 0 rfl (dk D_X12_init 100 rfl) ?_
  refine r_bipush (pc := 205) (cs := (23, 58896)) hX rfl (dk D_X12_init 101 rfl) ?_
  refine r_newI (N := 82) (pc := 207) (cs := (23, 58896)) hX ac_int (by decide) (by rw [hRm]; exact ⟨by (show _ ≤ (rmOf _ _ _).cells); (simp only [rmOf]); omega, by (show _ ≤ (rmOf _ _ _).slots); (simp only [rmOf]); omega⟩) (dk D_X12_init 102 rfl) ?_
  obtain ⟨μ26, hμ26, h⟩ := bd_some h
  refine r_putF (pc := 209) (cs := (24, 58978)) hX fl_12_93 (hin rfl) ⟨_, _, _, rfl, rfl⟩ rfl rfl trivial hμ26 (dk D_X12_init 103 rfl) ?_
  refine r_aloadn (pc := 212) (cs := (24, 58978)) hX 0 rfl (dk D_X12_init 104 rfl) ?_
  refine r_bipush (pc := 213) (cs := (24, 58978)) hX rfl (dk D_X12_init 105 rfl) ?_
  refine r_newI (N := 82) (pc := 215) (cs := (24, 58978)) hX ac_int (by decide) (by rw [hRm]; exact ⟨by (show _ ≤ (rmOf _ _ _).cells); (simp only [rmOf]); omega, by (show _ ≤ (rmOf _ _ _).slots); (simp only [rmOf]); omega⟩) (dk D_X12_init 106 rfl) ?_
  obtain ⟨μ27, hμ27, h⟩ := bd_some h
  refine r_putF (pc := 217) (cs := (25, 59060)) hX fl_12_96 (hin rfl) ⟨_, _, _, rfl, rfl⟩ rfl rfl trivial hμ27 (dk D_X12_init 107 rfl) ?_
  refine r_aloadn (pc := 220) (cs := (25, 59060)) hX 0 rfl (dk D_X12_init 108 rfl) ?_
  refine r_iconst (pc := 221) (cs := (25, 59060)) hX (dk D_X12_init 109 rfl) ?_
  refine r_newI (N := 2) (pc := 222) (cs := (25, 59060)) hX ac_int (by decide) (by rw [hRm]; exact ⟨by (show _ ≤ (rmOf _ _ _).cells); (simp only [rmOf]); omega, by (show _ ≤ (rmOf _ _ _).slots); (simp only [rmOf]); omega⟩) (dk D_X12_init 110 rfl) ?_
  obtain ⟨μ28, hμ28, h⟩ := bd_some h
  refine r_putF (pc := 224) (cs := (26, 59062)) hX fl_12_99 (hin rfl) ⟨_, _, _, rfl, rfl⟩ rfl rfl trivial hμ28 (dk D_X12_init 111 rfl) ?_
  refine r_aloadn (pc := 227) (cs := (26, 59062)) hX 0 rfl (dk D_X12_init 112 rfl) ?_
  refine r_iconst (pc := 228) (cs := (26, 59062)) hX (dk D_X12_init 113 rfl) ?_
  refine r_newI (N := 4) (pc := 229) (cs := (26, 59062)) hX ac_int (by decide) (by rw [hRm]; exact ⟨by (show _ ≤ (rmOf _ _ _).cells); (simp only [rmOf]); omega, by (show _ ≤ (rmOf _ _ _).slots); (simp only [rmOf]); omega⟩) (dk D_X12_init 114 rfl) ?_
  refine r_dup (pc := 231) (cs := (27, 59066)) hX rfl (dk D_X12_init 115 rfl) ?_
  refine r_iconst (pc := 232) (cs := (27, 59066)) hX (dk D_X12_init 116 rfl) ?_
  refine r_iconst (pc := 233) (cs := (27, 59066)) hX (dk D_X12_init 117 rfl) ?_
  obtain ⟨μ29, hμ29, h⟩ := bd_some h
  refine r_iast (pc := 234) (cs := (27, 59066)) hX (R32_lit rfl) (R32_lit rfl) hμ29 (dk D_X12_init 118 rfl) ?_
  refine r_dup (pc := 235) (cs := (27, 59066)) hX rfl (dk D_X12_init 119 rfl) ?_
  refine r_iconst (pc := 236) (cs := (27, 59066)) hX (dk D_X12_init 120 rfl) ?_
  refine r_iconst (pc := 237) (cs := (27, 59066)) hX (dk D_X12_init 121 rfl) ?_
  obtain ⟨μ30, hμ30, h⟩ := bd_some h
  refine r_iast (pc := 238) (cs := (27, 59066)) hX (R32_lit rfl) (R32_lit rfl) hμ30 (dk D_X12_init 122 rfl) ?_
  refine r_dup (pc := 239) (cs := (27, 59066)) hX rfl (dk D_X12_init 123 rfl) ?_
  refine r_iconst (pc := 240) (cs := (27, 59066)) hX (dk D_X12_init 124 rfl) ?_
  refine r_iconst (pc := 241) (cs := (27, 59066)) hX (dk D_X12_init 125 rfl) ?_
  obtain ⟨μ31, hμ31, h⟩ := bd_some h
  refine r_iast (pc := 242) (cs := (27, 59066)) hX (R32_lit rfl) (R32_lit rfl) hμ31 (dk D_X12_init 126 rfl) ?_
  refine r_dup (pc := 243) (cs := (27, 59066)) hX rfl (dk D_X12_init 127 rfl) ?_
  refine r_iconst (pc := 244) (cs := (27, 59066)) hX (dk D_X12_init 128 rfl) ?_
  refine r_iconst (pc := 245) (cs := (27, 59066)) hX (dk D_X12_init 129 rfl) ?_
  obtain ⟨μ32, hμ32, h⟩ := bd_some h
  refine r_iast (pc := 246) (cs := (27, 59066)) hX (R32_lit rfl) (R32_lit rfl) hμ32 (dk D_X12_init 130 rfl) ?_
  obtain ⟨μ33, hμ33, h⟩ := bd_some h
  refine r_putF (pc := 247) (cs := (27, 59066)) hX fl_12_102 (hin rfl) ⟨_, _, _, rfl, rfl⟩ rfl rfl trivial hμ33 (dk D_X12_init 131 rfl) ?_
  refine r_aloadn (pc := 250) (cs := (27, 59066)) hX 0 rfl (dk D_X12_init 132 rfl) ?_
  refine r_iconst (pc := 251) (cs := (27, 59066)) hX (dk D_X12_init 133 rfl) ?_
  refine r_newI (N := 4) (pc := 252) (cs := (27, 59066)) hX ac_int (by decide) (by rw [hRm]; exact ⟨by (show _ ≤ (rmOf _ _ _).cells); (simp only [rmOf]); omega, by (show _ ≤ (rmOf _ _ _).slots); (simp only [rmOf]); omega⟩) (dk D_X12_init 134 rfl) ?_
  obtain ⟨μ34, hμ34, h⟩ := bd_some h
  refine r_putF (pc := 254) (cs := (28, 59070)) hX fl_12_105 (hin rfl) ⟨_, _, _, rfl, rfl⟩ rfl rfl trivial hμ34 (dk D_X12_init 135 rfl) ?_
  refine r_aloadn (pc := 257) (cs := (28, 59070)) hX 0 rfl (dk D_X12_init 136 rfl) ?_
  refine r_sipush (pc := 258) (cs := (28, 59070)) hX rfl (dk D_X12_init 137 rfl) ?_
  refine r_newJ (N := 160) (pc := 261) (cs := (28, 59070)) hX ac_long (by decide) (by rw [hRm]; exact ⟨by (show _ ≤ (rmOf _ _ _).cells); (simp only [rmOf]); omega, by (show _ ≤ (rmOf _ _ _).slots); (simp only [rmOf]); omega⟩) (dk D_X12_init 138 rfl) ?_
  obtain ⟨μ35, hμ35, h⟩ := bd_some h
  refine r_putF (pc := 263) (cs := (29, 59230)) hX fl_12_108 (hin rfl) ⟨_, _, _, rfl, rfl⟩ rfl rfl trivial hμ35 (dk D_X12_init 139 rfl) ?_
  refine r_aloadn (pc := 266) (cs := (29, 59230)) hX 0 rfl (dk D_X12_init 140 rfl) ?_
  obtain ⟨x36, hx36, h⟩ := bd_some h
  refine r_getR (pc := 267) (cs := (29, 59230)) hX fl_12_13 rfl hx36 (dk D_X12_init 141 rfl) ?_
  obtain ⟨x37, μ38, hx37, h⟩ := bd2_some h
  refine r_invS0 (As := [(2, x36)]) (pc := 270) (cs := (29, 59230)) hX ml_12_111 (L_M_plain hx37) (Rm_of hRm (by decide) ⟨by (try dsimp only); omega, by (try dsimp only); omega⟩) (by decide) rfl (Nat.le_of_ble_eq_true rfl) rfl (dk D_X12_init 142 rfl) (fun _ => ?_)
  cases h
  exact r_return (pc := 273) hX hM ⟨by (try dsimp only); omega, by (try dsimp only); omega⟩ (dk D_X12_init 143 rfl)
set_option maxRecDepth 100000 in
set_option maxHeartbeats 4000000 in
theorem L_M_feed_L24 {E : EX} {X : CX} {res : Int} {μe : Mem} (hX : Good E X cX12_feed 8 "TollsBackModel") (hM : GoodM E X (some .int) (some (0, res)) μe 0 0) (hRm : cR X = rmOf 1 0 0) : ∀ (n : Nat) (v0 v1 v2 v3 v4 v5 v6 : Int) (μ : Mem) (q_v1 : R32 v1) (q_v2 : R32 v2) (q_v3 : R32 v3) (q_v4 : R32 v4) (q_v5 : R32 v5) (q_v6 : R32 v6) (h : M_feed_L24 n v0 v1 v2 v3 v4 v5 v6 μ = some (res, μe)), At E X cX12_feed 8 "TollsBackModel" (0, 0) 24 [(0, 2, v0), (1, 0, v1), (2, 0, v2), (3, 0, v3), (4, 0, v4), (5, 0, v5), (6, 0, v6)] [] μ := by
  intro n
  induction n with
  | zero =>
    intro v0 v1 v2 v3 v4 v5 v6 μ q_v1 q_v2 q_v3 q_v4 q_v5 q_v6 h
    have h : (none : Option (Int × Mem)) = some (res, μe) := h
    cases h
  | succ n ih =>
    intro v0 v1 v2 v3 v4 v5 v6 μ q_v1 q_v2 q_v3 q_v4 q_v5 q_v6 h
    rw [M_feed_L24.eq_2] at h
    refine r_iload (pc := 24) hX 6 rfl (dk D_X12_feed 13 rfl) ?_
    refine r_bipush (pc := 26) hX rfl (dk D_X12_feed 14 rfl) ?_
    refine r_icmp_ge (pc := 28) hX q_v6 (R32_lit rfl) 121 rfl (dk D_X12_feed 15 rfl) (fun hc => ?_) (fun hc => ?_)
    · rw [if_neg hc] at h
      refine r_aloadn (pc := 121) hX 0 rfl (dk D_X12_feed 62 rfl) ?_
      obtain ⟨x1, hx1, h⟩ := bd_some h
      refine r_getI (pc := 122) hX fl_12_115 rfl rfl hx1 (dk D_X12_feed 63 rfl) (fun qx1 => ?_)
      cases h
      exact r_ireturn (pc := 125) hX qx1 hM ⟨by decide, by decide⟩ (dk D_X12_feed 64 rfl)
    · rw [if_pos hc] at h
      refine r_iload (pc := 31) hX 6 rfl (dk D_X12_feed 16 rfl) ?_
      refine r_iconst (pc := 33) hX (dk D_X12_feed 17 rfl) ?_
      obtain ⟨y2, hb, h⟩ := bd_some h
      have hj : R32 y2 → At E X cX12_feed 8 "TollsBackModel" (0, 0) 77 [(0, 2, v0), (1, 0, v1), (2, 0, v2), (3, 0, v3), (4, 0, v4), (5, 0, v5), (6, 0, v6)] [(0, y2)] μ := by
        intro qy2
        clear hb
        refine r_istore (lv' := [(7, 0, y2), (0, 2, v0), (1, 0, v1), (2, 0, v2), (3, 0, v3), (4, 0, v4), (5, 0, v5), (6, 0, v6)]) (pc := 77) hX (by decide) rfl (dk D_X12_feed 37 rfl) ?_
        refine r_aloadn (pc := 79) hX 1 rfl (dk D_X12_feed 38 rfl) ?_
        obtain ⟨x3, hx3, h⟩ := bd_some h
        refine r_getR (pc := 80) hX fl_12_21 rfl hx3 (dk D_X12_feed 39 rfl) ?_
        refine r_aloadn (pc := 83) hX 1 rfl (dk D_X12_feed 40 rfl) ?_
        obtain ⟨x4, hx4, h⟩ := bd_some h
        refine r_getI (pc := 84) hX fl_12_115 rfl rfl hx4 (dk D_X12_feed 41 rfl) (fun qx4 => ?_)
        refine r_iload (pc := 87) hX 0 rfl (dk D_X12_feed 42 rfl) ?_
        refine r_bipush (pc := 89) hX rfl (dk D_X12_feed 43 rfl) ?_
        refine r_bipush (pc := 91) hX rfl (dk D_X12_feed 44 rfl) ?_
        refine r_iload (pc := 93) hX 7 rfl (dk D_X12_feed 45 rfl) ?_
        refine r_iconst (pc := 95) hX (dk D_X12_feed 46 rfl) ?_
        obtain ⟨x5, hx5, h⟩ := bd_some h
        refine r_irem (pc := 96) hX (R32_lit rfl) hx5 (dk D_X12_feed 47 rfl) (fun qx5 => ?_)
        refine r_imul (pc := 97) hX (dk D_X12_feed 48 rfl) ?_
        refine r_isub (pc := 98) hX (dk D_X12_feed 49 rfl) ?_
        refine r_ishr (pc := 99) hX (dk D_X12_feed 50 rfl) ?_
        refine r_sipush (pc := 100) hX rfl (dk D_X12_feed 51 rfl) ?_
        refine r_iand (pc := 103) hX (dk D_X12_feed 52 rfl) ?_
        obtain ⟨μ6, hμ6, h⟩ := bd_some h
        refine r_iast (pc := 104) hX qx4 (R32_t _) hμ6 (dk D_X12_feed 53 rfl) ?_
        refine r_aloadn (pc := 105) hX 1 rfl (dk D_X12_feed 54 rfl) ?_
        refine r_dup (pc := 106) hX rfl (dk D_X12_feed 55 rfl) ?_
        obtain ⟨x7, hx7, h⟩ := bd_some h
        refine r_getI (pc := 107) hX fl_12_115 rfl rfl hx7 (dk D_X12_feed 56 rfl) (fun qx7 => ?_)
        refine r_iconst (pc := 110) hX (dk D_X12_feed 57 rfl) ?_
        refine r_iadd (pc := 111) hX (dk D_X12_feed 58 rfl) ?_
        obtain ⟨μ8, hμ8, h⟩ := bd_some h
        refine r_putI (pc := 112) hX fl_12_115 rfl rfl (R32_w _) trivial hμ8 (dk D_X12_feed 59 rfl) ?_
        refine r_iinc (lv' := [(6, 0, (w32 (v6 + 1))), (7, 0, y2), (0, 2, v0), (1, 0, v1), (2, 0, v2), (3, 0, v3), (4, 0, v4), (5, 0, v5)]) (pc := 115) hX 7 rfl (by decide) rfl (dk D_X12_feed 60 rfl) ?_
        refine r_goto (pc := 118) hX 24 rfl (dk D_X12_feed 61 rfl) ?_
        refine r_sub (lv' := [(0, 2, v0), (1, 0, v1), (2, 0, v2), (3, 0, v3), (4, 0, v4), (5, 0, v5), (6, 0, (w32 (v6 + 1)))]) [2, 3, 4, 5, 6, 7, 0] rfl ?_
        exact ih v0 v1 v2 v3 v4 v5 (w32 (v6 + 1)) μ8 q_v1 q_v2 q_v3 q_v4 q_v5 (R32_w _) h
      clear h
      have h := hb
      clear hb
      refine r_icmp_ge (pc := 34) hX q_v6 (R32_lit rfl) 41 rfl (dk D_X12_feed 18 rfl) (fun hc => ?_) (fun hc => ?_)
      · rw [if_neg hc] at h
        refine r_iload (pc := 41) hX 6 rfl (dk D_X12_feed 21 rfl) ?_
        refine r_bipush (pc := 43) hX rfl (dk D_X12_feed 22 rfl) ?_
        refine r_icmp_ge (pc := 45) hX q_v6 (R32_lit rfl) 52 rfl (dk D_X12_feed 23 rfl) (fun hc => ?_) (fun hc => ?_)
        · rw [if_neg hc] at h
          refine r_iload (pc := 52) hX 6 rfl (dk D_X12_feed 26 rfl) ?_
          refine r_bipush (pc := 54) hX rfl (dk D_X12_feed 27 rfl) ?_
          refine r_icmp_ge (pc := 56) hX q_v6 (R32_lit rfl) 63 rfl (dk D_X12_feed 28 rfl) (fun hc => ?_) (fun hc => ?_)
          · rw [if_neg hc] at h
            refine r_iload (pc := 63) hX 6 rfl (dk D_X12_feed 31 rfl) ?_
            refine r_bipush (pc := 65) hX rfl (dk D_X12_feed 32 rfl) ?_
            refine r_icmp_ge (pc := 67) hX q_v6 (R32_lit rfl) 75 rfl (dk D_X12_feed 33 rfl) (fun hc => ?_) (fun hc => ?_)
            · rw [if_neg hc] at h
              refine r_iload (pc := 75) hX 5 rfl (dk D_X12_feed 36 rfl) ?_
              replace h := Option.some.inj h
              subst y2
              exact hj q_v5
            · rw [if_pos hc] at h
              refine r_iload (pc := 70) hX 4 rfl (dk D_X12_feed 34 rfl) ?_
              refine r_goto (pc := 72) hX 77 rfl (dk D_X12_feed 35 rfl) ?_
              replace h := Option.some.inj h
              subst y2
              exact hj q_v4
          · rw [if_pos hc] at h
            refine r_iloadn (pc := 59) hX 3 rfl (dk D_X12_feed 29 rfl) ?_
            refine r_goto (pc := 60) hX 77 rfl (dk D_X12_feed 30 rfl) ?_
            replace h := Option.some.inj h
            subst y2
            exact hj q_v3
        · rw [if_pos hc] at h
          refine r_iloadn (pc := 48) hX 2 rfl (dk D_X12_feed 24 rfl) ?_
          refine r_goto (pc := 49) hX 77 rfl (dk D_X12_feed 25 rfl) ?_
          replace h := Option.some.inj h
          subst y2
          exact hj q_v2
      · rw [if_pos hc] at h
        refine r_iloadn (pc := 37) hX 1 rfl (dk D_X12_feed 19 rfl) ?_
        refine r_goto (pc := 38) hX 77 rfl (dk D_X12_feed 20 rfl) ?_
        replace h := Option.some.inj h
        subst y2
        exact hj q_v1
set_option maxRecDepth 100000 in
set_option maxHeartbeats 4000000 in
theorem L_M_feed {E : EX} {l : Launch} {a0 a1 a2 a3 a4 a5 res : Int} {μ μ' : Mem} (q_a1 : R32 a1) (q_a2 : R32 a2) (q_a3 : R32 a3) (q_a4 : R32 a4) (q_a5 : R32 a5) (h : M_feed a0 a1 a2 a3 a4 a5 μ = some (res, μ')) : Ok E l 1 yX12_feed (.code yX12_feed cX12_feed 8 (some .int)) 0 0 [(2, a0), (0, a1), (0, a2), (0, a3), (0, a4), (0, a5)] μ (some (0, res)) μ' := by
  refine Ok.of (own := "TollsBackModel") [(0, 2, a0), (1, 0, a1), (2, 0, a2), (3, 0, a3), (4, 0, a4), (5, 0, a5)] (by decide +kernel) rfl (Nat.le_of_ble_eq_true rfl) rfl ?_
  intro X hL hRm hin hX hM
  unfold M_feed at h
  subst hL
  refine r_aloadn (pc := 0) hX 0 rfl (dk D_X12_feed 0 rfl) ?_
  refine r_iconst (pc := 1) hX (dk D_X12_feed 1 rfl) ?_
  obtain ⟨μ1, hμ1, h⟩ := bd_some h
  refine r_putI (pc := 2) hX fl_12_1 rfl rfl (R32_lit rfl) trivial hμ1 (dk D_X12_feed 2 rfl) ?_
  refine r_aloadn (pc := 5) hX 0 rfl (dk D_X12_feed 3 rfl) ?_
  obtain ⟨x2, hx2, h⟩ := bd_some h
  refine r_getI (pc := 6) hX fl_12_115 rfl rfl hx2 (dk D_X12_feed 4 rfl) (fun qx2 => ?_)
  refine r_bipush (pc := 9) hX rfl (dk D_X12_feed 5 rfl) ?_
  refine r_iadd (pc := 11) hX (dk D_X12_feed 6 rfl) ?_
  refine r_sipush (pc := 12) hX rfl (dk D_X12_feed 7 rfl) ?_
  refine r_icmp_le (pc := 15) hX (R32_w _) (R32_lit rfl) 21 rfl (dk D_X12_feed 8 rfl) (fun hc => ?_) (fun hc => ?_)
  · rw [if_neg hc] at h
    refine r_iconst (pc := 21) hX (dk D_X12_feed 11 rfl) ?_
    refine r_istore (lv' := [(6, 0, 0), (0, 2, a0), (1, 0, a1), (2, 0, a2), (3, 0, a3), (4, 0, a4), (5, 0, a5)]) (pc := 22) hX (by decide) rfl (dk D_X12_feed 12 rfl) ?_
    refine r_sub (lv' := [(0, 2, a0), (1, 0, a1), (2, 0, a2), (3, 0, a3), (4, 0, a4), (5, 0, a5), (6, 0, 0)]) [1, 2, 3, 4, 5, 6, 0] rfl ?_
    refine L_M_feed_L24 hX hM hRm FU a0 a1 a2 a3 a4 a5 0 μ1 q_a1 q_a2 q_a3 q_a4 q_a5 (R32_lit rfl) h
  · rw [if_pos hc] at h
    refine r_bipush (pc := 18) hX rfl (dk D_X12_feed 9 rfl) ?_
    cases h
    exact r_ireturn (pc := 20) hX (R32_lit rfl) hM ⟨by decide, by decide⟩ (dk D_X12_feed 10 rfl)
set_option maxRecDepth 100000 in
set_option maxHeartbeats 4000000 in
theorem L_M_see {E : EX} {l : Launch} {a0 a1 res : Int} {μ μ' : Mem} (q_a1 : R32 a1) (h : M_see a0 a1 μ = some (res, μ')) : Ok E l 1 yX12_see (.code yX12_see cX12_see 2 (some .int)) 0 0 [(2, a0), (0, a1)] μ (some (0, res)) μ' := by
  refine Ok.of (own := "TollsBackModel") [(0, 2, a0), (1, 0, a1)] (by decide +kernel) rfl (Nat.le_of_ble_eq_true rfl) rfl ?_
  intro X hL hRm hin hX hM
  unfold M_see at h
  subst hL
  refine r_iloadn (pc := 0) hX 1 rfl (dk D_X12_see 0 rfl) ?_
  refine r_aloadn (pc := 1) hX 0 rfl (dk D_X12_see 1 rfl) ?_
  obtain ⟨x1, hx1, h⟩ := bd_some h
  refine r_getI (pc := 2) hX fl_12_118 rfl rfl hx1 (dk D_X12_see 2 rfl) (fun qx1 => ?_)
  refine r_icmp_ge (pc := 5) hX q_a1 qx1 17 rfl (dk D_X12_see 3 rfl) (fun hc => ?_) (fun hc => ?_)
  · rw [if_neg hc] at h
    refine r_iconst (pc := 17) hX (dk D_X12_see 9 rfl) ?_
    cases h
    exact r_ireturn (pc := 18) hX (R32_lit rfl) hM ⟨by decide, by decide⟩ (dk D_X12_see 10 rfl)
  · rw [if_pos hc] at h
    refine r_aloadn (pc := 8) hX 0 rfl (dk D_X12_see 4 rfl) ?_
    obtain ⟨x2, hx2, h⟩ := bd_some h
    refine r_getR (pc := 9) hX fl_12_21 rfl hx2 (dk D_X12_see 5 rfl) ?_
    refine r_iloadn (pc := 12) hX 1 rfl (dk D_X12_see 6 rfl) ?_
    obtain ⟨x3, hx3, h⟩ := bd_some h
    refine r_iald (pc := 13) hX q_a1 hx3 (dk D_X12_see 7 rfl) (fun qx3 => ?_)
    refine r_goto (pc := 14) hX 18 rfl (dk D_X12_see 8 rfl) ?_
    cases h
    exact r_ireturn (pc := 18) hX qx3 hM ⟨by decide, by decide⟩ (dk D_X12_see 10 rfl)
set_option maxRecDepth 100000 in
set_option maxHeartbeats 4000000 in
theorem L_M_isSmall {E : EX} {l : Launch} {a0 res : Int} {μ μ' : Mem} (q_a0 : R32 a0) (h : M_isSmall a0 μ = some (res, μ')) : Ok E l 1 yX12_isSmall (.code yX12_isSmall cX12_isSmall 1 (some .boolean)) 0 0 [(0, a0)] μ (some (0, res)) μ' := by
  refine Ok.of (own := "TollsBackModel") [(0, 0, a0)] (by decide +kernel) rfl (Nat.le_of_ble_eq_true rfl) rfl ?_
  intro X hL hRm hin hX hM
  unfold M_isSmall at h
  subst hL
  refine r_iloadn (pc := 0) hX 0 rfl (dk D_X12_isSmall 0 rfl) ?_
  refine r_bipush (pc := 1) hX rfl (dk D_X12_isSmall 1 rfl) ?_
  refine r_icmp_lt (pc := 3) hX q_a0 (R32_lit rfl) 16 rfl (dk D_X12_isSmall 2 rfl) (fun hc => ?_) (fun hc => ?_)
  · rw [if_pos hc] at h
    refine r_iconst (pc := 16) hX (dk D_X12_isSmall 8 rfl) ?_
    cases h
    exact r_zreturn (pc := 17) hX (R32_lit rfl) hM (Or.inl rfl) ⟨by decide, by decide⟩ (dk D_X12_isSmall 9 rfl)
  · rw [if_neg hc] at h
    refine r_iloadn (pc := 6) hX 0 rfl (dk D_X12_isSmall 3 rfl) ?_
    refine r_bipush (pc := 7) hX rfl (dk D_X12_isSmall 4 rfl) ?_
    refine r_icmp_gt (pc := 9) hX q_a0 (R32_lit rfl) 16 rfl (dk D_X12_isSmall 5 rfl) (fun hc => ?_) (fun hc => ?_)
    · rw [if_pos hc] at h
      refine r_iconst (pc := 16) hX (dk D_X12_isSmall 8 rfl) ?_
      cases h
      exact r_zreturn (pc := 17) hX (R32_lit rfl) hM (Or.inl rfl) ⟨by decide, by decide⟩ (dk D_X12_isSmall 9 rfl)
    · rw [if_neg hc] at h
      refine r_iconst (pc := 12) hX (dk D_X12_isSmall 6 rfl) ?_
      refine r_goto (pc := 13) hX 17 rfl (dk D_X12_isSmall 7 rfl) ?_
      cases h
      exact r_zreturn (pc := 17) hX (R32_lit rfl) hM (Or.inr rfl) ⟨by decide, by decide⟩ (dk D_X12_isSmall 9 rfl)
set_option maxRecDepth 100000 in
set_option maxHeartbeats 4000000 in
theorem L_M_isDigit {E : EX} {l : Launch} {a0 res : Int} {μ μ' : Mem} (q_a0 : R32 a0) (h : M_isDigit a0 μ = some (res, μ')) : Ok E l 1 yX12_isDigit (.code yX12_isDigit cX12_isDigit 1 (some .boolean)) 0 0 [(0, a0)] μ (some (0, res)) μ' := by
  refine Ok.of (own := "TollsBackModel") [(0, 0, a0)] (by decide +kernel) rfl (Nat.le_of_ble_eq_true rfl) rfl ?_
  intro X hL hRm hin hX hM
  unfold M_isDigit at h
  subst hL
  refine r_iloadn (pc := 0) hX 0 rfl (dk D_X12_isDigit 0 rfl) ?_
  refine r_bipush (pc := 1) hX rfl (dk D_X12_isDigit 1 rfl) ?_
  refine r_icmp_lt (pc := 3) hX q_a0 (R32_lit rfl) 16 rfl (dk D_X12_isDigit 2 rfl) (fun hc => ?_) (fun hc => ?_)
  · rw [if_pos hc] at h
    refine r_iconst (pc := 16) hX (dk D_X12_isDigit 8 rfl) ?_
    cases h
    exact r_zreturn (pc := 17) hX (R32_lit rfl) hM (Or.inl rfl) ⟨by decide, by decide⟩ (dk D_X12_isDigit 9 rfl)
  · rw [if_neg hc] at h
    refine r_iloadn (pc := 6) hX 0 rfl (dk D_X12_isDigit 3 rfl) ?_
    refine r_bipush (pc := 7) hX rfl (dk D_X12_isDigit 4 rfl) ?_
    refine r_icmp_gt (pc := 9) hX q_a0 (R32_lit rfl) 16 rfl (dk D_X12_isDigit 5 rfl) (fun hc => ?_) (fun hc => ?_)
    · rw [if_pos hc] at h
      refine r_iconst (pc := 16) hX (dk D_X12_isDigit 8 rfl) ?_
      cases h
      exact r_zreturn (pc := 17) hX (R32_lit rfl) hM (Or.inl rfl) ⟨by decide, by decide⟩ (dk D_X12_isDigit 9 rfl)
    · rw [if_neg hc] at h
      refine r_iconst (pc := 12) hX (dk D_X12_isDigit 6 rfl) ?_
      refine r_goto (pc := 13) hX 17 rfl (dk D_X12_isDigit 7 rfl) ?_
      cases h
      exact r_zreturn (pc := 17) hX (R32_lit rfl) hM (Or.inr rfl) ⟨by decide, by decide⟩ (dk D_X12_isDigit 9 rfl)
set_option maxRecDepth 100000 in
set_option maxHeartbeats 4000000 in
theorem L_M_keyAt_L15 {E : EX} {X : CX} {res : Int} {μe : Mem} (hX : Good E X cX12_keyAt 4 "TollsBackModel") (hM : GoodM E X (some .int) (some (0, res)) μe 0 0) (hRm : cR X = rmOf 5 0 0) {k69 : Int → Int → Int → Int → Mem → Option (Int × Mem)} (hk69 : ∀ (u0 u1 u2 u3 : Int) (μ : Mem), R32 u1 → R32 u2 → R32 u3 → k69 u0 u1 u2 u3 μ = some (res, μe) → At E X cX12_keyAt 4 "TollsBackModel" (0, 0) 69 [(0, 2, u0), (1, 0, u1), (2, 0, u2), (3, 0, u3)] [] μ) : ∀ (n : Nat) (v0 v1 v2 v3 : Int) (μ : Mem) (q_v1 : R32 v1) (q_v2 : R32 v2) (q_v3 : R32 v3) (h : M_keyAt_L15 k69 n v0 v1 v2 v3 μ = some (res, μe)), At E X cX12_keyAt 4 "TollsBackModel" (0, 0) 15 [(0, 2, v0), (1, 0, v1), (2, 0, v2), (3, 0, v3)] [] μ := by
  intro n
  induction n with
  | zero =>
    intro v0 v1 v2 v3 μ q_v1 q_v2 q_v3 h
    have h : (none : Option (Int × Mem)) = some (res, μe) := h
    cases h
  | succ n ih =>
    intro v0 v1 v2 v3 μ q_v1 q_v2 q_v3 h
    rw [M_keyAt_L15.eq_2] at h
    refine r_ldcS (i := 9) (pc := 15) hX (by decide) rfl (dk D_X12_keyAt 10 rfl) ?_
    refine r_iloadn (pc := 17) hX 2 rfl (dk D_X12_keyAt 11 rfl) ?_
    refine r_iloadn (pc := 18) hX 3 rfl (dk D_X12_keyAt 12 rfl) ?_
    refine r_iadd (pc := 19) hX (dk D_X12_keyAt 13 rfl) ?_
    obtain ⟨x1, μ2, hx1, h⟩ := bd2_some h
    refine r_J_chr (pc := 20) hX ml_12_129 (R32_w _) hx1 (Rm_of hRm (by decide) ⟨by decide, by decide⟩) (Nat.le_of_ble_eq_true rfl) (dk D_X12_keyAt 14 rfl) (fun qx1 => ?_)
    refine r_bipush (pc := 23) hX rfl (dk D_X12_keyAt 15 rfl) ?_
    refine r_icmp_eq (pc := 25) hX qx1 (R32_lit rfl) 69 rfl (dk D_X12_keyAt 16 rfl) (fun hc => ?_) (fun hc => ?_)
    · rw [if_pos hc] at h
      exact hk69 v0 v1 v2 v3 μ2 q_v1 q_v2 q_v3 h
    · rw [if_neg hc] at h
      refine r_aloadn (pc := 28) hX 0 rfl (dk D_X12_keyAt 17 rfl) ?_
      obtain ⟨x3, hx3, h⟩ := bd_some h
      refine r_getI (pc := 29) hX fl_12_133 rfl rfl hx3 (dk D_X12_keyAt 18 rfl) (fun qx3 => ?_)
      refine r_iloadn (pc := 32) hX 3 rfl (dk D_X12_keyAt 19 rfl) ?_
      refine r_iadd (pc := 33) hX (dk D_X12_keyAt 20 rfl) ?_
      refine r_aloadn (pc := 34) hX 0 rfl (dk D_X12_keyAt 21 rfl) ?_
      obtain ⟨x4, hx4, h⟩ := bd_some h
      refine r_getI (pc := 35) hX fl_12_136 rfl rfl hx4 (dk D_X12_keyAt 22 rfl) (fun qx4 => ?_)
      refine r_icmp_ge (pc := 38) hX (R32_w _) qx4 69 rfl (dk D_X12_keyAt 23 rfl) (fun hc => ?_) (fun hc => ?_)
      · rw [if_neg hc] at h
        exact hk69 v0 v1 v2 v3 μ2 q_v1 q_v2 q_v3 h
      · rw [if_pos hc] at h
        refine r_aloadn (pc := 41) hX 0 rfl (dk D_X12_keyAt 24 rfl) ?_
        obtain ⟨x5, hx5, h⟩ := bd_some h
        refine r_getR (pc := 42) hX fl_12_21 rfl hx5 (dk D_X12_keyAt 25 rfl) ?_
        refine r_aloadn (pc := 45) hX 0 rfl (dk D_X12_keyAt 26 rfl) ?_
        obtain ⟨x6, hx6, h⟩ := bd_some h
        refine r_getI (pc := 46) hX fl_12_133 rfl rfl hx6 (dk D_X12_keyAt 27 rfl) (fun qx6 => ?_)
        refine r_iloadn (pc := 49) hX 3 rfl (dk D_X12_keyAt 28 rfl) ?_
        refine r_iadd (pc := 50) hX (dk D_X12_keyAt 29 rfl) ?_
        obtain ⟨x7, hx7, h⟩ := bd_some h
        refine r_iald (pc := 51) hX (R32_w _) hx7 (dk D_X12_keyAt 30 rfl) (fun qx7 => ?_)
        refine r_ldcS (i := 9) (pc := 52) hX (by decide) rfl (dk D_X12_keyAt 31 rfl) ?_
        refine r_iloadn (pc := 54) hX 2 rfl (dk D_X12_keyAt 32 rfl) ?_
        refine r_iloadn (pc := 55) hX 3 rfl (dk D_X12_keyAt 33 rfl) ?_
        refine r_iadd (pc := 56) hX (dk D_X12_keyAt 34 rfl) ?_
        obtain ⟨x8, μ9, hx8, h⟩ := bd2_some h
        refine r_J_chr (pc := 57) hX ml_12_129 (R32_w _) hx8 (Rm_of hRm (by decide) ⟨by decide, by decide⟩) (Nat.le_of_ble_eq_true rfl) (dk D_X12_keyAt 35 rfl) (fun qx8 => ?_)
        refine r_icmp_ne (pc := 60) hX qx7 qx8 69 rfl (dk D_X12_keyAt 36 rfl) (fun hc => ?_) (fun hc => ?_)
        · rw [if_neg hc] at h
          exact hk69 v0 v1 v2 v3 μ9 q_v1 q_v2 q_v3 h
        · rw [if_pos hc] at h
          refine r_iinc (lv' := [(3, 0, (w32 (v3 + 1))), (0, 2, v0), (1, 0, v1), (2, 0, v2)]) (pc := 63) hX 3 rfl (by decide) rfl (dk D_X12_keyAt 37 rfl) ?_
          refine r_goto (pc := 66) hX 15 rfl (dk D_X12_keyAt 38 rfl) ?_
          refine r_sub (lv' := [(0, 2, v0), (1, 0, v1), (2, 0, v2), (3, 0, (w32 (v3 + 1)))]) [1, 2, 3, 0] rfl ?_
          exact ih v0 v1 v2 (w32 (v3 + 1)) μ9 q_v1 q_v2 (R32_w _) h
set_option maxRecDepth 100000 in
set_option maxHeartbeats 4000000 in
theorem L_M_keyAt_L97 {E : EX} {X : CX} {res : Int} {μe : Mem} (hX : Good E X cX12_keyAt 4 "TollsBackModel") (hM : GoodM E X (some .int) (some (0, res)) μe 0 0) (hRm : cR X = rmOf 5 0 0) {k114 : Int → Int → Int → Mem → Option (Int × Mem)} (hk114 : ∀ (u0 u1 u2 : Int) (μ : Mem), R32 u1 → R32 u2 → k114 u0 u1 u2 μ = some (res, μe) → At E X cX12_keyAt 4 "TollsBackModel" (0, 0) 114 [(0, 2, u0), (1, 0, u1), (2, 0, u2)] [] μ) : ∀ (n : Nat) (v0 v1 v2 : Int) (μ : Mem) (q_v1 : R32 v1) (q_v2 : R32 v2) (h : M_keyAt_L97 k114 n v0 v1 v2 μ = some (res, μe)), At E X cX12_keyAt 4 "TollsBackModel" (0, 0) 97 [(0, 2, v0), (1, 0, v1), (2, 0, v2)] [] μ := by
  intro n
  induction n with
  | zero =>
    intro v0 v1 v2 μ q_v1 q_v2 h
    have h : (none : Option (Int × Mem)) = some (res, μe) := h
    cases h
  | succ n ih =>
    intro v0 v1 v2 μ q_v1 q_v2 h
    rw [M_keyAt_L97.eq_2] at h
    refine r_ldcS (i := 9) (pc := 97) hX (by decide) rfl (dk D_X12_keyAt 55 rfl) ?_
    refine r_iloadn (pc := 99) hX 2 rfl (dk D_X12_keyAt 56 rfl) ?_
    obtain ⟨x1, μ2, hx1, h⟩ := bd2_some h
    refine r_J_chr (pc := 100) hX ml_12_129 q_v2 hx1 (Rm_of hRm (by decide) ⟨by decide, by decide⟩) (Nat.le_of_ble_eq_true rfl) (dk D_X12_keyAt 57 rfl) (fun qx1 => ?_)
    refine r_bipush (pc := 103) hX rfl (dk D_X12_keyAt 58 rfl) ?_
    refine r_icmp_eq (pc := 105) hX qx1 (R32_lit rfl) 114 rfl (dk D_X12_keyAt 59 rfl) (fun hc => ?_) (fun hc => ?_)
    · rw [if_pos hc] at h
      exact hk114 v0 v1 v2 μ2 q_v1 q_v2 h
    · rw [if_neg hc] at h
      refine r_iinc (lv' := [(2, 0, (w32 (v2 + 1))), (0, 2, v0), (1, 0, v1)]) (pc := 108) hX 2 rfl (by decide) rfl (dk D_X12_keyAt 60 rfl) ?_
      refine r_goto (pc := 111) hX 97 rfl (dk D_X12_keyAt 61 rfl) ?_
      refine r_sub (lv' := [(0, 2, v0), (1, 0, v1), (2, 0, (w32 (v2 + 1)))]) [1, 2, 0] rfl ?_
      exact ih v0 v1 (w32 (v2 + 1)) μ2 q_v1 (R32_w _) h
set_option maxRecDepth 100000 in
set_option maxHeartbeats 4000000 in
theorem L_M_keyAt_J69 {E : EX} {X : CX} {res : Int} {μe : Mem} (hX : Good E X cX12_keyAt 4 "TollsBackModel") (hM : GoodM E X (some .int) (some (0, res)) μe 0 0) (hRm : cR X = rmOf 5 0 0) {k4 : Int → Int → Int → Mem → Option (Int × Mem)} (hk4 : ∀ (u0 u1 u2 : Int) (μ : Mem), R32 u1 → R32 u2 → k4 u0 u1 u2 μ = some (res, μe) → At E X cX12_keyAt 4 "TollsBackModel" (0, 0) 4 [(0, 2, u0), (1, 0, u1), (2, 0, u2)] [] μ) {v0 v1 v2 v3 : Int} {μ : Mem} (q_v1 : R32 v1) (q_v2 : R32 v2) (q_v3 : R32 v3) (h : M_keyAt_J69 k4 v0 v1 v2 v3 μ = some (res, μe)) : At E X cX12_keyAt 4 "TollsBackModel" (0, 0) 69 [(0, 2, v0), (1, 0, v1), (2, 0, v2), (3, 0, v3)] [] μ := by
  unfold M_keyAt_J69 at h
  refine r_ldcS (i := 9) (pc := 69) hX (by decide) rfl (dk D_X12_keyAt 39 rfl) ?_
  refine r_iloadn (pc := 71) hX 2 rfl (dk D_X12_keyAt 40 rfl) ?_
  refine r_iloadn (pc := 72) hX 3 rfl (dk D_X12_keyAt 41 rfl) ?_
  refine r_iadd (pc := 73) hX (dk D_X12_keyAt 42 rfl) ?_
  obtain ⟨x1, μ2, hx1, h⟩ := bd2_some h
  refine r_J_chr (pc := 74) hX ml_12_129 (R32_w _) hx1 (Rm_of hRm (by decide) ⟨by decide, by decide⟩) (Nat.le_of_ble_eq_true rfl) (dk D_X12_keyAt 43 rfl) (fun qx1 => ?_)
  refine r_bipush (pc := 77) hX rfl (dk D_X12_keyAt 44 rfl) ?_
  refine r_icmp_ne (pc := 79) hX qx1 (R32_lit rfl) 97 rfl (dk D_X12_keyAt 45 rfl) (fun hc => ?_) (fun hc => ?_)
  · rw [if_neg hc] at h
    refine r_sub (lv' := [(0, 2, v0), (1, 0, v1), (2, 0, v2)]) [0, 1, 2] rfl ?_
    refine L_M_keyAt_L97 hX hM hRm ?_ FU v0 v1 v2 μ2 q_v1 q_v2 h
    intro x3 x4 x5 μ6 qx4 qx5 h
    refine r_iinc (lv' := [(2, 0, (w32 (x5 + 1))), (0, 2, x3), (1, 0, x4)]) (pc := 114) hX 2 rfl (by decide) rfl (dk D_X12_keyAt 62 rfl) ?_
    refine r_iinc (lv' := [(1, 0, (w32 (x4 + 1))), (2, 0, (w32 (x5 + 1))), (0, 2, x3)]) (pc := 117) hX 2 rfl (by decide) rfl (dk D_X12_keyAt 63 rfl) ?_
    refine r_goto (pc := 120) hX 4 rfl (dk D_X12_keyAt 64 rfl) ?_
    refine r_sub (lv' := [(0, 2, x3), (1, 0, (w32 (x4 + 1))), (2, 0, (w32 (x5 + 1)))]) [2, 0, 1] rfl ?_
    exact hk4 x3 (w32 (x4 + 1)) (w32 (x5 + 1)) μ6 (R32_w _) (R32_w _) h
  · rw [if_pos hc] at h
    refine r_aloadn (pc := 82) hX 0 rfl (dk D_X12_keyAt 46 rfl) ?_
    obtain ⟨x7, hx7, h⟩ := bd_some h
    refine r_getI (pc := 83) hX fl_12_133 rfl rfl hx7 (dk D_X12_keyAt 47 rfl) (fun qx7 => ?_)
    refine r_iloadn (pc := 86) hX 3 rfl (dk D_X12_keyAt 48 rfl) ?_
    refine r_iadd (pc := 87) hX (dk D_X12_keyAt 49 rfl) ?_
    refine r_aloadn (pc := 88) hX 0 rfl (dk D_X12_keyAt 50 rfl) ?_
    obtain ⟨x8, hx8, h⟩ := bd_some h
    refine r_getI (pc := 89) hX fl_12_136 rfl rfl hx8 (dk D_X12_keyAt 51 rfl) (fun qx8 => ?_)
    refine r_icmp_ne (pc := 92) hX (R32_w _) qx8 97 rfl (dk D_X12_keyAt 52 rfl) (fun hc => ?_) (fun hc => ?_)
    · rw [if_neg hc] at h
      refine r_sub (lv' := [(0, 2, v0), (1, 0, v1), (2, 0, v2)]) [0, 1, 2] rfl ?_
      refine L_M_keyAt_L97 hX hM hRm ?_ FU v0 v1 v2 μ2 q_v1 q_v2 h
      intro x9 x10 x11 μ12 qx10 qx11 h
      refine r_iinc (lv' := [(2, 0, (w32 (x11 + 1))), (0, 2, x9), (1, 0, x10)]) (pc := 114) hX 2 rfl (by decide) rfl (dk D_X12_keyAt 62 rfl) ?_
      refine r_iinc (lv' := [(1, 0, (w32 (x10 + 1))), (2, 0, (w32 (x11 + 1))), (0, 2, x9)]) (pc := 117) hX 2 rfl (by decide) rfl (dk D_X12_keyAt 63 rfl) ?_
      refine r_goto (pc := 120) hX 4 rfl (dk D_X12_keyAt 64 rfl) ?_
      refine r_sub (lv' := [(0, 2, x9), (1, 0, (w32 (x10 + 1))), (2, 0, (w32 (x11 + 1)))]) [2, 0, 1] rfl ?_
      exact hk4 x9 (w32 (x10 + 1)) (w32 (x11 + 1)) μ12 (R32_w _) (R32_w _) h
    · rw [if_pos hc] at h
      refine r_iloadn (pc := 95) hX 1 rfl (dk D_X12_keyAt 53 rfl) ?_
      cases h
      exact r_ireturn (pc := 96) hX q_v1 hM ⟨by decide, by decide⟩ (dk D_X12_keyAt 54 rfl)
set_option maxRecDepth 100000 in
set_option maxHeartbeats 4000000 in
theorem L_M_keyAt_L4 {E : EX} {X : CX} {res : Int} {μe : Mem} (hX : Good E X cX12_keyAt 4 "TollsBackModel") (hM : GoodM E X (some .int) (some (0, res)) μe 0 0) (hRm : cR X = rmOf 5 0 0) : ∀ (n : Nat) (v0 v1 v2 : Int) (μ : Mem) (q_v1 : R32 v1) (q_v2 : R32 v2) (h : M_keyAt_L4 n v0 v1 v2 μ = some (res, μe)), At E X cX12_keyAt 4 "TollsBackModel" (0, 0) 4 [(0, 2, v0), (1, 0, v1), (2, 0, v2)] [] μ := by
  intro n
  induction n with
  | zero =>
    intro v0 v1 v2 μ q_v1 q_v2 h
    have h : (none : Option (Int × Mem)) = some (res, μe) := h
    cases h
  | succ n ih =>
    intro v0 v1 v2 μ q_v1 q_v2 h
    rw [M_keyAt_L4.eq_2] at h
    refine r_iloadn (pc := 4) hX 2 rfl (dk D_X12_keyAt 4 rfl) ?_
    refine r_ldcS (i := 9) (pc := 5) hX (by decide) rfl (dk D_X12_keyAt 5 rfl) ?_
    obtain ⟨x1, μ2, hx1, h⟩ := bd2_some h
    refine r_J_len (pc := 7) hX ml_12_123 hx1 (Rm_of hRm (by decide) ⟨by decide, by decide⟩) (Nat.le_of_ble_eq_true rfl) (dk D_X12_keyAt 6 rfl) (fun qx1 => ?_)
    refine r_icmp_ge (pc := 10) hX q_v2 qx1 123 rfl (dk D_X12_keyAt 7 rfl) (fun hc => ?_) (fun hc => ?_)
    · rw [if_neg hc] at h
      refine r_bipush (pc := 123) hX rfl (dk D_X12_keyAt 65 rfl) ?_
      cases h
      exact r_ireturn (pc := 125) hX (R32_lit rfl) hM ⟨by decide, by decide⟩ (dk D_X12_keyAt 66 rfl)
    · rw [if_pos hc] at h
      refine r_iconst (pc := 13) hX (dk D_X12_keyAt 8 rfl) ?_
      refine r_istoren (lv' := [(3, 0, 0), (0, 2, v0), (1, 0, v1), (2, 0, v2)]) (pc := 14) hX (by decide) rfl (dk D_X12_keyAt 9 rfl) ?_
      refine r_sub (lv' := [(0, 2, v0), (1, 0, v1), (2, 0, v2), (3, 0, 0)]) [1, 2, 3, 0] rfl ?_
      refine L_M_keyAt_L15 hX hM hRm ?_ FU v0 v1 v2 0 μ2 q_v1 q_v2 (R32_lit rfl) h
      intro x3 x4 x5 x6 μ7 qx4 qx5 qx6 h
      refine L_M_keyAt_J69 hX hM hRm (fun u0 u1 u2 μ qu1 qu2 h => ih u0 u1 u2 μ qu1 qu2 h) qx4 qx5 qx6 h
set_option maxRecDepth 100000 in
set_option maxHeartbeats 4000000 in
theorem L_M_keyAt {E : EX} {l : Launch} {a0 res : Int} {μ μ' : Mem}  (h : M_keyAt a0 μ = some (res, μ')) : Ok E l 5 yX12_keyAt (.code yX12_keyAt cX12_keyAt 4 (some .int)) 0 0 [(2, a0)] μ (some (0, res)) μ' := by
  refine Ok.of (own := "TollsBackModel") [(0, 2, a0)] (by decide +kernel) rfl (Nat.le_of_ble_eq_true rfl) rfl ?_
  intro X hL hRm hin hX hM
  unfold M_keyAt at h
  subst hL
  refine r_iconst (pc := 0) hX (dk D_X12_keyAt 0 rfl) ?_
  refine r_istoren (lv' := [(1, 0, 0), (0, 2, a0)]) (pc := 1) hX (by decide) rfl (dk D_X12_keyAt 1 rfl) ?_
  refine r_iconst (pc := 2) hX (dk D_X12_keyAt 2 rfl) ?_
  refine r_istoren (lv' := [(2, 0, 1), (1, 0, 0), (0, 2, a0)]) (pc := 3) hX (by decide) rfl (dk D_X12_keyAt 3 rfl) ?_
  refine r_sub (lv' := [(0, 2, a0), (1, 0, 0), (2, 0, 1)]) [2, 1, 0] rfl ?_
  refine L_M_keyAt_L4 hX hM hRm FU a0 0 1 μ (R32_lit rfl) (R32_lit rfl) h
set_option maxRecDepth 100000 in
set_option maxHeartbeats 4000000 in
theorem L_M_next_J34 {E : EX} {X : CX} {res : Int} {μe : Mem} (hX : Good E X cX12_next 1 "TollsBackModel") (hM : GoodM E X none none μe 0 0) (hRm : cR X = rmOf 6 0 0) {k8 : Int → Mem → Option (Int × Mem)} (hk8 : ∀ (u0 : Int) (μ : Mem), k8 u0 μ = some (res, μe) → At E X cX12_next 1 "TollsBackModel" (0, 0) 8 [(0, 2, u0)] [] μ) {v0 : Int} {μ : Mem}  (h : M_next_J34 k8 v0 μ = some (res, μe)) : At E X cX12_next 1 "TollsBackModel" (0, 0) 34 [(0, 2, v0)] [] μ := by
  unfold M_next_J34 at h
  refine r_aloadn (pc := 34) hX 0 rfl (dk D_X12_next 16 rfl) ?_
  refine r_dup (pc := 35) hX rfl (dk D_X12_next 17 rfl) ?_
  obtain ⟨x1, hx1, h⟩ := bd_some h
  refine r_getI (pc := 36) hX fl_12_133 rfl rfl hx1 (dk D_X12_next 18 rfl) (fun qx1 => ?_)
  refine r_iconst (pc := 39) hX (dk D_X12_next 19 rfl) ?_
  refine r_iadd (pc := 40) hX (dk D_X12_next 20 rfl) ?_
  obtain ⟨μ2, hμ2, h⟩ := bd_some h
  refine r_putI (pc := 41) hX fl_12_133 rfl rfl (R32_w _) trivial hμ2 (dk D_X12_next 21 rfl) ?_
  refine r_goto (pc := 44) hX 8 rfl (dk D_X12_next 22 rfl) ?_
  exact hk8 v0 μ2 h
set_option maxRecDepth 100000 in
set_option maxHeartbeats 4000000 in
theorem L_M_next_L8 {E : EX} {X : CX} {res : Int} {μe : Mem} (hX : Good E X cX12_next 1 "TollsBackModel") (hM : GoodM E X none none μe 0 0) (hRm : cR X = rmOf 6 0 0) {k47 : Int → Mem → Option (Int × Mem)} (hk47 : ∀ (u0 : Int) (μ : Mem), k47 u0 μ = some (res, μe) → At E X cX12_next 1 "TollsBackModel" (0, 0) 47 [(0, 2, u0)] [] μ) : ∀ (n : Nat) (v0 : Int) (μ : Mem)  (h : M_next_L8 k47 n v0 μ = some (res, μe)), At E X cX12_next 1 "TollsBackModel" (0, 0) 8 [(0, 2, v0)] [] μ := by
  intro n
  induction n with
  | zero =>
    intro v0 μ  h
    have h : (none : Option (Int × Mem)) = some (res, μe) := h
    cases h
  | succ n ih =>
    intro v0 μ  h
    rw [M_next_L8.eq_2] at h
    refine r_aloadn (pc := 8) hX 0 rfl (dk D_X12_next 4 rfl) ?_
    refine r_aloadn (pc := 9) hX 0 rfl (dk D_X12_next 5 rfl) ?_
    obtain ⟨x1, hx1, h⟩ := bd_some h
    refine r_getI (pc := 10) hX fl_12_133 rfl rfl hx1 (dk D_X12_next 6 rfl) (fun qx1 => ?_)
    obtain ⟨_, hi, h⟩ := bd_some h
    obtain ⟨x2, μ3, hx2, h⟩ := bd2_some h
    refine r_invV0 (As := [(0, x1)]) (pc := 13) hX ml_12_139 (L_M_see qx1 hx2) (isk_u hi) (Rm_of hRm (by decide) ⟨by decide, by decide⟩) (by decide) rfl (Nat.le_of_ble_eq_true rfl) rfl (dk D_X12_next 7 rfl) (fun qx2 => ?_)
    refine r_bipush (pc := 16) hX rfl (dk D_X12_next 8 rfl) ?_
    refine r_icmp_eq (pc := 18) hX qx2 (R32_lit rfl) 34 rfl (dk D_X12_next 9 rfl) (fun hc => ?_) (fun hc => ?_)
    · rw [if_pos hc] at h
      refine L_M_next_J34 hX hM hRm (fun u0 μ  h => ih u0 μ  h) h
    · rw [if_neg hc] at h
      refine r_aloadn (pc := 21) hX 0 rfl (dk D_X12_next 10 rfl) ?_
      refine r_aloadn (pc := 22) hX 0 rfl (dk D_X12_next 11 rfl) ?_
      obtain ⟨x4, hx4, h⟩ := bd_some h
      refine r_getI (pc := 23) hX fl_12_133 rfl rfl hx4 (dk D_X12_next 12 rfl) (fun qx4 => ?_)
      obtain ⟨_, hi, h⟩ := bd_some h
      obtain ⟨x5, μ6, hx5, h⟩ := bd2_some h
      refine r_invV0 (As := [(0, x4)]) (pc := 26) hX ml_12_139 (L_M_see qx4 hx5) (isk_u hi) (Rm_of hRm (by decide) ⟨by decide, by decide⟩) (by decide) rfl (Nat.le_of_ble_eq_true rfl) rfl (dk D_X12_next 13 rfl) (fun qx5 => ?_)
      refine r_bipush (pc := 29) hX rfl (dk D_X12_next 14 rfl) ?_
      refine r_icmp_ne (pc := 31) hX qx5 (R32_lit rfl) 47 rfl (dk D_X12_next 15 rfl) (fun hc => ?_) (fun hc => ?_)
      · rw [if_neg hc] at h
        exact hk47 v0 μ6 h
      · rw [if_pos hc] at h
        refine L_M_next_J34 hX hM hRm (fun u0 μ  h => ih u0 μ  h) h
set_option maxRecDepth 100000 in
set_option maxHeartbeats 4000000 in
theorem L_M_next_L146 {E : EX} {X : CX} {res : Int} {μe : Mem} (hX : Good E X cX12_next 1 "TollsBackModel") (hM : GoodM E X none none μe 0 0) (hRm : cR X = rmOf 6 0 0) {k209 : Int → Mem → Option (Int × Mem)} (hk209 : ∀ (u0 : Int) (μ : Mem), k209 u0 μ = some (res, μe) → At E X cX12_next 1 "TollsBackModel" (0, 0) 209 [(0, 2, u0)] [] μ) : ∀ (n : Nat) (v0 : Int) (μ : Mem)  (h : M_next_L146 k209 n v0 μ = some (res, μe)), At E X cX12_next 1 "TollsBackModel" (0, 0) 146 [(0, 2, v0)] [] μ := by
  intro n
  induction n with
  | zero =>
    intro v0 μ  h
    have h : (none : Option (Int × Mem)) = some (res, μe) := h
    cases h
  | succ n ih =>
    intro v0 μ  h
    rw [M_next_L146.eq_2] at h
    refine r_aloadn (pc := 146) hX 0 rfl (dk D_X12_next 69 rfl) ?_
    refine r_aloadn (pc := 147) hX 0 rfl (dk D_X12_next 70 rfl) ?_
    obtain ⟨x1, hx1, h⟩ := bd_some h
    refine r_getI (pc := 148) hX fl_12_136 rfl rfl hx1 (dk D_X12_next 71 rfl) (fun qx1 => ?_)
    obtain ⟨_, hi, h⟩ := bd_some h
    obtain ⟨x2, μ3, hx2, h⟩ := bd2_some h
    refine r_invV0 (As := [(0, x1)]) (pc := 151) hX ml_12_139 (L_M_see qx1 hx2) (isk_u hi) (Rm_of hRm (by decide) ⟨by decide, by decide⟩) (by decide) rfl (Nat.le_of_ble_eq_true rfl) rfl (dk D_X12_next 72 rfl) (fun qx2 => ?_)
    obtain ⟨x4, μ5, hx4, h⟩ := bd2_some h
    refine r_invS0 (As := [(0, x2)]) (pc := 154) hX ml_12_153 (L_M_isDigit qx2 hx4) (Rm_of hRm (by decide) ⟨by decide, by decide⟩) (by decide) rfl (Nat.le_of_ble_eq_true rfl) rfl (dk D_X12_next 73 rfl) (fun qx4 => ?_)
    refine r_if_eq (pc := 157) hX qx4 209 rfl (dk D_X12_next 74 rfl) (fun hc => ?_) (fun hc => ?_)
    · rw [if_pos hc] at h
      exact hk209 v0 μ5 h
    · rw [if_neg hc] at h
      refine r_aloadn (pc := 160) hX 0 rfl (dk D_X12_next 75 rfl) ?_
      obtain ⟨x6, hx6, h⟩ := bd_some h
      refine r_getI (pc := 161) hX fl_12_136 rfl rfl hx6 (dk D_X12_next 76 rfl) (fun qx6 => ?_)
      refine r_aloadn (pc := 164) hX 0 rfl (dk D_X12_next 77 rfl) ?_
      obtain ⟨x7, hx7, h⟩ := bd_some h
      refine r_getI (pc := 165) hX fl_12_133 rfl rfl hx7 (dk D_X12_next 78 rfl) (fun qx7 => ?_)
      refine r_isub (pc := 168) hX (dk D_X12_next 79 rfl) ?_
      refine r_iconst (pc := 169) hX (dk D_X12_next 80 rfl) ?_
      obtain ⟨μ8, hb, h⟩ := bd_some h
      have hj : At E X cX12_next 1 "TollsBackModel" (0, 0) 196 [(0, 2, v0)] [] μ8 := by
        clear hb
        refine r_aloadn (pc := 196) hX 0 rfl (dk D_X12_next 95 rfl) ?_
        refine r_dup (pc := 197) hX rfl (dk D_X12_next 96 rfl) ?_
        obtain ⟨x14, hx14, h⟩ := bd_some h
        refine r_getI (pc := 198) hX fl_12_136 rfl rfl hx14 (dk D_X12_next 97 rfl) (fun qx14 => ?_)
        refine r_iconst (pc := 201) hX (dk D_X12_next 98 rfl) ?_
        refine r_iadd (pc := 202) hX (dk D_X12_next 99 rfl) ?_
        obtain ⟨μ15, hμ15, h⟩ := bd_some h
        refine r_putI (pc := 203) hX fl_12_136 rfl rfl (R32_w _) trivial hμ15 (dk D_X12_next 100 rfl) ?_
        refine r_goto (pc := 206) hX 146 rfl (dk D_X12_next 101 rfl) ?_
        exact ih v0 μ15 h
      clear h
      have h := hb
      clear hb
      refine r_icmp_ge (pc := 170) hX (R32_w _) (R32_lit rfl) 196 rfl (dk D_X12_next 81 rfl) (fun hc => ?_) (fun hc => ?_)
      · rw [if_neg hc] at h
        replace h := Option.some.inj h
        subst μ8
        exact hj
      · rw [if_pos hc] at h
        refine r_aloadn (pc := 173) hX 0 rfl (dk D_X12_next 82 rfl) ?_
        refine r_bipush (pc := 174) hX rfl (dk D_X12_next 83 rfl) ?_
        refine r_aloadn (pc := 176) hX 0 rfl (dk D_X12_next 84 rfl) ?_
        obtain ⟨x9, hx9, h⟩ := bd_some h
        refine r_getI (pc := 177) hX fl_12_156 rfl rfl hx9 (dk D_X12_next 85 rfl) (fun qx9 => ?_)
        refine r_imul (pc := 180) hX (dk D_X12_next 86 rfl) ?_
        refine r_aloadn (pc := 181) hX 0 rfl (dk D_X12_next 87 rfl) ?_
        refine r_aloadn (pc := 182) hX 0 rfl (dk D_X12_next 88 rfl) ?_
        obtain ⟨x10, hx10, h⟩ := bd_some h
        refine r_getI (pc := 183) hX fl_12_136 rfl rfl hx10 (dk D_X12_next 89 rfl) (fun qx10 => ?_)
        obtain ⟨_, hi, h⟩ := bd_some h
        obtain ⟨x11, μ12, hx11, h⟩ := bd2_some h
        refine r_invV0 (As := [(0, x10)]) (pc := 186) hX ml_12_139 (L_M_see qx10 hx11) (isk_u hi) (Rm_of hRm (by decide) ⟨by decide, by decide⟩) (by decide) rfl (Nat.le_of_ble_eq_true rfl) rfl (dk D_X12_next 90 rfl) (fun qx11 => ?_)
        refine r_iadd (pc := 189) hX (dk D_X12_next 91 rfl) ?_
        refine r_bipush (pc := 190) hX rfl (dk D_X12_next 92 rfl) ?_
        refine r_isub (pc := 192) hX (dk D_X12_next 93 rfl) ?_
        obtain ⟨μ13, hμ13, h⟩ := bd_some h
        refine r_putI (pc := 193) hX fl_12_156 rfl rfl (R32_w _) trivial hμ13 (dk D_X12_next 94 rfl) ?_
        replace h := Option.some.inj h
        subst μ8
        exact hj
set_option maxRecDepth 100000 in
set_option maxHeartbeats 4000000 in
theorem L_M_next_L89 {E : EX} {X : CX} {res : Int} {μe : Mem} (hX : Good E X cX12_next 1 "TollsBackModel") (hM : GoodM E X none none μe 0 0) (hRm : cR X = rmOf 6 0 0) {k116 : Int → Mem → Option (Int × Mem)} (hk116 : ∀ (u0 : Int) (μ : Mem), k116 u0 μ = some (res, μe) → At E X cX12_next 1 "TollsBackModel" (0, 0) 116 [(0, 2, u0)] [] μ) : ∀ (n : Nat) (v0 : Int) (μ : Mem)  (h : M_next_L89 k116 n v0 μ = some (res, μe)), At E X cX12_next 1 "TollsBackModel" (0, 0) 89 [(0, 2, v0)] [] μ := by
  intro n
  induction n with
  | zero =>
    intro v0 μ  h
    have h : (none : Option (Int × Mem)) = some (res, μe) := h
    cases h
  | succ n ih =>
    intro v0 μ  h
    rw [M_next_L89.eq_2] at h
    refine r_aloadn (pc := 89) hX 0 rfl (dk D_X12_next 42 rfl) ?_
    refine r_aloadn (pc := 90) hX 0 rfl (dk D_X12_next 43 rfl) ?_
    obtain ⟨x1, hx1, h⟩ := bd_some h
    refine r_getI (pc := 91) hX fl_12_136 rfl rfl hx1 (dk D_X12_next 44 rfl) (fun qx1 => ?_)
    obtain ⟨_, hi, h⟩ := bd_some h
    obtain ⟨x2, μ3, hx2, h⟩ := bd2_some h
    refine r_invV0 (As := [(0, x1)]) (pc := 94) hX ml_12_139 (L_M_see qx1 hx2) (isk_u hi) (Rm_of hRm (by decide) ⟨by decide, by decide⟩) (by decide) rfl (Nat.le_of_ble_eq_true rfl) rfl (dk D_X12_next 45 rfl) (fun qx2 => ?_)
    obtain ⟨x4, μ5, hx4, h⟩ := bd2_some h
    refine r_invS0 (As := [(0, x2)]) (pc := 97) hX ml_12_146 (L_M_isSmall qx2 hx4) (Rm_of hRm (by decide) ⟨by decide, by decide⟩) (by decide) rfl (Nat.le_of_ble_eq_true rfl) rfl (dk D_X12_next 46 rfl) (fun qx4 => ?_)
    refine r_if_eq (pc := 100) hX qx4 116 rfl (dk D_X12_next 47 rfl) (fun hc => ?_) (fun hc => ?_)
    · rw [if_pos hc] at h
      exact hk116 v0 μ5 h
    · rw [if_neg hc] at h
      refine r_aloadn (pc := 103) hX 0 rfl (dk D_X12_next 48 rfl) ?_
      refine r_dup (pc := 104) hX rfl (dk D_X12_next 49 rfl) ?_
      obtain ⟨x6, hx6, h⟩ := bd_some h
      refine r_getI (pc := 105) hX fl_12_136 rfl rfl hx6 (dk D_X12_next 50 rfl) (fun qx6 => ?_)
      refine r_iconst (pc := 108) hX (dk D_X12_next 51 rfl) ?_
      refine r_iadd (pc := 109) hX (dk D_X12_next 52 rfl) ?_
      obtain ⟨μ7, hμ7, h⟩ := bd_some h
      refine r_putI (pc := 110) hX fl_12_136 rfl rfl (R32_w _) trivial hμ7 (dk D_X12_next 53 rfl) ?_
      refine r_goto (pc := 113) hX 89 rfl (dk D_X12_next 54 rfl) ?_
      exact ih v0 μ7 h
set_option maxRecDepth 100000 in
set_option maxHeartbeats 4000000 in
theorem L_M_next {E : EX} {l : Launch} {a0 res : Int} {μ μ' : Mem}  (h : M_next a0 μ = some (res, μ')) : Ok E l 6 yX12_next (.code yX12_next cX12_next 1 none) 0 0 [(2, a0)] μ none μ' := by
  refine Ok.of (own := "TollsBackModel") [(0, 2, a0)] (by decide +kernel) rfl (Nat.le_of_ble_eq_true rfl) rfl ?_
  intro X hL hRm hin hX hM
  unfold M_next at h
  subst hL
  refine r_aloadn (pc := 0) hX 0 rfl (dk D_X12_next 0 rfl) ?_
  refine r_aloadn (pc := 1) hX 0 rfl (dk D_X12_next 1 rfl) ?_
  obtain ⟨x1, hx1, h⟩ := bd_some h
  refine r_getI (pc := 2) hX fl_12_136 rfl rfl hx1 (dk D_X12_next 2 rfl) (fun qx1 => ?_)
  obtain ⟨μ2, hμ2, h⟩ := bd_some h
  refine r_putI (pc := 5) hX fl_12_133 rfl rfl qx1 trivial hμ2 (dk D_X12_next 3 rfl) ?_
  refine L_M_next_L8 hX hM hRm ?_ FU a0 μ2 h
  intro x3 μ4  h
  refine r_aloadn (pc := 47) hX 0 rfl (dk D_X12_next 23 rfl) ?_
  refine r_aloadn (pc := 48) hX 0 rfl (dk D_X12_next 24 rfl) ?_
  obtain ⟨x5, hx5, h⟩ := bd_some h
  refine r_getI (pc := 49) hX fl_12_133 rfl rfl hx5 (dk D_X12_next 25 rfl) (fun qx5 => ?_)
  obtain ⟨μ6, hμ6, h⟩ := bd_some h
  refine r_putI (pc := 52) hX fl_12_136 rfl rfl qx5 trivial hμ6 (dk D_X12_next 26 rfl) ?_
  refine r_aloadn (pc := 55) hX 0 rfl (dk D_X12_next 27 rfl) ?_
  obtain ⟨x7, hx7, h⟩ := bd_some h
  refine r_getI (pc := 56) hX fl_12_133 rfl rfl hx7 (dk D_X12_next 28 rfl) (fun qx7 => ?_)
  refine r_aloadn (pc := 59) hX 0 rfl (dk D_X12_next 29 rfl) ?_
  obtain ⟨x8, hx8, h⟩ := bd_some h
  refine r_getI (pc := 60) hX fl_12_118 rfl rfl hx8 (dk D_X12_next 30 rfl) (fun qx8 => ?_)
  refine r_icmp_lt (pc := 63) hX qx7 qx8 75 rfl (dk D_X12_next 31 rfl) (fun hc => ?_) (fun hc => ?_)
  · rw [if_pos hc] at h
    refine r_aloadn (pc := 75) hX 0 rfl (dk D_X12_next 36 rfl) ?_
    refine r_aloadn (pc := 76) hX 0 rfl (dk D_X12_next 37 rfl) ?_
    obtain ⟨x9, hx9, h⟩ := bd_some h
    refine r_getI (pc := 77) hX fl_12_133 rfl rfl hx9 (dk D_X12_next 38 rfl) (fun qx9 => ?_)
    obtain ⟨_, hi, h⟩ := bd_some h
    obtain ⟨x10, μ11, hx10, h⟩ := bd2_some h
    refine r_invV0 (As := [(0, x9)]) (pc := 80) hX ml_12_139 (L_M_see qx9 hx10) (isk_u hi) (Rm_of hRm (by decide) ⟨by decide, by decide⟩) (by decide) rfl (Nat.le_of_ble_eq_true rfl) rfl (dk D_X12_next 39 rfl) (fun qx10 => ?_)
    obtain ⟨x12, μ13, hx12, h⟩ := bd2_some h
    refine r_invS0 (As := [(0, x10)]) (pc := 83) hX ml_12_146 (L_M_isSmall qx10 hx12) (Rm_of hRm (by decide) ⟨by decide, by decide⟩) (by decide) rfl (Nat.le_of_ble_eq_true rfl) rfl (dk D_X12_next 40 rfl) (fun qx12 => ?_)
    refine r_if_eq (pc := 86) hX qx12 127 rfl (dk D_X12_next 41 rfl) (fun hc => ?_) (fun hc => ?_)
    · rw [if_pos hc] at h
      refine r_aloadn (pc := 127) hX 0 rfl (dk D_X12_next 60 rfl) ?_
      refine r_aloadn (pc := 128) hX 0 rfl (dk D_X12_next 61 rfl) ?_
      obtain ⟨x14, hx14, h⟩ := bd_some h
      refine r_getI (pc := 129) hX fl_12_133 rfl rfl hx14 (dk D_X12_next 62 rfl) (fun qx14 => ?_)
      obtain ⟨_, hi, h⟩ := bd_some h
      obtain ⟨x15, μ16, hx15, h⟩ := bd2_some h
      refine r_invV0 (As := [(0, x14)]) (pc := 132) hX ml_12_139 (L_M_see qx14 hx15) (isk_u hi) (Rm_of hRm (by decide) ⟨by decide, by decide⟩) (by decide) rfl (Nat.le_of_ble_eq_true rfl) rfl (dk D_X12_next 63 rfl) (fun qx15 => ?_)
      obtain ⟨x17, μ18, hx17, h⟩ := bd2_some h
      refine r_invS0 (As := [(0, x15)]) (pc := 135) hX ml_12_153 (L_M_isDigit qx15 hx17) (Rm_of hRm (by decide) ⟨by decide, by decide⟩) (by decide) rfl (Nat.le_of_ble_eq_true rfl) rfl (dk D_X12_next 64 rfl) (fun qx17 => ?_)
      refine r_if_eq (pc := 138) hX qx17 236 rfl (dk D_X12_next 65 rfl) (fun hc => ?_) (fun hc => ?_)
      · rw [if_pos hc] at h
        refine r_aloadn (pc := 236) hX 0 rfl (dk D_X12_next 115 rfl) ?_
        refine r_dup (pc := 237) hX rfl (dk D_X12_next 116 rfl) ?_
        obtain ⟨x19, hx19, h⟩ := bd_some h
        refine r_getI (pc := 238) hX fl_12_136 rfl rfl hx19 (dk D_X12_next 117 rfl) (fun qx19 => ?_)
        refine r_iconst (pc := 241) hX (dk D_X12_next 118 rfl) ?_
        refine r_iadd (pc := 242) hX (dk D_X12_next 119 rfl) ?_
        obtain ⟨μ20, hμ20, h⟩ := bd_some h
        refine r_putI (pc := 243) hX fl_12_136 rfl rfl (R32_w _) trivial hμ20 (dk D_X12_next 120 rfl) ?_
        refine r_aloadn (pc := 246) hX 0 rfl (dk D_X12_next 121 rfl) ?_
        refine r_aloadn (pc := 247) hX 0 rfl (dk D_X12_next 122 rfl) ?_
        refine r_aloadn (pc := 248) hX 0 rfl (dk D_X12_next 123 rfl) ?_
        obtain ⟨x21, hx21, h⟩ := bd_some h
        refine r_getI (pc := 249) hX fl_12_133 rfl rfl hx21 (dk D_X12_next 124 rfl) (fun qx21 => ?_)
        obtain ⟨_, hi, h⟩ := bd_some h
        obtain ⟨x22, μ23, hx22, h⟩ := bd2_some h
        refine r_invV0 (As := [(0, x21)]) (pc := 252) hX ml_12_139 (L_M_see qx21 hx22) (isk_u hi) (Rm_of hRm (by decide) ⟨by decide, by decide⟩) (by decide) rfl (Nat.le_of_ble_eq_true rfl) rfl (dk D_X12_next 125 rfl) (fun qx22 => ?_)
        refine r_bipush (pc := 255) hX rfl (dk D_X12_next 126 rfl) ?_
        obtain ⟨y24, hb, h⟩ := bd_some h
        have hj : R32 y24 → At E X cX12_next 1 "TollsBackModel" (0, 0) 267 [] [(0, y24), (2, x3)] μ23 := by
          intro qy24
          clear hb
          obtain ⟨μ25, hμ25, h⟩ := bd_some h
          refine r_putI (pc := 267) hX fl_12_143 rfl rfl qy24 trivial hμ25 (dk D_X12_next 131 rfl) ?_
          cases h
          exact r_return (pc := 270) hX hM ⟨by decide, by decide⟩ (dk D_X12_next 132 rfl)
        clear h
        have h := hb
        clear hb
        refine r_icmp_ne (pc := 257) hX qx22 (R32_lit rfl) 265 rfl (dk D_X12_next 127 rfl) (fun hc => ?_) (fun hc => ?_)
        · rw [if_neg hc] at h
          refine r_bipush (pc := 265) hX rfl (dk D_X12_next 130 rfl) ?_
          replace h := Option.some.inj h
          subst y24
          refine r_sub (lv' := []) [] rfl ?_
          exact hj (R32_lit rfl)
        · rw [if_pos hc] at h
          refine r_bipush (pc := 260) hX rfl (dk D_X12_next 128 rfl) ?_
          refine r_goto (pc := 262) hX 267 rfl (dk D_X12_next 129 rfl) ?_
          replace h := Option.some.inj h
          subst y24
          refine r_sub (lv' := []) [] rfl ?_
          exact hj (R32_lit rfl)
      · rw [if_neg hc] at h
        refine r_aloadn (pc := 141) hX 0 rfl (dk D_X12_next 66 rfl) ?_
        refine r_iconst (pc := 142) hX (dk D_X12_next 67 rfl) ?_
        obtain ⟨μ26, hμ26, h⟩ := bd_some h
        refine r_putI (pc := 143) hX fl_12_156 rfl rfl (R32_lit rfl) trivial hμ26 (dk D_X12_next 68 rfl) ?_
        refine L_M_next_L146 hX hM hRm ?_ FU x3 μ26 h
        intro x27 μ28  h
        refine r_aloadn (pc := 209) hX 0 rfl (dk D_X12_next 102 rfl) ?_
        refine r_aloadn (pc := 210) hX 0 rfl (dk D_X12_next 103 rfl) ?_
        obtain ⟨x29, hx29, h⟩ := bd_some h
        refine r_getI (pc := 211) hX fl_12_136 rfl rfl hx29 (dk D_X12_next 104 rfl) (fun qx29 => ?_)
        refine r_aloadn (pc := 214) hX 0 rfl (dk D_X12_next 105 rfl) ?_
        obtain ⟨x30, hx30, h⟩ := bd_some h
        refine r_getI (pc := 215) hX fl_12_133 rfl rfl hx30 (dk D_X12_next 106 rfl) (fun qx30 => ?_)
        refine r_isub (pc := 218) hX (dk D_X12_next 107 rfl) ?_
        refine r_iconst (pc := 219) hX (dk D_X12_next 108 rfl) ?_
        obtain ⟨y31, hb, h⟩ := bd_some h
        have hj : R32 y31 → At E X cX12_next 1 "TollsBackModel" (0, 0) 230 [] [(0, y31), (2, x27)] μ28 := by
          intro qy31
          clear hb
          obtain ⟨μ32, hμ32, h⟩ := bd_some h
          refine r_putI (pc := 230) hX fl_12_143 rfl rfl qy31 trivial hμ32 (dk D_X12_next 113 rfl) ?_
          refine r_goto (pc := 233) hX 270 rfl (dk D_X12_next 114 rfl) ?_
          cases h
          exact r_return (pc := 270) hX hM ⟨by decide, by decide⟩ (dk D_X12_next 132 rfl)
        clear h
        have h := hb
        clear hb
        refine r_icmp_le (pc := 220) hX (R32_w _) (R32_lit rfl) 228 rfl (dk D_X12_next 109 rfl) (fun hc => ?_) (fun hc => ?_)
        · rw [if_neg hc] at h
          refine r_bipush (pc := 228) hX rfl (dk D_X12_next 112 rfl) ?_
          replace h := Option.some.inj h
          subst y31
          refine r_sub (lv' := []) [] rfl ?_
          exact hj (R32_lit rfl)
        · rw [if_pos hc] at h
          refine r_bipush (pc := 223) hX rfl (dk D_X12_next 110 rfl) ?_
          refine r_goto (pc := 225) hX 230 rfl (dk D_X12_next 111 rfl) ?_
          replace h := Option.some.inj h
          subst y31
          refine r_sub (lv' := []) [] rfl ?_
          exact hj (R32_lit rfl)
    · rw [if_neg hc] at h
      refine L_M_next_L89 hX hM hRm ?_ FU x3 μ13 h
      intro x33 μ34  h
      refine r_aloadn (pc := 116) hX 0 rfl (dk D_X12_next 55 rfl) ?_
      refine r_aloadn (pc := 117) hX 0 rfl (dk D_X12_next 56 rfl) ?_
      obtain ⟨_, hi, h⟩ := bd_some h
      obtain ⟨x35, μ36, hx35, h⟩ := bd2_some h
      refine r_invV0 (As := []) (pc := 118) hX ml_12_150 (L_M_keyAt hx35) (isk_u hi) (Rm_of hRm (by decide) ⟨by decide, by decide⟩) (by decide) rfl (Nat.le_of_ble_eq_true rfl) rfl (dk D_X12_next 57 rfl) (fun qx35 => ?_)
      obtain ⟨μ37, hμ37, h⟩ := bd_some h
      refine r_putI (pc := 121) hX fl_12_143 rfl rfl qx35 trivial hμ37 (dk D_X12_next 58 rfl) ?_
      refine r_goto (pc := 124) hX 270 rfl (dk D_X12_next 59 rfl) ?_
      cases h
      exact r_return (pc := 270) hX hM ⟨by decide, by decide⟩ (dk D_X12_next 132 rfl)
  · rw [if_neg hc] at h
    refine r_aloadn (pc := 66) hX 0 rfl (dk D_X12_next 32 rfl) ?_
    refine r_bipush (pc := 67) hX rfl (dk D_X12_next 33 rfl) ?_
    obtain ⟨μ38, hμ38, h⟩ := bd_some h
    refine r_putI (pc := 69) hX fl_12_143 rfl rfl (R32_lit rfl) trivial hμ38 (dk D_X12_next 34 rfl) ?_
    refine r_goto (pc := 72) hX 270 rfl (dk D_X12_next 35 rfl) ?_
    cases h
    exact r_return (pc := 270) hX hM ⟨by decide, by decide⟩ (dk D_X12_next 132 rfl)
set_option maxRecDepth 100000 in
set_option maxHeartbeats 4000000 in
theorem L_M_fails {E : EX} {l : Launch} {a0 a1 res : Int} {μ μ' : Mem} (q_a1 : R32 a1) (h : M_fails a0 a1 μ = some (res, μ')) : Ok E l 1 yX12_fails (.code yX12_fails cX12_fails 2 none) 0 0 [(2, a0), (0, a1)] μ none μ' := by
  refine Ok.of (own := "TollsBackModel") [(0, 2, a0), (1, 0, a1)] (by decide +kernel) rfl (Nat.le_of_ble_eq_true rfl) rfl ?_
  intro X hL hRm hin hX hM
  unfold M_fails at h
  subst hL
  refine r_aloadn (pc := 0) hX 0 rfl (dk D_X12_fails 0 rfl) ?_
  obtain ⟨x1, hx1, h⟩ := bd_some h
  refine r_getI (pc := 1) hX fl_12_159 rfl rfl hx1 (dk D_X12_fails 1 rfl) (fun qx1 => ?_)
  refine r_if_eq (pc := 4) hX qx1 8 rfl (dk D_X12_fails 2 rfl) (fun hc => ?_) (fun hc => ?_)
  · rw [if_pos hc] at h
    refine r_aloadn (pc := 8) hX 0 rfl (dk D_X12_fails 4 rfl) ?_
    refine r_aloadn (pc := 9) hX 0 rfl (dk D_X12_fails 5 rfl) ?_
    obtain ⟨x2, hx2, h⟩ := bd_some h
    refine r_getI (pc := 10) hX fl_12_143 rfl rfl hx2 (dk D_X12_fails 6 rfl) (fun qx2 => ?_)
    refine r_bipush (pc := 13) hX rfl (dk D_X12_fails 7 rfl) ?_
    obtain ⟨y3, hb, h⟩ := bd_some h
    have hj : R32 y3 → At E X cX12_fails 2 "TollsBackModel" (0, 0) 23 [(0, 2, a0)] [(0, y3), (2, a0)] μ := by
      intro qy3
      clear hb
      obtain ⟨μ4, hμ4, h⟩ := bd_some h
      refine r_putI (pc := 23) hX fl_12_159 rfl rfl qy3 trivial hμ4 (dk D_X12_fails 12 rfl) ?_
      refine r_aloadn (pc := 26) hX 0 rfl (dk D_X12_fails 13 rfl) ?_
      refine r_aloadn (pc := 27) hX 0 rfl (dk D_X12_fails 14 rfl) ?_
      obtain ⟨x5, hx5, h⟩ := bd_some h
      refine r_getI (pc := 28) hX fl_12_133 rfl rfl hx5 (dk D_X12_fails 15 rfl) (fun qx5 => ?_)
      obtain ⟨μ6, hμ6, h⟩ := bd_some h
      refine r_putI (pc := 31) hX fl_12_162 rfl rfl qx5 trivial hμ6 (dk D_X12_fails 16 rfl) ?_
      cases h
      exact r_return (pc := 34) hX hM ⟨by decide, by decide⟩ (dk D_X12_fails 17 rfl)
    clear h
    have h := hb
    clear hb
    refine r_icmp_ne (pc := 15) hX qx2 (R32_lit rfl) 22 rfl (dk D_X12_fails 8 rfl) (fun hc => ?_) (fun hc => ?_)
    · rw [if_neg hc] at h
      refine r_iloadn (pc := 22) hX 1 rfl (dk D_X12_fails 11 rfl) ?_
      replace h := Option.some.inj h
      subst y3
      refine r_sub (lv' := [(0, 2, a0)]) [0] rfl ?_
      exact hj q_a1
    · rw [if_pos hc] at h
      refine r_iconst (pc := 18) hX (dk D_X12_fails 9 rfl) ?_
      refine r_goto (pc := 19) hX 23 rfl (dk D_X12_fails 10 rfl) ?_
      replace h := Option.some.inj h
      subst y3
      refine r_sub (lv' := [(0, 2, a0)]) [0] rfl ?_
      exact hj (R32_lit rfl)
  · rw [if_neg hc] at h
    cases h
    exact r_return (pc := 7) hX hM ⟨by decide, by decide⟩ (dk D_X12_fails 3 rfl)
set_option maxRecDepth 100000 in
set_option maxHeartbeats 4000000 in
theorem L_M_is {E : EX} {l : Launch} {a0 a1 res : Int} {μ μ' : Mem} (q_a1 : R32 a1) (h : M_is a0 a1 μ = some (res, μ')) : Ok E l 1 yX12_is (.code yX12_is cX12_is 2 (some .boolean)) 0 0 [(2, a0), (0, a1)] μ (some (0, res)) μ' := by
  refine Ok.of (own := "TollsBackModel") [(0, 2, a0), (1, 0, a1)] (by decide +kernel) rfl (Nat.le_of_ble_eq_true rfl) rfl ?_
  intro X hL hRm hin hX hM
  unfold M_is at h
  subst hL
  refine r_aloadn (pc := 0) hX 0 rfl (dk D_X12_is 0 rfl) ?_
  obtain ⟨x1, hx1, h⟩ := bd_some h
  refine r_getI (pc := 1) hX fl_12_159 rfl rfl hx1 (dk D_X12_is 1 rfl) (fun qx1 => ?_)
  refine r_if_ne (pc := 4) hX qx1 19 rfl (dk D_X12_is 2 rfl) (fun hc => ?_) (fun hc => ?_)
  · rw [if_neg hc] at h
    refine r_iconst (pc := 19) hX (dk D_X12_is 9 rfl) ?_
    cases h
    exact r_zreturn (pc := 20) hX (R32_lit rfl) hM (Or.inl rfl) ⟨by decide, by decide⟩ (dk D_X12_is 10 rfl)
  · rw [if_pos hc] at h
    refine r_aloadn (pc := 7) hX 0 rfl (dk D_X12_is 3 rfl) ?_
    obtain ⟨x2, hx2, h⟩ := bd_some h
    refine r_getI (pc := 8) hX fl_12_143 rfl rfl hx2 (dk D_X12_is 4 rfl) (fun qx2 => ?_)
    refine r_iloadn (pc := 11) hX 1 rfl (dk D_X12_is 5 rfl) ?_
    refine r_icmp_ne (pc := 12) hX qx2 q_a1 19 rfl (dk D_X12_is 6 rfl) (fun hc => ?_) (fun hc => ?_)
    · rw [if_neg hc] at h
      refine r_iconst (pc := 19) hX (dk D_X12_is 9 rfl) ?_
      cases h
      exact r_zreturn (pc := 20) hX (R32_lit rfl) hM (Or.inl rfl) ⟨by decide, by decide⟩ (dk D_X12_is 10 rfl)
    · rw [if_pos hc] at h
      refine r_iconst (pc := 15) hX (dk D_X12_is 7 rfl) ?_
      refine r_goto (pc := 16) hX 20 rfl (dk D_X12_is 8 rfl) ?_
      cases h
      exact r_zreturn (pc := 20) hX (R32_lit rfl) hM (Or.inr rfl) ⟨by decide, by decide⟩ (dk D_X12_is 10 rfl)
set_option maxRecDepth 100000 in
set_option maxHeartbeats 4000000 in
theorem L_M_eats {E : EX} {l : Launch} {a0 a1 res : Int} {μ μ' : Mem} (q_a1 : R32 a1) (h : M_eats a0 a1 μ = some (res, μ')) : Ok E l 7 yX12_eats (.code yX12_eats cX12_eats 2 (some .boolean)) 0 0 [(2, a0), (0, a1)] μ (some (0, res)) μ' := by
  refine Ok.of (own := "TollsBackModel") [(0, 2, a0), (1, 0, a1)] (by decide +kernel) rfl (Nat.le_of_ble_eq_true rfl) rfl ?_
  intro X hL hRm hin hX hM
  unfold M_eats at h
  subst hL
  refine r_aloadn (pc := 0) hX 0 rfl (dk D_X12_eats 0 rfl) ?_
  refine r_iloadn (pc := 1) hX 1 rfl (dk D_X12_eats 1 rfl) ?_
  obtain ⟨_, hi, h⟩ := bd_some h
  obtain ⟨x1, μ2, hx1, h⟩ := bd2_some h
  refine r_invV0 (As := [(0, a1)]) (pc := 2) hX ml_12_165 (L_M_is q_a1 hx1) (isk_u hi) (Rm_of hRm (by decide) ⟨by decide, by decide⟩) (by decide) rfl (Nat.le_of_ble_eq_true rfl) rfl (dk D_X12_eats 2 rfl) (fun qx1 => ?_)
  refine r_if_ne (pc := 5) hX qx1 10 rfl (dk D_X12_eats 3 rfl) (fun hc => ?_) (fun hc => ?_)
  · rw [if_neg hc] at h
    refine r_aloadn (pc := 10) hX 0 rfl (dk D_X12_eats 6 rfl) ?_
    obtain ⟨_, hi, h⟩ := bd_some h
    obtain ⟨x3, μ4, hx3, h⟩ := bd2_some h
    refine r_invV0 (As := []) (pc := 11) hX ml_12_168 (L_M_next hx3) (isk_u hi) (Rm_of hRm (by decide) ⟨by decide, by decide⟩) (by decide) rfl (Nat.le_of_ble_eq_true rfl) rfl (dk D_X12_eats 7 rfl) (fun _ => ?_)
    refine r_iconst (pc := 14) hX (dk D_X12_eats 8 rfl) ?_
    cases h
    exact r_zreturn (pc := 15) hX (R32_lit rfl) hM (Or.inr rfl) ⟨by decide, by decide⟩ (dk D_X12_eats 9 rfl)
  · rw [if_pos hc] at h
    refine r_iconst (pc := 8) hX (dk D_X12_eats 4 rfl) ?_
    cases h
    exact r_zreturn (pc := 9) hX (R32_lit rfl) hM (Or.inl rfl) ⟨by decide, by decide⟩ (dk D_X12_eats 5 rfl)
set_option maxRecDepth 100000 in
set_option maxHeartbeats 4000000 in
theorem L_M_must {E : EX} {l : Launch} {a0 a1 res : Int} {μ μ' : Mem} (q_a1 : R32 a1) (h : M_must a0 a1 μ = some (res, μ')) : Ok E l 8 yX12_must (.code yX12_must cX12_must 2 none) 0 0 [(2, a0), (0, a1)] μ none μ' := by
  refine Ok.of (own := "TollsBackModel") [(0, 2, a0), (1, 0, a1)] (by decide +kernel) rfl (Nat.le_of_ble_eq_true rfl) rfl ?_
  intro X hL hRm hin hX hM
  unfold M_must at h
  subst hL
  refine r_aloadn (pc := 0) hX 0 rfl (dk D_X12_must 0 rfl) ?_
  refine r_iloadn (pc := 1) hX 1 rfl (dk D_X12_must 1 rfl) ?_
  obtain ⟨_, hi, h⟩ := bd_some h
  obtain ⟨x1, μ2, hx1, h⟩ := bd2_some h
  refine r_invV0 (As := [(0, a1)]) (pc := 2) hX ml_12_171 (L_M_eats q_a1 hx1) (isk_u hi) (Rm_of hRm (by decide) ⟨by decide, by decide⟩) (by decide) rfl (Nat.le_of_ble_eq_true rfl) rfl (dk D_X12_must 2 rfl) (fun qx1 => ?_)
  refine r_if_ne (pc := 5) hX qx1 13 rfl (dk D_X12_must 3 rfl) (fun hc => ?_) (fun hc => ?_)
  · rw [if_neg hc] at h
    cases h
    exact r_return (pc := 13) hX hM ⟨by decide, by decide⟩ (dk D_X12_must 7 rfl)
  · rw [if_pos hc] at h
    refine r_aloadn (pc := 8) hX 0 rfl (dk D_X12_must 4 rfl) ?_
    refine r_iconst (pc := 9) hX (dk D_X12_must 5 rfl) ?_
    obtain ⟨_, hi, h⟩ := bd_some h
    obtain ⟨x3, μ4, hx3, h⟩ := bd2_some h
    refine r_invV0 (As := [(0, 2)]) (pc := 10) hX ml_12_174 (L_M_fails (R32_lit rfl) hx3) (isk_u hi) (Rm_of hRm (by decide) ⟨by decide, by decide⟩) (by decide) rfl (Nat.le_of_ble_eq_true rfl) rfl (dk D_X12_must 6 rfl) (fun _ => ?_)
    cases h
    exact r_return (pc := 13) hX hM ⟨by decide, by decide⟩ (dk D_X12_must 7 rfl)
set_option maxRecDepth 100000 in
set_option maxHeartbeats 4000000 in
theorem L_M_takes {E : EX} {l : Launch} {a0 a1 a2 res : Int} {μ μ' : Mem} (q_a1 : R32 a1) (q_a2 : R32 a2) (h : M_takes a0 a1 a2 μ = some (res, μ')) : Ok E l 7 yX12_takes (.code yX12_takes cX12_takes 4 (some .int)) 0 0 [(2, a0), (0, a1), (0, a2)] μ (some (0, res)) μ' := by
  refine Ok.of (own := "TollsBackModel") [(0, 2, a0), (1, 0, a1), (2, 0, a2)] (by decide +kernel) rfl (Nat.le_of_ble_eq_true rfl) rfl ?_
  intro X hL hRm hin hX hM
  unfold M_takes at h
  subst hL
  refine r_aloadn (pc := 0) hX 0 rfl (dk D_X12_takes 0 rfl) ?_
  refine r_bipush (pc := 1) hX rfl (dk D_X12_takes 1 rfl) ?_
  obtain ⟨_, hi, h⟩ := bd_some h
  obtain ⟨x1, μ2, hx1, h⟩ := bd2_some h
  refine r_invV0 (As := [(0, 10)]) (pc := 3) hX ml_12_165 (L_M_is (R32_lit rfl) hx1) (isk_u hi) (Rm_of hRm (by decide) ⟨by decide, by decide⟩) (by decide) rfl (Nat.le_of_ble_eq_true rfl) rfl (dk D_X12_takes 2 rfl) (fun qx1 => ?_)
  obtain ⟨μ3, hb, h⟩ := bd_some h
  have hj : At E X cX12_takes 4 "TollsBackModel" (0, 0) 37 [(0, 2, a0)] [] μ3 := by
    clear hb
    refine r_aloadn (pc := 37) hX 0 rfl (dk D_X12_takes 20 rfl) ?_
    obtain ⟨x11, hx11, h⟩ := bd_some h
    refine r_getI (pc := 38) hX fl_12_156 rfl rfl hx11 (dk D_X12_takes 21 rfl) (fun qx11 => ?_)
    refine r_istoren (lv' := [(3, 0, x11), (0, 2, a0)]) (pc := 41) hX (by decide) rfl (dk D_X12_takes 22 rfl) ?_
    refine r_aloadn (pc := 42) hX 1 rfl (dk D_X12_takes 23 rfl) ?_
    obtain ⟨x12, hx12, h⟩ := bd_some h
    refine r_getI (pc := 43) hX fl_12_159 rfl rfl hx12 (dk D_X12_takes 24 rfl) (fun qx12 => ?_)
    refine r_if_ne (pc := 46) hX qx12 53 rfl (dk D_X12_takes 25 rfl) (fun hc => ?_) (fun hc => ?_)
    · rw [if_neg hc] at h
      refine r_iloadn (pc := 53) hX 0 rfl (dk D_X12_takes 28 rfl) ?_
      cases h
      exact r_ireturn (pc := 54) hX qx11 hM ⟨by decide, by decide⟩ (dk D_X12_takes 29 rfl)
    · rw [if_pos hc] at h
      refine r_aloadn (pc := 49) hX 1 rfl (dk D_X12_takes 26 rfl) ?_
      obtain ⟨_, hi, h⟩ := bd_some h
      obtain ⟨x13, μ14, hx13, h⟩ := bd2_some h
      refine r_invV0 (As := []) (pc := 50) hX ml_12_168 (L_M_next hx13) (isk_u hi) (Rm_of hRm (by decide) ⟨by decide, by decide⟩) (by decide) rfl (Nat.le_of_ble_eq_true rfl) rfl (dk D_X12_takes 27 rfl) (fun _ => ?_)
      refine r_iloadn (pc := 53) hX 0 rfl (dk D_X12_takes 28 rfl) ?_
      cases h
      exact r_ireturn (pc := 54) hX qx11 hM ⟨by decide, by decide⟩ (dk D_X12_takes 29 rfl)
  clear h
  have h := hb
  clear hb
  refine r_if_ne (pc := 6) hX qx1 17 rfl (dk D_X12_takes 3 rfl) (fun hc => ?_) (fun hc => ?_)
  · rw [if_neg hc] at h
    refine r_aloadn (pc := 17) hX 0 rfl (dk D_X12_takes 8 rfl) ?_
    obtain ⟨x4, hx4, h⟩ := bd_some h
    refine r_getI (pc := 18) hX fl_12_156 rfl rfl hx4 (dk D_X12_takes 9 rfl) (fun qx4 => ?_)
    refine r_i2l (pc := 21) hX qx4 (dk D_X12_takes 10 rfl) ?_
    refine r_iloadn (pc := 22) hX 1 rfl (dk D_X12_takes 11 rfl) ?_
    refine r_i2l (pc := 23) hX q_a1 (dk D_X12_takes 12 rfl) ?_
    refine r_iloadn (pc := 24) hX 2 rfl (dk D_X12_takes 13 rfl) ?_
    refine r_i2l (pc := 25) hX q_a2 (dk D_X12_takes 14 rfl) ?_
    obtain ⟨x5, μ6, hx5, h⟩ := bd2_some h
    refine r_invS0 (As := [(1, x4), (1, a1), (1, a2)]) (pc := 26) hX ml_12_178 (L_M_within (R64_of qx4) (R64_of q_a1) (R64_of q_a2) hx5) (Rm_of hRm (by decide) ⟨by decide, by decide⟩) (by decide) rfl (Nat.le_of_ble_eq_true rfl) rfl (dk D_X12_takes 15 rfl) (fun qx5 => ?_)
    refine r_if_ne (pc := 29) hX qx5 37 rfl (dk D_X12_takes 16 rfl) (fun hc => ?_) (fun hc => ?_)
    · rw [if_neg hc] at h
      replace h := Option.some.inj h
      subst μ3
      refine r_sub (lv' := [(0, 2, a0)]) [0] rfl ?_
      exact hj
    · rw [if_pos hc] at h
      refine r_aloadn (pc := 32) hX 0 rfl (dk D_X12_takes 17 rfl) ?_
      refine r_iconst (pc := 33) hX (dk D_X12_takes 18 rfl) ?_
      obtain ⟨_, hi, h⟩ := bd_some h
      obtain ⟨x7, μ8, hx7, h⟩ := bd2_some h
      refine r_invV0 (As := [(0, 3)]) (pc := 34) hX ml_12_174 (L_M_fails (R32_lit rfl) hx7) (isk_u hi) (Rm_of hRm (by decide) ⟨by decide, by decide⟩) (by decide) rfl (Nat.le_of_ble_eq_true rfl) rfl (dk D_X12_takes 19 rfl) (fun _ => ?_)
      replace h := Option.some.inj h
      subst μ3
      refine r_sub (lv' := [(0, 2, a0)]) [0] rfl ?_
      exact hj
  · rw [if_pos hc] at h
    refine r_aloadn (pc := 9) hX 0 rfl (dk D_X12_takes 4 rfl) ?_
    refine r_iconst (pc := 10) hX (dk D_X12_takes 5 rfl) ?_
    obtain ⟨_, hi, h⟩ := bd_some h
    obtain ⟨x9, μ10, hx9, h⟩ := bd2_some h
    refine r_invV0 (As := [(0, 2)]) (pc := 11) hX ml_12_174 (L_M_fails (R32_lit rfl) hx9) (isk_u hi) (Rm_of hRm (by decide) ⟨by decide, by decide⟩) (by decide) rfl (Nat.le_of_ble_eq_true rfl) rfl (dk D_X12_takes 6 rfl) (fun _ => ?_)
    refine r_goto (pc := 14) hX 37 rfl (dk D_X12_takes 7 rfl) ?_
    replace h := Option.some.inj h
    subst μ3
    refine r_sub (lv' := [(0, 2, a0)]) [0] rfl ?_
    exact hj
set_option maxRecDepth 100000 in
set_option maxHeartbeats 4000000 in
theorem L_M_readTowns {E : EX} {l : Launch} {a0 res : Int} {μ μ' : Mem}  (h : M_readTowns a0 μ = some (res, μ')) : Ok E l 8 yX12_readTowns (.code yX12_readTowns cX12_readTowns 1 none) 0 0 [(2, a0)] μ none μ' := by
  refine Ok.of (own := "TollsBackModel") [(0, 2, a0)] (by decide +kernel) rfl (Nat.le_of_ble_eq_true rfl) rfl ?_
  intro X hL hRm hin hX hM
  unfold M_readTowns at h
  subst hL
  refine r_aloadn (pc := 0) hX 0 rfl (dk D_X12_readTowns 0 rfl) ?_
  obtain ⟨x1, hx1, h⟩ := bd_some h
  refine r_getR (pc := 1) hX fl_12_24 rfl hx1 (dk D_X12_readTowns 1 rfl) ?_
  refine r_iconst (pc := 4) hX (dk D_X12_readTowns 2 rfl) ?_
  obtain ⟨x2, hx2, h⟩ := bd_some h
  refine r_iald (pc := 5) hX (R32_lit rfl) hx2 (dk D_X12_readTowns 3 rfl) (fun qx2 => ?_)
  obtain ⟨μ3, hb, h⟩ := bd_some h
  have hj : At E X cX12_readTowns 1 "TollsBackModel" (0, 0) 14 [(0, 2, a0)] [] μ3 := by
    clear hb
    refine r_aloadn (pc := 14) hX 0 rfl (dk D_X12_readTowns 8 rfl) ?_
    obtain ⟨x6, hx6, h⟩ := bd_some h
    refine r_getI (pc := 15) hX fl_12_159 rfl rfl hx6 (dk D_X12_readTowns 9 rfl) (fun qx6 => ?_)
    refine r_if_eq (pc := 18) hX qx6 22 rfl (dk D_X12_readTowns 10 rfl) (fun hc => ?_) (fun hc => ?_)
    · rw [if_pos hc] at h
      refine r_aloadn (pc := 22) hX 0 rfl (dk D_X12_readTowns 12 rfl) ?_
      obtain ⟨_, hi, h⟩ := bd_some h
      obtain ⟨x7, μ8, hx7, h⟩ := bd2_some h
      refine r_invV0 (As := []) (pc := 23) hX ml_12_168 (L_M_next hx7) (isk_u hi) (Rm_of hRm (by decide) ⟨by decide, by decide⟩) (by decide) rfl (Nat.le_of_ble_eq_true rfl) rfl (dk D_X12_readTowns 13 rfl) (fun _ => ?_)
      refine r_aloadn (pc := 26) hX 0 rfl (dk D_X12_readTowns 14 rfl) ?_
      obtain ⟨x9, hx9, h⟩ := bd_some h
      refine r_getR (pc := 27) hX fl_12_24 rfl hx9 (dk D_X12_readTowns 15 rfl) ?_
      refine r_iconst (pc := 30) hX (dk D_X12_readTowns 16 rfl) ?_
      refine r_aloadn (pc := 31) hX 0 rfl (dk D_X12_readTowns 17 rfl) ?_
      refine r_iconst (pc := 32) hX (dk D_X12_readTowns 18 rfl) ?_
      refine r_bipush (pc := 33) hX rfl (dk D_X12_readTowns 19 rfl) ?_
      obtain ⟨_, hi, h⟩ := bd_some h
      obtain ⟨x10, μ11, hx10, h⟩ := bd2_some h
      refine r_invV0 (As := [(0, 2), (0, 12)]) (pc := 35) hX ml_12_182 (L_M_takes (R32_lit rfl) (R32_lit rfl) hx10) (isk_u hi) (Rm_of hRm (by decide) ⟨by decide, by decide⟩) (by decide) rfl (Nat.le_of_ble_eq_true rfl) rfl (dk D_X12_readTowns 20 rfl) (fun qx10 => ?_)
      obtain ⟨μ12, hμ12, h⟩ := bd_some h
      refine r_iast (pc := 38) hX (R32_lit rfl) qx10 hμ12 (dk D_X12_readTowns 21 rfl) ?_
      cases h
      exact r_return (pc := 39) hX hM ⟨by decide, by decide⟩ (dk D_X12_readTowns 22 rfl)
    · rw [if_neg hc] at h
      cases h
      exact r_return (pc := 21) hX hM ⟨by decide, by decide⟩ (dk D_X12_readTowns 11 rfl)
  clear h
  have h := hb
  clear hb
  refine r_if_le (pc := 6) hX qx2 14 rfl (dk D_X12_readTowns 4 rfl) (fun hc => ?_) (fun hc => ?_)
  · rw [if_neg hc] at h
    replace h := Option.some.inj h
    subst μ3
    exact hj
  · rw [if_pos hc] at h
    refine r_aloadn (pc := 9) hX 0 rfl (dk D_X12_readTowns 5 rfl) ?_
    refine r_iconst (pc := 10) hX (dk D_X12_readTowns 6 rfl) ?_
    obtain ⟨_, hi, h⟩ := bd_some h
    obtain ⟨x4, μ5, hx4, h⟩ := bd2_some h
    refine r_invV0 (As := [(0, 4)]) (pc := 11) hX ml_12_174 (L_M_fails (R32_lit rfl) hx4) (isk_u hi) (Rm_of hRm (by decide) ⟨by decide, by decide⟩) (by decide) rfl (Nat.le_of_ble_eq_true rfl) rfl (dk D_X12_readTowns 7 rfl) (fun _ => ?_)
    replace h := Option.some.inj h
    subst μ3
    exact hj
set_option maxRecDepth 100000 in
set_option maxHeartbeats 4000000 in
theorem L_M_readSummer {E : EX} {l : Launch} {a0 res : Int} {μ μ' : Mem}  (h : M_readSummer a0 μ = some (res, μ')) : Ok E l 9 yX12_readSummer (.code yX12_readSummer cX12_readSummer 3 none) 0 0 [(2, a0)] μ none μ' := by
  refine Ok.of (own := "TollsBackModel") [(0, 2, a0)] (by decide +kernel) rfl (Nat.le_of_ble_eq_true rfl) rfl ?_
  intro X hL hRm hin hX hM
  unfold M_readSummer at h
  subst hL
  refine r_aloadn (pc := 0) hX 0 rfl (dk D_X12_readSummer 0 rfl) ?_
  obtain ⟨_, hi, h⟩ := bd_some h
  obtain ⟨x1, μ2, hx1, h⟩ := bd2_some h
  refine r_invV0 (As := []) (pc := 1) hX ml_12_168 (L_M_next hx1) (isk_u hi) (Rm_of hRm (by decide) ⟨by decide, by decide⟩) (by decide) rfl (Nat.le_of_ble_eq_true rfl) rfl (dk D_X12_readSummer 1 rfl) (fun _ => ?_)
  refine r_aloadn (pc := 4) hX 0 rfl (dk D_X12_readSummer 2 rfl) ?_
  refine r_iconst (pc := 5) hX (dk D_X12_readSummer 3 rfl) ?_
  refine r_sipush (pc := 6) hX rfl (dk D_X12_readSummer 4 rfl) ?_
  obtain ⟨_, hi, h⟩ := bd_some h
  obtain ⟨x3, μ4, hx3, h⟩ := bd2_some h
  refine r_invV0 (As := [(0, 0), (0, 359)]) (pc := 9) hX ml_12_182 (L_M_takes (R32_lit rfl) (R32_lit rfl) hx3) (isk_u hi) (Rm_of hRm (by decide) ⟨by decide, by decide⟩) (by decide) rfl (Nat.le_of_ble_eq_true rfl) rfl (dk D_X12_readSummer 5 rfl) (fun qx3 => ?_)
  refine r_istoren (lv' := [(1, 0, x3), (0, 2, a0)]) (pc := 12) hX (by decide) rfl (dk D_X12_readSummer 6 rfl) ?_
  refine r_aloadn (pc := 13) hX 1 rfl (dk D_X12_readSummer 7 rfl) ?_
  refine r_iconst (pc := 14) hX (dk D_X12_readSummer 8 rfl) ?_
  obtain ⟨_, hi, h⟩ := bd_some h
  obtain ⟨x5, μ6, hx5, h⟩ := bd2_some h
  refine r_invV0 (As := [(0, 5)]) (pc := 15) hX ml_12_186 (L_M_must (R32_lit rfl) hx5) (isk_u hi) (Rm_of hRm (by decide) ⟨by decide, by decide⟩) (by decide) rfl (Nat.le_of_ble_eq_true rfl) rfl (dk D_X12_readSummer 9 rfl) (fun _ => ?_)
  refine r_aloadn (pc := 18) hX 1 rfl (dk D_X12_readSummer 10 rfl) ?_
  refine r_iloadn (pc := 19) hX 0 rfl (dk D_X12_readSummer 11 rfl) ?_
  refine r_sipush (pc := 20) hX rfl (dk D_X12_readSummer 12 rfl) ?_
  obtain ⟨_, hi, h⟩ := bd_some h
  obtain ⟨x7, μ8, hx7, h⟩ := bd2_some h
  refine r_invV0 (As := [(0, x3), (0, 359)]) (pc := 23) hX ml_12_182 (L_M_takes qx3 (R32_lit rfl) hx7) (isk_u hi) (Rm_of hRm (by decide) ⟨by decide, by decide⟩) (by decide) rfl (Nat.le_of_ble_eq_true rfl) rfl (dk D_X12_readSummer 13 rfl) (fun qx7 => ?_)
  refine r_istoren (lv' := [(2, 0, x7), (1, 0, x3), (0, 2, a0)]) (pc := 26) hX (by decide) rfl (dk D_X12_readSummer 14 rfl) ?_
  refine r_aloadn (pc := 27) hX 2 rfl (dk D_X12_readSummer 15 rfl) ?_
  obtain ⟨x9, hx9, h⟩ := bd_some h
  refine r_getI (pc := 28) hX fl_12_159 rfl rfl hx9 (dk D_X12_readSummer 16 rfl) (fun qx9 => ?_)
  refine r_if_eq (pc := 31) hX qx9 35 rfl (dk D_X12_readSummer 17 rfl) (fun hc => ?_) (fun hc => ?_)
  · rw [if_pos hc] at h
    refine r_aloadn (pc := 35) hX 2 rfl (dk D_X12_readSummer 19 rfl) ?_
    obtain ⟨x10, hx10, h⟩ := bd_some h
    refine r_getR (pc := 36) hX fl_12_24 rfl hx10 (dk D_X12_readSummer 20 rfl) ?_
    refine r_iconst (pc := 39) hX (dk D_X12_readSummer 21 rfl) ?_
    refine r_iloadn (pc := 40) hX 1 rfl (dk D_X12_readSummer 22 rfl) ?_
    obtain ⟨μ11, hμ11, h⟩ := bd_some h
    refine r_iast (pc := 41) hX (R32_lit rfl) qx3 hμ11 (dk D_X12_readSummer 23 rfl) ?_
    refine r_aloadn (pc := 42) hX 2 rfl (dk D_X12_readSummer 24 rfl) ?_
    obtain ⟨x12, hx12, h⟩ := bd_some h
    refine r_getR (pc := 43) hX fl_12_24 rfl hx12 (dk D_X12_readSummer 25 rfl) ?_
    refine r_iconst (pc := 46) hX (dk D_X12_readSummer 26 rfl) ?_
    refine r_iloadn (pc := 47) hX 0 rfl (dk D_X12_readSummer 27 rfl) ?_
    obtain ⟨μ13, hμ13, h⟩ := bd_some h
    refine r_iast (pc := 48) hX (R32_lit rfl) qx7 hμ13 (dk D_X12_readSummer 28 rfl) ?_
    cases h
    exact r_return (pc := 49) hX hM ⟨by decide, by decide⟩ (dk D_X12_readSummer 29 rfl)
  · rw [if_neg hc] at h
    cases h
    exact r_return (pc := 34) hX hM ⟨by decide, by decide⟩ (dk D_X12_readSummer 18 rfl)
set_option maxRecDepth 100000 in
set_option maxHeartbeats 4000000 in
theorem L_M_readRoad {E : EX} {l : Launch} {a0 res : Int} {μ μ' : Mem}  (h : M_readRoad a0 μ = some (res, μ')) : Ok E l 9 yX12_readRoad (.code yX12_readRoad cX12_readRoad 7 none) 0 0 [(2, a0)] μ none μ' := by
  refine Ok.of (own := "TollsBackModel") [(0, 2, a0)] (by decide +kernel) rfl (Nat.le_of_ble_eq_true rfl) rfl ?_
  intro X hL hRm hin hX hM
  unfold M_readRoad at h
  subst hL
  refine r_aloadn (pc := 0) hX 0 rfl (dk D_X12_readRoad 0 rfl) ?_
  obtain ⟨x1, hx1, h⟩ := bd_some h
  refine r_getR (pc := 1) hX fl_12_24 rfl hx1 (dk D_X12_readRoad 1 rfl) ?_
  refine r_bipush (pc := 4) hX rfl (dk D_X12_readRoad 2 rfl) ?_
  obtain ⟨x2, hx2, h⟩ := bd_some h
  refine r_iald (pc := 6) hX (R32_lit rfl) hx2 (dk D_X12_readRoad 3 rfl) (fun qx2 => ?_)
  refine r_istoren (lv' := [(1, 0, x2), (0, 2, a0)]) (pc := 7) hX (by decide) rfl (dk D_X12_readRoad 4 rfl) ?_
  refine r_aloadn (pc := 8) hX 1 rfl (dk D_X12_readRoad 5 rfl) ?_
  obtain ⟨x3, hx3, h⟩ := bd_some h
  refine r_getR (pc := 9) hX fl_12_24 rfl hx3 (dk D_X12_readRoad 6 rfl) ?_
  refine r_iconst (pc := 12) hX (dk D_X12_readRoad 7 rfl) ?_
  obtain ⟨x4, hx4, h⟩ := bd_some h
  refine r_iald (pc := 13) hX (R32_lit rfl) hx4 (dk D_X12_readRoad 8 rfl) (fun qx4 => ?_)
  obtain ⟨μ5, hb, h⟩ := bd_some h
  have hj : At E X cX12_readRoad 7 "TollsBackModel" (0, 0) 36 [(0, 2, a0), (1, 0, x2)] [] μ5 := by
    clear hb
    refine r_aloadn (pc := 36) hX 0 rfl (dk D_X12_readRoad 20 rfl) ?_
    obtain ⟨x10, hx10, h⟩ := bd_some h
    refine r_getI (pc := 37) hX fl_12_159 rfl rfl hx10 (dk D_X12_readRoad 21 rfl) (fun qx10 => ?_)
    refine r_if_eq (pc := 40) hX qx10 44 rfl (dk D_X12_readRoad 22 rfl) (fun hc => ?_) (fun hc => ?_)
    · rw [if_pos hc] at h
      refine r_aloadn (pc := 44) hX 0 rfl (dk D_X12_readRoad 24 rfl) ?_
      obtain ⟨_, hi, h⟩ := bd_some h
      obtain ⟨x11, μ12, hx11, h⟩ := bd2_some h
      refine r_invV0 (As := []) (pc := 45) hX ml_12_168 (L_M_next hx11) (isk_u hi) (Rm_of hRm (by decide) ⟨by decide, by decide⟩) (by decide) rfl (Nat.le_of_ble_eq_true rfl) rfl (dk D_X12_readRoad 25 rfl) (fun _ => ?_)
      refine r_aloadn (pc := 48) hX 0 rfl (dk D_X12_readRoad 26 rfl) ?_
      refine r_iconst (pc := 49) hX (dk D_X12_readRoad 27 rfl) ?_
      refine r_aloadn (pc := 50) hX 0 rfl (dk D_X12_readRoad 28 rfl) ?_
      obtain ⟨x13, hx13, h⟩ := bd_some h
      refine r_getR (pc := 51) hX fl_12_24 rfl hx13 (dk D_X12_readRoad 29 rfl) ?_
      refine r_iconst (pc := 54) hX (dk D_X12_readRoad 30 rfl) ?_
      obtain ⟨x14, hx14, h⟩ := bd_some h
      refine r_iald (pc := 55) hX (R32_lit rfl) hx14 (dk D_X12_readRoad 31 rfl) (fun qx14 => ?_)
      refine r_iconst (pc := 56) hX (dk D_X12_readRoad 32 rfl) ?_
      refine r_isub (pc := 57) hX (dk D_X12_readRoad 33 rfl) ?_
      obtain ⟨_, hi, h⟩ := bd_some h
      obtain ⟨x15, μ16, hx15, h⟩ := bd2_some h
      refine r_invV0 (As := [(0, 0), (0, (w32 (x14 - 1)))]) (pc := 58) hX ml_12_182 (L_M_takes (R32_lit rfl) (R32_w _) hx15) (isk_u hi) (Rm_of hRm (by decide) ⟨by decide, by decide⟩) (by decide) rfl (Nat.le_of_ble_eq_true rfl) rfl (dk D_X12_readRoad 34 rfl) (fun qx15 => ?_)
      refine r_istoren (lv' := [(2, 0, x15), (0, 2, a0), (1, 0, x2)]) (pc := 61) hX (by decide) rfl (dk D_X12_readRoad 35 rfl) ?_
      refine r_aloadn (pc := 62) hX 1 rfl (dk D_X12_readRoad 36 rfl) ?_
      refine r_iconst (pc := 63) hX (dk D_X12_readRoad 37 rfl) ?_
      obtain ⟨_, hi, h⟩ := bd_some h
      obtain ⟨x17, μ18, hx17, h⟩ := bd2_some h
      refine r_invV0 (As := [(0, 5)]) (pc := 64) hX ml_12_186 (L_M_must (R32_lit rfl) hx17) (isk_u hi) (Rm_of hRm (by decide) ⟨by decide, by decide⟩) (by decide) rfl (Nat.le_of_ble_eq_true rfl) rfl (dk D_X12_readRoad 38 rfl) (fun _ => ?_)
      refine r_aloadn (pc := 67) hX 1 rfl (dk D_X12_readRoad 39 rfl) ?_
      refine r_bipush (pc := 68) hX rfl (dk D_X12_readRoad 40 rfl) ?_
      obtain ⟨_, hi, h⟩ := bd_some h
      obtain ⟨x19, μ20, hx19, h⟩ := bd2_some h
      refine r_invV0 (As := [(0, 10)]) (pc := 70) hX ml_12_165 (L_M_is (R32_lit rfl) hx19) (isk_u hi) (Rm_of hRm (by decide) ⟨by decide, by decide⟩) (by decide) rfl (Nat.le_of_ble_eq_true rfl) rfl (dk D_X12_readRoad 41 rfl) (fun qx19 => ?_)
      obtain ⟨μ21, hb, h⟩ := bd_some h
      have hj : At E X cX12_readRoad 7 "TollsBackModel" (0, 0) 89 [(0, 2, a0), (1, 0, x2), (2, 0, x15)] [] μ21 := by
        clear hb
        refine r_aloadn (pc := 89) hX 0 rfl (dk D_X12_readRoad 50 rfl) ?_
        refine r_iconst (pc := 90) hX (dk D_X12_readRoad 51 rfl) ?_
        refine r_aloadn (pc := 91) hX 0 rfl (dk D_X12_readRoad 52 rfl) ?_
        obtain ⟨x25, hx25, h⟩ := bd_some h
        refine r_getR (pc := 92) hX fl_12_24 rfl hx25 (dk D_X12_readRoad 53 rfl) ?_
        refine r_iconst (pc := 95) hX (dk D_X12_readRoad 54 rfl) ?_
        obtain ⟨x26, hx26, h⟩ := bd_some h
        refine r_iald (pc := 96) hX (R32_lit rfl) hx26 (dk D_X12_readRoad 55 rfl) (fun qx26 => ?_)
        refine r_iconst (pc := 97) hX (dk D_X12_readRoad 56 rfl) ?_
        refine r_isub (pc := 98) hX (dk D_X12_readRoad 57 rfl) ?_
        obtain ⟨_, hi, h⟩ := bd_some h
        obtain ⟨x27, μ28, hx27, h⟩ := bd2_some h
        refine r_invV0 (As := [(0, 0), (0, (w32 (x26 - 1)))]) (pc := 99) hX ml_12_182 (L_M_takes (R32_lit rfl) (R32_w _) hx27) (isk_u hi) (Rm_of hRm (by decide) ⟨by decide, by decide⟩) (by decide) rfl (Nat.le_of_ble_eq_true rfl) rfl (dk D_X12_readRoad 58 rfl) (fun qx27 => ?_)
        refine r_istoren (lv' := [(3, 0, x27), (0, 2, a0), (1, 0, x2), (2, 0, x15)]) (pc := 102) hX (by decide) rfl (dk D_X12_readRoad 59 rfl) ?_
        refine r_aloadn (pc := 103) hX 1 rfl (dk D_X12_readRoad 60 rfl) ?_
        refine r_bipush (pc := 104) hX rfl (dk D_X12_readRoad 61 rfl) ?_
        obtain ⟨_, hi, h⟩ := bd_some h
        obtain ⟨x29, μ30, hx29, h⟩ := bd2_some h
        refine r_invV0 (As := [(0, 7)]) (pc := 106) hX ml_12_186 (L_M_must (R32_lit rfl) hx29) (isk_u hi) (Rm_of hRm (by decide) ⟨by decide, by decide⟩) (by decide) rfl (Nat.le_of_ble_eq_true rfl) rfl (dk D_X12_readRoad 62 rfl) (fun _ => ?_)
        refine r_aloadn (pc := 109) hX 1 rfl (dk D_X12_readRoad 63 rfl) ?_
        refine r_iconst (pc := 110) hX (dk D_X12_readRoad 64 rfl) ?_
        refine r_sipush (pc := 111) hX rfl (dk D_X12_readRoad 65 rfl) ?_
        obtain ⟨_, hi, h⟩ := bd_some h
        obtain ⟨x31, μ32, hx31, h⟩ := bd2_some h
        refine r_invV0 (As := [(0, 0), (0, 999)]) (pc := 114) hX ml_12_182 (L_M_takes (R32_lit rfl) (R32_lit rfl) hx31) (isk_u hi) (Rm_of hRm (by decide) ⟨by decide, by decide⟩) (by decide) rfl (Nat.le_of_ble_eq_true rfl) rfl (dk D_X12_readRoad 66 rfl) (fun qx31 => ?_)
        refine r_istore (lv' := [(4, 0, x31), (3, 0, x27), (0, 2, a0), (1, 0, x2), (2, 0, x15)]) (pc := 117) hX (by decide) rfl (dk D_X12_readRoad 67 rfl) ?_
        refine r_aloadn (pc := 119) hX 2 rfl (dk D_X12_readRoad 68 rfl) ?_
        refine r_iconst (pc := 120) hX (dk D_X12_readRoad 69 rfl) ?_
        obtain ⟨_, hi, h⟩ := bd_some h
        obtain ⟨x33, μ34, hx33, h⟩ := bd2_some h
        refine r_invV0 (As := [(0, 4)]) (pc := 121) hX ml_12_171 (L_M_eats (R32_lit rfl) hx33) (isk_u hi) (Rm_of hRm (by decide) ⟨by decide, by decide⟩) (by decide) rfl (Nat.le_of_ble_eq_true rfl) rfl (dk D_X12_readRoad 70 rfl) (fun qx33 => ?_)
        obtain ⟨y35, μ36, hb, h⟩ := bd2_some h
        have hj : R32 y35 → At E X cX12_readRoad 7 "TollsBackModel" (0, 0) 140 [(0, 2, a0), (1, 0, x2), (2, 0, x15), (3, 0, x27), (4, 0, x31)] [(0, y35)] μ36 := by
          intro qy35
          clear hb
          refine r_istore (lv' := [(5, 0, y35), (0, 2, a0), (1, 0, x2), (2, 0, x15), (3, 0, x27), (4, 0, x31)]) (pc := 140) hX (by decide) rfl (dk D_X12_readRoad 78 rfl) ?_
          refine r_aloadn (pc := 142) hX 1 rfl (dk D_X12_readRoad 79 rfl) ?_
          refine r_bipush (pc := 143) hX rfl (dk D_X12_readRoad 80 rfl) ?_
          obtain ⟨_, hi, h⟩ := bd_some h
          obtain ⟨x39, μ40, hx39, h⟩ := bd2_some h
          refine r_invV0 (As := [(0, 8)]) (pc := 145) hX ml_12_186 (L_M_must (R32_lit rfl) hx39) (isk_u hi) (Rm_of hRm (by decide) ⟨by decide, by decide⟩) (by decide) rfl (Nat.le_of_ble_eq_true rfl) rfl (dk D_X12_readRoad 81 rfl) (fun _ => ?_)
          refine r_aloadn (pc := 148) hX 1 rfl (dk D_X12_readRoad 82 rfl) ?_
          refine r_iconst (pc := 149) hX (dk D_X12_readRoad 83 rfl) ?_
          refine r_bipush (pc := 150) hX rfl (dk D_X12_readRoad 84 rfl) ?_
          obtain ⟨_, hi, h⟩ := bd_some h
          obtain ⟨x41, μ42, hx41, h⟩ := bd2_some h
          refine r_invV0 (As := [(0, 1), (0, 90)]) (pc := 152) hX ml_12_182 (L_M_takes (R32_lit rfl) (R32_lit rfl) hx41) (isk_u hi) (Rm_of hRm (by decide) ⟨by decide, by decide⟩) (by decide) rfl (Nat.le_of_ble_eq_true rfl) rfl (dk D_X12_readRoad 85 rfl) (fun qx41 => ?_)
          refine r_istore (lv' := [(6, 0, x41), (5, 0, y35), (0, 2, a0), (1, 0, x2), (2, 0, x15), (3, 0, x27), (4, 0, x31)]) (pc := 155) hX (by decide) rfl (dk D_X12_readRoad 86 rfl) ?_
          refine r_aloadn (pc := 157) hX 2 rfl (dk D_X12_readRoad 87 rfl) ?_
          obtain ⟨x43, hx43, h⟩ := bd_some h
          refine r_getI (pc := 158) hX fl_12_159 rfl rfl hx43 (dk D_X12_readRoad 88 rfl) (fun qx43 => ?_)
          refine r_if_eq (pc := 161) hX qx43 165 rfl (dk D_X12_readRoad 89 rfl) (fun hc => ?_) (fun hc => ?_)
          · rw [if_pos hc] at h
            refine r_aloadn (pc := 165) hX 2 rfl (dk D_X12_readRoad 91 rfl) ?_
            obtain ⟨x44, hx44, h⟩ := bd_some h
            refine r_getR (pc := 166) hX fl_12_24 rfl hx44 (dk D_X12_readRoad 92 rfl) ?_
            refine r_bipush (pc := 169) hX rfl (dk D_X12_readRoad 93 rfl) ?_
            refine r_iloadn (pc := 171) hX 3 rfl (dk D_X12_readRoad 94 rfl) ?_
            refine r_iadd (pc := 172) hX (dk D_X12_readRoad 95 rfl) ?_
            refine r_iloadn (pc := 173) hX 4 rfl (dk D_X12_readRoad 96 rfl) ?_
            obtain ⟨μ45, hμ45, h⟩ := bd_some h
            refine r_iast (pc := 174) hX (R32_w _) qx15 hμ45 (dk D_X12_readRoad 97 rfl) ?_
            refine r_aloadn (pc := 175) hX 2 rfl (dk D_X12_readRoad 98 rfl) ?_
            obtain ⟨x46, hx46, h⟩ := bd_some h
            refine r_getR (pc := 176) hX fl_12_24 rfl hx46 (dk D_X12_readRoad 99 rfl) ?_
            refine r_bipush (pc := 179) hX rfl (dk D_X12_readRoad 100 rfl) ?_
            refine r_iloadn (pc := 181) hX 3 rfl (dk D_X12_readRoad 101 rfl) ?_
            refine r_iadd (pc := 182) hX (dk D_X12_readRoad 102 rfl) ?_
            refine r_iloadn (pc := 183) hX 5 rfl (dk D_X12_readRoad 103 rfl) ?_
            obtain ⟨μ47, hμ47, h⟩ := bd_some h
            refine r_iast (pc := 184) hX (R32_w _) qx27 hμ47 (dk D_X12_readRoad 104 rfl) ?_
            refine r_aloadn (pc := 185) hX 2 rfl (dk D_X12_readRoad 105 rfl) ?_
            obtain ⟨x48, hx48, h⟩ := bd_some h
            refine r_getR (pc := 186) hX fl_12_24 rfl hx48 (dk D_X12_readRoad 106 rfl) ?_
            refine r_bipush (pc := 189) hX rfl (dk D_X12_readRoad 107 rfl) ?_
            refine r_iloadn (pc := 191) hX 3 rfl (dk D_X12_readRoad 108 rfl) ?_
            refine r_iadd (pc := 192) hX (dk D_X12_readRoad 109 rfl) ?_
            refine r_iload (pc := 193) hX 6 rfl (dk D_X12_readRoad 110 rfl) ?_
            obtain ⟨μ49, hμ49, h⟩ := bd_some h
            refine r_iast (pc := 195) hX (R32_w _) qx31 hμ49 (dk D_X12_readRoad 111 rfl) ?_
            refine r_aloadn (pc := 196) hX 2 rfl (dk D_X12_readRoad 112 rfl) ?_
            obtain ⟨x50, hx50, h⟩ := bd_some h
            refine r_getR (pc := 197) hX fl_12_24 rfl hx50 (dk D_X12_readRoad 113 rfl) ?_
            refine r_bipush (pc := 200) hX rfl (dk D_X12_readRoad 114 rfl) ?_
            refine r_iloadn (pc := 202) hX 3 rfl (dk D_X12_readRoad 115 rfl) ?_
            refine r_iadd (pc := 203) hX (dk D_X12_readRoad 116 rfl) ?_
            refine r_iload (pc := 204) hX 1 rfl (dk D_X12_readRoad 117 rfl) ?_
            obtain ⟨μ51, hμ51, h⟩ := bd_some h
            refine r_iast (pc := 206) hX (R32_w _) qy35 hμ51 (dk D_X12_readRoad 118 rfl) ?_
            refine r_aloadn (pc := 207) hX 2 rfl (dk D_X12_readRoad 119 rfl) ?_
            obtain ⟨x52, hx52, h⟩ := bd_some h
            refine r_getR (pc := 208) hX fl_12_24 rfl hx52 (dk D_X12_readRoad 120 rfl) ?_
            refine r_bipush (pc := 211) hX rfl (dk D_X12_readRoad 121 rfl) ?_
            refine r_iloadn (pc := 213) hX 3 rfl (dk D_X12_readRoad 122 rfl) ?_
            refine r_iadd (pc := 214) hX (dk D_X12_readRoad 123 rfl) ?_
            refine r_iload (pc := 215) hX 0 rfl (dk D_X12_readRoad 124 rfl) ?_
            obtain ⟨μ53, hμ53, h⟩ := bd_some h
            refine r_iast (pc := 217) hX (R32_w _) qx41 hμ53 (dk D_X12_readRoad 125 rfl) ?_
            refine r_aloadn (pc := 218) hX 2 rfl (dk D_X12_readRoad 126 rfl) ?_
            obtain ⟨x54, hx54, h⟩ := bd_some h
            refine r_getR (pc := 219) hX fl_12_24 rfl hx54 (dk D_X12_readRoad 127 rfl) ?_
            refine r_bipush (pc := 222) hX rfl (dk D_X12_readRoad 128 rfl) ?_
            refine r_dup2 (pc := 224) hX rfl rfl (dk D_X12_readRoad 129 rfl) ?_
            obtain ⟨x55, hx55, h⟩ := bd_some h
            refine r_iald (pc := 225) hX (R32_lit rfl) hx55 (dk D_X12_readRoad 130 rfl) (fun qx55 => ?_)
            refine r_iconst (pc := 226) hX (dk D_X12_readRoad 131 rfl) ?_
            refine r_iadd (pc := 227) hX (dk D_X12_readRoad 132 rfl) ?_
            obtain ⟨μ56, hμ56, h⟩ := bd_some h
            refine r_iast (pc := 228) hX (R32_lit rfl) (R32_w _) hμ56 (dk D_X12_readRoad 133 rfl) ?_
            cases h
            exact r_return (pc := 229) hX hM ⟨by decide, by decide⟩ (dk D_X12_readRoad 134 rfl)
          · rw [if_neg hc] at h
            cases h
            exact r_return (pc := 164) hX hM ⟨by decide, by decide⟩ (dk D_X12_readRoad 90 rfl)
        clear h
        have h := hb
        clear hb
        refine r_if_eq (pc := 124) hX qx33 138 rfl (dk D_X12_readRoad 71 rfl) (fun hc => ?_) (fun hc => ?_)
        · rw [if_pos hc] at h
          refine r_iload (pc := 138) hX 0 rfl (dk D_X12_readRoad 77 rfl) ?_
          replace h := Option.some.inj h
          obtain ⟨h_0, h⟩ := Prod.mk.inj h
          subst y35
          subst μ36
          refine r_sub (lv' := [(0, 2, a0), (1, 0, x2), (2, 0, x15), (3, 0, x27), (4, 0, x31)]) [2, 3, 4, 1, 0] rfl ?_
          exact hj qx31
        · rw [if_neg hc] at h
          refine r_aloadn (pc := 127) hX 2 rfl (dk D_X12_readRoad 72 rfl) ?_
          refine r_iconst (pc := 128) hX (dk D_X12_readRoad 73 rfl) ?_
          refine r_sipush (pc := 129) hX rfl (dk D_X12_readRoad 74 rfl) ?_
          obtain ⟨_, hi, h⟩ := bd_some h
          obtain ⟨x37, μ38, hx37, h⟩ := bd2_some h
          refine r_invV0 (As := [(0, 0), (0, 999)]) (pc := 132) hX ml_12_182 (L_M_takes (R32_lit rfl) (R32_lit rfl) hx37) (isk_u hi) (Rm_of hRm (by decide) ⟨by decide, by decide⟩) (by decide) rfl (Nat.le_of_ble_eq_true rfl) rfl (dk D_X12_readRoad 75 rfl) (fun qx37 => ?_)
          refine r_goto (pc := 135) hX 140 rfl (dk D_X12_readRoad 76 rfl) ?_
          replace h := Option.some.inj h
          obtain ⟨h_0, h⟩ := Prod.mk.inj h
          subst y35
          subst μ36
          refine r_sub (lv' := [(0, 2, a0), (1, 0, x2), (2, 0, x15), (3, 0, x27), (4, 0, x31)]) [2, 3, 4, 1, 0] rfl ?_
          exact hj qx37
      clear h
      have h := hb
      clear hb
      refine r_if_eq (pc := 73) hX qx19 89 rfl (dk D_X12_readRoad 42 rfl) (fun hc => ?_) (fun hc => ?_)
      · rw [if_pos hc] at h
        replace h := Option.some.inj h
        subst μ21
        refine r_sub (lv' := [(0, 2, a0), (1, 0, x2), (2, 0, x15)]) [1, 2, 0] rfl ?_
        exact hj
      · rw [if_neg hc] at h
        refine r_aloadn (pc := 76) hX 1 rfl (dk D_X12_readRoad 43 rfl) ?_
        obtain ⟨x22, hx22, h⟩ := bd_some h
        refine r_getI (pc := 77) hX fl_12_156 rfl rfl hx22 (dk D_X12_readRoad 44 rfl) (fun qx22 => ?_)
        refine r_iloadn (pc := 80) hX 0 rfl (dk D_X12_readRoad 45 rfl) ?_
        refine r_icmp_ne (pc := 81) hX qx22 qx15 89 rfl (dk D_X12_readRoad 46 rfl) (fun hc => ?_) (fun hc => ?_)
        · rw [if_neg hc] at h
          replace h := Option.some.inj h
          subst μ21
          refine r_sub (lv' := [(0, 2, a0), (1, 0, x2), (2, 0, x15)]) [1, 2, 0] rfl ?_
          exact hj
        · rw [if_pos hc] at h
          refine r_aloadn (pc := 84) hX 1 rfl (dk D_X12_readRoad 47 rfl) ?_
          refine r_iconst (pc := 85) hX (dk D_X12_readRoad 48 rfl) ?_
          obtain ⟨_, hi, h⟩ := bd_some h
          obtain ⟨x23, μ24, hx23, h⟩ := bd2_some h
          refine r_invV0 (As := [(0, 3)]) (pc := 86) hX ml_12_174 (L_M_fails (R32_lit rfl) hx23) (isk_u hi) (Rm_of hRm (by decide) ⟨by decide, by decide⟩) (by decide) rfl (Nat.le_of_ble_eq_true rfl) rfl (dk D_X12_readRoad 49 rfl) (fun _ => ?_)
          replace h := Option.some.inj h
          subst μ21
          refine r_sub (lv' := [(0, 2, a0), (1, 0, x2), (2, 0, x15)]) [1, 2, 0] rfl ?_
          exact hj
    · rw [if_neg hc] at h
      cases h
      exact r_return (pc := 43) hX hM ⟨by decide, by decide⟩ (dk D_X12_readRoad 23 rfl)
  clear h
  have h := hb
  clear hb
  refine r_if_ne (pc := 14) hX qx4 25 rfl (dk D_X12_readRoad 9 rfl) (fun hc => ?_) (fun hc => ?_)
  · rw [if_neg hc] at h
    refine r_iloadn (pc := 25) hX 0 rfl (dk D_X12_readRoad 14 rfl) ?_
    refine r_bipush (pc := 26) hX rfl (dk D_X12_readRoad 15 rfl) ?_
    refine r_icmp_ne (pc := 28) hX qx2 (R32_lit rfl) 36 rfl (dk D_X12_readRoad 16 rfl) (fun hc => ?_) (fun hc => ?_)
    · rw [if_neg hc] at h
      replace h := Option.some.inj h
      subst μ5
      refine r_sub (lv' := [(0, 2, a0), (1, 0, x2)]) [1, 0] rfl ?_
      exact hj
    · rw [if_pos hc] at h
      refine r_aloadn (pc := 31) hX 1 rfl (dk D_X12_readRoad 17 rfl) ?_
      refine r_iconst (pc := 32) hX (dk D_X12_readRoad 18 rfl) ?_
      obtain ⟨_, hi, h⟩ := bd_some h
      obtain ⟨x6, μ7, hx6, h⟩ := bd2_some h
      refine r_invV0 (As := [(0, 4)]) (pc := 33) hX ml_12_174 (L_M_fails (R32_lit rfl) hx6) (isk_u hi) (Rm_of hRm (by decide) ⟨by decide, by decide⟩) (by decide) rfl (Nat.le_of_ble_eq_true rfl) rfl (dk D_X12_readRoad 19 rfl) (fun _ => ?_)
      replace h := Option.some.inj h
      subst μ5
      refine r_sub (lv' := [(0, 2, a0), (1, 0, x2)]) [1, 0] rfl ?_
      exact hj
  · rw [if_pos hc] at h
    refine r_aloadn (pc := 17) hX 1 rfl (dk D_X12_readRoad 10 rfl) ?_
    refine r_iconst (pc := 18) hX (dk D_X12_readRoad 11 rfl) ?_
    obtain ⟨_, hi, h⟩ := bd_some h
    obtain ⟨x8, μ9, hx8, h⟩ := bd2_some h
    refine r_invV0 (As := [(0, 2)]) (pc := 19) hX ml_12_174 (L_M_fails (R32_lit rfl) hx8) (isk_u hi) (Rm_of hRm (by decide) ⟨by decide, by decide⟩) (by decide) rfl (Nat.le_of_ble_eq_true rfl) rfl (dk D_X12_readRoad 12 rfl) (fun _ => ?_)
    refine r_goto (pc := 22) hX 36 rfl (dk D_X12_readRoad 13 rfl) ?_
    replace h := Option.some.inj h
    subst μ5
    refine r_sub (lv' := [(0, 2, a0), (1, 0, x2)]) [1, 0] rfl ?_
    exact hj
set_option maxRecDepth 100000 in
set_option maxHeartbeats 4000000 in
theorem L_M_readHome {E : EX} {l : Launch} {a0 res : Int} {μ μ' : Mem}  (h : M_readHome a0 μ = some (res, μ')) : Ok E l 8 yX12_readHome (.code yX12_readHome cX12_readHome 1 none) 0 0 [(2, a0)] μ none μ' := by
  refine Ok.of (own := "TollsBackModel") [(0, 2, a0)] (by decide +kernel) rfl (Nat.le_of_ble_eq_true rfl) rfl ?_
  intro X hL hRm hin hX hM
  unfold M_readHome at h
  subst hL
  refine r_aloadn (pc := 0) hX 0 rfl (dk D_X12_readHome 0 rfl) ?_
  obtain ⟨x1, hx1, h⟩ := bd_some h
  refine r_getR (pc := 1) hX fl_12_24 rfl hx1 (dk D_X12_readHome 1 rfl) ?_
  refine r_iconst (pc := 4) hX (dk D_X12_readHome 2 rfl) ?_
  obtain ⟨x2, hx2, h⟩ := bd_some h
  refine r_iald (pc := 5) hX (R32_lit rfl) hx2 (dk D_X12_readHome 3 rfl) (fun qx2 => ?_)
  obtain ⟨μ3, hb, h⟩ := bd_some h
  have hj : At E X cX12_readHome 1 "TollsBackModel" (0, 0) 14 [(0, 2, a0)] [] μ3 := by
    clear hb
    refine r_aloadn (pc := 14) hX 0 rfl (dk D_X12_readHome 8 rfl) ?_
    obtain ⟨x6, hx6, h⟩ := bd_some h
    refine r_getI (pc := 15) hX fl_12_159 rfl rfl hx6 (dk D_X12_readHome 9 rfl) (fun qx6 => ?_)
    refine r_if_eq (pc := 18) hX qx6 22 rfl (dk D_X12_readHome 10 rfl) (fun hc => ?_) (fun hc => ?_)
    · rw [if_pos hc] at h
      refine r_aloadn (pc := 22) hX 0 rfl (dk D_X12_readHome 12 rfl) ?_
      obtain ⟨_, hi, h⟩ := bd_some h
      obtain ⟨x7, μ8, hx7, h⟩ := bd2_some h
      refine r_invV0 (As := []) (pc := 23) hX ml_12_168 (L_M_next hx7) (isk_u hi) (Rm_of hRm (by decide) ⟨by decide, by decide⟩) (by decide) rfl (Nat.le_of_ble_eq_true rfl) rfl (dk D_X12_readHome 13 rfl) (fun _ => ?_)
      refine r_aloadn (pc := 26) hX 0 rfl (dk D_X12_readHome 14 rfl) ?_
      obtain ⟨x9, hx9, h⟩ := bd_some h
      refine r_getR (pc := 27) hX fl_12_24 rfl hx9 (dk D_X12_readHome 15 rfl) ?_
      refine r_iconst (pc := 30) hX (dk D_X12_readHome 16 rfl) ?_
      refine r_aloadn (pc := 31) hX 0 rfl (dk D_X12_readHome 17 rfl) ?_
      refine r_iconst (pc := 32) hX (dk D_X12_readHome 18 rfl) ?_
      refine r_aloadn (pc := 33) hX 0 rfl (dk D_X12_readHome 19 rfl) ?_
      obtain ⟨x10, hx10, h⟩ := bd_some h
      refine r_getR (pc := 34) hX fl_12_24 rfl hx10 (dk D_X12_readHome 20 rfl) ?_
      refine r_iconst (pc := 37) hX (dk D_X12_readHome 21 rfl) ?_
      obtain ⟨x11, hx11, h⟩ := bd_some h
      refine r_iald (pc := 38) hX (R32_lit rfl) hx11 (dk D_X12_readHome 22 rfl) (fun qx11 => ?_)
      refine r_iconst (pc := 39) hX (dk D_X12_readHome 23 rfl) ?_
      refine r_isub (pc := 40) hX (dk D_X12_readHome 24 rfl) ?_
      obtain ⟨_, hi, h⟩ := bd_some h
      obtain ⟨x12, μ13, hx12, h⟩ := bd2_some h
      refine r_invV0 (As := [(0, 0), (0, (w32 (x11 - 1)))]) (pc := 41) hX ml_12_182 (L_M_takes (R32_lit rfl) (R32_w _) hx12) (isk_u hi) (Rm_of hRm (by decide) ⟨by decide, by decide⟩) (by decide) rfl (Nat.le_of_ble_eq_true rfl) rfl (dk D_X12_readHome 25 rfl) (fun qx12 => ?_)
      obtain ⟨μ14, hμ14, h⟩ := bd_some h
      refine r_iast (pc := 44) hX (R32_lit rfl) qx12 hμ14 (dk D_X12_readHome 26 rfl) ?_
      cases h
      exact r_return (pc := 45) hX hM ⟨by decide, by decide⟩ (dk D_X12_readHome 27 rfl)
    · rw [if_neg hc] at h
      cases h
      exact r_return (pc := 21) hX hM ⟨by decide, by decide⟩ (dk D_X12_readHome 11 rfl)
  clear h
  have h := hb
  clear hb
  refine r_if_ne (pc := 6) hX qx2 14 rfl (dk D_X12_readHome 4 rfl) (fun hc => ?_) (fun hc => ?_)
  · rw [if_neg hc] at h
    replace h := Option.some.inj h
    subst μ3
    exact hj
  · rw [if_pos hc] at h
    refine r_aloadn (pc := 9) hX 0 rfl (dk D_X12_readHome 5 rfl) ?_
    refine r_iconst (pc := 10) hX (dk D_X12_readHome 6 rfl) ?_
    obtain ⟨_, hi, h⟩ := bd_some h
    obtain ⟨x4, μ5, hx4, h⟩ := bd2_some h
    refine r_invV0 (As := [(0, 2)]) (pc := 11) hX ml_12_174 (L_M_fails (R32_lit rfl) hx4) (isk_u hi) (Rm_of hRm (by decide) ⟨by decide, by decide⟩) (by decide) rfl (Nat.le_of_ble_eq_true rfl) rfl (dk D_X12_readHome 7 rfl) (fun _ => ?_)
    replace h := Option.some.inj h
    subst μ3
    exact hj
set_option maxRecDepth 100000 in
set_option maxHeartbeats 4000000 in
theorem L_M_readLine {E : EX} {l : Launch} {a0 res : Int} {μ μ' : Mem}  (h : M_readLine a0 μ = some (res, μ')) : Ok E l 10 yX12_readLine (.code yX12_readLine cX12_readLine 1 none) 0 0 [(2, a0)] μ none μ' := by
  refine Ok.of (own := "TollsBackModel") [(0, 2, a0)] (by decide +kernel) rfl (Nat.le_of_ble_eq_true rfl) rfl ?_
  intro X hL hRm hin hX hM
  unfold M_readLine at h
  subst hL
  refine r_aloadn (pc := 0) hX 0 rfl (dk D_X12_readLine 0 rfl) ?_
  refine r_iconst (pc := 1) hX (dk D_X12_readLine 1 rfl) ?_
  obtain ⟨_, hi, h⟩ := bd_some h
  obtain ⟨x1, μ2, hx1, h⟩ := bd2_some h
  refine r_invV0 (As := [(0, 0)]) (pc := 2) hX ml_12_165 (L_M_is (R32_lit rfl) hx1) (isk_u hi) (Rm_of hRm (by decide) ⟨by decide, by decide⟩) (by decide) rfl (Nat.le_of_ble_eq_true rfl) rfl (dk D_X12_readLine 2 rfl) (fun qx1 => ?_)
  obtain ⟨μ3, hb, h⟩ := bd_some h
  have hj : At E X cX12_readLine 1 "TollsBackModel" (0, 0) 115 [(0, 2, a0)] [] μ3 := by
    clear hb
    refine r_aloadn (pc := 115) hX 0 rfl (dk D_X12_readLine 57 rfl) ?_
    refine r_bipush (pc := 116) hX rfl (dk D_X12_readLine 58 rfl) ?_
    obtain ⟨_, hi, h⟩ := bd_some h
    obtain ⟨x32, μ33, hx32, h⟩ := bd2_some h
    refine r_invV0 (As := [(0, 11)]) (pc := 118) hX ml_12_186 (L_M_must (R32_lit rfl) hx32) (isk_u hi) (Rm_of hRm (by decide) ⟨by decide, by decide⟩) (by decide) rfl (Nat.le_of_ble_eq_true rfl) rfl (dk D_X12_readLine 59 rfl) (fun _ => ?_)
    refine r_aloadn (pc := 121) hX 0 rfl (dk D_X12_readLine 60 rfl) ?_
    obtain ⟨x34, hx34, h⟩ := bd_some h
    refine r_getR (pc := 122) hX fl_12_24 rfl hx34 (dk D_X12_readLine 61 rfl) ?_
    refine r_bipush (pc := 125) hX rfl (dk D_X12_readLine 62 rfl) ?_
    refine r_dup2 (pc := 127) hX rfl rfl (dk D_X12_readLine 63 rfl) ?_
    obtain ⟨x35, hx35, h⟩ := bd_some h
    refine r_iald (pc := 128) hX (R32_lit rfl) hx35 (dk D_X12_readLine 64 rfl) (fun qx35 => ?_)
    refine r_iconst (pc := 129) hX (dk D_X12_readLine 65 rfl) ?_
    refine r_iadd (pc := 130) hX (dk D_X12_readLine 66 rfl) ?_
    obtain ⟨μ36, hμ36, h⟩ := bd_some h
    refine r_iast (pc := 131) hX (R32_lit rfl) (R32_w _) hμ36 (dk D_X12_readLine 67 rfl) ?_
    cases h
    exact r_return (pc := 132) hX hM ⟨by decide, by decide⟩ (dk D_X12_readLine 68 rfl)
  clear h
  have h := hb
  clear hb
  refine r_if_eq (pc := 5) hX qx1 15 rfl (dk D_X12_readLine 3 rfl) (fun hc => ?_) (fun hc => ?_)
  · rw [if_pos hc] at h
    refine r_aloadn (pc := 15) hX 0 rfl (dk D_X12_readLine 7 rfl) ?_
    refine r_iconst (pc := 16) hX (dk D_X12_readLine 8 rfl) ?_
    obtain ⟨_, hi, h⟩ := bd_some h
    obtain ⟨x4, μ5, hx4, h⟩ := bd2_some h
    refine r_invV0 (As := [(0, 1)]) (pc := 17) hX ml_12_165 (L_M_is (R32_lit rfl) hx4) (isk_u hi) (Rm_of hRm (by decide) ⟨by decide, by decide⟩) (by decide) rfl (Nat.le_of_ble_eq_true rfl) rfl (dk D_X12_readLine 9 rfl) (fun qx4 => ?_)
    refine r_if_eq (pc := 20) hX qx4 30 rfl (dk D_X12_readLine 10 rfl) (fun hc => ?_) (fun hc => ?_)
    · rw [if_pos hc] at h
      refine r_aloadn (pc := 30) hX 0 rfl (dk D_X12_readLine 14 rfl) ?_
      refine r_iconst (pc := 31) hX (dk D_X12_readLine 15 rfl) ?_
      obtain ⟨_, hi, h⟩ := bd_some h
      obtain ⟨x6, μ7, hx6, h⟩ := bd2_some h
      refine r_invV0 (As := [(0, 2)]) (pc := 32) hX ml_12_171 (L_M_eats (R32_lit rfl) hx6) (isk_u hi) (Rm_of hRm (by decide) ⟨by decide, by decide⟩) (by decide) rfl (Nat.le_of_ble_eq_true rfl) rfl (dk D_X12_readLine 16 rfl) (fun qx6 => ?_)
      refine r_if_eq (pc := 35) hX qx6 55 rfl (dk D_X12_readLine 17 rfl) (fun hc => ?_) (fun hc => ?_)
      · rw [if_pos hc] at h
        refine r_aloadn (pc := 55) hX 0 rfl (dk D_X12_readLine 27 rfl) ?_
        refine r_iconst (pc := 56) hX (dk D_X12_readLine 28 rfl) ?_
        obtain ⟨_, hi, h⟩ := bd_some h
        obtain ⟨x8, μ9, hx8, h⟩ := bd2_some h
        refine r_invV0 (As := [(0, 3)]) (pc := 57) hX ml_12_171 (L_M_eats (R32_lit rfl) hx8) (isk_u hi) (Rm_of hRm (by decide) ⟨by decide, by decide⟩) (by decide) rfl (Nat.le_of_ble_eq_true rfl) rfl (dk D_X12_readLine 29 rfl) (fun qx8 => ?_)
        refine r_if_eq (pc := 60) hX qx8 79 rfl (dk D_X12_readLine 30 rfl) (fun hc => ?_) (fun hc => ?_)
        · rw [if_pos hc] at h
          refine r_aloadn (pc := 79) hX 0 rfl (dk D_X12_readLine 40 rfl) ?_
          refine r_iconst (pc := 80) hX (dk D_X12_readLine 41 rfl) ?_
          obtain ⟨_, hi, h⟩ := bd_some h
          obtain ⟨x10, μ11, hx10, h⟩ := bd2_some h
          refine r_invV0 (As := [(0, 4)]) (pc := 81) hX ml_12_165 (L_M_is (R32_lit rfl) hx10) (isk_u hi) (Rm_of hRm (by decide) ⟨by decide, by decide⟩) (by decide) rfl (Nat.le_of_ble_eq_true rfl) rfl (dk D_X12_readLine 42 rfl) (fun qx10 => ?_)
          refine r_if_eq (pc := 84) hX qx10 94 rfl (dk D_X12_readLine 43 rfl) (fun hc => ?_) (fun hc => ?_)
          · rw [if_pos hc] at h
            refine r_aloadn (pc := 94) hX 0 rfl (dk D_X12_readLine 47 rfl) ?_
            refine r_bipush (pc := 95) hX rfl (dk D_X12_readLine 48 rfl) ?_
            obtain ⟨_, hi, h⟩ := bd_some h
            obtain ⟨x12, μ13, hx12, h⟩ := bd2_some h
            refine r_invV0 (As := [(0, 6)]) (pc := 97) hX ml_12_165 (L_M_is (R32_lit rfl) hx12) (isk_u hi) (Rm_of hRm (by decide) ⟨by decide, by decide⟩) (by decide) rfl (Nat.le_of_ble_eq_true rfl) rfl (dk D_X12_readLine 49 rfl) (fun qx12 => ?_)
            refine r_if_eq (pc := 100) hX qx12 110 rfl (dk D_X12_readLine 50 rfl) (fun hc => ?_) (fun hc => ?_)
            · rw [if_pos hc] at h
              refine r_aloadn (pc := 110) hX 0 rfl (dk D_X12_readLine 54 rfl) ?_
              refine r_iconst (pc := 111) hX (dk D_X12_readLine 55 rfl) ?_
              obtain ⟨_, hi, h⟩ := bd_some h
              obtain ⟨x14, μ15, hx14, h⟩ := bd2_some h
              refine r_invV0 (As := [(0, 2)]) (pc := 112) hX ml_12_174 (L_M_fails (R32_lit rfl) hx14) (isk_u hi) (Rm_of hRm (by decide) ⟨by decide, by decide⟩) (by decide) rfl (Nat.le_of_ble_eq_true rfl) rfl (dk D_X12_readLine 56 rfl) (fun _ => ?_)
              replace h := Option.some.inj h
              subst μ3
              exact hj
            · rw [if_neg hc] at h
              refine r_aloadn (pc := 103) hX 0 rfl (dk D_X12_readLine 51 rfl) ?_
              obtain ⟨_, hi, h⟩ := bd_some h
              obtain ⟨x16, μ17, hx16, h⟩ := bd2_some h
              refine r_invV0 (As := []) (pc := 104) hX ml_12_198 (L_M_readRoad hx16) (isk_u hi) (Rm_of hRm (by decide) ⟨by decide, by decide⟩) (by decide) rfl (Nat.le_of_ble_eq_true rfl) rfl (dk D_X12_readLine 52 rfl) (fun _ => ?_)
              refine r_goto (pc := 107) hX 115 rfl (dk D_X12_readLine 53 rfl) ?_
              replace h := Option.some.inj h
              subst μ3
              exact hj
          · rw [if_neg hc] at h
            refine r_aloadn (pc := 87) hX 0 rfl (dk D_X12_readLine 44 rfl) ?_
            obtain ⟨_, hi, h⟩ := bd_some h
            obtain ⟨x18, μ19, hx18, h⟩ := bd2_some h
            refine r_invV0 (As := []) (pc := 88) hX ml_12_195 (L_M_readSummer hx18) (isk_u hi) (Rm_of hRm (by decide) ⟨by decide, by decide⟩) (by decide) rfl (Nat.le_of_ble_eq_true rfl) rfl (dk D_X12_readLine 45 rfl) (fun _ => ?_)
            refine r_goto (pc := 91) hX 115 rfl (dk D_X12_readLine 46 rfl) ?_
            replace h := Option.some.inj h
            subst μ3
            exact hj
        · rw [if_neg hc] at h
          refine r_aloadn (pc := 63) hX 0 rfl (dk D_X12_readLine 31 rfl) ?_
          obtain ⟨x20, hx20, h⟩ := bd_some h
          refine r_getR (pc := 64) hX fl_12_24 rfl hx20 (dk D_X12_readLine 32 rfl) ?_
          refine r_iconst (pc := 67) hX (dk D_X12_readLine 33 rfl) ?_
          refine r_aloadn (pc := 68) hX 0 rfl (dk D_X12_readLine 34 rfl) ?_
          refine r_iconst (pc := 69) hX (dk D_X12_readLine 35 rfl) ?_
          refine r_bipush (pc := 70) hX rfl (dk D_X12_readLine 36 rfl) ?_
          obtain ⟨_, hi, h⟩ := bd_some h
          obtain ⟨x21, μ22, hx21, h⟩ := bd2_some h
          refine r_invV0 (As := [(0, 0), (0, 100)]) (pc := 72) hX ml_12_182 (L_M_takes (R32_lit rfl) (R32_lit rfl) hx21) (isk_u hi) (Rm_of hRm (by decide) ⟨by decide, by decide⟩) (by decide) rfl (Nat.le_of_ble_eq_true rfl) rfl (dk D_X12_readLine 37 rfl) (fun qx21 => ?_)
          obtain ⟨μ23, hμ23, h⟩ := bd_some h
          refine r_iast (pc := 75) hX (R32_lit rfl) qx21 hμ23 (dk D_X12_readLine 38 rfl) ?_
          refine r_goto (pc := 76) hX 115 rfl (dk D_X12_readLine 39 rfl) ?_
          replace h := Option.some.inj h
          subst μ3
          exact hj
      · rw [if_neg hc] at h
        refine r_aloadn (pc := 38) hX 0 rfl (dk D_X12_readLine 18 rfl) ?_
        obtain ⟨x24, hx24, h⟩ := bd_some h
        refine r_getR (pc := 39) hX fl_12_24 rfl hx24 (dk D_X12_readLine 19 rfl) ?_
        refine r_iconst (pc := 42) hX (dk D_X12_readLine 20 rfl) ?_
        refine r_aloadn (pc := 43) hX 0 rfl (dk D_X12_readLine 21 rfl) ?_
        refine r_iconst (pc := 44) hX (dk D_X12_readLine 22 rfl) ?_
        refine r_sipush (pc := 45) hX rfl (dk D_X12_readLine 23 rfl) ?_
        obtain ⟨_, hi, h⟩ := bd_some h
        obtain ⟨x25, μ26, hx25, h⟩ := bd2_some h
        refine r_invV0 (As := [(0, 1), (0, 360)]) (pc := 48) hX ml_12_182 (L_M_takes (R32_lit rfl) (R32_lit rfl) hx25) (isk_u hi) (Rm_of hRm (by decide) ⟨by decide, by decide⟩) (by decide) rfl (Nat.le_of_ble_eq_true rfl) rfl (dk D_X12_readLine 24 rfl) (fun qx25 => ?_)
        obtain ⟨μ27, hμ27, h⟩ := bd_some h
        refine r_iast (pc := 51) hX (R32_lit rfl) qx25 hμ27 (dk D_X12_readLine 25 rfl) ?_
        refine r_goto (pc := 52) hX 115 rfl (dk D_X12_readLine 26 rfl) ?_
        replace h := Option.some.inj h
        subst μ3
        exact hj
    · rw [if_neg hc] at h
      refine r_aloadn (pc := 23) hX 0 rfl (dk D_X12_readLine 11 rfl) ?_
      obtain ⟨_, hi, h⟩ := bd_some h
      obtain ⟨x28, μ29, hx28, h⟩ := bd2_some h
      refine r_invV0 (As := []) (pc := 24) hX ml_12_192 (L_M_readHome hx28) (isk_u hi) (Rm_of hRm (by decide) ⟨by decide, by decide⟩) (by decide) rfl (Nat.le_of_ble_eq_true rfl) rfl (dk D_X12_readLine 12 rfl) (fun _ => ?_)
      refine r_goto (pc := 27) hX 115 rfl (dk D_X12_readLine 13 rfl) ?_
      replace h := Option.some.inj h
      subst μ3
      exact hj
  · rw [if_neg hc] at h
    refine r_aloadn (pc := 8) hX 0 rfl (dk D_X12_readLine 4 rfl) ?_
    obtain ⟨_, hi, h⟩ := bd_some h
    obtain ⟨x30, μ31, hx30, h⟩ := bd2_some h
    refine r_invV0 (As := []) (pc := 9) hX ml_12_189 (L_M_readTowns hx30) (isk_u hi) (Rm_of hRm (by decide) ⟨by decide, by decide⟩) (by decide) rfl (Nat.le_of_ble_eq_true rfl) rfl (dk D_X12_readLine 5 rfl) (fun _ => ?_)
    refine r_goto (pc := 12) hX 115 rfl (dk D_X12_readLine 6 rfl) ?_
    replace h := Option.some.inj h
    subst μ3
    exact hj
set_option maxRecDepth 100000 in
set_option maxHeartbeats 4000000 in
theorem L_M_kingdom_L53 {E : EX} {X : CX} {res : Int} {μe : Mem} (hX : Good E X cX12_kingdom 3 "TollsBackModel") (hM : GoodM E X (some .int) (some (0, res)) μe 0 0) (hRm : cR X = rmOf 11 0 0) {k76 : Int → Mem → Option (Int × Mem)} (hk76 : ∀ (u0 : Int) (μ : Mem), k76 u0 μ = some (res, μe) → At E X cX12_kingdom 3 "TollsBackModel" (0, 0) 76 [(0, 2, u0)] [] μ) : ∀ (n : Nat) (v0 : Int) (μ : Mem)  (h : M_kingdom_L53 k76 n v0 μ = some (res, μe)), At E X cX12_kingdom 3 "TollsBackModel" (0, 0) 53 [(0, 2, v0)] [] μ := by
  intro n
  induction n with
  | zero =>
    intro v0 μ  h
    have h : (none : Option (Int × Mem)) = some (res, μe) := h
    cases h
  | succ n ih =>
    intro v0 μ  h
    rw [M_kingdom_L53.eq_2] at h
    refine r_aloadn (pc := 53) hX 0 rfl (dk D_X12_kingdom 30 rfl) ?_
    obtain ⟨x1, hx1, h⟩ := bd_some h
    refine r_getI (pc := 54) hX fl_12_159 rfl rfl hx1 (dk D_X12_kingdom 31 rfl) (fun qx1 => ?_)
    refine r_if_ne (pc := 57) hX qx1 76 rfl (dk D_X12_kingdom 32 rfl) (fun hc => ?_) (fun hc => ?_)
    · rw [if_neg hc] at h
      exact hk76 v0 μ h
    · rw [if_pos hc] at h
      refine r_aloadn (pc := 60) hX 0 rfl (dk D_X12_kingdom 33 rfl) ?_
      obtain ⟨x2, hx2, h⟩ := bd_some h
      refine r_getI (pc := 61) hX fl_12_143 rfl rfl hx2 (dk D_X12_kingdom 34 rfl) (fun qx2 => ?_)
      refine r_bipush (pc := 64) hX rfl (dk D_X12_kingdom 35 rfl) ?_
      refine r_icmp_eq (pc := 66) hX qx2 (R32_lit rfl) 76 rfl (dk D_X12_kingdom 36 rfl) (fun hc => ?_) (fun hc => ?_)
      · rw [if_pos hc] at h
        exact hk76 v0 μ h
      · rw [if_neg hc] at h
        refine r_aloadn (pc := 69) hX 0 rfl (dk D_X12_kingdom 37 rfl) ?_
        obtain ⟨_, hi, h⟩ := bd_some h
        obtain ⟨x3, μ4, hx3, h⟩ := bd2_some h
        refine r_invV0 (As := []) (pc := 70) hX ml_12_201 (L_M_readLine hx3) (isk_u hi) (Rm_of hRm (by decide) ⟨by decide, by decide⟩) (by decide) rfl (Nat.le_of_ble_eq_true rfl) rfl (dk D_X12_kingdom 38 rfl) (fun _ => ?_)
        refine r_goto (pc := 73) hX 53 rfl (dk D_X12_kingdom 39 rfl) ?_
        exact ih v0 μ4 h
set_option maxRecDepth 100000 in
set_option maxHeartbeats 4000000 in
theorem L_M_kingdom_L120 {E : EX} {X : CX} {res : Int} {μe : Mem} (hX : Good E X cX12_kingdom 3 "TollsBackModel") (hM : GoodM E X (some .int) (some (0, res)) μe 0 0) (hRm : cR X = rmOf 11 0 0) : ∀ (n : Nat) (v0 v2 : Int) (μ : Mem) (q_v2 : R32 v2) (h : M_kingdom_L120 n v0 v2 μ = some (res, μe)), At E X cX12_kingdom 3 "TollsBackModel" (0, 0) 120 [(0, 2, v0), (2, 0, v2)] [] μ := by
  intro n
  induction n with
  | zero =>
    intro v0 v2 μ q_v2 h
    have h : (none : Option (Int × Mem)) = some (res, μe) := h
    cases h
  | succ n ih =>
    intro v0 v2 μ q_v2 h
    rw [M_kingdom_L120.eq_2] at h
    refine r_iloadn (pc := 120) hX 1 rfl (dk D_X12_kingdom 63 rfl) ?_
    refine r_sipush (pc := 121) hX rfl (dk D_X12_kingdom 64 rfl) ?_
    refine r_icmp_ge (pc := 124) hX q_v2 (R32_lit rfl) 156 rfl (dk D_X12_kingdom 65 rfl) (fun hc => ?_) (fun hc => ?_)
    · rw [if_neg hc] at h
      refine r_aloadn (pc := 156) hX 0 rfl (dk D_X12_kingdom 81 rfl) ?_
      obtain ⟨x1, hx1, h⟩ := bd_some h
      refine r_getR (pc := 157) hX fl_12_13 rfl hx1 (dk D_X12_kingdom 82 rfl) ?_
      refine r_bipush (pc := 160) hX rfl (dk D_X12_kingdom 83 rfl) ?_
      obtain ⟨x2, hx2, h⟩ := bd_some h
      refine r_iald (pc := 162) hX (R32_lit rfl) hx2 (dk D_X12_kingdom 84 rfl) (fun qx2 => ?_)
      cases h
      exact r_ireturn (pc := 163) hX qx2 hM ⟨by decide, by decide⟩ (dk D_X12_kingdom 85 rfl)
    · rw [if_pos hc] at h
      refine r_aloadn (pc := 127) hX 0 rfl (dk D_X12_kingdom 66 rfl) ?_
      obtain ⟨x3, hx3, h⟩ := bd_some h
      refine r_getR (pc := 128) hX fl_12_13 rfl hx3 (dk D_X12_kingdom 67 rfl) ?_
      refine r_iloadn (pc := 131) hX 1 rfl (dk D_X12_kingdom 68 rfl) ?_
      refine r_iloadn (pc := 132) hX 1 rfl (dk D_X12_kingdom 69 rfl) ?_
      refine r_sipush (pc := 133) hX rfl (dk D_X12_kingdom 70 rfl) ?_
      obtain ⟨y4, hb, h⟩ := bd_some h
      have hj : R32 y4 → At E X cX12_kingdom 3 "TollsBackModel" (0, 0) 149 [(0, 2, v0), (2, 0, v2)] [(0, y4), (0, v2), (2, x3)] μ := by
        intro qy4
        clear hb
        obtain ⟨μ7, hμ7, h⟩ := bd_some h
        refine r_iast (pc := 149) hX q_v2 qy4 hμ7 (dk D_X12_kingdom 78 rfl) ?_
        refine r_iinc (lv' := [(2, 0, (w32 (v2 + 1))), (0, 2, v0)]) (pc := 150) hX 1 rfl (by decide) rfl (dk D_X12_kingdom 79 rfl) ?_
        refine r_goto (pc := 153) hX 120 rfl (dk D_X12_kingdom 80 rfl) ?_
        refine r_sub (lv' := [(0, 2, v0), (2, 0, (w32 (v2 + 1)))]) [1, 0] rfl ?_
        exact ih v0 (w32 (v2 + 1)) μ7 (R32_w _) h
      clear h
      have h := hb
      clear hb
      refine r_icmp_ge (pc := 136) hX q_v2 (R32_lit rfl) 148 rfl (dk D_X12_kingdom 71 rfl) (fun hc => ?_) (fun hc => ?_)
      · rw [if_neg hc] at h
        refine r_iconst (pc := 148) hX (dk D_X12_kingdom 77 rfl) ?_
        replace h := Option.some.inj h
        subst y4
        exact hj (R32_lit rfl)
      · rw [if_pos hc] at h
        refine r_aloadn (pc := 139) hX 0 rfl (dk D_X12_kingdom 72 rfl) ?_
        obtain ⟨x5, hx5, h⟩ := bd_some h
        refine r_getR (pc := 140) hX fl_12_24 rfl hx5 (dk D_X12_kingdom 73 rfl) ?_
        refine r_iloadn (pc := 143) hX 1 rfl (dk D_X12_kingdom 74 rfl) ?_
        obtain ⟨x6, hx6, h⟩ := bd_some h
        refine r_iald (pc := 144) hX q_v2 hx6 (dk D_X12_kingdom 75 rfl) (fun qx6 => ?_)
        refine r_goto (pc := 145) hX 149 rfl (dk D_X12_kingdom 76 rfl) ?_
        replace h := Option.some.inj h
        subst y4
        exact hj qx6
set_option maxRecDepth 100000 in
set_option maxHeartbeats 4000000 in
theorem L_M_kingdom_J76 {E : EX} {X : CX} {res : Int} {μe : Mem} (hX : Good E X cX12_kingdom 3 "TollsBackModel") (hM : GoodM E X (some .int) (some (0, res)) μe 0 0) (hRm : cR X = rmOf 11 0 0) {v0 : Int} {μ : Mem}  (h : M_kingdom_J76 v0 μ = some (res, μe)) : At E X cX12_kingdom 3 "TollsBackModel" (0, 0) 76 [(0, 2, v0)] [] μ := by
  unfold M_kingdom_J76 at h
  refine r_aloadn (pc := 76) hX 0 rfl (dk D_X12_kingdom 40 rfl) ?_
  refine r_aloadn (pc := 77) hX 0 rfl (dk D_X12_kingdom 41 rfl) ?_
  obtain ⟨x1, hx1, h⟩ := bd_some h
  refine r_getI (pc := 78) hX fl_12_159 rfl rfl hx1 (dk D_X12_kingdom 42 rfl) (fun qx1 => ?_)
  obtain ⟨μ2, hμ2, h⟩ := bd_some h
  refine r_putI (pc := 81) hX fl_12_204 rfl rfl qx1 trivial hμ2 (dk D_X12_kingdom 43 rfl) ?_
  refine r_aloadn (pc := 84) hX 0 rfl (dk D_X12_kingdom 44 rfl) ?_
  refine r_aloadn (pc := 85) hX 0 rfl (dk D_X12_kingdom 45 rfl) ?_
  obtain ⟨x3, hx3, h⟩ := bd_some h
  refine r_getI (pc := 86) hX fl_12_159 rfl rfl hx3 (dk D_X12_kingdom 46 rfl) (fun qx3 => ?_)
  obtain ⟨y4, hb, h⟩ := bd_some h
  have hj : R32 y4 → At E X cX12_kingdom 3 "TollsBackModel" (0, 0) 100 [(0, 2, v0)] [(0, y4), (2, v0)] μ2 := by
    intro qy4
    clear hb
    obtain ⟨μ6, hμ6, h⟩ := bd_some h
    refine r_putI (pc := 100) hX fl_12_27 rfl rfl qy4 trivial hμ6 (dk D_X12_kingdom 52 rfl) ?_
    refine r_aloadn (pc := 103) hX 0 rfl (dk D_X12_kingdom 53 rfl) ?_
    obtain ⟨x7, hx7, h⟩ := bd_some h
    refine r_getI (pc := 104) hX fl_12_159 rfl rfl hx7 (dk D_X12_kingdom 54 rfl) (fun qx7 => ?_)
    refine r_if_eq (pc := 107) hX qx7 118 rfl (dk D_X12_kingdom 55 rfl) (fun hc => ?_) (fun hc => ?_)
    · rw [if_pos hc] at h
      refine r_iconst (pc := 118) hX (dk D_X12_kingdom 61 rfl) ?_
      refine r_istoren (lv' := [(2, 0, 0), (0, 2, v0)]) (pc := 119) hX (by decide) rfl (dk D_X12_kingdom 62 rfl) ?_
      refine r_sub (lv' := [(0, 2, v0), (2, 0, 0)]) [1, 0] rfl ?_
      refine L_M_kingdom_L120 hX hM hRm FU v0 0 μ6 (R32_lit rfl) h
    · rw [if_neg hc] at h
      refine r_bipush (pc := 110) hX rfl (dk D_X12_kingdom 56 rfl) ?_
      refine r_aloadn (pc := 112) hX 0 rfl (dk D_X12_kingdom 57 rfl) ?_
      obtain ⟨x8, hx8, h⟩ := bd_some h
      refine r_getI (pc := 113) hX fl_12_159 rfl rfl hx8 (dk D_X12_kingdom 58 rfl) (fun qx8 => ?_)
      refine r_isub (pc := 116) hX (dk D_X12_kingdom 59 rfl) ?_
      cases h
      exact r_ireturn (pc := 117) hX (R32_w _) hM ⟨by decide, by decide⟩ (dk D_X12_kingdom 60 rfl)
  clear h
  have h := hb
  clear hb
  refine r_if_ne (pc := 89) hX qx3 96 rfl (dk D_X12_kingdom 47 rfl) (fun hc => ?_) (fun hc => ?_)
  · rw [if_neg hc] at h
    refine r_aloadn (pc := 96) hX 0 rfl (dk D_X12_kingdom 50 rfl) ?_
    obtain ⟨x5, hx5, h⟩ := bd_some h
    refine r_getI (pc := 97) hX fl_12_162 rfl rfl hx5 (dk D_X12_kingdom 51 rfl) (fun qx5 => ?_)
    replace h := Option.some.inj h
    subst y4
    exact hj qx5
  · rw [if_pos hc] at h
    refine r_iconst (pc := 92) hX (dk D_X12_kingdom 48 rfl) ?_
    refine r_goto (pc := 93) hX 100 rfl (dk D_X12_kingdom 49 rfl) ?_
    replace h := Option.some.inj h
    subst y4
    exact hj (R32_lit rfl)
set_option maxRecDepth 100000 in
set_option maxHeartbeats 4000000 in
theorem L_M_kingdom {E : EX} {l : Launch} {a0 a1 res : Int} {μ μ' : Mem} (q_a1 : R32 a1) (h : M_kingdom a0 a1 μ = some (res, μ')) : Ok E l 11 yX12_kingdom (.code yX12_kingdom cX12_kingdom 3 (some .int)) 0 0 [(2, a0), (0, a1)] μ (some (0, res)) μ' := by
  refine Ok.of (own := "TollsBackModel") [(0, 2, a0), (1, 0, a1)] (by decide +kernel) rfl (Nat.le_of_ble_eq_true rfl) rfl ?_
  intro X hL hRm hin hX hM
  unfold M_kingdom at h
  subst hL
  refine r_aloadn (pc := 0) hX 0 rfl (dk D_X12_kingdom 0 rfl) ?_
  refine r_iconst (pc := 1) hX (dk D_X12_kingdom 1 rfl) ?_
  obtain ⟨μ1, hμ1, h⟩ := bd_some h
  refine r_putI (pc := 2) hX fl_12_1 rfl rfl (R32_lit rfl) trivial hμ1 (dk D_X12_kingdom 2 rfl) ?_
  refine r_iloadn (pc := 5) hX 1 rfl (dk D_X12_kingdom 3 rfl) ?_
  refine r_i2l (pc := 6) hX q_a1 (dk D_X12_kingdom 4 rfl) ?_
  refine r_lconst (x := 0) (pc := 7) hX (by decide) (dk D_X12_kingdom 5 rfl) ?_
  refine r_aloadn (pc := 8) hX 0 rfl (dk D_X12_kingdom 6 rfl) ?_
  obtain ⟨x2, hx2, h⟩ := bd_some h
  refine r_getI (pc := 9) hX fl_12_115 rfl rfl hx2 (dk D_X12_kingdom 7 rfl) (fun qx2 => ?_)
  refine r_i2l (pc := 12) hX qx2 (dk D_X12_kingdom 8 rfl) ?_
  obtain ⟨x3, μ4, hx3, h⟩ := bd2_some h
  refine r_invS0 (As := [(1, a1), (1, 0), (1, x2)]) (pc := 13) hX ml_12_178 (L_M_within (R64_of q_a1) (R64_lit rfl) (R64_of qx2) hx3) (Rm_of hRm (by decide) ⟨by decide, by decide⟩) (by decide) rfl (Nat.le_of_ble_eq_true rfl) rfl (dk D_X12_kingdom 9 rfl) (fun qx3 => ?_)
  refine r_if_ne (pc := 16) hX qx3 22 rfl (dk D_X12_kingdom 10 rfl) (fun hc => ?_) (fun hc => ?_)
  · rw [if_neg hc] at h
    refine r_aloadn (pc := 22) hX 0 rfl (dk D_X12_kingdom 13 rfl) ?_
    refine r_iloadn (pc := 23) hX 1 rfl (dk D_X12_kingdom 14 rfl) ?_
    obtain ⟨μ5, hμ5, h⟩ := bd_some h
    refine r_putI (pc := 24) hX fl_12_118 rfl rfl q_a1 trivial hμ5 (dk D_X12_kingdom 15 rfl) ?_
    refine r_aloadn (pc := 27) hX 0 rfl (dk D_X12_kingdom 16 rfl) ?_
    refine r_iconst (pc := 28) hX (dk D_X12_kingdom 17 rfl) ?_
    obtain ⟨μ6, hμ6, h⟩ := bd_some h
    refine r_putI (pc := 29) hX fl_12_115 rfl rfl (R32_lit rfl) trivial hμ6 (dk D_X12_kingdom 18 rfl) ?_
    refine r_aloadn (pc := 32) hX 0 rfl (dk D_X12_kingdom 19 rfl) ?_
    refine r_iconst (pc := 33) hX (dk D_X12_kingdom 20 rfl) ?_
    obtain ⟨μ7, hμ7, h⟩ := bd_some h
    refine r_putI (pc := 34) hX fl_12_136 rfl rfl (R32_lit rfl) trivial hμ7 (dk D_X12_kingdom 21 rfl) ?_
    refine r_aloadn (pc := 37) hX 0 rfl (dk D_X12_kingdom 22 rfl) ?_
    refine r_iconst (pc := 38) hX (dk D_X12_kingdom 23 rfl) ?_
    obtain ⟨μ8, hμ8, h⟩ := bd_some h
    refine r_putI (pc := 39) hX fl_12_159 rfl rfl (R32_lit rfl) trivial hμ8 (dk D_X12_kingdom 24 rfl) ?_
    refine r_aloadn (pc := 42) hX 0 rfl (dk D_X12_kingdom 25 rfl) ?_
    obtain ⟨x9, hx9, h⟩ := bd_some h
    refine r_getR (pc := 43) hX fl_12_24 rfl hx9 (dk D_X12_kingdom 26 rfl) ?_
    obtain ⟨x10, μ11, hx10, h⟩ := bd2_some h
    refine r_invS0 (As := [(2, x9)]) (pc := 46) hX ml_12_111 (L_M_plain hx10) (Rm_of hRm (by decide) ⟨by decide, by decide⟩) (by decide) rfl (Nat.le_of_ble_eq_true rfl) rfl (dk D_X12_kingdom 27 rfl) (fun _ => ?_)
    refine r_aloadn (pc := 49) hX 0 rfl (dk D_X12_kingdom 28 rfl) ?_
    obtain ⟨_, hi, h⟩ := bd_some h
    obtain ⟨x12, μ13, hx12, h⟩ := bd2_some h
    refine r_invV0 (As := []) (pc := 50) hX ml_12_168 (L_M_next hx12) (isk_u hi) (Rm_of hRm (by decide) ⟨by decide, by decide⟩) (by decide) rfl (Nat.le_of_ble_eq_true rfl) rfl (dk D_X12_kingdom 29 rfl) (fun _ => ?_)
    refine r_sub (lv' := [(0, 2, a0)]) [0] rfl ?_
    refine L_M_kingdom_L53 hX hM hRm ?_ FU a0 μ13 h
    intro x14 μ15  h
    refine L_M_kingdom_J76 hX hM hRm h
  · rw [if_pos hc] at h
    refine r_bipush (pc := 19) hX rfl (dk D_X12_kingdom 11 rfl) ?_
    cases h
    exact r_ireturn (pc := 21) hX (R32_lit rfl) hM ⟨by decide, by decide⟩ (dk D_X12_kingdom 12 rfl)
set_option maxRecDepth 100000 in
set_option maxHeartbeats 4000000 in
theorem L_M_fault {E : EX} {l : Launch} {a0 a1 res : Int} {μ μ' : Mem} (q_a1 : R32 a1) (h : M_fault a0 a1 μ = some (res, μ')) : Ok E l 1 yX12_fault (.code yX12_fault cX12_fault 2 (some .int)) 0 0 [(2, a0), (0, a1)] μ (some (0, res)) μ' := by
  refine Ok.of (own := "TollsBackModel") [(0, 2, a0), (1, 0, a1)] (by decide +kernel) rfl (Nat.le_of_ble_eq_true rfl) rfl ?_
  intro X hL hRm hin hX hM
  unfold M_fault at h
  subst hL
  refine r_aloadn (pc := 0) hX 0 rfl (dk D_X12_fault 0 rfl) ?_
  refine r_iconst (pc := 1) hX (dk D_X12_fault 1 rfl) ?_
  obtain ⟨μ1, hμ1, h⟩ := bd_some h
  refine r_putI (pc := 2) hX fl_12_1 rfl rfl (R32_lit rfl) trivial hμ1 (dk D_X12_fault 2 rfl) ?_
  refine r_iloadn (pc := 5) hX 1 rfl (dk D_X12_fault 3 rfl) ?_
  refine r_if_ne (pc := 6) hX q_a1 16 rfl (dk D_X12_fault 4 rfl) (fun hc => ?_) (fun hc => ?_)
  · rw [if_neg hc] at h
    refine r_iloadn (pc := 16) hX 1 rfl (dk D_X12_fault 8 rfl) ?_
    refine r_iconst (pc := 17) hX (dk D_X12_fault 9 rfl) ?_
    refine r_icmp_ne (pc := 18) hX q_a1 (R32_lit rfl) 28 rfl (dk D_X12_fault 10 rfl) (fun hc => ?_) (fun hc => ?_)
    · rw [if_neg hc] at h
      refine r_iconst (pc := 28) hX (dk D_X12_fault 14 rfl) ?_
      cases h
      exact r_ireturn (pc := 29) hX (R32_lit rfl) hM ⟨by decide, by decide⟩ (dk D_X12_fault 15 rfl)
    · rw [if_pos hc] at h
      refine r_aloadn (pc := 21) hX 0 rfl (dk D_X12_fault 11 rfl) ?_
      obtain ⟨x2, hx2, h⟩ := bd_some h
      refine r_getI (pc := 22) hX fl_12_27 rfl rfl hx2 (dk D_X12_fault 12 rfl) (fun qx2 => ?_)
      refine r_goto (pc := 25) hX 29 rfl (dk D_X12_fault 13 rfl) ?_
      cases h
      exact r_ireturn (pc := 29) hX qx2 hM ⟨by decide, by decide⟩ (dk D_X12_fault 15 rfl)
  · rw [if_pos hc] at h
    refine r_aloadn (pc := 9) hX 0 rfl (dk D_X12_fault 5 rfl) ?_
    obtain ⟨x3, hx3, h⟩ := bd_some h
    refine r_getI (pc := 10) hX fl_12_204 rfl rfl hx3 (dk D_X12_fault 6 rfl) (fun qx3 => ?_)
    refine r_goto (pc := 13) hX 29 rfl (dk D_X12_fault 7 rfl) ?_
    cases h
    exact r_ireturn (pc := 29) hX qx3 hM ⟨by decide, by decide⟩ (dk D_X12_fault 15 rfl)
set_option maxRecDepth 100000 in
set_option maxHeartbeats 4000000 in
theorem L_M_isRoad {E : EX} {l : Launch} {a0 a1 res : Int} {μ μ' : Mem} (q_a1 : R64 a1) (h : M_isRoad a0 a1 μ = some (res, μ')) : Ok E l 2 yX12_isRoad (.code yX12_isRoad cX12_isRoad 3 (some .boolean)) 0 0 [(2, a0), (1, a1)] μ (some (0, res)) μ' := by
  refine Ok.of (own := "TollsBackModel") [(0, 2, a0), (1, 1, a1)] (by decide +kernel) rfl (Nat.le_of_ble_eq_true rfl) rfl ?_
  intro X hL hRm hin hX hM
  unfold M_isRoad at h
  subst hL
  refine r_lloadn (pc := 0) hX 1 rfl (dk D_X12_isRoad 0 rfl) ?_
  refine r_lconst (x := 0) (pc := 1) hX (by decide) (dk D_X12_isRoad 1 rfl) ?_
  refine r_aloadn (pc := 2) hX 0 rfl (dk D_X12_isRoad 2 rfl) ?_
  obtain ⟨x1, hx1, h⟩ := bd_some h
  refine r_getR (pc := 3) hX fl_12_13 rfl hx1 (dk D_X12_isRoad 3 rfl) ?_
  refine r_bipush (pc := 6) hX rfl (dk D_X12_isRoad 4 rfl) ?_
  obtain ⟨x2, hx2, h⟩ := bd_some h
  refine r_iald (pc := 8) hX (R32_lit rfl) hx2 (dk D_X12_isRoad 5 rfl) (fun qx2 => ?_)
  refine r_iconst (pc := 9) hX (dk D_X12_isRoad 6 rfl) ?_
  refine r_isub (pc := 10) hX (dk D_X12_isRoad 7 rfl) ?_
  refine r_i2l (pc := 11) hX (R32_w _) (dk D_X12_isRoad 8 rfl) ?_
  obtain ⟨x3, μ4, hx3, h⟩ := bd2_some h
  refine r_invS0 (As := [(1, a1), (1, 0), (1, (w32 (x2 - 1)))]) (pc := 12) hX ml_12_178 (L_M_within q_a1 (R64_lit rfl) (R64_of (R32_w _)) hx3) (Rm_of hRm (by decide) ⟨by decide, by decide⟩) (by decide) rfl (Nat.le_of_ble_eq_true rfl) rfl (dk D_X12_isRoad 9 rfl) (fun qx3 => ?_)
  obtain ⟨_, hz, h⟩ := bd_some h
  cases h
  exact r_zreturn (pc := 15) hX qx3 hM (okz_some hz) ⟨by decide, by decide⟩ (dk D_X12_isRoad 10 rfl)
set_option maxRecDepth 100000 in
set_option maxHeartbeats 4000000 in
theorem L_M_road {E : EX} {l : Launch} {a0 a1 a2 res : Int} {μ μ' : Mem} (q_a1 : R32 a1) (q_a2 : R32 a2) (h : M_road a0 a1 a2 μ = some (res, μ')) : Ok E l 3 yX12_road (.code yX12_road cX12_road 3 (some .int)) 0 0 [(2, a0), (0, a1), (0, a2)] μ (some (0, res)) μ' := by
  refine Ok.of (own := "TollsBackModel") [(0, 2, a0), (1, 0, a1), (2, 0, a2)] (by decide +kernel) rfl (Nat.le_of_ble_eq_true rfl) rfl ?_
  intro X hL hRm hin hX hM
  unfold M_road at h
  subst hL
  refine r_aloadn (pc := 0) hX 0 rfl (dk D_X12_road 0 rfl) ?_
  refine r_iconst (pc := 1) hX (dk D_X12_road 1 rfl) ?_
  obtain ⟨μ1, hμ1, h⟩ := bd_some h
  refine r_putI (pc := 2) hX fl_12_1 rfl rfl (R32_lit rfl) trivial hμ1 (dk D_X12_road 2 rfl) ?_
  refine r_aloadn (pc := 5) hX 0 rfl (dk D_X12_road 3 rfl) ?_
  refine r_iloadn (pc := 6) hX 1 rfl (dk D_X12_road 4 rfl) ?_
  refine r_i2l (pc := 7) hX q_a1 (dk D_X12_road 5 rfl) ?_
  obtain ⟨_, hi, h⟩ := bd_some h
  obtain ⟨x2, μ3, hx2, h⟩ := bd2_some h
  refine r_invV0 (As := [(1, a1)]) (pc := 8) hX ml_12_207 (L_M_isRoad (R64_of q_a1) hx2) (isk_u hi) (Rm_of hRm (by decide) ⟨by decide, by decide⟩) (by decide) rfl (Nat.le_of_ble_eq_true rfl) rfl (dk D_X12_road 6 rfl) (fun qx2 => ?_)
  refine r_if_eq (pc := 11) hX qx2 26 rfl (dk D_X12_road 7 rfl) (fun hc => ?_) (fun hc => ?_)
  · rw [if_pos hc] at h
    refine r_bipush (pc := 26) hX rfl (dk D_X12_road 14 rfl) ?_
    cases h
    exact r_ireturn (pc := 28) hX (R32_lit rfl) hM ⟨by decide, by decide⟩ (dk D_X12_road 15 rfl)
  · rw [if_neg hc] at h
    refine r_iloadn (pc := 14) hX 2 rfl (dk D_X12_road 8 rfl) ?_
    refine r_i2l (pc := 15) hX q_a2 (dk D_X12_road 9 rfl) ?_
    refine r_lconst (x := 0) (pc := 16) hX (by decide) (dk D_X12_road 10 rfl) ?_
    refine r_ldc2 (pc := 17) hX cn_12_211 (dk D_X12_road 11 rfl) ?_
    obtain ⟨x4, μ5, hx4, h⟩ := bd2_some h
    refine r_invS0 (As := [(1, a2), (1, 0), (1, 5)]) (pc := 20) hX ml_12_178 (L_M_within (R64_of q_a2) (R64_lit rfl) (R64_lit rfl) hx4) (Rm_of hRm (by decide) ⟨by decide, by decide⟩) (by decide) rfl (Nat.le_of_ble_eq_true rfl) rfl (dk D_X12_road 12 rfl) (fun qx4 => ?_)
    refine r_if_ne (pc := 23) hX qx4 29 rfl (dk D_X12_road 13 rfl) (fun hc => ?_) (fun hc => ?_)
    · rw [if_neg hc] at h
      refine r_iloadn (pc := 29) hX 2 rfl (dk D_X12_road 16 rfl) ?_
      refine r_iconst (pc := 30) hX (dk D_X12_road 17 rfl) ?_
      refine r_icmp_ne (pc := 31) hX q_a2 (R32_lit rfl) 47 rfl (dk D_X12_road 18 rfl) (fun hc => ?_) (fun hc => ?_)
      · rw [if_neg hc] at h
        refine r_aloadn (pc := 47) hX 0 rfl (dk D_X12_road 26 rfl) ?_
        obtain ⟨x6, hx6, h⟩ := bd_some h
        refine r_getR (pc := 48) hX fl_12_13 rfl hx6 (dk D_X12_road 27 rfl) ?_
        refine r_bipush (pc := 51) hX rfl (dk D_X12_road 28 rfl) ?_
        refine r_bipush (pc := 53) hX rfl (dk D_X12_road 29 rfl) ?_
        refine r_iloadn (pc := 55) hX 2 rfl (dk D_X12_road 30 rfl) ?_
        refine r_imul (pc := 56) hX (dk D_X12_road 31 rfl) ?_
        refine r_iadd (pc := 57) hX (dk D_X12_road 32 rfl) ?_
        refine r_iloadn (pc := 58) hX 1 rfl (dk D_X12_road 33 rfl) ?_
        refine r_iadd (pc := 59) hX (dk D_X12_road 34 rfl) ?_
        obtain ⟨x7, hx7, h⟩ := bd_some h
        refine r_iald (pc := 60) hX (R32_w _) hx7 (dk D_X12_road 35 rfl) (fun qx7 => ?_)
        cases h
        exact r_ireturn (pc := 61) hX qx7 hM ⟨by decide, by decide⟩ (dk D_X12_road 36 rfl)
      · rw [if_pos hc] at h
        refine r_aloadn (pc := 34) hX 0 rfl (dk D_X12_road 19 rfl) ?_
        obtain ⟨x8, hx8, h⟩ := bd_some h
        refine r_getR (pc := 35) hX fl_12_13 rfl hx8 (dk D_X12_road 20 rfl) ?_
        refine r_sipush (pc := 38) hX rfl (dk D_X12_road 21 rfl) ?_
        refine r_iloadn (pc := 41) hX 1 rfl (dk D_X12_road 22 rfl) ?_
        refine r_iadd (pc := 42) hX (dk D_X12_road 23 rfl) ?_
        obtain ⟨x9, hx9, h⟩ := bd_some h
        refine r_iald (pc := 43) hX (R32_w _) hx9 (dk D_X12_road 24 rfl) (fun qx9 => ?_)
        refine r_goto (pc := 44) hX 61 rfl (dk D_X12_road 25 rfl) ?_
        cases h
        exact r_ireturn (pc := 61) hX qx9 hM ⟨by decide, by decide⟩ (dk D_X12_road 36 rfl)
    · rw [if_pos hc] at h
      refine r_bipush (pc := 26) hX rfl (dk D_X12_road 14 rfl) ?_
      cases h
      exact r_ireturn (pc := 28) hX (R32_lit rfl) hM ⟨by decide, by decide⟩ (dk D_X12_road 15 rfl)
set_option maxRecDepth 100000 in
set_option maxHeartbeats 4000000 in
theorem L_M_leads {E : EX} {l : Launch} {a0 a1 a2 res : Int} {μ μ' : Mem} (q_a1 : R32 a1) (q_a2 : R32 a2) (h : M_leads a0 a1 a2 μ = some (res, μ')) : Ok E l 1 yX12_leads (.code yX12_leads cX12_leads 3 (some .boolean)) 0 0 [(2, a0), (0, a1), (0, a2)] μ (some (0, res)) μ' := by
  refine Ok.of (own := "TollsBackModel") [(0, 2, a0), (1, 0, a1), (2, 0, a2)] (by decide +kernel) rfl (Nat.le_of_ble_eq_true rfl) rfl ?_
  intro X hL hRm hin hX hM
  unfold M_leads at h
  subst hL
  refine r_aloadn (pc := 0) hX 0 rfl (dk D_X12_leads 0 rfl) ?_
  obtain ⟨x1, hx1, h⟩ := bd_some h
  refine r_getR (pc := 1) hX fl_12_13 rfl hx1 (dk D_X12_leads 1 rfl) ?_
  refine r_bipush (pc := 4) hX rfl (dk D_X12_leads 2 rfl) ?_
  refine r_iloadn (pc := 6) hX 1 rfl (dk D_X12_leads 3 rfl) ?_
  refine r_iadd (pc := 7) hX (dk D_X12_leads 4 rfl) ?_
  obtain ⟨x2, hx2, h⟩ := bd_some h
  refine r_iald (pc := 8) hX (R32_w _) hx2 (dk D_X12_leads 5 rfl) (fun qx2 => ?_)
  refine r_iloadn (pc := 9) hX 2 rfl (dk D_X12_leads 6 rfl) ?_
  refine r_icmp_eq (pc := 10) hX qx2 q_a2 26 rfl (dk D_X12_leads 7 rfl) (fun hc => ?_) (fun hc => ?_)
  · rw [if_pos hc] at h
    refine r_iconst (pc := 26) hX (dk D_X12_leads 16 rfl) ?_
    refine r_goto (pc := 27) hX 31 rfl (dk D_X12_leads 17 rfl) ?_
    cases h
    exact r_zreturn (pc := 31) hX (R32_lit rfl) hM (Or.inr rfl) ⟨by decide, by decide⟩ (dk D_X12_leads 19 rfl)
  · rw [if_neg hc] at h
    refine r_aloadn (pc := 13) hX 0 rfl (dk D_X12_leads 8 rfl) ?_
    obtain ⟨x3, hx3, h⟩ := bd_some h
    refine r_getR (pc := 14) hX fl_12_13 rfl hx3 (dk D_X12_leads 9 rfl) ?_
    refine r_bipush (pc := 17) hX rfl (dk D_X12_leads 10 rfl) ?_
    refine r_iloadn (pc := 19) hX 1 rfl (dk D_X12_leads 11 rfl) ?_
    refine r_iadd (pc := 20) hX (dk D_X12_leads 12 rfl) ?_
    obtain ⟨x4, hx4, h⟩ := bd_some h
    refine r_iald (pc := 21) hX (R32_w _) hx4 (dk D_X12_leads 13 rfl) (fun qx4 => ?_)
    refine r_iloadn (pc := 22) hX 2 rfl (dk D_X12_leads 14 rfl) ?_
    refine r_icmp_ne (pc := 23) hX qx4 q_a2 30 rfl (dk D_X12_leads 15 rfl) (fun hc => ?_) (fun hc => ?_)
    · rw [if_neg hc] at h
      refine r_iconst (pc := 30) hX (dk D_X12_leads 18 rfl) ?_
      cases h
      exact r_zreturn (pc := 31) hX (R32_lit rfl) hM (Or.inl rfl) ⟨by decide, by decide⟩ (dk D_X12_leads 19 rfl)
    · rw [if_pos hc] at h
      refine r_iconst (pc := 26) hX (dk D_X12_leads 16 rfl) ?_
      refine r_goto (pc := 27) hX 31 rfl (dk D_X12_leads 17 rfl) ?_
      cases h
      exact r_zreturn (pc := 31) hX (R32_lit rfl) hM (Or.inr rfl) ⟨by decide, by decide⟩ (dk D_X12_leads 19 rfl)
set_option maxRecDepth 100000 in
set_option maxHeartbeats 4000000 in
theorem L_M_isOpen {E : EX} {l : Launch} {a0 a1 res : Int} {μ μ' : Mem} (q_a1 : R32 a1) (h : M_isOpen a0 a1 μ = some (res, μ')) : Ok E l 1 yX12_isOpen (.code yX12_isOpen cX12_isOpen 2 (some .boolean)) 0 0 [(2, a0), (0, a1)] μ (some (0, res)) μ' := by
  refine Ok.of (own := "TollsBackModel") [(0, 2, a0), (1, 0, a1)] (by decide +kernel) rfl (Nat.le_of_ble_eq_true rfl) rfl ?_
  intro X hL hRm hin hX hM
  unfold M_isOpen at h
  subst hL
  refine r_aloadn (pc := 0) hX 0 rfl (dk D_X12_isOpen 0 rfl) ?_
  obtain ⟨x1, hx1, h⟩ := bd_some h
  refine r_getR (pc := 1) hX fl_12_13 rfl hx1 (dk D_X12_isOpen 1 rfl) ?_
  refine r_sipush (pc := 4) hX rfl (dk D_X12_isOpen 2 rfl) ?_
  refine r_iloadn (pc := 7) hX 1 rfl (dk D_X12_isOpen 3 rfl) ?_
  refine r_iadd (pc := 8) hX (dk D_X12_isOpen 4 rfl) ?_
  obtain ⟨x2, hx2, h⟩ := bd_some h
  refine r_iald (pc := 9) hX (R32_w _) hx2 (dk D_X12_isOpen 5 rfl) (fun qx2 => ?_)
  refine r_if_ne (pc := 10) hX qx2 17 rfl (dk D_X12_isOpen 6 rfl) (fun hc => ?_) (fun hc => ?_)
  · rw [if_neg hc] at h
    refine r_iconst (pc := 17) hX (dk D_X12_isOpen 9 rfl) ?_
    cases h
    exact r_zreturn (pc := 18) hX (R32_lit rfl) hM (Or.inl rfl) ⟨by decide, by decide⟩ (dk D_X12_isOpen 10 rfl)
  · rw [if_pos hc] at h
    refine r_iconst (pc := 13) hX (dk D_X12_isOpen 7 rfl) ?_
    refine r_goto (pc := 14) hX 18 rfl (dk D_X12_isOpen 8 rfl) ?_
    cases h
    exact r_zreturn (pc := 18) hX (R32_lit rfl) hM (Or.inr rfl) ⟨by decide, by decide⟩ (dk D_X12_isOpen 10 rfl)
set_option maxRecDepth 100000 in
set_option maxHeartbeats 4000000 in
theorem L_M_from_L30 {E : EX} {X : CX} {res : Int} {μe : Mem} (hX : Good E X cX12_from 4 "TollsBackModel") (hM : GoodM E X (some .int) (some (0, res)) μe 0 0) (hRm : cR X = rmOf 2 0 0) : ∀ (n : Nat) (v0 v1 v2 v3 : Int) (μ : Mem) (q_v1 : R32 v1) (q_v2 : R32 v2) (q_v3 : R32 v3) (h : M_from_L30 n v0 v1 v2 v3 μ = some (res, μe)), At E X cX12_from 4 "TollsBackModel" (0, 0) 30 [(0, 2, v0), (1, 0, v1), (2, 0, v2), (3, 0, v3)] [] μ := by
  intro n
  induction n with
  | zero =>
    intro v0 v1 v2 v3 μ q_v1 q_v2 q_v3 h
    have h : (none : Option (Int × Mem)) = some (res, μe) := h
    cases h
  | succ n ih =>
    intro v0 v1 v2 v3 μ q_v1 q_v2 q_v3 h
    rw [M_from_L30.eq_2] at h
    refine r_iloadn (pc := 30) hX 3 rfl (dk D_X12_from 21 rfl) ?_
    refine r_aloadn (pc := 31) hX 0 rfl (dk D_X12_from 22 rfl) ?_
    obtain ⟨x1, hx1, h⟩ := bd_some h
    refine r_getR (pc := 32) hX fl_12_13 rfl hx1 (dk D_X12_from 23 rfl) ?_
    refine r_bipush (pc := 35) hX rfl (dk D_X12_from 24 rfl) ?_
    obtain ⟨x2, hx2, h⟩ := bd_some h
    refine r_iald (pc := 37) hX (R32_lit rfl) hx2 (dk D_X12_from 25 rfl) (fun qx2 => ?_)
    refine r_icmp_ge (pc := 38) hX q_v3 qx2 74 rfl (dk D_X12_from 26 rfl) (fun hc => ?_) (fun hc => ?_)
    · rw [if_neg hc] at h
      refine r_iloadn (pc := 74) hX 2 rfl (dk D_X12_from 46 rfl) ?_
      cases h
      exact r_ireturn (pc := 75) hX q_v2 hM ⟨by decide, by decide⟩ (dk D_X12_from 47 rfl)
    · rw [if_pos hc] at h
      refine r_iloadn (pc := 41) hX 2 rfl (dk D_X12_from 27 rfl) ?_
      refine r_aloadn (pc := 42) hX 0 rfl (dk D_X12_from 28 rfl) ?_
      refine r_iloadn (pc := 43) hX 3 rfl (dk D_X12_from 29 rfl) ?_
      obtain ⟨_, hi, h⟩ := bd_some h
      obtain ⟨x3, μ4, hx3, h⟩ := bd2_some h
      refine r_invV0 (As := [(0, v3)]) (pc := 44) hX ml_12_213 (L_M_isOpen q_v3 hx3) (isk_u hi) (Rm_of hRm (by decide) ⟨by decide, by decide⟩) (by decide) rfl (Nat.le_of_ble_eq_true rfl) rfl (dk D_X12_from 30 rfl) (fun qx3 => ?_)
      refine r_if_eq (pc := 47) hX qx3 65 rfl (dk D_X12_from 31 rfl) (fun hc => ?_) (fun hc => ?_)
      · rw [if_pos hc] at h
        refine r_iconst (pc := 65) hX (dk D_X12_from 41 rfl) ?_
        refine r_ior (pc := 66) hX (dk D_X12_from 42 rfl) ?_
        obtain ⟨x5, ex5, h⟩ := bd_some h
        replace ex5 := Option.some.inj ex5
        have qx5 : R32 x5 := ex5 ▸ (R32_t _)
        rw [ex5]
        refine r_istoren (lv' := [(2, 0, x5), (0, 2, v0), (1, 0, v1), (3, 0, v3)]) (pc := 67) hX (by decide) rfl (dk D_X12_from 43 rfl) ?_
        refine r_iinc (lv' := [(3, 0, (w32 (v3 + 1))), (2, 0, x5), (0, 2, v0), (1, 0, v1)]) (pc := 68) hX 3 rfl (by decide) rfl (dk D_X12_from 44 rfl) ?_
        refine r_goto (pc := 71) hX 30 rfl (dk D_X12_from 45 rfl) ?_
        refine r_sub (lv' := [(0, 2, v0), (1, 0, v1), (2, 0, x5), (3, 0, (w32 (v3 + 1)))]) [2, 3, 1, 0] rfl ?_
        exact ih v0 v1 x5 (w32 (v3 + 1)) μ4 q_v1 qx5 (R32_w _) h
      · rw [if_neg hc] at h
        refine r_aloadn (pc := 50) hX 0 rfl (dk D_X12_from 32 rfl) ?_
        refine r_iloadn (pc := 51) hX 3 rfl (dk D_X12_from 33 rfl) ?_
        refine r_iloadn (pc := 52) hX 1 rfl (dk D_X12_from 34 rfl) ?_
        obtain ⟨_, hi, h⟩ := bd_some h
        obtain ⟨x6, μ7, hx6, h⟩ := bd2_some h
        refine r_invV0 (As := [(0, v3), (0, v1)]) (pc := 53) hX ml_12_216 (L_M_leads q_v3 q_v1 hx6) (isk_u hi) (Rm_of hRm (by decide) ⟨by decide, by decide⟩) (by decide) rfl (Nat.le_of_ble_eq_true rfl) rfl (dk D_X12_from 35 rfl) (fun qx6 => ?_)
        refine r_if_eq (pc := 56) hX qx6 65 rfl (dk D_X12_from 36 rfl) (fun hc => ?_) (fun hc => ?_)
        · rw [if_pos hc] at h
          refine r_iconst (pc := 65) hX (dk D_X12_from 41 rfl) ?_
          refine r_ior (pc := 66) hX (dk D_X12_from 42 rfl) ?_
          obtain ⟨x8, ex8, h⟩ := bd_some h
          replace ex8 := Option.some.inj ex8
          have qx8 : R32 x8 := ex8 ▸ (R32_t _)
          rw [ex8]
          refine r_istoren (lv' := [(2, 0, x8), (0, 2, v0), (1, 0, v1), (3, 0, v3)]) (pc := 67) hX (by decide) rfl (dk D_X12_from 43 rfl) ?_
          refine r_iinc (lv' := [(3, 0, (w32 (v3 + 1))), (2, 0, x8), (0, 2, v0), (1, 0, v1)]) (pc := 68) hX 3 rfl (by decide) rfl (dk D_X12_from 44 rfl) ?_
          refine r_goto (pc := 71) hX 30 rfl (dk D_X12_from 45 rfl) ?_
          refine r_sub (lv' := [(0, 2, v0), (1, 0, v1), (2, 0, x8), (3, 0, (w32 (v3 + 1)))]) [2, 3, 1, 0] rfl ?_
          exact ih v0 v1 x8 (w32 (v3 + 1)) μ7 q_v1 qx8 (R32_w _) h
        · rw [if_neg hc] at h
          refine r_iconst (pc := 59) hX (dk D_X12_from 37 rfl) ?_
          refine r_iloadn (pc := 60) hX 3 rfl (dk D_X12_from 38 rfl) ?_
          refine r_ishl (pc := 61) hX (dk D_X12_from 39 rfl) ?_
          refine r_goto (pc := 62) hX 66 rfl (dk D_X12_from 40 rfl) ?_
          refine r_ior (pc := 66) hX (dk D_X12_from 42 rfl) ?_
          obtain ⟨x9, ex9, h⟩ := bd_some h
          replace ex9 := Option.some.inj ex9
          have qx9 : R32 x9 := ex9 ▸ (R32_t _)
          rw [ex9]
          refine r_istoren (lv' := [(2, 0, x9), (0, 2, v0), (1, 0, v1), (3, 0, v3)]) (pc := 67) hX (by decide) rfl (dk D_X12_from 43 rfl) ?_
          refine r_iinc (lv' := [(3, 0, (w32 (v3 + 1))), (2, 0, x9), (0, 2, v0), (1, 0, v1)]) (pc := 68) hX 3 rfl (by decide) rfl (dk D_X12_from 44 rfl) ?_
          refine r_goto (pc := 71) hX 30 rfl (dk D_X12_from 45 rfl) ?_
          refine r_sub (lv' := [(0, 2, v0), (1, 0, v1), (2, 0, x9), (3, 0, (w32 (v3 + 1)))]) [2, 3, 1, 0] rfl ?_
          exact ih v0 v1 x9 (w32 (v3 + 1)) μ7 q_v1 qx9 (R32_w _) h
set_option maxRecDepth 100000 in
set_option maxHeartbeats 4000000 in
theorem L_M_from {E : EX} {l : Launch} {a0 a1 res : Int} {μ μ' : Mem} (q_a1 : R32 a1) (h : M_from a0 a1 μ = some (res, μ')) : Ok E l 2 yX12_from (.code yX12_from cX12_from 4 (some .int)) 0 0 [(2, a0), (0, a1)] μ (some (0, res)) μ' := by
  refine Ok.of (own := "TollsBackModel") [(0, 2, a0), (1, 0, a1)] (by decide +kernel) rfl (Nat.le_of_ble_eq_true rfl) rfl ?_
  intro X hL hRm hin hX hM
  unfold M_from at h
  subst hL
  refine r_aloadn (pc := 0) hX 0 rfl (dk D_X12_from 0 rfl) ?_
  refine r_iconst (pc := 1) hX (dk D_X12_from 1 rfl) ?_
  obtain ⟨μ1, hμ1, h⟩ := bd_some h
  refine r_putI (pc := 2) hX fl_12_1 rfl rfl (R32_lit rfl) trivial hμ1 (dk D_X12_from 2 rfl) ?_
  refine r_iloadn (pc := 5) hX 1 rfl (dk D_X12_from 3 rfl) ?_
  refine r_i2l (pc := 6) hX q_a1 (dk D_X12_from 4 rfl) ?_
  refine r_lconst (x := 0) (pc := 7) hX (by decide) (dk D_X12_from 5 rfl) ?_
  refine r_aloadn (pc := 8) hX 0 rfl (dk D_X12_from 6 rfl) ?_
  obtain ⟨x2, hx2, h⟩ := bd_some h
  refine r_getR (pc := 9) hX fl_12_13 rfl hx2 (dk D_X12_from 7 rfl) ?_
  refine r_iconst (pc := 12) hX (dk D_X12_from 8 rfl) ?_
  obtain ⟨x3, hx3, h⟩ := bd_some h
  refine r_iald (pc := 13) hX (R32_lit rfl) hx3 (dk D_X12_from 9 rfl) (fun qx3 => ?_)
  refine r_iconst (pc := 14) hX (dk D_X12_from 10 rfl) ?_
  refine r_isub (pc := 15) hX (dk D_X12_from 11 rfl) ?_
  refine r_i2l (pc := 16) hX (R32_w _) (dk D_X12_from 12 rfl) ?_
  obtain ⟨x4, μ5, hx4, h⟩ := bd2_some h
  refine r_invS0 (As := [(1, a1), (1, 0), (1, (w32 (x3 - 1)))]) (pc := 17) hX ml_12_178 (L_M_within (R64_of q_a1) (R64_lit rfl) (R64_of (R32_w _)) hx4) (Rm_of hRm (by decide) ⟨by decide, by decide⟩) (by decide) rfl (Nat.le_of_ble_eq_true rfl) rfl (dk D_X12_from 13 rfl) (fun qx4 => ?_)
  refine r_if_ne (pc := 20) hX qx4 26 rfl (dk D_X12_from 14 rfl) (fun hc => ?_) (fun hc => ?_)
  · rw [if_neg hc] at h
    refine r_iconst (pc := 26) hX (dk D_X12_from 17 rfl) ?_
    refine r_istoren (lv' := [(2, 0, 0), (0, 2, a0), (1, 0, a1)]) (pc := 27) hX (by decide) rfl (dk D_X12_from 18 rfl) ?_
    refine r_iconst (pc := 28) hX (dk D_X12_from 19 rfl) ?_
    refine r_istoren (lv' := [(3, 0, 0), (2, 0, 0), (0, 2, a0), (1, 0, a1)]) (pc := 29) hX (by decide) rfl (dk D_X12_from 20 rfl) ?_
    refine r_sub (lv' := [(0, 2, a0), (1, 0, a1), (2, 0, 0), (3, 0, 0)]) [2, 3, 1, 0] rfl ?_
    refine L_M_from_L30 hX hM hRm FU a0 a1 0 0 μ5 q_a1 (R32_lit rfl) (R32_lit rfl) h
  · rw [if_pos hc] at h
    refine r_bipush (pc := 23) hX rfl (dk D_X12_from 15 rfl) ?_
    cases h
    exact r_ireturn (pc := 25) hX (R32_lit rfl) hM ⟨by decide, by decide⟩ (dk D_X12_from 16 rfl)
set_option maxRecDepth 100000 in
set_option maxHeartbeats 4000000 in
theorem L_M_close {E : EX} {l : Launch} {a0 a1 a2 res : Int} {μ μ' : Mem} (q_a1 : R32 a1) (q_a2 : R32 a2) (h : M_close a0 a1 a2 μ = some (res, μ')) : Ok E l 3 yX12_close (.code yX12_close cX12_close 4 (some .int)) 0 0 [(2, a0), (0, a1), (0, a2)] μ (some (0, res)) μ' := by
  refine Ok.of (own := "TollsBackModel") [(0, 2, a0), (1, 0, a1), (2, 0, a2)] (by decide +kernel) rfl (Nat.le_of_ble_eq_true rfl) rfl ?_
  intro X hL hRm hin hX hM
  unfold M_close at h
  subst hL
  refine r_aloadn (pc := 0) hX 0 rfl (dk D_X12_close 0 rfl) ?_
  refine r_iconst (pc := 1) hX (dk D_X12_close 1 rfl) ?_
  obtain ⟨μ1, hμ1, h⟩ := bd_some h
  refine r_putI (pc := 2) hX fl_12_1 rfl rfl (R32_lit rfl) trivial hμ1 (dk D_X12_close 2 rfl) ?_
  refine r_aloadn (pc := 5) hX 0 rfl (dk D_X12_close 3 rfl) ?_
  refine r_iloadn (pc := 6) hX 1 rfl (dk D_X12_close 4 rfl) ?_
  refine r_i2l (pc := 7) hX q_a1 (dk D_X12_close 5 rfl) ?_
  obtain ⟨_, hi, h⟩ := bd_some h
  obtain ⟨x2, μ3, hx2, h⟩ := bd2_some h
  refine r_invV0 (As := [(1, a1)]) (pc := 8) hX ml_12_207 (L_M_isRoad (R64_of q_a1) hx2) (isk_u hi) (Rm_of hRm (by decide) ⟨by decide, by decide⟩) (by decide) rfl (Nat.le_of_ble_eq_true rfl) rfl (dk D_X12_close 6 rfl) (fun qx2 => ?_)
  refine r_if_ne (pc := 11) hX qx2 17 rfl (dk D_X12_close 7 rfl) (fun hc => ?_) (fun hc => ?_)
  · rw [if_neg hc] at h
    refine r_aloadn (pc := 17) hX 0 rfl (dk D_X12_close 10 rfl) ?_
    obtain ⟨x4, hx4, h⟩ := bd_some h
    refine r_getR (pc := 18) hX fl_12_13 rfl hx4 (dk D_X12_close 11 rfl) ?_
    refine r_sipush (pc := 21) hX rfl (dk D_X12_close 12 rfl) ?_
    refine r_iloadn (pc := 24) hX 1 rfl (dk D_X12_close 13 rfl) ?_
    refine r_iadd (pc := 25) hX (dk D_X12_close 14 rfl) ?_
    obtain ⟨x5, hx5, h⟩ := bd_some h
    refine r_iald (pc := 26) hX (R32_w _) hx5 (dk D_X12_close 15 rfl) (fun qx5 => ?_)
    refine r_istoren (lv' := [(3, 0, x5), (0, 2, a0), (1, 0, a1), (2, 0, a2)]) (pc := 27) hX (by decide) rfl (dk D_X12_close 16 rfl) ?_
    refine r_aloadn (pc := 28) hX 1 rfl (dk D_X12_close 17 rfl) ?_
    obtain ⟨x6, hx6, h⟩ := bd_some h
    refine r_getR (pc := 29) hX fl_12_13 rfl hx6 (dk D_X12_close 18 rfl) ?_
    refine r_sipush (pc := 32) hX rfl (dk D_X12_close 19 rfl) ?_
    refine r_iloadn (pc := 35) hX 2 rfl (dk D_X12_close 20 rfl) ?_
    refine r_iadd (pc := 36) hX (dk D_X12_close 21 rfl) ?_
    refine r_iloadn (pc := 37) hX 3 rfl (dk D_X12_close 22 rfl) ?_
    obtain ⟨y7, hb, h⟩ := bd_some h
    have hj : R32 y7 → At E X cX12_close 4 "TollsBackModel" (0, 0) 46 [(3, 0, x5)] [(0, y7), (0, (w32 (128 + a1))), (2, x6)] μ3 := by
      intro qy7
      clear hb
      obtain ⟨μ8, hμ8, h⟩ := bd_some h
      refine r_iast (pc := 46) hX (R32_w _) qy7 hμ8 (dk D_X12_close 27 rfl) ?_
      refine r_iloadn (pc := 47) hX 0 rfl (dk D_X12_close 28 rfl) ?_
      cases h
      exact r_ireturn (pc := 48) hX qx5 hM ⟨by decide, by decide⟩ (dk D_X12_close 29 rfl)
    clear h
    have h := hb
    clear hb
    refine r_if_eq (pc := 38) hX q_a2 45 rfl (dk D_X12_close 23 rfl) (fun hc => ?_) (fun hc => ?_)
    · rw [if_pos hc] at h
      refine r_iconst (pc := 45) hX (dk D_X12_close 26 rfl) ?_
      replace h := Option.some.inj h
      subst y7
      refine r_sub (lv' := [(3, 0, x5)]) [0] rfl ?_
      exact hj (R32_lit rfl)
    · rw [if_neg hc] at h
      refine r_iconst (pc := 41) hX (dk D_X12_close 24 rfl) ?_
      refine r_goto (pc := 42) hX 46 rfl (dk D_X12_close 25 rfl) ?_
      replace h := Option.some.inj h
      subst y7
      refine r_sub (lv' := [(3, 0, x5)]) [0] rfl ?_
      exact hj (R32_lit rfl)
  · rw [if_pos hc] at h
    refine r_bipush (pc := 14) hX rfl (dk D_X12_close 8 rfl) ?_
    cases h
    exact r_ireturn (pc := 16) hX (R32_lit rfl) hM ⟨by decide, by decide⟩ (dk D_X12_close 9 rfl)
set_option maxRecDepth 100000 in
set_option maxHeartbeats 4000000 in
theorem L_M_isSummer {E : EX} {l : Launch} {a0 a1 res : Int} {μ μ' : Mem} (q_a1 : R32 a1) (h : M_isSummer a0 a1 μ = some (res, μ')) : Ok E l 2 yX12_isSummer (.code yX12_isSummer cX12_isSummer 2 (some .boolean)) 0 0 [(2, a0), (0, a1)] μ (some (0, res)) μ' := by
  refine Ok.of (own := "TollsBackModel") [(0, 2, a0), (1, 0, a1)] (by decide +kernel) rfl (Nat.le_of_ble_eq_true rfl) rfl ?_
  intro X hL hRm hin hX hM
  unfold M_isSummer at h
  subst hL
  refine r_iloadn (pc := 0) hX 1 rfl (dk D_X12_isSummer 0 rfl) ?_
  refine r_sipush (pc := 1) hX rfl (dk D_X12_isSummer 1 rfl) ?_
  obtain ⟨x1, hx1, h⟩ := bd_some h
  refine r_irem (pc := 4) hX (R32_lit rfl) hx1 (dk D_X12_isSummer 2 rfl) (fun qx1 => ?_)
  refine r_i2l (pc := 5) hX qx1 (dk D_X12_isSummer 3 rfl) ?_
  refine r_aloadn (pc := 6) hX 0 rfl (dk D_X12_isSummer 4 rfl) ?_
  obtain ⟨x2, hx2, h⟩ := bd_some h
  refine r_getR (pc := 7) hX fl_12_13 rfl hx2 (dk D_X12_isSummer 5 rfl) ?_
  refine r_iconst (pc := 10) hX (dk D_X12_isSummer 6 rfl) ?_
  obtain ⟨x3, hx3, h⟩ := bd_some h
  refine r_iald (pc := 11) hX (R32_lit rfl) hx3 (dk D_X12_isSummer 7 rfl) (fun qx3 => ?_)
  refine r_i2l (pc := 12) hX qx3 (dk D_X12_isSummer 8 rfl) ?_
  refine r_aloadn (pc := 13) hX 0 rfl (dk D_X12_isSummer 9 rfl) ?_
  obtain ⟨x4, hx4, h⟩ := bd_some h
  refine r_getR (pc := 14) hX fl_12_13 rfl hx4 (dk D_X12_isSummer 10 rfl) ?_
  refine r_iconst (pc := 17) hX (dk D_X12_isSummer 11 rfl) ?_
  obtain ⟨x5, hx5, h⟩ := bd_some h
  refine r_iald (pc := 18) hX (R32_lit rfl) hx5 (dk D_X12_isSummer 12 rfl) (fun qx5 => ?_)
  refine r_i2l (pc := 19) hX qx5 (dk D_X12_isSummer 13 rfl) ?_
  obtain ⟨x6, μ7, hx6, h⟩ := bd2_some h
  refine r_invS0 (As := [(1, x1), (1, x3), (1, x5)]) (pc := 20) hX ml_12_178 (L_M_within (R64_of qx1) (R64_of qx3) (R64_of qx5) hx6) (Rm_of hRm (by decide) ⟨by decide, by decide⟩) (by decide) rfl (Nat.le_of_ble_eq_true rfl) rfl (dk D_X12_isSummer 14 rfl) (fun qx6 => ?_)
  obtain ⟨_, hz, h⟩ := bd_some h
  cases h
  exact r_zreturn (pc := 23) hX qx6 hM (okz_some hz) ⟨by decide, by decide⟩ (dk D_X12_isSummer 15 rfl)
set_option maxRecDepth 100000 in
set_option maxHeartbeats 4000000 in
theorem L_M_summer {E : EX} {l : Launch} {a0 a1 res : Int} {μ μ' : Mem} (q_a1 : R32 a1) (h : M_summer a0 a1 μ = some (res, μ')) : Ok E l 3 yX12_summer (.code yX12_summer cX12_summer 2 (some .int)) 0 0 [(2, a0), (0, a1)] μ (some (0, res)) μ' := by
  refine Ok.of (own := "TollsBackModel") [(0, 2, a0), (1, 0, a1)] (by decide +kernel) rfl (Nat.le_of_ble_eq_true rfl) rfl ?_
  intro X hL hRm hin hX hM
  unfold M_summer at h
  subst hL
  refine r_aloadn (pc := 0) hX 0 rfl (dk D_X12_summer 0 rfl) ?_
  refine r_iconst (pc := 1) hX (dk D_X12_summer 1 rfl) ?_
  obtain ⟨μ1, hμ1, h⟩ := bd_some h
  refine r_putI (pc := 2) hX fl_12_1 rfl rfl (R32_lit rfl) trivial hμ1 (dk D_X12_summer 2 rfl) ?_
  refine r_iloadn (pc := 5) hX 1 rfl (dk D_X12_summer 3 rfl) ?_
  refine r_if_ge (pc := 6) hX q_a1 14 rfl (dk D_X12_summer 4 rfl) (fun hc => ?_) (fun hc => ?_)
  · rw [if_neg hc] at h
    refine r_aloadn (pc := 14) hX 0 rfl (dk D_X12_summer 7 rfl) ?_
    refine r_iloadn (pc := 15) hX 1 rfl (dk D_X12_summer 8 rfl) ?_
    obtain ⟨_, hi, h⟩ := bd_some h
    obtain ⟨x2, μ3, hx2, h⟩ := bd2_some h
    refine r_invV0 (As := [(0, a1)]) (pc := 16) hX ml_12_220 (L_M_isSummer q_a1 hx2) (isk_u hi) (Rm_of hRm (by decide) ⟨by decide, by decide⟩) (by decide) rfl (Nat.le_of_ble_eq_true rfl) rfl (dk D_X12_summer 9 rfl) (fun qx2 => ?_)
    refine r_if_eq (pc := 19) hX qx2 26 rfl (dk D_X12_summer 10 rfl) (fun hc => ?_) (fun hc => ?_)
    · rw [if_pos hc] at h
      refine r_iconst (pc := 26) hX (dk D_X12_summer 13 rfl) ?_
      cases h
      exact r_ireturn (pc := 27) hX (R32_lit rfl) hM ⟨by decide, by decide⟩ (dk D_X12_summer 14 rfl)
    · rw [if_neg hc] at h
      refine r_iconst (pc := 22) hX (dk D_X12_summer 11 rfl) ?_
      refine r_goto (pc := 23) hX 27 rfl (dk D_X12_summer 12 rfl) ?_
      cases h
      exact r_ireturn (pc := 27) hX (R32_lit rfl) hM ⟨by decide, by decide⟩ (dk D_X12_summer 14 rfl)
  · rw [if_pos hc] at h
    refine r_bipush (pc := 9) hX rfl (dk D_X12_summer 5 rfl) ?_
    refine r_goto (pc := 11) hX 27 rfl (dk D_X12_summer 6 rfl) ?_
    cases h
    exact r_ireturn (pc := 27) hX (R32_lit rfl) hM ⟨by decide, by decide⟩ (dk D_X12_summer 14 rfl)
set_option maxRecDepth 100000 in
set_option maxHeartbeats 4000000 in
theorem L_M_tollOn {E : EX} {l : Launch} {a0 a1 a2 res : Int} {μ μ' : Mem} (q_a1 : R32 a1) (q_a2 : R32 a2) (h : M_tollOn a0 a1 a2 μ = some (res, μ')) : Ok E l 3 yX12_tollOn (.code yX12_tollOn cX12_tollOn 3 (some .int)) 0 0 [(2, a0), (0, a1), (0, a2)] μ (some (0, res)) μ' := by
  refine Ok.of (own := "TollsBackModel") [(0, 2, a0), (1, 0, a1), (2, 0, a2)] (by decide +kernel) rfl (Nat.le_of_ble_eq_true rfl) rfl ?_
  intro X hL hRm hin hX hM
  unfold M_tollOn at h
  subst hL
  refine r_aloadn (pc := 0) hX 0 rfl (dk D_X12_tollOn 0 rfl) ?_
  obtain ⟨x1, hx1, h⟩ := bd_some h
  refine r_getR (pc := 1) hX fl_12_13 rfl hx1 (dk D_X12_tollOn 1 rfl) ?_
  refine r_aloadn (pc := 4) hX 0 rfl (dk D_X12_tollOn 2 rfl) ?_
  refine r_iloadn (pc := 5) hX 2 rfl (dk D_X12_tollOn 3 rfl) ?_
  obtain ⟨_, hi, h⟩ := bd_some h
  obtain ⟨x2, μ3, hx2, h⟩ := bd2_some h
  refine r_invV0 (As := [(0, a2)]) (pc := 6) hX ml_12_220 (L_M_isSummer q_a2 hx2) (isk_u hi) (Rm_of hRm (by decide) ⟨by decide, by decide⟩) (by decide) rfl (Nat.le_of_ble_eq_true rfl) rfl (dk D_X12_tollOn 4 rfl) (fun qx2 => ?_)
  refine r_if_eq (pc := 9) hX qx2 17 rfl (dk D_X12_tollOn 5 rfl) (fun hc => ?_) (fun hc => ?_)
  · rw [if_pos hc] at h
    refine r_bipush (pc := 17) hX rfl (dk D_X12_tollOn 8 rfl) ?_
    refine r_iloadn (pc := 19) hX 1 rfl (dk D_X12_tollOn 9 rfl) ?_
    refine r_iadd (pc := 20) hX (dk D_X12_tollOn 10 rfl) ?_
    obtain ⟨x4, hx4, h⟩ := bd_some h
    refine r_iald (pc := 21) hX (R32_w _) hx4 (dk D_X12_tollOn 11 rfl) (fun qx4 => ?_)
    cases h
    exact r_ireturn (pc := 22) hX qx4 hM ⟨by decide, by decide⟩ (dk D_X12_tollOn 12 rfl)
  · rw [if_neg hc] at h
    refine r_bipush (pc := 12) hX rfl (dk D_X12_tollOn 6 rfl) ?_
    refine r_goto (pc := 14) hX 19 rfl (dk D_X12_tollOn 7 rfl) ?_
    refine r_iloadn (pc := 19) hX 1 rfl (dk D_X12_tollOn 9 rfl) ?_
    refine r_iadd (pc := 20) hX (dk D_X12_tollOn 10 rfl) ?_
    obtain ⟨x5, hx5, h⟩ := bd_some h
    refine r_iald (pc := 21) hX (R32_w _) hx5 (dk D_X12_tollOn 11 rfl) (fun qx5 => ?_)
    cases h
    exact r_ireturn (pc := 22) hX qx5 hM ⟨by decide, by decide⟩ (dk D_X12_tollOn 12 rfl)
set_option maxRecDepth 100000 in
set_option maxHeartbeats 4000000 in
theorem L_M_when_L37 {E : EX} {X : CX} {res : Int} {μe : Mem} (hX : Good E X cX12_when 5 "TollsBackModel") (hM : GoodM E X (some .int) (some (0, res)) μe 0 0) (hRm : cR X = rmOf 4 0 0) : ∀ (n : Nat) (v0 v1 v2 v3 v4 : Int) (μ : Mem) (q_v1 : R32 v1) (q_v2 : R32 v2) (q_v3 : R32 v3) (q_v4 : R32 v4) (h : M_when_L37 n v0 v1 v2 v3 v4 μ = some (res, μe)), At E X cX12_when 5 "TollsBackModel" (0, 0) 37 [(0, 2, v0), (1, 0, v1), (2, 0, v2), (3, 0, v3), (4, 0, v4)] [] μ := by
  intro n
  induction n with
  | zero =>
    intro v0 v1 v2 v3 v4 μ q_v1 q_v2 q_v3 q_v4 h
    have h : (none : Option (Int × Mem)) = some (res, μe) := h
    cases h
  | succ n ih =>
    intro v0 v1 v2 v3 v4 μ q_v1 q_v2 q_v3 q_v4 h
    rw [M_when_L37.eq_2] at h
    refine r_iload (pc := 37) hX 4 rfl (dk D_X12_when 22 rfl) ?_
    refine r_iloadn (pc := 39) hX 2 rfl (dk D_X12_when 23 rfl) ?_
    refine r_sipush (pc := 40) hX rfl (dk D_X12_when 24 rfl) ?_
    refine r_iadd (pc := 43) hX (dk D_X12_when 25 rfl) ?_
    refine r_icmp_ge (pc := 44) hX q_v4 (R32_w _) 76 rfl (dk D_X12_when 26 rfl) (fun hc => ?_) (fun hc => ?_)
    · rw [if_neg hc] at h
      refine r_iloadn (pc := 76) hX 3 rfl (dk D_X12_when 42 rfl) ?_
      cases h
      exact r_ireturn (pc := 77) hX q_v3 hM ⟨by decide, by decide⟩ (dk D_X12_when 43 rfl)
    · rw [if_pos hc] at h
      refine r_aloadn (pc := 47) hX 0 rfl (dk D_X12_when 27 rfl) ?_
      refine r_iloadn (pc := 48) hX 1 rfl (dk D_X12_when 28 rfl) ?_
      refine r_iload (pc := 49) hX 4 rfl (dk D_X12_when 29 rfl) ?_
      obtain ⟨_, hi, h⟩ := bd_some h
      obtain ⟨x1, μ2, hx1, h⟩ := bd2_some h
      refine r_invV0 (As := [(0, v1), (0, v4)]) (pc := 51) hX ml_12_225 (L_M_tollOn q_v1 q_v4 hx1) (isk_u hi) (Rm_of hRm (by decide) ⟨by decide, by decide⟩) (by decide) rfl (Nat.le_of_ble_eq_true rfl) rfl (dk D_X12_when 30 rfl) (fun qx1 => ?_)
      refine r_aloadn (pc := 54) hX 0 rfl (dk D_X12_when 31 rfl) ?_
      refine r_iloadn (pc := 55) hX 1 rfl (dk D_X12_when 32 rfl) ?_
      refine r_iloadn (pc := 56) hX 3 rfl (dk D_X12_when 33 rfl) ?_
      obtain ⟨_, hi, h⟩ := bd_some h
      obtain ⟨x3, μ4, hx3, h⟩ := bd2_some h
      refine r_invV0 (As := [(0, v1), (0, v3)]) (pc := 57) hX ml_12_225 (L_M_tollOn q_v1 q_v3 hx3) (isk_u hi) (Rm_of hRm (by decide) ⟨by decide, by decide⟩) (by decide) rfl (Nat.le_of_ble_eq_true rfl) rfl (dk D_X12_when 34 rfl) (fun qx3 => ?_)
      refine r_icmp_ge (pc := 60) hX qx1 qx3 68 rfl (dk D_X12_when 35 rfl) (fun hc => ?_) (fun hc => ?_)
      · rw [if_neg hc] at h
        refine r_iloadn (pc := 68) hX 3 rfl (dk D_X12_when 38 rfl) ?_
        refine r_istoren (lv' := [(3, 0, v3), (0, 2, v0), (1, 0, v1), (2, 0, v2), (4, 0, v4)]) (pc := 69) hX (by decide) rfl (dk D_X12_when 39 rfl) ?_
        refine r_iinc (lv' := [(4, 0, (w32 (v4 + 1))), (3, 0, v3), (0, 2, v0), (1, 0, v1), (2, 0, v2)]) (pc := 70) hX 4 rfl (by decide) rfl (dk D_X12_when 40 rfl) ?_
        refine r_goto (pc := 73) hX 37 rfl (dk D_X12_when 41 rfl) ?_
        refine r_sub (lv' := [(0, 2, v0), (1, 0, v1), (2, 0, v2), (3, 0, v3), (4, 0, (w32 (v4 + 1)))]) [2, 3, 4, 1, 0] rfl ?_
        exact ih v0 v1 v2 v3 (w32 (v4 + 1)) μ4 q_v1 q_v2 q_v3 (R32_w _) h
      · rw [if_pos hc] at h
        refine r_iload (pc := 63) hX 4 rfl (dk D_X12_when 36 rfl) ?_
        refine r_goto (pc := 65) hX 69 rfl (dk D_X12_when 37 rfl) ?_
        refine r_istoren (lv' := [(3, 0, v4), (0, 2, v0), (1, 0, v1), (2, 0, v2), (4, 0, v4)]) (pc := 69) hX (by decide) rfl (dk D_X12_when 39 rfl) ?_
        refine r_iinc (lv' := [(4, 0, (w32 (v4 + 1))), (3, 0, v4), (0, 2, v0), (1, 0, v1), (2, 0, v2)]) (pc := 70) hX 4 rfl (by decide) rfl (dk D_X12_when 40 rfl) ?_
        refine r_goto (pc := 73) hX 37 rfl (dk D_X12_when 41 rfl) ?_
        refine r_sub (lv' := [(0, 2, v0), (1, 0, v1), (2, 0, v2), (3, 0, v4), (4, 0, (w32 (v4 + 1)))]) [2, 3, 4, 1, 0] rfl ?_
        exact ih v0 v1 v2 v4 (w32 (v4 + 1)) μ4 q_v1 q_v2 q_v4 (R32_w _) h
set_option maxRecDepth 100000 in
set_option maxHeartbeats 4000000 in
theorem L_M_when {E : EX} {l : Launch} {a0 a1 a2 res : Int} {μ μ' : Mem} (q_a1 : R32 a1) (q_a2 : R32 a2) (h : M_when a0 a1 a2 μ = some (res, μ')) : Ok E l 4 yX12_when (.code yX12_when cX12_when 5 (some .int)) 0 0 [(2, a0), (0, a1), (0, a2)] μ (some (0, res)) μ' := by
  refine Ok.of (own := "TollsBackModel") [(0, 2, a0), (1, 0, a1), (2, 0, a2)] (by decide +kernel) rfl (Nat.le_of_ble_eq_true rfl) rfl ?_
  intro X hL hRm hin hX hM
  unfold M_when at h
  subst hL
  refine r_aloadn (pc := 0) hX 0 rfl (dk D_X12_when 0 rfl) ?_
  refine r_iconst (pc := 1) hX (dk D_X12_when 1 rfl) ?_
  obtain ⟨μ1, hμ1, h⟩ := bd_some h
  refine r_putI (pc := 2) hX fl_12_1 rfl rfl (R32_lit rfl) trivial hμ1 (dk D_X12_when 2 rfl) ?_
  refine r_aloadn (pc := 5) hX 0 rfl (dk D_X12_when 3 rfl) ?_
  refine r_iloadn (pc := 6) hX 1 rfl (dk D_X12_when 4 rfl) ?_
  refine r_i2l (pc := 7) hX q_a1 (dk D_X12_when 5 rfl) ?_
  obtain ⟨_, hi, h⟩ := bd_some h
  obtain ⟨x2, μ3, hx2, h⟩ := bd2_some h
  refine r_invV0 (As := [(1, a1)]) (pc := 8) hX ml_12_207 (L_M_isRoad (R64_of q_a1) hx2) (isk_u hi) (Rm_of hRm (by decide) ⟨by decide, by decide⟩) (by decide) rfl (Nat.le_of_ble_eq_true rfl) rfl (dk D_X12_when 6 rfl) (fun qx2 => ?_)
  refine r_if_ne (pc := 11) hX qx2 17 rfl (dk D_X12_when 7 rfl) (fun hc => ?_) (fun hc => ?_)
  · rw [if_neg hc] at h
    refine r_iloadn (pc := 17) hX 2 rfl (dk D_X12_when 10 rfl) ?_
    refine r_i2l (pc := 18) hX q_a2 (dk D_X12_when 11 rfl) ?_
    refine r_lconst (x := 0) (pc := 19) hX (by decide) (dk D_X12_when 12 rfl) ?_
    refine r_ldc2 (pc := 20) hX cn_12_223 (dk D_X12_when 13 rfl) ?_
    obtain ⟨x4, μ5, hx4, h⟩ := bd2_some h
    refine r_invS0 (As := [(1, a2), (1, 0), (1, 99999)]) (pc := 23) hX ml_12_178 (L_M_within (R64_of q_a2) (R64_lit rfl) (R64_lit rfl) hx4) (Rm_of hRm (by decide) ⟨by decide, by decide⟩) (by decide) rfl (Nat.le_of_ble_eq_true rfl) rfl (dk D_X12_when 14 rfl) (fun qx4 => ?_)
    refine r_if_ne (pc := 26) hX qx4 32 rfl (dk D_X12_when 15 rfl) (fun hc => ?_) (fun hc => ?_)
    · rw [if_neg hc] at h
      refine r_iloadn (pc := 32) hX 2 rfl (dk D_X12_when 18 rfl) ?_
      refine r_istoren (lv' := [(3, 0, a2), (0, 2, a0), (1, 0, a1), (2, 0, a2)]) (pc := 33) hX (by decide) rfl (dk D_X12_when 19 rfl) ?_
      refine r_iloadn (pc := 34) hX 3 rfl (dk D_X12_when 20 rfl) ?_
      refine r_istore (lv' := [(4, 0, a2), (3, 0, a2), (0, 2, a0), (1, 0, a1), (2, 0, a2)]) (pc := 35) hX (by decide) rfl (dk D_X12_when 21 rfl) ?_
      refine r_sub (lv' := [(0, 2, a0), (1, 0, a1), (2, 0, a2), (3, 0, a2), (4, 0, a2)]) [2, 3, 4, 1, 0] rfl ?_
      refine L_M_when_L37 hX hM hRm FU a0 a1 a2 a2 a2 μ5 q_a1 q_a2 q_a2 q_a2 h
    · rw [if_pos hc] at h
      refine r_bipush (pc := 29) hX rfl (dk D_X12_when 16 rfl) ?_
      cases h
      exact r_ireturn (pc := 31) hX (R32_lit rfl) hM ⟨by decide, by decide⟩ (dk D_X12_when 17 rfl)
  · rw [if_pos hc] at h
    refine r_bipush (pc := 14) hX rfl (dk D_X12_when 8 rfl) ?_
    cases h
    exact r_ireturn (pc := 16) hX (R32_lit rfl) hM ⟨by decide, by decide⟩ (dk D_X12_when 9 rfl)
set_option maxRecDepth 100000 in
set_option maxHeartbeats 4000000 in
theorem L_M_dartBy {E : EX} {l : Launch} {a0 a1 a2 res : Int} {μ μ' : Mem} (q_a1 : R32 a1) (q_a2 : R32 a2) (h : M_dartBy a0 a1 a2 μ = some (res, μ')) : Ok E l 1 yX12_dartBy (.code yX12_dartBy cX12_dartBy 3 (some .int)) 0 0 [(2, a0), (0, a1), (0, a2)] μ (some (0, res)) μ' := by
  refine Ok.of (own := "TollsBackModel") [(0, 2, a0), (1, 0, a1), (2, 0, a2)] (by decide +kernel) rfl (Nat.le_of_ble_eq_true rfl) rfl ?_
  intro X hL hRm hin hX hM
  unfold M_dartBy at h
  subst hL
  refine r_aloadn (pc := 0) hX 0 rfl (dk D_X12_dartBy 0 rfl) ?_
  obtain ⟨x1, hx1, h⟩ := bd_some h
  refine r_getR (pc := 1) hX fl_12_13 rfl hx1 (dk D_X12_dartBy 1 rfl) ?_
  refine r_bipush (pc := 4) hX rfl (dk D_X12_dartBy 2 rfl) ?_
  refine r_iloadn (pc := 6) hX 1 rfl (dk D_X12_dartBy 3 rfl) ?_
  refine r_iadd (pc := 7) hX (dk D_X12_dartBy 4 rfl) ?_
  obtain ⟨x2, hx2, h⟩ := bd_some h
  refine r_iald (pc := 8) hX (R32_w _) hx2 (dk D_X12_dartBy 5 rfl) (fun qx2 => ?_)
  refine r_iloadn (pc := 9) hX 2 rfl (dk D_X12_dartBy 6 rfl) ?_
  refine r_icmp_ne (pc := 10) hX qx2 q_a2 19 rfl (dk D_X12_dartBy 7 rfl) (fun hc => ?_) (fun hc => ?_)
  · rw [if_neg hc] at h
    refine r_iconst (pc := 19) hX (dk D_X12_dartBy 12 rfl) ?_
    refine r_iloadn (pc := 20) hX 1 rfl (dk D_X12_dartBy 13 rfl) ?_
    refine r_imul (pc := 21) hX (dk D_X12_dartBy 14 rfl) ?_
    refine r_iconst (pc := 22) hX (dk D_X12_dartBy 15 rfl) ?_
    refine r_iadd (pc := 23) hX (dk D_X12_dartBy 16 rfl) ?_
    cases h
    exact r_ireturn (pc := 24) hX (R32_w _) hM ⟨by decide, by decide⟩ (dk D_X12_dartBy 17 rfl)
  · rw [if_pos hc] at h
    refine r_iconst (pc := 13) hX (dk D_X12_dartBy 8 rfl) ?_
    refine r_iloadn (pc := 14) hX 1 rfl (dk D_X12_dartBy 9 rfl) ?_
    refine r_imul (pc := 15) hX (dk D_X12_dartBy 10 rfl) ?_
    refine r_goto (pc := 16) hX 24 rfl (dk D_X12_dartBy 11 rfl) ?_
    cases h
    exact r_ireturn (pc := 24) hX (R32_w _) hM ⟨by decide, by decide⟩ (dk D_X12_dartBy 17 rfl)
set_option maxRecDepth 100000 in
set_option maxHeartbeats 4000000 in
theorem L_M_tailOf {E : EX} {l : Launch} {a0 a1 res : Int} {μ μ' : Mem} (q_a1 : R32 a1) (h : M_tailOf a0 a1 μ = some (res, μ')) : Ok E l 1 yX12_tailOf (.code yX12_tailOf cX12_tailOf 2 (some .int)) 0 0 [(2, a0), (0, a1)] μ (some (0, res)) μ' := by
  refine Ok.of (own := "TollsBackModel") [(0, 2, a0), (1, 0, a1)] (by decide +kernel) rfl (Nat.le_of_ble_eq_true rfl) rfl ?_
  intro X hL hRm hin hX hM
  unfold M_tailOf at h
  subst hL
  refine r_aloadn (pc := 0) hX 0 rfl (dk D_X12_tailOf 0 rfl) ?_
  obtain ⟨x1, hx1, h⟩ := bd_some h
  refine r_getR (pc := 1) hX fl_12_13 rfl hx1 (dk D_X12_tailOf 1 rfl) ?_
  refine r_iloadn (pc := 4) hX 1 rfl (dk D_X12_tailOf 2 rfl) ?_
  refine r_iconst (pc := 5) hX (dk D_X12_tailOf 3 rfl) ?_
  obtain ⟨x2, hx2, h⟩ := bd_some h
  refine r_irem (pc := 6) hX (R32_lit rfl) hx2 (dk D_X12_tailOf 4 rfl) (fun qx2 => ?_)
  refine r_if_ne (pc := 7) hX qx2 15 rfl (dk D_X12_tailOf 5 rfl) (fun hc => ?_) (fun hc => ?_)
  · rw [if_neg hc] at h
    refine r_bipush (pc := 15) hX rfl (dk D_X12_tailOf 8 rfl) ?_
    refine r_iloadn (pc := 17) hX 1 rfl (dk D_X12_tailOf 9 rfl) ?_
    refine r_iconst (pc := 18) hX (dk D_X12_tailOf 10 rfl) ?_
    obtain ⟨x3, hx3, h⟩ := bd_some h
    refine r_idiv (pc := 19) hX (R32_lit rfl) hx3 (dk D_X12_tailOf 11 rfl) (fun qx3 => ?_)
    refine r_iadd (pc := 20) hX (dk D_X12_tailOf 12 rfl) ?_
    obtain ⟨x4, hx4, h⟩ := bd_some h
    refine r_iald (pc := 21) hX (R32_w _) hx4 (dk D_X12_tailOf 13 rfl) (fun qx4 => ?_)
    cases h
    exact r_ireturn (pc := 22) hX qx4 hM ⟨by decide, by decide⟩ (dk D_X12_tailOf 14 rfl)
  · rw [if_pos hc] at h
    refine r_bipush (pc := 10) hX rfl (dk D_X12_tailOf 6 rfl) ?_
    refine r_goto (pc := 12) hX 17 rfl (dk D_X12_tailOf 7 rfl) ?_
    refine r_iloadn (pc := 17) hX 1 rfl (dk D_X12_tailOf 9 rfl) ?_
    refine r_iconst (pc := 18) hX (dk D_X12_tailOf 10 rfl) ?_
    obtain ⟨x5, hx5, h⟩ := bd_some h
    refine r_idiv (pc := 19) hX (R32_lit rfl) hx5 (dk D_X12_tailOf 11 rfl) (fun qx5 => ?_)
    refine r_iadd (pc := 20) hX (dk D_X12_tailOf 12 rfl) ?_
    obtain ⟨x6, hx6, h⟩ := bd_some h
    refine r_iald (pc := 21) hX (R32_w _) hx6 (dk D_X12_tailOf 13 rfl) (fun qx6 => ?_)
    cases h
    exact r_ireturn (pc := 22) hX qx6 hM ⟨by decide, by decide⟩ (dk D_X12_tailOf 14 rfl)
set_option maxRecDepth 100000 in
set_option maxHeartbeats 4000000 in
theorem L_M_headOf {E : EX} {l : Launch} {a0 a1 res : Int} {μ μ' : Mem} (q_a1 : R32 a1) (h : M_headOf a0 a1 μ = some (res, μ')) : Ok E l 1 yX12_headOf (.code yX12_headOf cX12_headOf 2 (some .int)) 0 0 [(2, a0), (0, a1)] μ (some (0, res)) μ' := by
  refine Ok.of (own := "TollsBackModel") [(0, 2, a0), (1, 0, a1)] (by decide +kernel) rfl (Nat.le_of_ble_eq_true rfl) rfl ?_
  intro X hL hRm hin hX hM
  unfold M_headOf at h
  subst hL
  refine r_aloadn (pc := 0) hX 0 rfl (dk D_X12_headOf 0 rfl) ?_
  obtain ⟨x1, hx1, h⟩ := bd_some h
  refine r_getR (pc := 1) hX fl_12_13 rfl hx1 (dk D_X12_headOf 1 rfl) ?_
  refine r_iloadn (pc := 4) hX 1 rfl (dk D_X12_headOf 2 rfl) ?_
  refine r_iconst (pc := 5) hX (dk D_X12_headOf 3 rfl) ?_
  obtain ⟨x2, hx2, h⟩ := bd_some h
  refine r_irem (pc := 6) hX (R32_lit rfl) hx2 (dk D_X12_headOf 4 rfl) (fun qx2 => ?_)
  refine r_if_ne (pc := 7) hX qx2 15 rfl (dk D_X12_headOf 5 rfl) (fun hc => ?_) (fun hc => ?_)
  · rw [if_neg hc] at h
    refine r_bipush (pc := 15) hX rfl (dk D_X12_headOf 8 rfl) ?_
    refine r_iloadn (pc := 17) hX 1 rfl (dk D_X12_headOf 9 rfl) ?_
    refine r_iconst (pc := 18) hX (dk D_X12_headOf 10 rfl) ?_
    obtain ⟨x3, hx3, h⟩ := bd_some h
    refine r_idiv (pc := 19) hX (R32_lit rfl) hx3 (dk D_X12_headOf 11 rfl) (fun qx3 => ?_)
    refine r_iadd (pc := 20) hX (dk D_X12_headOf 12 rfl) ?_
    obtain ⟨x4, hx4, h⟩ := bd_some h
    refine r_iald (pc := 21) hX (R32_w _) hx4 (dk D_X12_headOf 13 rfl) (fun qx4 => ?_)
    cases h
    exact r_ireturn (pc := 22) hX qx4 hM ⟨by decide, by decide⟩ (dk D_X12_headOf 14 rfl)
  · rw [if_pos hc] at h
    refine r_bipush (pc := 10) hX rfl (dk D_X12_headOf 6 rfl) ?_
    refine r_goto (pc := 12) hX 17 rfl (dk D_X12_headOf 7 rfl) ?_
    refine r_iloadn (pc := 17) hX 1 rfl (dk D_X12_headOf 9 rfl) ?_
    refine r_iconst (pc := 18) hX (dk D_X12_headOf 10 rfl) ?_
    obtain ⟨x5, hx5, h⟩ := bd_some h
    refine r_idiv (pc := 19) hX (R32_lit rfl) hx5 (dk D_X12_headOf 11 rfl) (fun qx5 => ?_)
    refine r_iadd (pc := 20) hX (dk D_X12_headOf 12 rfl) ?_
    obtain ⟨x6, hx6, h⟩ := bd_some h
    refine r_iald (pc := 21) hX (R32_w _) hx6 (dk D_X12_headOf 13 rfl) (fun qx6 => ?_)
    cases h
    exact r_ireturn (pc := 22) hX qx6 hM ⟨by decide, by decide⟩ (dk D_X12_headOf 14 rfl)
set_option maxRecDepth 100000 in
set_option maxHeartbeats 4000000 in
theorem L_M_isOne {E : EX} {l : Launch} {a0 a1 res : Int} {μ μ' : Mem} (q_a1 : R32 a1) (h : M_isOne a0 a1 μ = some (res, μ')) : Ok E l 2 yX12_isOne (.code yX12_isOne cX12_isOne 2 (some .boolean)) 0 0 [(2, a0), (0, a1)] μ (some (0, res)) μ' := by
  refine Ok.of (own := "TollsBackModel") [(0, 2, a0), (1, 0, a1)] (by decide +kernel) rfl (Nat.le_of_ble_eq_true rfl) rfl ?_
  intro X hL hRm hin hX hM
  unfold M_isOne at h
  subst hL
  refine r_iloadn (pc := 0) hX 1 rfl (dk D_X12_isOne 0 rfl) ?_
  refine r_i2l (pc := 1) hX q_a1 (dk D_X12_isOne 1 rfl) ?_
  refine r_lconst (x := 0) (pc := 2) hX (by decide) (dk D_X12_isOne 2 rfl) ?_
  refine r_aloadn (pc := 3) hX 0 rfl (dk D_X12_isOne 3 rfl) ?_
  obtain ⟨x1, hx1, h⟩ := bd_some h
  refine r_getR (pc := 4) hX fl_12_13 rfl hx1 (dk D_X12_isOne 4 rfl) ?_
  refine r_sipush (pc := 7) hX rfl (dk D_X12_isOne 5 rfl) ?_
  obtain ⟨x2, hx2, h⟩ := bd_some h
  refine r_iald (pc := 10) hX (R32_lit rfl) hx2 (dk D_X12_isOne 6 rfl) (fun qx2 => ?_)
  refine r_iconst (pc := 11) hX (dk D_X12_isOne 7 rfl) ?_
  refine r_isub (pc := 12) hX (dk D_X12_isOne 8 rfl) ?_
  refine r_i2l (pc := 13) hX (R32_w _) (dk D_X12_isOne 9 rfl) ?_
  obtain ⟨x3, μ4, hx3, h⟩ := bd2_some h
  refine r_invS0 (As := [(1, a1), (1, 0), (1, (w32 (x2 - 1)))]) (pc := 14) hX ml_12_178 (L_M_within (R64_of q_a1) (R64_lit rfl) (R64_of (R32_w _)) hx3) (Rm_of hRm (by decide) ⟨by decide, by decide⟩) (by decide) rfl (Nat.le_of_ble_eq_true rfl) rfl (dk D_X12_isOne 10 rfl) (fun qx3 => ?_)
  obtain ⟨_, hz, h⟩ := bd_some h
  cases h
  exact r_zreturn (pc := 17) hX qx3 hM (okz_some hz) ⟨by decide, by decide⟩ (dk D_X12_isOne 11 rfl)
set_option maxRecDepth 100000 in
set_option maxHeartbeats 4000000 in
theorem L_M_comes {E : EX} {l : Launch} {a0 a1 res : Int} {μ μ' : Mem} (q_a1 : R32 a1) (h : M_comes a0 a1 μ = some (res, μ')) : Ok E l 2 yX12_comes (.code yX12_comes cX12_comes 3 (some .int)) 0 0 [(2, a0), (0, a1)] μ (some (0, res)) μ' := by
  refine Ok.of (own := "TollsBackModel") [(0, 2, a0), (1, 0, a1)] (by decide +kernel) rfl (Nat.le_of_ble_eq_true rfl) rfl ?_
  intro X hL hRm hin hX hM
  unfold M_comes at h
  subst hL
  refine r_aloadn (pc := 0) hX 0 rfl (dk D_X12_comes 0 rfl) ?_
  refine r_iconst (pc := 1) hX (dk D_X12_comes 1 rfl) ?_
  obtain ⟨μ1, hμ1, h⟩ := bd_some h
  refine r_putI (pc := 2) hX fl_12_1 rfl rfl (R32_lit rfl) trivial hμ1 (dk D_X12_comes 2 rfl) ?_
  refine r_aloadn (pc := 5) hX 0 rfl (dk D_X12_comes 3 rfl) ?_
  obtain ⟨x2, hx2, h⟩ := bd_some h
  refine r_getR (pc := 6) hX fl_12_13 rfl hx2 (dk D_X12_comes 4 rfl) ?_
  refine r_sipush (pc := 9) hX rfl (dk D_X12_comes 5 rfl) ?_
  obtain ⟨x3, hx3, h⟩ := bd_some h
  refine r_iald (pc := 12) hX (R32_lit rfl) hx3 (dk D_X12_comes 6 rfl) (fun qx3 => ?_)
  refine r_bipush (pc := 13) hX rfl (dk D_X12_comes 7 rfl) ?_
  refine r_icmp_eq (pc := 15) hX qx3 (R32_lit rfl) 27 rfl (dk D_X12_comes 8 rfl) (fun hc => ?_) (fun hc => ?_)
  · rw [if_pos hc] at h
    refine r_bipush (pc := 27) hX rfl (dk D_X12_comes 14 rfl) ?_
    cases h
    exact r_ireturn (pc := 29) hX (R32_lit rfl) hM ⟨by decide, by decide⟩ (dk D_X12_comes 15 rfl)
  · rw [if_neg hc] at h
    refine r_aloadn (pc := 18) hX 0 rfl (dk D_X12_comes 9 rfl) ?_
    obtain ⟨x4, hx4, h⟩ := bd_some h
    refine r_getR (pc := 19) hX fl_12_13 rfl hx4 (dk D_X12_comes 10 rfl) ?_
    refine r_iconst (pc := 22) hX (dk D_X12_comes 11 rfl) ?_
    obtain ⟨x5, hx5, h⟩ := bd_some h
    refine r_iald (pc := 23) hX (R32_lit rfl) hx5 (dk D_X12_comes 12 rfl) (fun qx5 => ?_)
    refine r_if_ne (pc := 24) hX qx5 30 rfl (dk D_X12_comes 13 rfl) (fun hc => ?_) (fun hc => ?_)
    · rw [if_neg hc] at h
      refine r_iloadn (pc := 30) hX 1 rfl (dk D_X12_comes 16 rfl) ?_
      refine r_i2l (pc := 31) hX q_a1 (dk D_X12_comes 17 rfl) ?_
      refine r_lconst (x := 0) (pc := 32) hX (by decide) (dk D_X12_comes 18 rfl) ?_
      refine r_ldc2 (pc := 33) hX cn_12_228 (dk D_X12_comes 19 rfl) ?_
      obtain ⟨x6, μ7, hx6, h⟩ := bd2_some h
      refine r_invS0 (As := [(1, a1), (1, 0), (1, 1000000)]) (pc := 36) hX ml_12_178 (L_M_within (R64_of q_a1) (R64_lit rfl) (R64_lit rfl) hx6) (Rm_of hRm (by decide) ⟨by decide, by decide⟩) (by decide) rfl (Nat.le_of_ble_eq_true rfl) rfl (dk D_X12_comes 20 rfl) (fun qx6 => ?_)
      refine r_if_ne (pc := 39) hX qx6 45 rfl (dk D_X12_comes 21 rfl) (fun hc => ?_) (fun hc => ?_)
      · rw [if_neg hc] at h
        refine r_aloadn (pc := 45) hX 0 rfl (dk D_X12_comes 24 rfl) ?_
        obtain ⟨x8, hx8, h⟩ := bd_some h
        refine r_getR (pc := 46) hX fl_12_13 rfl hx8 (dk D_X12_comes 25 rfl) ?_
        refine r_sipush (pc := 49) hX rfl (dk D_X12_comes 26 rfl) ?_
        obtain ⟨x9, hx9, h⟩ := bd_some h
        refine r_iald (pc := 52) hX (R32_lit rfl) hx9 (dk D_X12_comes 27 rfl) (fun qx9 => ?_)
        refine r_istoren (lv' := [(2, 0, x9), (0, 2, a0), (1, 0, a1)]) (pc := 53) hX (by decide) rfl (dk D_X12_comes 28 rfl) ?_
        refine r_aloadn (pc := 54) hX 1 rfl (dk D_X12_comes 29 rfl) ?_
        obtain ⟨x10, hx10, h⟩ := bd_some h
        refine r_getR (pc := 55) hX fl_12_13 rfl hx10 (dk D_X12_comes 30 rfl) ?_
        refine r_sipush (pc := 58) hX rfl (dk D_X12_comes 31 rfl) ?_
        refine r_iloadn (pc := 61) hX 0 rfl (dk D_X12_comes 32 rfl) ?_
        refine r_iadd (pc := 62) hX (dk D_X12_comes 33 rfl) ?_
        refine r_aloadn (pc := 63) hX 1 rfl (dk D_X12_comes 34 rfl) ?_
        obtain ⟨x11, hx11, h⟩ := bd_some h
        refine r_getR (pc := 64) hX fl_12_13 rfl hx11 (dk D_X12_comes 35 rfl) ?_
        refine r_iconst (pc := 67) hX (dk D_X12_comes 36 rfl) ?_
        obtain ⟨x12, hx12, h⟩ := bd_some h
        refine r_iald (pc := 68) hX (R32_lit rfl) hx12 (dk D_X12_comes 37 rfl) (fun qx12 => ?_)
        obtain ⟨μ13, hμ13, h⟩ := bd_some h
        refine r_iast (pc := 69) hX (R32_w _) qx12 hμ13 (dk D_X12_comes 38 rfl) ?_
        refine r_aloadn (pc := 70) hX 1 rfl (dk D_X12_comes 39 rfl) ?_
        obtain ⟨x14, hx14, h⟩ := bd_some h
        refine r_getR (pc := 71) hX fl_12_13 rfl hx14 (dk D_X12_comes 40 rfl) ?_
        refine r_sipush (pc := 74) hX rfl (dk D_X12_comes 41 rfl) ?_
        refine r_iloadn (pc := 77) hX 0 rfl (dk D_X12_comes 42 rfl) ?_
        refine r_iadd (pc := 78) hX (dk D_X12_comes 43 rfl) ?_
        refine r_iconst (pc := 79) hX (dk D_X12_comes 44 rfl) ?_
        obtain ⟨μ15, hμ15, h⟩ := bd_some h
        refine r_iast (pc := 80) hX (R32_w _) (R32_lit rfl) hμ15 (dk D_X12_comes 45 rfl) ?_
        refine r_aloadn (pc := 81) hX 1 rfl (dk D_X12_comes 46 rfl) ?_
        obtain ⟨x16, hx16, h⟩ := bd_some h
        refine r_getR (pc := 82) hX fl_12_13 rfl hx16 (dk D_X12_comes 47 rfl) ?_
        refine r_sipush (pc := 85) hX rfl (dk D_X12_comes 48 rfl) ?_
        refine r_iloadn (pc := 88) hX 0 rfl (dk D_X12_comes 49 rfl) ?_
        refine r_iadd (pc := 89) hX (dk D_X12_comes 50 rfl) ?_
        refine r_iloadn (pc := 90) hX 2 rfl (dk D_X12_comes 51 rfl) ?_
        obtain ⟨μ17, hμ17, h⟩ := bd_some h
        refine r_iast (pc := 91) hX (R32_w _) q_a1 hμ17 (dk D_X12_comes 52 rfl) ?_
        refine r_aloadn (pc := 92) hX 1 rfl (dk D_X12_comes 53 rfl) ?_
        obtain ⟨x18, hx18, h⟩ := bd_some h
        refine r_getR (pc := 93) hX fl_12_13 rfl hx18 (dk D_X12_comes 54 rfl) ?_
        refine r_sipush (pc := 96) hX rfl (dk D_X12_comes 55 rfl) ?_
        refine r_iloadn (pc := 99) hX 0 rfl (dk D_X12_comes 56 rfl) ?_
        refine r_iadd (pc := 100) hX (dk D_X12_comes 57 rfl) ?_
        refine r_iconst (pc := 101) hX (dk D_X12_comes 58 rfl) ?_
        obtain ⟨μ19, hμ19, h⟩ := bd_some h
        refine r_iast (pc := 102) hX (R32_w _) (R32_lit rfl) hμ19 (dk D_X12_comes 59 rfl) ?_
        refine r_aloadn (pc := 103) hX 1 rfl (dk D_X12_comes 60 rfl) ?_
        obtain ⟨x20, hx20, h⟩ := bd_some h
        refine r_getR (pc := 104) hX fl_12_13 rfl hx20 (dk D_X12_comes 61 rfl) ?_
        refine r_sipush (pc := 107) hX rfl (dk D_X12_comes 62 rfl) ?_
        refine r_iloadn (pc := 110) hX 0 rfl (dk D_X12_comes 63 rfl) ?_
        refine r_iadd (pc := 111) hX (dk D_X12_comes 64 rfl) ?_
        refine r_iconst (pc := 112) hX (dk D_X12_comes 65 rfl) ?_
        obtain ⟨μ21, hμ21, h⟩ := bd_some h
        refine r_iast (pc := 113) hX (R32_w _) (R32_lit rfl) hμ21 (dk D_X12_comes 66 rfl) ?_
        refine r_aloadn (pc := 114) hX 1 rfl (dk D_X12_comes 67 rfl) ?_
        obtain ⟨x22, hx22, h⟩ := bd_some h
        refine r_getR (pc := 115) hX fl_12_13 rfl hx22 (dk D_X12_comes 68 rfl) ?_
        refine r_sipush (pc := 118) hX rfl (dk D_X12_comes 69 rfl) ?_
        refine r_iloadn (pc := 121) hX 0 rfl (dk D_X12_comes 70 rfl) ?_
        refine r_iadd (pc := 122) hX (dk D_X12_comes 71 rfl) ?_
        refine r_iconst (pc := 123) hX (dk D_X12_comes 72 rfl) ?_
        obtain ⟨μ23, hμ23, h⟩ := bd_some h
        refine r_iast (pc := 124) hX (R32_w _) (R32_lit rfl) hμ23 (dk D_X12_comes 73 rfl) ?_
        refine r_aloadn (pc := 125) hX 1 rfl (dk D_X12_comes 74 rfl) ?_
        obtain ⟨x24, hx24, h⟩ := bd_some h
        refine r_getR (pc := 126) hX fl_12_13 rfl hx24 (dk D_X12_comes 75 rfl) ?_
        refine r_sipush (pc := 129) hX rfl (dk D_X12_comes 76 rfl) ?_
        refine r_dup2 (pc := 132) hX rfl rfl (dk D_X12_comes 77 rfl) ?_
        obtain ⟨x25, hx25, h⟩ := bd_some h
        refine r_iald (pc := 133) hX (R32_lit rfl) hx25 (dk D_X12_comes 78 rfl) (fun qx25 => ?_)
        refine r_iconst (pc := 134) hX (dk D_X12_comes 79 rfl) ?_
        refine r_iadd (pc := 135) hX (dk D_X12_comes 80 rfl) ?_
        obtain ⟨μ26, hμ26, h⟩ := bd_some h
        refine r_iast (pc := 136) hX (R32_lit rfl) (R32_w _) hμ26 (dk D_X12_comes 81 rfl) ?_
        refine r_iloadn (pc := 137) hX 0 rfl (dk D_X12_comes 82 rfl) ?_
        cases h
        exact r_ireturn (pc := 138) hX qx9 hM ⟨by decide, by decide⟩ (dk D_X12_comes 83 rfl)
      · rw [if_pos hc] at h
        refine r_bipush (pc := 42) hX rfl (dk D_X12_comes 22 rfl) ?_
        cases h
        exact r_ireturn (pc := 44) hX (R32_lit rfl) hM ⟨by decide, by decide⟩ (dk D_X12_comes 23 rfl)
    · rw [if_pos hc] at h
      refine r_bipush (pc := 27) hX rfl (dk D_X12_comes 14 rfl) ?_
      cases h
      exact r_ireturn (pc := 29) hX (R32_lit rfl) hM ⟨by decide, by decide⟩ (dk D_X12_comes 15 rfl)
set_option maxRecDepth 100000 in
set_option maxHeartbeats 4000000 in
theorem L_M_of {E : EX} {l : Launch} {a0 a1 a2 res : Int} {μ μ' : Mem} (q_a1 : R32 a1) (q_a2 : R32 a2) (h : M_of a0 a1 a2 μ = some (res, μ')) : Ok E l 3 yX12_of (.code yX12_of cX12_of 3 (some .int)) 0 0 [(2, a0), (0, a1), (0, a2)] μ (some (0, res)) μ' := by
  refine Ok.of (own := "TollsBackModel") [(0, 2, a0), (1, 0, a1), (2, 0, a2)] (by decide +kernel) rfl (Nat.le_of_ble_eq_true rfl) rfl ?_
  intro X hL hRm hin hX hM
  unfold M_of at h
  subst hL
  refine r_aloadn (pc := 0) hX 0 rfl (dk D_X12_of 0 rfl) ?_
  refine r_iconst (pc := 1) hX (dk D_X12_of 1 rfl) ?_
  obtain ⟨μ1, hμ1, h⟩ := bd_some h
  refine r_putI (pc := 2) hX fl_12_1 rfl rfl (R32_lit rfl) trivial hμ1 (dk D_X12_of 2 rfl) ?_
  refine r_aloadn (pc := 5) hX 0 rfl (dk D_X12_of 3 rfl) ?_
  refine r_iloadn (pc := 6) hX 1 rfl (dk D_X12_of 4 rfl) ?_
  obtain ⟨_, hi, h⟩ := bd_some h
  obtain ⟨x2, μ3, hx2, h⟩ := bd2_some h
  refine r_invV0 (As := [(0, a1)]) (pc := 7) hX ml_12_230 (L_M_isOne q_a1 hx2) (isk_u hi) (Rm_of hRm (by decide) ⟨by decide, by decide⟩) (by decide) rfl (Nat.le_of_ble_eq_true rfl) rfl (dk D_X12_of 5 rfl) (fun qx2 => ?_)
  refine r_if_eq (pc := 10) hX qx2 25 rfl (dk D_X12_of 6 rfl) (fun hc => ?_) (fun hc => ?_)
  · rw [if_pos hc] at h
    refine r_bipush (pc := 25) hX rfl (dk D_X12_of 13 rfl) ?_
    cases h
    exact r_ireturn (pc := 27) hX (R32_lit rfl) hM ⟨by decide, by decide⟩ (dk D_X12_of 14 rfl)
  · rw [if_neg hc] at h
    refine r_iloadn (pc := 13) hX 2 rfl (dk D_X12_of 7 rfl) ?_
    refine r_i2l (pc := 14) hX q_a2 (dk D_X12_of 8 rfl) ?_
    refine r_lconst (x := 0) (pc := 15) hX (by decide) (dk D_X12_of 9 rfl) ?_
    refine r_ldc2 (pc := 16) hX cn_12_211 (dk D_X12_of 10 rfl) ?_
    obtain ⟨x4, μ5, hx4, h⟩ := bd2_some h
    refine r_invS0 (As := [(1, a2), (1, 0), (1, 5)]) (pc := 19) hX ml_12_178 (L_M_within (R64_of q_a2) (R64_lit rfl) (R64_lit rfl) hx4) (Rm_of hRm (by decide) ⟨by decide, by decide⟩) (by decide) rfl (Nat.le_of_ble_eq_true rfl) rfl (dk D_X12_of 11 rfl) (fun qx4 => ?_)
    refine r_if_ne (pc := 22) hX qx4 28 rfl (dk D_X12_of 12 rfl) (fun hc => ?_) (fun hc => ?_)
    · rw [if_neg hc] at h
      refine r_aloadn (pc := 28) hX 0 rfl (dk D_X12_of 15 rfl) ?_
      obtain ⟨x6, hx6, h⟩ := bd_some h
      refine r_getR (pc := 29) hX fl_12_13 rfl hx6 (dk D_X12_of 16 rfl) ?_
      refine r_sipush (pc := 32) hX rfl (dk D_X12_of 17 rfl) ?_
      refine r_bipush (pc := 35) hX rfl (dk D_X12_of 18 rfl) ?_
      refine r_iloadn (pc := 37) hX 2 rfl (dk D_X12_of 19 rfl) ?_
      refine r_imul (pc := 38) hX (dk D_X12_of 20 rfl) ?_
      refine r_iadd (pc := 39) hX (dk D_X12_of 21 rfl) ?_
      refine r_iloadn (pc := 40) hX 1 rfl (dk D_X12_of 22 rfl) ?_
      refine r_iadd (pc := 41) hX (dk D_X12_of 23 rfl) ?_
      obtain ⟨x7, hx7, h⟩ := bd_some h
      refine r_iald (pc := 42) hX (R32_w _) hx7 (dk D_X12_of 24 rfl) (fun qx7 => ?_)
      cases h
      exact r_ireturn (pc := 43) hX qx7 hM ⟨by decide, by decide⟩ (dk D_X12_of 25 rfl)
    · rw [if_pos hc] at h
      refine r_bipush (pc := 25) hX rfl (dk D_X12_of 13 rfl) ?_
      cases h
      exact r_ireturn (pc := 27) hX (R32_lit rfl) hM ⟨by decide, by decide⟩ (dk D_X12_of 14 rfl)
set_option maxRecDepth 100000 in
set_option maxHeartbeats 4000000 in
theorem L_M_slipAt {E : EX} {l : Launch} {a0 a1 res : Int} {μ μ' : Mem} (q_a0 : R32 a0) (q_a1 : R32 a1) (h : M_slipAt a0 a1 μ = some (res, μ')) : Ok E l 1 yX12_slipAt (.code yX12_slipAt cX12_slipAt 2 (some .int)) 0 0 [(0, a0), (0, a1)] μ (some (0, res)) μ' := by
  refine Ok.of (own := "TollsBackModel") [(0, 0, a0), (1, 0, a1)] (by decide +kernel) rfl (Nat.le_of_ble_eq_true rfl) rfl ?_
  intro X hL hRm hin hX hM
  unfold M_slipAt at h
  subst hL
  refine r_bipush (pc := 0) hX rfl (dk D_X12_slipAt 0 rfl) ?_
  refine r_iloadn (pc := 2) hX 0 rfl (dk D_X12_slipAt 1 rfl) ?_
  refine r_imul (pc := 3) hX (dk D_X12_slipAt 2 rfl) ?_
  refine r_iloadn (pc := 4) hX 1 rfl (dk D_X12_slipAt 3 rfl) ?_
  refine r_iadd (pc := 5) hX (dk D_X12_slipAt 4 rfl) ?_
  cases h
  exact r_ireturn (pc := 6) hX (R32_w _) hM ⟨by decide, by decide⟩ (dk D_X12_slipAt 5 rfl)
set_option maxRecDepth 100000 in
set_option maxHeartbeats 4000000 in
theorem L_M_worthOn {E : EX} {l : Launch} {a0 a1 a2 a3 res : Int} {μ μ' : Mem} (q_a1 : R32 a1) (q_a2 : R32 a2) (q_a3 : R32 a3) (h : M_worthOn a0 a1 a2 a3 μ = some (res, μ')) : Ok E l 1 yX12_worthOn (.code yX12_worthOn cX12_worthOn 4 (some .int)) 0 0 [(2, a0), (0, a1), (0, a2), (0, a3)] μ (some (0, res)) μ' := by
  refine Ok.of (own := "TollsBackModel") [(0, 2, a0), (1, 0, a1), (2, 0, a2), (3, 0, a3)] (by decide +kernel) rfl (Nat.le_of_ble_eq_true rfl) rfl ?_
  intro X hL hRm hin hX hM
  unfold M_worthOn at h
  subst hL
  refine r_iloadn (pc := 0) hX 3 rfl (dk D_X12_worthOn 0 rfl) ?_
  refine r_i2l (pc := 1) hX q_a3 (dk D_X12_worthOn 1 rfl) ?_
  refine r_iloadn (pc := 2) hX 2 rfl (dk D_X12_worthOn 2 rfl) ?_
  refine r_i2l (pc := 3) hX q_a2 (dk D_X12_worthOn 3 rfl) ?_
  refine r_lsub (pc := 4) hX (dk D_X12_worthOn 4 rfl) ?_
  refine r_aloadn (pc := 5) hX 0 rfl (dk D_X12_worthOn 5 rfl) ?_
  obtain ⟨x1, hx1, h⟩ := bd_some h
  refine r_getR (pc := 6) hX fl_12_13 rfl hx1 (dk D_X12_worthOn 6 rfl) ?_
  refine r_iconst (pc := 9) hX (dk D_X12_worthOn 7 rfl) ?_
  obtain ⟨x2, hx2, h⟩ := bd_some h
  refine r_iald (pc := 10) hX (R32_lit rfl) hx2 (dk D_X12_worthOn 8 rfl) (fun qx2 => ?_)
  refine r_i2l (pc := 11) hX qx2 (dk D_X12_worthOn 9 rfl) ?_
  refine r_lcmp (pc := 12) hX (R64_w _) (R64_of qx2) (dk D_X12_worthOn 10 rfl) ?_
  refine r_if_le (pc := 13) hX (R32_cmp _ _) 30 rfl (dk D_X12_worthOn 11 rfl) (fun hc => ?_) (fun hc => ?_)
  · rw [if_neg hc] at h
    refine r_iloadn (pc := 30) hX 1 rfl (dk D_X12_worthOn 21 rfl) ?_
    cases h
    exact r_ireturn (pc := 31) hX q_a1 hM ⟨by decide, by decide⟩ (dk D_X12_worthOn 22 rfl)
  · rw [if_pos hc] at h
    refine r_iloadn (pc := 16) hX 1 rfl (dk D_X12_worthOn 12 rfl) ?_
    refine r_aloadn (pc := 17) hX 0 rfl (dk D_X12_worthOn 13 rfl) ?_
    obtain ⟨x3, hx3, h⟩ := bd_some h
    refine r_getR (pc := 18) hX fl_12_13 rfl hx3 (dk D_X12_worthOn 14 rfl) ?_
    refine r_iconst (pc := 21) hX (dk D_X12_worthOn 15 rfl) ?_
    obtain ⟨x4, hx4, h⟩ := bd_some h
    refine r_iald (pc := 22) hX (R32_lit rfl) hx4 (dk D_X12_worthOn 16 rfl) (fun qx4 => ?_)
    refine r_imul (pc := 23) hX (dk D_X12_worthOn 17 rfl) ?_
    refine r_bipush (pc := 24) hX rfl (dk D_X12_worthOn 18 rfl) ?_
    obtain ⟨x5, hx5, h⟩ := bd_some h
    refine r_idiv (pc := 26) hX (R32_lit rfl) hx5 (dk D_X12_worthOn 19 rfl) (fun qx5 => ?_)
    refine r_goto (pc := 27) hX 31 rfl (dk D_X12_worthOn 20 rfl) ?_
    cases h
    exact r_ireturn (pc := 31) hX qx5 hM ⟨by decide, by decide⟩ (dk D_X12_worthOn 22 rfl)
set_option maxRecDepth 100000 in
set_option maxHeartbeats 4000000 in
theorem L_M_worthOf {E : EX} {l : Launch} {a0 a1 a2 a3 res : Int} {μ μ' : Mem} (q_a1 : R32 a1) (q_a2 : R32 a2) (q_a3 : R32 a3) (h : M_worthOf a0 a1 a2 a3 μ = some (res, μ')) : Ok E l 2 yX12_worthOf (.code yX12_worthOf cX12_worthOf 4 (some .int)) 0 0 [(2, a0), (0, a1), (0, a2), (0, a3)] μ (some (0, res)) μ' := by
  refine Ok.of (own := "TollsBackModel") [(0, 2, a0), (1, 0, a1), (2, 0, a2), (3, 0, a3)] (by decide +kernel) rfl (Nat.le_of_ble_eq_true rfl) rfl ?_
  intro X hL hRm hin hX hM
  unfold M_worthOf at h
  subst hL
  refine r_aloadn (pc := 0) hX 0 rfl (dk D_X12_worthOf 0 rfl) ?_
  refine r_aloadn (pc := 1) hX 0 rfl (dk D_X12_worthOf 1 rfl) ?_
  obtain ⟨x1, hx1, h⟩ := bd_some h
  refine r_getR (pc := 2) hX fl_12_13 rfl hx1 (dk D_X12_worthOf 2 rfl) ?_
  refine r_sipush (pc := 5) hX rfl (dk D_X12_worthOf 3 rfl) ?_
  refine r_iloadn (pc := 8) hX 1 rfl (dk D_X12_worthOf 4 rfl) ?_
  refine r_iloadn (pc := 9) hX 2 rfl (dk D_X12_worthOf 5 rfl) ?_
  obtain ⟨x2, μ3, hx2, h⟩ := bd2_some h
  refine r_invS0 (As := [(0, a1), (0, a2)]) (pc := 10) hX ml_12_233 (L_M_slipAt q_a1 q_a2 hx2) (Rm_of hRm (by decide) ⟨by decide, by decide⟩) (by decide) rfl (Nat.le_of_ble_eq_true rfl) rfl (dk D_X12_worthOf 6 rfl) (fun qx2 => ?_)
  refine r_iadd (pc := 13) hX (dk D_X12_worthOf 7 rfl) ?_
  obtain ⟨x4, hx4, h⟩ := bd_some h
  refine r_iald (pc := 14) hX (R32_w _) hx4 (dk D_X12_worthOf 8 rfl) (fun qx4 => ?_)
  refine r_aloadn (pc := 15) hX 0 rfl (dk D_X12_worthOf 9 rfl) ?_
  obtain ⟨x5, hx5, h⟩ := bd_some h
  refine r_getR (pc := 16) hX fl_12_13 rfl hx5 (dk D_X12_worthOf 10 rfl) ?_
  refine r_sipush (pc := 19) hX rfl (dk D_X12_worthOf 11 rfl) ?_
  refine r_iloadn (pc := 22) hX 1 rfl (dk D_X12_worthOf 12 rfl) ?_
  refine r_iloadn (pc := 23) hX 2 rfl (dk D_X12_worthOf 13 rfl) ?_
  obtain ⟨x6, μ7, hx6, h⟩ := bd2_some h
  refine r_invS0 (As := [(0, a1), (0, a2)]) (pc := 24) hX ml_12_233 (L_M_slipAt q_a1 q_a2 hx6) (Rm_of hRm (by decide) ⟨by decide, by decide⟩) (by decide) rfl (Nat.le_of_ble_eq_true rfl) rfl (dk D_X12_worthOf 14 rfl) (fun qx6 => ?_)
  refine r_iadd (pc := 27) hX (dk D_X12_worthOf 15 rfl) ?_
  obtain ⟨x8, hx8, h⟩ := bd_some h
  refine r_iald (pc := 28) hX (R32_w _) hx8 (dk D_X12_worthOf 16 rfl) (fun qx8 => ?_)
  refine r_iloadn (pc := 29) hX 3 rfl (dk D_X12_worthOf 17 rfl) ?_
  obtain ⟨_, hi, h⟩ := bd_some h
  obtain ⟨x9, μ10, hx9, h⟩ := bd2_some h
  refine r_invV0 (As := [(0, x4), (0, x8), (0, a3)]) (pc := 30) hX ml_12_236 (L_M_worthOn qx4 qx8 q_a3 hx9) (isk_u hi) (Rm_of hRm (by decide) ⟨by decide, by decide⟩) (by decide) rfl (Nat.le_of_ble_eq_true rfl) rfl (dk D_X12_worthOf 18 rfl) (fun qx9 => ?_)
  cases h
  exact r_ireturn (pc := 33) hX qx9 hM ⟨by decide, by decide⟩ (dk D_X12_worthOf 19 rfl)
set_option maxRecDepth 100000 in
set_option maxHeartbeats 4000000 in
theorem L_M_slip {E : EX} {l : Launch} {a0 a1 a2 a3 res : Int} {μ μ' : Mem} (q_a1 : R32 a1) (q_a2 : R32 a2) (q_a3 : R32 a3) (h : M_slip a0 a1 a2 a3 μ = some (res, μ')) : Ok E l 3 yX12_slip (.code yX12_slip cX12_slip 5 (some .int)) 0 0 [(2, a0), (0, a1), (0, a2), (0, a3)] μ (some (0, res)) μ' := by
  refine Ok.of (own := "TollsBackModel") [(0, 2, a0), (1, 0, a1), (2, 0, a2), (3, 0, a3)] (by decide +kernel) rfl (Nat.le_of_ble_eq_true rfl) rfl ?_
  intro X hL hRm hin hX hM
  unfold M_slip at h
  subst hL
  refine r_aloadn (pc := 0) hX 0 rfl (dk D_X12_slip 0 rfl) ?_
  refine r_iconst (pc := 1) hX (dk D_X12_slip 1 rfl) ?_
  obtain ⟨μ1, hμ1, h⟩ := bd_some h
  refine r_putI (pc := 2) hX fl_12_1 rfl rfl (R32_lit rfl) trivial hμ1 (dk D_X12_slip 2 rfl) ?_
  refine r_aloadn (pc := 5) hX 0 rfl (dk D_X12_slip 3 rfl) ?_
  refine r_iloadn (pc := 6) hX 1 rfl (dk D_X12_slip 4 rfl) ?_
  obtain ⟨_, hi, h⟩ := bd_some h
  obtain ⟨x2, μ3, hx2, h⟩ := bd2_some h
  refine r_invV0 (As := [(0, a1)]) (pc := 7) hX ml_12_230 (L_M_isOne q_a1 hx2) (isk_u hi) (Rm_of hRm (by decide) ⟨by decide, by decide⟩) (by decide) rfl (Nat.le_of_ble_eq_true rfl) rfl (dk D_X12_slip 5 rfl) (fun qx2 => ?_)
  refine r_if_eq (pc := 10) hX qx2 25 rfl (dk D_X12_slip 6 rfl) (fun hc => ?_) (fun hc => ?_)
  · rw [if_pos hc] at h
    refine r_bipush (pc := 25) hX rfl (dk D_X12_slip 13 rfl) ?_
    cases h
    exact r_ireturn (pc := 27) hX (R32_lit rfl) hM ⟨by decide, by decide⟩ (dk D_X12_slip 14 rfl)
  · rw [if_neg hc] at h
    refine r_iloadn (pc := 13) hX 3 rfl (dk D_X12_slip 7 rfl) ?_
    refine r_i2l (pc := 14) hX q_a3 (dk D_X12_slip 8 rfl) ?_
    refine r_lconst (x := 0) (pc := 15) hX (by decide) (dk D_X12_slip 9 rfl) ?_
    refine r_ldc2 (pc := 16) hX cn_12_211 (dk D_X12_slip 10 rfl) ?_
    obtain ⟨x4, μ5, hx4, h⟩ := bd2_some h
    refine r_invS0 (As := [(1, a3), (1, 0), (1, 5)]) (pc := 19) hX ml_12_178 (L_M_within (R64_of q_a3) (R64_lit rfl) (R64_lit rfl) hx4) (Rm_of hRm (by decide) ⟨by decide, by decide⟩) (by decide) rfl (Nat.le_of_ble_eq_true rfl) rfl (dk D_X12_slip 11 rfl) (fun qx4 => ?_)
    refine r_if_ne (pc := 22) hX qx4 28 rfl (dk D_X12_slip 12 rfl) (fun hc => ?_) (fun hc => ?_)
    · rw [if_neg hc] at h
      refine r_iloadn (pc := 28) hX 2 rfl (dk D_X12_slip 15 rfl) ?_
      refine r_i2l (pc := 29) hX q_a2 (dk D_X12_slip 16 rfl) ?_
      refine r_lconst (x := 0) (pc := 30) hX (by decide) (dk D_X12_slip 17 rfl) ?_
      refine r_aloadn (pc := 31) hX 0 rfl (dk D_X12_slip 18 rfl) ?_
      obtain ⟨x6, hx6, h⟩ := bd_some h
      refine r_getR (pc := 32) hX fl_12_13 rfl hx6 (dk D_X12_slip 19 rfl) ?_
      refine r_sipush (pc := 35) hX rfl (dk D_X12_slip 20 rfl) ?_
      refine r_iloadn (pc := 38) hX 1 rfl (dk D_X12_slip 21 rfl) ?_
      refine r_iadd (pc := 39) hX (dk D_X12_slip 22 rfl) ?_
      obtain ⟨x7, hx7, h⟩ := bd_some h
      refine r_iald (pc := 40) hX (R32_w _) hx7 (dk D_X12_slip 23 rfl) (fun qx7 => ?_)
      refine r_iconst (pc := 41) hX (dk D_X12_slip 24 rfl) ?_
      refine r_isub (pc := 42) hX (dk D_X12_slip 25 rfl) ?_
      refine r_i2l (pc := 43) hX (R32_w _) (dk D_X12_slip 26 rfl) ?_
      obtain ⟨x8, μ9, hx8, h⟩ := bd2_some h
      refine r_invS0 (As := [(1, a2), (1, 0), (1, (w32 (x7 - 1)))]) (pc := 44) hX ml_12_178 (L_M_within (R64_of q_a2) (R64_lit rfl) (R64_of (R32_w _)) hx8) (Rm_of hRm (by decide) ⟨by decide, by decide⟩) (by decide) rfl (Nat.le_of_ble_eq_true rfl) rfl (dk D_X12_slip 27 rfl) (fun qx8 => ?_)
      refine r_if_ne (pc := 47) hX qx8 53 rfl (dk D_X12_slip 28 rfl) (fun hc => ?_) (fun hc => ?_)
      · rw [if_neg hc] at h
        refine r_iloadn (pc := 53) hX 1 rfl (dk D_X12_slip 31 rfl) ?_
        refine r_iloadn (pc := 54) hX 2 rfl (dk D_X12_slip 32 rfl) ?_
        obtain ⟨x10, μ11, hx10, h⟩ := bd2_some h
        refine r_invS0 (As := [(0, a1), (0, a2)]) (pc := 55) hX ml_12_233 (L_M_slipAt q_a1 q_a2 hx10) (Rm_of hRm (by decide) ⟨by decide, by decide⟩) (by decide) rfl (Nat.le_of_ble_eq_true rfl) rfl (dk D_X12_slip 33 rfl) (fun qx10 => ?_)
        refine r_istore (lv' := [(4, 0, x10), (0, 2, a0), (1, 0, a1), (2, 0, a2), (3, 0, a3)]) (pc := 58) hX (by decide) rfl (dk D_X12_slip 34 rfl) ?_
        refine r_iloadn (pc := 60) hX 4 rfl (dk D_X12_slip 35 rfl) ?_
        by_cases hc0 : a3 = 0
        · rw [if_pos hc0] at h
          refine r_table (pc := 61) hX (by rw [hc0]; exact R32_lit rfl) 96 (dk D_X12_slip 36 rfl) (by omega) (by omega) (by rw [hc0]; rfl) rfl ?_
          refine r_aloadn (pc := 96) hX 1 rfl (dk D_X12_slip 37 rfl) ?_
          obtain ⟨x12, hx12, h⟩ := bd_some h
          refine r_getR (pc := 97) hX fl_12_13 rfl hx12 (dk D_X12_slip 38 rfl) ?_
          refine r_sipush (pc := 100) hX rfl (dk D_X12_slip 39 rfl) ?_
          refine r_iload (pc := 103) hX 0 rfl (dk D_X12_slip 40 rfl) ?_
          refine r_iadd (pc := 105) hX (dk D_X12_slip 41 rfl) ?_
          obtain ⟨x13, hx13, h⟩ := bd_some h
          refine r_iald (pc := 106) hX (R32_w _) hx13 (dk D_X12_slip 42 rfl) (fun qx13 => ?_)
          refine r_iconst (pc := 107) hX (dk D_X12_slip 43 rfl) ?_
          obtain ⟨x14, hx14, h⟩ := bd_some h
          refine r_idiv (pc := 108) hX (R32_lit rfl) hx14 (dk D_X12_slip 44 rfl) (fun qx14 => ?_)
          cases h
          exact r_ireturn (pc := 109) hX qx14 hM ⟨by decide, by decide⟩ (dk D_X12_slip 45 rfl)
        · rw [if_neg hc0] at h
          by_cases hc1 : a3 = 1
          · rw [if_pos hc1] at h
            refine r_table (pc := 61) hX (by rw [hc1]; exact R32_lit rfl) 110 (dk D_X12_slip 36 rfl) (by omega) (by omega) (by rw [hc1]; rfl) rfl ?_
            refine r_aloadn (pc := 110) hX 1 rfl (dk D_X12_slip 46 rfl) ?_
            refine r_aloadn (pc := 111) hX 1 rfl (dk D_X12_slip 47 rfl) ?_
            obtain ⟨x15, hx15, h⟩ := bd_some h
            refine r_getR (pc := 112) hX fl_12_13 rfl hx15 (dk D_X12_slip 48 rfl) ?_
            refine r_sipush (pc := 115) hX rfl (dk D_X12_slip 49 rfl) ?_
            refine r_iload (pc := 118) hX 0 rfl (dk D_X12_slip 50 rfl) ?_
            refine r_iadd (pc := 120) hX (dk D_X12_slip 51 rfl) ?_
            obtain ⟨x16, hx16, h⟩ := bd_some h
            refine r_iald (pc := 121) hX (R32_w _) hx16 (dk D_X12_slip 52 rfl) (fun qx16 => ?_)
            obtain ⟨_, hi, h⟩ := bd_some h
            obtain ⟨x17, μ18, hx17, h⟩ := bd2_some h
            refine r_invV0 (As := [(0, x16)]) (pc := 122) hX ml_12_240 (L_M_tailOf qx16 hx17) (isk_u hi) (Rm_of hRm (by decide) ⟨by decide, by decide⟩) (by decide) rfl (Nat.le_of_ble_eq_true rfl) rfl (dk D_X12_slip 53 rfl) (fun qx17 => ?_)
            cases h
            exact r_ireturn (pc := 125) hX qx17 hM ⟨by decide, by decide⟩ (dk D_X12_slip 54 rfl)
          · rw [if_neg hc1] at h
            by_cases hc2 : a3 = 2
            · rw [if_pos hc2] at h
              refine r_table (pc := 61) hX (by rw [hc2]; exact R32_lit rfl) 126 (dk D_X12_slip 36 rfl) (by omega) (by omega) (by rw [hc2]; rfl) rfl ?_
              refine r_aloadn (pc := 126) hX 1 rfl (dk D_X12_slip 55 rfl) ?_
              refine r_aloadn (pc := 127) hX 1 rfl (dk D_X12_slip 56 rfl) ?_
              obtain ⟨x19, hx19, h⟩ := bd_some h
              refine r_getR (pc := 128) hX fl_12_13 rfl hx19 (dk D_X12_slip 57 rfl) ?_
              refine r_sipush (pc := 131) hX rfl (dk D_X12_slip 58 rfl) ?_
              refine r_iload (pc := 134) hX 0 rfl (dk D_X12_slip 59 rfl) ?_
              refine r_iadd (pc := 136) hX (dk D_X12_slip 60 rfl) ?_
              obtain ⟨x20, hx20, h⟩ := bd_some h
              refine r_iald (pc := 137) hX (R32_w _) hx20 (dk D_X12_slip 61 rfl) (fun qx20 => ?_)
              obtain ⟨_, hi, h⟩ := bd_some h
              obtain ⟨x21, μ22, hx21, h⟩ := bd2_some h
              refine r_invV0 (As := [(0, x20)]) (pc := 138) hX ml_12_243 (L_M_headOf qx20 hx21) (isk_u hi) (Rm_of hRm (by decide) ⟨by decide, by decide⟩) (by decide) rfl (Nat.le_of_ble_eq_true rfl) rfl (dk D_X12_slip 62 rfl) (fun qx21 => ?_)
              cases h
              exact r_ireturn (pc := 141) hX qx21 hM ⟨by decide, by decide⟩ (dk D_X12_slip 63 rfl)
            · rw [if_neg hc2] at h
              by_cases hc3 : a3 = 3
              · rw [if_pos hc3] at h
                refine r_table (pc := 61) hX (by rw [hc3]; exact R32_lit rfl) 142 (dk D_X12_slip 36 rfl) (by omega) (by omega) (by rw [hc3]; rfl) rfl ?_
                refine r_aloadn (pc := 142) hX 1 rfl (dk D_X12_slip 64 rfl) ?_
                obtain ⟨x23, hx23, h⟩ := bd_some h
                refine r_getR (pc := 143) hX fl_12_13 rfl hx23 (dk D_X12_slip 65 rfl) ?_
                refine r_sipush (pc := 146) hX rfl (dk D_X12_slip 66 rfl) ?_
                refine r_iload (pc := 149) hX 0 rfl (dk D_X12_slip 67 rfl) ?_
                refine r_iadd (pc := 151) hX (dk D_X12_slip 68 rfl) ?_
                obtain ⟨x24, hx24, h⟩ := bd_some h
                refine r_iald (pc := 152) hX (R32_w _) hx24 (dk D_X12_slip 69 rfl) (fun qx24 => ?_)
                cases h
                exact r_ireturn (pc := 153) hX qx24 hM ⟨by decide, by decide⟩ (dk D_X12_slip 70 rfl)
              · rw [if_neg hc3] at h
                by_cases hc4 : a3 = 4
                · rw [if_pos hc4] at h
                  refine r_table (pc := 61) hX (by rw [hc4]; exact R32_lit rfl) 154 (dk D_X12_slip 36 rfl) (by omega) (by omega) (by rw [hc4]; rfl) rfl ?_
                  refine r_aloadn (pc := 154) hX 1 rfl (dk D_X12_slip 71 rfl) ?_
                  obtain ⟨x25, hx25, h⟩ := bd_some h
                  refine r_getR (pc := 155) hX fl_12_13 rfl hx25 (dk D_X12_slip 72 rfl) ?_
                  refine r_sipush (pc := 158) hX rfl (dk D_X12_slip 73 rfl) ?_
                  refine r_iload (pc := 161) hX 0 rfl (dk D_X12_slip 74 rfl) ?_
                  refine r_iadd (pc := 163) hX (dk D_X12_slip 75 rfl) ?_
                  obtain ⟨x26, hx26, h⟩ := bd_some h
                  refine r_iald (pc := 164) hX (R32_w _) hx26 (dk D_X12_slip 76 rfl) (fun qx26 => ?_)
                  cases h
                  exact r_ireturn (pc := 165) hX qx26 hM ⟨by decide, by decide⟩ (dk D_X12_slip 77 rfl)
                · rw [if_neg hc4] at h
                  refine r_tableD (pc := 61) hX q_a3 166 (dk D_X12_slip 36 rfl) (by omega) rfl ?_
                  refine r_aloadn (pc := 166) hX 1 rfl (dk D_X12_slip 78 rfl) ?_
                  refine r_iloadn (pc := 167) hX 2 rfl (dk D_X12_slip 79 rfl) ?_
                  refine r_iloadn (pc := 168) hX 3 rfl (dk D_X12_slip 80 rfl) ?_
                  refine r_aloadn (pc := 169) hX 1 rfl (dk D_X12_slip 81 rfl) ?_
                  obtain ⟨x27, hx27, h⟩ := bd_some h
                  refine r_getR (pc := 170) hX fl_12_13 rfl hx27 (dk D_X12_slip 82 rfl) ?_
                  refine r_sipush (pc := 173) hX rfl (dk D_X12_slip 83 rfl) ?_
                  refine r_iloadn (pc := 176) hX 2 rfl (dk D_X12_slip 84 rfl) ?_
                  refine r_iadd (pc := 177) hX (dk D_X12_slip 85 rfl) ?_
                  obtain ⟨x28, hx28, h⟩ := bd_some h
                  refine r_iald (pc := 178) hX (R32_w _) hx28 (dk D_X12_slip 86 rfl) (fun qx28 => ?_)
                  obtain ⟨_, hi, h⟩ := bd_some h
                  obtain ⟨x29, μ30, hx29, h⟩ := bd2_some h
                  refine r_invV0 (As := [(0, a1), (0, a2), (0, x28)]) (pc := 179) hX ml_12_246 (L_M_worthOf q_a1 q_a2 qx28 hx29) (isk_u hi) (Rm_of hRm (by decide) ⟨by decide, by decide⟩) (by decide) rfl (Nat.le_of_ble_eq_true rfl) rfl (dk D_X12_slip 87 rfl) (fun qx29 => ?_)
                  cases h
                  exact r_ireturn (pc := 182) hX qx29 hM ⟨by decide, by decide⟩ (dk D_X12_slip 88 rfl)
      · rw [if_pos hc] at h
        refine r_bipush (pc := 50) hX rfl (dk D_X12_slip 29 rfl) ?_
        cases h
        exact r_ireturn (pc := 52) hX (R32_lit rfl) hM ⟨by decide, by decide⟩ (dk D_X12_slip 30 rfl)
    · rw [if_pos hc] at h
      refine r_bipush (pc := 25) hX rfl (dk D_X12_slip 13 rfl) ?_
      cases h
      exact r_ireturn (pc := 27) hX (R32_lit rfl) hM ⟨by decide, by decide⟩ (dk D_X12_slip 14 rfl)
set_option maxRecDepth 100000 in
set_option maxHeartbeats 4000000 in
theorem L_M_hasBack {E : EX} {l : Launch} {a0 a1 a2 res : Int} {μ μ' : Mem} (q_a1 : R32 a1) (q_a2 : R32 a2) (h : M_hasBack a0 a1 a2 μ = some (res, μ')) : Ok E l 2 yX12_hasBack (.code yX12_hasBack cX12_hasBack 4 (some .boolean)) 0 0 [(2, a0), (0, a1), (0, a2)] μ (some (0, res)) μ' := by
  refine Ok.of (own := "TollsBackModel") [(0, 2, a0), (1, 0, a1), (2, 0, a2)] (by decide +kernel) rfl (Nat.le_of_ble_eq_true rfl) rfl ?_
  intro X hL hRm hin hX hM
  unfold M_hasBack at h
  subst hL
  refine r_aloadn (pc := 0) hX 0 rfl (dk D_X12_hasBack 0 rfl) ?_
  obtain ⟨x1, hx1, h⟩ := bd_some h
  refine r_getR (pc := 1) hX fl_12_13 rfl hx1 (dk D_X12_hasBack 1 rfl) ?_
  refine r_sipush (pc := 4) hX rfl (dk D_X12_hasBack 2 rfl) ?_
  refine r_iloadn (pc := 7) hX 1 rfl (dk D_X12_hasBack 3 rfl) ?_
  refine r_iadd (pc := 8) hX (dk D_X12_hasBack 4 rfl) ?_
  obtain ⟨x2, hx2, h⟩ := bd_some h
  refine r_iald (pc := 9) hX (R32_w _) hx2 (dk D_X12_hasBack 5 rfl) (fun qx2 => ?_)
  refine r_istoren (lv' := [(3, 0, x2), (0, 2, a0), (1, 0, a1), (2, 0, a2)]) (pc := 10) hX (by decide) rfl (dk D_X12_hasBack 6 rfl) ?_
  refine r_iloadn (pc := 11) hX 0 rfl (dk D_X12_hasBack 7 rfl) ?_
  refine r_if_le (pc := 12) hX qx2 55 rfl (dk D_X12_hasBack 8 rfl) (fun hc => ?_) (fun hc => ?_)
  · rw [if_neg hc] at h
    refine r_iconst (pc := 55) hX (dk D_X12_hasBack 33 rfl) ?_
    cases h
    exact r_zreturn (pc := 56) hX (R32_lit rfl) hM (Or.inl rfl) ⟨by decide, by decide⟩ (dk D_X12_hasBack 34 rfl)
  · rw [if_pos hc] at h
    refine r_aloadn (pc := 15) hX 1 rfl (dk D_X12_hasBack 9 rfl) ?_
    obtain ⟨x3, hx3, h⟩ := bd_some h
    refine r_getR (pc := 16) hX fl_12_13 rfl hx3 (dk D_X12_hasBack 10 rfl) ?_
    refine r_sipush (pc := 19) hX rfl (dk D_X12_hasBack 11 rfl) ?_
    refine r_iloadn (pc := 22) hX 2 rfl (dk D_X12_hasBack 12 rfl) ?_
    refine r_iloadn (pc := 23) hX 0 rfl (dk D_X12_hasBack 13 rfl) ?_
    refine r_iconst (pc := 24) hX (dk D_X12_hasBack 14 rfl) ?_
    refine r_isub (pc := 25) hX (dk D_X12_hasBack 15 rfl) ?_
    obtain ⟨x4, μ5, hx4, h⟩ := bd2_some h
    refine r_invS0 (As := [(0, a1), (0, (w32 (x2 - 1)))]) (pc := 26) hX ml_12_233 (L_M_slipAt q_a1 (R32_w _) hx4) (Rm_of hRm (by decide) ⟨by decide, by decide⟩) (by decide) rfl (Nat.le_of_ble_eq_true rfl) rfl (dk D_X12_hasBack 16 rfl) (fun qx4 => ?_)
    refine r_iadd (pc := 29) hX (dk D_X12_hasBack 17 rfl) ?_
    obtain ⟨x6, hx6, h⟩ := bd_some h
    refine r_iald (pc := 30) hX (R32_w _) hx6 (dk D_X12_hasBack 18 rfl) (fun qx6 => ?_)
    refine r_aloadn (pc := 31) hX 1 rfl (dk D_X12_hasBack 19 rfl) ?_
    refine r_iloadn (pc := 32) hX 3 rfl (dk D_X12_hasBack 20 rfl) ?_
    refine r_aloadn (pc := 33) hX 1 rfl (dk D_X12_hasBack 21 rfl) ?_
    obtain ⟨x7, hx7, h⟩ := bd_some h
    refine r_getR (pc := 34) hX fl_12_13 rfl hx7 (dk D_X12_hasBack 22 rfl) ?_
    refine r_sipush (pc := 37) hX rfl (dk D_X12_hasBack 23 rfl) ?_
    refine r_iloadn (pc := 40) hX 2 rfl (dk D_X12_hasBack 24 rfl) ?_
    refine r_iadd (pc := 41) hX (dk D_X12_hasBack 25 rfl) ?_
    obtain ⟨x8, hx8, h⟩ := bd_some h
    refine r_iald (pc := 42) hX (R32_w _) hx8 (dk D_X12_hasBack 26 rfl) (fun qx8 => ?_)
    obtain ⟨_, hi, h⟩ := bd_some h
    obtain ⟨x9, μ10, hx9, h⟩ := bd2_some h
    refine r_invV0 (As := [(0, a2), (0, x8)]) (pc := 43) hX ml_12_249 (L_M_dartBy q_a2 qx8 hx9) (isk_u hi) (Rm_of hRm (by decide) ⟨by decide, by decide⟩) (by decide) rfl (Nat.le_of_ble_eq_true rfl) rfl (dk D_X12_hasBack 27 rfl) (fun qx9 => ?_)
    refine r_iconst (pc := 46) hX (dk D_X12_hasBack 28 rfl) ?_
    refine r_ixor (pc := 47) hX (dk D_X12_hasBack 29 rfl) ?_
    refine r_icmp_ne (pc := 48) hX qx6 (R32_t _) 55 rfl (dk D_X12_hasBack 30 rfl) (fun hc => ?_) (fun hc => ?_)
    · rw [if_neg hc] at h
      refine r_iconst (pc := 55) hX (dk D_X12_hasBack 33 rfl) ?_
      cases h
      exact r_zreturn (pc := 56) hX (R32_lit rfl) hM (Or.inl rfl) ⟨by decide, by decide⟩ (dk D_X12_hasBack 34 rfl)
    · rw [if_pos hc] at h
      refine r_iconst (pc := 51) hX (dk D_X12_hasBack 31 rfl) ?_
      refine r_goto (pc := 52) hX 56 rfl (dk D_X12_hasBack 32 rfl) ?_
      cases h
      exact r_zreturn (pc := 56) hX (R32_lit rfl) hM (Or.inr rfl) ⟨by decide, by decide⟩ (dk D_X12_hasBack 34 rfl)
set_option maxRecDepth 100000 in
set_option maxHeartbeats 4000000 in
theorem L_M_refuses {E : EX} {l : Launch} {a0 a1 a2 res : Int} {μ μ' : Mem} (q_a1 : R32 a1) (q_a2 : R32 a2) (h : M_refuses a0 a1 a2 μ = some (res, μ')) : Ok E l 4 yX12_refuses (.code yX12_refuses cX12_refuses 3 (some .int)) 0 0 [(2, a0), (0, a1), (0, a2)] μ (some (0, res)) μ' := by
  refine Ok.of (own := "TollsBackModel") [(0, 2, a0), (1, 0, a1), (2, 0, a2)] (by decide +kernel) rfl (Nat.le_of_ble_eq_true rfl) rfl ?_
  intro X hL hRm hin hX hM
  unfold M_refuses at h
  subst hL
  refine r_aloadn (pc := 0) hX 0 rfl (dk D_X12_refuses 0 rfl) ?_
  refine r_iloadn (pc := 1) hX 2 rfl (dk D_X12_refuses 1 rfl) ?_
  obtain ⟨_, hi, h⟩ := bd_some h
  obtain ⟨x1, μ2, hx1, h⟩ := bd2_some h
  refine r_invV0 (As := [(0, a2)]) (pc := 2) hX ml_12_213 (L_M_isOpen q_a2 hx1) (isk_u hi) (Rm_of hRm (by decide) ⟨by decide, by decide⟩) (by decide) rfl (Nat.le_of_ble_eq_true rfl) rfl (dk D_X12_refuses 2 rfl) (fun qx1 => ?_)
  refine r_if_ne (pc := 5) hX qx1 11 rfl (dk D_X12_refuses 3 rfl) (fun hc => ?_) (fun hc => ?_)
  · rw [if_neg hc] at h
    refine r_aloadn (pc := 11) hX 0 rfl (dk D_X12_refuses 6 rfl) ?_
    refine r_iloadn (pc := 12) hX 2 rfl (dk D_X12_refuses 7 rfl) ?_
    refine r_aloadn (pc := 13) hX 0 rfl (dk D_X12_refuses 8 rfl) ?_
    obtain ⟨x3, hx3, h⟩ := bd_some h
    refine r_getR (pc := 14) hX fl_12_13 rfl hx3 (dk D_X12_refuses 9 rfl) ?_
    refine r_sipush (pc := 17) hX rfl (dk D_X12_refuses 10 rfl) ?_
    refine r_iloadn (pc := 20) hX 1 rfl (dk D_X12_refuses 11 rfl) ?_
    refine r_iadd (pc := 21) hX (dk D_X12_refuses 12 rfl) ?_
    obtain ⟨x4, hx4, h⟩ := bd_some h
    refine r_iald (pc := 22) hX (R32_w _) hx4 (dk D_X12_refuses 13 rfl) (fun qx4 => ?_)
    obtain ⟨_, hi, h⟩ := bd_some h
    obtain ⟨x5, μ6, hx5, h⟩ := bd2_some h
    refine r_invV0 (As := [(0, a2), (0, x4)]) (pc := 23) hX ml_12_216 (L_M_leads q_a2 qx4 hx5) (isk_u hi) (Rm_of hRm (by decide) ⟨by decide, by decide⟩) (by decide) rfl (Nat.le_of_ble_eq_true rfl) rfl (dk D_X12_refuses 14 rfl) (fun qx5 => ?_)
    refine r_if_ne (pc := 26) hX qx5 32 rfl (dk D_X12_refuses 15 rfl) (fun hc => ?_) (fun hc => ?_)
    · rw [if_neg hc] at h
      refine r_aloadn (pc := 32) hX 0 rfl (dk D_X12_refuses 18 rfl) ?_
      refine r_iloadn (pc := 33) hX 1 rfl (dk D_X12_refuses 19 rfl) ?_
      refine r_iloadn (pc := 34) hX 2 rfl (dk D_X12_refuses 20 rfl) ?_
      obtain ⟨_, hi, h⟩ := bd_some h
      obtain ⟨x7, μ8, hx7, h⟩ := bd2_some h
      refine r_invV0 (As := [(0, a1), (0, a2)]) (pc := 35) hX ml_12_252 (L_M_hasBack q_a1 q_a2 hx7) (isk_u hi) (Rm_of hRm (by decide) ⟨by decide, by decide⟩) (by decide) rfl (Nat.le_of_ble_eq_true rfl) rfl (dk D_X12_refuses 21 rfl) (fun qx7 => ?_)
      refine r_if_eq (pc := 38) hX qx7 43 rfl (dk D_X12_refuses 22 rfl) (fun hc => ?_) (fun hc => ?_)
      · rw [if_pos hc] at h
        refine r_aloadn (pc := 43) hX 0 rfl (dk D_X12_refuses 25 rfl) ?_
        obtain ⟨x9, hx9, h⟩ := bd_some h
        refine r_getR (pc := 44) hX fl_12_13 rfl hx9 (dk D_X12_refuses 26 rfl) ?_
        refine r_sipush (pc := 47) hX rfl (dk D_X12_refuses 27 rfl) ?_
        refine r_iloadn (pc := 50) hX 1 rfl (dk D_X12_refuses 28 rfl) ?_
        refine r_iadd (pc := 51) hX (dk D_X12_refuses 29 rfl) ?_
        obtain ⟨x10, hx10, h⟩ := bd_some h
        refine r_iald (pc := 52) hX (R32_w _) hx10 (dk D_X12_refuses 30 rfl) (fun qx10 => ?_)
        refine r_aloadn (pc := 53) hX 0 rfl (dk D_X12_refuses 31 rfl) ?_
        refine r_iloadn (pc := 54) hX 2 rfl (dk D_X12_refuses 32 rfl) ?_
        refine r_aloadn (pc := 55) hX 0 rfl (dk D_X12_refuses 33 rfl) ?_
        obtain ⟨x11, hx11, h⟩ := bd_some h
        refine r_getR (pc := 56) hX fl_12_13 rfl hx11 (dk D_X12_refuses 34 rfl) ?_
        refine r_sipush (pc := 59) hX rfl (dk D_X12_refuses 35 rfl) ?_
        refine r_iloadn (pc := 62) hX 1 rfl (dk D_X12_refuses 36 rfl) ?_
        refine r_iadd (pc := 63) hX (dk D_X12_refuses 37 rfl) ?_
        obtain ⟨x12, hx12, h⟩ := bd_some h
        refine r_iald (pc := 64) hX (R32_w _) hx12 (dk D_X12_refuses 38 rfl) (fun qx12 => ?_)
        obtain ⟨_, hi, h⟩ := bd_some h
        obtain ⟨x13, μ14, hx13, h⟩ := bd2_some h
        refine r_invV0 (As := [(0, a2), (0, x12)]) (pc := 65) hX ml_12_225 (L_M_tollOn q_a2 qx12 hx13) (isk_u hi) (Rm_of hRm (by decide) ⟨by decide, by decide⟩) (by decide) rfl (Nat.le_of_ble_eq_true rfl) rfl (dk D_X12_refuses 39 rfl) (fun qx13 => ?_)
        refine r_icmp_ge (pc := 68) hX qx10 qx13 76 rfl (dk D_X12_refuses 40 rfl) (fun hc => ?_) (fun hc => ?_)
        · rw [if_neg hc] at h
          refine r_aloadn (pc := 76) hX 0 rfl (dk D_X12_refuses 43 rfl) ?_
          obtain ⟨x15, hx15, h⟩ := bd_some h
          refine r_getR (pc := 77) hX fl_12_13 rfl hx15 (dk D_X12_refuses 44 rfl) ?_
          refine r_sipush (pc := 80) hX rfl (dk D_X12_refuses 45 rfl) ?_
          refine r_iloadn (pc := 83) hX 1 rfl (dk D_X12_refuses 46 rfl) ?_
          refine r_iadd (pc := 84) hX (dk D_X12_refuses 47 rfl) ?_
          obtain ⟨x16, hx16, h⟩ := bd_some h
          refine r_iald (pc := 85) hX (R32_w _) hx16 (dk D_X12_refuses 48 rfl) (fun qx16 => ?_)
          refine r_bipush (pc := 86) hX rfl (dk D_X12_refuses 49 rfl) ?_
          refine r_icmp_ne (pc := 88) hX qx16 (R32_lit rfl) 96 rfl (dk D_X12_refuses 50 rfl) (fun hc => ?_) (fun hc => ?_)
          · rw [if_neg hc] at h
            refine r_iconst (pc := 96) hX (dk D_X12_refuses 53 rfl) ?_
            cases h
            exact r_ireturn (pc := 97) hX (R32_lit rfl) hM ⟨by decide, by decide⟩ (dk D_X12_refuses 54 rfl)
          · rw [if_pos hc] at h
            refine r_bipush (pc := 91) hX rfl (dk D_X12_refuses 51 rfl) ?_
            refine r_goto (pc := 93) hX 97 rfl (dk D_X12_refuses 52 rfl) ?_
            cases h
            exact r_ireturn (pc := 97) hX (R32_lit rfl) hM ⟨by decide, by decide⟩ (dk D_X12_refuses 54 rfl)
        · rw [if_pos hc] at h
          refine r_bipush (pc := 71) hX rfl (dk D_X12_refuses 41 rfl) ?_
          refine r_goto (pc := 73) hX 97 rfl (dk D_X12_refuses 42 rfl) ?_
          cases h
          exact r_ireturn (pc := 97) hX (R32_lit rfl) hM ⟨by decide, by decide⟩ (dk D_X12_refuses 54 rfl)
      · rw [if_neg hc] at h
        refine r_iconst (pc := 41) hX (dk D_X12_refuses 23 rfl) ?_
        cases h
        exact r_ireturn (pc := 42) hX (R32_lit rfl) hM ⟨by decide, by decide⟩ (dk D_X12_refuses 24 rfl)
    · rw [if_pos hc] at h
      refine r_bipush (pc := 29) hX rfl (dk D_X12_refuses 16 rfl) ?_
      cases h
      exact r_ireturn (pc := 31) hX (R32_lit rfl) hM ⟨by decide, by decide⟩ (dk D_X12_refuses 17 rfl)
  · rw [if_pos hc] at h
    refine r_bipush (pc := 8) hX rfl (dk D_X12_refuses 4 rfl) ?_
    cases h
    exact r_ireturn (pc := 10) hX (R32_lit rfl) hM ⟨by decide, by decide⟩ (dk D_X12_refuses 5 rfl)
set_option maxRecDepth 100000 in
set_option maxHeartbeats 4000000 in
theorem L_M_goes_J294 {E : EX} {X : CX} {res : Int} {μe : Mem} (hX : Good E X cX12_goes 9 "TollsBackModel") (hM : GoodM E X (some .int) (some (0, res)) μe 0 0) (hRm : cR X = rmOf 4 0 0) {v5 v7 : Int} {μ : Mem} (q_v5 : R32 v5) (q_v7 : R32 v7) (h : M_goes_J294 v5 v7 μ = some (res, μe)) : At E X cX12_goes 9 "TollsBackModel" (0, 0) 294 [(5, 0, v5), (7, 0, v7)] [] μ := by
  unfold M_goes_J294 at h
  refine r_iload (pc := 294) hX 0 rfl (dk D_X12_goes 177 rfl) ?_
  refine r_if_eq (pc := 296) hX q_v5 308 rfl (dk D_X12_goes 178 rfl) (fun hc => ?_) (fun hc => ?_)
  · rw [if_pos hc] at h
    refine r_iload (pc := 308) hX 1 rfl (dk D_X12_goes 183 rfl) ?_
    cases h
    exact r_ireturn (pc := 310) hX q_v7 hM ⟨by decide, by decide⟩ (dk D_X12_goes 184 rfl)
  · rw [if_neg hc] at h
    refine r_sipush (pc := 299) hX rfl (dk D_X12_goes 179 rfl) ?_
    refine r_iload (pc := 302) hX 1 rfl (dk D_X12_goes 180 rfl) ?_
    refine r_iadd (pc := 304) hX (dk D_X12_goes 181 rfl) ?_
    refine r_goto (pc := 305) hX 310 rfl (dk D_X12_goes 182 rfl) ?_
    cases h
    exact r_ireturn (pc := 310) hX (R32_w _) hM ⟨by decide, by decide⟩ (dk D_X12_goes 184 rfl)
set_option maxRecDepth 100000 in
set_option maxHeartbeats 4000000 in
theorem L_M_goes {E : EX} {l : Launch} {a0 a1 a2 res : Int} {μ μ' : Mem} (q_a1 : R32 a1) (q_a2 : R32 a2) (h : M_goes a0 a1 a2 μ = some (res, μ')) : Ok E l 4 yX12_goes (.code yX12_goes cX12_goes 9 (some .int)) 0 0 [(2, a0), (0, a1), (0, a2)] μ (some (0, res)) μ' := by
  refine Ok.of (own := "TollsBackModel") [(0, 2, a0), (1, 0, a1), (2, 0, a2)] (by decide +kernel) rfl (Nat.le_of_ble_eq_true rfl) rfl ?_
  intro X hL hRm hin hX hM
  unfold M_goes at h
  subst hL
  refine r_aloadn (pc := 0) hX 0 rfl (dk D_X12_goes 0 rfl) ?_
  obtain ⟨x1, hx1, h⟩ := bd_some h
  refine r_getR (pc := 1) hX fl_12_13 rfl hx1 (dk D_X12_goes 1 rfl) ?_
  refine r_sipush (pc := 4) hX rfl (dk D_X12_goes 2 rfl) ?_
  refine r_iloadn (pc := 7) hX 1 rfl (dk D_X12_goes 3 rfl) ?_
  refine r_iadd (pc := 8) hX (dk D_X12_goes 4 rfl) ?_
  obtain ⟨x2, hx2, h⟩ := bd_some h
  refine r_iald (pc := 9) hX (R32_w _) hx2 (dk D_X12_goes 5 rfl) (fun qx2 => ?_)
  refine r_istoren (lv' := [(3, 0, x2), (0, 2, a0), (1, 0, a1), (2, 0, a2)]) (pc := 10) hX (by decide) rfl (dk D_X12_goes 6 rfl) ?_
  refine r_aloadn (pc := 11) hX 1 rfl (dk D_X12_goes 7 rfl) ?_
  refine r_iloadn (pc := 12) hX 3 rfl (dk D_X12_goes 8 rfl) ?_
  refine r_aloadn (pc := 13) hX 1 rfl (dk D_X12_goes 9 rfl) ?_
  obtain ⟨x3, hx3, h⟩ := bd_some h
  refine r_getR (pc := 14) hX fl_12_13 rfl hx3 (dk D_X12_goes 10 rfl) ?_
  refine r_sipush (pc := 17) hX rfl (dk D_X12_goes 11 rfl) ?_
  refine r_iloadn (pc := 20) hX 2 rfl (dk D_X12_goes 12 rfl) ?_
  refine r_iadd (pc := 21) hX (dk D_X12_goes 13 rfl) ?_
  obtain ⟨x4, hx4, h⟩ := bd_some h
  refine r_iald (pc := 22) hX (R32_w _) hx4 (dk D_X12_goes 14 rfl) (fun qx4 => ?_)
  obtain ⟨_, hi, h⟩ := bd_some h
  obtain ⟨x5, μ6, hx5, h⟩ := bd2_some h
  refine r_invV0 (As := [(0, a2), (0, x4)]) (pc := 23) hX ml_12_249 (L_M_dartBy q_a2 qx4 hx5) (isk_u hi) (Rm_of hRm (by decide) ⟨by decide, by decide⟩) (by decide) rfl (Nat.le_of_ble_eq_true rfl) rfl (dk D_X12_goes 15 rfl) (fun qx5 => ?_)
  refine r_istore (lv' := [(4, 0, x5), (3, 0, x2), (0, 2, a0), (1, 0, a1), (2, 0, a2)]) (pc := 26) hX (by decide) rfl (dk D_X12_goes 16 rfl) ?_
  refine r_aloadn (pc := 28) hX 2 rfl (dk D_X12_goes 17 rfl) ?_
  refine r_iloadn (pc := 29) hX 3 rfl (dk D_X12_goes 18 rfl) ?_
  refine r_iloadn (pc := 30) hX 4 rfl (dk D_X12_goes 19 rfl) ?_
  obtain ⟨_, hi, h⟩ := bd_some h
  obtain ⟨x7, μ8, hx7, h⟩ := bd2_some h
  refine r_invV0 (As := [(0, a1), (0, a2)]) (pc := 31) hX ml_12_252 (L_M_hasBack q_a1 q_a2 hx7) (isk_u hi) (Rm_of hRm (by decide) ⟨by decide, by decide⟩) (by decide) rfl (Nat.le_of_ble_eq_true rfl) rfl (dk D_X12_goes 20 rfl) (fun qx7 => ?_)
  refine r_istore (lv' := [(5, 0, x7), (4, 0, x5), (3, 0, x2), (0, 2, a0), (1, 0, a1), (2, 0, a2)]) (pc := 34) hX (by decide) rfl (dk D_X12_goes 21 rfl) ?_
  refine r_aloadn (pc := 36) hX 3 rfl (dk D_X12_goes 22 rfl) ?_
  obtain ⟨x9, hx9, h⟩ := bd_some h
  refine r_getR (pc := 37) hX fl_12_13 rfl hx9 (dk D_X12_goes 23 rfl) ?_
  refine r_sipush (pc := 40) hX rfl (dk D_X12_goes 24 rfl) ?_
  refine r_iloadn (pc := 43) hX 4 rfl (dk D_X12_goes 25 rfl) ?_
  refine r_iadd (pc := 44) hX (dk D_X12_goes 26 rfl) ?_
  obtain ⟨x10, hx10, h⟩ := bd_some h
  refine r_iald (pc := 45) hX (R32_w _) hx10 (dk D_X12_goes 27 rfl) (fun qx10 => ?_)
  refine r_istore (lv' := [(6, 0, x10), (5, 0, x7), (4, 0, x5), (3, 0, x2), (0, 2, a0), (1, 0, a1), (2, 0, a2)]) (pc := 46) hX (by decide) rfl (dk D_X12_goes 28 rfl) ?_
  refine r_iload (pc := 48) hX 1 rfl (dk D_X12_goes 29 rfl) ?_
  obtain ⟨y11, μ12, hb, h⟩ := bd2_some h
  have hj : R32 y11 → At E X cX12_goes 9 "TollsBackModel" (0, 0) 72 [(0, 2, a0), (1, 0, a1), (2, 0, a2), (3, 0, x2), (4, 0, x5), (5, 0, x7), (6, 0, x10)] [(0, y11)] μ12 := by
    intro qy11
    clear hb
    refine r_istore (lv' := [(7, 0, y11), (0, 2, a0), (1, 0, a1), (2, 0, a2), (3, 0, x2), (4, 0, x5), (5, 0, x7), (6, 0, x10)]) (pc := 72) hX (by decide) rfl (dk D_X12_goes 43 rfl) ?_
    refine r_iload (pc := 74) hX 6 rfl (dk D_X12_goes 44 rfl) ?_
    obtain ⟨μ17, hb, h⟩ := bd_some h
    have hj : At E X cX12_goes 9 "TollsBackModel" (0, 0) 216 [(0, 2, a0), (1, 0, a1), (2, 0, a2), (3, 0, x2), (4, 0, x5), (5, 0, x7), (7, 0, y11)] [] μ17 := by
      clear hb
      refine r_aloadn (pc := 216) hX 0 rfl (dk D_X12_goes 132 rfl) ?_
      obtain ⟨x44, hx44, h⟩ := bd_some h
      refine r_getR (pc := 217) hX fl_12_13 rfl hx44 (dk D_X12_goes 133 rfl) ?_
      refine r_sipush (pc := 220) hX rfl (dk D_X12_goes 134 rfl) ?_
      refine r_iloadn (pc := 223) hX 1 rfl (dk D_X12_goes 135 rfl) ?_
      refine r_iadd (pc := 224) hX (dk D_X12_goes 136 rfl) ?_
      refine r_aloadn (pc := 225) hX 0 rfl (dk D_X12_goes 137 rfl) ?_
      refine r_iload (pc := 226) hX 4 rfl (dk D_X12_goes 138 rfl) ?_
      obtain ⟨_, hi, h⟩ := bd_some h
      obtain ⟨x45, μ46, hx45, h⟩ := bd2_some h
      refine r_invV0 (As := [(0, x5)]) (pc := 228) hX ml_12_243 (L_M_headOf qx5 hx45) (isk_u hi) (Rm_of hRm (by decide) ⟨by decide, by decide⟩) (by decide) rfl (Nat.le_of_ble_eq_true rfl) rfl (dk D_X12_goes 139 rfl) (fun qx45 => ?_)
      obtain ⟨μ47, hμ47, h⟩ := bd_some h
      refine r_iast (pc := 231) hX (R32_w _) qx45 hμ47 (dk D_X12_goes 140 rfl) ?_
      refine r_aloadn (pc := 232) hX 0 rfl (dk D_X12_goes 141 rfl) ?_
      obtain ⟨x48, hx48, h⟩ := bd_some h
      refine r_getR (pc := 233) hX fl_12_13 rfl hx48 (dk D_X12_goes 142 rfl) ?_
      refine r_sipush (pc := 236) hX rfl (dk D_X12_goes 143 rfl) ?_
      refine r_iloadn (pc := 239) hX 1 rfl (dk D_X12_goes 144 rfl) ?_
      refine r_iadd (pc := 240) hX (dk D_X12_goes 145 rfl) ?_
      refine r_dup2 (pc := 241) hX rfl rfl (dk D_X12_goes 146 rfl) ?_
      obtain ⟨x49, hx49, h⟩ := bd_some h
      refine r_iald (pc := 242) hX (R32_w _) hx49 (dk D_X12_goes 147 rfl) (fun qx49 => ?_)
      refine r_aloadn (pc := 243) hX 0 rfl (dk D_X12_goes 148 rfl) ?_
      obtain ⟨x50, hx50, h⟩ := bd_some h
      refine r_getR (pc := 244) hX fl_12_13 rfl hx50 (dk D_X12_goes 149 rfl) ?_
      refine r_bipush (pc := 247) hX rfl (dk D_X12_goes 150 rfl) ?_
      refine r_iloadn (pc := 249) hX 2 rfl (dk D_X12_goes 151 rfl) ?_
      refine r_iadd (pc := 250) hX (dk D_X12_goes 152 rfl) ?_
      obtain ⟨x51, hx51, h⟩ := bd_some h
      refine r_iald (pc := 251) hX (R32_w _) hx51 (dk D_X12_goes 153 rfl) (fun qx51 => ?_)
      refine r_iadd (pc := 252) hX (dk D_X12_goes 154 rfl) ?_
      obtain ⟨μ52, hμ52, h⟩ := bd_some h
      refine r_iast (pc := 253) hX (R32_w _) (R32_w _) hμ52 (dk D_X12_goes 155 rfl) ?_
      refine r_aloadn (pc := 254) hX 0 rfl (dk D_X12_goes 156 rfl) ?_
      obtain ⟨x53, hx53, h⟩ := bd_some h
      refine r_getI (pc := 255) hX fl_12_30 rfl rfl hx53 (dk D_X12_goes 157 rfl) (fun qx53 => ?_)
      refine r_if_eq (pc := 258) hX qx53 294 rfl (dk D_X12_goes 158 rfl) (fun hc => ?_) (fun hc => ?_)
      · rw [if_pos hc] at h
        refine r_sub (lv' := [(5, 0, x7), (7, 0, y11)]) [5, 6] rfl ?_
        refine L_M_goes_J294 hX hM hRm qx7 qy11 h
      · rw [if_neg hc] at h
        refine r_iloadn (pc := 261) hX 3 rfl (dk D_X12_goes 159 rfl) ?_
        refine r_sipush (pc := 262) hX rfl (dk D_X12_goes 160 rfl) ?_
        refine r_icmp_ge (pc := 265) hX qx2 (R32_lit rfl) 294 rfl (dk D_X12_goes 161 rfl) (fun hc => ?_) (fun hc => ?_)
        · rw [if_neg hc] at h
          refine r_sub (lv' := [(5, 0, x7), (7, 0, y11)]) [5, 6] rfl ?_
          refine L_M_goes_J294 hX hM hRm qx7 qy11 h
        · rw [if_pos hc] at h
          refine r_aloadn (pc := 268) hX 0 rfl (dk D_X12_goes 162 rfl) ?_
          obtain ⟨x54, hx54, h⟩ := bd_some h
          refine r_getR (pc := 269) hX fl_12_13 rfl hx54 (dk D_X12_goes 163 rfl) ?_
          refine r_sipush (pc := 272) hX rfl (dk D_X12_goes 164 rfl) ?_
          refine r_iloadn (pc := 275) hX 3 rfl (dk D_X12_goes 165 rfl) ?_
          refine r_iadd (pc := 276) hX (dk D_X12_goes 166 rfl) ?_
          refine r_dup2 (pc := 277) hX rfl rfl (dk D_X12_goes 167 rfl) ?_
          obtain ⟨x55, hx55, h⟩ := bd_some h
          refine r_iald (pc := 278) hX (R32_w _) hx55 (dk D_X12_goes 168 rfl) (fun qx55 => ?_)
          refine r_iload (pc := 279) hX 5 rfl (dk D_X12_goes 169 rfl) ?_
          obtain ⟨y56, hb, h⟩ := bd_some h
          have hj : R32 y56 → At E X cX12_goes 9 "TollsBackModel" (0, 0) 292 [(5, 0, x7), (7, 0, y11)] [(0, y56), (0, x55), (0, (w32 (909 + x2))), (2, x54)] μ52 := by
            intro qy56
            clear hb
            refine r_iadd (pc := 292) hX (dk D_X12_goes 175 rfl) ?_
            obtain ⟨μ57, hμ57, h⟩ := bd_some h
            refine r_iast (pc := 293) hX (R32_w _) (R32_w _) hμ57 (dk D_X12_goes 176 rfl) ?_
            refine L_M_goes_J294 hX hM hRm qx7 qy11 h
          clear h
          have h := hb
          clear hb
          refine r_if_eq (pc := 281) hX qx7 290 rfl (dk D_X12_goes 170 rfl) (fun hc => ?_) (fun hc => ?_)
          · rw [if_pos hc] at h
            refine r_iload (pc := 290) hX 6 rfl (dk D_X12_goes 174 rfl) ?_
            replace h := Option.some.inj h
            subst y56
            refine r_sub (lv' := [(5, 0, x7), (7, 0, y11)]) [5, 6] rfl ?_
            exact hj qy11
          · rw [if_neg hc] at h
            refine r_iload (pc := 284) hX 6 rfl (dk D_X12_goes 171 rfl) ?_
            refine r_ineg (pc := 286) hX (dk D_X12_goes 172 rfl) ?_
            refine r_goto (pc := 287) hX 292 rfl (dk D_X12_goes 173 rfl) ?_
            replace h := Option.some.inj h
            subst y56
            refine r_sub (lv' := [(5, 0, x7), (7, 0, y11)]) [5, 6] rfl ?_
            exact hj (R32_w _)
    clear h
    have h := hb
    clear hb
    refine r_if_eq (pc := 76) hX qx7 126 rfl (dk D_X12_goes 45 rfl) (fun hc => ?_) (fun hc => ?_)
    · rw [if_pos hc] at h
      refine r_iloadn (pc := 126) hX 2 rfl (dk D_X12_goes 77 rfl) ?_
      refine r_iload (pc := 127) hX 7 rfl (dk D_X12_goes 78 rfl) ?_
      obtain ⟨x18, μ19, hx18, h⟩ := bd2_some h
      refine r_invS0 (As := [(0, a1), (0, x10)]) (pc := 129) hX ml_12_233 (L_M_slipAt q_a1 qx10 hx18) (Rm_of hRm (by decide) ⟨by decide, by decide⟩) (by decide) rfl (Nat.le_of_ble_eq_true rfl) rfl (dk D_X12_goes 79 rfl) (fun qx18 => ?_)
      refine r_istore (lv' := [(8, 0, x18), (7, 0, y11), (0, 2, a0), (1, 0, a1), (2, 0, a2), (3, 0, x2), (4, 0, x5), (5, 0, x7), (6, 0, x10)]) (pc := 132) hX (by decide) rfl (dk D_X12_goes 80 rfl) ?_
      refine r_aloadn (pc := 134) hX 2 rfl (dk D_X12_goes 81 rfl) ?_
      obtain ⟨x20, hx20, h⟩ := bd_some h
      refine r_getR (pc := 135) hX fl_12_13 rfl hx20 (dk D_X12_goes 82 rfl) ?_
      refine r_sipush (pc := 138) hX rfl (dk D_X12_goes 83 rfl) ?_
      refine r_iload (pc := 141) hX 0 rfl (dk D_X12_goes 84 rfl) ?_
      refine r_iadd (pc := 143) hX (dk D_X12_goes 85 rfl) ?_
      refine r_iload (pc := 144) hX 6 rfl (dk D_X12_goes 86 rfl) ?_
      obtain ⟨μ21, hμ21, h⟩ := bd_some h
      refine r_iast (pc := 146) hX (R32_w _) qx5 hμ21 (dk D_X12_goes 87 rfl) ?_
      refine r_aloadn (pc := 147) hX 2 rfl (dk D_X12_goes 88 rfl) ?_
      obtain ⟨x22, hx22, h⟩ := bd_some h
      refine r_getR (pc := 148) hX fl_12_13 rfl hx22 (dk D_X12_goes 89 rfl) ?_
      refine r_sipush (pc := 151) hX rfl (dk D_X12_goes 90 rfl) ?_
      refine r_iload (pc := 154) hX 0 rfl (dk D_X12_goes 91 rfl) ?_
      refine r_iadd (pc := 156) hX (dk D_X12_goes 92 rfl) ?_
      refine r_iloadn (pc := 157) hX 5 rfl (dk D_X12_goes 93 rfl) ?_
      obtain ⟨μ23, hμ23, h⟩ := bd_some h
      refine r_iast (pc := 158) hX (R32_w _) qx2 hμ23 (dk D_X12_goes 94 rfl) ?_
      refine r_aloadn (pc := 159) hX 2 rfl (dk D_X12_goes 95 rfl) ?_
      obtain ⟨x24, hx24, h⟩ := bd_some h
      refine r_getR (pc := 160) hX fl_12_13 rfl hx24 (dk D_X12_goes 96 rfl) ?_
      refine r_sipush (pc := 163) hX rfl (dk D_X12_goes 97 rfl) ?_
      refine r_iload (pc := 166) hX 0 rfl (dk D_X12_goes 98 rfl) ?_
      refine r_iadd (pc := 168) hX (dk D_X12_goes 99 rfl) ?_
      refine r_iload (pc := 169) hX 1 rfl (dk D_X12_goes 100 rfl) ?_
      obtain ⟨μ25, hμ25, h⟩ := bd_some h
      refine r_iast (pc := 171) hX (R32_w _) qy11 hμ25 (dk D_X12_goes 101 rfl) ?_
      refine r_aloadn (pc := 172) hX 2 rfl (dk D_X12_goes 102 rfl) ?_
      obtain ⟨x26, hx26, h⟩ := bd_some h
      refine r_getR (pc := 173) hX fl_12_13 rfl hx26 (dk D_X12_goes 103 rfl) ?_
      refine r_sipush (pc := 176) hX rfl (dk D_X12_goes 104 rfl) ?_
      refine r_iloadn (pc := 179) hX 3 rfl (dk D_X12_goes 105 rfl) ?_
      refine r_iadd (pc := 180) hX (dk D_X12_goes 106 rfl) ?_
      refine r_dup2 (pc := 181) hX rfl rfl (dk D_X12_goes 107 rfl) ?_
      obtain ⟨x27, hx27, h⟩ := bd_some h
      refine r_iald (pc := 182) hX (R32_w _) hx27 (dk D_X12_goes 108 rfl) (fun qx27 => ?_)
      refine r_iconst (pc := 183) hX (dk D_X12_goes 109 rfl) ?_
      refine r_iadd (pc := 184) hX (dk D_X12_goes 110 rfl) ?_
      obtain ⟨μ28, hμ28, h⟩ := bd_some h
      refine r_iast (pc := 185) hX (R32_w _) (R32_w _) hμ28 (dk D_X12_goes 111 rfl) ?_
      refine r_aloadn (pc := 186) hX 2 rfl (dk D_X12_goes 112 rfl) ?_
      obtain ⟨x29, hx29, h⟩ := bd_some h
      refine r_getR (pc := 187) hX fl_12_13 rfl hx29 (dk D_X12_goes 113 rfl) ?_
      refine r_sipush (pc := 190) hX rfl (dk D_X12_goes 114 rfl) ?_
      refine r_iloadn (pc := 193) hX 3 rfl (dk D_X12_goes 115 rfl) ?_
      refine r_iadd (pc := 194) hX (dk D_X12_goes 116 rfl) ?_
      refine r_dup2 (pc := 195) hX rfl rfl (dk D_X12_goes 117 rfl) ?_
      obtain ⟨x30, hx30, h⟩ := bd_some h
      refine r_iald (pc := 196) hX (R32_w _) hx30 (dk D_X12_goes 118 rfl) (fun qx30 => ?_)
      refine r_iload (pc := 197) hX 1 rfl (dk D_X12_goes 119 rfl) ?_
      refine r_isub (pc := 199) hX (dk D_X12_goes 120 rfl) ?_
      obtain ⟨μ31, hμ31, h⟩ := bd_some h
      refine r_iast (pc := 200) hX (R32_w _) (R32_w _) hμ31 (dk D_X12_goes 121 rfl) ?_
      refine r_aloadn (pc := 201) hX 2 rfl (dk D_X12_goes 122 rfl) ?_
      obtain ⟨x32, hx32, h⟩ := bd_some h
      refine r_getR (pc := 202) hX fl_12_13 rfl hx32 (dk D_X12_goes 123 rfl) ?_
      refine r_sipush (pc := 205) hX rfl (dk D_X12_goes 124 rfl) ?_
      refine r_iloadn (pc := 208) hX 3 rfl (dk D_X12_goes 125 rfl) ?_
      refine r_iadd (pc := 209) hX (dk D_X12_goes 126 rfl) ?_
      refine r_dup2 (pc := 210) hX rfl rfl (dk D_X12_goes 127 rfl) ?_
      obtain ⟨x33, hx33, h⟩ := bd_some h
      refine r_iald (pc := 211) hX (R32_w _) hx33 (dk D_X12_goes 128 rfl) (fun qx33 => ?_)
      refine r_iload (pc := 212) hX 1 rfl (dk D_X12_goes 129 rfl) ?_
      refine r_iadd (pc := 214) hX (dk D_X12_goes 130 rfl) ?_
      obtain ⟨μ34, hμ34, h⟩ := bd_some h
      refine r_iast (pc := 215) hX (R32_w _) (R32_w _) hμ34 (dk D_X12_goes 131 rfl) ?_
      replace h := Option.some.inj h
      subst μ17
      refine r_sub (lv' := [(0, 2, a0), (1, 0, a1), (2, 0, a2), (3, 0, x2), (4, 0, x5), (5, 0, x7), (7, 0, y11)]) [2, 3, 4, 5, 6, 7, 1] rfl ?_
      exact hj
    · rw [if_neg hc] at h
      refine r_aloadn (pc := 79) hX 1 rfl (dk D_X12_goes 46 rfl) ?_
      obtain ⟨x35, hx35, h⟩ := bd_some h
      refine r_getR (pc := 80) hX fl_12_13 rfl hx35 (dk D_X12_goes 47 rfl) ?_
      refine r_sipush (pc := 83) hX rfl (dk D_X12_goes 48 rfl) ?_
      refine r_iloadn (pc := 86) hX 2 rfl (dk D_X12_goes 49 rfl) ?_
      refine r_iadd (pc := 87) hX (dk D_X12_goes 50 rfl) ?_
      refine r_dup2 (pc := 88) hX rfl rfl (dk D_X12_goes 51 rfl) ?_
      obtain ⟨x36, hx36, h⟩ := bd_some h
      refine r_iald (pc := 89) hX (R32_w _) hx36 (dk D_X12_goes 52 rfl) (fun qx36 => ?_)
      refine r_iconst (pc := 90) hX (dk D_X12_goes 53 rfl) ?_
      refine r_isub (pc := 91) hX (dk D_X12_goes 54 rfl) ?_
      obtain ⟨μ37, hμ37, h⟩ := bd_some h
      refine r_iast (pc := 92) hX (R32_w _) (R32_w _) hμ37 (dk D_X12_goes 55 rfl) ?_
      refine r_aloadn (pc := 93) hX 1 rfl (dk D_X12_goes 56 rfl) ?_
      obtain ⟨x38, hx38, h⟩ := bd_some h
      refine r_getR (pc := 94) hX fl_12_13 rfl hx38 (dk D_X12_goes 57 rfl) ?_
      refine r_sipush (pc := 97) hX rfl (dk D_X12_goes 58 rfl) ?_
      refine r_iloadn (pc := 100) hX 2 rfl (dk D_X12_goes 59 rfl) ?_
      refine r_iadd (pc := 101) hX (dk D_X12_goes 60 rfl) ?_
      refine r_dup2 (pc := 102) hX rfl rfl (dk D_X12_goes 61 rfl) ?_
      obtain ⟨x39, hx39, h⟩ := bd_some h
      refine r_iald (pc := 103) hX (R32_w _) hx39 (dk D_X12_goes 62 rfl) (fun qx39 => ?_)
      refine r_iload (pc := 104) hX 0 rfl (dk D_X12_goes 63 rfl) ?_
      refine r_iadd (pc := 106) hX (dk D_X12_goes 64 rfl) ?_
      obtain ⟨μ40, hμ40, h⟩ := bd_some h
      refine r_iast (pc := 107) hX (R32_w _) (R32_w _) hμ40 (dk D_X12_goes 65 rfl) ?_
      refine r_aloadn (pc := 108) hX 1 rfl (dk D_X12_goes 66 rfl) ?_
      obtain ⟨x41, hx41, h⟩ := bd_some h
      refine r_getR (pc := 109) hX fl_12_13 rfl hx41 (dk D_X12_goes 67 rfl) ?_
      refine r_sipush (pc := 112) hX rfl (dk D_X12_goes 68 rfl) ?_
      refine r_iloadn (pc := 115) hX 2 rfl (dk D_X12_goes 69 rfl) ?_
      refine r_iadd (pc := 116) hX (dk D_X12_goes 70 rfl) ?_
      refine r_dup2 (pc := 117) hX rfl rfl (dk D_X12_goes 71 rfl) ?_
      obtain ⟨x42, hx42, h⟩ := bd_some h
      refine r_iald (pc := 118) hX (R32_w _) hx42 (dk D_X12_goes 72 rfl) (fun qx42 => ?_)
      refine r_iload (pc := 119) hX 0 rfl (dk D_X12_goes 73 rfl) ?_
      refine r_iadd (pc := 121) hX (dk D_X12_goes 74 rfl) ?_
      obtain ⟨μ43, hμ43, h⟩ := bd_some h
      refine r_iast (pc := 122) hX (R32_w _) (R32_w _) hμ43 (dk D_X12_goes 75 rfl) ?_
      refine r_goto (pc := 123) hX 216 rfl (dk D_X12_goes 76 rfl) ?_
      replace h := Option.some.inj h
      subst μ17
      refine r_sub (lv' := [(0, 2, a0), (1, 0, a1), (2, 0, a2), (3, 0, x2), (4, 0, x5), (5, 0, x7), (7, 0, y11)]) [1, 2, 3, 4, 5, 6, 0] rfl ?_
      exact hj
  clear h
  have h := hb
  clear hb
  refine r_if_eq (pc := 50) hX qx7 66 rfl (dk D_X12_goes 30 rfl) (fun hc => ?_) (fun hc => ?_)
  · rw [if_pos hc] at h
    refine r_aloadn (pc := 66) hX 4 rfl (dk D_X12_goes 39 rfl) ?_
    refine r_iloadn (pc := 67) hX 6 rfl (dk D_X12_goes 40 rfl) ?_
    refine r_iloadn (pc := 68) hX 3 rfl (dk D_X12_goes 41 rfl) ?_
    obtain ⟨_, hi, h⟩ := bd_some h
    obtain ⟨x13, μ14, hx13, h⟩ := bd2_some h
    refine r_invV0 (As := [(0, a2), (0, x2)]) (pc := 69) hX ml_12_225 (L_M_tollOn q_a2 qx2 hx13) (isk_u hi) (Rm_of hRm (by decide) ⟨by decide, by decide⟩) (by decide) rfl (Nat.le_of_ble_eq_true rfl) rfl (dk D_X12_goes 42 rfl) (fun qx13 => ?_)
    replace h := Option.some.inj h
    obtain ⟨h_0, h⟩ := Prod.mk.inj h
    subst y11
    subst μ12
    refine r_sub (lv' := [(0, 2, a0), (1, 0, a1), (2, 0, a2), (3, 0, x2), (4, 0, x5), (5, 0, x7), (6, 0, x10)]) [4, 5, 6, 3, 2, 1, 0] rfl ?_
    exact hj qx13
  · rw [if_neg hc] at h
    refine r_aloadn (pc := 53) hX 4 rfl (dk D_X12_goes 31 rfl) ?_
    refine r_iloadn (pc := 54) hX 5 rfl (dk D_X12_goes 32 rfl) ?_
    refine r_iload (pc := 55) hX 0 rfl (dk D_X12_goes 33 rfl) ?_
    refine r_iconst (pc := 57) hX (dk D_X12_goes 34 rfl) ?_
    refine r_isub (pc := 58) hX (dk D_X12_goes 35 rfl) ?_
    refine r_iloadn (pc := 59) hX 3 rfl (dk D_X12_goes 36 rfl) ?_
    obtain ⟨_, hi, h⟩ := bd_some h
    obtain ⟨x15, μ16, hx15, h⟩ := bd2_some h
    refine r_invV0 (As := [(0, a1), (0, (w32 (x10 - 1))), (0, x2)]) (pc := 60) hX ml_12_246 (L_M_worthOf q_a1 (R32_w _) qx2 hx15) (isk_u hi) (Rm_of hRm (by decide) ⟨by decide, by decide⟩) (by decide) rfl (Nat.le_of_ble_eq_true rfl) rfl (dk D_X12_goes 37 rfl) (fun qx15 => ?_)
    refine r_goto (pc := 63) hX 72 rfl (dk D_X12_goes 38 rfl) ?_
    replace h := Option.some.inj h
    obtain ⟨h_0, h⟩ := Prod.mk.inj h
    subst y11
    subst μ12
    refine r_sub (lv' := [(0, 2, a0), (1, 0, a1), (2, 0, a2), (3, 0, x2), (4, 0, x5), (5, 0, x7), (6, 0, x10)]) [4, 5, 6, 3, 2, 1, 0] rfl ?_
    exact hj qx15
set_option maxRecDepth 100000 in
set_option maxHeartbeats 4000000 in
theorem L_M_go {E : EX} {l : Launch} {a0 a1 a2 res : Int} {μ μ' : Mem} (q_a1 : R32 a1) (q_a2 : R32 a2) (h : M_go a0 a1 a2 μ = some (res, μ')) : Ok E l 5 yX12_go (.code yX12_go cX12_go 4 (some .int)) 0 0 [(2, a0), (0, a1), (0, a2)] μ (some (0, res)) μ' := by
  refine Ok.of (own := "TollsBackModel") [(0, 2, a0), (1, 0, a1), (2, 0, a2)] (by decide +kernel) rfl (Nat.le_of_ble_eq_true rfl) rfl ?_
  intro X hL hRm hin hX hM
  unfold M_go at h
  subst hL
  refine r_aloadn (pc := 0) hX 0 rfl (dk D_X12_go 0 rfl) ?_
  refine r_iconst (pc := 1) hX (dk D_X12_go 1 rfl) ?_
  obtain ⟨μ1, hμ1, h⟩ := bd_some h
  refine r_putI (pc := 2) hX fl_12_1 rfl rfl (R32_lit rfl) trivial hμ1 (dk D_X12_go 2 rfl) ?_
  refine r_aloadn (pc := 5) hX 0 rfl (dk D_X12_go 3 rfl) ?_
  refine r_iloadn (pc := 6) hX 1 rfl (dk D_X12_go 4 rfl) ?_
  obtain ⟨_, hi, h⟩ := bd_some h
  obtain ⟨x2, μ3, hx2, h⟩ := bd2_some h
  refine r_invV0 (As := [(0, a1)]) (pc := 7) hX ml_12_230 (L_M_isOne q_a1 hx2) (isk_u hi) (Rm_of hRm (by decide) ⟨by decide, by decide⟩) (by decide) rfl (Nat.le_of_ble_eq_true rfl) rfl (dk D_X12_go 5 rfl) (fun qx2 => ?_)
  refine r_if_eq (pc := 10) hX qx2 22 rfl (dk D_X12_go 6 rfl) (fun hc => ?_) (fun hc => ?_)
  · rw [if_pos hc] at h
    refine r_bipush (pc := 22) hX rfl (dk D_X12_go 12 rfl) ?_
    cases h
    exact r_ireturn (pc := 24) hX (R32_lit rfl) hM ⟨by decide, by decide⟩ (dk D_X12_go 13 rfl)
  · rw [if_neg hc] at h
    refine r_aloadn (pc := 13) hX 0 rfl (dk D_X12_go 7 rfl) ?_
    refine r_iloadn (pc := 14) hX 2 rfl (dk D_X12_go 8 rfl) ?_
    refine r_i2l (pc := 15) hX q_a2 (dk D_X12_go 9 rfl) ?_
    obtain ⟨_, hi, h⟩ := bd_some h
    obtain ⟨x4, μ5, hx4, h⟩ := bd2_some h
    refine r_invV0 (As := [(1, a2)]) (pc := 16) hX ml_12_207 (L_M_isRoad (R64_of q_a2) hx4) (isk_u hi) (Rm_of hRm (by decide) ⟨by decide, by decide⟩) (by decide) rfl (Nat.le_of_ble_eq_true rfl) rfl (dk D_X12_go 10 rfl) (fun qx4 => ?_)
    refine r_if_ne (pc := 19) hX qx4 25 rfl (dk D_X12_go 11 rfl) (fun hc => ?_) (fun hc => ?_)
    · rw [if_neg hc] at h
      refine r_aloadn (pc := 25) hX 0 rfl (dk D_X12_go 14 rfl) ?_
      refine r_iloadn (pc := 26) hX 1 rfl (dk D_X12_go 15 rfl) ?_
      refine r_iloadn (pc := 27) hX 2 rfl (dk D_X12_go 16 rfl) ?_
      obtain ⟨_, hi, h⟩ := bd_some h
      obtain ⟨x6, μ7, hx6, h⟩ := bd2_some h
      refine r_invV0 (As := [(0, a1), (0, a2)]) (pc := 28) hX ml_12_255 (L_M_refuses q_a1 q_a2 hx6) (isk_u hi) (Rm_of hRm (by decide) ⟨by decide, by decide⟩) (by decide) rfl (Nat.le_of_ble_eq_true rfl) rfl (dk D_X12_go 17 rfl) (fun qx6 => ?_)
      refine r_istoren (lv' := [(3, 0, x6), (0, 2, a0), (1, 0, a1), (2, 0, a2)]) (pc := 31) hX (by decide) rfl (dk D_X12_go 18 rfl) ?_
      refine r_iloadn (pc := 32) hX 0 rfl (dk D_X12_go 19 rfl) ?_
      refine r_if_eq (pc := 33) hX qx6 40 rfl (dk D_X12_go 20 rfl) (fun hc => ?_) (fun hc => ?_)
      · rw [if_pos hc] at h
        refine r_aloadn (pc := 40) hX 1 rfl (dk D_X12_go 23 rfl) ?_
        refine r_iloadn (pc := 41) hX 2 rfl (dk D_X12_go 24 rfl) ?_
        refine r_iloadn (pc := 42) hX 3 rfl (dk D_X12_go 25 rfl) ?_
        obtain ⟨_, hi, h⟩ := bd_some h
        obtain ⟨x8, μ9, hx8, h⟩ := bd2_some h
        refine r_invV0 (As := [(0, a1), (0, a2)]) (pc := 43) hX ml_12_258 (L_M_goes q_a1 q_a2 hx8) (isk_u hi) (Rm_of hRm (by decide) ⟨by decide, by decide⟩) (by decide) rfl (Nat.le_of_ble_eq_true rfl) rfl (dk D_X12_go 26 rfl) (fun qx8 => ?_)
        cases h
        exact r_ireturn (pc := 46) hX qx8 hM ⟨by decide, by decide⟩ (dk D_X12_go 27 rfl)
      · rw [if_neg hc] at h
        refine r_iloadn (pc := 36) hX 0 rfl (dk D_X12_go 21 rfl) ?_
        refine r_goto (pc := 37) hX 46 rfl (dk D_X12_go 22 rfl) ?_
        cases h
        exact r_ireturn (pc := 46) hX qx6 hM ⟨by decide, by decide⟩ (dk D_X12_go 27 rfl)
    · rw [if_pos hc] at h
      refine r_bipush (pc := 22) hX rfl (dk D_X12_go 12 rfl) ?_
      cases h
      exact r_ireturn (pc := 24) hX (R32_lit rfl) hM ⟨by decide, by decide⟩ (dk D_X12_go 13 rfl)
set_option maxRecDepth 100000 in
set_option maxHeartbeats 4000000 in
theorem L_M_toss {E : EX} {l : Launch} {a0 a1 res : Int} {μ μ' : Mem} (q_a1 : R32 a1) (h : M_toss a0 a1 μ = some (res, μ')) : Ok E l 3 yX12_toss (.code yX12_toss cX12_toss 2 (some .int)) 0 0 [(2, a0), (0, a1)] μ (some (0, res)) μ' := by
  refine Ok.of (own := "TollsBackModel") [(0, 2, a0), (1, 0, a1)] (by decide +kernel) rfl (Nat.le_of_ble_eq_true rfl) rfl ?_
  intro X hL hRm hin hX hM
  unfold M_toss at h
  subst hL
  refine r_aloadn (pc := 0) hX 0 rfl (dk D_X12_toss 0 rfl) ?_
  refine r_iconst (pc := 1) hX (dk D_X12_toss 1 rfl) ?_
  obtain ⟨μ1, hμ1, h⟩ := bd_some h
  refine r_putI (pc := 2) hX fl_12_1 rfl rfl (R32_lit rfl) trivial hμ1 (dk D_X12_toss 2 rfl) ?_
  refine r_aloadn (pc := 5) hX 0 rfl (dk D_X12_toss 3 rfl) ?_
  refine r_iloadn (pc := 6) hX 1 rfl (dk D_X12_toss 4 rfl) ?_
  obtain ⟨_, hi, h⟩ := bd_some h
  obtain ⟨x2, μ3, hx2, h⟩ := bd2_some h
  refine r_invV0 (As := [(0, a1)]) (pc := 7) hX ml_12_230 (L_M_isOne q_a1 hx2) (isk_u hi) (Rm_of hRm (by decide) ⟨by decide, by decide⟩) (by decide) rfl (Nat.le_of_ble_eq_true rfl) rfl (dk D_X12_toss 5 rfl) (fun qx2 => ?_)
  refine r_if_ne (pc := 10) hX qx2 16 rfl (dk D_X12_toss 6 rfl) (fun hc => ?_) (fun hc => ?_)
  · rw [if_neg hc] at h
    refine r_aloadn (pc := 16) hX 0 rfl (dk D_X12_toss 9 rfl) ?_
    obtain ⟨x4, hx4, h⟩ := bd_some h
    refine r_getR (pc := 17) hX fl_12_13 rfl hx4 (dk D_X12_toss 10 rfl) ?_
    refine r_sipush (pc := 20) hX rfl (dk D_X12_toss 11 rfl) ?_
    refine r_iloadn (pc := 23) hX 1 rfl (dk D_X12_toss 12 rfl) ?_
    refine r_iadd (pc := 24) hX (dk D_X12_toss 13 rfl) ?_
    obtain ⟨x5, hx5, h⟩ := bd_some h
    refine r_iald (pc := 25) hX (R32_w _) hx5 (dk D_X12_toss 14 rfl) (fun qx5 => ?_)
    refine r_if_ne (pc := 26) hX qx5 32 rfl (dk D_X12_toss 15 rfl) (fun hc => ?_) (fun hc => ?_)
    · rw [if_neg hc] at h
      refine r_aloadn (pc := 32) hX 0 rfl (dk D_X12_toss 18 rfl) ?_
      obtain ⟨x6, hx6, h⟩ := bd_some h
      refine r_getR (pc := 33) hX fl_12_13 rfl hx6 (dk D_X12_toss 19 rfl) ?_
      refine r_sipush (pc := 36) hX rfl (dk D_X12_toss 20 rfl) ?_
      refine r_iloadn (pc := 39) hX 1 rfl (dk D_X12_toss 21 rfl) ?_
      refine r_iadd (pc := 40) hX (dk D_X12_toss 22 rfl) ?_
      refine r_dup2 (pc := 41) hX rfl rfl (dk D_X12_toss 23 rfl) ?_
      obtain ⟨x7, hx7, h⟩ := bd_some h
      refine r_iald (pc := 42) hX (R32_w _) hx7 (dk D_X12_toss 24 rfl) (fun qx7 => ?_)
      refine r_iconst (pc := 43) hX (dk D_X12_toss 25 rfl) ?_
      refine r_isub (pc := 44) hX (dk D_X12_toss 26 rfl) ?_
      obtain ⟨μ8, hμ8, h⟩ := bd_some h
      refine r_iast (pc := 45) hX (R32_w _) (R32_w _) hμ8 (dk D_X12_toss 27 rfl) ?_
      refine r_aloadn (pc := 46) hX 0 rfl (dk D_X12_toss 28 rfl) ?_
      obtain ⟨x9, hx9, h⟩ := bd_some h
      refine r_getR (pc := 47) hX fl_12_13 rfl hx9 (dk D_X12_toss 29 rfl) ?_
      refine r_sipush (pc := 50) hX rfl (dk D_X12_toss 30 rfl) ?_
      refine r_iloadn (pc := 53) hX 1 rfl (dk D_X12_toss 31 rfl) ?_
      refine r_aloadn (pc := 54) hX 0 rfl (dk D_X12_toss 32 rfl) ?_
      obtain ⟨x10, hx10, h⟩ := bd_some h
      refine r_getR (pc := 55) hX fl_12_13 rfl hx10 (dk D_X12_toss 33 rfl) ?_
      refine r_sipush (pc := 58) hX rfl (dk D_X12_toss 34 rfl) ?_
      refine r_iloadn (pc := 61) hX 1 rfl (dk D_X12_toss 35 rfl) ?_
      refine r_iadd (pc := 62) hX (dk D_X12_toss 36 rfl) ?_
      obtain ⟨x11, hx11, h⟩ := bd_some h
      refine r_iald (pc := 63) hX (R32_w _) hx11 (dk D_X12_toss 37 rfl) (fun qx11 => ?_)
      obtain ⟨x12, μ13, hx12, h⟩ := bd2_some h
      refine r_invS0 (As := [(0, a1), (0, x11)]) (pc := 64) hX ml_12_233 (L_M_slipAt q_a1 qx11 hx12) (Rm_of hRm (by decide) ⟨by decide, by decide⟩) (by decide) rfl (Nat.le_of_ble_eq_true rfl) rfl (dk D_X12_toss 38 rfl) (fun qx12 => ?_)
      refine r_iadd (pc := 67) hX (dk D_X12_toss 39 rfl) ?_
      obtain ⟨x14, hx14, h⟩ := bd_some h
      refine r_iald (pc := 68) hX (R32_w _) hx14 (dk D_X12_toss 40 rfl) (fun qx14 => ?_)
      cases h
      exact r_ireturn (pc := 69) hX qx14 hM ⟨by decide, by decide⟩ (dk D_X12_toss 41 rfl)
    · rw [if_pos hc] at h
      refine r_bipush (pc := 29) hX rfl (dk D_X12_toss 16 rfl) ?_
      cases h
      exact r_ireturn (pc := 31) hX (R32_lit rfl) hM ⟨by decide, by decide⟩ (dk D_X12_toss 17 rfl)
  · rw [if_pos hc] at h
    refine r_bipush (pc := 13) hX rfl (dk D_X12_toss 7 rfl) ?_
    cases h
    exact r_ireturn (pc := 15) hX (R32_lit rfl) hM ⟨by decide, by decide⟩ (dk D_X12_toss 8 rfl)
set_option maxRecDepth 100000 in
set_option maxHeartbeats 4000000 in
theorem L_M_rest {E : EX} {l : Launch} {a0 a1 a2 res : Int} {μ μ' : Mem} (q_a1 : R32 a1) (q_a2 : R32 a2) (h : M_rest a0 a1 a2 μ = some (res, μ')) : Ok E l 3 yX12_rest (.code yX12_rest cX12_rest 3 (some .int)) 0 0 [(2, a0), (0, a1), (0, a2)] μ (some (0, res)) μ' := by
  refine Ok.of (own := "TollsBackModel") [(0, 2, a0), (1, 0, a1), (2, 0, a2)] (by decide +kernel) rfl (Nat.le_of_ble_eq_true rfl) rfl ?_
  intro X hL hRm hin hX hM
  unfold M_rest at h
  subst hL
  refine r_aloadn (pc := 0) hX 0 rfl (dk D_X12_rest 0 rfl) ?_
  refine r_iconst (pc := 1) hX (dk D_X12_rest 1 rfl) ?_
  obtain ⟨μ1, hμ1, h⟩ := bd_some h
  refine r_putI (pc := 2) hX fl_12_1 rfl rfl (R32_lit rfl) trivial hμ1 (dk D_X12_rest 2 rfl) ?_
  refine r_aloadn (pc := 5) hX 0 rfl (dk D_X12_rest 3 rfl) ?_
  refine r_iloadn (pc := 6) hX 1 rfl (dk D_X12_rest 4 rfl) ?_
  obtain ⟨_, hi, h⟩ := bd_some h
  obtain ⟨x2, μ3, hx2, h⟩ := bd2_some h
  refine r_invV0 (As := [(0, a1)]) (pc := 7) hX ml_12_230 (L_M_isOne q_a1 hx2) (isk_u hi) (Rm_of hRm (by decide) ⟨by decide, by decide⟩) (by decide) rfl (Nat.le_of_ble_eq_true rfl) rfl (dk D_X12_rest 5 rfl) (fun qx2 => ?_)
  refine r_if_ne (pc := 10) hX qx2 16 rfl (dk D_X12_rest 6 rfl) (fun hc => ?_) (fun hc => ?_)
  · rw [if_neg hc] at h
    refine r_iloadn (pc := 16) hX 2 rfl (dk D_X12_rest 9 rfl) ?_
    refine r_i2l (pc := 17) hX q_a2 (dk D_X12_rest 10 rfl) ?_
    refine r_lconst (x := 0) (pc := 18) hX (by decide) (dk D_X12_rest 11 rfl) ?_
    refine r_ldc2 (pc := 19) hX cn_12_261 (dk D_X12_rest 12 rfl) ?_
    obtain ⟨x4, μ5, hx4, h⟩ := bd2_some h
    refine r_invS0 (As := [(1, a2), (1, 0), (1, 9999)]) (pc := 22) hX ml_12_178 (L_M_within (R64_of q_a2) (R64_lit rfl) (R64_lit rfl) hx4) (Rm_of hRm (by decide) ⟨by decide, by decide⟩) (by decide) rfl (Nat.le_of_ble_eq_true rfl) rfl (dk D_X12_rest 13 rfl) (fun qx4 => ?_)
    refine r_if_ne (pc := 25) hX qx4 31 rfl (dk D_X12_rest 14 rfl) (fun hc => ?_) (fun hc => ?_)
    · rw [if_neg hc] at h
      refine r_aloadn (pc := 31) hX 0 rfl (dk D_X12_rest 17 rfl) ?_
      obtain ⟨x6, hx6, h⟩ := bd_some h
      refine r_getR (pc := 32) hX fl_12_13 rfl hx6 (dk D_X12_rest 18 rfl) ?_
      refine r_sipush (pc := 35) hX rfl (dk D_X12_rest 19 rfl) ?_
      refine r_iloadn (pc := 38) hX 1 rfl (dk D_X12_rest 20 rfl) ?_
      refine r_iadd (pc := 39) hX (dk D_X12_rest 21 rfl) ?_
      obtain ⟨x7, hx7, h⟩ := bd_some h
      refine r_iald (pc := 40) hX (R32_w _) hx7 (dk D_X12_rest 22 rfl) (fun qx7 => ?_)
      refine r_iloadn (pc := 41) hX 2 rfl (dk D_X12_rest 23 rfl) ?_
      refine r_iadd (pc := 42) hX (dk D_X12_rest 24 rfl) ?_
      refine r_ldcw (pc := 43) hX cn_12_263 (dk D_X12_rest 25 rfl) ?_
      refine r_icmp_le (pc := 46) hX (R32_w _) (R32_lit rfl) 52 rfl (dk D_X12_rest 26 rfl) (fun hc => ?_) (fun hc => ?_)
      · rw [if_neg hc] at h
        refine r_aloadn (pc := 52) hX 0 rfl (dk D_X12_rest 29 rfl) ?_
        obtain ⟨x8, hx8, h⟩ := bd_some h
        refine r_getR (pc := 53) hX fl_12_13 rfl hx8 (dk D_X12_rest 30 rfl) ?_
        refine r_sipush (pc := 56) hX rfl (dk D_X12_rest 31 rfl) ?_
        refine r_iloadn (pc := 59) hX 1 rfl (dk D_X12_rest 32 rfl) ?_
        refine r_iadd (pc := 60) hX (dk D_X12_rest 33 rfl) ?_
        refine r_dup2 (pc := 61) hX rfl rfl (dk D_X12_rest 34 rfl) ?_
        obtain ⟨x9, hx9, h⟩ := bd_some h
        refine r_iald (pc := 62) hX (R32_w _) hx9 (dk D_X12_rest 35 rfl) (fun qx9 => ?_)
        refine r_iloadn (pc := 63) hX 2 rfl (dk D_X12_rest 36 rfl) ?_
        refine r_iadd (pc := 64) hX (dk D_X12_rest 37 rfl) ?_
        obtain ⟨μ10, hμ10, h⟩ := bd_some h
        refine r_iast (pc := 65) hX (R32_w _) (R32_w _) hμ10 (dk D_X12_rest 38 rfl) ?_
        refine r_aloadn (pc := 66) hX 0 rfl (dk D_X12_rest 39 rfl) ?_
        obtain ⟨x11, hx11, h⟩ := bd_some h
        refine r_getR (pc := 67) hX fl_12_13 rfl hx11 (dk D_X12_rest 40 rfl) ?_
        refine r_sipush (pc := 70) hX rfl (dk D_X12_rest 41 rfl) ?_
        refine r_iloadn (pc := 73) hX 1 rfl (dk D_X12_rest 42 rfl) ?_
        refine r_iadd (pc := 74) hX (dk D_X12_rest 43 rfl) ?_
        obtain ⟨x12, hx12, h⟩ := bd_some h
        refine r_iald (pc := 75) hX (R32_w _) hx12 (dk D_X12_rest 44 rfl) (fun qx12 => ?_)
        cases h
        exact r_ireturn (pc := 76) hX qx12 hM ⟨by decide, by decide⟩ (dk D_X12_rest 45 rfl)
      · rw [if_pos hc] at h
        refine r_bipush (pc := 49) hX rfl (dk D_X12_rest 27 rfl) ?_
        cases h
        exact r_ireturn (pc := 51) hX (R32_lit rfl) hM ⟨by decide, by decide⟩ (dk D_X12_rest 28 rfl)
    · rw [if_pos hc] at h
      refine r_bipush (pc := 28) hX rfl (dk D_X12_rest 15 rfl) ?_
      cases h
      exact r_ireturn (pc := 30) hX (R32_lit rfl) hM ⟨by decide, by decide⟩ (dk D_X12_rest 16 rfl)
  · rw [if_pos hc] at h
    refine r_bipush (pc := 13) hX rfl (dk D_X12_rest 7 rfl) ?_
    cases h
    exact r_ireturn (pc := 15) hX (R32_lit rfl) hM ⟨by decide, by decide⟩ (dk D_X12_rest 8 rfl)
set_option maxRecDepth 100000 in
set_option maxHeartbeats 4000000 in
theorem L_M_moves {E : EX} {l : Launch} {a0 a1 a2 res : Int} {μ μ' : Mem} (q_a1 : R32 a1) (q_a2 : R32 a2) (h : M_moves a0 a1 a2 μ = some (res, μ')) : Ok E l 1 yX12_moves (.code yX12_moves cX12_moves 3 none) 0 0 [(2, a0), (0, a1), (0, a2)] μ none μ' := by
  refine Ok.of (own := "TollsBackModel") [(0, 2, a0), (1, 0, a1), (2, 0, a2)] (by decide +kernel) rfl (Nat.le_of_ble_eq_true rfl) rfl ?_
  intro X hL hRm hin hX hM
  unfold M_moves at h
  subst hL
  refine r_aloadn (pc := 0) hX 0 rfl (dk D_X12_moves 0 rfl) ?_
  obtain ⟨x1, hx1, h⟩ := bd_some h
  refine r_getR (pc := 1) hX fl_12_13 rfl hx1 (dk D_X12_moves 1 rfl) ?_
  refine r_sipush (pc := 4) hX rfl (dk D_X12_moves 2 rfl) ?_
  refine r_iloadn (pc := 7) hX 2 rfl (dk D_X12_moves 3 rfl) ?_
  refine r_iadd (pc := 8) hX (dk D_X12_moves 4 rfl) ?_
  refine r_aloadn (pc := 9) hX 0 rfl (dk D_X12_moves 5 rfl) ?_
  obtain ⟨x2, hx2, h⟩ := bd_some h
  refine r_getR (pc := 10) hX fl_12_13 rfl hx2 (dk D_X12_moves 6 rfl) ?_
  refine r_sipush (pc := 13) hX rfl (dk D_X12_moves 7 rfl) ?_
  refine r_iloadn (pc := 16) hX 1 rfl (dk D_X12_moves 8 rfl) ?_
  refine r_iadd (pc := 17) hX (dk D_X12_moves 9 rfl) ?_
  obtain ⟨x3, hx3, h⟩ := bd_some h
  refine r_iald (pc := 18) hX (R32_w _) hx3 (dk D_X12_moves 10 rfl) (fun qx3 => ?_)
  obtain ⟨μ4, hμ4, h⟩ := bd_some h
  refine r_iast (pc := 19) hX (R32_w _) qx3 hμ4 (dk D_X12_moves 11 rfl) ?_
  refine r_aloadn (pc := 20) hX 0 rfl (dk D_X12_moves 12 rfl) ?_
  obtain ⟨x5, hx5, h⟩ := bd_some h
  refine r_getR (pc := 21) hX fl_12_13 rfl hx5 (dk D_X12_moves 13 rfl) ?_
  refine r_sipush (pc := 24) hX rfl (dk D_X12_moves 14 rfl) ?_
  refine r_iloadn (pc := 27) hX 2 rfl (dk D_X12_moves 15 rfl) ?_
  refine r_iadd (pc := 28) hX (dk D_X12_moves 16 rfl) ?_
  refine r_aloadn (pc := 29) hX 0 rfl (dk D_X12_moves 17 rfl) ?_
  obtain ⟨x6, hx6, h⟩ := bd_some h
  refine r_getR (pc := 30) hX fl_12_13 rfl hx6 (dk D_X12_moves 18 rfl) ?_
  refine r_sipush (pc := 33) hX rfl (dk D_X12_moves 19 rfl) ?_
  refine r_iloadn (pc := 36) hX 1 rfl (dk D_X12_moves 20 rfl) ?_
  refine r_iadd (pc := 37) hX (dk D_X12_moves 21 rfl) ?_
  obtain ⟨x7, hx7, h⟩ := bd_some h
  refine r_iald (pc := 38) hX (R32_w _) hx7 (dk D_X12_moves 22 rfl) (fun qx7 => ?_)
  obtain ⟨μ8, hμ8, h⟩ := bd_some h
  refine r_iast (pc := 39) hX (R32_w _) qx7 hμ8 (dk D_X12_moves 23 rfl) ?_
  refine r_aloadn (pc := 40) hX 0 rfl (dk D_X12_moves 24 rfl) ?_
  obtain ⟨x9, hx9, h⟩ := bd_some h
  refine r_getR (pc := 41) hX fl_12_13 rfl hx9 (dk D_X12_moves 25 rfl) ?_
  refine r_sipush (pc := 44) hX rfl (dk D_X12_moves 26 rfl) ?_
  refine r_iloadn (pc := 47) hX 2 rfl (dk D_X12_moves 27 rfl) ?_
  refine r_iadd (pc := 48) hX (dk D_X12_moves 28 rfl) ?_
  refine r_aloadn (pc := 49) hX 0 rfl (dk D_X12_moves 29 rfl) ?_
  obtain ⟨x10, hx10, h⟩ := bd_some h
  refine r_getR (pc := 50) hX fl_12_13 rfl hx10 (dk D_X12_moves 30 rfl) ?_
  refine r_sipush (pc := 53) hX rfl (dk D_X12_moves 31 rfl) ?_
  refine r_iloadn (pc := 56) hX 1 rfl (dk D_X12_moves 32 rfl) ?_
  refine r_iadd (pc := 57) hX (dk D_X12_moves 33 rfl) ?_
  obtain ⟨x11, hx11, h⟩ := bd_some h
  refine r_iald (pc := 58) hX (R32_w _) hx11 (dk D_X12_moves 34 rfl) (fun qx11 => ?_)
  obtain ⟨μ12, hμ12, h⟩ := bd_some h
  refine r_iast (pc := 59) hX (R32_w _) qx11 hμ12 (dk D_X12_moves 35 rfl) ?_
  cases h
  exact r_return (pc := 60) hX hM ⟨by decide, by decide⟩ (dk D_X12_moves 36 rfl)
set_option maxRecDepth 100000 in
set_option maxHeartbeats 4000000 in
theorem L_M_give {E : EX} {l : Launch} {a0 a1 a2 a3 res : Int} {μ μ' : Mem} (q_a1 : R32 a1) (q_a2 : R32 a2) (q_a3 : R32 a3) (h : M_give a0 a1 a2 a3 μ = some (res, μ')) : Ok E l 3 yX12_give (.code yX12_give cX12_give 4 (some .int)) 0 0 [(2, a0), (0, a1), (0, a2), (0, a3)] μ (some (0, res)) μ' := by
  refine Ok.of (own := "TollsBackModel") [(0, 2, a0), (1, 0, a1), (2, 0, a2), (3, 0, a3)] (by decide +kernel) rfl (Nat.le_of_ble_eq_true rfl) rfl ?_
  intro X hL hRm hin hX hM
  unfold M_give at h
  subst hL
  refine r_aloadn (pc := 0) hX 0 rfl (dk D_X12_give 0 rfl) ?_
  refine r_iconst (pc := 1) hX (dk D_X12_give 1 rfl) ?_
  obtain ⟨μ1, hμ1, h⟩ := bd_some h
  refine r_putI (pc := 2) hX fl_12_1 rfl rfl (R32_lit rfl) trivial hμ1 (dk D_X12_give 2 rfl) ?_
  refine r_aloadn (pc := 5) hX 0 rfl (dk D_X12_give 3 rfl) ?_
  refine r_iloadn (pc := 6) hX 1 rfl (dk D_X12_give 4 rfl) ?_
  obtain ⟨_, hi, h⟩ := bd_some h
  obtain ⟨x2, μ3, hx2, h⟩ := bd2_some h
  refine r_invV0 (As := [(0, a1)]) (pc := 7) hX ml_12_230 (L_M_isOne q_a1 hx2) (isk_u hi) (Rm_of hRm (by decide) ⟨by decide, by decide⟩) (by decide) rfl (Nat.le_of_ble_eq_true rfl) rfl (dk D_X12_give 5 rfl) (fun qx2 => ?_)
  refine r_if_eq (pc := 10) hX qx2 26 rfl (dk D_X12_give 6 rfl) (fun hc => ?_) (fun hc => ?_)
  · rw [if_pos hc] at h
    refine r_bipush (pc := 26) hX rfl (dk D_X12_give 14 rfl) ?_
    cases h
    exact r_ireturn (pc := 28) hX (R32_lit rfl) hM ⟨by decide, by decide⟩ (dk D_X12_give 15 rfl)
  · rw [if_neg hc] at h
    refine r_aloadn (pc := 13) hX 0 rfl (dk D_X12_give 7 rfl) ?_
    refine r_iloadn (pc := 14) hX 2 rfl (dk D_X12_give 8 rfl) ?_
    obtain ⟨_, hi, h⟩ := bd_some h
    obtain ⟨x4, μ5, hx4, h⟩ := bd2_some h
    refine r_invV0 (As := [(0, a2)]) (pc := 15) hX ml_12_230 (L_M_isOne q_a2 hx4) (isk_u hi) (Rm_of hRm (by decide) ⟨by decide, by decide⟩) (by decide) rfl (Nat.le_of_ble_eq_true rfl) rfl (dk D_X12_give 9 rfl) (fun qx4 => ?_)
    refine r_if_eq (pc := 18) hX qx4 26 rfl (dk D_X12_give 10 rfl) (fun hc => ?_) (fun hc => ?_)
    · rw [if_pos hc] at h
      refine r_bipush (pc := 26) hX rfl (dk D_X12_give 14 rfl) ?_
      cases h
      exact r_ireturn (pc := 28) hX (R32_lit rfl) hM ⟨by decide, by decide⟩ (dk D_X12_give 15 rfl)
    · rw [if_neg hc] at h
      refine r_iloadn (pc := 21) hX 1 rfl (dk D_X12_give 11 rfl) ?_
      refine r_iloadn (pc := 22) hX 2 rfl (dk D_X12_give 12 rfl) ?_
      refine r_icmp_ne (pc := 23) hX q_a1 q_a2 29 rfl (dk D_X12_give 13 rfl) (fun hc => ?_) (fun hc => ?_)
      · rw [if_neg hc] at h
        refine r_aloadn (pc := 29) hX 0 rfl (dk D_X12_give 16 rfl) ?_
        obtain ⟨x6, hx6, h⟩ := bd_some h
        refine r_getR (pc := 30) hX fl_12_13 rfl hx6 (dk D_X12_give 17 rfl) ?_
        refine r_sipush (pc := 33) hX rfl (dk D_X12_give 18 rfl) ?_
        refine r_iloadn (pc := 36) hX 1 rfl (dk D_X12_give 19 rfl) ?_
        refine r_iadd (pc := 37) hX (dk D_X12_give 20 rfl) ?_
        obtain ⟨x7, hx7, h⟩ := bd_some h
        refine r_iald (pc := 38) hX (R32_w _) hx7 (dk D_X12_give 21 rfl) (fun qx7 => ?_)
        refine r_aloadn (pc := 39) hX 0 rfl (dk D_X12_give 22 rfl) ?_
        obtain ⟨x8, hx8, h⟩ := bd_some h
        refine r_getR (pc := 40) hX fl_12_13 rfl hx8 (dk D_X12_give 23 rfl) ?_
        refine r_sipush (pc := 43) hX rfl (dk D_X12_give 24 rfl) ?_
        refine r_iloadn (pc := 46) hX 2 rfl (dk D_X12_give 25 rfl) ?_
        refine r_iadd (pc := 47) hX (dk D_X12_give 26 rfl) ?_
        obtain ⟨x9, hx9, h⟩ := bd_some h
        refine r_iald (pc := 48) hX (R32_w _) hx9 (dk D_X12_give 27 rfl) (fun qx9 => ?_)
        refine r_icmp_ne (pc := 49) hX qx7 qx9 65 rfl (dk D_X12_give 28 rfl) (fun hc => ?_) (fun hc => ?_)
        · rw [if_neg hc] at h
          refine r_bipush (pc := 65) hX rfl (dk D_X12_give 36 rfl) ?_
          cases h
          exact r_ireturn (pc := 67) hX (R32_lit rfl) hM ⟨by decide, by decide⟩ (dk D_X12_give 37 rfl)
        · rw [if_pos hc] at h
          refine r_aloadn (pc := 52) hX 0 rfl (dk D_X12_give 29 rfl) ?_
          obtain ⟨x10, hx10, h⟩ := bd_some h
          refine r_getR (pc := 53) hX fl_12_13 rfl hx10 (dk D_X12_give 30 rfl) ?_
          refine r_sipush (pc := 56) hX rfl (dk D_X12_give 31 rfl) ?_
          refine r_iloadn (pc := 59) hX 1 rfl (dk D_X12_give 32 rfl) ?_
          refine r_iadd (pc := 60) hX (dk D_X12_give 33 rfl) ?_
          obtain ⟨x11, hx11, h⟩ := bd_some h
          refine r_iald (pc := 61) hX (R32_w _) hx11 (dk D_X12_give 34 rfl) (fun qx11 => ?_)
          refine r_if_ne (pc := 62) hX qx11 68 rfl (dk D_X12_give 35 rfl) (fun hc => ?_) (fun hc => ?_)
          · rw [if_neg hc] at h
            refine r_iloadn (pc := 68) hX 3 rfl (dk D_X12_give 38 rfl) ?_
            refine r_i2l (pc := 69) hX q_a3 (dk D_X12_give 39 rfl) ?_
            refine r_lconst (x := 0) (pc := 70) hX (by decide) (dk D_X12_give 40 rfl) ?_
            refine r_aloadn (pc := 71) hX 0 rfl (dk D_X12_give 41 rfl) ?_
            obtain ⟨x12, hx12, h⟩ := bd_some h
            refine r_getR (pc := 72) hX fl_12_13 rfl hx12 (dk D_X12_give 42 rfl) ?_
            refine r_sipush (pc := 75) hX rfl (dk D_X12_give 43 rfl) ?_
            refine r_iloadn (pc := 78) hX 2 rfl (dk D_X12_give 44 rfl) ?_
            refine r_iadd (pc := 79) hX (dk D_X12_give 45 rfl) ?_
            obtain ⟨x13, hx13, h⟩ := bd_some h
            refine r_iald (pc := 80) hX (R32_w _) hx13 (dk D_X12_give 46 rfl) (fun qx13 => ?_)
            refine r_i2l (pc := 81) hX qx13 (dk D_X12_give 47 rfl) ?_
            obtain ⟨x14, μ15, hx14, h⟩ := bd2_some h
            refine r_invS0 (As := [(1, a3), (1, 0), (1, x13)]) (pc := 82) hX ml_12_178 (L_M_within (R64_of q_a3) (R64_lit rfl) (R64_of qx13) hx14) (Rm_of hRm (by decide) ⟨by decide, by decide⟩) (by decide) rfl (Nat.le_of_ble_eq_true rfl) rfl (dk D_X12_give 48 rfl) (fun qx14 => ?_)
            refine r_if_ne (pc := 85) hX qx14 91 rfl (dk D_X12_give 49 rfl) (fun hc => ?_) (fun hc => ?_)
            · rw [if_neg hc] at h
              refine r_aloadn (pc := 91) hX 0 rfl (dk D_X12_give 52 rfl) ?_
              obtain ⟨x16, hx16, h⟩ := bd_some h
              refine r_getR (pc := 92) hX fl_12_13 rfl hx16 (dk D_X12_give 53 rfl) ?_
              refine r_sipush (pc := 95) hX rfl (dk D_X12_give 54 rfl) ?_
              refine r_iloadn (pc := 98) hX 2 rfl (dk D_X12_give 55 rfl) ?_
              refine r_iadd (pc := 99) hX (dk D_X12_give 56 rfl) ?_
              obtain ⟨x17, hx17, h⟩ := bd_some h
              refine r_iald (pc := 100) hX (R32_w _) hx17 (dk D_X12_give 57 rfl) (fun qx17 => ?_)
              refine r_bipush (pc := 101) hX rfl (dk D_X12_give 58 rfl) ?_
              refine r_icmp_ne (pc := 103) hX qx17 (R32_lit rfl) 109 rfl (dk D_X12_give 59 rfl) (fun hc => ?_) (fun hc => ?_)
              · rw [if_neg hc] at h
                refine r_aloadn (pc := 109) hX 0 rfl (dk D_X12_give 62 rfl) ?_
                obtain ⟨x18, hx18, h⟩ := bd_some h
                refine r_getR (pc := 110) hX fl_12_13 rfl hx18 (dk D_X12_give 63 rfl) ?_
                refine r_sipush (pc := 113) hX rfl (dk D_X12_give 64 rfl) ?_
                refine r_iloadn (pc := 116) hX 1 rfl (dk D_X12_give 65 rfl) ?_
                refine r_iadd (pc := 117) hX (dk D_X12_give 66 rfl) ?_
                refine r_dup2 (pc := 118) hX rfl rfl (dk D_X12_give 67 rfl) ?_
                obtain ⟨x19, hx19, h⟩ := bd_some h
                refine r_iald (pc := 119) hX (R32_w _) hx19 (dk D_X12_give 68 rfl) (fun qx19 => ?_)
                refine r_iconst (pc := 120) hX (dk D_X12_give 69 rfl) ?_
                refine r_isub (pc := 121) hX (dk D_X12_give 70 rfl) ?_
                obtain ⟨μ20, hμ20, h⟩ := bd_some h
                refine r_iast (pc := 122) hX (R32_w _) (R32_w _) hμ20 (dk D_X12_give 71 rfl) ?_
                refine r_aloadn (pc := 123) hX 0 rfl (dk D_X12_give 72 rfl) ?_
                refine r_iloadn (pc := 124) hX 1 rfl (dk D_X12_give 73 rfl) ?_
                refine r_aloadn (pc := 125) hX 0 rfl (dk D_X12_give 74 rfl) ?_
                obtain ⟨x21, hx21, h⟩ := bd_some h
                refine r_getR (pc := 126) hX fl_12_13 rfl hx21 (dk D_X12_give 75 rfl) ?_
                refine r_sipush (pc := 129) hX rfl (dk D_X12_give 76 rfl) ?_
                refine r_iloadn (pc := 132) hX 1 rfl (dk D_X12_give 77 rfl) ?_
                refine r_iadd (pc := 133) hX (dk D_X12_give 78 rfl) ?_
                obtain ⟨x22, hx22, h⟩ := bd_some h
                refine r_iald (pc := 134) hX (R32_w _) hx22 (dk D_X12_give 79 rfl) (fun qx22 => ?_)
                obtain ⟨x23, μ24, hx23, h⟩ := bd2_some h
                refine r_invS0 (As := [(0, a1), (0, x22)]) (pc := 135) hX ml_12_233 (L_M_slipAt q_a1 qx22 hx23) (Rm_of hRm (by decide) ⟨by decide, by decide⟩) (by decide) rfl (Nat.le_of_ble_eq_true rfl) rfl (dk D_X12_give 80 rfl) (fun qx23 => ?_)
                refine r_iloadn (pc := 138) hX 2 rfl (dk D_X12_give 81 rfl) ?_
                refine r_aloadn (pc := 139) hX 0 rfl (dk D_X12_give 82 rfl) ?_
                obtain ⟨x25, hx25, h⟩ := bd_some h
                refine r_getR (pc := 140) hX fl_12_13 rfl hx25 (dk D_X12_give 83 rfl) ?_
                refine r_sipush (pc := 143) hX rfl (dk D_X12_give 84 rfl) ?_
                refine r_iloadn (pc := 146) hX 2 rfl (dk D_X12_give 85 rfl) ?_
                refine r_iadd (pc := 147) hX (dk D_X12_give 86 rfl) ?_
                obtain ⟨x26, hx26, h⟩ := bd_some h
                refine r_iald (pc := 148) hX (R32_w _) hx26 (dk D_X12_give 87 rfl) (fun qx26 => ?_)
                obtain ⟨x27, μ28, hx27, h⟩ := bd2_some h
                refine r_invS0 (As := [(0, a2), (0, x26)]) (pc := 149) hX ml_12_233 (L_M_slipAt q_a2 qx26 hx27) (Rm_of hRm (by decide) ⟨by decide, by decide⟩) (by decide) rfl (Nat.le_of_ble_eq_true rfl) rfl (dk D_X12_give 88 rfl) (fun qx27 => ?_)
                obtain ⟨_, hi, h⟩ := bd_some h
                obtain ⟨x29, μ30, hx29, h⟩ := bd2_some h
                refine r_invV0 (As := [(0, x23), (0, x27)]) (pc := 152) hX ml_12_264 (L_M_moves qx23 qx27 hx29) (isk_u hi) (Rm_of hRm (by decide) ⟨by decide, by decide⟩) (by decide) rfl (Nat.le_of_ble_eq_true rfl) rfl (dk D_X12_give 89 rfl) (fun _ => ?_)
                refine r_aloadn (pc := 155) hX 0 rfl (dk D_X12_give 90 rfl) ?_
                obtain ⟨x31, hx31, h⟩ := bd_some h
                refine r_getR (pc := 156) hX fl_12_13 rfl hx31 (dk D_X12_give 91 rfl) ?_
                refine r_sipush (pc := 159) hX rfl (dk D_X12_give 92 rfl) ?_
                refine r_iloadn (pc := 162) hX 2 rfl (dk D_X12_give 93 rfl) ?_
                refine r_iadd (pc := 163) hX (dk D_X12_give 94 rfl) ?_
                refine r_dup2 (pc := 164) hX rfl rfl (dk D_X12_give 95 rfl) ?_
                obtain ⟨x32, hx32, h⟩ := bd_some h
                refine r_iald (pc := 165) hX (R32_w _) hx32 (dk D_X12_give 96 rfl) (fun qx32 => ?_)
                refine r_iconst (pc := 166) hX (dk D_X12_give 97 rfl) ?_
                refine r_iadd (pc := 167) hX (dk D_X12_give 98 rfl) ?_
                obtain ⟨μ33, hμ33, h⟩ := bd_some h
                refine r_iast (pc := 168) hX (R32_w _) (R32_w _) hμ33 (dk D_X12_give 99 rfl) ?_
                refine r_aloadn (pc := 169) hX 0 rfl (dk D_X12_give 100 rfl) ?_
                obtain ⟨x34, hx34, h⟩ := bd_some h
                refine r_getR (pc := 170) hX fl_12_13 rfl hx34 (dk D_X12_give 101 rfl) ?_
                refine r_sipush (pc := 173) hX rfl (dk D_X12_give 102 rfl) ?_
                refine r_iloadn (pc := 176) hX 1 rfl (dk D_X12_give 103 rfl) ?_
                refine r_iadd (pc := 177) hX (dk D_X12_give 104 rfl) ?_
                refine r_dup2 (pc := 178) hX rfl rfl (dk D_X12_give 105 rfl) ?_
                obtain ⟨x35, hx35, h⟩ := bd_some h
                refine r_iald (pc := 179) hX (R32_w _) hx35 (dk D_X12_give 106 rfl) (fun qx35 => ?_)
                refine r_iloadn (pc := 180) hX 3 rfl (dk D_X12_give 107 rfl) ?_
                refine r_iadd (pc := 181) hX (dk D_X12_give 108 rfl) ?_
                obtain ⟨μ36, hμ36, h⟩ := bd_some h
                refine r_iast (pc := 182) hX (R32_w _) (R32_w _) hμ36 (dk D_X12_give 109 rfl) ?_
                refine r_aloadn (pc := 183) hX 0 rfl (dk D_X12_give 110 rfl) ?_
                obtain ⟨x37, hx37, h⟩ := bd_some h
                refine r_getR (pc := 184) hX fl_12_13 rfl hx37 (dk D_X12_give 111 rfl) ?_
                refine r_sipush (pc := 187) hX rfl (dk D_X12_give 112 rfl) ?_
                refine r_iloadn (pc := 190) hX 2 rfl (dk D_X12_give 113 rfl) ?_
                refine r_iadd (pc := 191) hX (dk D_X12_give 114 rfl) ?_
                refine r_dup2 (pc := 192) hX rfl rfl (dk D_X12_give 115 rfl) ?_
                obtain ⟨x38, hx38, h⟩ := bd_some h
                refine r_iald (pc := 193) hX (R32_w _) hx38 (dk D_X12_give 116 rfl) (fun qx38 => ?_)
                refine r_iloadn (pc := 194) hX 3 rfl (dk D_X12_give 117 rfl) ?_
                refine r_isub (pc := 195) hX (dk D_X12_give 118 rfl) ?_
                obtain ⟨μ39, hμ39, h⟩ := bd_some h
                refine r_iast (pc := 196) hX (R32_w _) (R32_w _) hμ39 (dk D_X12_give 119 rfl) ?_
                refine r_aloadn (pc := 197) hX 0 rfl (dk D_X12_give 120 rfl) ?_
                obtain ⟨x40, hx40, h⟩ := bd_some h
                refine r_getR (pc := 198) hX fl_12_13 rfl hx40 (dk D_X12_give 121 rfl) ?_
                refine r_sipush (pc := 201) hX rfl (dk D_X12_give 122 rfl) ?_
                refine r_iloadn (pc := 204) hX 2 rfl (dk D_X12_give 123 rfl) ?_
                refine r_iadd (pc := 205) hX (dk D_X12_give 124 rfl) ?_
                obtain ⟨x41, hx41, h⟩ := bd_some h
                refine r_iald (pc := 206) hX (R32_w _) hx41 (dk D_X12_give 125 rfl) (fun qx41 => ?_)
                cases h
                exact r_ireturn (pc := 207) hX qx41 hM ⟨by decide, by decide⟩ (dk D_X12_give 126 rfl)
              · rw [if_pos hc] at h
                refine r_bipush (pc := 106) hX rfl (dk D_X12_give 60 rfl) ?_
                cases h
                exact r_ireturn (pc := 108) hX (R32_lit rfl) hM ⟨by decide, by decide⟩ (dk D_X12_give 61 rfl)
            · rw [if_pos hc] at h
              refine r_bipush (pc := 88) hX rfl (dk D_X12_give 50 rfl) ?_
              cases h
              exact r_ireturn (pc := 90) hX (R32_lit rfl) hM ⟨by decide, by decide⟩ (dk D_X12_give 51 rfl)
          · rw [if_pos hc] at h
            refine r_bipush (pc := 65) hX rfl (dk D_X12_give 36 rfl) ?_
            cases h
            exact r_ireturn (pc := 67) hX (R32_lit rfl) hM ⟨by decide, by decide⟩ (dk D_X12_give 37 rfl)
      · rw [if_pos hc] at h
        refine r_bipush (pc := 26) hX rfl (dk D_X12_give 14 rfl) ?_
        cases h
        exact r_ireturn (pc := 28) hX (R32_lit rfl) hM ⟨by decide, by decide⟩ (dk D_X12_give 15 rfl)
set_option maxRecDepth 100000 in
set_option maxHeartbeats 4000000 in
theorem L_M_changes_L2 {E : EX} {X : CX} {res : Int} {μe : Mem} (hX : Good E X cX12_changes 9 "TollsBackModel") (hM : GoodM E X none none μe 0 0) (hRm : cR X = rmOf 2 0 0) {k114 : Int → Int → Int → Mem → Option (Int × Mem)} (hk114 : ∀ (u0 u1 u2 : Int) (μ : Mem), R32 u1 → R32 u2 → k114 u0 u1 u2 μ = some (res, μe) → At E X cX12_changes 9 "TollsBackModel" (0, 0) 114 [(0, 2, u0), (1, 0, u1), (2, 0, u2)] [] μ) : ∀ (n : Nat) (v0 v1 v2 v3 : Int) (μ : Mem) (q_v1 : R32 v1) (q_v2 : R32 v2) (q_v3 : R32 v3) (h : M_changes_L2 k114 n v0 v1 v2 v3 μ = some (res, μe)), At E X cX12_changes 9 "TollsBackModel" (0, 0) 2 [(0, 2, v0), (1, 0, v1), (2, 0, v2), (3, 0, v3)] [] μ := by
  intro n
  induction n with
  | zero =>
    intro v0 v1 v2 v3 μ q_v1 q_v2 q_v3 h
    have h : (none : Option (Int × Mem)) = some (res, μe) := h
    cases h
  | succ n ih =>
    intro v0 v1 v2 v3 μ q_v1 q_v2 q_v3 h
    rw [M_changes_L2.eq_2] at h
    refine r_iloadn (pc := 2) hX 3 rfl (dk D_X12_changes 2 rfl) ?_
    refine r_bipush (pc := 3) hX rfl (dk D_X12_changes 3 rfl) ?_
    refine r_icmp_ge (pc := 5) hX q_v3 (R32_lit rfl) 114 rfl (dk D_X12_changes 4 rfl) (fun hc => ?_) (fun hc => ?_)
    · rw [if_neg hc] at h
      refine r_sub (lv' := [(0, 2, v0), (1, 0, v1), (2, 0, v2)]) [0, 1, 2] rfl ?_
      exact hk114 v0 v1 v2 μ q_v1 q_v2 h
    · rw [if_pos hc] at h
      refine r_iloadn (pc := 8) hX 1 rfl (dk D_X12_changes 5 rfl) ?_
      refine r_iloadn (pc := 9) hX 3 rfl (dk D_X12_changes 6 rfl) ?_
      obtain ⟨x1, μ2, hx1, h⟩ := bd2_some h
      refine r_invS0 (As := [(0, v1), (0, v3)]) (pc := 10) hX ml_12_233 (L_M_slipAt q_v1 q_v3 hx1) (Rm_of hRm (by decide) ⟨by decide, by decide⟩) (by decide) rfl (Nat.le_of_ble_eq_true rfl) rfl (dk D_X12_changes 7 rfl) (fun qx1 => ?_)
      refine r_istore (lv' := [(4, 0, x1), (0, 2, v0), (1, 0, v1), (2, 0, v2), (3, 0, v3)]) (pc := 13) hX (by decide) rfl (dk D_X12_changes 8 rfl) ?_
      refine r_iloadn (pc := 15) hX 3 rfl (dk D_X12_changes 9 rfl) ?_
      refine r_iloadn (pc := 16) hX 4 rfl (dk D_X12_changes 10 rfl) ?_
      obtain ⟨x3, μ4, hx3, h⟩ := bd2_some h
      refine r_invS0 (As := [(0, v2), (0, v3)]) (pc := 17) hX ml_12_233 (L_M_slipAt q_v2 q_v3 hx3) (Rm_of hRm (by decide) ⟨by decide, by decide⟩) (by decide) rfl (Nat.le_of_ble_eq_true rfl) rfl (dk D_X12_changes 11 rfl) (fun qx3 => ?_)
      refine r_istore (lv' := [(5, 0, x3), (4, 0, x1), (0, 2, v0), (1, 0, v1), (2, 0, v2), (3, 0, v3)]) (pc := 20) hX (by decide) rfl (dk D_X12_changes 12 rfl) ?_
      refine r_aloadn (pc := 22) hX 2 rfl (dk D_X12_changes 13 rfl) ?_
      obtain ⟨x5, hx5, h⟩ := bd_some h
      refine r_getR (pc := 23) hX fl_12_13 rfl hx5 (dk D_X12_changes 14 rfl) ?_
      refine r_sipush (pc := 26) hX rfl (dk D_X12_changes 15 rfl) ?_
      refine r_iload (pc := 29) hX 1 rfl (dk D_X12_changes 16 rfl) ?_
      refine r_iadd (pc := 31) hX (dk D_X12_changes 17 rfl) ?_
      obtain ⟨x6, hx6, h⟩ := bd_some h
      refine r_iald (pc := 32) hX (R32_w _) hx6 (dk D_X12_changes 18 rfl) (fun qx6 => ?_)
      refine r_istore (lv' := [(6, 0, x6), (5, 0, x3), (4, 0, x1), (0, 2, v0), (1, 0, v1), (2, 0, v2), (3, 0, v3)]) (pc := 33) hX (by decide) rfl (dk D_X12_changes 19 rfl) ?_
      refine r_aloadn (pc := 35) hX 3 rfl (dk D_X12_changes 20 rfl) ?_
      obtain ⟨x7, hx7, h⟩ := bd_some h
      refine r_getR (pc := 36) hX fl_12_13 rfl hx7 (dk D_X12_changes 21 rfl) ?_
      refine r_sipush (pc := 39) hX rfl (dk D_X12_changes 22 rfl) ?_
      refine r_iload (pc := 42) hX 2 rfl (dk D_X12_changes 23 rfl) ?_
      refine r_iadd (pc := 44) hX (dk D_X12_changes 24 rfl) ?_
      obtain ⟨x8, hx8, h⟩ := bd_some h
      refine r_iald (pc := 45) hX (R32_w _) hx8 (dk D_X12_changes 25 rfl) (fun qx8 => ?_)
      refine r_istore (lv' := [(7, 0, x8), (6, 0, x6), (5, 0, x3), (4, 0, x1), (0, 2, v0), (1, 0, v1), (2, 0, v2), (3, 0, v3)]) (pc := 46) hX (by decide) rfl (dk D_X12_changes 26 rfl) ?_
      refine r_aloadn (pc := 48) hX 4 rfl (dk D_X12_changes 27 rfl) ?_
      obtain ⟨x9, hx9, h⟩ := bd_some h
      refine r_getR (pc := 49) hX fl_12_13 rfl hx9 (dk D_X12_changes 28 rfl) ?_
      refine r_sipush (pc := 52) hX rfl (dk D_X12_changes 29 rfl) ?_
      refine r_iload (pc := 55) hX 3 rfl (dk D_X12_changes 30 rfl) ?_
      refine r_iadd (pc := 57) hX (dk D_X12_changes 31 rfl) ?_
      obtain ⟨x10, hx10, h⟩ := bd_some h
      refine r_iald (pc := 58) hX (R32_w _) hx10 (dk D_X12_changes 32 rfl) (fun qx10 => ?_)
      refine r_istore (lv' := [(8, 0, x10), (7, 0, x8), (6, 0, x6), (5, 0, x3), (4, 0, x1), (0, 2, v0), (1, 0, v1), (2, 0, v2), (3, 0, v3)]) (pc := 59) hX (by decide) rfl (dk D_X12_changes 33 rfl) ?_
      refine r_aloadn (pc := 61) hX 5 rfl (dk D_X12_changes 34 rfl) ?_
      refine r_iload (pc := 62) hX 3 rfl (dk D_X12_changes 35 rfl) ?_
      refine r_iload (pc := 64) hX 4 rfl (dk D_X12_changes 36 rfl) ?_
      obtain ⟨_, hi, h⟩ := bd_some h
      obtain ⟨x11, μ12, hx11, h⟩ := bd2_some h
      refine r_invV0 (As := [(0, x3), (0, x1)]) (pc := 66) hX ml_12_264 (L_M_moves qx3 qx1 hx11) (isk_u hi) (Rm_of hRm (by decide) ⟨by decide, by decide⟩) (by decide) rfl (Nat.le_of_ble_eq_true rfl) rfl (dk D_X12_changes 37 rfl) (fun _ => ?_)
      refine r_aloadn (pc := 69) hX 5 rfl (dk D_X12_changes 38 rfl) ?_
      obtain ⟨x13, hx13, h⟩ := bd_some h
      refine r_getR (pc := 70) hX fl_12_13 rfl hx13 (dk D_X12_changes 39 rfl) ?_
      refine r_sipush (pc := 73) hX rfl (dk D_X12_changes 40 rfl) ?_
      refine r_iload (pc := 76) hX 3 rfl (dk D_X12_changes 41 rfl) ?_
      refine r_iadd (pc := 78) hX (dk D_X12_changes 42 rfl) ?_
      refine r_iload (pc := 79) hX 2 rfl (dk D_X12_changes 43 rfl) ?_
      obtain ⟨μ14, hμ14, h⟩ := bd_some h
      refine r_iast (pc := 81) hX (R32_w _) qx6 hμ14 (dk D_X12_changes 44 rfl) ?_
      refine r_aloadn (pc := 82) hX 5 rfl (dk D_X12_changes 45 rfl) ?_
      obtain ⟨x15, hx15, h⟩ := bd_some h
      refine r_getR (pc := 83) hX fl_12_13 rfl hx15 (dk D_X12_changes 46 rfl) ?_
      refine r_sipush (pc := 86) hX rfl (dk D_X12_changes 47 rfl) ?_
      refine r_iload (pc := 89) hX 3 rfl (dk D_X12_changes 48 rfl) ?_
      refine r_iadd (pc := 91) hX (dk D_X12_changes 49 rfl) ?_
      refine r_iload (pc := 92) hX 1 rfl (dk D_X12_changes 50 rfl) ?_
      obtain ⟨μ16, hμ16, h⟩ := bd_some h
      refine r_iast (pc := 94) hX (R32_w _) qx8 hμ16 (dk D_X12_changes 51 rfl) ?_
      refine r_aloadn (pc := 95) hX 5 rfl (dk D_X12_changes 52 rfl) ?_
      obtain ⟨x17, hx17, h⟩ := bd_some h
      refine r_getR (pc := 96) hX fl_12_13 rfl hx17 (dk D_X12_changes 53 rfl) ?_
      refine r_sipush (pc := 99) hX rfl (dk D_X12_changes 54 rfl) ?_
      refine r_iload (pc := 102) hX 3 rfl (dk D_X12_changes 55 rfl) ?_
      refine r_iadd (pc := 104) hX (dk D_X12_changes 56 rfl) ?_
      refine r_iload (pc := 105) hX 0 rfl (dk D_X12_changes 57 rfl) ?_
      obtain ⟨μ18, hμ18, h⟩ := bd_some h
      refine r_iast (pc := 107) hX (R32_w _) qx10 hμ18 (dk D_X12_changes 58 rfl) ?_
      refine r_iinc (lv' := [(3, 0, (w32 (v3 + 1))), (8, 0, x10), (7, 0, x8), (6, 0, x6), (5, 0, x3), (4, 0, x1), (0, 2, v0), (1, 0, v1), (2, 0, v2)]) (pc := 108) hX 8 rfl (by decide) rfl (dk D_X12_changes 59 rfl) ?_
      refine r_goto (pc := 111) hX 2 rfl (dk D_X12_changes 60 rfl) ?_
      refine r_sub (lv' := [(0, 2, v0), (1, 0, v1), (2, 0, v2), (3, 0, (w32 (v3 + 1)))]) [6, 7, 8, 0] rfl ?_
      exact ih v0 v1 v2 (w32 (v3 + 1)) μ18 q_v1 q_v2 (R32_w _) h
set_option maxRecDepth 100000 in
set_option maxHeartbeats 4000000 in
theorem L_M_changes {E : EX} {l : Launch} {a0 a1 a2 res : Int} {μ μ' : Mem} (q_a1 : R32 a1) (q_a2 : R32 a2) (h : M_changes a0 a1 a2 μ = some (res, μ')) : Ok E l 2 yX12_changes (.code yX12_changes cX12_changes 9 none) 0 0 [(2, a0), (0, a1), (0, a2)] μ none μ' := by
  refine Ok.of (own := "TollsBackModel") [(0, 2, a0), (1, 0, a1), (2, 0, a2)] (by decide +kernel) rfl (Nat.le_of_ble_eq_true rfl) rfl ?_
  intro X hL hRm hin hX hM
  unfold M_changes at h
  subst hL
  refine r_iconst (pc := 0) hX (dk D_X12_changes 0 rfl) ?_
  refine r_istoren (lv' := [(3, 0, 0), (0, 2, a0), (1, 0, a1), (2, 0, a2)]) (pc := 1) hX (by decide) rfl (dk D_X12_changes 1 rfl) ?_
  refine r_sub (lv' := [(0, 2, a0), (1, 0, a1), (2, 0, a2), (3, 0, 0)]) [1, 2, 3, 0] rfl ?_
  refine L_M_changes_L2 hX hM hRm ?_ FU a0 a1 a2 0 μ q_a1 q_a2 (R32_lit rfl) h
  intro x1 x2 x3 μ4 qx2 qx3 h
  refine r_aloadn (pc := 114) hX 0 rfl (dk D_X12_changes 61 rfl) ?_
  obtain ⟨x5, hx5, h⟩ := bd_some h
  refine r_getR (pc := 115) hX fl_12_13 rfl hx5 (dk D_X12_changes 62 rfl) ?_
  refine r_sipush (pc := 118) hX rfl (dk D_X12_changes 63 rfl) ?_
  refine r_iloadn (pc := 121) hX 1 rfl (dk D_X12_changes 64 rfl) ?_
  refine r_iadd (pc := 122) hX (dk D_X12_changes 65 rfl) ?_
  obtain ⟨x6, hx6, h⟩ := bd_some h
  refine r_iald (pc := 123) hX (R32_w _) hx6 (dk D_X12_changes 66 rfl) (fun qx6 => ?_)
  refine r_istoren (lv' := [(3, 0, x6), (0, 2, x1), (1, 0, x2), (2, 0, x3)]) (pc := 124) hX (by decide) rfl (dk D_X12_changes 67 rfl) ?_
  refine r_aloadn (pc := 125) hX 1 rfl (dk D_X12_changes 68 rfl) ?_
  obtain ⟨x7, hx7, h⟩ := bd_some h
  refine r_getR (pc := 126) hX fl_12_13 rfl hx7 (dk D_X12_changes 69 rfl) ?_
  refine r_sipush (pc := 129) hX rfl (dk D_X12_changes 70 rfl) ?_
  refine r_iloadn (pc := 132) hX 2 rfl (dk D_X12_changes 71 rfl) ?_
  refine r_iadd (pc := 133) hX (dk D_X12_changes 72 rfl) ?_
  refine r_aloadn (pc := 134) hX 1 rfl (dk D_X12_changes 73 rfl) ?_
  obtain ⟨x8, hx8, h⟩ := bd_some h
  refine r_getR (pc := 135) hX fl_12_13 rfl hx8 (dk D_X12_changes 74 rfl) ?_
  refine r_sipush (pc := 138) hX rfl (dk D_X12_changes 75 rfl) ?_
  refine r_iloadn (pc := 141) hX 3 rfl (dk D_X12_changes 76 rfl) ?_
  refine r_iadd (pc := 142) hX (dk D_X12_changes 77 rfl) ?_
  obtain ⟨x9, hx9, h⟩ := bd_some h
  refine r_iald (pc := 143) hX (R32_w _) hx9 (dk D_X12_changes 78 rfl) (fun qx9 => ?_)
  obtain ⟨μ10, hμ10, h⟩ := bd_some h
  refine r_iast (pc := 144) hX (R32_w _) qx9 hμ10 (dk D_X12_changes 79 rfl) ?_
  refine r_aloadn (pc := 145) hX 1 rfl (dk D_X12_changes 80 rfl) ?_
  obtain ⟨x11, hx11, h⟩ := bd_some h
  refine r_getR (pc := 146) hX fl_12_13 rfl hx11 (dk D_X12_changes 81 rfl) ?_
  refine r_sipush (pc := 149) hX rfl (dk D_X12_changes 82 rfl) ?_
  refine r_iloadn (pc := 152) hX 3 rfl (dk D_X12_changes 83 rfl) ?_
  refine r_iadd (pc := 153) hX (dk D_X12_changes 84 rfl) ?_
  refine r_iloadn (pc := 154) hX 0 rfl (dk D_X12_changes 85 rfl) ?_
  obtain ⟨μ12, hμ12, h⟩ := bd_some h
  refine r_iast (pc := 155) hX (R32_w _) qx6 hμ12 (dk D_X12_changes 86 rfl) ?_
  cases h
  exact r_return (pc := 156) hX hM ⟨by decide, by decide⟩ (dk D_X12_changes 87 rfl)
set_option maxRecDepth 100000 in
set_option maxHeartbeats 4000000 in
theorem L_M_change {E : EX} {l : Launch} {a0 a1 a2 res : Int} {μ μ' : Mem} (q_a1 : R32 a1) (q_a2 : R32 a2) (h : M_change a0 a1 a2 μ = some (res, μ')) : Ok E l 3 yX12_change (.code yX12_change cX12_change 3 (some .int)) 0 0 [(2, a0), (0, a1), (0, a2)] μ (some (0, res)) μ' := by
  refine Ok.of (own := "TollsBackModel") [(0, 2, a0), (1, 0, a1), (2, 0, a2)] (by decide +kernel) rfl (Nat.le_of_ble_eq_true rfl) rfl ?_
  intro X hL hRm hin hX hM
  unfold M_change at h
  subst hL
  refine r_aloadn (pc := 0) hX 0 rfl (dk D_X12_change 0 rfl) ?_
  refine r_iconst (pc := 1) hX (dk D_X12_change 1 rfl) ?_
  obtain ⟨μ1, hμ1, h⟩ := bd_some h
  refine r_putI (pc := 2) hX fl_12_1 rfl rfl (R32_lit rfl) trivial hμ1 (dk D_X12_change 2 rfl) ?_
  refine r_aloadn (pc := 5) hX 0 rfl (dk D_X12_change 3 rfl) ?_
  refine r_iloadn (pc := 6) hX 1 rfl (dk D_X12_change 4 rfl) ?_
  obtain ⟨_, hi, h⟩ := bd_some h
  obtain ⟨x2, μ3, hx2, h⟩ := bd2_some h
  refine r_invV0 (As := [(0, a1)]) (pc := 7) hX ml_12_230 (L_M_isOne q_a1 hx2) (isk_u hi) (Rm_of hRm (by decide) ⟨by decide, by decide⟩) (by decide) rfl (Nat.le_of_ble_eq_true rfl) rfl (dk D_X12_change 5 rfl) (fun qx2 => ?_)
  refine r_if_eq (pc := 10) hX qx2 26 rfl (dk D_X12_change 6 rfl) (fun hc => ?_) (fun hc => ?_)
  · rw [if_pos hc] at h
    refine r_bipush (pc := 26) hX rfl (dk D_X12_change 14 rfl) ?_
    cases h
    exact r_ireturn (pc := 28) hX (R32_lit rfl) hM ⟨by decide, by decide⟩ (dk D_X12_change 15 rfl)
  · rw [if_neg hc] at h
    refine r_aloadn (pc := 13) hX 0 rfl (dk D_X12_change 7 rfl) ?_
    refine r_iloadn (pc := 14) hX 2 rfl (dk D_X12_change 8 rfl) ?_
    obtain ⟨_, hi, h⟩ := bd_some h
    obtain ⟨x4, μ5, hx4, h⟩ := bd2_some h
    refine r_invV0 (As := [(0, a2)]) (pc := 15) hX ml_12_230 (L_M_isOne q_a2 hx4) (isk_u hi) (Rm_of hRm (by decide) ⟨by decide, by decide⟩) (by decide) rfl (Nat.le_of_ble_eq_true rfl) rfl (dk D_X12_change 9 rfl) (fun qx4 => ?_)
    refine r_if_eq (pc := 18) hX qx4 26 rfl (dk D_X12_change 10 rfl) (fun hc => ?_) (fun hc => ?_)
    · rw [if_pos hc] at h
      refine r_bipush (pc := 26) hX rfl (dk D_X12_change 14 rfl) ?_
      cases h
      exact r_ireturn (pc := 28) hX (R32_lit rfl) hM ⟨by decide, by decide⟩ (dk D_X12_change 15 rfl)
    · rw [if_neg hc] at h
      refine r_iloadn (pc := 21) hX 1 rfl (dk D_X12_change 11 rfl) ?_
      refine r_iloadn (pc := 22) hX 2 rfl (dk D_X12_change 12 rfl) ?_
      refine r_icmp_ne (pc := 23) hX q_a1 q_a2 29 rfl (dk D_X12_change 13 rfl) (fun hc => ?_) (fun hc => ?_)
      · rw [if_neg hc] at h
        refine r_aloadn (pc := 29) hX 0 rfl (dk D_X12_change 16 rfl) ?_
        obtain ⟨x6, hx6, h⟩ := bd_some h
        refine r_getR (pc := 30) hX fl_12_13 rfl hx6 (dk D_X12_change 17 rfl) ?_
        refine r_sipush (pc := 33) hX rfl (dk D_X12_change 18 rfl) ?_
        refine r_iloadn (pc := 36) hX 1 rfl (dk D_X12_change 19 rfl) ?_
        refine r_iadd (pc := 37) hX (dk D_X12_change 20 rfl) ?_
        obtain ⟨x7, hx7, h⟩ := bd_some h
        refine r_iald (pc := 38) hX (R32_w _) hx7 (dk D_X12_change 21 rfl) (fun qx7 => ?_)
        refine r_aloadn (pc := 39) hX 0 rfl (dk D_X12_change 22 rfl) ?_
        obtain ⟨x8, hx8, h⟩ := bd_some h
        refine r_getR (pc := 40) hX fl_12_13 rfl hx8 (dk D_X12_change 23 rfl) ?_
        refine r_sipush (pc := 43) hX rfl (dk D_X12_change 24 rfl) ?_
        refine r_iloadn (pc := 46) hX 2 rfl (dk D_X12_change 25 rfl) ?_
        refine r_iadd (pc := 47) hX (dk D_X12_change 26 rfl) ?_
        obtain ⟨x9, hx9, h⟩ := bd_some h
        refine r_iald (pc := 48) hX (R32_w _) hx9 (dk D_X12_change 27 rfl) (fun qx9 => ?_)
        refine r_icmp_eq (pc := 49) hX qx7 qx9 55 rfl (dk D_X12_change 28 rfl) (fun hc => ?_) (fun hc => ?_)
        · rw [if_pos hc] at h
          refine r_aloadn (pc := 55) hX 0 rfl (dk D_X12_change 31 rfl) ?_
          refine r_iloadn (pc := 56) hX 1 rfl (dk D_X12_change 32 rfl) ?_
          refine r_iloadn (pc := 57) hX 2 rfl (dk D_X12_change 33 rfl) ?_
          obtain ⟨_, hi, h⟩ := bd_some h
          obtain ⟨x10, μ11, hx10, h⟩ := bd2_some h
          refine r_invV0 (As := [(0, a1), (0, a2)]) (pc := 58) hX ml_12_268 (L_M_changes q_a1 q_a2 hx10) (isk_u hi) (Rm_of hRm (by decide) ⟨by decide, by decide⟩) (by decide) rfl (Nat.le_of_ble_eq_true rfl) rfl (dk D_X12_change 34 rfl) (fun _ => ?_)
          refine r_aloadn (pc := 61) hX 0 rfl (dk D_X12_change 35 rfl) ?_
          obtain ⟨x12, hx12, h⟩ := bd_some h
          refine r_getR (pc := 62) hX fl_12_13 rfl hx12 (dk D_X12_change 36 rfl) ?_
          refine r_sipush (pc := 65) hX rfl (dk D_X12_change 37 rfl) ?_
          refine r_iloadn (pc := 68) hX 1 rfl (dk D_X12_change 38 rfl) ?_
          refine r_iadd (pc := 69) hX (dk D_X12_change 39 rfl) ?_
          obtain ⟨x13, hx13, h⟩ := bd_some h
          refine r_iald (pc := 70) hX (R32_w _) hx13 (dk D_X12_change 40 rfl) (fun qx13 => ?_)
          cases h
          exact r_ireturn (pc := 71) hX qx13 hM ⟨by decide, by decide⟩ (dk D_X12_change 41 rfl)
        · rw [if_neg hc] at h
          refine r_bipush (pc := 52) hX rfl (dk D_X12_change 29 rfl) ?_
          cases h
          exact r_ireturn (pc := 54) hX (R32_lit rfl) hM ⟨by decide, by decide⟩ (dk D_X12_change 30 rfl)
      · rw [if_pos hc] at h
        refine r_bipush (pc := 26) hX rfl (dk D_X12_change 14 rfl) ?_
        cases h
        exact r_ireturn (pc := 28) hX (R32_lit rfl) hM ⟨by decide, by decide⟩ (dk D_X12_change 15 rfl)
set_option maxRecDepth 100000 in
set_option maxHeartbeats 4000000 in
theorem L_M_keeps_L2 {E : EX} {X : CX} {res : Int} {μe : Mem} (hX : Good E X cX12_keeps 3 "TollsBackModel") (hM : GoodM E X none none μe 0 0) (hRm : cR X = rmOf 2 0 0) {k35 : Int → Int → Mem → Option (Int × Mem)} (hk35 : ∀ (u0 u1 : Int) (μ : Mem), R32 u1 → k35 u0 u1 μ = some (res, μe) → At E X cX12_keeps 3 "TollsBackModel" (0, 0) 35 [(0, 2, u0), (1, 0, u1)] [] μ) : ∀ (n : Nat) (v0 v1 v2 : Int) (μ : Mem) (q_v1 : R32 v1) (q_v2 : R32 v2) (h : M_keeps_L2 k35 n v0 v1 v2 μ = some (res, μe)), At E X cX12_keeps 3 "TollsBackModel" (0, 0) 2 [(0, 2, v0), (1, 0, v1), (2, 0, v2)] [] μ := by
  intro n
  induction n with
  | zero =>
    intro v0 v1 v2 μ q_v1 q_v2 h
    have h : (none : Option (Int × Mem)) = some (res, μe) := h
    cases h
  | succ n ih =>
    intro v0 v1 v2 μ q_v1 q_v2 h
    rw [M_keeps_L2.eq_2] at h
    refine r_iloadn (pc := 2) hX 2 rfl (dk D_X12_keeps 2 rfl) ?_
    refine r_bipush (pc := 3) hX rfl (dk D_X12_keeps 3 rfl) ?_
    refine r_icmp_ge (pc := 5) hX q_v2 (R32_lit rfl) 35 rfl (dk D_X12_keeps 4 rfl) (fun hc => ?_) (fun hc => ?_)
    · rw [if_neg hc] at h
      refine r_sub (lv' := [(0, 2, v0), (1, 0, v1)]) [0, 1] rfl ?_
      exact hk35 v0 v1 μ q_v1 h
    · rw [if_pos hc] at h
      refine r_aloadn (pc := 8) hX 0 rfl (dk D_X12_keeps 5 rfl) ?_
      obtain ⟨x1, hx1, h⟩ := bd_some h
      refine r_getR (pc := 9) hX fl_12_34 rfl hx1 (dk D_X12_keeps 6 rfl) ?_
      refine r_iloadn (pc := 12) hX 2 rfl (dk D_X12_keeps 7 rfl) ?_
      refine r_aloadn (pc := 13) hX 0 rfl (dk D_X12_keeps 8 rfl) ?_
      obtain ⟨x2, hx2, h⟩ := bd_some h
      refine r_getR (pc := 14) hX fl_12_13 rfl hx2 (dk D_X12_keeps 9 rfl) ?_
      refine r_sipush (pc := 17) hX rfl (dk D_X12_keeps 10 rfl) ?_
      refine r_bipush (pc := 20) hX rfl (dk D_X12_keeps 11 rfl) ?_
      refine r_iloadn (pc := 22) hX 2 rfl (dk D_X12_keeps 12 rfl) ?_
      refine r_imul (pc := 23) hX (dk D_X12_keeps 13 rfl) ?_
      refine r_iadd (pc := 24) hX (dk D_X12_keeps 14 rfl) ?_
      refine r_iloadn (pc := 25) hX 1 rfl (dk D_X12_keeps 15 rfl) ?_
      refine r_iadd (pc := 26) hX (dk D_X12_keeps 16 rfl) ?_
      obtain ⟨x3, hx3, h⟩ := bd_some h
      refine r_iald (pc := 27) hX (R32_w _) hx3 (dk D_X12_keeps 17 rfl) (fun qx3 => ?_)
      obtain ⟨μ4, hμ4, h⟩ := bd_some h
      refine r_iast (pc := 28) hX q_v2 qx3 hμ4 (dk D_X12_keeps 18 rfl) ?_
      refine r_iinc (lv' := [(2, 0, (w32 (v2 + 1))), (0, 2, v0), (1, 0, v1)]) (pc := 29) hX 2 rfl (by decide) rfl (dk D_X12_keeps 19 rfl) ?_
      refine r_goto (pc := 32) hX 2 rfl (dk D_X12_keeps 20 rfl) ?_
      refine r_sub (lv' := [(0, 2, v0), (1, 0, v1), (2, 0, (w32 (v2 + 1)))]) [1, 2, 0] rfl ?_
      exact ih v0 v1 (w32 (v2 + 1)) μ4 q_v1 (R32_w _) h
set_option maxRecDepth 100000 in
set_option maxHeartbeats 4000000 in
theorem L_M_keeps_L37 {E : EX} {X : CX} {res : Int} {μe : Mem} (hX : Good E X cX12_keeps 3 "TollsBackModel") (hM : GoodM E X none none μe 0 0) (hRm : cR X = rmOf 2 0 0) : ∀ (n : Nat) (v0 v1 v2 : Int) (μ : Mem) (q_v1 : R32 v1) (q_v2 : R32 v2) (h : M_keeps_L37 n v0 v1 v2 μ = some (res, μe)), At E X cX12_keeps 3 "TollsBackModel" (0, 0) 37 [(0, 2, v0), (1, 0, v1), (2, 0, v2)] [] μ := by
  intro n
  induction n with
  | zero =>
    intro v0 v1 v2 μ q_v1 q_v2 h
    have h : (none : Option (Int × Mem)) = some (res, μe) := h
    cases h
  | succ n ih =>
    intro v0 v1 v2 μ q_v1 q_v2 h
    rw [M_keeps_L37.eq_2] at h
    refine r_iloadn (pc := 37) hX 2 rfl (dk D_X12_keeps 23 rfl) ?_
    refine r_bipush (pc := 38) hX rfl (dk D_X12_keeps 24 rfl) ?_
    refine r_icmp_ge (pc := 40) hX q_v2 (R32_lit rfl) 118 rfl (dk D_X12_keeps 25 rfl) (fun hc => ?_) (fun hc => ?_)
    · rw [if_neg hc] at h
      cases h
      exact r_return (pc := 118) hX hM ⟨by decide, by decide⟩ (dk D_X12_keeps 70 rfl)
    · rw [if_pos hc] at h
      refine r_aloadn (pc := 43) hX 0 rfl (dk D_X12_keeps 26 rfl) ?_
      obtain ⟨x1, hx1, h⟩ := bd_some h
      refine r_getR (pc := 44) hX fl_12_34 rfl hx1 (dk D_X12_keeps 27 rfl) ?_
      refine r_bipush (pc := 47) hX rfl (dk D_X12_keeps 28 rfl) ?_
      refine r_iloadn (pc := 49) hX 2 rfl (dk D_X12_keeps 29 rfl) ?_
      refine r_iadd (pc := 50) hX (dk D_X12_keeps 30 rfl) ?_
      refine r_aloadn (pc := 51) hX 0 rfl (dk D_X12_keeps 31 rfl) ?_
      obtain ⟨x2, hx2, h⟩ := bd_some h
      refine r_getR (pc := 52) hX fl_12_13 rfl hx2 (dk D_X12_keeps 32 rfl) ?_
      refine r_sipush (pc := 55) hX rfl (dk D_X12_keeps 33 rfl) ?_
      refine r_iloadn (pc := 58) hX 1 rfl (dk D_X12_keeps 34 rfl) ?_
      refine r_iloadn (pc := 59) hX 2 rfl (dk D_X12_keeps 35 rfl) ?_
      obtain ⟨x3, μ4, hx3, h⟩ := bd2_some h
      refine r_invS0 (As := [(0, v1), (0, v2)]) (pc := 60) hX ml_12_233 (L_M_slipAt q_v1 q_v2 hx3) (Rm_of hRm (by decide) ⟨by decide, by decide⟩) (by decide) rfl (Nat.le_of_ble_eq_true rfl) rfl (dk D_X12_keeps 36 rfl) (fun qx3 => ?_)
      refine r_iadd (pc := 63) hX (dk D_X12_keeps 37 rfl) ?_
      obtain ⟨x5, hx5, h⟩ := bd_some h
      refine r_iald (pc := 64) hX (R32_w _) hx5 (dk D_X12_keeps 38 rfl) (fun qx5 => ?_)
      obtain ⟨μ6, hμ6, h⟩ := bd_some h
      refine r_iast (pc := 65) hX (R32_w _) qx5 hμ6 (dk D_X12_keeps 39 rfl) ?_
      refine r_aloadn (pc := 66) hX 0 rfl (dk D_X12_keeps 40 rfl) ?_
      obtain ⟨x7, hx7, h⟩ := bd_some h
      refine r_getR (pc := 67) hX fl_12_34 rfl hx7 (dk D_X12_keeps 41 rfl) ?_
      refine r_bipush (pc := 70) hX rfl (dk D_X12_keeps 42 rfl) ?_
      refine r_iloadn (pc := 72) hX 2 rfl (dk D_X12_keeps 43 rfl) ?_
      refine r_iadd (pc := 73) hX (dk D_X12_keeps 44 rfl) ?_
      refine r_aloadn (pc := 74) hX 0 rfl (dk D_X12_keeps 45 rfl) ?_
      obtain ⟨x8, hx8, h⟩ := bd_some h
      refine r_getR (pc := 75) hX fl_12_13 rfl hx8 (dk D_X12_keeps 46 rfl) ?_
      refine r_sipush (pc := 78) hX rfl (dk D_X12_keeps 47 rfl) ?_
      refine r_iloadn (pc := 81) hX 1 rfl (dk D_X12_keeps 48 rfl) ?_
      refine r_iloadn (pc := 82) hX 2 rfl (dk D_X12_keeps 49 rfl) ?_
      obtain ⟨x9, μ10, hx9, h⟩ := bd2_some h
      refine r_invS0 (As := [(0, v1), (0, v2)]) (pc := 83) hX ml_12_233 (L_M_slipAt q_v1 q_v2 hx9) (Rm_of hRm (by decide) ⟨by decide, by decide⟩) (by decide) rfl (Nat.le_of_ble_eq_true rfl) rfl (dk D_X12_keeps 50 rfl) (fun qx9 => ?_)
      refine r_iadd (pc := 86) hX (dk D_X12_keeps 51 rfl) ?_
      obtain ⟨x11, hx11, h⟩ := bd_some h
      refine r_iald (pc := 87) hX (R32_w _) hx11 (dk D_X12_keeps 52 rfl) (fun qx11 => ?_)
      obtain ⟨μ12, hμ12, h⟩ := bd_some h
      refine r_iast (pc := 88) hX (R32_w _) qx11 hμ12 (dk D_X12_keeps 53 rfl) ?_
      refine r_aloadn (pc := 89) hX 0 rfl (dk D_X12_keeps 54 rfl) ?_
      obtain ⟨x13, hx13, h⟩ := bd_some h
      refine r_getR (pc := 90) hX fl_12_34 rfl hx13 (dk D_X12_keeps 55 rfl) ?_
      refine r_bipush (pc := 93) hX rfl (dk D_X12_keeps 56 rfl) ?_
      refine r_iloadn (pc := 95) hX 2 rfl (dk D_X12_keeps 57 rfl) ?_
      refine r_iadd (pc := 96) hX (dk D_X12_keeps 58 rfl) ?_
      refine r_aloadn (pc := 97) hX 0 rfl (dk D_X12_keeps 59 rfl) ?_
      obtain ⟨x14, hx14, h⟩ := bd_some h
      refine r_getR (pc := 98) hX fl_12_13 rfl hx14 (dk D_X12_keeps 60 rfl) ?_
      refine r_sipush (pc := 101) hX rfl (dk D_X12_keeps 61 rfl) ?_
      refine r_iloadn (pc := 104) hX 1 rfl (dk D_X12_keeps 62 rfl) ?_
      refine r_iloadn (pc := 105) hX 2 rfl (dk D_X12_keeps 63 rfl) ?_
      obtain ⟨x15, μ16, hx15, h⟩ := bd2_some h
      refine r_invS0 (As := [(0, v1), (0, v2)]) (pc := 106) hX ml_12_233 (L_M_slipAt q_v1 q_v2 hx15) (Rm_of hRm (by decide) ⟨by decide, by decide⟩) (by decide) rfl (Nat.le_of_ble_eq_true rfl) rfl (dk D_X12_keeps 64 rfl) (fun qx15 => ?_)
      refine r_iadd (pc := 109) hX (dk D_X12_keeps 65 rfl) ?_
      obtain ⟨x17, hx17, h⟩ := bd_some h
      refine r_iald (pc := 110) hX (R32_w _) hx17 (dk D_X12_keeps 66 rfl) (fun qx17 => ?_)
      obtain ⟨μ18, hμ18, h⟩ := bd_some h
      refine r_iast (pc := 111) hX (R32_w _) qx17 hμ18 (dk D_X12_keeps 67 rfl) ?_
      refine r_iinc (lv' := [(2, 0, (w32 (v2 + 1))), (0, 2, v0), (1, 0, v1)]) (pc := 112) hX 2 rfl (by decide) rfl (dk D_X12_keeps 68 rfl) ?_
      refine r_goto (pc := 115) hX 37 rfl (dk D_X12_keeps 69 rfl) ?_
      refine r_sub (lv' := [(0, 2, v0), (1, 0, v1), (2, 0, (w32 (v2 + 1)))]) [1, 2, 0] rfl ?_
      exact ih v0 v1 (w32 (v2 + 1)) μ18 q_v1 (R32_w _) h
set_option maxRecDepth 100000 in
set_option maxHeartbeats 4000000 in
theorem L_M_keeps {E : EX} {l : Launch} {a0 a1 res : Int} {μ μ' : Mem} (q_a1 : R32 a1) (h : M_keeps a0 a1 μ = some (res, μ')) : Ok E l 2 yX12_keeps (.code yX12_keeps cX12_keeps 3 none) 0 0 [(2, a0), (0, a1)] μ none μ' := by
  refine Ok.of (own := "TollsBackModel") [(0, 2, a0), (1, 0, a1)] (by decide +kernel) rfl (Nat.le_of_ble_eq_true rfl) rfl ?_
  intro X hL hRm hin hX hM
  unfold M_keeps at h
  subst hL
  refine r_iconst (pc := 0) hX (dk D_X12_keeps 0 rfl) ?_
  refine r_istoren (lv' := [(2, 0, 0), (0, 2, a0), (1, 0, a1)]) (pc := 1) hX (by decide) rfl (dk D_X12_keeps 1 rfl) ?_
  refine r_sub (lv' := [(0, 2, a0), (1, 0, a1), (2, 0, 0)]) [1, 2, 0] rfl ?_
  refine L_M_keeps_L2 hX hM hRm ?_ FU a0 a1 0 μ q_a1 (R32_lit rfl) h
  intro x1 x2 μ3 qx2 h
  refine r_iconst (pc := 35) hX (dk D_X12_keeps 21 rfl) ?_
  refine r_istoren (lv' := [(2, 0, 0), (0, 2, x1), (1, 0, x2)]) (pc := 36) hX (by decide) rfl (dk D_X12_keeps 22 rfl) ?_
  refine r_sub (lv' := [(0, 2, x1), (1, 0, x2), (2, 0, 0)]) [1, 2, 0] rfl ?_
  refine L_M_keeps_L37 hX hM hRm FU x1 x2 0 μ3 qx2 (R32_lit rfl) h
set_option maxRecDepth 100000 in
set_option maxHeartbeats 4000000 in
theorem L_M_isAgain_L2 {E : EX} {X : CX} {res : Int} {μe : Mem} (hX : Good E X cX12_isAgain 3 "TollsBackModel") (hM : GoodM E X none none μe 0 0) (hRm : cR X = rmOf 2 0 0) {k35 : Int → Int → Mem → Option (Int × Mem)} (hk35 : ∀ (u0 u1 : Int) (μ : Mem), R32 u1 → k35 u0 u1 μ = some (res, μe) → At E X cX12_isAgain 3 "TollsBackModel" (0, 0) 35 [(0, 2, u0), (1, 0, u1)] [] μ) : ∀ (n : Nat) (v0 v1 v2 : Int) (μ : Mem) (q_v1 : R32 v1) (q_v2 : R32 v2) (h : M_isAgain_L2 k35 n v0 v1 v2 μ = some (res, μe)), At E X cX12_isAgain 3 "TollsBackModel" (0, 0) 2 [(0, 2, v0), (1, 0, v1), (2, 0, v2)] [] μ := by
  intro n
  induction n with
  | zero =>
    intro v0 v1 v2 μ q_v1 q_v2 h
    have h : (none : Option (Int × Mem)) = some (res, μe) := h
    cases h
  | succ n ih =>
    intro v0 v1 v2 μ q_v1 q_v2 h
    rw [M_isAgain_L2.eq_2] at h
    refine r_iloadn (pc := 2) hX 2 rfl (dk D_X12_isAgain 2 rfl) ?_
    refine r_bipush (pc := 3) hX rfl (dk D_X12_isAgain 3 rfl) ?_
    refine r_icmp_ge (pc := 5) hX q_v2 (R32_lit rfl) 35 rfl (dk D_X12_isAgain 4 rfl) (fun hc => ?_) (fun hc => ?_)
    · rw [if_neg hc] at h
      refine r_sub (lv' := [(0, 2, v0), (1, 0, v1)]) [0, 1] rfl ?_
      exact hk35 v0 v1 μ q_v1 h
    · rw [if_pos hc] at h
      refine r_aloadn (pc := 8) hX 0 rfl (dk D_X12_isAgain 5 rfl) ?_
      obtain ⟨x1, hx1, h⟩ := bd_some h
      refine r_getR (pc := 9) hX fl_12_13 rfl hx1 (dk D_X12_isAgain 6 rfl) ?_
      refine r_sipush (pc := 12) hX rfl (dk D_X12_isAgain 7 rfl) ?_
      refine r_bipush (pc := 15) hX rfl (dk D_X12_isAgain 8 rfl) ?_
      refine r_iloadn (pc := 17) hX 2 rfl (dk D_X12_isAgain 9 rfl) ?_
      refine r_imul (pc := 18) hX (dk D_X12_isAgain 10 rfl) ?_
      refine r_iadd (pc := 19) hX (dk D_X12_isAgain 11 rfl) ?_
      refine r_iloadn (pc := 20) hX 1 rfl (dk D_X12_isAgain 12 rfl) ?_
      refine r_iadd (pc := 21) hX (dk D_X12_isAgain 13 rfl) ?_
      refine r_aloadn (pc := 22) hX 0 rfl (dk D_X12_isAgain 14 rfl) ?_
      obtain ⟨x2, hx2, h⟩ := bd_some h
      refine r_getR (pc := 23) hX fl_12_34 rfl hx2 (dk D_X12_isAgain 15 rfl) ?_
      refine r_iloadn (pc := 26) hX 2 rfl (dk D_X12_isAgain 16 rfl) ?_
      obtain ⟨x3, hx3, h⟩ := bd_some h
      refine r_iald (pc := 27) hX q_v2 hx3 (dk D_X12_isAgain 17 rfl) (fun qx3 => ?_)
      obtain ⟨μ4, hμ4, h⟩ := bd_some h
      refine r_iast (pc := 28) hX (R32_w _) qx3 hμ4 (dk D_X12_isAgain 18 rfl) ?_
      refine r_iinc (lv' := [(2, 0, (w32 (v2 + 1))), (0, 2, v0), (1, 0, v1)]) (pc := 29) hX 2 rfl (by decide) rfl (dk D_X12_isAgain 19 rfl) ?_
      refine r_goto (pc := 32) hX 2 rfl (dk D_X12_isAgain 20 rfl) ?_
      refine r_sub (lv' := [(0, 2, v0), (1, 0, v1), (2, 0, (w32 (v2 + 1)))]) [1, 2, 0] rfl ?_
      exact ih v0 v1 (w32 (v2 + 1)) μ4 q_v1 (R32_w _) h
set_option maxRecDepth 100000 in
set_option maxHeartbeats 4000000 in
theorem L_M_isAgain_L37 {E : EX} {X : CX} {res : Int} {μe : Mem} (hX : Good E X cX12_isAgain 3 "TollsBackModel") (hM : GoodM E X none none μe 0 0) (hRm : cR X = rmOf 2 0 0) : ∀ (n : Nat) (v0 v1 v2 : Int) (μ : Mem) (q_v1 : R32 v1) (q_v2 : R32 v2) (h : M_isAgain_L37 n v0 v1 v2 μ = some (res, μe)), At E X cX12_isAgain 3 "TollsBackModel" (0, 0) 37 [(0, 2, v0), (1, 0, v1), (2, 0, v2)] [] μ := by
  intro n
  induction n with
  | zero =>
    intro v0 v1 v2 μ q_v1 q_v2 h
    have h : (none : Option (Int × Mem)) = some (res, μe) := h
    cases h
  | succ n ih =>
    intro v0 v1 v2 μ q_v1 q_v2 h
    rw [M_isAgain_L37.eq_2] at h
    refine r_iloadn (pc := 37) hX 2 rfl (dk D_X12_isAgain 23 rfl) ?_
    refine r_bipush (pc := 38) hX rfl (dk D_X12_isAgain 24 rfl) ?_
    refine r_icmp_ge (pc := 40) hX q_v2 (R32_lit rfl) 118 rfl (dk D_X12_isAgain 25 rfl) (fun hc => ?_) (fun hc => ?_)
    · rw [if_neg hc] at h
      cases h
      exact r_return (pc := 118) hX hM ⟨by decide, by decide⟩ (dk D_X12_isAgain 70 rfl)
    · rw [if_pos hc] at h
      refine r_aloadn (pc := 43) hX 0 rfl (dk D_X12_isAgain 26 rfl) ?_
      obtain ⟨x1, hx1, h⟩ := bd_some h
      refine r_getR (pc := 44) hX fl_12_13 rfl hx1 (dk D_X12_isAgain 27 rfl) ?_
      refine r_sipush (pc := 47) hX rfl (dk D_X12_isAgain 28 rfl) ?_
      refine r_iloadn (pc := 50) hX 1 rfl (dk D_X12_isAgain 29 rfl) ?_
      refine r_iloadn (pc := 51) hX 2 rfl (dk D_X12_isAgain 30 rfl) ?_
      obtain ⟨x2, μ3, hx2, h⟩ := bd2_some h
      refine r_invS0 (As := [(0, v1), (0, v2)]) (pc := 52) hX ml_12_233 (L_M_slipAt q_v1 q_v2 hx2) (Rm_of hRm (by decide) ⟨by decide, by decide⟩) (by decide) rfl (Nat.le_of_ble_eq_true rfl) rfl (dk D_X12_isAgain 31 rfl) (fun qx2 => ?_)
      refine r_iadd (pc := 55) hX (dk D_X12_isAgain 32 rfl) ?_
      refine r_aloadn (pc := 56) hX 0 rfl (dk D_X12_isAgain 33 rfl) ?_
      obtain ⟨x4, hx4, h⟩ := bd_some h
      refine r_getR (pc := 57) hX fl_12_34 rfl hx4 (dk D_X12_isAgain 34 rfl) ?_
      refine r_bipush (pc := 60) hX rfl (dk D_X12_isAgain 35 rfl) ?_
      refine r_iloadn (pc := 62) hX 2 rfl (dk D_X12_isAgain 36 rfl) ?_
      refine r_iadd (pc := 63) hX (dk D_X12_isAgain 37 rfl) ?_
      obtain ⟨x5, hx5, h⟩ := bd_some h
      refine r_iald (pc := 64) hX (R32_w _) hx5 (dk D_X12_isAgain 38 rfl) (fun qx5 => ?_)
      obtain ⟨μ6, hμ6, h⟩ := bd_some h
      refine r_iast (pc := 65) hX (R32_w _) qx5 hμ6 (dk D_X12_isAgain 39 rfl) ?_
      refine r_aloadn (pc := 66) hX 0 rfl (dk D_X12_isAgain 40 rfl) ?_
      obtain ⟨x7, hx7, h⟩ := bd_some h
      refine r_getR (pc := 67) hX fl_12_13 rfl hx7 (dk D_X12_isAgain 41 rfl) ?_
      refine r_sipush (pc := 70) hX rfl (dk D_X12_isAgain 42 rfl) ?_
      refine r_iloadn (pc := 73) hX 1 rfl (dk D_X12_isAgain 43 rfl) ?_
      refine r_iloadn (pc := 74) hX 2 rfl (dk D_X12_isAgain 44 rfl) ?_
      obtain ⟨x8, μ9, hx8, h⟩ := bd2_some h
      refine r_invS0 (As := [(0, v1), (0, v2)]) (pc := 75) hX ml_12_233 (L_M_slipAt q_v1 q_v2 hx8) (Rm_of hRm (by decide) ⟨by decide, by decide⟩) (by decide) rfl (Nat.le_of_ble_eq_true rfl) rfl (dk D_X12_isAgain 45 rfl) (fun qx8 => ?_)
      refine r_iadd (pc := 78) hX (dk D_X12_isAgain 46 rfl) ?_
      refine r_aloadn (pc := 79) hX 0 rfl (dk D_X12_isAgain 47 rfl) ?_
      obtain ⟨x10, hx10, h⟩ := bd_some h
      refine r_getR (pc := 80) hX fl_12_34 rfl hx10 (dk D_X12_isAgain 48 rfl) ?_
      refine r_bipush (pc := 83) hX rfl (dk D_X12_isAgain 49 rfl) ?_
      refine r_iloadn (pc := 85) hX 2 rfl (dk D_X12_isAgain 50 rfl) ?_
      refine r_iadd (pc := 86) hX (dk D_X12_isAgain 51 rfl) ?_
      obtain ⟨x11, hx11, h⟩ := bd_some h
      refine r_iald (pc := 87) hX (R32_w _) hx11 (dk D_X12_isAgain 52 rfl) (fun qx11 => ?_)
      obtain ⟨μ12, hμ12, h⟩ := bd_some h
      refine r_iast (pc := 88) hX (R32_w _) qx11 hμ12 (dk D_X12_isAgain 53 rfl) ?_
      refine r_aloadn (pc := 89) hX 0 rfl (dk D_X12_isAgain 54 rfl) ?_
      obtain ⟨x13, hx13, h⟩ := bd_some h
      refine r_getR (pc := 90) hX fl_12_13 rfl hx13 (dk D_X12_isAgain 55 rfl) ?_
      refine r_sipush (pc := 93) hX rfl (dk D_X12_isAgain 56 rfl) ?_
      refine r_iloadn (pc := 96) hX 1 rfl (dk D_X12_isAgain 57 rfl) ?_
      refine r_iloadn (pc := 97) hX 2 rfl (dk D_X12_isAgain 58 rfl) ?_
      obtain ⟨x14, μ15, hx14, h⟩ := bd2_some h
      refine r_invS0 (As := [(0, v1), (0, v2)]) (pc := 98) hX ml_12_233 (L_M_slipAt q_v1 q_v2 hx14) (Rm_of hRm (by decide) ⟨by decide, by decide⟩) (by decide) rfl (Nat.le_of_ble_eq_true rfl) rfl (dk D_X12_isAgain 59 rfl) (fun qx14 => ?_)
      refine r_iadd (pc := 101) hX (dk D_X12_isAgain 60 rfl) ?_
      refine r_aloadn (pc := 102) hX 0 rfl (dk D_X12_isAgain 61 rfl) ?_
      obtain ⟨x16, hx16, h⟩ := bd_some h
      refine r_getR (pc := 103) hX fl_12_34 rfl hx16 (dk D_X12_isAgain 62 rfl) ?_
      refine r_bipush (pc := 106) hX rfl (dk D_X12_isAgain 63 rfl) ?_
      refine r_iloadn (pc := 108) hX 2 rfl (dk D_X12_isAgain 64 rfl) ?_
      refine r_iadd (pc := 109) hX (dk D_X12_isAgain 65 rfl) ?_
      obtain ⟨x17, hx17, h⟩ := bd_some h
      refine r_iald (pc := 110) hX (R32_w _) hx17 (dk D_X12_isAgain 66 rfl) (fun qx17 => ?_)
      obtain ⟨μ18, hμ18, h⟩ := bd_some h
      refine r_iast (pc := 111) hX (R32_w _) qx17 hμ18 (dk D_X12_isAgain 67 rfl) ?_
      refine r_iinc (lv' := [(2, 0, (w32 (v2 + 1))), (0, 2, v0), (1, 0, v1)]) (pc := 112) hX 2 rfl (by decide) rfl (dk D_X12_isAgain 68 rfl) ?_
      refine r_goto (pc := 115) hX 37 rfl (dk D_X12_isAgain 69 rfl) ?_
      refine r_sub (lv' := [(0, 2, v0), (1, 0, v1), (2, 0, (w32 (v2 + 1)))]) [1, 2, 0] rfl ?_
      exact ih v0 v1 (w32 (v2 + 1)) μ18 q_v1 (R32_w _) h
set_option maxRecDepth 100000 in
set_option maxHeartbeats 4000000 in
theorem L_M_isAgain {E : EX} {l : Launch} {a0 a1 res : Int} {μ μ' : Mem} (q_a1 : R32 a1) (h : M_isAgain a0 a1 μ = some (res, μ')) : Ok E l 2 yX12_isAgain (.code yX12_isAgain cX12_isAgain 3 none) 0 0 [(2, a0), (0, a1)] μ none μ' := by
  refine Ok.of (own := "TollsBackModel") [(0, 2, a0), (1, 0, a1)] (by decide +kernel) rfl (Nat.le_of_ble_eq_true rfl) rfl ?_
  intro X hL hRm hin hX hM
  unfold M_isAgain at h
  subst hL
  refine r_iconst (pc := 0) hX (dk D_X12_isAgain 0 rfl) ?_
  refine r_istoren (lv' := [(2, 0, 0), (0, 2, a0), (1, 0, a1)]) (pc := 1) hX (by decide) rfl (dk D_X12_isAgain 1 rfl) ?_
  refine r_sub (lv' := [(0, 2, a0), (1, 0, a1), (2, 0, 0)]) [1, 2, 0] rfl ?_
  refine L_M_isAgain_L2 hX hM hRm ?_ FU a0 a1 0 μ q_a1 (R32_lit rfl) h
  intro x1 x2 μ3 qx2 h
  refine r_iconst (pc := 35) hX (dk D_X12_isAgain 21 rfl) ?_
  refine r_istoren (lv' := [(2, 0, 0), (0, 2, x1), (1, 0, x2)]) (pc := 36) hX (by decide) rfl (dk D_X12_isAgain 22 rfl) ?_
  refine r_sub (lv' := [(0, 2, x1), (1, 0, x2), (2, 0, 0)]) [1, 2, 0] rfl ?_
  refine L_M_isAgain_L37 hX hM hRm FU x1 x2 0 μ3 qx2 (R32_lit rfl) h
set_option maxRecDepth 100000 in
set_option maxHeartbeats 4000000 in
theorem L_M_goesAll_L2 {E : EX} {X : CX} {res : Int} {μe : Mem} (hX : Good E X cX12_goesAll 6 "TollsBackModel") (hM : GoodM E X (some .int) (some (0, res)) μe 0 0) (hRm : cR X = rmOf 5 0 0) {k75 : Int → Int → Mem → Option (Int × Mem)} (hk75 : ∀ (u0 u1 : Int) (μ : Mem), R32 u1 → k75 u0 u1 μ = some (res, μe) → At E X cX12_goesAll 6 "TollsBackModel" (0, 0) 75 [(0, 2, u0), (2, 0, u1)] [] μ) : ∀ (n : Nat) (v0 v1 v2 v3 : Int) (μ : Mem) (q_v1 : R32 v1) (q_v2 : R32 v2) (q_v3 : R32 v3) (h : M_goesAll_L2 k75 n v0 v1 v2 v3 μ = some (res, μe)), At E X cX12_goesAll 6 "TollsBackModel" (0, 0) 2 [(0, 2, v0), (1, 0, v1), (2, 0, v2), (3, 0, v3)] [] μ := by
  intro n
  induction n with
  | zero =>
    intro v0 v1 v2 v3 μ q_v1 q_v2 q_v3 h
    have h : (none : Option (Int × Mem)) = some (res, μe) := h
    cases h
  | succ n ih =>
    intro v0 v1 v2 v3 μ q_v1 q_v2 q_v3 h
    rw [M_goesAll_L2.eq_2] at h
    refine r_iloadn (pc := 2) hX 3 rfl (dk D_X12_goesAll 2 rfl) ?_
    refine r_aloadn (pc := 3) hX 0 rfl (dk D_X12_goesAll 3 rfl) ?_
    obtain ⟨x1, hx1, h⟩ := bd_some h
    refine r_getR (pc := 4) hX fl_12_105 rfl hx1 (dk D_X12_goesAll 4 rfl) ?_
    refine r_iloadn (pc := 7) hX 2 rfl (dk D_X12_goesAll 5 rfl) ?_
    obtain ⟨x2, hx2, h⟩ := bd_some h
    refine r_iald (pc := 8) hX q_v2 hx2 (dk D_X12_goesAll 6 rfl) (fun qx2 => ?_)
    refine r_icmp_ge (pc := 9) hX q_v3 qx2 75 rfl (dk D_X12_goesAll 7 rfl) (fun hc => ?_) (fun hc => ?_)
    · rw [if_neg hc] at h
      refine r_sub (lv' := [(0, 2, v0), (2, 0, v2)]) [0, 2] rfl ?_
      exact hk75 v0 v2 μ q_v2 h
    · rw [if_pos hc] at h
      refine r_aloadn (pc := 12) hX 0 rfl (dk D_X12_goesAll 8 rfl) ?_
      obtain ⟨x3, hx3, h⟩ := bd_some h
      refine r_getR (pc := 13) hX fl_12_108 rfl hx3 (dk D_X12_goesAll 9 rfl) ?_
      refine r_bipush (pc := 16) hX rfl (dk D_X12_goesAll 10 rfl) ?_
      refine r_iloadn (pc := 18) hX 2 rfl (dk D_X12_goesAll 11 rfl) ?_
      refine r_imul (pc := 19) hX (dk D_X12_goesAll 12 rfl) ?_
      refine r_iloadn (pc := 20) hX 3 rfl (dk D_X12_goesAll 13 rfl) ?_
      refine r_iadd (pc := 21) hX (dk D_X12_goesAll 14 rfl) ?_
      obtain ⟨x4, hx4, h⟩ := bd_some h
      refine r_lald (pc := 22) hX (R32_w _) hx4 (dk D_X12_goesAll 15 rfl) (fun qx4 => ?_)
      refine r_lstore (lv' := [(4, 1, x4), (0, 2, v0), (1, 0, v1), (2, 0, v2), (3, 0, v3)]) (pc := 23) hX (by decide) rfl (dk D_X12_goesAll 16 rfl) ?_
      refine r_aloadn (pc := 25) hX 1 rfl (dk D_X12_goesAll 17 rfl) ?_
      refine r_aloadn (pc := 26) hX 1 rfl (dk D_X12_goesAll 18 rfl) ?_
      refine r_lload (pc := 27) hX 0 rfl (dk D_X12_goesAll 19 rfl) ?_
      obtain ⟨_, hi, h⟩ := bd_some h
      obtain ⟨x5, μ6, hx5, h⟩ := bd2_some h
      refine r_invV0 (As := [(1, x4)]) (pc := 29) hX ml_12_207 (L_M_isRoad qx4 hx5) (isk_u hi) (Rm_of hRm (by decide) ⟨by decide, by decide⟩) (by decide) rfl (Nat.le_of_ble_eq_true rfl) rfl (dk D_X12_goesAll 20 rfl) (fun qx5 => ?_)
      obtain ⟨y7, μ8, hb, h⟩ := bd2_some h
      have hj : R32 y7 → At E X cX12_goesAll 6 "TollsBackModel" (0, 0) 48 [(0, 2, v0), (1, 0, v1), (2, 0, v2), (3, 0, v3), (4, 1, x4)] [(0, y7), (2, v0)] μ8 := by
        intro qy7
        clear hb
        obtain ⟨μ11, hμ11, h⟩ := bd_some h
        refine r_putI (pc := 48) hX fl_12_271 rfl rfl qy7 trivial hμ11 (dk D_X12_goesAll 29 rfl) ?_
        refine r_aloadn (pc := 51) hX 0 rfl (dk D_X12_goesAll 30 rfl) ?_
        obtain ⟨x12, hx12, h⟩ := bd_some h
        refine r_getI (pc := 52) hX fl_12_271 rfl rfl hx12 (dk D_X12_goesAll 31 rfl) (fun qx12 => ?_)
        refine r_if_eq (pc := 55) hX qx12 60 rfl (dk D_X12_goesAll 32 rfl) (fun hc => ?_) (fun hc => ?_)
        · rw [if_pos hc] at h
          refine r_aloadn (pc := 60) hX 0 rfl (dk D_X12_goesAll 35 rfl) ?_
          refine r_iloadn (pc := 61) hX 1 rfl (dk D_X12_goesAll 36 rfl) ?_
          refine r_lload (pc := 62) hX 4 rfl (dk D_X12_goesAll 37 rfl) ?_
          refine r_l2i (pc := 64) hX qx4 (dk D_X12_goesAll 38 rfl) ?_
          obtain ⟨_, hi, h⟩ := bd_some h
          obtain ⟨x13, μ14, hx13, h⟩ := bd2_some h
          refine r_invV0 (As := [(0, v1), (0, (w32 x4))]) (pc := 65) hX ml_12_258 (L_M_goes q_v1 (R32_w _) hx13) (isk_u hi) (Rm_of hRm (by decide) ⟨by decide, by decide⟩) (by decide) rfl (Nat.le_of_ble_eq_true rfl) rfl (dk D_X12_goesAll 39 rfl) (fun qx13 => ?_)
          refine r_pop (pc := 68) hX rfl (dk D_X12_goesAll 40 rfl) ?_
          refine r_iinc (lv' := [(3, 0, (w32 (v3 + 1))), (0, 2, v0), (1, 0, v1), (2, 0, v2), (4, 1, x4)]) (pc := 69) hX 3 rfl (by decide) rfl (dk D_X12_goesAll 41 rfl) ?_
          refine r_goto (pc := 72) hX 2 rfl (dk D_X12_goesAll 42 rfl) ?_
          refine r_sub (lv' := [(0, 2, v0), (1, 0, v1), (2, 0, v2), (3, 0, (w32 (v3 + 1)))]) [1, 2, 3, 0] rfl ?_
          exact ih v0 v1 v2 (w32 (v3 + 1)) μ14 q_v1 q_v2 (R32_w _) h
        · rw [if_neg hc] at h
          refine r_iloadn (pc := 58) hX 3 rfl (dk D_X12_goesAll 33 rfl) ?_
          cases h
          exact r_ireturn (pc := 59) hX q_v3 hM ⟨by decide, by decide⟩ (dk D_X12_goesAll 34 rfl)
      clear h
      have h := hb
      clear hb
      refine r_if_eq (pc := 32) hX qx5 46 rfl (dk D_X12_goesAll 21 rfl) (fun hc => ?_) (fun hc => ?_)
      · rw [if_pos hc] at h
        refine r_bipush (pc := 46) hX rfl (dk D_X12_goesAll 28 rfl) ?_
        replace h := Option.some.inj h
        obtain ⟨h_0, h⟩ := Prod.mk.inj h
        subst y7
        subst μ8
        refine r_sub (lv' := [(0, 2, v0), (1, 0, v1), (2, 0, v2), (3, 0, v3), (4, 1, x4)]) [1, 2, 3, 4, 0] rfl ?_
        exact hj (R32_lit rfl)
      · rw [if_neg hc] at h
        refine r_aloadn (pc := 35) hX 1 rfl (dk D_X12_goesAll 22 rfl) ?_
        refine r_iloadn (pc := 36) hX 2 rfl (dk D_X12_goesAll 23 rfl) ?_
        refine r_lload (pc := 37) hX 0 rfl (dk D_X12_goesAll 24 rfl) ?_
        refine r_l2i (pc := 39) hX qx4 (dk D_X12_goesAll 25 rfl) ?_
        obtain ⟨_, hi, h⟩ := bd_some h
        obtain ⟨x9, μ10, hx9, h⟩ := bd2_some h
        refine r_invV0 (As := [(0, v1), (0, (w32 x4))]) (pc := 40) hX ml_12_255 (L_M_refuses q_v1 (R32_w _) hx9) (isk_u hi) (Rm_of hRm (by decide) ⟨by decide, by decide⟩) (by decide) rfl (Nat.le_of_ble_eq_true rfl) rfl (dk D_X12_goesAll 26 rfl) (fun qx9 => ?_)
        refine r_goto (pc := 43) hX 48 rfl (dk D_X12_goesAll 27 rfl) ?_
        replace h := Option.some.inj h
        obtain ⟨h_0, h⟩ := Prod.mk.inj h
        subst y7
        subst μ8
        refine r_sub (lv' := [(0, 2, v0), (1, 0, v1), (2, 0, v2), (3, 0, v3), (4, 1, x4)]) [1, 2, 3, 4, 0] rfl ?_
        exact hj qx9
set_option maxRecDepth 100000 in
set_option maxHeartbeats 4000000 in
theorem L_M_goesAll {E : EX} {l : Launch} {a0 a1 a2 res : Int} {μ μ' : Mem} (q_a1 : R32 a1) (q_a2 : R32 a2) (h : M_goesAll a0 a1 a2 μ = some (res, μ')) : Ok E l 5 yX12_goesAll (.code yX12_goesAll cX12_goesAll 6 (some .int)) 0 0 [(2, a0), (0, a1), (0, a2)] μ (some (0, res)) μ' := by
  refine Ok.of (own := "TollsBackModel") [(0, 2, a0), (1, 0, a1), (2, 0, a2)] (by decide +kernel) rfl (Nat.le_of_ble_eq_true rfl) rfl ?_
  intro X hL hRm hin hX hM
  unfold M_goesAll at h
  subst hL
  refine r_iconst (pc := 0) hX (dk D_X12_goesAll 0 rfl) ?_
  refine r_istoren (lv' := [(3, 0, 0), (0, 2, a0), (1, 0, a1), (2, 0, a2)]) (pc := 1) hX (by decide) rfl (dk D_X12_goesAll 1 rfl) ?_
  refine r_sub (lv' := [(0, 2, a0), (1, 0, a1), (2, 0, a2), (3, 0, 0)]) [1, 2, 3, 0] rfl ?_
  refine L_M_goesAll_L2 hX hM hRm ?_ FU a0 a1 a2 0 μ q_a1 q_a2 (R32_lit rfl) h
  intro x1 x2 μ3 qx2 h
  refine r_aloadn (pc := 75) hX 0 rfl (dk D_X12_goesAll 43 rfl) ?_
  refine r_iconst (pc := 76) hX (dk D_X12_goesAll 44 rfl) ?_
  obtain ⟨μ4, hμ4, h⟩ := bd_some h
  refine r_putI (pc := 77) hX fl_12_271 rfl rfl (R32_lit rfl) trivial hμ4 (dk D_X12_goesAll 45 rfl) ?_
  refine r_aloadn (pc := 80) hX 0 rfl (dk D_X12_goesAll 46 rfl) ?_
  obtain ⟨x5, hx5, h⟩ := bd_some h
  refine r_getR (pc := 81) hX fl_12_105 rfl hx5 (dk D_X12_goesAll 47 rfl) ?_
  refine r_iloadn (pc := 84) hX 1 rfl (dk D_X12_goesAll 48 rfl) ?_
  obtain ⟨x6, hx6, h⟩ := bd_some h
  refine r_iald (pc := 85) hX qx2 hx6 (dk D_X12_goesAll 49 rfl) (fun qx6 => ?_)
  cases h
  exact r_ireturn (pc := 86) hX qx6 hM ⟨by decide, by decide⟩ (dk D_X12_goesAll 50 rfl)
set_option maxRecDepth 100000 in
set_option maxHeartbeats 4000000 in
theorem L_M_judge {E : EX} {l : Launch} {a0 a1 a2 a3 res : Int} {μ μ' : Mem} (q_a1 : R32 a1) (q_a2 : R32 a2) (q_a3 : R32 a3) (h : M_judge a0 a1 a2 a3 μ = some (res, μ')) : Ok E l 6 yX12_judge (.code yX12_judge cX12_judge 6 (some .int)) 0 0 [(2, a0), (0, a1), (0, a2), (0, a3)] μ (some (0, res)) μ' := by
  refine Ok.of (own := "TollsBackModel") [(0, 2, a0), (1, 0, a1), (2, 0, a2), (3, 0, a3)] (by decide +kernel) rfl (Nat.le_of_ble_eq_true rfl) rfl ?_
  intro X hL hRm hin hX hM
  unfold M_judge at h
  subst hL
  refine r_aloadn (pc := 0) hX 0 rfl (dk D_X12_judge 0 rfl) ?_
  refine r_iconst (pc := 1) hX (dk D_X12_judge 1 rfl) ?_
  obtain ⟨μ1, hμ1, h⟩ := bd_some h
  refine r_putI (pc := 2) hX fl_12_1 rfl rfl (R32_lit rfl) trivial hμ1 (dk D_X12_judge 2 rfl) ?_
  refine r_aloadn (pc := 5) hX 0 rfl (dk D_X12_judge 3 rfl) ?_
  refine r_iloadn (pc := 6) hX 1 rfl (dk D_X12_judge 4 rfl) ?_
  obtain ⟨_, hi, h⟩ := bd_some h
  obtain ⟨x2, μ3, hx2, h⟩ := bd2_some h
  refine r_invV0 (As := [(0, a1)]) (pc := 7) hX ml_12_230 (L_M_isOne q_a1 hx2) (isk_u hi) (Rm_of hRm (by decide) ⟨by decide, by decide⟩) (by decide) rfl (Nat.le_of_ble_eq_true rfl) rfl (dk D_X12_judge 5 rfl) (fun qx2 => ?_)
  refine r_if_eq (pc := 10) hX qx2 37 rfl (dk D_X12_judge 6 rfl) (fun hc => ?_) (fun hc => ?_)
  · rw [if_pos hc] at h
    refine r_bipush (pc := 37) hX rfl (dk D_X12_judge 19 rfl) ?_
    cases h
    exact r_ireturn (pc := 39) hX (R32_lit rfl) hM ⟨by decide, by decide⟩ (dk D_X12_judge 20 rfl)
  · rw [if_neg hc] at h
    refine r_iloadn (pc := 13) hX 2 rfl (dk D_X12_judge 7 rfl) ?_
    refine r_i2l (pc := 14) hX q_a2 (dk D_X12_judge 8 rfl) ?_
    refine r_lconst (x := 0) (pc := 15) hX (by decide) (dk D_X12_judge 9 rfl) ?_
    refine r_ldc2 (pc := 16) hX cn_12_274 (dk D_X12_judge 10 rfl) ?_
    obtain ⟨x4, μ5, hx4, h⟩ := bd2_some h
    refine r_invS0 (As := [(1, a2), (1, 0), (1, 3)]) (pc := 19) hX ml_12_178 (L_M_within (R64_of q_a2) (R64_lit rfl) (R64_lit rfl) hx4) (Rm_of hRm (by decide) ⟨by decide, by decide⟩) (by decide) rfl (Nat.le_of_ble_eq_true rfl) rfl (dk D_X12_judge 11 rfl) (fun qx4 => ?_)
    refine r_if_eq (pc := 22) hX qx4 37 rfl (dk D_X12_judge 12 rfl) (fun hc => ?_) (fun hc => ?_)
    · rw [if_pos hc] at h
      refine r_bipush (pc := 37) hX rfl (dk D_X12_judge 19 rfl) ?_
      cases h
      exact r_ireturn (pc := 39) hX (R32_lit rfl) hM ⟨by decide, by decide⟩ (dk D_X12_judge 20 rfl)
    · rw [if_neg hc] at h
      refine r_iloadn (pc := 25) hX 3 rfl (dk D_X12_judge 13 rfl) ?_
      refine r_i2l (pc := 26) hX q_a3 (dk D_X12_judge 14 rfl) ?_
      refine r_lconst (x := 0) (pc := 27) hX (by decide) (dk D_X12_judge 15 rfl) ?_
      refine r_ldc2 (pc := 28) hX cn_12_276 (dk D_X12_judge 16 rfl) ?_
      obtain ⟨x6, μ7, hx6, h⟩ := bd2_some h
      refine r_invS0 (As := [(1, a3), (1, 0), (1, 6)]) (pc := 31) hX ml_12_178 (L_M_within (R64_of q_a3) (R64_lit rfl) (R64_lit rfl) hx6) (Rm_of hRm (by decide) ⟨by decide, by decide⟩) (by decide) rfl (Nat.le_of_ble_eq_true rfl) rfl (dk D_X12_judge 17 rfl) (fun qx6 => ?_)
      refine r_if_ne (pc := 34) hX qx6 40 rfl (dk D_X12_judge 18 rfl) (fun hc => ?_) (fun hc => ?_)
      · rw [if_neg hc] at h
        refine r_aloadn (pc := 40) hX 0 rfl (dk D_X12_judge 21 rfl) ?_
        obtain ⟨x8, hx8, h⟩ := bd_some h
        refine r_getR (pc := 41) hX fl_12_102 rfl hx8 (dk D_X12_judge 22 rfl) ?_
        refine r_iloadn (pc := 44) hX 2 rfl (dk D_X12_judge 23 rfl) ?_
        obtain ⟨x9, hx9, h⟩ := bd_some h
        refine r_iald (pc := 45) hX q_a2 hx9 (dk D_X12_judge 24 rfl) (fun qx9 => ?_)
        refine r_iconst (pc := 46) hX (dk D_X12_judge 25 rfl) ?_
        refine r_icmp_ne (pc := 47) hX qx9 (R32_lit rfl) 53 rfl (dk D_X12_judge 26 rfl) (fun hc => ?_) (fun hc => ?_)
        · rw [if_neg hc] at h
          refine r_aloadn (pc := 53) hX 0 rfl (dk D_X12_judge 29 rfl) ?_
          refine r_iloadn (pc := 54) hX 1 rfl (dk D_X12_judge 30 rfl) ?_
          obtain ⟨_, hi, h⟩ := bd_some h
          obtain ⟨x10, μ11, hx10, h⟩ := bd2_some h
          refine r_invV0 (As := [(0, a1)]) (pc := 55) hX ml_12_278 (L_M_keeps q_a1 hx10) (isk_u hi) (Rm_of hRm (by decide) ⟨by decide, by decide⟩) (by decide) rfl (Nat.le_of_ble_eq_true rfl) rfl (dk D_X12_judge 31 rfl) (fun _ => ?_)
          refine r_aloadn (pc := 58) hX 0 rfl (dk D_X12_judge 32 rfl) ?_
          refine r_iconst (pc := 59) hX (dk D_X12_judge 33 rfl) ?_
          obtain ⟨μ12, hμ12, h⟩ := bd_some h
          refine r_putI (pc := 60) hX fl_12_30 rfl rfl (R32_lit rfl) (Or.inl rfl) hμ12 (dk D_X12_judge 34 rfl) ?_
          refine r_aloadn (pc := 63) hX 0 rfl (dk D_X12_judge 35 rfl) ?_
          refine r_iloadn (pc := 64) hX 1 rfl (dk D_X12_judge 36 rfl) ?_
          refine r_iloadn (pc := 65) hX 2 rfl (dk D_X12_judge 37 rfl) ?_
          obtain ⟨_, hi, h⟩ := bd_some h
          obtain ⟨x13, μ14, hx13, h⟩ := bd2_some h
          refine r_invV0 (As := [(0, a1), (0, a2)]) (pc := 66) hX ml_12_281 (L_M_goesAll q_a1 q_a2 hx13) (isk_u hi) (Rm_of hRm (by decide) ⟨by decide, by decide⟩) (by decide) rfl (Nat.le_of_ble_eq_true rfl) rfl (dk D_X12_judge 38 rfl) (fun qx13 => ?_)
          refine r_istore (lv' := [(4, 0, x13), (0, 2, a0), (1, 0, a1), (2, 0, a2), (3, 0, a3)]) (pc := 69) hX (by decide) rfl (dk D_X12_judge 39 rfl) ?_
          refine r_aloadn (pc := 71) hX 1 rfl (dk D_X12_judge 40 rfl) ?_
          refine r_iconst (pc := 72) hX (dk D_X12_judge 41 rfl) ?_
          obtain ⟨μ15, hμ15, h⟩ := bd_some h
          refine r_putI (pc := 73) hX fl_12_30 rfl rfl (R32_lit rfl) (Or.inr rfl) hμ15 (dk D_X12_judge 42 rfl) ?_
          refine r_iconst (pc := 76) hX (dk D_X12_judge 43 rfl) ?_
          refine r_istore (lv' := [(5, 0, 0), (4, 0, x13), (0, 2, a0), (1, 0, a1), (2, 0, a2), (3, 0, a3)]) (pc := 77) hX (by decide) rfl (dk D_X12_judge 44 rfl) ?_
          refine r_iloadn (pc := 79) hX 5 rfl (dk D_X12_judge 45 rfl) ?_
          obtain ⟨y16, hb, h⟩ := bd_some h
          have hj : R32 y16 → At E X cX12_judge 6 "TollsBackModel" (0, 0) 233 [(0, 2, a0), (1, 0, a1), (5, 0, y16)] [] μ15 := by
            intro qy16
            clear hb
            refine r_aloadn (pc := 233) hX 0 rfl (dk D_X12_judge 108 rfl) ?_
            refine r_iloadn (pc := 234) hX 1 rfl (dk D_X12_judge 109 rfl) ?_
            obtain ⟨_, hi, h⟩ := bd_some h
            obtain ⟨x35, μ36, hx35, h⟩ := bd2_some h
            refine r_invV0 (As := [(0, a1)]) (pc := 235) hX ml_12_284 (L_M_isAgain q_a1 hx35) (isk_u hi) (Rm_of hRm (by decide) ⟨by decide, by decide⟩) (by decide) rfl (Nat.le_of_ble_eq_true rfl) rfl (dk D_X12_judge 110 rfl) (fun _ => ?_)
            refine r_iload (pc := 238) hX 2 rfl (dk D_X12_judge 111 rfl) ?_
            cases h
            exact r_ireturn (pc := 240) hX qy16 hM ⟨by decide, by decide⟩ (dk D_X12_judge 112 rfl)
          clear h
          have h := hb
          clear hb
          by_cases hc0 : a3 = 0
          · rw [if_pos hc0] at h
            refine r_table (pc := 80) hX (by rw [hc0]; exact R32_lit rfl) 120 (dk D_X12_judge 46 rfl) (by omega) (by omega) (by rw [hc0]; rfl) rfl ?_
            refine r_aloadn (pc := 120) hX 2 rfl (dk D_X12_judge 47 rfl) ?_
            obtain ⟨x17, hx17, h⟩ := bd_some h
            refine r_getI (pc := 121) hX fl_12_271 rfl rfl hx17 (dk D_X12_judge 48 rfl) (fun qx17 => ?_)
            refine r_if_ne (pc := 124) hX qx17 131 rfl (dk D_X12_judge 49 rfl) (fun hc => ?_) (fun hc => ?_)
            · rw [if_neg hc] at h
              refine r_iload (pc := 131) hX 1 rfl (dk D_X12_judge 52 rfl) ?_
              refine r_istore (lv' := [(5, 0, x13), (4, 0, x13), (0, 2, a0), (1, 0, a1), (2, 0, a2), (3, 0, a3)]) (pc := 133) hX (by decide) rfl (dk D_X12_judge 53 rfl) ?_
              refine r_goto (pc := 135) hX 233 rfl (dk D_X12_judge 54 rfl) ?_
              replace h := Option.some.inj h
              subst y16
              refine r_sub (lv' := [(0, 2, a0), (1, 0, a1), (5, 0, x13)]) [2, 3, 0] rfl ?_
              exact hj qx13
            · rw [if_pos hc] at h
              refine r_iconst (pc := 127) hX (dk D_X12_judge 50 rfl) ?_
              refine r_goto (pc := 128) hX 133 rfl (dk D_X12_judge 51 rfl) ?_
              refine r_istore (lv' := [(5, 0, (-1)), (4, 0, x13), (0, 2, a0), (1, 0, a1), (2, 0, a2), (3, 0, a3)]) (pc := 133) hX (by decide) rfl (dk D_X12_judge 53 rfl) ?_
              refine r_goto (pc := 135) hX 233 rfl (dk D_X12_judge 54 rfl) ?_
              replace h := Option.some.inj h
              subst y16
              refine r_sub (lv' := [(0, 2, a0), (1, 0, a1), (5, 0, (-1))]) [2, 3, 0] rfl ?_
              exact hj (R32_lit rfl)
          · rw [if_neg hc0] at h
            by_cases hc1 : a3 = 1
            · rw [if_pos hc1] at h
              refine r_table (pc := 80) hX (by rw [hc1]; exact R32_lit rfl) 138 (dk D_X12_judge 46 rfl) (by omega) (by omega) (by rw [hc1]; rfl) rfl ?_
              refine r_aloadn (pc := 138) hX 2 rfl (dk D_X12_judge 55 rfl) ?_
              obtain ⟨x18, hx18, h⟩ := bd_some h
              refine r_getI (pc := 139) hX fl_12_271 rfl rfl hx18 (dk D_X12_judge 56 rfl) (fun qx18 => ?_)
              refine r_istore (lv' := [(5, 0, x18), (4, 0, x13), (0, 2, a0), (1, 0, a1), (2, 0, a2), (3, 0, a3)]) (pc := 142) hX (by decide) rfl (dk D_X12_judge 57 rfl) ?_
              refine r_goto (pc := 144) hX 233 rfl (dk D_X12_judge 58 rfl) ?_
              replace h := Option.some.inj h
              subst y16
              refine r_sub (lv' := [(0, 2, a0), (1, 0, a1), (5, 0, x18)]) [2, 3, 0] rfl ?_
              exact hj qx18
            · rw [if_neg hc1] at h
              by_cases hc2 : a3 = 2
              · rw [if_pos hc2] at h
                refine r_table (pc := 80) hX (by rw [hc2]; exact R32_lit rfl) 147 (dk D_X12_judge 46 rfl) (by omega) (by omega) (by rw [hc2]; rfl) rfl ?_
                refine r_aloadn (pc := 147) hX 2 rfl (dk D_X12_judge 59 rfl) ?_
                obtain ⟨x19, hx19, h⟩ := bd_some h
                refine r_getR (pc := 148) hX fl_12_13 rfl hx19 (dk D_X12_judge 60 rfl) ?_
                refine r_sipush (pc := 151) hX rfl (dk D_X12_judge 61 rfl) ?_
                refine r_iloadn (pc := 154) hX 3 rfl (dk D_X12_judge 62 rfl) ?_
                refine r_iadd (pc := 155) hX (dk D_X12_judge 63 rfl) ?_
                obtain ⟨x20, hx20, h⟩ := bd_some h
                refine r_iald (pc := 156) hX (R32_w _) hx20 (dk D_X12_judge 64 rfl) (fun qx20 => ?_)
                refine r_aloadn (pc := 157) hX 2 rfl (dk D_X12_judge 65 rfl) ?_
                obtain ⟨x21, hx21, h⟩ := bd_some h
                refine r_getR (pc := 158) hX fl_12_34 rfl hx21 (dk D_X12_judge 66 rfl) ?_
                refine r_iconst (pc := 161) hX (dk D_X12_judge 67 rfl) ?_
                obtain ⟨x22, hx22, h⟩ := bd_some h
                refine r_iald (pc := 162) hX (R32_lit rfl) hx22 (dk D_X12_judge 68 rfl) (fun qx22 => ?_)
                refine r_isub (pc := 163) hX (dk D_X12_judge 69 rfl) ?_
                obtain ⟨x23, ex23, h⟩ := bd_some h
                replace ex23 := Option.some.inj ex23
                have qx23 : R32 x23 := ex23 ▸ (R32_w _)
                rw [ex23]
                refine r_istore (lv' := [(5, 0, x23), (4, 0, x13), (0, 2, a0), (1, 0, a1), (2, 0, a2), (3, 0, a3)]) (pc := 164) hX (by decide) rfl (dk D_X12_judge 70 rfl) ?_
                refine r_goto (pc := 166) hX 233 rfl (dk D_X12_judge 71 rfl) ?_
                replace h := Option.some.inj h
                subst y16
                refine r_sub (lv' := [(0, 2, a0), (1, 0, a1), (5, 0, x23)]) [2, 3, 0] rfl ?_
                exact hj qx23
              · rw [if_neg hc2] at h
                by_cases hc3 : a3 = 3
                · rw [if_pos hc3] at h
                  refine r_table (pc := 80) hX (by rw [hc3]; exact R32_lit rfl) 169 (dk D_X12_judge 46 rfl) (by omega) (by omega) (by rw [hc3]; rfl) rfl ?_
                  refine r_aloadn (pc := 169) hX 2 rfl (dk D_X12_judge 72 rfl) ?_
                  obtain ⟨x24, hx24, h⟩ := bd_some h
                  refine r_getR (pc := 170) hX fl_12_13 rfl hx24 (dk D_X12_judge 73 rfl) ?_
                  refine r_sipush (pc := 173) hX rfl (dk D_X12_judge 74 rfl) ?_
                  refine r_iloadn (pc := 176) hX 3 rfl (dk D_X12_judge 75 rfl) ?_
                  refine r_iadd (pc := 177) hX (dk D_X12_judge 76 rfl) ?_
                  obtain ⟨x25, hx25, h⟩ := bd_some h
                  refine r_iald (pc := 178) hX (R32_w _) hx25 (dk D_X12_judge 77 rfl) (fun qx25 => ?_)
                  refine r_aloadn (pc := 179) hX 2 rfl (dk D_X12_judge 78 rfl) ?_
                  obtain ⟨x26, hx26, h⟩ := bd_some h
                  refine r_getR (pc := 180) hX fl_12_34 rfl hx26 (dk D_X12_judge 79 rfl) ?_
                  refine r_iconst (pc := 183) hX (dk D_X12_judge 80 rfl) ?_
                  obtain ⟨x27, hx27, h⟩ := bd_some h
                  refine r_iald (pc := 184) hX (R32_lit rfl) hx27 (dk D_X12_judge 81 rfl) (fun qx27 => ?_)
                  refine r_isub (pc := 185) hX (dk D_X12_judge 82 rfl) ?_
                  obtain ⟨x28, ex28, h⟩ := bd_some h
                  replace ex28 := Option.some.inj ex28
                  have qx28 : R32 x28 := ex28 ▸ (R32_w _)
                  rw [ex28]
                  refine r_istore (lv' := [(5, 0, x28), (4, 0, x13), (0, 2, a0), (1, 0, a1), (2, 0, a2), (3, 0, a3)]) (pc := 186) hX (by decide) rfl (dk D_X12_judge 83 rfl) ?_
                  refine r_goto (pc := 188) hX 233 rfl (dk D_X12_judge 84 rfl) ?_
                  replace h := Option.some.inj h
                  subst y16
                  refine r_sub (lv' := [(0, 2, a0), (1, 0, a1), (5, 0, x28)]) [2, 3, 0] rfl ?_
                  exact hj qx28
                · rw [if_neg hc3] at h
                  by_cases hc4 : a3 = 4
                  · rw [if_pos hc4] at h
                    refine r_table (pc := 80) hX (by rw [hc4]; exact R32_lit rfl) 191 (dk D_X12_judge 46 rfl) (by omega) (by omega) (by rw [hc4]; rfl) rfl ?_
                    refine r_aloadn (pc := 191) hX 2 rfl (dk D_X12_judge 85 rfl) ?_
                    obtain ⟨x29, hx29, h⟩ := bd_some h
                    refine r_getR (pc := 192) hX fl_12_13 rfl hx29 (dk D_X12_judge 86 rfl) ?_
                    refine r_sipush (pc := 195) hX rfl (dk D_X12_judge 87 rfl) ?_
                    refine r_iloadn (pc := 198) hX 3 rfl (dk D_X12_judge 88 rfl) ?_
                    refine r_iadd (pc := 199) hX (dk D_X12_judge 89 rfl) ?_
                    obtain ⟨x30, hx30, h⟩ := bd_some h
                    refine r_iald (pc := 200) hX (R32_w _) hx30 (dk D_X12_judge 90 rfl) (fun qx30 => ?_)
                    refine r_istore (lv' := [(5, 0, x30), (4, 0, x13), (0, 2, a0), (1, 0, a1), (2, 0, a2), (3, 0, a3)]) (pc := 201) hX (by decide) rfl (dk D_X12_judge 91 rfl) ?_
                    refine r_goto (pc := 203) hX 233 rfl (dk D_X12_judge 92 rfl) ?_
                    replace h := Option.some.inj h
                    subst y16
                    refine r_sub (lv' := [(0, 2, a0), (1, 0, a1), (5, 0, x30)]) [2, 3, 0] rfl ?_
                    exact hj qx30
                  · rw [if_neg hc4] at h
                    by_cases hc5 : a3 = 5
                    · rw [if_pos hc5] at h
                      refine r_table (pc := 80) hX (by rw [hc5]; exact R32_lit rfl) 206 (dk D_X12_judge 46 rfl) (by omega) (by omega) (by rw [hc5]; rfl) rfl ?_
                      refine r_aloadn (pc := 206) hX 2 rfl (dk D_X12_judge 93 rfl) ?_
                      obtain ⟨x31, hx31, h⟩ := bd_some h
                      refine r_getR (pc := 207) hX fl_12_13 rfl hx31 (dk D_X12_judge 94 rfl) ?_
                      refine r_sipush (pc := 210) hX rfl (dk D_X12_judge 95 rfl) ?_
                      refine r_iloadn (pc := 213) hX 3 rfl (dk D_X12_judge 96 rfl) ?_
                      refine r_iadd (pc := 214) hX (dk D_X12_judge 97 rfl) ?_
                      obtain ⟨x32, hx32, h⟩ := bd_some h
                      refine r_iald (pc := 215) hX (R32_w _) hx32 (dk D_X12_judge 98 rfl) (fun qx32 => ?_)
                      refine r_istore (lv' := [(5, 0, x32), (4, 0, x13), (0, 2, a0), (1, 0, a1), (2, 0, a2), (3, 0, a3)]) (pc := 216) hX (by decide) rfl (dk D_X12_judge 99 rfl) ?_
                      refine r_goto (pc := 218) hX 233 rfl (dk D_X12_judge 100 rfl) ?_
                      replace h := Option.some.inj h
                      subst y16
                      refine r_sub (lv' := [(0, 2, a0), (1, 0, a1), (5, 0, x32)]) [2, 3, 0] rfl ?_
                      exact hj qx32
                    · rw [if_neg hc5] at h
                      refine r_tableD (pc := 80) hX q_a3 221 (dk D_X12_judge 46 rfl) (by omega) rfl ?_
                      refine r_aloadn (pc := 221) hX 2 rfl (dk D_X12_judge 101 rfl) ?_
                      obtain ⟨x33, hx33, h⟩ := bd_some h
                      refine r_getR (pc := 222) hX fl_12_13 rfl hx33 (dk D_X12_judge 102 rfl) ?_
                      refine r_sipush (pc := 225) hX rfl (dk D_X12_judge 103 rfl) ?_
                      refine r_iloadn (pc := 228) hX 3 rfl (dk D_X12_judge 104 rfl) ?_
                      refine r_iadd (pc := 229) hX (dk D_X12_judge 105 rfl) ?_
                      obtain ⟨x34, hx34, h⟩ := bd_some h
                      refine r_iald (pc := 230) hX (R32_w _) hx34 (dk D_X12_judge 106 rfl) (fun qx34 => ?_)
                      refine r_istore (lv' := [(5, 0, x34), (4, 0, x13), (0, 2, a0), (1, 0, a1), (2, 0, a2), (3, 0, a3)]) (pc := 231) hX (by decide) rfl (dk D_X12_judge 107 rfl) ?_
                      replace h := Option.some.inj h
                      subst y16
                      refine r_sub (lv' := [(0, 2, a0), (1, 0, a1), (5, 0, x34)]) [2, 3, 0] rfl ?_
                      exact hj qx34
        · rw [if_pos hc] at h
          refine r_bipush (pc := 50) hX rfl (dk D_X12_judge 27 rfl) ?_
          cases h
          exact r_ireturn (pc := 52) hX (R32_lit rfl) hM ⟨by decide, by decide⟩ (dk D_X12_judge 28 rfl)
      · rw [if_pos hc] at h
        refine r_bipush (pc := 37) hX rfl (dk D_X12_judge 19 rfl) ?_
        cases h
        exact r_ireturn (pc := 39) hX (R32_lit rfl) hM ⟨by decide, by decide⟩ (dk D_X12_judge 20 rfl)
