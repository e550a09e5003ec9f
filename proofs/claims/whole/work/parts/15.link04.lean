/-! THE MACHINE DOES AS THE FUNCTIONS SAY, part 4 -/
set_option maxRecDepth 100000 in
set_option maxHeartbeats 4000000 in
theorem L_M_perform {E : EX} {l : Launch} {a0 a1 a2 res : Int} {μ μ' : Mem} (q_a1 : R32 a1) (q_a2 : R32 a2) (h : M_perform a0 a1 a2 μ = some (res, μ')) : Ok E l 6 yX12_perform (.code yX12_perform cX12_perform 3 (some .int)) 0 0 [(2, a0), (0, a1), (0, a2)] μ (some (0, res)) μ' := by
  refine Ok.of (own := "TollsBackModel") [(0, 2, a0), (1, 0, a1), (2, 0, a2)] (by decide +kernel) rfl (Nat.le_of_ble_eq_true rfl) rfl ?_
  intro X hL hRm hin hX hM
  unfold M_perform at h
  subst hL
  refine r_aloadn (pc := 0) hX 0 rfl (dk D_X12_perform 0 rfl) ?_
  refine r_iconst (pc := 1) hX (dk D_X12_perform 1 rfl) ?_
  obtain ⟨μ1, hμ1, h⟩ := bd_some h
  refine r_putI (pc := 2) hX fl_12_1 rfl rfl (R32_lit rfl) trivial hμ1 (dk D_X12_perform 2 rfl) ?_
  refine r_aloadn (pc := 5) hX 0 rfl (dk D_X12_perform 3 rfl) ?_
  refine r_iloadn (pc := 6) hX 1 rfl (dk D_X12_perform 4 rfl) ?_
  obtain ⟨_, hi, h⟩ := bd_some h
  obtain ⟨x2, μ3, hx2, h⟩ := bd2_some h
  refine r_invV0 (As := [(0, a1)]) (pc := 7) hX ml_12_230 (L_M_isOne q_a1 hx2) (isk_u hi) (Rm_of hRm (by decide) ⟨by decide, by decide⟩) (by decide) rfl (Nat.le_of_ble_eq_true rfl) rfl (dk D_X12_perform 5 rfl) (fun qx2 => ?_)
  refine r_if_eq (pc := 10) hX qx2 25 rfl (dk D_X12_perform 6 rfl) (fun hc => ?_) (fun hc => ?_)
  · rw [if_pos hc] at h
    refine r_bipush (pc := 25) hX rfl (dk D_X12_perform 13 rfl) ?_
    cases h
    exact r_ireturn (pc := 27) hX (R32_lit rfl) hM ⟨by decide, by decide⟩ (dk D_X12_perform 14 rfl)
  · rw [if_neg hc] at h
    refine r_iloadn (pc := 13) hX 2 rfl (dk D_X12_perform 7 rfl) ?_
    refine r_i2l (pc := 14) hX q_a2 (dk D_X12_perform 8 rfl) ?_
    refine r_lconst (x := 0) (pc := 15) hX (by decide) (dk D_X12_perform 9 rfl) ?_
    refine r_ldc2 (pc := 16) hX cn_12_274 (dk D_X12_perform 10 rfl) ?_
    obtain ⟨x4, μ5, hx4, h⟩ := bd2_some h
    refine r_invS0 (As := [(1, a2), (1, 0), (1, 3)]) (pc := 19) hX ml_12_178 (L_M_within (R64_of q_a2) (R64_lit rfl) (R64_lit rfl) hx4) (Rm_of hRm (by decide) ⟨by decide, by decide⟩) (by decide) rfl (Nat.le_of_ble_eq_true rfl) rfl (dk D_X12_perform 11 rfl) (fun qx4 => ?_)
    refine r_if_ne (pc := 22) hX qx4 28 rfl (dk D_X12_perform 12 rfl) (fun hc => ?_) (fun hc => ?_)
    · rw [if_neg hc] at h
      refine r_aloadn (pc := 28) hX 0 rfl (dk D_X12_perform 15 rfl) ?_
      obtain ⟨x6, hx6, h⟩ := bd_some h
      refine r_getR (pc := 29) hX fl_12_102 rfl hx6 (dk D_X12_perform 16 rfl) ?_
      refine r_iloadn (pc := 32) hX 2 rfl (dk D_X12_perform 17 rfl) ?_
      obtain ⟨x7, hx7, h⟩ := bd_some h
      refine r_iald (pc := 33) hX q_a2 hx7 (dk D_X12_perform 18 rfl) (fun qx7 => ?_)
      refine r_iconst (pc := 34) hX (dk D_X12_perform 19 rfl) ?_
      refine r_icmp_ne (pc := 35) hX qx7 (R32_lit rfl) 41 rfl (dk D_X12_perform 20 rfl) (fun hc => ?_) (fun hc => ?_)
      · rw [if_neg hc] at h
        refine r_aloadn (pc := 41) hX 0 rfl (dk D_X12_perform 23 rfl) ?_
        refine r_iloadn (pc := 42) hX 1 rfl (dk D_X12_perform 24 rfl) ?_
        refine r_iloadn (pc := 43) hX 2 rfl (dk D_X12_perform 25 rfl) ?_
        obtain ⟨_, hi, h⟩ := bd_some h
        obtain ⟨x8, μ9, hx8, h⟩ := bd2_some h
        refine r_invV0 (As := [(0, a1), (0, a2)]) (pc := 44) hX ml_12_281 (L_M_goesAll q_a1 q_a2 hx8) (isk_u hi) (Rm_of hRm (by decide) ⟨by decide, by decide⟩) (by decide) rfl (Nat.le_of_ble_eq_true rfl) rfl (dk D_X12_perform 26 rfl) (fun qx8 => ?_)
        cases h
        exact r_ireturn (pc := 47) hX qx8 hM ⟨by decide, by decide⟩ (dk D_X12_perform 27 rfl)
      · rw [if_pos hc] at h
        refine r_bipush (pc := 38) hX rfl (dk D_X12_perform 21 rfl) ?_
        cases h
        exact r_ireturn (pc := 40) hX (R32_lit rfl) hM ⟨by decide, by decide⟩ (dk D_X12_perform 22 rfl)
    · rw [if_pos hc] at h
      refine r_bipush (pc := 25) hX rfl (dk D_X12_perform 13 rfl) ?_
      cases h
      exact r_ireturn (pc := 27) hX (R32_lit rfl) hM ⟨by decide, by decide⟩ (dk D_X12_perform 14 rfl)
set_option maxRecDepth 100000 in
set_option maxHeartbeats 4000000 in
theorem L_M_treasury_L84 {E : EX} {X : CX} {res : Int} {μe : Mem} (hX : Good E X cX12_treasury 5 "TollsBackModel") (hM : GoodM E X (some .int) (some (0, res)) μe 0 0) (hRm : cR X = rmOf 2 0 0) {k153 : Int → Int → Int → Int → Mem → Option (Int × Mem)} (hk153 : ∀ (u0 u1 u2 u3 : Int) (μ : Mem), R32 u1 → R32 u2 → R32 u3 → k153 u0 u1 u2 u3 μ = some (res, μe) → At E X cX12_treasury 5 "TollsBackModel" (0, 0) 153 [(0, 2, u0), (1, 0, u1), (2, 0, u2), (3, 0, u3)] [] μ) : ∀ (n : Nat) (v0 v1 v2 v3 v4 : Int) (μ : Mem) (q_v1 : R32 v1) (q_v2 : R32 v2) (q_v3 : R32 v3) (q_v4 : R32 v4) (h : M_treasury_L84 k153 n v0 v1 v2 v3 v4 μ = some (res, μe)), At E X cX12_treasury 5 "TollsBackModel" (0, 0) 84 [(0, 2, v0), (1, 0, v1), (2, 0, v2), (3, 0, v3), (4, 0, v4)] [] μ := by
  intro n
  induction n with
  | zero =>
    intro v0 v1 v2 v3 v4 μ q_v1 q_v2 q_v3 q_v4 h
    have h : (none : Option (Int × Mem)) = some (res, μe) := h
    cases h
  | succ n ih =>
    intro v0 v1 v2 v3 v4 μ q_v1 q_v2 q_v3 q_v4 h
    rw [M_treasury_L84.eq_2] at h
    refine r_iload (pc := 84) hX 4 rfl (dk D_X12_treasury 51 rfl) ?_
    refine r_aloadn (pc := 86) hX 0 rfl (dk D_X12_treasury 52 rfl) ?_
    obtain ⟨x1, hx1, h⟩ := bd_some h
    refine r_getR (pc := 87) hX fl_12_13 rfl hx1 (dk D_X12_treasury 53 rfl) ?_
    refine r_sipush (pc := 90) hX rfl (dk D_X12_treasury 54 rfl) ?_
    refine r_iloadn (pc := 93) hX 3 rfl (dk D_X12_treasury 55 rfl) ?_
    refine r_iadd (pc := 94) hX (dk D_X12_treasury 56 rfl) ?_
    obtain ⟨x2, hx2, h⟩ := bd_some h
    refine r_iald (pc := 95) hX (R32_w _) hx2 (dk D_X12_treasury 57 rfl) (fun qx2 => ?_)
    refine r_icmp_ge (pc := 96) hX q_v4 qx2 153 rfl (dk D_X12_treasury 58 rfl) (fun hc => ?_) (fun hc => ?_)
    · rw [if_neg hc] at h
      refine r_sub (lv' := [(0, 2, v0), (1, 0, v1), (2, 0, v2), (3, 0, v3)]) [0, 1, 2, 3] rfl ?_
      exact hk153 v0 v1 v2 v3 μ q_v1 q_v2 q_v3 h
    · rw [if_pos hc] at h
      refine r_iloadn (pc := 99) hX 1 rfl (dk D_X12_treasury 59 rfl) ?_
      refine r_iconst (pc := 100) hX (dk D_X12_treasury 60 rfl) ?_
      refine r_icmp_ne (pc := 101) hX q_v1 (R32_lit rfl) 153 rfl (dk D_X12_treasury 61 rfl) (fun hc => ?_) (fun hc => ?_)
      · rw [if_neg hc] at h
        refine r_sub (lv' := [(0, 2, v0), (1, 0, v1), (2, 0, v2), (3, 0, v3)]) [0, 1, 2, 3] rfl ?_
        exact hk153 v0 v1 v2 v3 μ q_v1 q_v2 q_v3 h
      · rw [if_pos hc] at h
        refine r_iloadn (pc := 104) hX 2 rfl (dk D_X12_treasury 62 rfl) ?_
        refine r_aloadn (pc := 105) hX 0 rfl (dk D_X12_treasury 63 rfl) ?_
        obtain ⟨x3, hx3, h⟩ := bd_some h
        refine r_getR (pc := 106) hX fl_12_13 rfl hx3 (dk D_X12_treasury 64 rfl) ?_
        refine r_sipush (pc := 109) hX rfl (dk D_X12_treasury 65 rfl) ?_
        refine r_iloadn (pc := 112) hX 3 rfl (dk D_X12_treasury 66 rfl) ?_
        refine r_iadd (pc := 113) hX (dk D_X12_treasury 67 rfl) ?_
        obtain ⟨x4, hx4, h⟩ := bd_some h
        refine r_iald (pc := 114) hX (R32_w _) hx4 (dk D_X12_treasury 68 rfl) (fun qx4 => ?_)
        refine r_aloadn (pc := 115) hX 0 rfl (dk D_X12_treasury 69 rfl) ?_
        obtain ⟨x5, hx5, h⟩ := bd_some h
        refine r_getR (pc := 116) hX fl_12_13 rfl hx5 (dk D_X12_treasury 70 rfl) ?_
        refine r_sipush (pc := 119) hX rfl (dk D_X12_treasury 71 rfl) ?_
        refine r_iloadn (pc := 122) hX 3 rfl (dk D_X12_treasury 72 rfl) ?_
        refine r_iload (pc := 123) hX 4 rfl (dk D_X12_treasury 73 rfl) ?_
        obtain ⟨x6, μ7, hx6, h⟩ := bd2_some h
        refine r_invS0 (As := [(0, v3), (0, v4)]) (pc := 125) hX ml_12_233 (L_M_slipAt q_v3 q_v4 hx6) (Rm_of hRm (by decide) ⟨by decide, by decide⟩) (by decide) rfl (Nat.le_of_ble_eq_true rfl) rfl (dk D_X12_treasury 74 rfl) (fun qx6 => ?_)
        refine r_iadd (pc := 128) hX (dk D_X12_treasury 75 rfl) ?_
        obtain ⟨x8, hx8, h⟩ := bd_some h
        refine r_iald (pc := 129) hX (R32_w _) hx8 (dk D_X12_treasury 76 rfl) (fun qx8 => ?_)
        refine r_isub (pc := 130) hX (dk D_X12_treasury 77 rfl) ?_
        refine r_aloadn (pc := 131) hX 0 rfl (dk D_X12_treasury 78 rfl) ?_
        obtain ⟨x9, hx9, h⟩ := bd_some h
        refine r_getR (pc := 132) hX fl_12_13 rfl hx9 (dk D_X12_treasury 79 rfl) ?_
        refine r_iconst (pc := 135) hX (dk D_X12_treasury 80 rfl) ?_
        obtain ⟨x10, hx10, h⟩ := bd_some h
        refine r_iald (pc := 136) hX (R32_lit rfl) hx10 (dk D_X12_treasury 81 rfl) (fun qx10 => ?_)
        refine r_icmp_le (pc := 137) hX (R32_w _) qx10 144 rfl (dk D_X12_treasury 82 rfl) (fun hc => ?_) (fun hc => ?_)
        · rw [if_neg hc] at h
          refine r_iconst (pc := 144) hX (dk D_X12_treasury 85 rfl) ?_
          refine r_iadd (pc := 145) hX (dk D_X12_treasury 86 rfl) ?_
          obtain ⟨x11, ex11, h⟩ := bd_some h
          replace ex11 := Option.some.inj ex11
          have qx11 : R32 x11 := ex11 ▸ (R32_w _)
          rw [ex11]
          refine r_istoren (lv' := [(2, 0, x11), (0, 2, v0), (1, 0, v1), (3, 0, v3), (4, 0, v4)]) (pc := 146) hX (by decide) rfl (dk D_X12_treasury 87 rfl) ?_
          refine r_iinc (lv' := [(4, 0, (w32 (v4 + 1))), (2, 0, x11), (0, 2, v0), (1, 0, v1), (3, 0, v3)]) (pc := 147) hX 4 rfl (by decide) rfl (dk D_X12_treasury 88 rfl) ?_
          refine r_goto (pc := 150) hX 84 rfl (dk D_X12_treasury 89 rfl) ?_
          refine r_sub (lv' := [(0, 2, v0), (1, 0, v1), (2, 0, x11), (3, 0, v3), (4, 0, (w32 (v4 + 1)))]) [2, 3, 1, 4, 0] rfl ?_
          exact ih v0 v1 x11 v3 (w32 (v4 + 1)) μ7 q_v1 qx11 q_v3 (R32_w _) h
        · rw [if_pos hc] at h
          refine r_iconst (pc := 140) hX (dk D_X12_treasury 83 rfl) ?_
          refine r_goto (pc := 141) hX 145 rfl (dk D_X12_treasury 84 rfl) ?_
          refine r_iadd (pc := 145) hX (dk D_X12_treasury 86 rfl) ?_
          obtain ⟨x12, ex12, h⟩ := bd_some h
          replace ex12 := Option.some.inj ex12
          have qx12 : R32 x12 := ex12 ▸ (R32_w _)
          rw [ex12]
          refine r_istoren (lv' := [(2, 0, x12), (0, 2, v0), (1, 0, v1), (3, 0, v3), (4, 0, v4)]) (pc := 146) hX (by decide) rfl (dk D_X12_treasury 87 rfl) ?_
          refine r_iinc (lv' := [(4, 0, (w32 (v4 + 1))), (2, 0, x12), (0, 2, v0), (1, 0, v1), (3, 0, v3)]) (pc := 147) hX 4 rfl (by decide) rfl (dk D_X12_treasury 88 rfl) ?_
          refine r_goto (pc := 150) hX 84 rfl (dk D_X12_treasury 89 rfl) ?_
          refine r_sub (lv' := [(0, 2, v0), (1, 0, v1), (2, 0, x12), (3, 0, v3), (4, 0, (w32 (v4 + 1)))]) [2, 3, 1, 4, 0] rfl ?_
          exact ih v0 v1 x12 v3 (w32 (v4 + 1)) μ7 q_v1 qx12 q_v3 (R32_w _) h
set_option maxRecDepth 100000 in
set_option maxHeartbeats 4000000 in
theorem L_M_treasury_L23 {E : EX} {X : CX} {res : Int} {μe : Mem} (hX : Good E X cX12_treasury 5 "TollsBackModel") (hM : GoodM E X (some .int) (some (0, res)) μe 0 0) (hRm : cR X = rmOf 2 0 0) : ∀ (n : Nat) (v0 v1 v2 v3 : Int) (μ : Mem) (q_v1 : R32 v1) (q_v2 : R32 v2) (q_v3 : R32 v3) (h : M_treasury_L23 n v0 v1 v2 v3 μ = some (res, μe)), At E X cX12_treasury 5 "TollsBackModel" (0, 0) 23 [(0, 2, v0), (1, 0, v1), (2, 0, v2), (3, 0, v3)] [] μ := by
  intro n
  induction n with
  | zero =>
    intro v0 v1 v2 v3 μ q_v1 q_v2 q_v3 h
    have h : (none : Option (Int × Mem)) = some (res, μe) := h
    cases h
  | succ n ih =>
    intro v0 v1 v2 v3 μ q_v1 q_v2 q_v3 h
    rw [M_treasury_L23.eq_2] at h
    refine r_iloadn (pc := 23) hX 3 rfl (dk D_X12_treasury 15 rfl) ?_
    refine r_aloadn (pc := 24) hX 0 rfl (dk D_X12_treasury 16 rfl) ?_
    obtain ⟨x1, hx1, h⟩ := bd_some h
    refine r_getR (pc := 25) hX fl_12_13 rfl hx1 (dk D_X12_treasury 17 rfl) ?_
    refine r_sipush (pc := 28) hX rfl (dk D_X12_treasury 18 rfl) ?_
    obtain ⟨x2, hx2, h⟩ := bd_some h
    refine r_iald (pc := 31) hX (R32_lit rfl) hx2 (dk D_X12_treasury 19 rfl) (fun qx2 => ?_)
    refine r_icmp_ge (pc := 32) hX q_v3 qx2 159 rfl (dk D_X12_treasury 20 rfl) (fun hc => ?_) (fun hc => ?_)
    · rw [if_neg hc] at h
      refine r_iloadn (pc := 159) hX 2 rfl (dk D_X12_treasury 92 rfl) ?_
      cases h
      exact r_ireturn (pc := 160) hX q_v2 hM ⟨by decide, by decide⟩ (dk D_X12_treasury 93 rfl)
    · rw [if_pos hc] at h
      refine r_iloadn (pc := 35) hX 1 rfl (dk D_X12_treasury 21 rfl) ?_
      refine r_iconst (pc := 36) hX (dk D_X12_treasury 22 rfl) ?_
      refine r_icmp_ge (pc := 37) hX q_v1 (R32_lit rfl) 81 rfl (dk D_X12_treasury 23 rfl) (fun hc => ?_) (fun hc => ?_)
      · rw [if_neg hc] at h
        refine r_iconst (pc := 81) hX (dk D_X12_treasury 49 rfl) ?_
        refine r_istore (lv' := [(4, 0, 0), (0, 2, v0), (1, 0, v1), (2, 0, v2), (3, 0, v3)]) (pc := 82) hX (by decide) rfl (dk D_X12_treasury 50 rfl) ?_
        refine r_sub (lv' := [(0, 2, v0), (1, 0, v1), (2, 0, v2), (3, 0, v3), (4, 0, 0)]) [1, 2, 3, 4, 0] rfl ?_
        refine L_M_treasury_L84 hX hM hRm ?_ FU v0 v1 v2 v3 0 μ q_v1 q_v2 q_v3 (R32_lit rfl) h
        intro x3 x4 x5 x6 μ7 qx4 qx5 qx6 h
        refine r_iinc (lv' := [(3, 0, (w32 (x6 + 1))), (0, 2, x3), (1, 0, x4), (2, 0, x5)]) (pc := 153) hX 3 rfl (by decide) rfl (dk D_X12_treasury 90 rfl) ?_
        refine r_goto (pc := 156) hX 23 rfl (dk D_X12_treasury 91 rfl) ?_
        refine r_sub (lv' := [(0, 2, x3), (1, 0, x4), (2, 0, x5), (3, 0, (w32 (x6 + 1)))]) [1, 2, 3, 0] rfl ?_
        exact ih x3 x4 x5 (w32 (x6 + 1)) μ7 qx4 qx5 (R32_w _) h
      · rw [if_pos hc] at h
        refine r_iloadn (pc := 40) hX 2 rfl (dk D_X12_treasury 24 rfl) ?_
        refine r_iloadn (pc := 41) hX 1 rfl (dk D_X12_treasury 25 rfl) ?_
        refine r_if_ne (pc := 42) hX q_v1 69 rfl (dk D_X12_treasury 26 rfl) (fun hc => ?_) (fun hc => ?_)
        · rw [if_neg hc] at h
          refine r_aloadn (pc := 69) hX 0 rfl (dk D_X12_treasury 41 rfl) ?_
          obtain ⟨x8, hx8, h⟩ := bd_some h
          refine r_getR (pc := 70) hX fl_12_13 rfl hx8 (dk D_X12_treasury 42 rfl) ?_
          refine r_sipush (pc := 73) hX rfl (dk D_X12_treasury 43 rfl) ?_
          refine r_iloadn (pc := 76) hX 3 rfl (dk D_X12_treasury 44 rfl) ?_
          refine r_iadd (pc := 77) hX (dk D_X12_treasury 45 rfl) ?_
          obtain ⟨x9, hx9, h⟩ := bd_some h
          refine r_iald (pc := 78) hX (R32_w _) hx9 (dk D_X12_treasury 46 rfl) (fun qx9 => ?_)
          refine r_iadd (pc := 79) hX (dk D_X12_treasury 47 rfl) ?_
          obtain ⟨x10, ex10, h⟩ := bd_some h
          replace ex10 := Option.some.inj ex10
          have qx10 : R32 x10 := ex10 ▸ (R32_w _)
          rw [ex10]
          refine r_istoren (lv' := [(2, 0, x10), (0, 2, v0), (1, 0, v1), (3, 0, v3)]) (pc := 80) hX (by decide) rfl (dk D_X12_treasury 48 rfl) ?_
          refine r_iconst (pc := 81) hX (dk D_X12_treasury 49 rfl) ?_
          refine r_istore (lv' := [(4, 0, 0), (2, 0, x10), (0, 2, v0), (1, 0, v1), (3, 0, v3)]) (pc := 82) hX (by decide) rfl (dk D_X12_treasury 50 rfl) ?_
          refine r_sub (lv' := [(0, 2, v0), (1, 0, v1), (2, 0, x10), (3, 0, v3), (4, 0, 0)]) [2, 3, 1, 4, 0] rfl ?_
          refine L_M_treasury_L84 hX hM hRm ?_ FU v0 v1 x10 v3 0 μ q_v1 qx10 q_v3 (R32_lit rfl) h
          intro x11 x12 x13 x14 μ15 qx12 qx13 qx14 h
          refine r_iinc (lv' := [(3, 0, (w32 (x14 + 1))), (0, 2, x11), (1, 0, x12), (2, 0, x13)]) (pc := 153) hX 3 rfl (by decide) rfl (dk D_X12_treasury 90 rfl) ?_
          refine r_goto (pc := 156) hX 23 rfl (dk D_X12_treasury 91 rfl) ?_
          refine r_sub (lv' := [(0, 2, x11), (1, 0, x12), (2, 0, x13), (3, 0, (w32 (x14 + 1)))]) [1, 2, 3, 0] rfl ?_
          exact ih x11 x12 x13 (w32 (x14 + 1)) μ15 qx12 qx13 (R32_w _) h
        · rw [if_pos hc] at h
          refine r_aloadn (pc := 45) hX 0 rfl (dk D_X12_treasury 27 rfl) ?_
          obtain ⟨x16, hx16, h⟩ := bd_some h
          refine r_getR (pc := 46) hX fl_12_13 rfl hx16 (dk D_X12_treasury 28 rfl) ?_
          refine r_sipush (pc := 49) hX rfl (dk D_X12_treasury 29 rfl) ?_
          refine r_iloadn (pc := 52) hX 3 rfl (dk D_X12_treasury 30 rfl) ?_
          refine r_iadd (pc := 53) hX (dk D_X12_treasury 31 rfl) ?_
          obtain ⟨x17, hx17, h⟩ := bd_some h
          refine r_iald (pc := 54) hX (R32_w _) hx17 (dk D_X12_treasury 32 rfl) (fun qx17 => ?_)
          refine r_aloadn (pc := 55) hX 0 rfl (dk D_X12_treasury 33 rfl) ?_
          obtain ⟨x18, hx18, h⟩ := bd_some h
          refine r_getR (pc := 56) hX fl_12_13 rfl hx18 (dk D_X12_treasury 34 rfl) ?_
          refine r_sipush (pc := 59) hX rfl (dk D_X12_treasury 35 rfl) ?_
          refine r_iloadn (pc := 62) hX 3 rfl (dk D_X12_treasury 36 rfl) ?_
          refine r_iadd (pc := 63) hX (dk D_X12_treasury 37 rfl) ?_
          obtain ⟨x19, hx19, h⟩ := bd_some h
          refine r_iald (pc := 64) hX (R32_w _) hx19 (dk D_X12_treasury 38 rfl) (fun qx19 => ?_)
          refine r_isub (pc := 65) hX (dk D_X12_treasury 39 rfl) ?_
          refine r_goto (pc := 66) hX 79 rfl (dk D_X12_treasury 40 rfl) ?_
          refine r_iadd (pc := 79) hX (dk D_X12_treasury 47 rfl) ?_
          obtain ⟨x20, ex20, h⟩ := bd_some h
          replace ex20 := Option.some.inj ex20
          have qx20 : R32 x20 := ex20 ▸ (R32_w _)
          rw [ex20]
          refine r_istoren (lv' := [(2, 0, x20), (0, 2, v0), (1, 0, v1), (3, 0, v3)]) (pc := 80) hX (by decide) rfl (dk D_X12_treasury 48 rfl) ?_
          refine r_iconst (pc := 81) hX (dk D_X12_treasury 49 rfl) ?_
          refine r_istore (lv' := [(4, 0, 0), (2, 0, x20), (0, 2, v0), (1, 0, v1), (3, 0, v3)]) (pc := 82) hX (by decide) rfl (dk D_X12_treasury 50 rfl) ?_
          refine r_sub (lv' := [(0, 2, v0), (1, 0, v1), (2, 0, x20), (3, 0, v3), (4, 0, 0)]) [2, 3, 1, 4, 0] rfl ?_
          refine L_M_treasury_L84 hX hM hRm ?_ FU v0 v1 x20 v3 0 μ q_v1 qx20 q_v3 (R32_lit rfl) h
          intro x21 x22 x23 x24 μ25 qx22 qx23 qx24 h
          refine r_iinc (lv' := [(3, 0, (w32 (x24 + 1))), (0, 2, x21), (1, 0, x22), (2, 0, x23)]) (pc := 153) hX 3 rfl (by decide) rfl (dk D_X12_treasury 90 rfl) ?_
          refine r_goto (pc := 156) hX 23 rfl (dk D_X12_treasury 91 rfl) ?_
          refine r_sub (lv' := [(0, 2, x21), (1, 0, x22), (2, 0, x23), (3, 0, (w32 (x24 + 1)))]) [1, 2, 3, 0] rfl ?_
          exact ih x21 x22 x23 (w32 (x24 + 1)) μ25 qx22 qx23 (R32_w _) h
set_option maxRecDepth 100000 in
set_option maxHeartbeats 4000000 in
theorem L_M_treasury {E : EX} {l : Launch} {a0 a1 res : Int} {μ μ' : Mem} (q_a1 : R32 a1) (h : M_treasury a0 a1 μ = some (res, μ')) : Ok E l 2 yX12_treasury (.code yX12_treasury cX12_treasury 5 (some .int)) 0 0 [(2, a0), (0, a1)] μ (some (0, res)) μ' := by
  refine Ok.of (own := "TollsBackModel") [(0, 2, a0), (1, 0, a1)] (by decide +kernel) rfl (Nat.le_of_ble_eq_true rfl) rfl ?_
  intro X hL hRm hin hX hM
  unfold M_treasury at h
  subst hL
  refine r_aloadn (pc := 0) hX 0 rfl (dk D_X12_treasury 0 rfl) ?_
  refine r_iconst (pc := 1) hX (dk D_X12_treasury 1 rfl) ?_
  obtain ⟨μ1, hμ1, h⟩ := bd_some h
  refine r_putI (pc := 2) hX fl_12_1 rfl rfl (R32_lit rfl) trivial hμ1 (dk D_X12_treasury 2 rfl) ?_
  refine r_iloadn (pc := 5) hX 1 rfl (dk D_X12_treasury 3 rfl) ?_
  refine r_i2l (pc := 6) hX q_a1 (dk D_X12_treasury 4 rfl) ?_
  refine r_lconst (x := 0) (pc := 7) hX (by decide) (dk D_X12_treasury 5 rfl) ?_
  refine r_ldc2 (pc := 8) hX cn_12_287 (dk D_X12_treasury 6 rfl) ?_
  obtain ⟨x2, μ3, hx2, h⟩ := bd2_some h
  refine r_invS0 (As := [(1, a1), (1, 0), (1, 2)]) (pc := 11) hX ml_12_178 (L_M_within (R64_of q_a1) (R64_lit rfl) (R64_lit rfl) hx2) (Rm_of hRm (by decide) ⟨by decide, by decide⟩) (by decide) rfl (Nat.le_of_ble_eq_true rfl) rfl (dk D_X12_treasury 7 rfl) (fun qx2 => ?_)
  refine r_if_ne (pc := 14) hX qx2 19 rfl (dk D_X12_treasury 8 rfl) (fun hc => ?_) (fun hc => ?_)
  · rw [if_neg hc] at h
    refine r_iconst (pc := 19) hX (dk D_X12_treasury 11 rfl) ?_
    refine r_istoren (lv' := [(2, 0, 0), (0, 2, a0), (1, 0, a1)]) (pc := 20) hX (by decide) rfl (dk D_X12_treasury 12 rfl) ?_
    refine r_iconst (pc := 21) hX (dk D_X12_treasury 13 rfl) ?_
    refine r_istoren (lv' := [(3, 0, 0), (2, 0, 0), (0, 2, a0), (1, 0, a1)]) (pc := 22) hX (by decide) rfl (dk D_X12_treasury 14 rfl) ?_
    refine r_sub (lv' := [(0, 2, a0), (1, 0, a1), (2, 0, 0), (3, 0, 0)]) [2, 3, 1, 0] rfl ?_
    refine L_M_treasury_L23 hX hM hRm FU a0 a1 0 0 μ3 q_a1 (R32_lit rfl) (R32_lit rfl) h
  · rw [if_pos hc] at h
    refine r_iconst (pc := 17) hX (dk D_X12_treasury 9 rfl) ?_
    cases h
    exact r_ireturn (pc := 18) hX (R32_lit rfl) hM ⟨by decide, by decide⟩ (dk D_X12_treasury 10 rfl)
set_option maxRecDepth 100000 in
set_option maxHeartbeats 4000000 in
theorem L_M_owes_L31 {E : EX} {X : CX} {res : Int} {μe : Mem} (hX : Good E X cX12_owes 5 "TollsBackModel") (hM : GoodM E X (some .int) (some (0, res)) μe 0 0) (hRm : cR X = rmOf 3 0 0) {k63 : Int → Int → Int → Int → Mem → Option (Int × Mem)} (hk63 : ∀ (u0 u1 u2 u3 : Int) (μ : Mem), R32 u1 → R32 u2 → R32 u3 → k63 u0 u1 u2 u3 μ = some (res, μe) → At E X cX12_owes 5 "TollsBackModel" (0, 0) 63 [(0, 2, u0), (1, 0, u1), (2, 0, u2), (3, 0, u3)] [] μ) : ∀ (n : Nat) (v0 v1 v2 v3 v4 : Int) (μ : Mem) (q_v1 : R32 v1) (q_v2 : R32 v2) (q_v3 : R32 v3) (q_v4 : R32 v4) (h : M_owes_L31 k63 n v0 v1 v2 v3 v4 μ = some (res, μe)), At E X cX12_owes 5 "TollsBackModel" (0, 0) 31 [(0, 2, v0), (1, 0, v1), (2, 0, v2), (3, 0, v3), (4, 0, v4)] [] μ := by
  intro n
  induction n with
  | zero =>
    intro v0 v1 v2 v3 v4 μ q_v1 q_v2 q_v3 q_v4 h
    have h : (none : Option (Int × Mem)) = some (res, μe) := h
    cases h
  | succ n ih =>
    intro v0 v1 v2 v3 v4 μ q_v1 q_v2 q_v3 q_v4 h
    rw [M_owes_L31.eq_2] at h
    refine r_iload (pc := 31) hX 4 rfl (dk D_X12_owes 19 rfl) ?_
    refine r_aloadn (pc := 33) hX 0 rfl (dk D_X12_owes 20 rfl) ?_
    obtain ⟨x1, hx1, h⟩ := bd_some h
    refine r_getR (pc := 34) hX fl_12_13 rfl hx1 (dk D_X12_owes 21 rfl) ?_
    refine r_sipush (pc := 37) hX rfl (dk D_X12_owes 22 rfl) ?_
    refine r_iloadn (pc := 40) hX 3 rfl (dk D_X12_owes 23 rfl) ?_
    refine r_iadd (pc := 41) hX (dk D_X12_owes 24 rfl) ?_
    obtain ⟨x2, hx2, h⟩ := bd_some h
    refine r_iald (pc := 42) hX (R32_w _) hx2 (dk D_X12_owes 25 rfl) (fun qx2 => ?_)
    refine r_icmp_ge (pc := 43) hX q_v4 qx2 63 rfl (dk D_X12_owes 26 rfl) (fun hc => ?_) (fun hc => ?_)
    · rw [if_neg hc] at h
      refine r_sub (lv' := [(0, 2, v0), (1, 0, v1), (2, 0, v2), (3, 0, v3)]) [0, 1, 2, 3] rfl ?_
      exact hk63 v0 v1 v2 v3 μ q_v1 q_v2 q_v3 h
    · rw [if_pos hc] at h
      refine r_iloadn (pc := 46) hX 2 rfl (dk D_X12_owes 27 rfl) ?_
      refine r_aloadn (pc := 47) hX 0 rfl (dk D_X12_owes 28 rfl) ?_
      refine r_iloadn (pc := 48) hX 3 rfl (dk D_X12_owes 29 rfl) ?_
      refine r_iload (pc := 49) hX 4 rfl (dk D_X12_owes 30 rfl) ?_
      refine r_iloadn (pc := 51) hX 1 rfl (dk D_X12_owes 31 rfl) ?_
      obtain ⟨_, hi, h⟩ := bd_some h
      obtain ⟨x3, μ4, hx3, h⟩ := bd2_some h
      refine r_invV0 (As := [(0, v3), (0, v4), (0, v1)]) (pc := 52) hX ml_12_246 (L_M_worthOf q_v3 q_v4 q_v1 hx3) (isk_u hi) (Rm_of hRm (by decide) ⟨by decide, by decide⟩) (by decide) rfl (Nat.le_of_ble_eq_true rfl) rfl (dk D_X12_owes 32 rfl) (fun qx3 => ?_)
      refine r_iadd (pc := 55) hX (dk D_X12_owes 33 rfl) ?_
      obtain ⟨x5, ex5, h⟩ := bd_some h
      replace ex5 := Option.some.inj ex5
      have qx5 : R32 x5 := ex5 ▸ (R32_w _)
      rw [ex5]
      refine r_istoren (lv' := [(2, 0, x5), (0, 2, v0), (1, 0, v1), (3, 0, v3), (4, 0, v4)]) (pc := 56) hX (by decide) rfl (dk D_X12_owes 34 rfl) ?_
      refine r_iinc (lv' := [(4, 0, (w32 (v4 + 1))), (2, 0, x5), (0, 2, v0), (1, 0, v1), (3, 0, v3)]) (pc := 57) hX 4 rfl (by decide) rfl (dk D_X12_owes 35 rfl) ?_
      refine r_goto (pc := 60) hX 31 rfl (dk D_X12_owes 36 rfl) ?_
      refine r_sub (lv' := [(0, 2, v0), (1, 0, v1), (2, 0, x5), (3, 0, v3), (4, 0, (w32 (v4 + 1)))]) [2, 3, 1, 4, 0] rfl ?_
      exact ih v0 v1 x5 v3 (w32 (v4 + 1)) μ4 q_v1 qx5 q_v3 (R32_w _) h
set_option maxRecDepth 100000 in
set_option maxHeartbeats 4000000 in
theorem L_M_owes_L16 {E : EX} {X : CX} {res : Int} {μe : Mem} (hX : Good E X cX12_owes 5 "TollsBackModel") (hM : GoodM E X (some .int) (some (0, res)) μe 0 0) (hRm : cR X = rmOf 3 0 0) : ∀ (n : Nat) (v0 v1 v2 v3 : Int) (μ : Mem) (q_v1 : R32 v1) (q_v2 : R32 v2) (q_v3 : R32 v3) (h : M_owes_L16 n v0 v1 v2 v3 μ = some (res, μe)), At E X cX12_owes 5 "TollsBackModel" (0, 0) 16 [(0, 2, v0), (1, 0, v1), (2, 0, v2), (3, 0, v3)] [] μ := by
  intro n
  induction n with
  | zero =>
    intro v0 v1 v2 v3 μ q_v1 q_v2 q_v3 h
    have h : (none : Option (Int × Mem)) = some (res, μe) := h
    cases h
  | succ n ih =>
    intro v0 v1 v2 v3 μ q_v1 q_v2 q_v3 h
    rw [M_owes_L16.eq_2] at h
    refine r_iloadn (pc := 16) hX 3 rfl (dk D_X12_owes 11 rfl) ?_
    refine r_aloadn (pc := 17) hX 0 rfl (dk D_X12_owes 12 rfl) ?_
    obtain ⟨x1, hx1, h⟩ := bd_some h
    refine r_getR (pc := 18) hX fl_12_13 rfl hx1 (dk D_X12_owes 13 rfl) ?_
    refine r_sipush (pc := 21) hX rfl (dk D_X12_owes 14 rfl) ?_
    obtain ⟨x2, hx2, h⟩ := bd_some h
    refine r_iald (pc := 24) hX (R32_lit rfl) hx2 (dk D_X12_owes 15 rfl) (fun qx2 => ?_)
    refine r_icmp_ge (pc := 25) hX q_v3 qx2 69 rfl (dk D_X12_owes 16 rfl) (fun hc => ?_) (fun hc => ?_)
    · rw [if_neg hc] at h
      refine r_iloadn (pc := 69) hX 2 rfl (dk D_X12_owes 39 rfl) ?_
      cases h
      exact r_ireturn (pc := 70) hX q_v2 hM ⟨by decide, by decide⟩ (dk D_X12_owes 40 rfl)
    · rw [if_pos hc] at h
      refine r_iconst (pc := 28) hX (dk D_X12_owes 17 rfl) ?_
      refine r_istore (lv' := [(4, 0, 0), (0, 2, v0), (1, 0, v1), (2, 0, v2), (3, 0, v3)]) (pc := 29) hX (by decide) rfl (dk D_X12_owes 18 rfl) ?_
      refine r_sub (lv' := [(0, 2, v0), (1, 0, v1), (2, 0, v2), (3, 0, v3), (4, 0, 0)]) [1, 2, 3, 4, 0] rfl ?_
      refine L_M_owes_L31 hX hM hRm ?_ FU v0 v1 v2 v3 0 μ q_v1 q_v2 q_v3 (R32_lit rfl) h
      intro x3 x4 x5 x6 μ7 qx4 qx5 qx6 h
      refine r_iinc (lv' := [(3, 0, (w32 (x6 + 1))), (0, 2, x3), (1, 0, x4), (2, 0, x5)]) (pc := 63) hX 3 rfl (by decide) rfl (dk D_X12_owes 37 rfl) ?_
      refine r_goto (pc := 66) hX 16 rfl (dk D_X12_owes 38 rfl) ?_
      refine r_sub (lv' := [(0, 2, x3), (1, 0, x4), (2, 0, x5), (3, 0, (w32 (x6 + 1)))]) [1, 2, 3, 0] rfl ?_
      exact ih x3 x4 x5 (w32 (x6 + 1)) μ7 qx4 qx5 (R32_w _) h
set_option maxRecDepth 100000 in
set_option maxHeartbeats 4000000 in
theorem L_M_owes {E : EX} {l : Launch} {a0 a1 res : Int} {μ μ' : Mem} (q_a1 : R32 a1) (h : M_owes a0 a1 μ = some (res, μ')) : Ok E l 3 yX12_owes (.code yX12_owes cX12_owes 5 (some .int)) 0 0 [(2, a0), (0, a1)] μ (some (0, res)) μ' := by
  refine Ok.of (own := "TollsBackModel") [(0, 2, a0), (1, 0, a1)] (by decide +kernel) rfl (Nat.le_of_ble_eq_true rfl) rfl ?_
  intro X hL hRm hin hX hM
  unfold M_owes at h
  subst hL
  refine r_aloadn (pc := 0) hX 0 rfl (dk D_X12_owes 0 rfl) ?_
  refine r_iconst (pc := 1) hX (dk D_X12_owes 1 rfl) ?_
  obtain ⟨μ1, hμ1, h⟩ := bd_some h
  refine r_putI (pc := 2) hX fl_12_1 rfl rfl (R32_lit rfl) trivial hμ1 (dk D_X12_owes 2 rfl) ?_
  refine r_iloadn (pc := 5) hX 1 rfl (dk D_X12_owes 3 rfl) ?_
  refine r_if_ge (pc := 6) hX q_a1 12 rfl (dk D_X12_owes 4 rfl) (fun hc => ?_) (fun hc => ?_)
  · rw [if_neg hc] at h
    refine r_iconst (pc := 12) hX (dk D_X12_owes 7 rfl) ?_
    refine r_istoren (lv' := [(2, 0, 0), (0, 2, a0), (1, 0, a1)]) (pc := 13) hX (by decide) rfl (dk D_X12_owes 8 rfl) ?_
    refine r_iconst (pc := 14) hX (dk D_X12_owes 9 rfl) ?_
    refine r_istoren (lv' := [(3, 0, 0), (2, 0, 0), (0, 2, a0), (1, 0, a1)]) (pc := 15) hX (by decide) rfl (dk D_X12_owes 10 rfl) ?_
    refine r_sub (lv' := [(0, 2, a0), (1, 0, a1), (2, 0, 0), (3, 0, 0)]) [2, 3, 1, 0] rfl ?_
    refine L_M_owes_L16 hX hM hRm FU a0 a1 0 0 μ1 q_a1 (R32_lit rfl) (R32_lit rfl) h
  · rw [if_pos hc] at h
    refine r_bipush (pc := 9) hX rfl (dk D_X12_owes 5 rfl) ?_
    cases h
    exact r_ireturn (pc := 11) hX (R32_lit rfl) hM ⟨by decide, by decide⟩ (dk D_X12_owes 6 rfl)
set_option maxRecDepth 100000 in
set_option maxHeartbeats 4000000 in
theorem L_M_lapse_L23 {E : EX} {X : CX} {res : Int} {μe : Mem} (hX : Good E X cX12_lapse 5 "TollsBackModel") (hM : GoodM E X (some .int) (some (0, res)) μe 0 0) (hRm : cR X = rmOf 2 0 0) {k86 : Int → Int → Int → Mem → Option (Int × Mem)} (hk86 : ∀ (u0 u1 u2 : Int) (μ : Mem), R32 u1 → R32 u2 → k86 u0 u1 u2 μ = some (res, μe) → At E X cX12_lapse 5 "TollsBackModel" (0, 0) 86 [(0, 2, u0), (1, 0, u1), (2, 0, u2)] [] μ) : ∀ (n : Nat) (v0 v1 v2 v3 : Int) (μ : Mem) (q_v1 : R32 v1) (q_v2 : R32 v2) (q_v3 : R32 v3) (h : M_lapse_L23 k86 n v0 v1 v2 v3 μ = some (res, μe)), At E X cX12_lapse 5 "TollsBackModel" (0, 0) 23 [(0, 2, v0), (1, 0, v1), (2, 0, v2), (3, 0, v3)] [] μ := by
  intro n
  induction n with
  | zero =>
    intro v0 v1 v2 v3 μ q_v1 q_v2 q_v3 h
    have h : (none : Option (Int × Mem)) = some (res, μe) := h
    cases h
  | succ n ih =>
    intro v0 v1 v2 v3 μ q_v1 q_v2 q_v3 h
    rw [M_lapse_L23.eq_2] at h
    refine r_iloadn (pc := 23) hX 3 rfl (dk D_X12_lapse 15 rfl) ?_
    refine r_aloadn (pc := 24) hX 0 rfl (dk D_X12_lapse 16 rfl) ?_
    obtain ⟨x1, hx1, h⟩ := bd_some h
    refine r_getR (pc := 25) hX fl_12_13 rfl hx1 (dk D_X12_lapse 17 rfl) ?_
    refine r_sipush (pc := 28) hX rfl (dk D_X12_lapse 18 rfl) ?_
    refine r_iloadn (pc := 31) hX 2 rfl (dk D_X12_lapse 19 rfl) ?_
    refine r_iadd (pc := 32) hX (dk D_X12_lapse 20 rfl) ?_
    obtain ⟨x2, hx2, h⟩ := bd_some h
    refine r_iald (pc := 33) hX (R32_w _) hx2 (dk D_X12_lapse 21 rfl) (fun qx2 => ?_)
    refine r_icmp_ge (pc := 34) hX q_v3 qx2 86 rfl (dk D_X12_lapse 22 rfl) (fun hc => ?_) (fun hc => ?_)
    · rw [if_neg hc] at h
      refine r_sub (lv' := [(0, 2, v0), (1, 0, v1), (2, 0, v2)]) [0, 1, 2] rfl ?_
      exact hk86 v0 v1 v2 μ q_v1 q_v2 h
    · rw [if_pos hc] at h
      refine r_aloadn (pc := 37) hX 0 rfl (dk D_X12_lapse 23 rfl) ?_
      obtain ⟨x3, hx3, h⟩ := bd_some h
      refine r_getR (pc := 38) hX fl_12_13 rfl hx3 (dk D_X12_lapse 24 rfl) ?_
      refine r_sipush (pc := 41) hX rfl (dk D_X12_lapse 25 rfl) ?_
      refine r_iloadn (pc := 44) hX 2 rfl (dk D_X12_lapse 26 rfl) ?_
      refine r_iloadn (pc := 45) hX 3 rfl (dk D_X12_lapse 27 rfl) ?_
      obtain ⟨x4, μ5, hx4, h⟩ := bd2_some h
      refine r_invS0 (As := [(0, v2), (0, v3)]) (pc := 46) hX ml_12_233 (L_M_slipAt q_v2 q_v3 hx4) (Rm_of hRm (by decide) ⟨by decide, by decide⟩) (by decide) rfl (Nat.le_of_ble_eq_true rfl) rfl (dk D_X12_lapse 28 rfl) (fun qx4 => ?_)
      refine r_iadd (pc := 49) hX (dk D_X12_lapse 29 rfl) ?_
      obtain ⟨x6, hx6, h⟩ := bd_some h
      refine r_iald (pc := 50) hX (R32_w _) hx6 (dk D_X12_lapse 30 rfl) (fun qx6 => ?_)
      refine r_aloadn (pc := 51) hX 0 rfl (dk D_X12_lapse 31 rfl) ?_
      obtain ⟨x7, hx7, h⟩ := bd_some h
      refine r_getR (pc := 52) hX fl_12_13 rfl hx7 (dk D_X12_lapse 32 rfl) ?_
      refine r_iconst (pc := 55) hX (dk D_X12_lapse 33 rfl) ?_
      obtain ⟨x8, hx8, h⟩ := bd_some h
      refine r_iald (pc := 56) hX (R32_lit rfl) hx8 (dk D_X12_lapse 34 rfl) (fun qx8 => ?_)
      refine r_iadd (pc := 57) hX (dk D_X12_lapse 35 rfl) ?_
      refine r_iconst (pc := 58) hX (dk D_X12_lapse 36 rfl) ?_
      refine r_iadd (pc := 59) hX (dk D_X12_lapse 37 rfl) ?_
      obtain ⟨x9, ex9, h⟩ := bd_some h
      replace ex9 := Option.some.inj ex9
      have qx9 : R32 x9 := ex9 ▸ (R32_w _)
      rw [ex9]
      refine r_istore (lv' := [(4, 0, x9), (0, 2, v0), (1, 0, v1), (2, 0, v2), (3, 0, v3)]) (pc := 60) hX (by decide) rfl (dk D_X12_lapse 38 rfl) ?_
      refine r_iloadn (pc := 62) hX 2 rfl (dk D_X12_lapse 39 rfl) ?_
      refine r_iconst (pc := 63) hX (dk D_X12_lapse 40 rfl) ?_
      refine r_icmp_eq (pc := 64) hX q_v1 (R32_lit rfl) 73 rfl (dk D_X12_lapse 41 rfl) (fun hc => ?_) (fun hc => ?_)
      · rw [if_pos hc] at h
        refine r_iload (pc := 73) hX 0 rfl (dk D_X12_lapse 45 rfl) ?_
        refine r_goto (pc := 75) hX 79 rfl (dk D_X12_lapse 46 rfl) ?_
        refine r_istoren (lv' := [(1, 0, x9), (4, 0, x9), (0, 2, v0), (2, 0, v2), (3, 0, v3)]) (pc := 79) hX (by decide) rfl (dk D_X12_lapse 48 rfl) ?_
        refine r_iinc (lv' := [(3, 0, (w32 (v3 + 1))), (1, 0, x9), (4, 0, x9), (0, 2, v0), (2, 0, v2)]) (pc := 80) hX 4 rfl (by decide) rfl (dk D_X12_lapse 49 rfl) ?_
        refine r_goto (pc := 83) hX 23 rfl (dk D_X12_lapse 50 rfl) ?_
        refine r_sub (lv' := [(0, 2, v0), (1, 0, x9), (2, 0, v2), (3, 0, (w32 (v3 + 1)))]) [3, 1, 4, 0] rfl ?_
        exact ih v0 x9 v2 (w32 (v3 + 1)) μ5 qx9 q_v2 (R32_w _) h
      · rw [if_neg hc] at h
        refine r_iload (pc := 67) hX 0 rfl (dk D_X12_lapse 42 rfl) ?_
        refine r_iloadn (pc := 69) hX 2 rfl (dk D_X12_lapse 43 rfl) ?_
        refine r_icmp_ge (pc := 70) hX qx9 q_v1 78 rfl (dk D_X12_lapse 44 rfl) (fun hc => ?_) (fun hc => ?_)
        · rw [if_neg hc] at h
          refine r_iloadn (pc := 78) hX 2 rfl (dk D_X12_lapse 47 rfl) ?_
          refine r_istoren (lv' := [(1, 0, v1), (4, 0, x9), (0, 2, v0), (2, 0, v2), (3, 0, v3)]) (pc := 79) hX (by decide) rfl (dk D_X12_lapse 48 rfl) ?_
          refine r_iinc (lv' := [(3, 0, (w32 (v3 + 1))), (1, 0, v1), (4, 0, x9), (0, 2, v0), (2, 0, v2)]) (pc := 80) hX 4 rfl (by decide) rfl (dk D_X12_lapse 49 rfl) ?_
          refine r_goto (pc := 83) hX 23 rfl (dk D_X12_lapse 50 rfl) ?_
          refine r_sub (lv' := [(0, 2, v0), (1, 0, v1), (2, 0, v2), (3, 0, (w32 (v3 + 1)))]) [3, 1, 4, 0] rfl ?_
          exact ih v0 v1 v2 (w32 (v3 + 1)) μ5 q_v1 q_v2 (R32_w _) h
        · rw [if_pos hc] at h
          refine r_iload (pc := 73) hX 0 rfl (dk D_X12_lapse 45 rfl) ?_
          refine r_goto (pc := 75) hX 79 rfl (dk D_X12_lapse 46 rfl) ?_
          refine r_istoren (lv' := [(1, 0, x9), (4, 0, x9), (0, 2, v0), (2, 0, v2), (3, 0, v3)]) (pc := 79) hX (by decide) rfl (dk D_X12_lapse 48 rfl) ?_
          refine r_iinc (lv' := [(3, 0, (w32 (v3 + 1))), (1, 0, x9), (4, 0, x9), (0, 2, v0), (2, 0, v2)]) (pc := 80) hX 4 rfl (by decide) rfl (dk D_X12_lapse 49 rfl) ?_
          refine r_goto (pc := 83) hX 23 rfl (dk D_X12_lapse 50 rfl) ?_
          refine r_sub (lv' := [(0, 2, v0), (1, 0, x9), (2, 0, v2), (3, 0, (w32 (v3 + 1)))]) [3, 1, 4, 0] rfl ?_
          exact ih v0 x9 v2 (w32 (v3 + 1)) μ5 qx9 q_v2 (R32_w _) h
set_option maxRecDepth 100000 in
set_option maxHeartbeats 4000000 in
theorem L_M_lapse_L9 {E : EX} {X : CX} {res : Int} {μe : Mem} (hX : Good E X cX12_lapse 5 "TollsBackModel") (hM : GoodM E X (some .int) (some (0, res)) μe 0 0) (hRm : cR X = rmOf 2 0 0) : ∀ (n : Nat) (v0 v1 v2 : Int) (μ : Mem) (q_v1 : R32 v1) (q_v2 : R32 v2) (h : M_lapse_L9 n v0 v1 v2 μ = some (res, μe)), At E X cX12_lapse 5 "TollsBackModel" (0, 0) 9 [(0, 2, v0), (1, 0, v1), (2, 0, v2)] [] μ := by
  intro n
  induction n with
  | zero =>
    intro v0 v1 v2 μ q_v1 q_v2 h
    have h : (none : Option (Int × Mem)) = some (res, μe) := h
    cases h
  | succ n ih =>
    intro v0 v1 v2 μ q_v1 q_v2 h
    rw [M_lapse_L9.eq_2] at h
    refine r_iloadn (pc := 9) hX 2 rfl (dk D_X12_lapse 7 rfl) ?_
    refine r_aloadn (pc := 10) hX 0 rfl (dk D_X12_lapse 8 rfl) ?_
    obtain ⟨x1, hx1, h⟩ := bd_some h
    refine r_getR (pc := 11) hX fl_12_13 rfl hx1 (dk D_X12_lapse 9 rfl) ?_
    refine r_sipush (pc := 14) hX rfl (dk D_X12_lapse 10 rfl) ?_
    obtain ⟨x2, hx2, h⟩ := bd_some h
    refine r_iald (pc := 17) hX (R32_lit rfl) hx2 (dk D_X12_lapse 11 rfl) (fun qx2 => ?_)
    refine r_icmp_ge (pc := 18) hX q_v2 qx2 92 rfl (dk D_X12_lapse 12 rfl) (fun hc => ?_) (fun hc => ?_)
    · rw [if_neg hc] at h
      refine r_iloadn (pc := 92) hX 1 rfl (dk D_X12_lapse 53 rfl) ?_
      cases h
      exact r_ireturn (pc := 93) hX q_v1 hM ⟨by decide, by decide⟩ (dk D_X12_lapse 54 rfl)
    · rw [if_pos hc] at h
      refine r_iconst (pc := 21) hX (dk D_X12_lapse 13 rfl) ?_
      refine r_istoren (lv' := [(3, 0, 0), (0, 2, v0), (1, 0, v1), (2, 0, v2)]) (pc := 22) hX (by decide) rfl (dk D_X12_lapse 14 rfl) ?_
      refine r_sub (lv' := [(0, 2, v0), (1, 0, v1), (2, 0, v2), (3, 0, 0)]) [1, 2, 3, 0] rfl ?_
      refine L_M_lapse_L23 hX hM hRm ?_ FU v0 v1 v2 0 μ q_v1 q_v2 (R32_lit rfl) h
      intro x3 x4 x5 μ6 qx4 qx5 h
      refine r_iinc (lv' := [(2, 0, (w32 (x5 + 1))), (0, 2, x3), (1, 0, x4)]) (pc := 86) hX 2 rfl (by decide) rfl (dk D_X12_lapse 51 rfl) ?_
      refine r_goto (pc := 89) hX 9 rfl (dk D_X12_lapse 52 rfl) ?_
      refine r_sub (lv' := [(0, 2, x3), (1, 0, x4), (2, 0, (w32 (x5 + 1)))]) [1, 2, 0] rfl ?_
      exact ih x3 x4 (w32 (x5 + 1)) μ6 qx4 (R32_w _) h
set_option maxRecDepth 100000 in
set_option maxHeartbeats 4000000 in
theorem L_M_lapse {E : EX} {l : Launch} {a0 res : Int} {μ μ' : Mem}  (h : M_lapse a0 μ = some (res, μ')) : Ok E l 2 yX12_lapse (.code yX12_lapse cX12_lapse 5 (some .int)) 0 0 [(2, a0)] μ (some (0, res)) μ' := by
  refine Ok.of (own := "TollsBackModel") [(0, 2, a0)] (by decide +kernel) rfl (Nat.le_of_ble_eq_true rfl) rfl ?_
  intro X hL hRm hin hX hM
  unfold M_lapse at h
  subst hL
  refine r_aloadn (pc := 0) hX 0 rfl (dk D_X12_lapse 0 rfl) ?_
  refine r_iconst (pc := 1) hX (dk D_X12_lapse 1 rfl) ?_
  obtain ⟨μ1, hμ1, h⟩ := bd_some h
  refine r_putI (pc := 2) hX fl_12_1 rfl rfl (R32_lit rfl) trivial hμ1 (dk D_X12_lapse 2 rfl) ?_
  refine r_iconst (pc := 5) hX (dk D_X12_lapse 3 rfl) ?_
  refine r_istoren (lv' := [(1, 0, (-1)), (0, 2, a0)]) (pc := 6) hX (by decide) rfl (dk D_X12_lapse 4 rfl) ?_
  refine r_iconst (pc := 7) hX (dk D_X12_lapse 5 rfl) ?_
  refine r_istoren (lv' := [(2, 0, 0), (1, 0, (-1)), (0, 2, a0)]) (pc := 8) hX (by decide) rfl (dk D_X12_lapse 6 rfl) ?_
  refine r_sub (lv' := [(0, 2, a0), (1, 0, (-1)), (2, 0, 0)]) [2, 1, 0] rfl ?_
  refine L_M_lapse_L9 hX hM hRm FU a0 (-1) 0 μ1 (R32_lit rfl) (R32_lit rfl) h
set_option maxRecDepth 100000 in
set_option maxHeartbeats 4000000 in
theorem L_M_blocked_L20 {E : EX} {X : CX} {res : Int} {μe : Mem} (hX : Good E X cX12_blocked 4 "TollsBackModel") (hM : GoodM E X (some .int) (some (0, res)) μe 0 0) (hRm : cR X = rmOf 3 0 0) : ∀ (n : Nat) (v0 v1 v2 v3 : Int) (μ : Mem) (q_v1 : R32 v1) (q_v2 : R32 v2) (q_v3 : R32 v3) (h : M_blocked_L20 n v0 v1 v2 v3 μ = some (res, μe)), At E X cX12_blocked 4 "TollsBackModel" (0, 0) 20 [(0, 2, v0), (1, 0, v1), (2, 0, v2), (3, 0, v3)] [] μ := by
  intro n
  induction n with
  | zero =>
    intro v0 v1 v2 v3 μ q_v1 q_v2 q_v3 h
    have h : (none : Option (Int × Mem)) = some (res, μe) := h
    cases h
  | succ n ih =>
    intro v0 v1 v2 v3 μ q_v1 q_v2 q_v3 h
    rw [M_blocked_L20.eq_2] at h
    refine r_iloadn (pc := 20) hX 3 rfl (dk D_X12_blocked 13 rfl) ?_
    refine r_aloadn (pc := 21) hX 0 rfl (dk D_X12_blocked 14 rfl) ?_
    obtain ⟨x1, hx1, h⟩ := bd_some h
    refine r_getR (pc := 22) hX fl_12_13 rfl hx1 (dk D_X12_blocked 15 rfl) ?_
    refine r_sipush (pc := 25) hX rfl (dk D_X12_blocked 16 rfl) ?_
    refine r_iloadn (pc := 28) hX 1 rfl (dk D_X12_blocked 17 rfl) ?_
    refine r_iadd (pc := 29) hX (dk D_X12_blocked 18 rfl) ?_
    obtain ⟨x2, hx2, h⟩ := bd_some h
    refine r_iald (pc := 30) hX (R32_w _) hx2 (dk D_X12_blocked 19 rfl) (fun qx2 => ?_)
    refine r_icmp_ge (pc := 31) hX q_v3 qx2 71 rfl (dk D_X12_blocked 20 rfl) (fun hc => ?_) (fun hc => ?_)
    · rw [if_neg hc] at h
      refine r_iloadn (pc := 71) hX 2 rfl (dk D_X12_blocked 42 rfl) ?_
      cases h
      exact r_ireturn (pc := 72) hX q_v2 hM ⟨by decide, by decide⟩ (dk D_X12_blocked 43 rfl)
    · rw [if_pos hc] at h
      refine r_aloadn (pc := 34) hX 0 rfl (dk D_X12_blocked 21 rfl) ?_
      refine r_aloadn (pc := 35) hX 0 rfl (dk D_X12_blocked 22 rfl) ?_
      obtain ⟨x3, hx3, h⟩ := bd_some h
      refine r_getR (pc := 36) hX fl_12_13 rfl hx3 (dk D_X12_blocked 23 rfl) ?_
      refine r_sipush (pc := 39) hX rfl (dk D_X12_blocked 24 rfl) ?_
      refine r_iloadn (pc := 42) hX 1 rfl (dk D_X12_blocked 25 rfl) ?_
      refine r_iloadn (pc := 43) hX 3 rfl (dk D_X12_blocked 26 rfl) ?_
      obtain ⟨x4, μ5, hx4, h⟩ := bd2_some h
      refine r_invS0 (As := [(0, v1), (0, v3)]) (pc := 44) hX ml_12_233 (L_M_slipAt q_v1 q_v3 hx4) (Rm_of hRm (by decide) ⟨by decide, by decide⟩) (by decide) rfl (Nat.le_of_ble_eq_true rfl) rfl (dk D_X12_blocked 27 rfl) (fun qx4 => ?_)
      refine r_iadd (pc := 47) hX (dk D_X12_blocked 28 rfl) ?_
      obtain ⟨x6, hx6, h⟩ := bd_some h
      refine r_iald (pc := 48) hX (R32_w _) hx6 (dk D_X12_blocked 29 rfl) (fun qx6 => ?_)
      refine r_iconst (pc := 49) hX (dk D_X12_blocked 30 rfl) ?_
      obtain ⟨x7, hx7, h⟩ := bd_some h
      refine r_idiv (pc := 50) hX (R32_lit rfl) hx7 (dk D_X12_blocked 31 rfl) (fun qx7 => ?_)
      obtain ⟨_, hi, h⟩ := bd_some h
      obtain ⟨x8, μ9, hx8, h⟩ := bd2_some h
      refine r_invV0 (As := [(0, x7)]) (pc := 51) hX ml_12_213 (L_M_isOpen qx7 hx8) (isk_u hi) (Rm_of hRm (by decide) ⟨by decide, by decide⟩) (by decide) rfl (Nat.le_of_ble_eq_true rfl) rfl (dk D_X12_blocked 32 rfl) (fun qx8 => ?_)
      refine r_if_eq (pc := 54) hX qx8 61 rfl (dk D_X12_blocked 33 rfl) (fun hc => ?_) (fun hc => ?_)
      · rw [if_pos hc] at h
        refine r_iloadn (pc := 61) hX 3 rfl (dk D_X12_blocked 36 rfl) ?_
        refine r_iconst (pc := 62) hX (dk D_X12_blocked 37 rfl) ?_
        refine r_iadd (pc := 63) hX (dk D_X12_blocked 38 rfl) ?_
        obtain ⟨x10, ex10, h⟩ := bd_some h
        replace ex10 := Option.some.inj ex10
        have qx10 : R32 x10 := ex10 ▸ (R32_w _)
        rw [ex10]
        refine r_istoren (lv' := [(2, 0, x10), (0, 2, v0), (1, 0, v1), (3, 0, v3)]) (pc := 64) hX (by decide) rfl (dk D_X12_blocked 39 rfl) ?_
        refine r_iinc (lv' := [(3, 0, (w32 (v3 + 1))), (2, 0, x10), (0, 2, v0), (1, 0, v1)]) (pc := 65) hX 3 rfl (by decide) rfl (dk D_X12_blocked 40 rfl) ?_
        refine r_goto (pc := 68) hX 20 rfl (dk D_X12_blocked 41 rfl) ?_
        refine r_sub (lv' := [(0, 2, v0), (1, 0, v1), (2, 0, x10), (3, 0, (w32 (v3 + 1)))]) [2, 3, 1, 0] rfl ?_
        exact ih v0 v1 x10 (w32 (v3 + 1)) μ9 q_v1 qx10 (R32_w _) h
      · rw [if_neg hc] at h
        refine r_iloadn (pc := 57) hX 2 rfl (dk D_X12_blocked 34 rfl) ?_
        refine r_goto (pc := 58) hX 64 rfl (dk D_X12_blocked 35 rfl) ?_
        refine r_istoren (lv' := [(2, 0, v2), (0, 2, v0), (1, 0, v1), (3, 0, v3)]) (pc := 64) hX (by decide) rfl (dk D_X12_blocked 39 rfl) ?_
        refine r_iinc (lv' := [(3, 0, (w32 (v3 + 1))), (2, 0, v2), (0, 2, v0), (1, 0, v1)]) (pc := 65) hX 3 rfl (by decide) rfl (dk D_X12_blocked 40 rfl) ?_
        refine r_goto (pc := 68) hX 20 rfl (dk D_X12_blocked 41 rfl) ?_
        refine r_sub (lv' := [(0, 2, v0), (1, 0, v1), (2, 0, v2), (3, 0, (w32 (v3 + 1)))]) [2, 3, 1, 0] rfl ?_
        exact ih v0 v1 v2 (w32 (v3 + 1)) μ9 q_v1 q_v2 (R32_w _) h
set_option maxRecDepth 100000 in
set_option maxHeartbeats 4000000 in
theorem L_M_blocked {E : EX} {l : Launch} {a0 a1 res : Int} {μ μ' : Mem} (q_a1 : R32 a1) (h : M_blocked a0 a1 μ = some (res, μ')) : Ok E l 3 yX12_blocked (.code yX12_blocked cX12_blocked 4 (some .int)) 0 0 [(2, a0), (0, a1)] μ (some (0, res)) μ' := by
  refine Ok.of (own := "TollsBackModel") [(0, 2, a0), (1, 0, a1)] (by decide +kernel) rfl (Nat.le_of_ble_eq_true rfl) rfl ?_
  intro X hL hRm hin hX hM
  unfold M_blocked at h
  subst hL
  refine r_aloadn (pc := 0) hX 0 rfl (dk D_X12_blocked 0 rfl) ?_
  refine r_iconst (pc := 1) hX (dk D_X12_blocked 1 rfl) ?_
  obtain ⟨μ1, hμ1, h⟩ := bd_some h
  refine r_putI (pc := 2) hX fl_12_1 rfl rfl (R32_lit rfl) trivial hμ1 (dk D_X12_blocked 2 rfl) ?_
  refine r_aloadn (pc := 5) hX 0 rfl (dk D_X12_blocked 3 rfl) ?_
  refine r_iloadn (pc := 6) hX 1 rfl (dk D_X12_blocked 4 rfl) ?_
  obtain ⟨_, hi, h⟩ := bd_some h
  obtain ⟨x2, μ3, hx2, h⟩ := bd2_some h
  refine r_invV0 (As := [(0, a1)]) (pc := 7) hX ml_12_230 (L_M_isOne q_a1 hx2) (isk_u hi) (Rm_of hRm (by decide) ⟨by decide, by decide⟩) (by decide) rfl (Nat.le_of_ble_eq_true rfl) rfl (dk D_X12_blocked 5 rfl) (fun qx2 => ?_)
  refine r_if_ne (pc := 10) hX qx2 16 rfl (dk D_X12_blocked 6 rfl) (fun hc => ?_) (fun hc => ?_)
  · rw [if_neg hc] at h
    refine r_iconst (pc := 16) hX (dk D_X12_blocked 9 rfl) ?_
    refine r_istoren (lv' := [(2, 0, 0), (0, 2, a0), (1, 0, a1)]) (pc := 17) hX (by decide) rfl (dk D_X12_blocked 10 rfl) ?_
    refine r_iconst (pc := 18) hX (dk D_X12_blocked 11 rfl) ?_
    refine r_istoren (lv' := [(3, 0, 0), (2, 0, 0), (0, 2, a0), (1, 0, a1)]) (pc := 19) hX (by decide) rfl (dk D_X12_blocked 12 rfl) ?_
    refine r_sub (lv' := [(0, 2, a0), (1, 0, a1), (2, 0, 0), (3, 0, 0)]) [2, 3, 1, 0] rfl ?_
    refine L_M_blocked_L20 hX hM hRm FU a0 a1 0 0 μ3 q_a1 (R32_lit rfl) (R32_lit rfl) h
  · rw [if_pos hc] at h
    refine r_bipush (pc := 13) hX rfl (dk D_X12_blocked 7 rfl) ?_
    cases h
    exact r_ireturn (pc := 15) hX (R32_lit rfl) hM ⟨by decide, by decide⟩ (dk D_X12_blocked 8 rfl)
set_option maxRecDepth 100000 in
set_option maxHeartbeats 4000000 in
theorem L_M_homeward_L71 {E : EX} {X : CX} {res : Int} {μe : Mem} (hX : Good E X cX12_homeward 9 "TollsBackModel") (hM : GoodM E X (some .int) (some (0, res)) μe 0 0) (hRm : cR X = rmOf 3 0 0) {k197 : Int → Int → Int → Int → Int → Int → Mem → Option (Int × Mem)} (hk197 : ∀ (u0 u1 u2 u3 u4 u5 : Int) (μ : Mem), R32 u1 → R32 u2 → R32 u3 → R32 u4 → R32 u5 → k197 u0 u1 u2 u3 u4 u5 μ = some (res, μe) → At E X cX12_homeward 9 "TollsBackModel" (0, 0) 197 [(0, 2, u0), (1, 0, u1), (2, 0, u2), (4, 0, u3), (5, 0, u4), (6, 0, u5)] [] μ) : ∀ (n : Nat) (v0 v1 v2 v3 v4 v5 v6 v7 : Int) (μ : Mem) (q_v1 : R32 v1) (q_v2 : R32 v2) (q_v3 : R32 v3) (q_v4 : R32 v4) (q_v5 : R32 v5) (q_v6 : R32 v6) (q_v7 : R32 v7) (h : M_homeward_L71 k197 n v0 v1 v2 v3 v4 v5 v6 v7 μ = some (res, μe)), At E X cX12_homeward 9 "TollsBackModel" (0, 0) 71 [(0, 2, v0), (1, 0, v1), (2, 0, v2), (3, 0, v3), (4, 0, v4), (5, 0, v5), (6, 0, v6), (7, 0, v7)] [] μ := by
  intro n
  induction n with
  | zero =>
    intro v0 v1 v2 v3 v4 v5 v6 v7 μ q_v1 q_v2 q_v3 q_v4 q_v5 q_v6 q_v7 h
    have h : (none : Option (Int × Mem)) = some (res, μe) := h
    cases h
  | succ n ih =>
    intro v0 v1 v2 v3 v4 v5 v6 v7 μ q_v1 q_v2 q_v3 q_v4 q_v5 q_v6 q_v7 h
    rw [M_homeward_L71.eq_2] at h
    refine r_iload (pc := 71) hX 7 rfl (dk D_X12_homeward 42 rfl) ?_
    refine r_if_lt (pc := 73) hX q_v7 197 rfl (dk D_X12_homeward 43 rfl) (fun hc => ?_) (fun hc => ?_)
    · rw [if_pos hc] at h
      refine r_sub (lv' := [(0, 2, v0), (1, 0, v1), (2, 0, v2), (4, 0, v4), (5, 0, v5), (6, 0, v6)]) [0, 1, 2, 4, 5, 6] rfl ?_
      exact hk197 v0 v1 v2 v4 v5 v6 μ q_v1 q_v2 q_v4 q_v5 q_v6 h
    · rw [if_neg hc] at h
      refine r_aloadn (pc := 76) hX 0 rfl (dk D_X12_homeward 44 rfl) ?_
      obtain ⟨x1, hx1, h⟩ := bd_some h
      refine r_getR (pc := 77) hX fl_12_13 rfl hx1 (dk D_X12_homeward 45 rfl) ?_
      refine r_sipush (pc := 80) hX rfl (dk D_X12_homeward 46 rfl) ?_
      refine r_iloadn (pc := 83) hX 1 rfl (dk D_X12_homeward 47 rfl) ?_
      refine r_iload (pc := 84) hX 7 rfl (dk D_X12_homeward 48 rfl) ?_
      obtain ⟨x2, μ3, hx2, h⟩ := bd2_some h
      refine r_invS0 (As := [(0, v1), (0, v7)]) (pc := 86) hX ml_12_233 (L_M_slipAt q_v1 q_v7 hx2) (Rm_of hRm (by decide) ⟨by decide, by decide⟩) (by decide) rfl (Nat.le_of_ble_eq_true rfl) rfl (dk D_X12_homeward 49 rfl) (fun qx2 => ?_)
      refine r_iadd (pc := 89) hX (dk D_X12_homeward 50 rfl) ?_
      obtain ⟨x4, hx4, h⟩ := bd_some h
      refine r_iald (pc := 90) hX (R32_w _) hx4 (dk D_X12_homeward 51 rfl) (fun qx4 => ?_)
      refine r_istore (lv' := [(8, 0, x4), (0, 2, v0), (1, 0, v1), (2, 0, v2), (3, 0, v3), (4, 0, v4), (5, 0, v5), (6, 0, v6), (7, 0, v7)]) (pc := 91) hX (by decide) rfl (dk D_X12_homeward 52 rfl) ?_
      refine r_aloadn (pc := 93) hX 1 rfl (dk D_X12_homeward 53 rfl) ?_
      refine r_iload (pc := 94) hX 0 rfl (dk D_X12_homeward 54 rfl) ?_
      refine r_iconst (pc := 96) hX (dk D_X12_homeward 55 rfl) ?_
      obtain ⟨x5, hx5, h⟩ := bd_some h
      refine r_idiv (pc := 97) hX (R32_lit rfl) hx5 (dk D_X12_homeward 56 rfl) (fun qx5 => ?_)
      obtain ⟨_, hi, h⟩ := bd_some h
      obtain ⟨x6, μ7, hx6, h⟩ := bd2_some h
      refine r_invV0 (As := [(0, x5)]) (pc := 98) hX ml_12_213 (L_M_isOpen qx5 hx6) (isk_u hi) (Rm_of hRm (by decide) ⟨by decide, by decide⟩) (by decide) rfl (Nat.le_of_ble_eq_true rfl) rfl (dk D_X12_homeward 57 rfl) (fun qx6 => ?_)
      refine r_if_eq (pc := 101) hX qx6 114 rfl (dk D_X12_homeward 58 rfl) (fun hc => ?_) (fun hc => ?_)
      · rw [if_pos hc] at h
        refine r_iconst (pc := 114) hX (dk D_X12_homeward 64 rfl) ?_
        cases h
        exact r_ireturn (pc := 115) hX (R32_lit rfl) hM ⟨by decide, by decide⟩ (dk D_X12_homeward 65 rfl)
      · rw [if_neg hc] at h
        refine r_aloadn (pc := 104) hX 1 rfl (dk D_X12_homeward 59 rfl) ?_
        refine r_iload (pc := 105) hX 0 rfl (dk D_X12_homeward 60 rfl) ?_
        obtain ⟨_, hi, h⟩ := bd_some h
        obtain ⟨x8, μ9, hx8, h⟩ := bd2_some h
        refine r_invV0 (As := [(0, x4)]) (pc := 107) hX ml_12_243 (L_M_headOf qx4 hx8) (isk_u hi) (Rm_of hRm (by decide) ⟨by decide, by decide⟩) (by decide) rfl (Nat.le_of_ble_eq_true rfl) rfl (dk D_X12_homeward 61 rfl) (fun qx8 => ?_)
        refine r_iloadn (pc := 110) hX 4 rfl (dk D_X12_homeward 62 rfl) ?_
        refine r_icmp_eq (pc := 111) hX qx8 q_v3 116 rfl (dk D_X12_homeward 63 rfl) (fun hc => ?_) (fun hc => ?_)
        · rw [if_pos hc] at h
          refine r_iload (pc := 116) hX 6 rfl (dk D_X12_homeward 66 rfl) ?_
          refine r_aloadn (pc := 118) hX 1 rfl (dk D_X12_homeward 67 rfl) ?_
          refine r_iloadn (pc := 119) hX 2 rfl (dk D_X12_homeward 68 rfl) ?_
          refine r_iload (pc := 120) hX 8 rfl (dk D_X12_homeward 69 rfl) ?_
          refine r_iload (pc := 122) hX 5 rfl (dk D_X12_homeward 70 rfl) ?_
          obtain ⟨_, hi, h⟩ := bd_some h
          obtain ⟨x10, μ11, hx10, h⟩ := bd2_some h
          refine r_invV0 (As := [(0, v1), (0, v7), (0, v4)]) (pc := 124) hX ml_12_246 (L_M_worthOf q_v1 q_v7 q_v4 hx10) (isk_u hi) (Rm_of hRm (by decide) ⟨by decide, by decide⟩) (by decide) rfl (Nat.le_of_ble_eq_true rfl) rfl (dk D_X12_homeward 71 rfl) (fun qx10 => ?_)
          refine r_iadd (pc := 127) hX (dk D_X12_homeward 72 rfl) ?_
          obtain ⟨x12, ex12, h⟩ := bd_some h
          replace ex12 := Option.some.inj ex12
          have qx12 : R32 x12 := ex12 ▸ (R32_w _)
          rw [ex12]
          refine r_istore (lv' := [(5, 0, x12), (8, 0, x4), (0, 2, v0), (1, 0, v1), (2, 0, v2), (3, 0, v3), (4, 0, v4), (6, 0, v6), (7, 0, v7)]) (pc := 128) hX (by decide) rfl (dk D_X12_homeward 73 rfl) ?_
          refine r_iload (pc := 130) hX 7 rfl (dk D_X12_homeward 74 rfl) ?_
          refine r_iload (pc := 132) hX 6 rfl (dk D_X12_homeward 75 rfl) ?_
          refine r_aloadn (pc := 134) hX 2 rfl (dk D_X12_homeward 76 rfl) ?_
          obtain ⟨x13, hx13, h⟩ := bd_some h
          refine r_getR (pc := 135) hX fl_12_13 rfl hx13 (dk D_X12_homeward 77 rfl) ?_
          refine r_sipush (pc := 138) hX rfl (dk D_X12_homeward 78 rfl) ?_
          refine r_iloadn (pc := 141) hX 3 rfl (dk D_X12_homeward 79 rfl) ?_
          refine r_iload (pc := 142) hX 8 rfl (dk D_X12_homeward 80 rfl) ?_
          obtain ⟨x14, μ15, hx14, h⟩ := bd2_some h
          refine r_invS0 (As := [(0, v1), (0, v7)]) (pc := 144) hX ml_12_233 (L_M_slipAt q_v1 q_v7 hx14) (Rm_of hRm (by decide) ⟨by decide, by decide⟩) (by decide) rfl (Nat.le_of_ble_eq_true rfl) rfl (dk D_X12_homeward 81 rfl) (fun qx14 => ?_)
          refine r_iadd (pc := 147) hX (dk D_X12_homeward 82 rfl) ?_
          obtain ⟨x16, hx16, h⟩ := bd_some h
          refine r_iald (pc := 148) hX (R32_w _) hx16 (dk D_X12_homeward 83 rfl) (fun qx16 => ?_)
          refine r_isub (pc := 149) hX (dk D_X12_homeward 84 rfl) ?_
          refine r_aloadn (pc := 150) hX 2 rfl (dk D_X12_homeward 85 rfl) ?_
          obtain ⟨x17, hx17, h⟩ := bd_some h
          refine r_getR (pc := 151) hX fl_12_13 rfl hx17 (dk D_X12_homeward 86 rfl) ?_
          refine r_iconst (pc := 154) hX (dk D_X12_homeward 87 rfl) ?_
          obtain ⟨x18, hx18, h⟩ := bd_some h
          refine r_iald (pc := 155) hX (R32_lit rfl) hx18 (dk D_X12_homeward 88 rfl) (fun qx18 => ?_)
          obtain ⟨y19, hb, h⟩ := bd_some h
          have hj : R32 y19 → At E X cX12_homeward 9 "TollsBackModel" (0, 0) 164 [(0, 2, v0), (1, 0, v1), (2, 0, v2), (4, 0, v4), (5, 0, x12), (7, 0, v7), (8, 0, x4)] [(0, y19), (0, v6)] μ15 := by
            intro qy19
            clear hb
            refine r_iadd (pc := 164) hX (dk D_X12_homeward 93 rfl) ?_
            obtain ⟨x20, ex20, h⟩ := bd_some h
            replace ex20 := Option.some.inj ex20
            have qx20 : R32 x20 := ex20 ▸ (R32_w _)
            rw [ex20]
            refine r_istore (lv' := [(6, 0, x20), (0, 2, v0), (1, 0, v1), (2, 0, v2), (4, 0, v4), (5, 0, x12), (7, 0, v7), (8, 0, x4)]) (pc := 165) hX (by decide) rfl (dk D_X12_homeward 94 rfl) ?_
            refine r_aloadn (pc := 167) hX 1 rfl (dk D_X12_homeward 95 rfl) ?_
            refine r_iload (pc := 168) hX 7 rfl (dk D_X12_homeward 96 rfl) ?_
            obtain ⟨_, hi, h⟩ := bd_some h
            obtain ⟨x21, μ22, hx21, h⟩ := bd2_some h
            refine r_invV0 (As := [(0, x4)]) (pc := 170) hX ml_12_240 (L_M_tailOf qx4 hx21) (isk_u hi) (Rm_of hRm (by decide) ⟨by decide, by decide⟩) (by decide) rfl (Nat.le_of_ble_eq_true rfl) rfl (dk D_X12_homeward 97 rfl) (fun qx21 => ?_)
            refine r_istoren (lv' := [(3, 0, x21), (6, 0, x20), (0, 2, v0), (1, 0, v1), (2, 0, v2), (4, 0, v4), (5, 0, x12), (7, 0, v7), (8, 0, x4)]) (pc := 173) hX (by decide) rfl (dk D_X12_homeward 98 rfl) ?_
            refine r_iload (pc := 174) hX 5 rfl (dk D_X12_homeward 99 rfl) ?_
            refine r_aloadn (pc := 176) hX 2 rfl (dk D_X12_homeward 100 rfl) ?_
            obtain ⟨x23, hx23, h⟩ := bd_some h
            refine r_getR (pc := 177) hX fl_12_13 rfl hx23 (dk D_X12_homeward 101 rfl) ?_
            refine r_bipush (pc := 180) hX rfl (dk D_X12_homeward 102 rfl) ?_
            refine r_iload (pc := 182) hX 8 rfl (dk D_X12_homeward 103 rfl) ?_
            refine r_iconst (pc := 184) hX (dk D_X12_homeward 104 rfl) ?_
            obtain ⟨x24, hx24, h⟩ := bd_some h
            refine r_idiv (pc := 185) hX (R32_lit rfl) hx24 (dk D_X12_homeward 105 rfl) (fun qx24 => ?_)
            refine r_iadd (pc := 186) hX (dk D_X12_homeward 106 rfl) ?_
            obtain ⟨x25, hx25, h⟩ := bd_some h
            refine r_iald (pc := 187) hX (R32_w _) hx25 (dk D_X12_homeward 107 rfl) (fun qx25 => ?_)
            refine r_iadd (pc := 188) hX (dk D_X12_homeward 108 rfl) ?_
            obtain ⟨x26, ex26, h⟩ := bd_some h
            replace ex26 := Option.some.inj ex26
            have qx26 : R32 x26 := ex26 ▸ (R32_w _)
            rw [ex26]
            refine r_istore (lv' := [(4, 0, x26), (3, 0, x21), (6, 0, x20), (0, 2, v0), (1, 0, v1), (2, 0, v2), (5, 0, x12), (7, 0, v7), (8, 0, x4)]) (pc := 189) hX (by decide) rfl (dk D_X12_homeward 109 rfl) ?_
            refine r_iinc (lv' := [(7, 0, (w32 (v7 + (-1)))), (4, 0, x26), (3, 0, x21), (6, 0, x20), (0, 2, v0), (1, 0, v1), (2, 0, v2), (5, 0, x12), (8, 0, x4)]) (pc := 191) hX 7 rfl (by decide) rfl (dk D_X12_homeward 110 rfl) ?_
            refine r_goto (pc := 194) hX 71 rfl (dk D_X12_homeward 111 rfl) ?_
            refine r_sub (lv' := [(0, 2, v0), (1, 0, v1), (2, 0, v2), (3, 0, x21), (4, 0, x26), (5, 0, x12), (6, 0, x20), (7, 0, (w32 (v7 + (-1))))]) [4, 5, 6, 2, 1, 7, 3, 0] rfl ?_
            exact ih v0 v1 v2 x21 x26 x12 x20 (w32 (v7 + (-1))) μ22 q_v1 q_v2 qx21 qx26 qx12 qx20 (R32_w _) h
          clear h
          have h := hb
          clear hb
          refine r_icmp_le (pc := 156) hX (R32_w _) qx18 163 rfl (dk D_X12_homeward 89 rfl) (fun hc => ?_) (fun hc => ?_)
          · rw [if_neg hc] at h
            refine r_iconst (pc := 163) hX (dk D_X12_homeward 92 rfl) ?_
            replace h := Option.some.inj h
            subst y19
            refine r_sub (lv' := [(0, 2, v0), (1, 0, v1), (2, 0, v2), (4, 0, v4), (5, 0, x12), (7, 0, v7), (8, 0, x4)]) [2, 3, 4, 6, 0, 8, 1] rfl ?_
            exact hj (R32_lit rfl)
          · rw [if_pos hc] at h
            refine r_iconst (pc := 159) hX (dk D_X12_homeward 90 rfl) ?_
            refine r_goto (pc := 160) hX 164 rfl (dk D_X12_homeward 91 rfl) ?_
            replace h := Option.some.inj h
            subst y19
            refine r_sub (lv' := [(0, 2, v0), (1, 0, v1), (2, 0, v2), (4, 0, v4), (5, 0, x12), (7, 0, v7), (8, 0, x4)]) [2, 3, 4, 6, 0, 8, 1] rfl ?_
            exact hj (R32_lit rfl)
        · rw [if_neg hc] at h
          refine r_iconst (pc := 114) hX (dk D_X12_homeward 64 rfl) ?_
          cases h
          exact r_ireturn (pc := 115) hX (R32_lit rfl) hM ⟨by decide, by decide⟩ (dk D_X12_homeward 65 rfl)
set_option maxRecDepth 100000 in
set_option maxHeartbeats 4000000 in
theorem L_M_homeward {E : EX} {l : Launch} {a0 a1 a2 res : Int} {μ μ' : Mem} (q_a1 : R32 a1) (q_a2 : R32 a2) (h : M_homeward a0 a1 a2 μ = some (res, μ')) : Ok E l 3 yX12_homeward (.code yX12_homeward cX12_homeward 9 (some .int)) 0 0 [(2, a0), (0, a1), (0, a2)] μ (some (0, res)) μ' := by
  refine Ok.of (own := "TollsBackModel") [(0, 2, a0), (1, 0, a1), (2, 0, a2)] (by decide +kernel) rfl (Nat.le_of_ble_eq_true rfl) rfl ?_
  intro X hL hRm hin hX hM
  unfold M_homeward at h
  subst hL
  refine r_aloadn (pc := 0) hX 0 rfl (dk D_X12_homeward 0 rfl) ?_
  refine r_iconst (pc := 1) hX (dk D_X12_homeward 1 rfl) ?_
  obtain ⟨μ1, hμ1, h⟩ := bd_some h
  refine r_putI (pc := 2) hX fl_12_1 rfl rfl (R32_lit rfl) trivial hμ1 (dk D_X12_homeward 2 rfl) ?_
  refine r_aloadn (pc := 5) hX 0 rfl (dk D_X12_homeward 3 rfl) ?_
  refine r_iloadn (pc := 6) hX 1 rfl (dk D_X12_homeward 4 rfl) ?_
  obtain ⟨_, hi, h⟩ := bd_some h
  obtain ⟨x2, μ3, hx2, h⟩ := bd2_some h
  refine r_invV0 (As := [(0, a1)]) (pc := 7) hX ml_12_230 (L_M_isOne q_a1 hx2) (isk_u hi) (Rm_of hRm (by decide) ⟨by decide, by decide⟩) (by decide) rfl (Nat.le_of_ble_eq_true rfl) rfl (dk D_X12_homeward 5 rfl) (fun qx2 => ?_)
  refine r_if_eq (pc := 10) hX qx2 25 rfl (dk D_X12_homeward 6 rfl) (fun hc => ?_) (fun hc => ?_)
  · rw [if_pos hc] at h
    refine r_bipush (pc := 25) hX rfl (dk D_X12_homeward 13 rfl) ?_
    cases h
    exact r_ireturn (pc := 27) hX (R32_lit rfl) hM ⟨by decide, by decide⟩ (dk D_X12_homeward 14 rfl)
  · rw [if_neg hc] at h
    refine r_iloadn (pc := 13) hX 2 rfl (dk D_X12_homeward 7 rfl) ?_
    refine r_i2l (pc := 14) hX q_a2 (dk D_X12_homeward 8 rfl) ?_
    refine r_lconst (x := 0) (pc := 15) hX (by decide) (dk D_X12_homeward 9 rfl) ?_
    refine r_ldc2 (pc := 16) hX cn_12_287 (dk D_X12_homeward 10 rfl) ?_
    obtain ⟨x4, μ5, hx4, h⟩ := bd2_some h
    refine r_invS0 (As := [(1, a2), (1, 0), (1, 2)]) (pc := 19) hX ml_12_178 (L_M_within (R64_of q_a2) (R64_lit rfl) (R64_lit rfl) hx4) (Rm_of hRm (by decide) ⟨by decide, by decide⟩) (by decide) rfl (Nat.le_of_ble_eq_true rfl) rfl (dk D_X12_homeward 11 rfl) (fun qx4 => ?_)
    refine r_if_ne (pc := 22) hX qx4 28 rfl (dk D_X12_homeward 12 rfl) (fun hc => ?_) (fun hc => ?_)
    · rw [if_neg hc] at h
      refine r_aloadn (pc := 28) hX 0 rfl (dk D_X12_homeward 15 rfl) ?_
      obtain ⟨x6, hx6, h⟩ := bd_some h
      refine r_getR (pc := 29) hX fl_12_13 rfl hx6 (dk D_X12_homeward 16 rfl) ?_
      refine r_sipush (pc := 32) hX rfl (dk D_X12_homeward 17 rfl) ?_
      refine r_iloadn (pc := 35) hX 1 rfl (dk D_X12_homeward 18 rfl) ?_
      refine r_iadd (pc := 36) hX (dk D_X12_homeward 19 rfl) ?_
      obtain ⟨x7, hx7, h⟩ := bd_some h
      refine r_iald (pc := 37) hX (R32_w _) hx7 (dk D_X12_homeward 20 rfl) (fun qx7 => ?_)
      refine r_istoren (lv' := [(3, 0, x7), (0, 2, a0), (1, 0, a1), (2, 0, a2)]) (pc := 38) hX (by decide) rfl (dk D_X12_homeward 21 rfl) ?_
      refine r_aloadn (pc := 39) hX 1 rfl (dk D_X12_homeward 22 rfl) ?_
      obtain ⟨x8, hx8, h⟩ := bd_some h
      refine r_getR (pc := 40) hX fl_12_13 rfl hx8 (dk D_X12_homeward 23 rfl) ?_
      refine r_sipush (pc := 43) hX rfl (dk D_X12_homeward 24 rfl) ?_
      refine r_iloadn (pc := 46) hX 2 rfl (dk D_X12_homeward 25 rfl) ?_
      refine r_iadd (pc := 47) hX (dk D_X12_homeward 26 rfl) ?_
      obtain ⟨x9, hx9, h⟩ := bd_some h
      refine r_iald (pc := 48) hX (R32_w _) hx9 (dk D_X12_homeward 27 rfl) (fun qx9 => ?_)
      refine r_istore (lv' := [(4, 0, x9), (3, 0, x7), (0, 2, a0), (1, 0, a1), (2, 0, a2)]) (pc := 49) hX (by decide) rfl (dk D_X12_homeward 28 rfl) ?_
      refine r_iconst (pc := 51) hX (dk D_X12_homeward 29 rfl) ?_
      refine r_istore (lv' := [(5, 0, 0), (4, 0, x9), (3, 0, x7), (0, 2, a0), (1, 0, a1), (2, 0, a2)]) (pc := 52) hX (by decide) rfl (dk D_X12_homeward 30 rfl) ?_
      refine r_iconst (pc := 54) hX (dk D_X12_homeward 31 rfl) ?_
      refine r_istore (lv' := [(6, 0, 0), (5, 0, 0), (4, 0, x9), (3, 0, x7), (0, 2, a0), (1, 0, a1), (2, 0, a2)]) (pc := 55) hX (by decide) rfl (dk D_X12_homeward 32 rfl) ?_
      refine r_aloadn (pc := 57) hX 4 rfl (dk D_X12_homeward 33 rfl) ?_
      obtain ⟨x10, hx10, h⟩ := bd_some h
      refine r_getR (pc := 58) hX fl_12_13 rfl hx10 (dk D_X12_homeward 34 rfl) ?_
      refine r_sipush (pc := 61) hX rfl (dk D_X12_homeward 35 rfl) ?_
      refine r_iloadn (pc := 64) hX 5 rfl (dk D_X12_homeward 36 rfl) ?_
      refine r_iadd (pc := 65) hX (dk D_X12_homeward 37 rfl) ?_
      obtain ⟨x11, hx11, h⟩ := bd_some h
      refine r_iald (pc := 66) hX (R32_w _) hx11 (dk D_X12_homeward 38 rfl) (fun qx11 => ?_)
      refine r_iconst (pc := 67) hX (dk D_X12_homeward 39 rfl) ?_
      refine r_isub (pc := 68) hX (dk D_X12_homeward 40 rfl) ?_
      obtain ⟨x12, ex12, h⟩ := bd_some h
      replace ex12 := Option.some.inj ex12
      have qx12 : R32 x12 := ex12 ▸ (R32_w _)
      rw [ex12]
      refine r_istore (lv' := [(7, 0, x12), (6, 0, 0), (5, 0, 0), (4, 0, x9), (3, 0, x7), (0, 2, a0), (1, 0, a1), (2, 0, a2)]) (pc := 69) hX (by decide) rfl (dk D_X12_homeward 41 rfl) ?_
      refine r_sub (lv' := [(0, 2, a0), (1, 0, a1), (2, 0, a2), (3, 0, x7), (4, 0, x9), (5, 0, 0), (6, 0, 0), (7, 0, x12)]) [5, 6, 7, 4, 3, 2, 1, 0] rfl ?_
      refine L_M_homeward_L71 hX hM hRm ?_ FU a0 a1 a2 x7 x9 0 0 x12 μ5 q_a1 q_a2 qx7 qx9 (R32_lit rfl) (R32_lit rfl) qx12 h
      intro x13 x14 x15 x16 x17 x18 μ19 qx14 qx15 qx16 qx17 qx18 h
      refine r_iloadn (pc := 197) hX 2 rfl (dk D_X12_homeward 112 rfl) ?_
      refine r_if_ne (pc := 198) hX qx15 206 rfl (dk D_X12_homeward 113 rfl) (fun hc => ?_) (fun hc => ?_)
      · rw [if_neg hc] at h
        refine r_iloadn (pc := 206) hX 2 rfl (dk D_X12_homeward 116 rfl) ?_
        refine r_iconst (pc := 207) hX (dk D_X12_homeward 117 rfl) ?_
        refine r_icmp_ne (pc := 208) hX qx15 (R32_lit rfl) 227 rfl (dk D_X12_homeward 118 rfl) (fun hc => ?_) (fun hc => ?_)
        · rw [if_neg hc] at h
          refine r_iload (pc := 227) hX 5 rfl (dk D_X12_homeward 128 rfl) ?_
          cases h
          exact r_ireturn (pc := 229) hX qx18 hM ⟨by decide, by decide⟩ (dk D_X12_homeward 129 rfl)
        · rw [if_pos hc] at h
          refine r_iload (pc := 211) hX 3 rfl (dk D_X12_homeward 119 rfl) ?_
          refine r_aloadn (pc := 213) hX 0 rfl (dk D_X12_homeward 120 rfl) ?_
          obtain ⟨x20, hx20, h⟩ := bd_some h
          refine r_getR (pc := 214) hX fl_12_13 rfl hx20 (dk D_X12_homeward 121 rfl) ?_
          refine r_sipush (pc := 217) hX rfl (dk D_X12_homeward 122 rfl) ?_
          refine r_iloadn (pc := 220) hX 1 rfl (dk D_X12_homeward 123 rfl) ?_
          refine r_iadd (pc := 221) hX (dk D_X12_homeward 124 rfl) ?_
          obtain ⟨x21, hx21, h⟩ := bd_some h
          refine r_iald (pc := 222) hX (R32_w _) hx21 (dk D_X12_homeward 125 rfl) (fun qx21 => ?_)
          refine r_isub (pc := 223) hX (dk D_X12_homeward 126 rfl) ?_
          refine r_goto (pc := 224) hX 229 rfl (dk D_X12_homeward 127 rfl) ?_
          cases h
          exact r_ireturn (pc := 229) hX (R32_w _) hM ⟨by decide, by decide⟩ (dk D_X12_homeward 129 rfl)
      · rw [if_pos hc] at h
        refine r_iload (pc := 201) hX 4 rfl (dk D_X12_homeward 114 rfl) ?_
        refine r_goto (pc := 203) hX 229 rfl (dk D_X12_homeward 115 rfl) ?_
        cases h
        exact r_ireturn (pc := 229) hX qx17 hM ⟨by decide, by decide⟩ (dk D_X12_homeward 129 rfl)
    · rw [if_pos hc] at h
      refine r_bipush (pc := 25) hX rfl (dk D_X12_homeward 13 rfl) ?_
      cases h
      exact r_ireturn (pc := 27) hX (R32_lit rfl) hM ⟨by decide, by decide⟩ (dk D_X12_homeward 14 rfl)
set_option maxRecDepth 100000 in
set_option maxHeartbeats 4000000 in
theorem L_M_looksAt_L16 {E : EX} {X : CX} {res : Int} {μe : Mem} (hX : Good E X cX12_looksAt 4 "TollsBackModel") (hM : GoodM E X none none μe 0 0) (hRm : cR X = rmOf 3 0 0) : ∀ (n : Nat) (v0 v1 v2 v3 : Int) (μ : Mem) (q_v1 : R32 v1) (q_v2 : R32 v2) (q_v3 : R32 v3) (h : M_looksAt_L16 n v0 v1 v2 v3 μ = some (res, μe)), At E X cX12_looksAt 4 "TollsBackModel" (0, 0) 16 [(0, 2, v0), (1, 0, v1), (2, 0, v2), (3, 0, v3)] [] μ := by
  intro n
  induction n with
  | zero =>
    intro v0 v1 v2 v3 μ q_v1 q_v2 q_v3 h
    have h : (none : Option (Int × Mem)) = some (res, μe) := h
    cases h
  | succ n ih =>
    intro v0 v1 v2 v3 μ q_v1 q_v2 q_v3 h
    rw [M_looksAt_L16.eq_2] at h
    refine r_iloadn (pc := 16) hX 3 rfl (dk D_X12_looksAt 10 rfl) ?_
    refine r_aloadn (pc := 17) hX 0 rfl (dk D_X12_looksAt 11 rfl) ?_
    obtain ⟨x1, hx1, h⟩ := bd_some h
    refine r_getI (pc := 18) hX fl_12_289 rfl rfl hx1 (dk D_X12_looksAt 12 rfl) (fun qx1 => ?_)
    refine r_icmp_ge (pc := 21) hX q_v3 qx1 63 rfl (dk D_X12_looksAt 13 rfl) (fun hc => ?_) (fun hc => ?_)
    · rw [if_neg hc] at h
      cases h
      exact r_return (pc := 63) hX hM ⟨by decide, by decide⟩ (dk D_X12_looksAt 37 rfl)
    · rw [if_pos hc] at h
      refine r_aloadn (pc := 24) hX 0 rfl (dk D_X12_looksAt 14 rfl) ?_
      obtain ⟨x2, hx2, h⟩ := bd_some h
      refine r_getR (pc := 25) hX fl_12_43 rfl hx2 (dk D_X12_looksAt 15 rfl) ?_
      refine r_iloadn (pc := 28) hX 3 rfl (dk D_X12_looksAt 16 rfl) ?_
      refine r_aloadn (pc := 29) hX 0 rfl (dk D_X12_looksAt 17 rfl) ?_
      obtain ⟨x3, hx3, h⟩ := bd_some h
      refine r_getR (pc := 30) hX fl_12_13 rfl hx3 (dk D_X12_looksAt 18 rfl) ?_
      refine r_sipush (pc := 33) hX rfl (dk D_X12_looksAt 19 rfl) ?_
      refine r_iloadn (pc := 36) hX 1 rfl (dk D_X12_looksAt 20 rfl) ?_
      refine r_iloadn (pc := 37) hX 3 rfl (dk D_X12_looksAt 21 rfl) ?_
      obtain ⟨x4, μ5, hx4, h⟩ := bd2_some h
      refine r_invS0 (As := [(0, v1), (0, v3)]) (pc := 38) hX ml_12_233 (L_M_slipAt q_v1 q_v3 hx4) (Rm_of hRm (by decide) ⟨by decide, by decide⟩) (by decide) rfl (Nat.le_of_ble_eq_true rfl) rfl (dk D_X12_looksAt 22 rfl) (fun qx4 => ?_)
      refine r_iadd (pc := 41) hX (dk D_X12_looksAt 23 rfl) ?_
      obtain ⟨x6, hx6, h⟩ := bd_some h
      refine r_iald (pc := 42) hX (R32_w _) hx6 (dk D_X12_looksAt 24 rfl) (fun qx6 => ?_)
      obtain ⟨μ7, hμ7, h⟩ := bd_some h
      refine r_iast (pc := 43) hX q_v3 qx6 hμ7 (dk D_X12_looksAt 25 rfl) ?_
      refine r_aloadn (pc := 44) hX 0 rfl (dk D_X12_looksAt 26 rfl) ?_
      obtain ⟨x8, hx8, h⟩ := bd_some h
      refine r_getR (pc := 45) hX fl_12_46 rfl hx8 (dk D_X12_looksAt 27 rfl) ?_
      refine r_iloadn (pc := 48) hX 3 rfl (dk D_X12_looksAt 28 rfl) ?_
      refine r_aloadn (pc := 49) hX 0 rfl (dk D_X12_looksAt 29 rfl) ?_
      refine r_iloadn (pc := 50) hX 1 rfl (dk D_X12_looksAt 30 rfl) ?_
      refine r_iloadn (pc := 51) hX 3 rfl (dk D_X12_looksAt 31 rfl) ?_
      refine r_iloadn (pc := 52) hX 2 rfl (dk D_X12_looksAt 32 rfl) ?_
      obtain ⟨_, hi, h⟩ := bd_some h
      obtain ⟨x9, μ10, hx9, h⟩ := bd2_some h
      refine r_invV0 (As := [(0, v1), (0, v3), (0, v2)]) (pc := 53) hX ml_12_246 (L_M_worthOf q_v1 q_v3 q_v2 hx9) (isk_u hi) (Rm_of hRm (by decide) ⟨by decide, by decide⟩) (by decide) rfl (Nat.le_of_ble_eq_true rfl) rfl (dk D_X12_looksAt 33 rfl) (fun qx9 => ?_)
      obtain ⟨μ11, hμ11, h⟩ := bd_some h
      refine r_iast (pc := 56) hX q_v3 qx9 hμ11 (dk D_X12_looksAt 34 rfl) ?_
      refine r_iinc (lv' := [(3, 0, (w32 (v3 + 1))), (0, 2, v0), (1, 0, v1), (2, 0, v2)]) (pc := 57) hX 3 rfl (by decide) rfl (dk D_X12_looksAt 35 rfl) ?_
      refine r_goto (pc := 60) hX 16 rfl (dk D_X12_looksAt 36 rfl) ?_
      refine r_sub (lv' := [(0, 2, v0), (1, 0, v1), (2, 0, v2), (3, 0, (w32 (v3 + 1)))]) [1, 2, 3, 0] rfl ?_
      exact ih v0 v1 v2 (w32 (v3 + 1)) μ11 q_v1 q_v2 (R32_w _) h
set_option maxRecDepth 100000 in
set_option maxHeartbeats 4000000 in
theorem L_M_looksAt {E : EX} {l : Launch} {a0 a1 a2 res : Int} {μ μ' : Mem} (q_a1 : R32 a1) (q_a2 : R32 a2) (h : M_looksAt a0 a1 a2 μ = some (res, μ')) : Ok E l 3 yX12_looksAt (.code yX12_looksAt cX12_looksAt 4 none) 0 0 [(2, a0), (0, a1), (0, a2)] μ none μ' := by
  refine Ok.of (own := "TollsBackModel") [(0, 2, a0), (1, 0, a1), (2, 0, a2)] (by decide +kernel) rfl (Nat.le_of_ble_eq_true rfl) rfl ?_
  intro X hL hRm hin hX hM
  unfold M_looksAt at h
  subst hL
  refine r_aloadn (pc := 0) hX 0 rfl (dk D_X12_looksAt 0 rfl) ?_
  refine r_aloadn (pc := 1) hX 0 rfl (dk D_X12_looksAt 1 rfl) ?_
  obtain ⟨x1, hx1, h⟩ := bd_some h
  refine r_getR (pc := 2) hX fl_12_13 rfl hx1 (dk D_X12_looksAt 2 rfl) ?_
  refine r_sipush (pc := 5) hX rfl (dk D_X12_looksAt 3 rfl) ?_
  refine r_iloadn (pc := 8) hX 1 rfl (dk D_X12_looksAt 4 rfl) ?_
  refine r_iadd (pc := 9) hX (dk D_X12_looksAt 5 rfl) ?_
  obtain ⟨x2, hx2, h⟩ := bd_some h
  refine r_iald (pc := 10) hX (R32_w _) hx2 (dk D_X12_looksAt 6 rfl) (fun qx2 => ?_)
  obtain ⟨μ3, hμ3, h⟩ := bd_some h
  refine r_putI (pc := 11) hX fl_12_289 rfl rfl qx2 trivial hμ3 (dk D_X12_looksAt 7 rfl) ?_
  refine r_iconst (pc := 14) hX (dk D_X12_looksAt 8 rfl) ?_
  refine r_istoren (lv' := [(3, 0, 0), (0, 2, a0), (1, 0, a1), (2, 0, a2)]) (pc := 15) hX (by decide) rfl (dk D_X12_looksAt 9 rfl) ?_
  refine r_sub (lv' := [(0, 2, a0), (1, 0, a1), (2, 0, a2), (3, 0, 0)]) [1, 2, 3, 0] rfl ?_
  refine L_M_looksAt_L16 hX hM hRm FU a0 a1 a2 0 μ3 q_a1 q_a2 (R32_lit rfl) h
set_option maxRecDepth 100000 in
set_option maxHeartbeats 4000000 in
theorem L_M_better_J65 {E : EX} {X : CX} {res : Int} {μe : Mem} (hX : Good E X cX12_better 7 "TollsBackModel") (hM : GoodM E X (some .boolean) (some (0, res)) μe 0 0) (hRm : cR X = rmOf 1 0 0) {v0 v2 v5 v6 : Int} {μ : Mem} (q_v2 : R32 v2) (q_v5 : R32 v5) (q_v6 : R32 v6) (h : M_better_J65 v0 v2 v5 v6 μ = some (res, μe)) : At E X cX12_better 7 "TollsBackModel" (0, 0) 65 [(0, 2, v0), (2, 0, v2), (5, 0, v5), (6, 0, v6)] [] μ := by
  unfold M_better_J65 at h
  refine r_aloadn (pc := 65) hX 0 rfl (dk D_X12_better 39 rfl) ?_
  obtain ⟨x1, hx1, h⟩ := bd_some h
  refine r_getR (pc := 66) hX fl_12_49 rfl hx1 (dk D_X12_better 40 rfl) ?_
  refine r_iloadn (pc := 69) hX 1 rfl (dk D_X12_better 41 rfl) ?_
  refine r_iconst (pc := 70) hX (dk D_X12_better 42 rfl) ?_
  obtain ⟨μ2, hμ2, h⟩ := bd_some h
  refine r_zast (pc := 71) hX q_v2 (R32_lit rfl) (Or.inr rfl) hμ2 (dk D_X12_better 43 rfl) ?_
  refine r_aloadn (pc := 72) hX 0 rfl (dk D_X12_better 44 rfl) ?_
  obtain ⟨x3, hx3, h⟩ := bd_some h
  refine r_getR (pc := 73) hX fl_12_37 rfl hx3 (dk D_X12_better 45 rfl) ?_
  refine r_iloadn (pc := 76) hX 1 rfl (dk D_X12_better 46 rfl) ?_
  refine r_iload (pc := 77) hX 2 rfl (dk D_X12_better 47 rfl) ?_
  obtain ⟨μ4, hμ4, h⟩ := bd_some h
  refine r_iast (pc := 79) hX q_v2 q_v5 hμ4 (dk D_X12_better 48 rfl) ?_
  refine r_aloadn (pc := 80) hX 0 rfl (dk D_X12_better 49 rfl) ?_
  obtain ⟨x5, hx5, h⟩ := bd_some h
  refine r_getR (pc := 81) hX fl_12_40 rfl hx5 (dk D_X12_better 50 rfl) ?_
  refine r_iloadn (pc := 84) hX 1 rfl (dk D_X12_better 51 rfl) ?_
  refine r_iload (pc := 85) hX 3 rfl (dk D_X12_better 52 rfl) ?_
  obtain ⟨μ6, hμ6, h⟩ := bd_some h
  refine r_iast (pc := 87) hX q_v2 q_v6 hμ6 (dk D_X12_better 53 rfl) ?_
  refine r_iconst (pc := 88) hX (dk D_X12_better 54 rfl) ?_
  cases h
  exact r_zreturn (pc := 89) hX (R32_lit rfl) hM (Or.inr rfl) ⟨by decide, by decide⟩ (dk D_X12_better 55 rfl)
set_option maxRecDepth 100000 in
set_option maxHeartbeats 4000000 in
theorem L_M_better {E : EX} {l : Launch} {a0 a1 a2 a3 a4 res : Int} {μ μ' : Mem} (q_a1 : R32 a1) (q_a2 : R32 a2) (q_a3 : R32 a3) (q_a4 : R32 a4) (h : M_better a0 a1 a2 a3 a4 μ = some (res, μ')) : Ok E l 1 yX12_better (.code yX12_better cX12_better 7 (some .boolean)) 0 0 [(2, a0), (0, a1), (0, a2), (0, a3), (0, a4)] μ (some (0, res)) μ' := by
  refine Ok.of (own := "TollsBackModel") [(0, 2, a0), (1, 0, a1), (2, 0, a2), (3, 0, a3), (4, 0, a4)] (by decide +kernel) rfl (Nat.le_of_ble_eq_true rfl) rfl ?_
  intro X hL hRm hin hX hM
  unfold M_better at h
  subst hL
  refine r_aloadn (pc := 0) hX 0 rfl (dk D_X12_better 0 rfl) ?_
  obtain ⟨x1, hx1, h⟩ := bd_some h
  refine r_getR (pc := 1) hX fl_12_37 rfl hx1 (dk D_X12_better 1 rfl) ?_
  refine r_iloadn (pc := 4) hX 1 rfl (dk D_X12_better 2 rfl) ?_
  obtain ⟨x2, hx2, h⟩ := bd_some h
  refine r_iald (pc := 5) hX q_a1 hx2 (dk D_X12_better 3 rfl) (fun qx2 => ?_)
  refine r_iloadn (pc := 6) hX 3 rfl (dk D_X12_better 4 rfl) ?_
  refine r_iadd (pc := 7) hX (dk D_X12_better 5 rfl) ?_
  obtain ⟨x3, ex3, h⟩ := bd_some h
  replace ex3 := Option.some.inj ex3
  have qx3 : R32 x3 := ex3 ▸ (R32_w _)
  rw [ex3]
  refine r_istore (lv' := [(5, 0, x3), (0, 2, a0), (1, 0, a1), (2, 0, a2), (3, 0, a3), (4, 0, a4)]) (pc := 8) hX (by decide) rfl (dk D_X12_better 6 rfl) ?_
  refine r_aloadn (pc := 10) hX 1 rfl (dk D_X12_better 7 rfl) ?_
  obtain ⟨x4, hx4, h⟩ := bd_some h
  refine r_getR (pc := 11) hX fl_12_40 rfl hx4 (dk D_X12_better 8 rfl) ?_
  refine r_iloadn (pc := 14) hX 2 rfl (dk D_X12_better 9 rfl) ?_
  obtain ⟨x5, hx5, h⟩ := bd_some h
  refine r_iald (pc := 15) hX q_a1 hx5 (dk D_X12_better 10 rfl) (fun qx5 => ?_)
  refine r_iload (pc := 16) hX 5 rfl (dk D_X12_better 11 rfl) ?_
  refine r_iadd (pc := 18) hX (dk D_X12_better 12 rfl) ?_
  obtain ⟨x6, ex6, h⟩ := bd_some h
  replace ex6 := Option.some.inj ex6
  have qx6 : R32 x6 := ex6 ▸ (R32_w _)
  rw [ex6]
  refine r_istore (lv' := [(6, 0, x6), (5, 0, x3), (0, 2, a0), (1, 0, a1), (2, 0, a2), (3, 0, a3), (4, 0, a4)]) (pc := 19) hX (by decide) rfl (dk D_X12_better 13 rfl) ?_
  refine r_aloadn (pc := 21) hX 2 rfl (dk D_X12_better 14 rfl) ?_
  obtain ⟨x7, hx7, h⟩ := bd_some h
  refine r_getR (pc := 22) hX fl_12_49 rfl hx7 (dk D_X12_better 15 rfl) ?_
  refine r_iloadn (pc := 25) hX 4 rfl (dk D_X12_better 16 rfl) ?_
  obtain ⟨x8, hx8, h⟩ := bd_some h
  refine r_zald (pc := 26) hX q_a2 hx8 (dk D_X12_better 17 rfl) (fun qx8 => ?_)
  refine r_if_eq (pc := 27) hX qx8 65 rfl (dk D_X12_better 18 rfl) (fun hc => ?_) (fun hc => ?_)
  · rw [if_pos hc] at h
    refine r_sub (lv' := [(0, 2, a0), (2, 0, a2), (5, 0, x3), (6, 0, x6)]) [2, 4, 1, 0] rfl ?_
    refine L_M_better_J65 hX hM hRm q_a2 qx3 qx6 h
  · rw [if_neg hc] at h
    refine r_iload (pc := 30) hX 1 rfl (dk D_X12_better 19 rfl) ?_
    refine r_aloadn (pc := 32) hX 2 rfl (dk D_X12_better 20 rfl) ?_
    obtain ⟨x9, hx9, h⟩ := bd_some h
    refine r_getR (pc := 33) hX fl_12_37 rfl hx9 (dk D_X12_better 21 rfl) ?_
    refine r_iloadn (pc := 36) hX 4 rfl (dk D_X12_better 22 rfl) ?_
    obtain ⟨x10, hx10, h⟩ := bd_some h
    refine r_iald (pc := 37) hX q_a2 hx10 (dk D_X12_better 23 rfl) (fun qx10 => ?_)
    refine r_icmp_gt (pc := 38) hX qx3 qx10 63 rfl (dk D_X12_better 24 rfl) (fun hc => ?_) (fun hc => ?_)
    · rw [if_pos hc] at h
      refine r_iconst (pc := 63) hX (dk D_X12_better 37 rfl) ?_
      cases h
      exact r_zreturn (pc := 64) hX (R32_lit rfl) hM (Or.inl rfl) ⟨by decide, by decide⟩ (dk D_X12_better 38 rfl)
    · rw [if_neg hc] at h
      refine r_iload (pc := 41) hX 1 rfl (dk D_X12_better 25 rfl) ?_
      refine r_aloadn (pc := 43) hX 2 rfl (dk D_X12_better 26 rfl) ?_
      obtain ⟨x11, hx11, h⟩ := bd_some h
      refine r_getR (pc := 44) hX fl_12_37 rfl hx11 (dk D_X12_better 27 rfl) ?_
      refine r_iloadn (pc := 47) hX 4 rfl (dk D_X12_better 28 rfl) ?_
      obtain ⟨x12, hx12, h⟩ := bd_some h
      refine r_iald (pc := 48) hX q_a2 hx12 (dk D_X12_better 29 rfl) (fun qx12 => ?_)
      refine r_icmp_ne (pc := 49) hX qx3 qx12 65 rfl (dk D_X12_better 30 rfl) (fun hc => ?_) (fun hc => ?_)
      · rw [if_neg hc] at h
        refine r_sub (lv' := [(0, 2, a0), (2, 0, a2), (5, 0, x3), (6, 0, x6)]) [2, 4, 1, 0] rfl ?_
        refine L_M_better_J65 hX hM hRm q_a2 qx3 qx6 h
      · rw [if_pos hc] at h
        refine r_iload (pc := 52) hX 0 rfl (dk D_X12_better 31 rfl) ?_
        refine r_aloadn (pc := 54) hX 2 rfl (dk D_X12_better 32 rfl) ?_
        obtain ⟨x13, hx13, h⟩ := bd_some h
        refine r_getR (pc := 55) hX fl_12_40 rfl hx13 (dk D_X12_better 33 rfl) ?_
        refine r_iloadn (pc := 58) hX 4 rfl (dk D_X12_better 34 rfl) ?_
        obtain ⟨x14, hx14, h⟩ := bd_some h
        refine r_iald (pc := 59) hX q_a2 hx14 (dk D_X12_better 35 rfl) (fun qx14 => ?_)
        refine r_icmp_lt (pc := 60) hX qx6 qx14 65 rfl (dk D_X12_better 36 rfl) (fun hc => ?_) (fun hc => ?_)
        · rw [if_pos hc] at h
          refine r_sub (lv' := [(0, 2, a0), (2, 0, a2), (5, 0, x3), (6, 0, x6)]) [2, 4, 1, 0] rfl ?_
          refine L_M_better_J65 hX hM hRm q_a2 qx3 qx6 h
        · rw [if_neg hc] at h
          refine r_iconst (pc := 63) hX (dk D_X12_better 37 rfl) ?_
          cases h
          exact r_zreturn (pc := 64) hX (R32_lit rfl) hM (Or.inl rfl) ⟨by decide, by decide⟩ (dk D_X12_better 38 rfl)
set_option maxRecDepth 100000 in
set_option maxHeartbeats 4000000 in
theorem L_M_cheap_L2 {E : EX} {X : CX} {res : Int} {μe : Mem} (hX : Good E X cX12_cheap 10 "TollsBackModel") (hM : GoodM E X (some .boolean) (some (0, res)) μe 0 0) (hRm : cR X = rmOf 4 0 0) {k22 : Int → Int → Int → Mem → Option (Int × Mem)} (hk22 : ∀ (u0 u1 u2 : Int) (μ : Mem), R32 u1 → R32 u2 → k22 u0 u1 u2 μ = some (res, μe) → At E X cX12_cheap 10 "TollsBackModel" (0, 0) 22 [(0, 2, u0), (1, 0, u1), (2, 0, u2)] [] μ) : ∀ (n : Nat) (v0 v1 v2 v3 : Int) (μ : Mem) (q_v1 : R32 v1) (q_v2 : R32 v2) (q_v3 : R32 v3) (h : M_cheap_L2 k22 n v0 v1 v2 v3 μ = some (res, μe)), At E X cX12_cheap 10 "TollsBackModel" (0, 0) 2 [(0, 2, v0), (1, 0, v1), (2, 0, v2), (3, 0, v3)] [] μ := by
  intro n
  induction n with
  | zero =>
    intro v0 v1 v2 v3 μ q_v1 q_v2 q_v3 h
    have h : (none : Option (Int × Mem)) = some (res, μe) := h
    cases h
  | succ n ih =>
    intro v0 v1 v2 v3 μ q_v1 q_v2 q_v3 h
    rw [M_cheap_L2.eq_2] at h
    refine r_iloadn (pc := 2) hX 3 rfl (dk D_X12_cheap 2 rfl) ?_
    refine r_sipush (pc := 3) hX rfl (dk D_X12_cheap 3 rfl) ?_
    refine r_icmp_ge (pc := 6) hX q_v3 (R32_lit rfl) 22 rfl (dk D_X12_cheap 4 rfl) (fun hc => ?_) (fun hc => ?_)
    · rw [if_neg hc] at h
      refine r_sub (lv' := [(0, 2, v0), (1, 0, v1), (2, 0, v2)]) [0, 1, 2] rfl ?_
      exact hk22 v0 v1 v2 μ q_v1 q_v2 h
    · rw [if_pos hc] at h
      refine r_aloadn (pc := 9) hX 0 rfl (dk D_X12_cheap 5 rfl) ?_
      obtain ⟨x1, hx1, h⟩ := bd_some h
      refine r_getR (pc := 10) hX fl_12_49 rfl hx1 (dk D_X12_cheap 6 rfl) ?_
      refine r_iloadn (pc := 13) hX 3 rfl (dk D_X12_cheap 7 rfl) ?_
      refine r_iconst (pc := 14) hX (dk D_X12_cheap 8 rfl) ?_
      obtain ⟨μ2, hμ2, h⟩ := bd_some h
      refine r_zast (pc := 15) hX q_v3 (R32_lit rfl) (Or.inl rfl) hμ2 (dk D_X12_cheap 9 rfl) ?_
      refine r_iinc (lv' := [(3, 0, (w32 (v3 + 1))), (0, 2, v0), (1, 0, v1), (2, 0, v2)]) (pc := 16) hX 3 rfl (by decide) rfl (dk D_X12_cheap 10 rfl) ?_
      refine r_goto (pc := 19) hX 2 rfl (dk D_X12_cheap 11 rfl) ?_
      refine r_sub (lv' := [(0, 2, v0), (1, 0, v1), (2, 0, v2), (3, 0, (w32 (v3 + 1)))]) [1, 2, 3, 0] rfl ?_
      exact ih v0 v1 v2 (w32 (v3 + 1)) μ2 q_v1 q_v2 (R32_w _) h
set_option maxRecDepth 100000 in
set_option maxHeartbeats 4000000 in
theorem L_M_cheap_L78 {E : EX} {X : CX} {res : Int} {μe : Mem} (hX : Good E X cX12_cheap 10 "TollsBackModel") (hM : GoodM E X (some .boolean) (some (0, res)) μe 0 0) (hRm : cR X = rmOf 4 0 0) {k225 : Int → Int → Int → Int → Mem → Option (Int × Mem)} (hk225 : ∀ (u0 u1 u2 u3 : Int) (μ : Mem), R32 u1 → R32 u2 → R32 u3 → k225 u0 u1 u2 u3 μ = some (res, μe) → At E X cX12_cheap 10 "TollsBackModel" (0, 0) 225 [(0, 2, u0), (2, 0, u1), (4, 0, u2), (5, 0, u3)] [] μ) : ∀ (n : Nat) (v0 v2 v4 v5 v6 : Int) (μ : Mem) (q_v2 : R32 v2) (q_v4 : R32 v4) (q_v5 : R32 v5) (q_v6 : R32 v6) (h : M_cheap_L78 k225 n v0 v2 v4 v5 v6 μ = some (res, μe)), At E X cX12_cheap 10 "TollsBackModel" (0, 0) 78 [(0, 2, v0), (2, 0, v2), (4, 0, v4), (5, 0, v5), (6, 0, v6)] [] μ := by
  intro n
  induction n with
  | zero =>
    intro v0 v2 v4 v5 v6 μ q_v2 q_v4 q_v5 q_v6 h
    have h : (none : Option (Int × Mem)) = some (res, μe) := h
    cases h
  | succ n ih =>
    intro v0 v2 v4 v5 v6 μ q_v2 q_v4 q_v5 q_v6 h
    rw [M_cheap_L78.eq_2] at h
    refine r_iload (pc := 78) hX 4 rfl (dk D_X12_cheap 47 rfl) ?_
    refine r_aloadn (pc := 80) hX 0 rfl (dk D_X12_cheap 48 rfl) ?_
    obtain ⟨x1, hx1, h⟩ := bd_some h
    refine r_getR (pc := 81) hX fl_12_13 rfl hx1 (dk D_X12_cheap 49 rfl) ?_
    refine r_bipush (pc := 84) hX rfl (dk D_X12_cheap 50 rfl) ?_
    obtain ⟨x2, hx2, h⟩ := bd_some h
    refine r_iald (pc := 86) hX (R32_lit rfl) hx2 (dk D_X12_cheap 51 rfl) (fun qx2 => ?_)
    refine r_icmp_ge (pc := 87) hX q_v6 qx2 225 rfl (dk D_X12_cheap 52 rfl) (fun hc => ?_) (fun hc => ?_)
    · rw [if_neg hc] at h
      refine r_sub (lv' := [(0, 2, v0), (2, 0, v2), (4, 0, v4), (5, 0, v5)]) [0, 1, 2, 3] rfl ?_
      exact hk225 v0 v2 v4 v5 μ q_v2 q_v4 q_v5 h
    · rw [if_pos hc] at h
      refine r_aloadn (pc := 90) hX 0 rfl (dk D_X12_cheap 53 rfl) ?_
      refine r_iload (pc := 91) hX 4 rfl (dk D_X12_cheap 54 rfl) ?_
      obtain ⟨_, hi, h⟩ := bd_some h
      obtain ⟨x3, μ4, hx3, h⟩ := bd2_some h
      refine r_invV0 (As := [(0, v6)]) (pc := 93) hX ml_12_213 (L_M_isOpen q_v6 hx3) (isk_u hi) (Rm_of hRm (by decide) ⟨by decide, by decide⟩) (by decide) rfl (Nat.le_of_ble_eq_true rfl) rfl (dk D_X12_cheap 55 rfl) (fun qx3 => ?_)
      refine r_if_ne (pc := 96) hX qx3 102 rfl (dk D_X12_cheap 56 rfl) (fun hc => ?_) (fun hc => ?_)
      · rw [if_neg hc] at h
        refine r_bipush (pc := 102) hX rfl (dk D_X12_cheap 58 rfl) ?_
        refine r_iload (pc := 104) hX 2 rfl (dk D_X12_cheap 59 rfl) ?_
        refine r_imul (pc := 106) hX (dk D_X12_cheap 60 rfl) ?_
        refine r_aloadn (pc := 107) hX 0 rfl (dk D_X12_cheap 61 rfl) ?_
        obtain ⟨x5, hx5, h⟩ := bd_some h
        refine r_getR (pc := 108) hX fl_12_13 rfl hx5 (dk D_X12_cheap 62 rfl) ?_
        refine r_bipush (pc := 111) hX rfl (dk D_X12_cheap 63 rfl) ?_
        refine r_iload (pc := 113) hX 4 rfl (dk D_X12_cheap 64 rfl) ?_
        refine r_iadd (pc := 115) hX (dk D_X12_cheap 65 rfl) ?_
        obtain ⟨x6, hx6, h⟩ := bd_some h
        refine r_iald (pc := 116) hX (R32_w _) hx6 (dk D_X12_cheap 66 rfl) (fun qx6 => ?_)
        refine r_iadd (pc := 117) hX (dk D_X12_cheap 67 rfl) ?_
        obtain ⟨x7, ex7, h⟩ := bd_some h
        replace ex7 := Option.some.inj ex7
        have qx7 : R32 x7 := ex7 ▸ (R32_w _)
        rw [ex7]
        refine r_istore (lv' := [(7, 0, x7), (0, 2, v0), (2, 0, v2), (4, 0, v4), (5, 0, v5), (6, 0, v6)]) (pc := 118) hX (by decide) rfl (dk D_X12_cheap 68 rfl) ?_
        refine r_bipush (pc := 120) hX rfl (dk D_X12_cheap 69 rfl) ?_
        refine r_iload (pc := 122) hX 3 rfl (dk D_X12_cheap 70 rfl) ?_
        refine r_imul (pc := 124) hX (dk D_X12_cheap 71 rfl) ?_
        refine r_aloadn (pc := 125) hX 1 rfl (dk D_X12_cheap 72 rfl) ?_
        obtain ⟨x8, hx8, h⟩ := bd_some h
        refine r_getR (pc := 126) hX fl_12_13 rfl hx8 (dk D_X12_cheap 73 rfl) ?_
        refine r_bipush (pc := 129) hX rfl (dk D_X12_cheap 74 rfl) ?_
        refine r_iload (pc := 131) hX 5 rfl (dk D_X12_cheap 75 rfl) ?_
        refine r_iadd (pc := 133) hX (dk D_X12_cheap 76 rfl) ?_
        obtain ⟨x9, hx9, h⟩ := bd_some h
        refine r_iald (pc := 134) hX (R32_w _) hx9 (dk D_X12_cheap 77 rfl) (fun qx9 => ?_)
        refine r_iadd (pc := 135) hX (dk D_X12_cheap 78 rfl) ?_
        obtain ⟨x10, ex10, h⟩ := bd_some h
        replace ex10 := Option.some.inj ex10
        have qx10 : R32 x10 := ex10 ▸ (R32_w _)
        rw [ex10]
        refine r_istore (lv' := [(8, 0, x10), (7, 0, x7), (0, 2, v0), (2, 0, v2), (4, 0, v4), (5, 0, v5), (6, 0, v6)]) (pc := 136) hX (by decide) rfl (dk D_X12_cheap 79 rfl) ?_
        refine r_aloadn (pc := 138) hX 2 rfl (dk D_X12_cheap 80 rfl) ?_
        refine r_iload (pc := 139) hX 6 rfl (dk D_X12_cheap 81 rfl) ?_
        refine r_iloadn (pc := 141) hX 3 rfl (dk D_X12_cheap 82 rfl) ?_
        obtain ⟨_, hi, h⟩ := bd_some h
        obtain ⟨x11, μ12, hx11, h⟩ := bd2_some h
        refine r_invV0 (As := [(0, v6), (0, v2)]) (pc := 142) hX ml_12_225 (L_M_tollOn q_v6 q_v2 hx11) (isk_u hi) (Rm_of hRm (by decide) ⟨by decide, by decide⟩) (by decide) rfl (Nat.le_of_ble_eq_true rfl) rfl (dk D_X12_cheap 83 rfl) (fun qx11 => ?_)
        refine r_istore (lv' := [(9, 0, x11), (8, 0, x10), (7, 0, x7), (0, 2, v0), (2, 0, v2), (4, 0, v4), (5, 0, v5), (6, 0, v6)]) (pc := 145) hX (by decide) rfl (dk D_X12_cheap 84 rfl) ?_
        refine r_aloadn (pc := 147) hX 3 rfl (dk D_X12_cheap 85 rfl) ?_
        obtain ⟨x13, hx13, h⟩ := bd_some h
        refine r_getR (pc := 148) hX fl_12_49 rfl hx13 (dk D_X12_cheap 86 rfl) ?_
        refine r_iload (pc := 151) hX 2 rfl (dk D_X12_cheap 87 rfl) ?_
        obtain ⟨x14, hx14, h⟩ := bd_some h
        refine r_zald (pc := 153) hX qx7 hx14 (dk D_X12_cheap 88 rfl) (fun qx14 => ?_)
        obtain ⟨y15, μ16, hb, h⟩ := bd2_some h
        have hj : R32 y15 → At E X cX12_cheap 10 "TollsBackModel" (0, 0) 183 [(0, 2, v0), (2, 0, v2), (4, 0, v4), (5, 0, y15), (6, 0, v6), (7, 0, x7), (8, 0, x10), (9, 0, x11)] [] μ16 := by
          intro qy15
          clear hb
          refine r_aloadn (pc := 183) hX 0 rfl (dk D_X12_cheap 103 rfl) ?_
          obtain ⟨x19, hx19, h⟩ := bd_some h
          refine r_getR (pc := 184) hX fl_12_49 rfl hx19 (dk D_X12_cheap 104 rfl) ?_
          refine r_iload (pc := 187) hX 6 rfl (dk D_X12_cheap 105 rfl) ?_
          obtain ⟨x20, hx20, h⟩ := bd_some h
          refine r_zald (pc := 189) hX qx10 hx20 (dk D_X12_cheap 106 rfl) (fun qx20 => ?_)
          refine r_if_eq (pc := 190) hX qx20 219 rfl (dk D_X12_cheap 107 rfl) (fun hc => ?_) (fun hc => ?_)
          · rw [if_pos hc] at h
            refine r_iinc (lv' := [(6, 0, (w32 (v6 + 1))), (0, 2, v0), (2, 0, v2), (4, 0, v4), (5, 0, y15), (7, 0, x7), (8, 0, x10), (9, 0, x11)]) (pc := 219) hX 4 rfl (by decide) rfl (dk D_X12_cheap 121 rfl) ?_
            refine r_goto (pc := 222) hX 78 rfl (dk D_X12_cheap 122 rfl) ?_
            refine r_sub (lv' := [(0, 2, v0), (2, 0, v2), (4, 0, v4), (5, 0, y15), (6, 0, (w32 (v6 + 1)))]) [1, 2, 3, 4, 0] rfl ?_
            exact ih v0 v2 v4 y15 (w32 (v6 + 1)) μ16 q_v2 q_v4 qy15 (R32_w _) h
          · rw [if_neg hc] at h
            refine r_aloadn (pc := 193) hX 0 rfl (dk D_X12_cheap 108 rfl) ?_
            refine r_iload (pc := 194) hX 6 rfl (dk D_X12_cheap 109 rfl) ?_
            refine r_iload (pc := 196) hX 5 rfl (dk D_X12_cheap 110 rfl) ?_
            refine r_iload (pc := 198) hX 7 rfl (dk D_X12_cheap 111 rfl) ?_
            refine r_iconst (pc := 200) hX (dk D_X12_cheap 112 rfl) ?_
            obtain ⟨_, hi, h⟩ := bd_some h
            obtain ⟨x21, μ22, hx21, h⟩ := bd2_some h
            refine r_invV0 (As := [(0, x10), (0, x7), (0, x11), (0, 1)]) (pc := 201) hX ml_12_292 (L_M_better qx10 qx7 qx11 (R32_lit rfl) hx21) (isk_u hi) (Rm_of hRm (by decide) ⟨by decide, by decide⟩) (by decide) rfl (Nat.le_of_ble_eq_true rfl) rfl (dk D_X12_cheap 113 rfl) (fun qx21 => ?_)
            refine r_if_ne (pc := 204) hX qx21 212 rfl (dk D_X12_cheap 114 rfl) (fun hc => ?_) (fun hc => ?_)
            · rw [if_neg hc] at h
              refine r_iconst (pc := 212) hX (dk D_X12_cheap 117 rfl) ?_
              refine r_goto (pc := 213) hX 217 rfl (dk D_X12_cheap 118 rfl) ?_
              refine r_istore (lv' := [(5, 0, 1), (0, 2, v0), (2, 0, v2), (4, 0, v4), (6, 0, v6), (7, 0, x7), (8, 0, x10), (9, 0, x11)]) (pc := 217) hX (by decide) rfl (dk D_X12_cheap 120 rfl) ?_
              refine r_iinc (lv' := [(6, 0, (w32 (v6 + 1))), (5, 0, 1), (0, 2, v0), (2, 0, v2), (4, 0, v4), (7, 0, x7), (8, 0, x10), (9, 0, x11)]) (pc := 219) hX 4 rfl (by decide) rfl (dk D_X12_cheap 121 rfl) ?_
              refine r_goto (pc := 222) hX 78 rfl (dk D_X12_cheap 122 rfl) ?_
              refine r_sub (lv' := [(0, 2, v0), (2, 0, v2), (4, 0, v4), (5, 0, 1), (6, 0, (w32 (v6 + 1)))]) [2, 3, 4, 1, 0] rfl ?_
              exact ih v0 v2 v4 1 (w32 (v6 + 1)) μ22 q_v2 q_v4 (R32_lit rfl) (R32_w _) h
            · rw [if_pos hc] at h
              refine r_iload (pc := 207) hX 3 rfl (dk D_X12_cheap 115 rfl) ?_
              refine r_if_eq (pc := 209) hX qy15 216 rfl (dk D_X12_cheap 116 rfl) (fun hc => ?_) (fun hc => ?_)
              · rw [if_pos hc] at h
                refine r_iconst (pc := 216) hX (dk D_X12_cheap 119 rfl) ?_
                refine r_istore (lv' := [(5, 0, 0), (0, 2, v0), (2, 0, v2), (4, 0, v4), (6, 0, v6), (7, 0, x7), (8, 0, x10), (9, 0, x11)]) (pc := 217) hX (by decide) rfl (dk D_X12_cheap 120 rfl) ?_
                refine r_iinc (lv' := [(6, 0, (w32 (v6 + 1))), (5, 0, 0), (0, 2, v0), (2, 0, v2), (4, 0, v4), (7, 0, x7), (8, 0, x10), (9, 0, x11)]) (pc := 219) hX 4 rfl (by decide) rfl (dk D_X12_cheap 121 rfl) ?_
                refine r_goto (pc := 222) hX 78 rfl (dk D_X12_cheap 122 rfl) ?_
                refine r_sub (lv' := [(0, 2, v0), (2, 0, v2), (4, 0, v4), (5, 0, 0), (6, 0, (w32 (v6 + 1)))]) [2, 3, 4, 1, 0] rfl ?_
                exact ih v0 v2 v4 0 (w32 (v6 + 1)) μ22 q_v2 q_v4 (R32_lit rfl) (R32_w _) h
              · rw [if_neg hc] at h
                refine r_iconst (pc := 212) hX (dk D_X12_cheap 117 rfl) ?_
                refine r_goto (pc := 213) hX 217 rfl (dk D_X12_cheap 118 rfl) ?_
                refine r_istore (lv' := [(5, 0, 1), (0, 2, v0), (2, 0, v2), (4, 0, v4), (6, 0, v6), (7, 0, x7), (8, 0, x10), (9, 0, x11)]) (pc := 217) hX (by decide) rfl (dk D_X12_cheap 120 rfl) ?_
                refine r_iinc (lv' := [(6, 0, (w32 (v6 + 1))), (5, 0, 1), (0, 2, v0), (2, 0, v2), (4, 0, v4), (7, 0, x7), (8, 0, x10), (9, 0, x11)]) (pc := 219) hX 4 rfl (by decide) rfl (dk D_X12_cheap 121 rfl) ?_
                refine r_goto (pc := 222) hX 78 rfl (dk D_X12_cheap 122 rfl) ?_
                refine r_sub (lv' := [(0, 2, v0), (2, 0, v2), (4, 0, v4), (5, 0, 1), (6, 0, (w32 (v6 + 1)))]) [2, 3, 4, 1, 0] rfl ?_
                exact ih v0 v2 v4 1 (w32 (v6 + 1)) μ22 q_v2 q_v4 (R32_lit rfl) (R32_w _) h
        clear h
        have h := hb
        clear hb
        refine r_if_eq (pc := 154) hX qx14 183 rfl (dk D_X12_cheap 89 rfl) (fun hc => ?_) (fun hc => ?_)
        · rw [if_pos hc] at h
          replace h := Option.some.inj h
          obtain ⟨h_0, h⟩ := Prod.mk.inj h
          subst y15
          subst μ16
          refine r_sub (lv' := [(0, 2, v0), (2, 0, v2), (4, 0, v4), (5, 0, v5), (6, 0, v6), (7, 0, x7), (8, 0, x10), (9, 0, x11)]) [3, 4, 5, 6, 7, 2, 1, 0] rfl ?_
          exact hj q_v5
        · rw [if_neg hc] at h
          refine r_aloadn (pc := 157) hX 3 rfl (dk D_X12_cheap 90 rfl) ?_
          refine r_iload (pc := 158) hX 2 rfl (dk D_X12_cheap 91 rfl) ?_
          refine r_iload (pc := 160) hX 1 rfl (dk D_X12_cheap 92 rfl) ?_
          refine r_iload (pc := 162) hX 0 rfl (dk D_X12_cheap 93 rfl) ?_
          refine r_iconst (pc := 164) hX (dk D_X12_cheap 94 rfl) ?_
          obtain ⟨_, hi, h⟩ := bd_some h
          obtain ⟨x17, μ18, hx17, h⟩ := bd2_some h
          refine r_invV0 (As := [(0, x7), (0, x10), (0, x11), (0, 1)]) (pc := 165) hX ml_12_292 (L_M_better qx7 qx10 qx11 (R32_lit rfl) hx17) (isk_u hi) (Rm_of hRm (by decide) ⟨by decide, by decide⟩) (by decide) rfl (Nat.le_of_ble_eq_true rfl) rfl (dk D_X12_cheap 95 rfl) (fun qx17 => ?_)
          refine r_if_ne (pc := 168) hX qx17 176 rfl (dk D_X12_cheap 96 rfl) (fun hc => ?_) (fun hc => ?_)
          · rw [if_neg hc] at h
            refine r_iconst (pc := 176) hX (dk D_X12_cheap 99 rfl) ?_
            refine r_goto (pc := 177) hX 181 rfl (dk D_X12_cheap 100 rfl) ?_
            refine r_istore (lv' := [(5, 0, 1), (9, 0, x11), (8, 0, x10), (7, 0, x7), (0, 2, v0), (2, 0, v2), (4, 0, v4), (6, 0, v6)]) (pc := 181) hX (by decide) rfl (dk D_X12_cheap 102 rfl) ?_
            replace h := Option.some.inj h
            obtain ⟨h_0, h⟩ := Prod.mk.inj h
            subst y15
            subst μ16
            refine r_sub (lv' := [(0, 2, v0), (2, 0, v2), (4, 0, v4), (5, 0, 1), (6, 0, v6), (7, 0, x7), (8, 0, x10), (9, 0, x11)]) [4, 5, 6, 0, 7, 3, 2, 1] rfl ?_
            exact hj (R32_lit rfl)
          · rw [if_pos hc] at h
            refine r_iload (pc := 171) hX 6 rfl (dk D_X12_cheap 97 rfl) ?_
            refine r_if_eq (pc := 173) hX q_v5 180 rfl (dk D_X12_cheap 98 rfl) (fun hc => ?_) (fun hc => ?_)
            · rw [if_pos hc] at h
              refine r_iconst (pc := 180) hX (dk D_X12_cheap 101 rfl) ?_
              refine r_istore (lv' := [(5, 0, 0), (9, 0, x11), (8, 0, x10), (7, 0, x7), (0, 2, v0), (2, 0, v2), (4, 0, v4), (6, 0, v6)]) (pc := 181) hX (by decide) rfl (dk D_X12_cheap 102 rfl) ?_
              replace h := Option.some.inj h
              obtain ⟨h_0, h⟩ := Prod.mk.inj h
              subst y15
              subst μ16
              refine r_sub (lv' := [(0, 2, v0), (2, 0, v2), (4, 0, v4), (5, 0, 0), (6, 0, v6), (7, 0, x7), (8, 0, x10), (9, 0, x11)]) [4, 5, 6, 0, 7, 3, 2, 1] rfl ?_
              exact hj (R32_lit rfl)
            · rw [if_neg hc] at h
              refine r_iconst (pc := 176) hX (dk D_X12_cheap 99 rfl) ?_
              refine r_goto (pc := 177) hX 181 rfl (dk D_X12_cheap 100 rfl) ?_
              refine r_istore (lv' := [(5, 0, 1), (9, 0, x11), (8, 0, x10), (7, 0, x7), (0, 2, v0), (2, 0, v2), (4, 0, v4), (6, 0, v6)]) (pc := 181) hX (by decide) rfl (dk D_X12_cheap 102 rfl) ?_
              replace h := Option.some.inj h
              obtain ⟨h_0, h⟩ := Prod.mk.inj h
              subst y15
              subst μ16
              refine r_sub (lv' := [(0, 2, v0), (2, 0, v2), (4, 0, v4), (5, 0, 1), (6, 0, v6), (7, 0, x7), (8, 0, x10), (9, 0, x11)]) [4, 5, 6, 0, 7, 3, 2, 1] rfl ?_
              exact hj (R32_lit rfl)
      · rw [if_pos hc] at h
        refine r_goto (pc := 99) hX 219 rfl (dk D_X12_cheap 57 rfl) ?_
        refine r_iinc (lv' := [(6, 0, (w32 (v6 + 1))), (0, 2, v0), (2, 0, v2), (4, 0, v4), (5, 0, v5)]) (pc := 219) hX 4 rfl (by decide) rfl (dk D_X12_cheap 121 rfl) ?_
        refine r_goto (pc := 222) hX 78 rfl (dk D_X12_cheap 122 rfl) ?_
        refine r_sub (lv' := [(0, 2, v0), (2, 0, v2), (4, 0, v4), (5, 0, v5), (6, 0, (w32 (v6 + 1)))]) [1, 2, 3, 4, 0] rfl ?_
        exact ih v0 v2 v4 v5 (w32 (v6 + 1)) μ4 q_v2 q_v4 q_v5 (R32_w _) h
set_option maxRecDepth 100000 in
set_option maxHeartbeats 4000000 in
theorem L_M_cheap_L67 {E : EX} {X : CX} {res : Int} {μe : Mem} (hX : Good E X cX12_cheap 10 "TollsBackModel") (hM : GoodM E X (some .boolean) (some (0, res)) μe 0 0) (hRm : cR X = rmOf 4 0 0) {k228 : Int → Int → Int → Mem → Option (Int × Mem)} (hk228 : ∀ (u0 u1 u2 : Int) (μ : Mem), R32 u1 → R32 u2 → k228 u0 u1 u2 μ = some (res, μe) → At E X cX12_cheap 10 "TollsBackModel" (0, 0) 228 [(0, 2, u0), (2, 0, u1), (4, 0, u2)] [] μ) : ∀ (n : Nat) (v0 v2 v4 v5 : Int) (μ : Mem) (q_v2 : R32 v2) (q_v4 : R32 v4) (q_v5 : R32 v5) (h : M_cheap_L67 k228 n v0 v2 v4 v5 μ = some (res, μe)), At E X cX12_cheap 10 "TollsBackModel" (0, 0) 67 [(0, 2, v0), (2, 0, v2), (4, 0, v4), (5, 0, v5)] [] μ := by
  intro n
  induction n with
  | zero =>
    intro v0 v2 v4 v5 μ q_v2 q_v4 q_v5 h
    have h : (none : Option (Int × Mem)) = some (res, μe) := h
    cases h
  | succ n ih =>
    intro v0 v2 v4 v5 μ q_v2 q_v4 q_v5 h
    rw [M_cheap_L67.eq_2] at h
    refine r_iload (pc := 67) hX 3 rfl (dk D_X12_cheap 41 rfl) ?_
    refine r_if_eq (pc := 69) hX q_v5 228 rfl (dk D_X12_cheap 42 rfl) (fun hc => ?_) (fun hc => ?_)
    · rw [if_pos hc] at h
      refine r_sub (lv' := [(0, 2, v0), (2, 0, v2), (4, 0, v4)]) [0, 1, 2] rfl ?_
      exact hk228 v0 v2 v4 μ q_v2 q_v4 h
    · rw [if_neg hc] at h
      refine r_iconst (pc := 72) hX (dk D_X12_cheap 43 rfl) ?_
      refine r_istore (lv' := [(5, 0, 0), (0, 2, v0), (2, 0, v2), (4, 0, v4)]) (pc := 73) hX (by decide) rfl (dk D_X12_cheap 44 rfl) ?_
      refine r_iconst (pc := 75) hX (dk D_X12_cheap 45 rfl) ?_
      refine r_istore (lv' := [(6, 0, 0), (5, 0, 0), (0, 2, v0), (2, 0, v2), (4, 0, v4)]) (pc := 76) hX (by decide) rfl (dk D_X12_cheap 46 rfl) ?_
      refine r_sub (lv' := [(0, 2, v0), (2, 0, v2), (4, 0, v4), (5, 0, 0), (6, 0, 0)]) [2, 3, 4, 1, 0] rfl ?_
      refine L_M_cheap_L78 hX hM hRm ?_ FU v0 v2 v4 0 0 μ q_v2 q_v4 (R32_lit rfl) (R32_lit rfl) h
      intro x1 x2 x3 x4 μ5 qx2 qx3 qx4 h
      refine r_goto (pc := 225) hX 67 rfl (dk D_X12_cheap 123 rfl) ?_
      exact ih x1 x2 x3 x4 μ5 qx2 qx3 qx4 h
set_option maxRecDepth 100000 in
set_option maxHeartbeats 4000000 in
theorem L_M_cheap_L239 {E : EX} {X : CX} {res : Int} {μe : Mem} (hX : Good E X cX12_cheap 10 "TollsBackModel") (hM : GoodM E X (some .boolean) (some (0, res)) μe 0 0) (hRm : cR X = rmOf 4 0 0) {k298 : Int → Int → Int → Mem → Option (Int × Mem)} (hk298 : ∀ (u0 u1 u2 : Int) (μ : Mem), R32 u1 → R32 u2 → k298 u0 u1 u2 μ = some (res, μe) → At E X cX12_cheap 10 "TollsBackModel" (0, 0) 298 [(0, 2, u0), (2, 0, u1), (4, 0, u2)] [] μ) : ∀ (n : Nat) (v0 v2 v4 v6 : Int) (μ : Mem) (q_v2 : R32 v2) (q_v4 : R32 v4) (q_v6 : R32 v6) (h : M_cheap_L239 k298 n v0 v2 v4 v6 μ = some (res, μe)), At E X cX12_cheap 10 "TollsBackModel" (0, 0) 239 [(0, 2, v0), (2, 0, v2), (4, 0, v4), (6, 0, v6)] [] μ := by
  intro n
  induction n with
  | zero =>
    intro v0 v2 v4 v6 μ q_v2 q_v4 q_v6 h
    have h : (none : Option (Int × Mem)) = some (res, μe) := h
    cases h
  | succ n ih =>
    intro v0 v2 v4 v6 μ q_v2 q_v4 q_v6 h
    rw [M_cheap_L239.eq_2] at h
    refine r_iload (pc := 239) hX 3 rfl (dk D_X12_cheap 129 rfl) ?_
    refine r_aloadn (pc := 241) hX 0 rfl (dk D_X12_cheap 130 rfl) ?_
    obtain ⟨x1, hx1, h⟩ := bd_some h
    refine r_getR (pc := 242) hX fl_12_13 rfl hx1 (dk D_X12_cheap 131 rfl) ?_
    refine r_iconst (pc := 245) hX (dk D_X12_cheap 132 rfl) ?_
    obtain ⟨x2, hx2, h⟩ := bd_some h
    refine r_iald (pc := 246) hX (R32_lit rfl) hx2 (dk D_X12_cheap 133 rfl) (fun qx2 => ?_)
    refine r_icmp_ge (pc := 247) hX q_v6 qx2 298 rfl (dk D_X12_cheap 134 rfl) (fun hc => ?_) (fun hc => ?_)
    · rw [if_neg hc] at h
      refine r_sub (lv' := [(0, 2, v0), (2, 0, v2), (4, 0, v4)]) [0, 1, 2] rfl ?_
      exact hk298 v0 v2 v4 μ q_v2 q_v4 h
    · rw [if_pos hc] at h
      refine r_aloadn (pc := 250) hX 0 rfl (dk D_X12_cheap 135 rfl) ?_
      obtain ⟨x3, hx3, h⟩ := bd_some h
      refine r_getR (pc := 251) hX fl_12_49 rfl hx3 (dk D_X12_cheap 136 rfl) ?_
      refine r_bipush (pc := 254) hX rfl (dk D_X12_cheap 137 rfl) ?_
      refine r_iload (pc := 256) hX 2 rfl (dk D_X12_cheap 138 rfl) ?_
      refine r_imul (pc := 258) hX (dk D_X12_cheap 139 rfl) ?_
      refine r_iload (pc := 259) hX 3 rfl (dk D_X12_cheap 140 rfl) ?_
      refine r_iadd (pc := 261) hX (dk D_X12_cheap 141 rfl) ?_
      obtain ⟨x4, hx4, h⟩ := bd_some h
      refine r_zald (pc := 262) hX (R32_w _) hx4 (dk D_X12_cheap 142 rfl) (fun qx4 => ?_)
      refine r_if_eq (pc := 263) hX qx4 292 rfl (dk D_X12_cheap 143 rfl) (fun hc => ?_) (fun hc => ?_)
      · rw [if_pos hc] at h
        refine r_iinc (lv' := [(6, 0, (w32 (v6 + 1))), (0, 2, v0), (2, 0, v2), (4, 0, v4)]) (pc := 292) hX 3 rfl (by decide) rfl (dk D_X12_cheap 161 rfl) ?_
        refine r_goto (pc := 295) hX 239 rfl (dk D_X12_cheap 162 rfl) ?_
        refine r_sub (lv' := [(0, 2, v0), (2, 0, v2), (4, 0, v4), (6, 0, (w32 (v6 + 1)))]) [1, 2, 3, 0] rfl ?_
        exact ih v0 v2 v4 (w32 (v6 + 1)) μ q_v2 q_v4 (R32_w _) h
      · rw [if_neg hc] at h
        refine r_aloadn (pc := 266) hX 0 rfl (dk D_X12_cheap 144 rfl) ?_
        refine r_bipush (pc := 267) hX rfl (dk D_X12_cheap 145 rfl) ?_
        refine r_iload (pc := 269) hX 2 rfl (dk D_X12_cheap 146 rfl) ?_
        refine r_imul (pc := 271) hX (dk D_X12_cheap 147 rfl) ?_
        refine r_iload (pc := 272) hX 3 rfl (dk D_X12_cheap 148 rfl) ?_
        refine r_iadd (pc := 274) hX (dk D_X12_cheap 149 rfl) ?_
        refine r_bipush (pc := 275) hX rfl (dk D_X12_cheap 150 rfl) ?_
        refine r_iload (pc := 277) hX 2 rfl (dk D_X12_cheap 151 rfl) ?_
        refine r_imul (pc := 279) hX (dk D_X12_cheap 152 rfl) ?_
        refine r_bipush (pc := 280) hX rfl (dk D_X12_cheap 153 rfl) ?_
        refine r_isub (pc := 282) hX (dk D_X12_cheap 154 rfl) ?_
        refine r_iload (pc := 283) hX 3 rfl (dk D_X12_cheap 155 rfl) ?_
        refine r_iadd (pc := 285) hX (dk D_X12_cheap 156 rfl) ?_
        refine r_iconst (pc := 286) hX (dk D_X12_cheap 157 rfl) ?_
        refine r_iconst (pc := 287) hX (dk D_X12_cheap 158 rfl) ?_
        obtain ⟨_, hi, h⟩ := bd_some h
        obtain ⟨x5, μ6, hx5, h⟩ := bd2_some h
        refine r_invV0 (As := [(0, (w32 ((w32 (12 * v4)) + v6))), (0, (w32 ((w32 ((w32 (12 * v4)) - 12)) + v6))), (0, 0), (0, 0)]) (pc := 288) hX ml_12_292 (L_M_better (R32_w _) (R32_w _) (R32_lit rfl) (R32_lit rfl) hx5) (isk_u hi) (Rm_of hRm (by decide) ⟨by decide, by decide⟩) (by decide) rfl (Nat.le_of_ble_eq_true rfl) rfl (dk D_X12_cheap 159 rfl) (fun qx5 => ?_)
        refine r_pop (pc := 291) hX rfl (dk D_X12_cheap 160 rfl) ?_
        refine r_iinc (lv' := [(6, 0, (w32 (v6 + 1))), (0, 2, v0), (2, 0, v2), (4, 0, v4)]) (pc := 292) hX 3 rfl (by decide) rfl (dk D_X12_cheap 161 rfl) ?_
        refine r_goto (pc := 295) hX 239 rfl (dk D_X12_cheap 162 rfl) ?_
        refine r_sub (lv' := [(0, 2, v0), (2, 0, v2), (4, 0, v4), (6, 0, (w32 (v6 + 1)))]) [1, 2, 3, 0] rfl ?_
        exact ih v0 v2 v4 (w32 (v6 + 1)) μ6 q_v2 q_v4 (R32_w _) h
set_option maxRecDepth 100000 in
set_option maxHeartbeats 4000000 in
theorem L_M_cheap_L59 {E : EX} {X : CX} {res : Int} {μe : Mem} (hX : Good E X cX12_cheap 10 "TollsBackModel") (hM : GoodM E X (some .boolean) (some (0, res)) μe 0 0) (hRm : cR X = rmOf 4 0 0) {k389 : Int → Mem → Option (Int × Mem)} (hk389 : ∀ (u0 : Int) (μ : Mem), k389 u0 μ = some (res, μe) → At E X cX12_cheap 10 "TollsBackModel" (0, 0) 389 [(0, 2, u0)] [] μ) : ∀ (n : Nat) (v0 v2 v4 : Int) (μ : Mem) (q_v2 : R32 v2) (q_v4 : R32 v4) (h : M_cheap_L59 k389 n v0 v2 v4 μ = some (res, μe)), At E X cX12_cheap 10 "TollsBackModel" (0, 0) 59 [(0, 2, v0), (2, 0, v2), (4, 0, v4)] [] μ := by
  intro n
  induction n with
  | zero =>
    intro v0 v2 v4 μ q_v2 q_v4 h
    have h : (none : Option (Int × Mem)) = some (res, μe) := h
    cases h
  | succ n ih =>
    intro v0 v2 v4 μ q_v2 q_v4 h
    rw [M_cheap_L59.eq_2] at h
    refine r_iload (pc := 59) hX 2 rfl (dk D_X12_cheap 37 rfl) ?_
    refine r_if_lt (pc := 61) hX q_v4 389 rfl (dk D_X12_cheap 38 rfl) (fun hc => ?_) (fun hc => ?_)
    · rw [if_pos hc] at h
      refine r_sub (lv' := [(0, 2, v0)]) [0] rfl ?_
      exact hk389 v0 μ h
    · rw [if_neg hc] at h
      refine r_iconst (pc := 64) hX (dk D_X12_cheap 39 rfl) ?_
      refine r_istore (lv' := [(5, 0, 1), (0, 2, v0), (2, 0, v2), (4, 0, v4)]) (pc := 65) hX (by decide) rfl (dk D_X12_cheap 40 rfl) ?_
      refine r_sub (lv' := [(0, 2, v0), (2, 0, v2), (4, 0, v4), (5, 0, 1)]) [1, 2, 3, 0] rfl ?_
      refine L_M_cheap_L67 hX hM hRm ?_ FU v0 v2 v4 1 μ q_v2 q_v4 (R32_lit rfl) h
      intro x1 x2 x3 μ4 qx2 qx3 h
      refine r_iload (pc := 228) hX 2 rfl (dk D_X12_cheap 124 rfl) ?_
      refine r_if_ne (pc := 230) hX qx3 236 rfl (dk D_X12_cheap 125 rfl) (fun hc => ?_) (fun hc => ?_)
      · rw [if_neg hc] at h
        refine r_iconst (pc := 236) hX (dk D_X12_cheap 127 rfl) ?_
        refine r_istore (lv' := [(6, 0, 0), (0, 2, x1), (2, 0, x2), (4, 0, x3)]) (pc := 237) hX (by decide) rfl (dk D_X12_cheap 128 rfl) ?_
        refine r_sub (lv' := [(0, 2, x1), (2, 0, x2), (4, 0, x3), (6, 0, 0)]) [1, 2, 3, 0] rfl ?_
        refine L_M_cheap_L239 hX hM hRm ?_ FU x1 x2 x3 0 μ4 qx2 qx3 (R32_lit rfl) h
        intro x5 x6 x7 μ8 qx6 qx7 h
        refine r_aloadn (pc := 298) hX 0 rfl (dk D_X12_cheap 163 rfl) ?_
        obtain ⟨x9, hx9, h⟩ := bd_some h
        refine r_getR (pc := 299) hX fl_12_43 rfl hx9 (dk D_X12_cheap 164 rfl) ?_
        refine r_iload (pc := 302) hX 2 rfl (dk D_X12_cheap 165 rfl) ?_
        refine r_iconst (pc := 304) hX (dk D_X12_cheap 166 rfl) ?_
        refine r_isub (pc := 305) hX (dk D_X12_cheap 167 rfl) ?_
        obtain ⟨x10, hx10, h⟩ := bd_some h
        refine r_iald (pc := 306) hX (R32_w _) hx10 (dk D_X12_cheap 168 rfl) (fun qx10 => ?_)
        refine r_istore (lv' := [(6, 0, x10), (0, 2, x5), (2, 0, x6), (4, 0, x7)]) (pc := 307) hX (by decide) rfl (dk D_X12_cheap 169 rfl) ?_
        refine r_aloadn (pc := 309) hX 1 rfl (dk D_X12_cheap 170 rfl) ?_
        refine r_iload (pc := 310) hX 0 rfl (dk D_X12_cheap 171 rfl) ?_
        refine r_iconst (pc := 312) hX (dk D_X12_cheap 172 rfl) ?_
        obtain ⟨x11, hx11, h⟩ := bd_some h
        refine r_idiv (pc := 313) hX (R32_lit rfl) hx11 (dk D_X12_cheap 173 rfl) (fun qx11 => ?_)
        obtain ⟨_, hi, h⟩ := bd_some h
        obtain ⟨x12, μ13, hx12, h⟩ := bd2_some h
        refine r_invV0 (As := [(0, x11)]) (pc := 314) hX ml_12_213 (L_M_isOpen qx11 hx12) (isk_u hi) (Rm_of hRm (by decide) ⟨by decide, by decide⟩) (by decide) rfl (Nat.le_of_ble_eq_true rfl) rfl (dk D_X12_cheap 174 rfl) (fun qx12 => ?_)
        refine r_if_eq (pc := 317) hX qx12 383 rfl (dk D_X12_cheap 175 rfl) (fun hc => ?_) (fun hc => ?_)
        · rw [if_pos hc] at h
          refine r_iinc (lv' := [(4, 0, (w32 (x7 + (-1)))), (6, 0, x10), (0, 2, x5), (2, 0, x6)]) (pc := 383) hX 3 rfl (by decide) rfl (dk D_X12_cheap 214 rfl) ?_
          refine r_goto (pc := 386) hX 59 rfl (dk D_X12_cheap 215 rfl) ?_
          refine r_sub (lv' := [(0, 2, x5), (2, 0, x6), (4, 0, (w32 (x7 + (-1))))]) [2, 3, 0] rfl ?_
          exact ih x5 x6 (w32 (x7 + (-1))) μ13 qx6 (R32_w _) h
        · rw [if_neg hc] at h
          refine r_aloadn (pc := 320) hX 1 rfl (dk D_X12_cheap 176 rfl) ?_
          obtain ⟨x14, hx14, h⟩ := bd_some h
          refine r_getR (pc := 321) hX fl_12_49 rfl hx14 (dk D_X12_cheap 177 rfl) ?_
          refine r_bipush (pc := 324) hX rfl (dk D_X12_cheap 178 rfl) ?_
          refine r_iload (pc := 326) hX 3 rfl (dk D_X12_cheap 179 rfl) ?_
          refine r_imul (pc := 328) hX (dk D_X12_cheap 180 rfl) ?_
          refine r_aloadn (pc := 329) hX 1 rfl (dk D_X12_cheap 181 rfl) ?_
          refine r_iload (pc := 330) hX 0 rfl (dk D_X12_cheap 182 rfl) ?_
          obtain ⟨_, hi, h⟩ := bd_some h
          obtain ⟨x15, μ16, hx15, h⟩ := bd2_some h
          refine r_invV0 (As := [(0, x10)]) (pc := 332) hX ml_12_243 (L_M_headOf qx10 hx15) (isk_u hi) (Rm_of hRm (by decide) ⟨by decide, by decide⟩) (by decide) rfl (Nat.le_of_ble_eq_true rfl) rfl (dk D_X12_cheap 183 rfl) (fun qx15 => ?_)
          refine r_iadd (pc := 335) hX (dk D_X12_cheap 184 rfl) ?_
          obtain ⟨x17, hx17, h⟩ := bd_some h
          refine r_zald (pc := 336) hX (R32_w _) hx17 (dk D_X12_cheap 185 rfl) (fun qx17 => ?_)
          refine r_if_eq (pc := 337) hX qx17 383 rfl (dk D_X12_cheap 186 rfl) (fun hc => ?_) (fun hc => ?_)
          · rw [if_pos hc] at h
            refine r_iinc (lv' := [(4, 0, (w32 (x7 + (-1)))), (6, 0, x10), (0, 2, x5), (2, 0, x6)]) (pc := 383) hX 3 rfl (by decide) rfl (dk D_X12_cheap 214 rfl) ?_
            refine r_goto (pc := 386) hX 59 rfl (dk D_X12_cheap 215 rfl) ?_
            refine r_sub (lv' := [(0, 2, x5), (2, 0, x6), (4, 0, (w32 (x7 + (-1))))]) [2, 3, 0] rfl ?_
            exact ih x5 x6 (w32 (x7 + (-1))) μ16 qx6 (R32_w _) h
          · rw [if_neg hc] at h
            refine r_aloadn (pc := 340) hX 1 rfl (dk D_X12_cheap 187 rfl) ?_
            refine r_bipush (pc := 341) hX rfl (dk D_X12_cheap 188 rfl) ?_
            refine r_iload (pc := 343) hX 3 rfl (dk D_X12_cheap 189 rfl) ?_
            refine r_imul (pc := 345) hX (dk D_X12_cheap 190 rfl) ?_
            refine r_aloadn (pc := 346) hX 1 rfl (dk D_X12_cheap 191 rfl) ?_
            refine r_iload (pc := 347) hX 0 rfl (dk D_X12_cheap 192 rfl) ?_
            obtain ⟨_, hi, h⟩ := bd_some h
            obtain ⟨x18, μ19, hx18, h⟩ := bd2_some h
            refine r_invV0 (As := [(0, x10)]) (pc := 349) hX ml_12_243 (L_M_headOf qx10 hx18) (isk_u hi) (Rm_of hRm (by decide) ⟨by decide, by decide⟩) (by decide) rfl (Nat.le_of_ble_eq_true rfl) rfl (dk D_X12_cheap 193 rfl) (fun qx18 => ?_)
            refine r_iadd (pc := 352) hX (dk D_X12_cheap 194 rfl) ?_
            refine r_bipush (pc := 353) hX rfl (dk D_X12_cheap 195 rfl) ?_
            refine r_iload (pc := 355) hX 3 rfl (dk D_X12_cheap 196 rfl) ?_
            refine r_imul (pc := 357) hX (dk D_X12_cheap 197 rfl) ?_
            refine r_bipush (pc := 358) hX rfl (dk D_X12_cheap 198 rfl) ?_
            refine r_isub (pc := 360) hX (dk D_X12_cheap 199 rfl) ?_
            refine r_aloadn (pc := 361) hX 1 rfl (dk D_X12_cheap 200 rfl) ?_
            refine r_iload (pc := 362) hX 0 rfl (dk D_X12_cheap 201 rfl) ?_
            obtain ⟨_, hi, h⟩ := bd_some h
            obtain ⟨x20, μ21, hx20, h⟩ := bd2_some h
            refine r_invV0 (As := [(0, x10)]) (pc := 364) hX ml_12_240 (L_M_tailOf qx10 hx20) (isk_u hi) (Rm_of hRm (by decide) ⟨by decide, by decide⟩) (by decide) rfl (Nat.le_of_ble_eq_true rfl) rfl (dk D_X12_cheap 202 rfl) (fun qx20 => ?_)
            refine r_iadd (pc := 367) hX (dk D_X12_cheap 203 rfl) ?_
            refine r_aloadn (pc := 368) hX 1 rfl (dk D_X12_cheap 204 rfl) ?_
            obtain ⟨x22, hx22, h⟩ := bd_some h
            refine r_getR (pc := 369) hX fl_12_46 rfl hx22 (dk D_X12_cheap 205 rfl) ?_
            refine r_iload (pc := 372) hX 3 rfl (dk D_X12_cheap 206 rfl) ?_
            refine r_iconst (pc := 374) hX (dk D_X12_cheap 207 rfl) ?_
            refine r_isub (pc := 375) hX (dk D_X12_cheap 208 rfl) ?_
            obtain ⟨x23, hx23, h⟩ := bd_some h
            refine r_iald (pc := 376) hX (R32_w _) hx23 (dk D_X12_cheap 209 rfl) (fun qx23 => ?_)
            refine r_ineg (pc := 377) hX (dk D_X12_cheap 210 rfl) ?_
            refine r_iconst (pc := 378) hX (dk D_X12_cheap 211 rfl) ?_
            obtain ⟨_, hi, h⟩ := bd_some h
            obtain ⟨x24, μ25, hx24, h⟩ := bd2_some h
            refine r_invV0 (As := [(0, (w32 ((w32 (12 * x7)) + x18))), (0, (w32 ((w32 ((w32 (12 * x7)) - 12)) + x20))), (0, (w32 (-x23))), (0, 1)]) (pc := 379) hX ml_12_292 (L_M_better (R32_w _) (R32_w _) (R32_w _) (R32_lit rfl) hx24) (isk_u hi) (Rm_of hRm (by decide) ⟨by decide, by decide⟩) (by decide) rfl (Nat.le_of_ble_eq_true rfl) rfl (dk D_X12_cheap 212 rfl) (fun qx24 => ?_)
            refine r_pop (pc := 382) hX rfl (dk D_X12_cheap 213 rfl) ?_
            refine r_iinc (lv' := [(4, 0, (w32 (x7 + (-1)))), (6, 0, x10), (0, 2, x5), (2, 0, x6)]) (pc := 383) hX 3 rfl (by decide) rfl (dk D_X12_cheap 214 rfl) ?_
            refine r_goto (pc := 386) hX 59 rfl (dk D_X12_cheap 215 rfl) ?_
            refine r_sub (lv' := [(0, 2, x5), (2, 0, x6), (4, 0, (w32 (x7 + (-1))))]) [2, 3, 0] rfl ?_
            exact ih x5 x6 (w32 (x7 + (-1))) μ25 qx6 (R32_w _) h
      · rw [if_pos hc] at h
        refine r_goto (pc := 233) hX 383 rfl (dk D_X12_cheap 126 rfl) ?_
        refine r_iinc (lv' := [(4, 0, (w32 (x3 + (-1)))), (0, 2, x1), (2, 0, x2)]) (pc := 383) hX 2 rfl (by decide) rfl (dk D_X12_cheap 214 rfl) ?_
        refine r_goto (pc := 386) hX 59 rfl (dk D_X12_cheap 215 rfl) ?_
        refine r_sub (lv' := [(0, 2, x1), (2, 0, x2), (4, 0, (w32 (x3 + (-1))))]) [1, 2, 0] rfl ?_
        exact ih x1 x2 (w32 (x3 + (-1))) μ4 qx2 (R32_w _) h
set_option maxRecDepth 100000 in
set_option maxHeartbeats 4000000 in
theorem L_M_cheap_J478 {E : EX} {X : CX} {res : Int} {μe : Mem} (hX : Good E X cX12_cheap 10 "TollsBackModel") (hM : GoodM E X (some .boolean) (some (0, res)) μe 0 0) (hRm : cR X = rmOf 4 0 0) {k503 : Int → Int → Int → Mem → Option (Int × Mem)} (hk503 : ∀ (u0 u1 u2 : Int) (μ : Mem), R32 u1 → R32 u2 → k503 u0 u1 u2 μ = some (res, μe) → At E X cX12_cheap 10 "TollsBackModel" (0, 0) 503 [(0, 2, u0), (4, 0, u1), (5, 0, u2)] [] μ) {v0 v5 v6 : Int} {μ : Mem} (q_v5 : R32 v5) (q_v6 : R32 v6) (h : M_cheap_J478 k503 v0 v5 v6 μ = some (res, μe)) : At E X cX12_cheap 10 "TollsBackModel" (0, 0) 478 [(0, 2, v0), (5, 0, v5), (6, 0, v6)] [] μ := by
  unfold M_cheap_J478 at h
  refine r_iconst (pc := 478) hX (dk D_X12_cheap 262 rfl) ?_
  refine r_istore (lv' := [(4, 0, 1), (0, 2, v0), (5, 0, v5), (6, 0, v6)]) (pc := 479) hX (by decide) rfl (dk D_X12_cheap 263 rfl) ?_
  refine r_aloadn (pc := 481) hX 1 rfl (dk D_X12_cheap 264 rfl) ?_
  refine r_aloadn (pc := 482) hX 1 rfl (dk D_X12_cheap 265 rfl) ?_
  obtain ⟨x1, hx1, h⟩ := bd_some h
  refine r_getR (pc := 483) hX fl_12_37 rfl hx1 (dk D_X12_cheap 266 rfl) ?_
  refine r_iload (pc := 486) hX 3 rfl (dk D_X12_cheap 267 rfl) ?_
  obtain ⟨x2, hx2, h⟩ := bd_some h
  refine r_iald (pc := 488) hX q_v6 hx2 (dk D_X12_cheap 268 rfl) (fun qx2 => ?_)
  obtain ⟨μ3, hμ3, h⟩ := bd_some h
  refine r_putI (pc := 489) hX fl_12_296 rfl rfl qx2 trivial hμ3 (dk D_X12_cheap 269 rfl) ?_
  refine r_aloadn (pc := 492) hX 1 rfl (dk D_X12_cheap 270 rfl) ?_
  refine r_aloadn (pc := 493) hX 1 rfl (dk D_X12_cheap 271 rfl) ?_
  obtain ⟨x4, hx4, h⟩ := bd_some h
  refine r_getR (pc := 494) hX fl_12_40 rfl hx4 (dk D_X12_cheap 272 rfl) ?_
  refine r_iload (pc := 497) hX 3 rfl (dk D_X12_cheap 273 rfl) ?_
  obtain ⟨x5, hx5, h⟩ := bd_some h
  refine r_iald (pc := 499) hX q_v6 hx5 (dk D_X12_cheap 274 rfl) (fun qx5 => ?_)
  obtain ⟨μ6, hμ6, h⟩ := bd_some h
  refine r_putI (pc := 500) hX fl_12_299 rfl rfl qx5 trivial hμ6 (dk D_X12_cheap 275 rfl) ?_
  refine r_sub (lv' := [(0, 2, v0), (4, 0, 1), (5, 0, v5)]) [1, 0, 2] rfl ?_
  exact hk503 v0 1 v5 μ6 (R32_lit rfl) q_v5 h
set_option maxRecDepth 100000 in
set_option maxHeartbeats 4000000 in
theorem L_M_cheap_L395 {E : EX} {X : CX} {res : Int} {μe : Mem} (hX : Good E X cX12_cheap 10 "TollsBackModel") (hM : GoodM E X (some .boolean) (some (0, res)) μe 0 0) (hRm : cR X = rmOf 4 0 0) : ∀ (n : Nat) (v0 v4 v5 : Int) (μ : Mem) (q_v4 : R32 v4) (q_v5 : R32 v5) (h : M_cheap_L395 n v0 v4 v5 μ = some (res, μe)), At E X cX12_cheap 10 "TollsBackModel" (0, 0) 395 [(0, 2, v0), (4, 0, v4), (5, 0, v5)] [] μ := by
  intro n
  induction n with
  | zero =>
    intro v0 v4 v5 μ q_v4 q_v5 h
    have h : (none : Option (Int × Mem)) = some (res, μe) := h
    cases h
  | succ n ih =>
    intro v0 v4 v5 μ q_v4 q_v5 h
    rw [M_cheap_L395.eq_2] at h
    refine r_iload (pc := 395) hX 2 rfl (dk D_X12_cheap 220 rfl) ?_
    refine r_aloadn (pc := 397) hX 0 rfl (dk D_X12_cheap 221 rfl) ?_
    obtain ⟨x1, hx1, h⟩ := bd_some h
    refine r_getI (pc := 398) hX fl_12_289 rfl rfl hx1 (dk D_X12_cheap 222 rfl) (fun qx1 => ?_)
    refine r_icmp_gt (pc := 401) hX q_v5 qx1 509 rfl (dk D_X12_cheap 223 rfl) (fun hc => ?_) (fun hc => ?_)
    · rw [if_pos hc] at h
      refine r_iload (pc := 509) hX 1 rfl (dk D_X12_cheap 278 rfl) ?_
      obtain ⟨_, hz, h⟩ := bd_some h
      cases h
      exact r_zreturn (pc := 511) hX q_v4 hM (okz_some hz) ⟨by decide, by decide⟩ (dk D_X12_cheap 279 rfl)
    · rw [if_neg hc] at h
      refine r_bipush (pc := 404) hX rfl (dk D_X12_cheap 224 rfl) ?_
      refine r_iload (pc := 406) hX 2 rfl (dk D_X12_cheap 225 rfl) ?_
      refine r_imul (pc := 408) hX (dk D_X12_cheap 226 rfl) ?_
      refine r_aloadn (pc := 409) hX 0 rfl (dk D_X12_cheap 227 rfl) ?_
      obtain ⟨x2, hx2, h⟩ := bd_some h
      refine r_getR (pc := 410) hX fl_12_13 rfl hx2 (dk D_X12_cheap 228 rfl) ?_
      refine r_iconst (pc := 413) hX (dk D_X12_cheap 229 rfl) ?_
      obtain ⟨x3, hx3, h⟩ := bd_some h
      refine r_iald (pc := 414) hX (R32_lit rfl) hx3 (dk D_X12_cheap 230 rfl) (fun qx3 => ?_)
      refine r_iadd (pc := 415) hX (dk D_X12_cheap 231 rfl) ?_
      obtain ⟨x4, ex4, h⟩ := bd_some h
      replace ex4 := Option.some.inj ex4
      have qx4 : R32 x4 := ex4 ▸ (R32_w _)
      rw [ex4]
      refine r_istore (lv' := [(6, 0, x4), (0, 2, v0), (4, 0, v4), (5, 0, v5)]) (pc := 416) hX (by decide) rfl (dk D_X12_cheap 232 rfl) ?_
      refine r_aloadn (pc := 418) hX 1 rfl (dk D_X12_cheap 233 rfl) ?_
      obtain ⟨x5, hx5, h⟩ := bd_some h
      refine r_getR (pc := 419) hX fl_12_49 rfl hx5 (dk D_X12_cheap 234 rfl) ?_
      refine r_iload (pc := 422) hX 0 rfl (dk D_X12_cheap 235 rfl) ?_
      obtain ⟨x6, hx6, h⟩ := bd_some h
      refine r_zald (pc := 424) hX qx4 hx6 (dk D_X12_cheap 236 rfl) (fun qx6 => ?_)
      refine r_if_eq (pc := 425) hX qx6 503 rfl (dk D_X12_cheap 237 rfl) (fun hc => ?_) (fun hc => ?_)
      · rw [if_pos hc] at h
        refine r_iinc (lv' := [(5, 0, (w32 (v5 + 1))), (6, 0, x4), (0, 2, v0), (4, 0, v4)]) (pc := 503) hX 3 rfl (by decide) rfl (dk D_X12_cheap 276 rfl) ?_
        refine r_goto (pc := 506) hX 395 rfl (dk D_X12_cheap 277 rfl) ?_
        refine r_sub (lv' := [(0, 2, v0), (4, 0, v4), (5, 0, (w32 (v5 + 1)))]) [2, 3, 0] rfl ?_
        exact ih v0 v4 (w32 (v5 + 1)) μ q_v4 (R32_w _) h
      · rw [if_neg hc] at h
        refine r_iload (pc := 428) hX 2 rfl (dk D_X12_cheap 238 rfl) ?_
        refine r_if_eq (pc := 430) hX q_v4 478 rfl (dk D_X12_cheap 239 rfl) (fun hc => ?_) (fun hc => ?_)
        · rw [if_pos hc] at h
          refine r_sub (lv' := [(0, 2, v0), (5, 0, v5), (6, 0, x4)]) [1, 3, 0] rfl ?_
          refine L_M_cheap_J478 hX hM hRm ?_ q_v5 qx4 h
          intro x7 x8 x9 μ10 qx8 qx9 h
          refine r_iinc (lv' := [(5, 0, (w32 (x9 + 1))), (0, 2, x7), (4, 0, x8)]) (pc := 503) hX 2 rfl (by decide) rfl (dk D_X12_cheap 276 rfl) ?_
          refine r_goto (pc := 506) hX 395 rfl (dk D_X12_cheap 277 rfl) ?_
          refine r_sub (lv' := [(0, 2, x7), (4, 0, x8), (5, 0, (w32 (x9 + 1)))]) [1, 2, 0] rfl ?_
          exact ih x7 x8 (w32 (x9 + 1)) μ10 qx8 (R32_w _) h
        · rw [if_neg hc] at h
          refine r_aloadn (pc := 433) hX 1 rfl (dk D_X12_cheap 240 rfl) ?_
          obtain ⟨x11, hx11, h⟩ := bd_some h
          refine r_getR (pc := 434) hX fl_12_37 rfl hx11 (dk D_X12_cheap 241 rfl) ?_
          refine r_iload (pc := 437) hX 0 rfl (dk D_X12_cheap 242 rfl) ?_
          obtain ⟨x12, hx12, h⟩ := bd_some h
          refine r_iald (pc := 439) hX qx4 hx12 (dk D_X12_cheap 243 rfl) (fun qx12 => ?_)
          refine r_aloadn (pc := 440) hX 1 rfl (dk D_X12_cheap 244 rfl) ?_
          obtain ⟨x13, hx13, h⟩ := bd_some h
          refine r_getI (pc := 441) hX fl_12_296 rfl rfl hx13 (dk D_X12_cheap 245 rfl) (fun qx13 => ?_)
          refine r_icmp_gt (pc := 444) hX qx12 qx13 503 rfl (dk D_X12_cheap 246 rfl) (fun hc => ?_) (fun hc => ?_)
          · rw [if_pos hc] at h
            refine r_iinc (lv' := [(5, 0, (w32 (v5 + 1))), (6, 0, x4), (0, 2, v0), (4, 0, v4)]) (pc := 503) hX 3 rfl (by decide) rfl (dk D_X12_cheap 276 rfl) ?_
            refine r_goto (pc := 506) hX 395 rfl (dk D_X12_cheap 277 rfl) ?_
            refine r_sub (lv' := [(0, 2, v0), (4, 0, v4), (5, 0, (w32 (v5 + 1)))]) [2, 3, 0] rfl ?_
            exact ih v0 v4 (w32 (v5 + 1)) μ q_v4 (R32_w _) h
          · rw [if_neg hc] at h
            refine r_aloadn (pc := 447) hX 1 rfl (dk D_X12_cheap 247 rfl) ?_
            obtain ⟨x14, hx14, h⟩ := bd_some h
            refine r_getR (pc := 448) hX fl_12_37 rfl hx14 (dk D_X12_cheap 248 rfl) ?_
            refine r_iload (pc := 451) hX 0 rfl (dk D_X12_cheap 249 rfl) ?_
            obtain ⟨x15, hx15, h⟩ := bd_some h
            refine r_iald (pc := 453) hX qx4 hx15 (dk D_X12_cheap 250 rfl) (fun qx15 => ?_)
            refine r_aloadn (pc := 454) hX 1 rfl (dk D_X12_cheap 251 rfl) ?_
            obtain ⟨x16, hx16, h⟩ := bd_some h
            refine r_getI (pc := 455) hX fl_12_296 rfl rfl hx16 (dk D_X12_cheap 252 rfl) (fun qx16 => ?_)
            refine r_icmp_ne (pc := 458) hX qx15 qx16 478 rfl (dk D_X12_cheap 253 rfl) (fun hc => ?_) (fun hc => ?_)
            · rw [if_neg hc] at h
              refine r_sub (lv' := [(0, 2, v0), (5, 0, v5), (6, 0, x4)]) [1, 3, 0] rfl ?_
              refine L_M_cheap_J478 hX hM hRm ?_ q_v5 qx4 h
              intro x17 x18 x19 μ20 qx18 qx19 h
              refine r_iinc (lv' := [(5, 0, (w32 (x19 + 1))), (0, 2, x17), (4, 0, x18)]) (pc := 503) hX 2 rfl (by decide) rfl (dk D_X12_cheap 276 rfl) ?_
              refine r_goto (pc := 506) hX 395 rfl (dk D_X12_cheap 277 rfl) ?_
              refine r_sub (lv' := [(0, 2, x17), (4, 0, x18), (5, 0, (w32 (x19 + 1)))]) [1, 2, 0] rfl ?_
              exact ih x17 x18 (w32 (x19 + 1)) μ20 qx18 (R32_w _) h
            · rw [if_pos hc] at h
              refine r_aloadn (pc := 461) hX 1 rfl (dk D_X12_cheap 254 rfl) ?_
              obtain ⟨x21, hx21, h⟩ := bd_some h
              refine r_getR (pc := 462) hX fl_12_40 rfl hx21 (dk D_X12_cheap 255 rfl) ?_
              refine r_iload (pc := 465) hX 0 rfl (dk D_X12_cheap 256 rfl) ?_
              obtain ⟨x22, hx22, h⟩ := bd_some h
              refine r_iald (pc := 467) hX qx4 hx22 (dk D_X12_cheap 257 rfl) (fun qx22 => ?_)
              refine r_aloadn (pc := 468) hX 1 rfl (dk D_X12_cheap 258 rfl) ?_
              obtain ⟨x23, hx23, h⟩ := bd_some h
              refine r_getI (pc := 469) hX fl_12_299 rfl rfl hx23 (dk D_X12_cheap 259 rfl) (fun qx23 => ?_)
              refine r_icmp_lt (pc := 472) hX qx22 qx23 478 rfl (dk D_X12_cheap 260 rfl) (fun hc => ?_) (fun hc => ?_)
              · rw [if_pos hc] at h
                refine r_sub (lv' := [(0, 2, v0), (5, 0, v5), (6, 0, x4)]) [1, 3, 0] rfl ?_
                refine L_M_cheap_J478 hX hM hRm ?_ q_v5 qx4 h
                intro x24 x25 x26 μ27 qx25 qx26 h
                refine r_iinc (lv' := [(5, 0, (w32 (x26 + 1))), (0, 2, x24), (4, 0, x25)]) (pc := 503) hX 2 rfl (by decide) rfl (dk D_X12_cheap 276 rfl) ?_
                refine r_goto (pc := 506) hX 395 rfl (dk D_X12_cheap 277 rfl) ?_
                refine r_sub (lv' := [(0, 2, x24), (4, 0, x25), (5, 0, (w32 (x26 + 1)))]) [1, 2, 0] rfl ?_
                exact ih x24 x25 (w32 (x26 + 1)) μ27 qx25 (R32_w _) h
              · rw [if_neg hc] at h
                refine r_goto (pc := 475) hX 503 rfl (dk D_X12_cheap 261 rfl) ?_
                refine r_iinc (lv' := [(5, 0, (w32 (v5 + 1))), (6, 0, x4), (0, 2, v0), (4, 0, v4)]) (pc := 503) hX 3 rfl (by decide) rfl (dk D_X12_cheap 276 rfl) ?_
                refine r_goto (pc := 506) hX 395 rfl (dk D_X12_cheap 277 rfl) ?_
                refine r_sub (lv' := [(0, 2, v0), (4, 0, v4), (5, 0, (w32 (v5 + 1)))]) [2, 3, 0] rfl ?_
                exact ih v0 v4 (w32 (v5 + 1)) μ q_v4 (R32_w _) h
set_option maxRecDepth 100000 in
set_option maxHeartbeats 4000000 in
theorem L_M_cheap {E : EX} {l : Launch} {a0 a1 a2 res : Int} {μ μ' : Mem} (q_a1 : R32 a1) (q_a2 : R32 a2) (h : M_cheap a0 a1 a2 μ = some (res, μ')) : Ok E l 4 yX12_cheap (.code yX12_cheap cX12_cheap 10 (some .boolean)) 0 0 [(2, a0), (0, a1), (0, a2)] μ (some (0, res)) μ' := by
  refine Ok.of (own := "TollsBackModel") [(0, 2, a0), (1, 0, a1), (2, 0, a2)] (by decide +kernel) rfl (Nat.le_of_ble_eq_true rfl) rfl ?_
  intro X hL hRm hin hX hM
  unfold M_cheap at h
  subst hL
  refine r_iconst (pc := 0) hX (dk D_X12_cheap 0 rfl) ?_
  refine r_istoren (lv' := [(3, 0, 0), (0, 2, a0), (1, 0, a1), (2, 0, a2)]) (pc := 1) hX (by decide) rfl (dk D_X12_cheap 1 rfl) ?_
  refine r_sub (lv' := [(0, 2, a0), (1, 0, a1), (2, 0, a2), (3, 0, 0)]) [1, 2, 3, 0] rfl ?_
  refine L_M_cheap_L2 hX hM hRm ?_ FU a0 a1 a2 0 μ q_a1 q_a2 (R32_lit rfl) h
  intro x1 x2 x3 μ4 qx2 qx3 h
  refine r_bipush (pc := 22) hX rfl (dk D_X12_cheap 12 rfl) ?_
  refine r_aloadn (pc := 24) hX 0 rfl (dk D_X12_cheap 13 rfl) ?_
  obtain ⟨x5, hx5, h⟩ := bd_some h
  refine r_getI (pc := 25) hX fl_12_289 rfl rfl hx5 (dk D_X12_cheap 14 rfl) (fun qx5 => ?_)
  refine r_imul (pc := 28) hX (dk D_X12_cheap 15 rfl) ?_
  refine r_iloadn (pc := 29) hX 1 rfl (dk D_X12_cheap 16 rfl) ?_
  refine r_iadd (pc := 30) hX (dk D_X12_cheap 17 rfl) ?_
  obtain ⟨x6, ex6, h⟩ := bd_some h
  replace ex6 := Option.some.inj ex6
  have qx6 : R32 x6 := ex6 ▸ (R32_w _)
  rw [ex6]
  refine r_istoren (lv' := [(3, 0, x6), (0, 2, x1), (1, 0, x2), (2, 0, x3)]) (pc := 31) hX (by decide) rfl (dk D_X12_cheap 18 rfl) ?_
  refine r_aloadn (pc := 32) hX 1 rfl (dk D_X12_cheap 19 rfl) ?_
  obtain ⟨x7, hx7, h⟩ := bd_some h
  refine r_getR (pc := 33) hX fl_12_49 rfl hx7 (dk D_X12_cheap 20 rfl) ?_
  refine r_iloadn (pc := 36) hX 0 rfl (dk D_X12_cheap 21 rfl) ?_
  refine r_iconst (pc := 37) hX (dk D_X12_cheap 22 rfl) ?_
  obtain ⟨μ8, hμ8, h⟩ := bd_some h
  refine r_zast (pc := 38) hX qx6 (R32_lit rfl) (Or.inr rfl) hμ8 (dk D_X12_cheap 23 rfl) ?_
  refine r_aloadn (pc := 39) hX 1 rfl (dk D_X12_cheap 24 rfl) ?_
  obtain ⟨x9, hx9, h⟩ := bd_some h
  refine r_getR (pc := 40) hX fl_12_37 rfl hx9 (dk D_X12_cheap 25 rfl) ?_
  refine r_iloadn (pc := 43) hX 0 rfl (dk D_X12_cheap 26 rfl) ?_
  refine r_iconst (pc := 44) hX (dk D_X12_cheap 27 rfl) ?_
  obtain ⟨μ10, hμ10, h⟩ := bd_some h
  refine r_iast (pc := 45) hX qx6 (R32_lit rfl) hμ10 (dk D_X12_cheap 28 rfl) ?_
  refine r_aloadn (pc := 46) hX 1 rfl (dk D_X12_cheap 29 rfl) ?_
  obtain ⟨x11, hx11, h⟩ := bd_some h
  refine r_getR (pc := 47) hX fl_12_40 rfl hx11 (dk D_X12_cheap 30 rfl) ?_
  refine r_iloadn (pc := 50) hX 0 rfl (dk D_X12_cheap 31 rfl) ?_
  refine r_iconst (pc := 51) hX (dk D_X12_cheap 32 rfl) ?_
  obtain ⟨μ12, hμ12, h⟩ := bd_some h
  refine r_iast (pc := 52) hX qx6 (R32_lit rfl) hμ12 (dk D_X12_cheap 33 rfl) ?_
  refine r_aloadn (pc := 53) hX 1 rfl (dk D_X12_cheap 34 rfl) ?_
  obtain ⟨x13, hx13, h⟩ := bd_some h
  refine r_getI (pc := 54) hX fl_12_289 rfl rfl hx13 (dk D_X12_cheap 35 rfl) (fun qx13 => ?_)
  refine r_istore (lv' := [(4, 0, x13), (3, 0, x6), (0, 2, x1), (1, 0, x2), (2, 0, x3)]) (pc := 57) hX (by decide) rfl (dk D_X12_cheap 36 rfl) ?_
  refine r_sub (lv' := [(0, 2, x1), (2, 0, x3), (4, 0, x13)]) [2, 4, 0] rfl ?_
  refine L_M_cheap_L59 hX hM hRm ?_ FU x1 x3 x13 μ12 qx3 qx13 h
  intro x14 μ15  h
  refine r_iconst (pc := 389) hX (dk D_X12_cheap 216 rfl) ?_
  refine r_istore (lv' := [(4, 0, 0), (0, 2, x14)]) (pc := 390) hX (by decide) rfl (dk D_X12_cheap 217 rfl) ?_
  refine r_iconst (pc := 392) hX (dk D_X12_cheap 218 rfl) ?_
  refine r_istore (lv' := [(5, 0, 0), (4, 0, 0), (0, 2, x14)]) (pc := 393) hX (by decide) rfl (dk D_X12_cheap 219 rfl) ?_
  refine r_sub (lv' := [(0, 2, x14), (4, 0, 0), (5, 0, 0)]) [2, 1, 0] rfl ?_
  refine L_M_cheap_L395 hX hM hRm FU x14 0 0 μ15 (R32_lit rfl) (R32_lit rfl) h
set_option maxRecDepth 100000 in
set_option maxHeartbeats 4000000 in
theorem L_M_cheapOf {E : EX} {l : Launch} {a0 a1 a2 res : Int} {μ μ' : Mem} (q_a1 : R32 a1) (q_a2 : R32 a2) (h : M_cheapOf a0 a1 a2 μ = some (res, μ')) : Ok E l 5 yX12_cheapOf (.code yX12_cheapOf cX12_cheapOf 3 (some .boolean)) 0 0 [(2, a0), (0, a1), (0, a2)] μ (some (0, res)) μ' := by
  refine Ok.of (own := "TollsBackModel") [(0, 2, a0), (1, 0, a1), (2, 0, a2)] (by decide +kernel) rfl (Nat.le_of_ble_eq_true rfl) rfl ?_
  intro X hL hRm hin hX hM
  unfold M_cheapOf at h
  subst hL
  refine r_aloadn (pc := 0) hX 0 rfl (dk D_X12_cheapOf 0 rfl) ?_
  refine r_iloadn (pc := 1) hX 2 rfl (dk D_X12_cheapOf 1 rfl) ?_
  refine r_aloadn (pc := 2) hX 0 rfl (dk D_X12_cheapOf 2 rfl) ?_
  obtain ⟨x1, hx1, h⟩ := bd_some h
  refine r_getR (pc := 3) hX fl_12_13 rfl hx1 (dk D_X12_cheapOf 3 rfl) ?_
  refine r_sipush (pc := 6) hX rfl (dk D_X12_cheapOf 4 rfl) ?_
  refine r_iloadn (pc := 9) hX 1 rfl (dk D_X12_cheapOf 5 rfl) ?_
  refine r_iadd (pc := 10) hX (dk D_X12_cheapOf 6 rfl) ?_
  obtain ⟨x2, hx2, h⟩ := bd_some h
  refine r_iald (pc := 11) hX (R32_w _) hx2 (dk D_X12_cheapOf 7 rfl) (fun qx2 => ?_)
  obtain ⟨_, hi, h⟩ := bd_some h
  obtain ⟨x3, μ4, hx3, h⟩ := bd2_some h
  refine r_invV0 (As := [(0, a2), (0, x2)]) (pc := 12) hX ml_12_302 (L_M_looksAt q_a2 qx2 hx3) (isk_u hi) (Rm_of hRm (by decide) ⟨by decide, by decide⟩) (by decide) rfl (Nat.le_of_ble_eq_true rfl) rfl (dk D_X12_cheapOf 8 rfl) (fun _ => ?_)
  refine r_aloadn (pc := 15) hX 0 rfl (dk D_X12_cheapOf 9 rfl) ?_
  refine r_aloadn (pc := 16) hX 0 rfl (dk D_X12_cheapOf 10 rfl) ?_
  obtain ⟨x5, hx5, h⟩ := bd_some h
  refine r_getR (pc := 17) hX fl_12_13 rfl hx5 (dk D_X12_cheapOf 11 rfl) ?_
  refine r_sipush (pc := 20) hX rfl (dk D_X12_cheapOf 12 rfl) ?_
  refine r_iloadn (pc := 23) hX 1 rfl (dk D_X12_cheapOf 13 rfl) ?_
  refine r_iadd (pc := 24) hX (dk D_X12_cheapOf 14 rfl) ?_
  obtain ⟨x6, hx6, h⟩ := bd_some h
  refine r_iald (pc := 25) hX (R32_w _) hx6 (dk D_X12_cheapOf 15 rfl) (fun qx6 => ?_)
  refine r_aloadn (pc := 26) hX 0 rfl (dk D_X12_cheapOf 16 rfl) ?_
  obtain ⟨x7, hx7, h⟩ := bd_some h
  refine r_getR (pc := 27) hX fl_12_13 rfl hx7 (dk D_X12_cheapOf 17 rfl) ?_
  refine r_sipush (pc := 30) hX rfl (dk D_X12_cheapOf 18 rfl) ?_
  refine r_iloadn (pc := 33) hX 1 rfl (dk D_X12_cheapOf 19 rfl) ?_
  refine r_iadd (pc := 34) hX (dk D_X12_cheapOf 20 rfl) ?_
  obtain ⟨x8, hx8, h⟩ := bd_some h
  refine r_iald (pc := 35) hX (R32_w _) hx8 (dk D_X12_cheapOf 21 rfl) (fun qx8 => ?_)
  obtain ⟨_, hi, h⟩ := bd_some h
  obtain ⟨x9, μ10, hx9, h⟩ := bd2_some h
  refine r_invV0 (As := [(0, x6), (0, x8)]) (pc := 36) hX ml_12_305 (L_M_cheap qx6 qx8 hx9) (isk_u hi) (Rm_of hRm (by decide) ⟨by decide, by decide⟩) (by decide) rfl (Nat.le_of_ble_eq_true rfl) rfl (dk D_X12_cheapOf 22 rfl) (fun qx9 => ?_)
  obtain ⟨_, hz, h⟩ := bd_some h
  cases h
  exact r_zreturn (pc := 39) hX qx9 hM (okz_some hz) ⟨by decide, by decide⟩ (dk D_X12_cheapOf 23 rfl)
set_option maxRecDepth 100000 in
set_option maxHeartbeats 4000000 in
theorem L_M_cheapest {E : EX} {l : Launch} {a0 a1 a2 res : Int} {μ μ' : Mem} (q_a1 : R32 a1) (q_a2 : R32 a2) (h : M_cheapest a0 a1 a2 μ = some (res, μ')) : Ok E l 6 yX12_cheapest (.code yX12_cheapest cX12_cheapest 3 (some .int)) 0 0 [(2, a0), (0, a1), (0, a2)] μ (some (0, res)) μ' := by
  refine Ok.of (own := "TollsBackModel") [(0, 2, a0), (1, 0, a1), (2, 0, a2)] (by decide +kernel) rfl (Nat.le_of_ble_eq_true rfl) rfl ?_
  intro X hL hRm hin hX hM
  unfold M_cheapest at h
  subst hL
  refine r_aloadn (pc := 0) hX 0 rfl (dk D_X12_cheapest 0 rfl) ?_
  refine r_iconst (pc := 1) hX (dk D_X12_cheapest 1 rfl) ?_
  obtain ⟨μ1, hμ1, h⟩ := bd_some h
  refine r_putI (pc := 2) hX fl_12_1 rfl rfl (R32_lit rfl) trivial hμ1 (dk D_X12_cheapest 2 rfl) ?_
  refine r_aloadn (pc := 5) hX 0 rfl (dk D_X12_cheapest 3 rfl) ?_
  refine r_iloadn (pc := 6) hX 1 rfl (dk D_X12_cheapest 4 rfl) ?_
  obtain ⟨_, hi, h⟩ := bd_some h
  obtain ⟨x2, μ3, hx2, h⟩ := bd2_some h
  refine r_invV0 (As := [(0, a1)]) (pc := 7) hX ml_12_230 (L_M_isOne q_a1 hx2) (isk_u hi) (Rm_of hRm (by decide) ⟨by decide, by decide⟩) (by decide) rfl (Nat.le_of_ble_eq_true rfl) rfl (dk D_X12_cheapest 5 rfl) (fun qx2 => ?_)
  refine r_if_eq (pc := 10) hX qx2 23 rfl (dk D_X12_cheapest 6 rfl) (fun hc => ?_) (fun hc => ?_)
  · rw [if_pos hc] at h
    refine r_bipush (pc := 23) hX rfl (dk D_X12_cheapest 13 rfl) ?_
    cases h
    exact r_ireturn (pc := 25) hX (R32_lit rfl) hM ⟨by decide, by decide⟩ (dk D_X12_cheapest 14 rfl)
  · rw [if_neg hc] at h
    refine r_iloadn (pc := 13) hX 2 rfl (dk D_X12_cheapest 7 rfl) ?_
    refine r_i2l (pc := 14) hX q_a2 (dk D_X12_cheapest 8 rfl) ?_
    refine r_lconst (x := 0) (pc := 15) hX (by decide) (dk D_X12_cheapest 9 rfl) ?_
    refine r_lconst (x := 1) (pc := 16) hX (by decide) (dk D_X12_cheapest 10 rfl) ?_
    obtain ⟨x4, μ5, hx4, h⟩ := bd2_some h
    refine r_invS0 (As := [(1, a2), (1, 0), (1, 1)]) (pc := 17) hX ml_12_178 (L_M_within (R64_of q_a2) (R64_lit rfl) (R64_lit rfl) hx4) (Rm_of hRm (by decide) ⟨by decide, by decide⟩) (by decide) rfl (Nat.le_of_ble_eq_true rfl) rfl (dk D_X12_cheapest 11 rfl) (fun qx4 => ?_)
    refine r_if_ne (pc := 20) hX qx4 26 rfl (dk D_X12_cheapest 12 rfl) (fun hc => ?_) (fun hc => ?_)
    · rw [if_neg hc] at h
      refine r_aloadn (pc := 26) hX 0 rfl (dk D_X12_cheapest 15 rfl) ?_
      refine r_iloadn (pc := 27) hX 1 rfl (dk D_X12_cheapest 16 rfl) ?_
      refine r_iloadn (pc := 28) hX 1 rfl (dk D_X12_cheapest 17 rfl) ?_
      obtain ⟨_, hi, h⟩ := bd_some h
      obtain ⟨x6, μ7, hx6, h⟩ := bd2_some h
      refine r_invV0 (As := [(0, a1), (0, a1)]) (pc := 29) hX ml_12_308 (L_M_cheapOf q_a1 q_a1 hx6) (isk_u hi) (Rm_of hRm (by decide) ⟨by decide, by decide⟩) (by decide) rfl (Nat.le_of_ble_eq_true rfl) rfl (dk D_X12_cheapest 18 rfl) (fun qx6 => ?_)
      refine r_if_ne (pc := 32) hX qx6 47 rfl (dk D_X12_cheapest 19 rfl) (fun hc => ?_) (fun hc => ?_)
      · rw [if_neg hc] at h
        refine r_iloadn (pc := 47) hX 2 rfl (dk D_X12_cheapest 26 rfl) ?_
        refine r_if_ne (pc := 48) hX q_a2 58 rfl (dk D_X12_cheapest 27 rfl) (fun hc => ?_) (fun hc => ?_)
        · rw [if_neg hc] at h
          refine r_aloadn (pc := 58) hX 0 rfl (dk D_X12_cheapest 31 rfl) ?_
          obtain ⟨x8, hx8, h⟩ := bd_some h
          refine r_getI (pc := 59) hX fl_12_299 rfl rfl hx8 (dk D_X12_cheapest 32 rfl) (fun qx8 => ?_)
          cases h
          exact r_ireturn (pc := 62) hX qx8 hM ⟨by decide, by decide⟩ (dk D_X12_cheapest 33 rfl)
        · rw [if_pos hc] at h
          refine r_aloadn (pc := 51) hX 0 rfl (dk D_X12_cheapest 28 rfl) ?_
          obtain ⟨x9, hx9, h⟩ := bd_some h
          refine r_getI (pc := 52) hX fl_12_296 rfl rfl hx9 (dk D_X12_cheapest 29 rfl) (fun qx9 => ?_)
          refine r_goto (pc := 55) hX 62 rfl (dk D_X12_cheapest 30 rfl) ?_
          cases h
          exact r_ireturn (pc := 62) hX qx9 hM ⟨by decide, by decide⟩ (dk D_X12_cheapest 33 rfl)
      · rw [if_pos hc] at h
        refine r_iloadn (pc := 35) hX 2 rfl (dk D_X12_cheapest 20 rfl) ?_
        refine r_if_ne (pc := 36) hX q_a2 45 rfl (dk D_X12_cheapest 21 rfl) (fun hc => ?_) (fun hc => ?_)
        · rw [if_neg hc] at h
          refine r_iconst (pc := 45) hX (dk D_X12_cheapest 24 rfl) ?_
          cases h
          exact r_ireturn (pc := 46) hX (R32_lit rfl) hM ⟨by decide, by decide⟩ (dk D_X12_cheapest 25 rfl)
        · rw [if_pos hc] at h
          refine r_ldcw (pc := 39) hX cn_12_311 (dk D_X12_cheapest 22 rfl) ?_
          refine r_goto (pc := 42) hX 46 rfl (dk D_X12_cheapest 23 rfl) ?_
          cases h
          exact r_ireturn (pc := 46) hX (R32_lit rfl) hM ⟨by decide, by decide⟩ (dk D_X12_cheapest 25 rfl)
    · rw [if_pos hc] at h
      refine r_bipush (pc := 23) hX rfl (dk D_X12_cheapest 13 rfl) ?_
      cases h
      exact r_ireturn (pc := 25) hX (R32_lit rfl) hM ⟨by decide, by decide⟩ (dk D_X12_cheapest 14 rfl)
set_option maxRecDepth 100000 in
set_option maxHeartbeats 4000000 in
theorem L_M_safe_L46 {E : EX} {X : CX} {res : Int} {μe : Mem} (hX : Good E X cX12_safe 8 "TollsBackModel") (hM : GoodM E X (some .int) (some (0, res)) μe 0 0) (hRm : cR X = rmOf 3 0 0) {k165 : Int → Int → Int → Int → Mem → Option (Int × Mem)} (hk165 : ∀ (u0 u1 u2 u3 : Int) (μ : Mem), R32 u1 → R32 u2 → R32 u3 → k165 u0 u1 u2 u3 μ = some (res, μe) → At E X cX12_safe 8 "TollsBackModel" (0, 0) 165 [(0, 2, u0), (1, 0, u1), (3, 0, u2), (4, 0, u3)] [] μ) : ∀ (n : Nat) (v0 v1 v2 v3 v4 v5 : Int) (μ : Mem) (q_v1 : R32 v1) (q_v2 : R32 v2) (q_v3 : R32 v3) (q_v4 : R32 v4) (q_v5 : R32 v5) (h : M_safe_L46 k165 n v0 v1 v2 v3 v4 v5 μ = some (res, μe)), At E X cX12_safe 8 "TollsBackModel" (0, 0) 46 [(0, 2, v0), (1, 0, v1), (2, 0, v2), (3, 0, v3), (4, 0, v4), (5, 0, v5)] [] μ := by
  intro n
  induction n with
  | zero =>
    intro v0 v1 v2 v3 v4 v5 μ q_v1 q_v2 q_v3 q_v4 q_v5 h
    have h : (none : Option (Int × Mem)) = some (res, μe) := h
    cases h
  | succ n ih =>
    intro v0 v1 v2 v3 v4 v5 μ q_v1 q_v2 q_v3 q_v4 q_v5 h
    rw [M_safe_L46.eq_2] at h
    refine r_iload (pc := 46) hX 5 rfl (dk D_X12_safe 29 rfl) ?_
    refine r_if_lt (pc := 48) hX q_v5 165 rfl (dk D_X12_safe 30 rfl) (fun hc => ?_) (fun hc => ?_)
    · rw [if_pos hc] at h
      refine r_sub (lv' := [(0, 2, v0), (1, 0, v1), (3, 0, v3), (4, 0, v4)]) [0, 1, 3, 4] rfl ?_
      exact hk165 v0 v1 v3 v4 μ q_v1 q_v3 q_v4 h
    · rw [if_neg hc] at h
      refine r_aloadn (pc := 51) hX 0 rfl (dk D_X12_safe 31 rfl) ?_
      obtain ⟨x1, hx1, h⟩ := bd_some h
      refine r_getR (pc := 52) hX fl_12_13 rfl hx1 (dk D_X12_safe 32 rfl) ?_
      refine r_sipush (pc := 55) hX rfl (dk D_X12_safe 33 rfl) ?_
      refine r_iloadn (pc := 58) hX 1 rfl (dk D_X12_safe 34 rfl) ?_
      refine r_iload (pc := 59) hX 5 rfl (dk D_X12_safe 35 rfl) ?_
      obtain ⟨x2, μ3, hx2, h⟩ := bd2_some h
      refine r_invS0 (As := [(0, v1), (0, v5)]) (pc := 61) hX ml_12_233 (L_M_slipAt q_v1 q_v5 hx2) (Rm_of hRm (by decide) ⟨by decide, by decide⟩) (by decide) rfl (Nat.le_of_ble_eq_true rfl) rfl (dk D_X12_safe 36 rfl) (fun qx2 => ?_)
      refine r_iadd (pc := 64) hX (dk D_X12_safe 37 rfl) ?_
      obtain ⟨x4, hx4, h⟩ := bd_some h
      refine r_iald (pc := 65) hX (R32_w _) hx4 (dk D_X12_safe 38 rfl) (fun qx4 => ?_)
      refine r_istore (lv' := [(6, 0, x4), (0, 2, v0), (1, 0, v1), (2, 0, v2), (3, 0, v3), (4, 0, v4), (5, 0, v5)]) (pc := 66) hX (by decide) rfl (dk D_X12_safe 39 rfl) ?_
      refine r_aloadn (pc := 68) hX 1 rfl (dk D_X12_safe 40 rfl) ?_
      refine r_iload (pc := 69) hX 0 rfl (dk D_X12_safe 41 rfl) ?_
      refine r_iconst (pc := 71) hX (dk D_X12_safe 42 rfl) ?_
      obtain ⟨x5, hx5, h⟩ := bd_some h
      refine r_idiv (pc := 72) hX (R32_lit rfl) hx5 (dk D_X12_safe 43 rfl) (fun qx5 => ?_)
      obtain ⟨_, hi, h⟩ := bd_some h
      obtain ⟨x6, μ7, hx6, h⟩ := bd2_some h
      refine r_invV0 (As := [(0, x5)]) (pc := 73) hX ml_12_213 (L_M_isOpen qx5 hx6) (isk_u hi) (Rm_of hRm (by decide) ⟨by decide, by decide⟩) (by decide) rfl (Nat.le_of_ble_eq_true rfl) rfl (dk D_X12_safe 44 rfl) (fun qx6 => ?_)
      refine r_if_eq (pc := 76) hX qx6 89 rfl (dk D_X12_safe 45 rfl) (fun hc => ?_) (fun hc => ?_)
      · rw [if_pos hc] at h
        refine r_iconst (pc := 89) hX (dk D_X12_safe 51 rfl) ?_
        cases h
        exact r_ireturn (pc := 90) hX (R32_lit rfl) hM ⟨by decide, by decide⟩ (dk D_X12_safe 52 rfl)
      · rw [if_neg hc] at h
        refine r_aloadn (pc := 79) hX 1 rfl (dk D_X12_safe 46 rfl) ?_
        refine r_iload (pc := 80) hX 0 rfl (dk D_X12_safe 47 rfl) ?_
        obtain ⟨_, hi, h⟩ := bd_some h
        obtain ⟨x8, μ9, hx8, h⟩ := bd2_some h
        refine r_invV0 (As := [(0, x4)]) (pc := 82) hX ml_12_243 (L_M_headOf qx4 hx8) (isk_u hi) (Rm_of hRm (by decide) ⟨by decide, by decide⟩) (by decide) rfl (Nat.le_of_ble_eq_true rfl) rfl (dk D_X12_safe 48 rfl) (fun qx8 => ?_)
        refine r_iloadn (pc := 85) hX 3 rfl (dk D_X12_safe 49 rfl) ?_
        refine r_icmp_eq (pc := 86) hX qx8 q_v2 91 rfl (dk D_X12_safe 50 rfl) (fun hc => ?_) (fun hc => ?_)
        · rw [if_pos hc] at h
          refine r_aloadn (pc := 91) hX 1 rfl (dk D_X12_safe 53 rfl) ?_
          obtain ⟨x10, hx10, h⟩ := bd_some h
          refine r_getR (pc := 92) hX fl_12_13 rfl hx10 (dk D_X12_safe 54 rfl) ?_
          refine r_sipush (pc := 95) hX rfl (dk D_X12_safe 55 rfl) ?_
          refine r_iloadn (pc := 98) hX 2 rfl (dk D_X12_safe 56 rfl) ?_
          refine r_iload (pc := 99) hX 6 rfl (dk D_X12_safe 57 rfl) ?_
          obtain ⟨x11, μ12, hx11, h⟩ := bd2_some h
          refine r_invS0 (As := [(0, v1), (0, v5)]) (pc := 101) hX ml_12_233 (L_M_slipAt q_v1 q_v5 hx11) (Rm_of hRm (by decide) ⟨by decide, by decide⟩) (by decide) rfl (Nat.le_of_ble_eq_true rfl) rfl (dk D_X12_safe 58 rfl) (fun qx11 => ?_)
          refine r_iadd (pc := 104) hX (dk D_X12_safe 59 rfl) ?_
          obtain ⟨x13, hx13, h⟩ := bd_some h
          refine r_iald (pc := 105) hX (R32_w _) hx13 (dk D_X12_safe 60 rfl) (fun qx13 => ?_)
          refine r_aloadn (pc := 106) hX 1 rfl (dk D_X12_safe 61 rfl) ?_
          obtain ⟨x14, hx14, h⟩ := bd_some h
          refine r_getR (pc := 107) hX fl_12_13 rfl hx14 (dk D_X12_safe 62 rfl) ?_
          refine r_iconst (pc := 110) hX (dk D_X12_safe 63 rfl) ?_
          obtain ⟨x15, hx15, h⟩ := bd_some h
          refine r_iald (pc := 111) hX (R32_lit rfl) hx15 (dk D_X12_safe 64 rfl) (fun qx15 => ?_)
          refine r_iadd (pc := 112) hX (dk D_X12_safe 65 rfl) ?_
          refine r_iloadn (pc := 113) hX 4 rfl (dk D_X12_safe 66 rfl) ?_
          refine r_isub (pc := 114) hX (dk D_X12_safe 67 rfl) ?_
          obtain ⟨x16, ex16, h⟩ := bd_some h
          replace ex16 := Option.some.inj ex16
          have qx16 : R32 x16 := ex16 ▸ (R32_w _)
          rw [ex16]
          refine r_istore (lv' := [(7, 0, x16), (6, 0, x4), (0, 2, v0), (1, 0, v1), (2, 0, v2), (3, 0, v3), (4, 0, v4), (5, 0, v5)]) (pc := 115) hX (by decide) rfl (dk D_X12_safe 68 rfl) ?_
          refine r_iloadn (pc := 117) hX 5 rfl (dk D_X12_safe 69 rfl) ?_
          obtain ⟨y17, hb, h⟩ := bd_some h
          have hj : R32 y17 → At E X cX12_safe 8 "TollsBackModel" (0, 0) 135 [(0, 2, v0), (1, 0, v1), (3, 0, v3), (5, 0, v5), (6, 0, x4)] [(0, y17)] μ12 := by
            intro qy17
            clear hb
            refine r_istore (lv' := [(4, 0, y17), (0, 2, v0), (1, 0, v1), (3, 0, v3), (5, 0, v5), (6, 0, x4)]) (pc := 135) hX (by decide) rfl (dk D_X12_safe 77 rfl) ?_
            refine r_aloadn (pc := 137) hX 1 rfl (dk D_X12_safe 78 rfl) ?_
            refine r_iload (pc := 138) hX 5 rfl (dk D_X12_safe 79 rfl) ?_
            obtain ⟨_, hi, h⟩ := bd_some h
            obtain ⟨x18, μ19, hx18, h⟩ := bd2_some h
            refine r_invV0 (As := [(0, x4)]) (pc := 140) hX ml_12_240 (L_M_tailOf qx4 hx18) (isk_u hi) (Rm_of hRm (by decide) ⟨by decide, by decide⟩) (by decide) rfl (Nat.le_of_ble_eq_true rfl) rfl (dk D_X12_safe 80 rfl) (fun qx18 => ?_)
            refine r_istoren (lv' := [(2, 0, x18), (4, 0, y17), (0, 2, v0), (1, 0, v1), (3, 0, v3), (5, 0, v5), (6, 0, x4)]) (pc := 143) hX (by decide) rfl (dk D_X12_safe 81 rfl) ?_
            refine r_iloadn (pc := 144) hX 4 rfl (dk D_X12_safe 82 rfl) ?_
            refine r_aloadn (pc := 145) hX 2 rfl (dk D_X12_safe 83 rfl) ?_
            obtain ⟨x20, hx20, h⟩ := bd_some h
            refine r_getR (pc := 146) hX fl_12_13 rfl hx20 (dk D_X12_safe 84 rfl) ?_
            refine r_bipush (pc := 149) hX rfl (dk D_X12_safe 85 rfl) ?_
            refine r_iload (pc := 151) hX 6 rfl (dk D_X12_safe 86 rfl) ?_
            refine r_iconst (pc := 153) hX (dk D_X12_safe 87 rfl) ?_
            obtain ⟨x21, hx21, h⟩ := bd_some h
            refine r_idiv (pc := 154) hX (R32_lit rfl) hx21 (dk D_X12_safe 88 rfl) (fun qx21 => ?_)
            refine r_iadd (pc := 155) hX (dk D_X12_safe 89 rfl) ?_
            obtain ⟨x22, hx22, h⟩ := bd_some h
            refine r_iald (pc := 156) hX (R32_w _) hx22 (dk D_X12_safe 90 rfl) (fun qx22 => ?_)
            refine r_iadd (pc := 157) hX (dk D_X12_safe 91 rfl) ?_
            obtain ⟨x23, ex23, h⟩ := bd_some h
            replace ex23 := Option.some.inj ex23
            have qx23 : R32 x23 := ex23 ▸ (R32_w _)
            rw [ex23]
            refine r_istoren (lv' := [(3, 0, x23), (2, 0, x18), (4, 0, y17), (0, 2, v0), (1, 0, v1), (5, 0, v5), (6, 0, x4)]) (pc := 158) hX (by decide) rfl (dk D_X12_safe 92 rfl) ?_
            refine r_iinc (lv' := [(5, 0, (w32 (v5 + (-1)))), (3, 0, x23), (2, 0, x18), (4, 0, y17), (0, 2, v0), (1, 0, v1), (6, 0, x4)]) (pc := 159) hX 5 rfl (by decide) rfl (dk D_X12_safe 93 rfl) ?_
            refine r_goto (pc := 162) hX 46 rfl (dk D_X12_safe 94 rfl) ?_
            refine r_sub (lv' := [(0, 2, v0), (1, 0, v1), (2, 0, x18), (3, 0, x23), (4, 0, y17), (5, 0, (w32 (v5 + (-1))))]) [4, 5, 2, 1, 3, 0] rfl ?_
            exact ih v0 v1 x18 x23 y17 (w32 (v5 + (-1))) μ19 q_v1 qx18 qx23 qy17 (R32_w _) h
          clear h
          have h := hb
          clear hb
          refine r_if_eq (pc := 118) hX q_v3 128 rfl (dk D_X12_safe 70 rfl) (fun hc => ?_) (fun hc => ?_)
          · rw [if_pos hc] at h
            refine r_iload (pc := 128) hX 0 rfl (dk D_X12_safe 74 rfl) ?_
            refine r_goto (pc := 130) hX 135 rfl (dk D_X12_safe 75 rfl) ?_
            replace h := Option.some.inj h
            subst y17
            refine r_sub (lv' := [(0, 2, v0), (1, 0, v1), (3, 0, v3), (5, 0, v5), (6, 0, x4)]) [2, 3, 5, 7, 1] rfl ?_
            exact hj qx16
          · rw [if_neg hc] at h
            refine r_iload (pc := 121) hX 0 rfl (dk D_X12_safe 71 rfl) ?_
            refine r_iload (pc := 123) hX 6 rfl (dk D_X12_safe 72 rfl) ?_
            refine r_icmp_ge (pc := 125) hX qx16 q_v4 133 rfl (dk D_X12_safe 73 rfl) (fun hc => ?_) (fun hc => ?_)
            · rw [if_neg hc] at h
              refine r_iload (pc := 133) hX 6 rfl (dk D_X12_safe 76 rfl) ?_
              replace h := Option.some.inj h
              subst y17
              refine r_sub (lv' := [(0, 2, v0), (1, 0, v1), (3, 0, v3), (5, 0, v5), (6, 0, x4)]) [2, 3, 5, 7, 1] rfl ?_
              exact hj q_v4
            · rw [if_pos hc] at h
              refine r_iload (pc := 128) hX 0 rfl (dk D_X12_safe 74 rfl) ?_
              refine r_goto (pc := 130) hX 135 rfl (dk D_X12_safe 75 rfl) ?_
              replace h := Option.some.inj h
              subst y17
              refine r_sub (lv' := [(0, 2, v0), (1, 0, v1), (3, 0, v3), (5, 0, v5), (6, 0, x4)]) [2, 3, 5, 7, 1] rfl ?_
              exact hj qx16
        · rw [if_neg hc] at h
          refine r_iconst (pc := 89) hX (dk D_X12_safe 51 rfl) ?_
          cases h
          exact r_ireturn (pc := 90) hX (R32_lit rfl) hM ⟨by decide, by decide⟩ (dk D_X12_safe 52 rfl)
set_option maxRecDepth 100000 in
set_option maxHeartbeats 4000000 in
theorem L_M_safe {E : EX} {l : Launch} {a0 a1 res : Int} {μ μ' : Mem} (q_a1 : R32 a1) (h : M_safe a0 a1 μ = some (res, μ')) : Ok E l 3 yX12_safe (.code yX12_safe cX12_safe 8 (some .int)) 0 0 [(2, a0), (0, a1)] μ (some (0, res)) μ' := by
  refine Ok.of (own := "TollsBackModel") [(0, 2, a0), (1, 0, a1)] (by decide +kernel) rfl (Nat.le_of_ble_eq_true rfl) rfl ?_
  intro X hL hRm hin hX hM
  unfold M_safe at h
  subst hL
  refine r_aloadn (pc := 0) hX 0 rfl (dk D_X12_safe 0 rfl) ?_
  refine r_iconst (pc := 1) hX (dk D_X12_safe 1 rfl) ?_
  obtain ⟨μ1, hμ1, h⟩ := bd_some h
  refine r_putI (pc := 2) hX fl_12_1 rfl rfl (R32_lit rfl) trivial hμ1 (dk D_X12_safe 2 rfl) ?_
  refine r_aloadn (pc := 5) hX 0 rfl (dk D_X12_safe 3 rfl) ?_
  refine r_iloadn (pc := 6) hX 1 rfl (dk D_X12_safe 4 rfl) ?_
  obtain ⟨_, hi, h⟩ := bd_some h
  obtain ⟨x2, μ3, hx2, h⟩ := bd2_some h
  refine r_invV0 (As := [(0, a1)]) (pc := 7) hX ml_12_230 (L_M_isOne q_a1 hx2) (isk_u hi) (Rm_of hRm (by decide) ⟨by decide, by decide⟩) (by decide) rfl (Nat.le_of_ble_eq_true rfl) rfl (dk D_X12_safe 5 rfl) (fun qx2 => ?_)
  refine r_if_ne (pc := 10) hX qx2 16 rfl (dk D_X12_safe 6 rfl) (fun hc => ?_) (fun hc => ?_)
  · rw [if_neg hc] at h
    refine r_aloadn (pc := 16) hX 0 rfl (dk D_X12_safe 9 rfl) ?_
    obtain ⟨x4, hx4, h⟩ := bd_some h
    refine r_getR (pc := 17) hX fl_12_13 rfl hx4 (dk D_X12_safe 10 rfl) ?_
    refine r_sipush (pc := 20) hX rfl (dk D_X12_safe 11 rfl) ?_
    refine r_iloadn (pc := 23) hX 1 rfl (dk D_X12_safe 12 rfl) ?_
    refine r_iadd (pc := 24) hX (dk D_X12_safe 13 rfl) ?_
    obtain ⟨x5, hx5, h⟩ := bd_some h
    refine r_iald (pc := 25) hX (R32_w _) hx5 (dk D_X12_safe 14 rfl) (fun qx5 => ?_)
    refine r_istoren (lv' := [(2, 0, x5), (0, 2, a0), (1, 0, a1)]) (pc := 26) hX (by decide) rfl (dk D_X12_safe 15 rfl) ?_
    refine r_iconst (pc := 27) hX (dk D_X12_safe 16 rfl) ?_
    refine r_istoren (lv' := [(3, 0, 0), (2, 0, x5), (0, 2, a0), (1, 0, a1)]) (pc := 28) hX (by decide) rfl (dk D_X12_safe 17 rfl) ?_
    refine r_iconst (pc := 29) hX (dk D_X12_safe 18 rfl) ?_
    refine r_istore (lv' := [(4, 0, (-1)), (3, 0, 0), (2, 0, x5), (0, 2, a0), (1, 0, a1)]) (pc := 30) hX (by decide) rfl (dk D_X12_safe 19 rfl) ?_
    refine r_aloadn (pc := 32) hX 3 rfl (dk D_X12_safe 20 rfl) ?_
    obtain ⟨x6, hx6, h⟩ := bd_some h
    refine r_getR (pc := 33) hX fl_12_13 rfl hx6 (dk D_X12_safe 21 rfl) ?_
    refine r_sipush (pc := 36) hX rfl (dk D_X12_safe 22 rfl) ?_
    refine r_iloadn (pc := 39) hX 4 rfl (dk D_X12_safe 23 rfl) ?_
    refine r_iadd (pc := 40) hX (dk D_X12_safe 24 rfl) ?_
    obtain ⟨x7, hx7, h⟩ := bd_some h
    refine r_iald (pc := 41) hX (R32_w _) hx7 (dk D_X12_safe 25 rfl) (fun qx7 => ?_)
    refine r_iconst (pc := 42) hX (dk D_X12_safe 26 rfl) ?_
    refine r_isub (pc := 43) hX (dk D_X12_safe 27 rfl) ?_
    obtain ⟨x8, ex8, h⟩ := bd_some h
    replace ex8 := Option.some.inj ex8
    have qx8 : R32 x8 := ex8 ▸ (R32_w _)
    rw [ex8]
    refine r_istore (lv' := [(5, 0, x8), (4, 0, (-1)), (3, 0, 0), (2, 0, x5), (0, 2, a0), (1, 0, a1)]) (pc := 44) hX (by decide) rfl (dk D_X12_safe 28 rfl) ?_
    refine r_sub (lv' := [(0, 2, a0), (1, 0, a1), (2, 0, x5), (3, 0, 0), (4, 0, (-1)), (5, 0, x8)]) [4, 5, 3, 2, 1, 0] rfl ?_
    refine L_M_safe_L46 hX hM hRm ?_ FU a0 a1 x5 0 (-1) x8 μ3 q_a1 qx5 (R32_lit rfl) (R32_lit rfl) qx8 h
    intro x9 x10 x11 x12 μ13 qx10 qx11 qx12 h
    refine r_iloadn (pc := 165) hX 2 rfl (dk D_X12_safe 95 rfl) ?_
    refine r_if_eq (pc := 166) hX qx11 184 rfl (dk D_X12_safe 96 rfl) (fun hc => ?_) (fun hc => ?_)
    · rw [if_pos hc] at h
      refine r_iconst (pc := 184) hX (dk D_X12_safe 105 rfl) ?_
      refine r_goto (pc := 185) hX 190 rfl (dk D_X12_safe 106 rfl) ?_
      cases h
      exact r_ireturn (pc := 190) hX (R32_lit rfl) hM ⟨by decide, by decide⟩ (dk D_X12_safe 108 rfl)
    · rw [if_neg hc] at h
      refine r_iload (pc := 169) hX 3 rfl (dk D_X12_safe 97 rfl) ?_
      refine r_aloadn (pc := 171) hX 0 rfl (dk D_X12_safe 98 rfl) ?_
      obtain ⟨x14, hx14, h⟩ := bd_some h
      refine r_getR (pc := 172) hX fl_12_13 rfl hx14 (dk D_X12_safe 99 rfl) ?_
      refine r_sipush (pc := 175) hX rfl (dk D_X12_safe 100 rfl) ?_
      refine r_iloadn (pc := 178) hX 1 rfl (dk D_X12_safe 101 rfl) ?_
      refine r_iadd (pc := 179) hX (dk D_X12_safe 102 rfl) ?_
      obtain ⟨x15, hx15, h⟩ := bd_some h
      refine r_iald (pc := 180) hX (R32_w _) hx15 (dk D_X12_safe 103 rfl) (fun qx15 => ?_)
      refine r_icmp_ge (pc := 181) hX qx12 qx15 188 rfl (dk D_X12_safe 104 rfl) (fun hc => ?_) (fun hc => ?_)
      · rw [if_neg hc] at h
        refine r_iload (pc := 188) hX 3 rfl (dk D_X12_safe 107 rfl) ?_
        cases h
        exact r_ireturn (pc := 190) hX qx12 hM ⟨by decide, by decide⟩ (dk D_X12_safe 108 rfl)
      · rw [if_pos hc] at h
        refine r_iconst (pc := 184) hX (dk D_X12_safe 105 rfl) ?_
        refine r_goto (pc := 185) hX 190 rfl (dk D_X12_safe 106 rfl) ?_
        cases h
        exact r_ireturn (pc := 190) hX (R32_lit rfl) hM ⟨by decide, by decide⟩ (dk D_X12_safe 108 rfl)
  · rw [if_pos hc] at h
    refine r_bipush (pc := 13) hX rfl (dk D_X12_safe 7 rfl) ?_
    cases h
    exact r_ireturn (pc := 15) hX (R32_lit rfl) hM ⟨by decide, by decide⟩ (dk D_X12_safe 8 rfl)
set_option maxRecDepth 100000 in
set_option maxHeartbeats 4000000 in
theorem L_M_needs_L72 {E : EX} {X : CX} {res : Int} {μe : Mem} (hX : Good E X cX12_needs 9 "TollsBackModel") (hM : GoodM E X (some .int) (some (0, res)) μe 0 0) (hRm : cR X = rmOf 5 0 0) {k181 : Int → Int → Int → Int → Mem → Option (Int × Mem)} (hk181 : ∀ (u0 u1 u2 u3 : Int) (μ : Mem), R32 u1 → R32 u2 → R32 u3 → k181 u0 u1 u2 u3 μ = some (res, μe) → At E X cX12_needs 9 "TollsBackModel" (0, 0) 181 [(0, 2, u0), (1, 0, u1), (3, 0, u2), (4, 0, u3)] [] μ) : ∀ (n : Nat) (v0 v1 v2 v3 v4 v5 : Int) (μ : Mem) (q_v1 : R32 v1) (q_v2 : R32 v2) (q_v3 : R32 v3) (q_v4 : R32 v4) (q_v5 : R32 v5) (h : M_needs_L72 k181 n v0 v1 v2 v3 v4 v5 μ = some (res, μe)), At E X cX12_needs 9 "TollsBackModel" (0, 0) 72 [(0, 2, v0), (1, 0, v1), (2, 0, v2), (3, 0, v3), (4, 0, v4), (5, 0, v5)] [] μ := by
  intro n
  induction n with
  | zero =>
    intro v0 v1 v2 v3 v4 v5 μ q_v1 q_v2 q_v3 q_v4 q_v5 h
    have h : (none : Option (Int × Mem)) = some (res, μe) := h
    cases h
  | succ n ih =>
    intro v0 v1 v2 v3 v4 v5 μ q_v1 q_v2 q_v3 q_v4 q_v5 h
    rw [M_needs_L72.eq_2] at h
    refine r_iload (pc := 72) hX 5 rfl (dk D_X12_needs 42 rfl) ?_
    refine r_aloadn (pc := 74) hX 0 rfl (dk D_X12_needs 43 rfl) ?_
    obtain ⟨x1, hx1, h⟩ := bd_some h
    refine r_getR (pc := 75) hX fl_12_105 rfl hx1 (dk D_X12_needs 44 rfl) ?_
    refine r_iloadn (pc := 78) hX 2 rfl (dk D_X12_needs 45 rfl) ?_
    obtain ⟨x2, hx2, h⟩ := bd_some h
    refine r_iald (pc := 79) hX q_v2 hx2 (dk D_X12_needs 46 rfl) (fun qx2 => ?_)
    refine r_icmp_ge (pc := 80) hX q_v5 qx2 181 rfl (dk D_X12_needs 47 rfl) (fun hc => ?_) (fun hc => ?_)
    · rw [if_neg hc] at h
      refine r_sub (lv' := [(0, 2, v0), (1, 0, v1), (3, 0, v3), (4, 0, v4)]) [0, 1, 3, 4] rfl ?_
      exact hk181 v0 v1 v3 v4 μ q_v1 q_v3 q_v4 h
    · rw [if_pos hc] at h
      refine r_iload (pc := 83) hX 4 rfl (dk D_X12_needs 48 rfl) ?_
      refine r_if_eq (pc := 85) hX q_v4 181 rfl (dk D_X12_needs 49 rfl) (fun hc => ?_) (fun hc => ?_)
      · rw [if_pos hc] at h
        refine r_sub (lv' := [(0, 2, v0), (1, 0, v1), (3, 0, v3), (4, 0, v4)]) [0, 1, 3, 4] rfl ?_
        exact hk181 v0 v1 v3 v4 μ q_v1 q_v3 q_v4 h
      · rw [if_neg hc] at h
        refine r_aloadn (pc := 88) hX 0 rfl (dk D_X12_needs 50 rfl) ?_
        obtain ⟨x3, hx3, h⟩ := bd_some h
        refine r_getR (pc := 89) hX fl_12_108 rfl hx3 (dk D_X12_needs 51 rfl) ?_
        refine r_bipush (pc := 92) hX rfl (dk D_X12_needs 52 rfl) ?_
        refine r_iloadn (pc := 94) hX 2 rfl (dk D_X12_needs 53 rfl) ?_
        refine r_imul (pc := 95) hX (dk D_X12_needs 54 rfl) ?_
        refine r_iload (pc := 96) hX 5 rfl (dk D_X12_needs 55 rfl) ?_
        refine r_iadd (pc := 98) hX (dk D_X12_needs 56 rfl) ?_
        obtain ⟨x4, hx4, h⟩ := bd_some h
        refine r_lald (pc := 99) hX (R32_w _) hx4 (dk D_X12_needs 57 rfl) (fun qx4 => ?_)
        refine r_lstore (lv' := [(6, 1, x4), (0, 2, v0), (1, 0, v1), (2, 0, v2), (3, 0, v3), (4, 0, v4), (5, 0, v5)]) (pc := 100) hX (by decide) rfl (dk D_X12_needs 58 rfl) ?_
        refine r_aloadn (pc := 102) hX 1 rfl (dk D_X12_needs 59 rfl) ?_
        refine r_lload (pc := 103) hX 0 rfl (dk D_X12_needs 60 rfl) ?_
        obtain ⟨_, hi, h⟩ := bd_some h
        obtain ⟨x5, μ6, hx5, h⟩ := bd2_some h
        refine r_invV0 (As := [(1, x4)]) (pc := 105) hX ml_12_207 (L_M_isRoad qx4 hx5) (isk_u hi) (Rm_of hRm (by decide) ⟨by decide, by decide⟩) (by decide) rfl (Nat.le_of_ble_eq_true rfl) rfl (dk D_X12_needs 61 rfl) (fun qx5 => ?_)
        obtain ⟨y7, μ8, hb, h⟩ := bd2_some h
        have hj : R32 y7 → At E X cX12_needs 9 "TollsBackModel" (0, 0) 127 [(0, 2, v0), (1, 0, v1), (2, 0, v2), (3, 0, v3), (5, 0, v5), (6, 1, x4)] [(0, y7)] μ8 := by
          intro qy7
          clear hb
          refine r_istore (lv' := [(4, 0, y7), (0, 2, v0), (1, 0, v1), (2, 0, v2), (3, 0, v3), (5, 0, v5), (6, 1, x4)]) (pc := 127) hX (by decide) rfl (dk D_X12_needs 72 rfl) ?_
          refine r_iload (pc := 129) hX 0 rfl (dk D_X12_needs 73 rfl) ?_
          refine r_if_ne (pc := 131) hX qy7 137 rfl (dk D_X12_needs 74 rfl) (fun hc => ?_) (fun hc => ?_)
          · rw [if_neg hc] at h
            refine r_aloadn (pc := 137) hX 1 rfl (dk D_X12_needs 76 rfl) ?_
            refine r_iloadn (pc := 138) hX 2 rfl (dk D_X12_needs 77 rfl) ?_
            refine r_lload (pc := 139) hX 6 rfl (dk D_X12_needs 78 rfl) ?_
            refine r_l2i (pc := 141) hX qx4 (dk D_X12_needs 79 rfl) ?_
            obtain ⟨_, hi, h⟩ := bd_some h
            obtain ⟨x11, μ12, hx11, h⟩ := bd2_some h
            refine r_invV0 (As := [(0, v1), (0, (w32 x4))]) (pc := 142) hX ml_12_258 (L_M_goes q_v1 (R32_w _) hx11) (isk_u hi) (Rm_of hRm (by decide) ⟨by decide, by decide⟩) (by decide) rfl (Nat.le_of_ble_eq_true rfl) rfl (dk D_X12_needs 80 rfl) (fun qx11 => ?_)
            refine r_pop (pc := 145) hX rfl (dk D_X12_needs 81 rfl) ?_
            refine r_ldcw (pc := 146) hX cn_12_312 (dk D_X12_needs 82 rfl) ?_
            refine r_aloadn (pc := 149) hX 1 rfl (dk D_X12_needs 83 rfl) ?_
            obtain ⟨x13, hx13, h⟩ := bd_some h
            refine r_getR (pc := 150) hX fl_12_13 rfl hx13 (dk D_X12_needs 84 rfl) ?_
            refine r_sipush (pc := 153) hX rfl (dk D_X12_needs 85 rfl) ?_
            refine r_iloadn (pc := 156) hX 2 rfl (dk D_X12_needs 86 rfl) ?_
            refine r_iadd (pc := 157) hX (dk D_X12_needs 87 rfl) ?_
            obtain ⟨x14, hx14, h⟩ := bd_some h
            refine r_iald (pc := 158) hX (R32_w _) hx14 (dk D_X12_needs 88 rfl) (fun qx14 => ?_)
            refine r_isub (pc := 159) hX (dk D_X12_needs 89 rfl) ?_
            obtain ⟨x15, ex15, h⟩ := bd_some h
            replace ex15 := Option.some.inj ex15
            have qx15 : R32 x15 := ex15 ▸ (R32_w _)
            rw [ex15]
            refine r_istore (lv' := [(8, 0, x15), (4, 0, y7), (0, 2, v0), (1, 0, v1), (2, 0, v2), (3, 0, v3), (5, 0, v5), (6, 1, x4)]) (pc := 160) hX (by decide) rfl (dk D_X12_needs 90 rfl) ?_
            refine r_iload (pc := 162) hX 0 rfl (dk D_X12_needs 91 rfl) ?_
            refine r_iloadn (pc := 164) hX 5 rfl (dk D_X12_needs 92 rfl) ?_
            refine r_icmp_le (pc := 165) hX qx15 q_v3 173 rfl (dk D_X12_needs 93 rfl) (fun hc => ?_) (fun hc => ?_)
            · rw [if_neg hc] at h
              refine r_iloadn (pc := 173) hX 5 rfl (dk D_X12_needs 96 rfl) ?_
              refine r_istoren (lv' := [(3, 0, v3), (8, 0, x15), (4, 0, y7), (0, 2, v0), (1, 0, v1), (2, 0, v2), (5, 0, v5), (6, 1, x4)]) (pc := 174) hX (by decide) rfl (dk D_X12_needs 97 rfl) ?_
              refine r_iinc (lv' := [(5, 0, (w32 (v5 + 1))), (3, 0, v3), (8, 0, x15), (4, 0, y7), (0, 2, v0), (1, 0, v1), (2, 0, v2), (6, 1, x4)]) (pc := 175) hX 6 rfl (by decide) rfl (dk D_X12_needs 98 rfl) ?_
              refine r_goto (pc := 178) hX 72 rfl (dk D_X12_needs 99 rfl) ?_
              refine r_sub (lv' := [(0, 2, v0), (1, 0, v1), (2, 0, v2), (3, 0, v3), (4, 0, y7), (5, 0, (w32 (v5 + 1)))]) [4, 5, 6, 1, 3, 0] rfl ?_
              exact ih v0 v1 v2 v3 y7 (w32 (v5 + 1)) μ12 q_v1 q_v2 q_v3 qy7 (R32_w _) h
            · rw [if_pos hc] at h
              refine r_iload (pc := 168) hX 0 rfl (dk D_X12_needs 94 rfl) ?_
              refine r_goto (pc := 170) hX 174 rfl (dk D_X12_needs 95 rfl) ?_
              refine r_istoren (lv' := [(3, 0, x15), (8, 0, x15), (4, 0, y7), (0, 2, v0), (1, 0, v1), (2, 0, v2), (5, 0, v5), (6, 1, x4)]) (pc := 174) hX (by decide) rfl (dk D_X12_needs 97 rfl) ?_
              refine r_iinc (lv' := [(5, 0, (w32 (v5 + 1))), (3, 0, x15), (8, 0, x15), (4, 0, y7), (0, 2, v0), (1, 0, v1), (2, 0, v2), (6, 1, x4)]) (pc := 175) hX 6 rfl (by decide) rfl (dk D_X12_needs 98 rfl) ?_
              refine r_goto (pc := 178) hX 72 rfl (dk D_X12_needs 99 rfl) ?_
              refine r_sub (lv' := [(0, 2, v0), (1, 0, v1), (2, 0, v2), (3, 0, x15), (4, 0, y7), (5, 0, (w32 (v5 + 1)))]) [4, 5, 6, 1, 3, 0] rfl ?_
              exact ih v0 v1 v2 x15 y7 (w32 (v5 + 1)) μ12 q_v1 q_v2 qx15 qy7 (R32_w _) h
          · rw [if_pos hc] at h
            refine r_goto (pc := 134) hX 175 rfl (dk D_X12_needs 75 rfl) ?_
            refine r_iinc (lv' := [(5, 0, (w32 (v5 + 1))), (4, 0, y7), (0, 2, v0), (1, 0, v1), (2, 0, v2), (3, 0, v3), (6, 1, x4)]) (pc := 175) hX 5 rfl (by decide) rfl (dk D_X12_needs 98 rfl) ?_
            refine r_goto (pc := 178) hX 72 rfl (dk D_X12_needs 99 rfl) ?_
            refine r_sub (lv' := [(0, 2, v0), (1, 0, v1), (2, 0, v2), (3, 0, v3), (4, 0, y7), (5, 0, (w32 (v5 + 1)))]) [2, 3, 4, 5, 1, 0] rfl ?_
            exact ih v0 v1 v2 v3 y7 (w32 (v5 + 1)) μ8 q_v1 q_v2 q_v3 qy7 (R32_w _) h
        clear h
        have h := hb
        clear hb
        refine r_if_eq (pc := 108) hX qx5 126 rfl (dk D_X12_needs 62 rfl) (fun hc => ?_) (fun hc => ?_)
        · rw [if_pos hc] at h
          refine r_iconst (pc := 126) hX (dk D_X12_needs 71 rfl) ?_
          replace h := Option.some.inj h
          obtain ⟨h_0, h⟩ := Prod.mk.inj h
          subst y7
          subst μ8
          refine r_sub (lv' := [(0, 2, v0), (1, 0, v1), (2, 0, v2), (3, 0, v3), (5, 0, v5), (6, 1, x4)]) [1, 2, 3, 4, 6, 0] rfl ?_
          exact hj (R32_lit rfl)
        · rw [if_neg hc] at h
          refine r_aloadn (pc := 111) hX 1 rfl (dk D_X12_needs 63 rfl) ?_
          refine r_iloadn (pc := 112) hX 2 rfl (dk D_X12_needs 64 rfl) ?_
          refine r_lload (pc := 113) hX 0 rfl (dk D_X12_needs 65 rfl) ?_
          refine r_l2i (pc := 115) hX qx4 (dk D_X12_needs 66 rfl) ?_
          obtain ⟨_, hi, h⟩ := bd_some h
          obtain ⟨x9, μ10, hx9, h⟩ := bd2_some h
          refine r_invV0 (As := [(0, v1), (0, (w32 x4))]) (pc := 116) hX ml_12_255 (L_M_refuses q_v1 (R32_w _) hx9) (isk_u hi) (Rm_of hRm (by decide) ⟨by decide, by decide⟩) (by decide) rfl (Nat.le_of_ble_eq_true rfl) rfl (dk D_X12_needs 67 rfl) (fun qx9 => ?_)
          refine r_if_ne (pc := 119) hX qx9 126 rfl (dk D_X12_needs 68 rfl) (fun hc => ?_) (fun hc => ?_)
          · rw [if_neg hc] at h
            refine r_iconst (pc := 126) hX (dk D_X12_needs 71 rfl) ?_
            replace h := Option.some.inj h
            obtain ⟨h_0, h⟩ := Prod.mk.inj h
            subst y7
            subst μ8
            refine r_sub (lv' := [(0, 2, v0), (1, 0, v1), (2, 0, v2), (3, 0, v3), (5, 0, v5), (6, 1, x4)]) [1, 2, 3, 4, 6, 0] rfl ?_
            exact hj (R32_lit rfl)
          · rw [if_pos hc] at h
            refine r_iconst (pc := 122) hX (dk D_X12_needs 69 rfl) ?_
            refine r_goto (pc := 123) hX 127 rfl (dk D_X12_needs 70 rfl) ?_
            replace h := Option.some.inj h
            obtain ⟨h_0, h⟩ := Prod.mk.inj h
            subst y7
            subst μ8
            refine r_sub (lv' := [(0, 2, v0), (1, 0, v1), (2, 0, v2), (3, 0, v3), (5, 0, v5), (6, 1, x4)]) [1, 2, 3, 4, 6, 0] rfl ?_
            exact hj (R32_lit rfl)
set_option maxRecDepth 100000 in
set_option maxHeartbeats 4000000 in
theorem L_M_needs_J181 {E : EX} {X : CX} {res : Int} {μe : Mem} (hX : Good E X cX12_needs 9 "TollsBackModel") (hM : GoodM E X (some .int) (some (0, res)) μe 0 0) (hRm : cR X = rmOf 5 0 0) {v0 v1 v3 v4 : Int} {μ : Mem} (q_v1 : R32 v1) (q_v3 : R32 v3) (q_v4 : R32 v4) (h : M_needs_J181 v0 v1 v3 v4 μ = some (res, μe)) : At E X cX12_needs 9 "TollsBackModel" (0, 0) 181 [(0, 2, v0), (1, 0, v1), (3, 0, v3), (4, 0, v4)] [] μ := by
  unfold M_needs_J181 at h
  refine r_aloadn (pc := 181) hX 0 rfl (dk D_X12_needs 100 rfl) ?_
  refine r_iconst (pc := 182) hX (dk D_X12_needs 101 rfl) ?_
  obtain ⟨μ1, hμ1, h⟩ := bd_some h
  refine r_putI (pc := 183) hX fl_12_30 rfl rfl (R32_lit rfl) (Or.inr rfl) hμ1 (dk D_X12_needs 102 rfl) ?_
  refine r_aloadn (pc := 186) hX 0 rfl (dk D_X12_needs 103 rfl) ?_
  refine r_iloadn (pc := 187) hX 1 rfl (dk D_X12_needs 104 rfl) ?_
  obtain ⟨_, hi, h⟩ := bd_some h
  obtain ⟨x2, μ3, hx2, h⟩ := bd2_some h
  refine r_invV0 (As := [(0, v1)]) (pc := 188) hX ml_12_284 (L_M_isAgain q_v1 hx2) (isk_u hi) (Rm_of hRm (by decide) ⟨by decide, by decide⟩) (by decide) rfl (Nat.le_of_ble_eq_true rfl) rfl (dk D_X12_needs 105 rfl) (fun _ => ?_)
  refine r_iload (pc := 191) hX 3 rfl (dk D_X12_needs 106 rfl) ?_
  refine r_if_eq (pc := 193) hX q_v4 200 rfl (dk D_X12_needs 107 rfl) (fun hc => ?_) (fun hc => ?_)
  · rw [if_pos hc] at h
    refine r_iconst (pc := 200) hX (dk D_X12_needs 110 rfl) ?_
    cases h
    exact r_ireturn (pc := 201) hX (R32_lit rfl) hM ⟨by decide, by decide⟩ (dk D_X12_needs 111 rfl)
  · rw [if_neg hc] at h
    refine r_iloadn (pc := 196) hX 2 rfl (dk D_X12_needs 108 rfl) ?_
    refine r_goto (pc := 197) hX 201 rfl (dk D_X12_needs 109 rfl) ?_
    cases h
    exact r_ireturn (pc := 201) hX q_v3 hM ⟨by decide, by decide⟩ (dk D_X12_needs 111 rfl)
set_option maxRecDepth 100000 in
set_option maxHeartbeats 4000000 in
theorem L_M_needs {E : EX} {l : Launch} {a0 a1 a2 res : Int} {μ μ' : Mem} (q_a1 : R32 a1) (q_a2 : R32 a2) (h : M_needs a0 a1 a2 μ = some (res, μ')) : Ok E l 5 yX12_needs (.code yX12_needs cX12_needs 9 (some .int)) 0 0 [(2, a0), (0, a1), (0, a2)] μ (some (0, res)) μ' := by
  refine Ok.of (own := "TollsBackModel") [(0, 2, a0), (1, 0, a1), (2, 0, a2)] (by decide +kernel) rfl (Nat.le_of_ble_eq_true rfl) rfl ?_
  intro X hL hRm hin hX hM
  unfold M_needs at h
  subst hL
  refine r_aloadn (pc := 0) hX 0 rfl (dk D_X12_needs 0 rfl) ?_
  refine r_iconst (pc := 1) hX (dk D_X12_needs 1 rfl) ?_
  obtain ⟨μ1, hμ1, h⟩ := bd_some h
  refine r_putI (pc := 2) hX fl_12_1 rfl rfl (R32_lit rfl) trivial hμ1 (dk D_X12_needs 2 rfl) ?_
  refine r_aloadn (pc := 5) hX 0 rfl (dk D_X12_needs 3 rfl) ?_
  refine r_iloadn (pc := 6) hX 1 rfl (dk D_X12_needs 4 rfl) ?_
  obtain ⟨_, hi, h⟩ := bd_some h
  obtain ⟨x2, μ3, hx2, h⟩ := bd2_some h
  refine r_invV0 (As := [(0, a1)]) (pc := 7) hX ml_12_230 (L_M_isOne q_a1 hx2) (isk_u hi) (Rm_of hRm (by decide) ⟨by decide, by decide⟩) (by decide) rfl (Nat.le_of_ble_eq_true rfl) rfl (dk D_X12_needs 5 rfl) (fun qx2 => ?_)
  refine r_if_eq (pc := 10) hX qx2 25 rfl (dk D_X12_needs 6 rfl) (fun hc => ?_) (fun hc => ?_)
  · rw [if_pos hc] at h
    refine r_bipush (pc := 25) hX rfl (dk D_X12_needs 13 rfl) ?_
    cases h
    exact r_ireturn (pc := 27) hX (R32_lit rfl) hM ⟨by decide, by decide⟩ (dk D_X12_needs 14 rfl)
  · rw [if_neg hc] at h
    refine r_iloadn (pc := 13) hX 2 rfl (dk D_X12_needs 7 rfl) ?_
    refine r_i2l (pc := 14) hX q_a2 (dk D_X12_needs 8 rfl) ?_
    refine r_lconst (x := 0) (pc := 15) hX (by decide) (dk D_X12_needs 9 rfl) ?_
    refine r_ldc2 (pc := 16) hX cn_12_274 (dk D_X12_needs 10 rfl) ?_
    obtain ⟨x4, μ5, hx4, h⟩ := bd2_some h
    refine r_invS0 (As := [(1, a2), (1, 0), (1, 3)]) (pc := 19) hX ml_12_178 (L_M_within (R64_of q_a2) (R64_lit rfl) (R64_lit rfl) hx4) (Rm_of hRm (by decide) ⟨by decide, by decide⟩) (by decide) rfl (Nat.le_of_ble_eq_true rfl) rfl (dk D_X12_needs 11 rfl) (fun qx4 => ?_)
    refine r_if_ne (pc := 22) hX qx4 28 rfl (dk D_X12_needs 12 rfl) (fun hc => ?_) (fun hc => ?_)
    · rw [if_neg hc] at h
      refine r_aloadn (pc := 28) hX 0 rfl (dk D_X12_needs 15 rfl) ?_
      obtain ⟨x6, hx6, h⟩ := bd_some h
      refine r_getR (pc := 29) hX fl_12_102 rfl hx6 (dk D_X12_needs 16 rfl) ?_
      refine r_iloadn (pc := 32) hX 2 rfl (dk D_X12_needs 17 rfl) ?_
      obtain ⟨x7, hx7, h⟩ := bd_some h
      refine r_iald (pc := 33) hX q_a2 hx7 (dk D_X12_needs 18 rfl) (fun qx7 => ?_)
      refine r_iconst (pc := 34) hX (dk D_X12_needs 19 rfl) ?_
      refine r_icmp_ne (pc := 35) hX qx7 (R32_lit rfl) 41 rfl (dk D_X12_needs 20 rfl) (fun hc => ?_) (fun hc => ?_)
      · rw [if_neg hc] at h
        refine r_aloadn (pc := 41) hX 0 rfl (dk D_X12_needs 23 rfl) ?_
        refine r_iloadn (pc := 42) hX 1 rfl (dk D_X12_needs 24 rfl) ?_
        obtain ⟨_, hi, h⟩ := bd_some h
        obtain ⟨x8, μ9, hx8, h⟩ := bd2_some h
        refine r_invV0 (As := [(0, a1)]) (pc := 43) hX ml_12_278 (L_M_keeps q_a1 hx8) (isk_u hi) (Rm_of hRm (by decide) ⟨by decide, by decide⟩) (by decide) rfl (Nat.le_of_ble_eq_true rfl) rfl (dk D_X12_needs 25 rfl) (fun _ => ?_)
        refine r_aloadn (pc := 46) hX 0 rfl (dk D_X12_needs 26 rfl) ?_
        refine r_iconst (pc := 47) hX (dk D_X12_needs 27 rfl) ?_
        obtain ⟨μ10, hμ10, h⟩ := bd_some h
        refine r_putI (pc := 48) hX fl_12_30 rfl rfl (R32_lit rfl) (Or.inl rfl) hμ10 (dk D_X12_needs 28 rfl) ?_
        refine r_aloadn (pc := 51) hX 0 rfl (dk D_X12_needs 29 rfl) ?_
        obtain ⟨x11, hx11, h⟩ := bd_some h
        refine r_getR (pc := 52) hX fl_12_13 rfl hx11 (dk D_X12_needs 30 rfl) ?_
        refine r_sipush (pc := 55) hX rfl (dk D_X12_needs 31 rfl) ?_
        refine r_iloadn (pc := 58) hX 1 rfl (dk D_X12_needs 32 rfl) ?_
        refine r_iadd (pc := 59) hX (dk D_X12_needs 33 rfl) ?_
        refine r_ldcw (pc := 60) hX cn_12_312 (dk D_X12_needs 34 rfl) ?_
        obtain ⟨μ12, hμ12, h⟩ := bd_some h
        refine r_iast (pc := 63) hX (R32_w _) (R32_lit rfl) hμ12 (dk D_X12_needs 35 rfl) ?_
        refine r_iconst (pc := 64) hX (dk D_X12_needs 36 rfl) ?_
        refine r_istoren (lv' := [(3, 0, 0), (0, 2, a0), (1, 0, a1), (2, 0, a2)]) (pc := 65) hX (by decide) rfl (dk D_X12_needs 37 rfl) ?_
        refine r_iconst (pc := 66) hX (dk D_X12_needs 38 rfl) ?_
        refine r_istore (lv' := [(4, 0, 1), (3, 0, 0), (0, 2, a0), (1, 0, a1), (2, 0, a2)]) (pc := 67) hX (by decide) rfl (dk D_X12_needs 39 rfl) ?_
        refine r_iconst (pc := 69) hX (dk D_X12_needs 40 rfl) ?_
        refine r_istore (lv' := [(5, 0, 0), (4, 0, 1), (3, 0, 0), (0, 2, a0), (1, 0, a1), (2, 0, a2)]) (pc := 70) hX (by decide) rfl (dk D_X12_needs 41 rfl) ?_
        refine r_sub (lv' := [(0, 2, a0), (1, 0, a1), (2, 0, a2), (3, 0, 0), (4, 0, 1), (5, 0, 0)]) [3, 4, 5, 2, 1, 0] rfl ?_
        refine L_M_needs_L72 hX hM hRm ?_ FU a0 a1 a2 0 1 0 μ12 q_a1 q_a2 (R32_lit rfl) (R32_lit rfl) (R32_lit rfl) h
        intro x13 x14 x15 x16 μ17 qx14 qx15 qx16 h
        refine L_M_needs_J181 hX hM hRm qx14 qx15 qx16 h
      · rw [if_pos hc] at h
        refine r_bipush (pc := 38) hX rfl (dk D_X12_needs 21 rfl) ?_
        cases h
        exact r_ireturn (pc := 40) hX (R32_lit rfl) hM ⟨by decide, by decide⟩ (dk D_X12_needs 22 rfl)
    · rw [if_pos hc] at h
      refine r_bipush (pc := 25) hX rfl (dk D_X12_needs 13 rfl) ?_
      cases h
      exact r_ireturn (pc := 27) hX (R32_lit rfl) hM ⟨by decide, by decide⟩ (dk D_X12_needs 14 rfl)
set_option maxRecDepth 100000 in
set_option maxHeartbeats 4000000 in
theorem L_M_gainOf {E : EX} {l : Launch} {a0 a1 a2 res : Int} {μ μ' : Mem} (q_a1 : R32 a1) (q_a2 : R32 a2) (h : M_gainOf a0 a1 a2 μ = some (res, μ')) : Ok E l 6 yX12_gainOf (.code yX12_gainOf cX12_gainOf 4 (some .int)) 0 0 [(2, a0), (0, a1), (0, a2)] μ (some (0, res)) μ' := by
  refine Ok.of (own := "TollsBackModel") [(0, 2, a0), (1, 0, a1), (2, 0, a2)] (by decide +kernel) rfl (Nat.le_of_ble_eq_true rfl) rfl ?_
  intro X hL hRm hin hX hM
  unfold M_gainOf at h
  subst hL
  refine r_aloadn (pc := 0) hX 0 rfl (dk D_X12_gainOf 0 rfl) ?_
  refine r_iloadn (pc := 1) hX 1 rfl (dk D_X12_gainOf 1 rfl) ?_
  refine r_iloadn (pc := 2) hX 1 rfl (dk D_X12_gainOf 2 rfl) ?_
  obtain ⟨_, hi, h⟩ := bd_some h
  obtain ⟨x1, μ2, hx1, h⟩ := bd2_some h
  refine r_invV0 (As := [(0, a1), (0, a1)]) (pc := 3) hX ml_12_308 (L_M_cheapOf q_a1 q_a1 hx1) (isk_u hi) (Rm_of hRm (by decide) ⟨by decide, by decide⟩) (by decide) rfl (Nat.le_of_ble_eq_true rfl) rfl (dk D_X12_gainOf 3 rfl) (fun qx1 => ?_)
  refine r_if_ne (pc := 6) hX qx1 13 rfl (dk D_X12_gainOf 4 rfl) (fun hc => ?_) (fun hc => ?_)
  · rw [if_neg hc] at h
    refine r_aloadn (pc := 13) hX 0 rfl (dk D_X12_gainOf 7 rfl) ?_
    obtain ⟨x3, hx3, h⟩ := bd_some h
    refine r_getI (pc := 14) hX fl_12_296 rfl rfl hx3 (dk D_X12_gainOf 8 rfl) (fun qx3 => ?_)
    refine r_istoren (lv' := [(3, 0, x3), (0, 2, a0), (1, 0, a1), (2, 0, a2)]) (pc := 17) hX (by decide) rfl (dk D_X12_gainOf 9 rfl) ?_
    refine r_aloadn (pc := 18) hX 1 rfl (dk D_X12_gainOf 10 rfl) ?_
    refine r_iloadn (pc := 19) hX 2 rfl (dk D_X12_gainOf 11 rfl) ?_
    refine r_iloadn (pc := 20) hX 3 rfl (dk D_X12_gainOf 12 rfl) ?_
    obtain ⟨_, hi, h⟩ := bd_some h
    obtain ⟨x4, μ5, hx4, h⟩ := bd2_some h
    refine r_invV0 (As := [(0, a1), (0, a2)]) (pc := 21) hX ml_12_308 (L_M_cheapOf q_a1 q_a2 hx4) (isk_u hi) (Rm_of hRm (by decide) ⟨by decide, by decide⟩) (by decide) rfl (Nat.le_of_ble_eq_true rfl) rfl (dk D_X12_gainOf 13 rfl) (fun qx4 => ?_)
    refine r_if_eq (pc := 24) hX qx4 36 rfl (dk D_X12_gainOf 14 rfl) (fun hc => ?_) (fun hc => ?_)
    · rw [if_pos hc] at h
      refine r_ldcw (pc := 36) hX cn_12_311 (dk D_X12_gainOf 20 rfl) ?_
      cases h
      exact r_ireturn (pc := 39) hX (R32_lit rfl) hM ⟨by decide, by decide⟩ (dk D_X12_gainOf 21 rfl)
    · rw [if_neg hc] at h
      refine r_iloadn (pc := 27) hX 0 rfl (dk D_X12_gainOf 15 rfl) ?_
      refine r_aloadn (pc := 28) hX 1 rfl (dk D_X12_gainOf 16 rfl) ?_
      obtain ⟨x6, hx6, h⟩ := bd_some h
      refine r_getI (pc := 29) hX fl_12_296 rfl rfl hx6 (dk D_X12_gainOf 17 rfl) (fun qx6 => ?_)
      refine r_isub (pc := 32) hX (dk D_X12_gainOf 18 rfl) ?_
      refine r_goto (pc := 33) hX 39 rfl (dk D_X12_gainOf 19 rfl) ?_
      cases h
      exact r_ireturn (pc := 39) hX (R32_w _) hM ⟨by decide, by decide⟩ (dk D_X12_gainOf 21 rfl)
  · rw [if_pos hc] at h
    refine r_ldcw (pc := 9) hX cn_12_311 (dk D_X12_gainOf 5 rfl) ?_
    cases h
    exact r_ireturn (pc := 12) hX (R32_lit rfl) hM ⟨by decide, by decide⟩ (dk D_X12_gainOf 6 rfl)
set_option maxRecDepth 100000 in
set_option maxHeartbeats 4000000 in
theorem L_M_partner_L23 {E : EX} {X : CX} {res : Int} {μe : Mem} (hX : Good E X cX12_partner 7 "TollsBackModel") (hM : GoodM E X (some .int) (some (0, res)) μe 0 0) (hRm : cR X = rmOf 7 0 0) : ∀ (n : Nat) (v0 v1 v2 v3 v4 : Int) (μ : Mem) (q_v1 : R32 v1) (q_v2 : R32 v2) (q_v3 : R32 v3) (q_v4 : R32 v4) (h : M_partner_L23 n v0 v1 v2 v3 v4 μ = some (res, μe)), At E X cX12_partner 7 "TollsBackModel" (0, 0) 23 [(0, 2, v0), (1, 0, v1), (2, 0, v2), (3, 0, v3), (4, 0, v4)] [] μ := by
  intro n
  induction n with
  | zero =>
    intro v0 v1 v2 v3 v4 μ q_v1 q_v2 q_v3 q_v4 h
    have h : (none : Option (Int × Mem)) = some (res, μe) := h
    cases h
  | succ n ih =>
    intro v0 v1 v2 v3 v4 μ q_v1 q_v2 q_v3 q_v4 h
    rw [M_partner_L23.eq_2] at h
    refine r_iload (pc := 23) hX 4 rfl (dk D_X12_partner 15 rfl) ?_
    refine r_aloadn (pc := 25) hX 0 rfl (dk D_X12_partner 16 rfl) ?_
    obtain ⟨x1, hx1, h⟩ := bd_some h
    refine r_getR (pc := 26) hX fl_12_13 rfl hx1 (dk D_X12_partner 17 rfl) ?_
    refine r_sipush (pc := 29) hX rfl (dk D_X12_partner 18 rfl) ?_
    obtain ⟨x2, hx2, h⟩ := bd_some h
    refine r_iald (pc := 32) hX (R32_lit rfl) hx2 (dk D_X12_partner 19 rfl) (fun qx2 => ?_)
    refine r_icmp_ge (pc := 33) hX q_v4 qx2 124 rfl (dk D_X12_partner 20 rfl) (fun hc => ?_) (fun hc => ?_)
    · rw [if_neg hc] at h
      refine r_iloadn (pc := 124) hX 2 rfl (dk D_X12_partner 66 rfl) ?_
      cases h
      exact r_ireturn (pc := 125) hX q_v2 hM ⟨by decide, by decide⟩ (dk D_X12_partner 67 rfl)
    · rw [if_pos hc] at h
      refine r_iload (pc := 36) hX 4 rfl (dk D_X12_partner 21 rfl) ?_
      refine r_iloadn (pc := 38) hX 1 rfl (dk D_X12_partner 22 rfl) ?_
      refine r_icmp_eq (pc := 39) hX q_v4 q_v1 118 rfl (dk D_X12_partner 23 rfl) (fun hc => ?_) (fun hc => ?_)
      · rw [if_pos hc] at h
        refine r_iinc (lv' := [(4, 0, (w32 (v4 + 1))), (0, 2, v0), (1, 0, v1), (2, 0, v2), (3, 0, v3)]) (pc := 118) hX 4 rfl (by decide) rfl (dk D_X12_partner 64 rfl) ?_
        refine r_goto (pc := 121) hX 23 rfl (dk D_X12_partner 65 rfl) ?_
        refine r_sub (lv' := [(0, 2, v0), (1, 0, v1), (2, 0, v2), (3, 0, v3), (4, 0, (w32 (v4 + 1)))]) [1, 2, 3, 4, 0] rfl ?_
        exact ih v0 v1 v2 v3 (w32 (v4 + 1)) μ q_v1 q_v2 q_v3 (R32_w _) h
      · rw [if_neg hc] at h
        refine r_aloadn (pc := 42) hX 0 rfl (dk D_X12_partner 24 rfl) ?_
        obtain ⟨x3, hx3, h⟩ := bd_some h
        refine r_getR (pc := 43) hX fl_12_13 rfl hx3 (dk D_X12_partner 25 rfl) ?_
        refine r_sipush (pc := 46) hX rfl (dk D_X12_partner 26 rfl) ?_
        refine r_iload (pc := 49) hX 4 rfl (dk D_X12_partner 27 rfl) ?_
        refine r_iadd (pc := 51) hX (dk D_X12_partner 28 rfl) ?_
        obtain ⟨x4, hx4, h⟩ := bd_some h
        refine r_iald (pc := 52) hX (R32_w _) hx4 (dk D_X12_partner 29 rfl) (fun qx4 => ?_)
        refine r_aloadn (pc := 53) hX 0 rfl (dk D_X12_partner 30 rfl) ?_
        obtain ⟨x5, hx5, h⟩ := bd_some h
        refine r_getR (pc := 54) hX fl_12_13 rfl hx5 (dk D_X12_partner 31 rfl) ?_
        refine r_sipush (pc := 57) hX rfl (dk D_X12_partner 32 rfl) ?_
        refine r_iloadn (pc := 60) hX 1 rfl (dk D_X12_partner 33 rfl) ?_
        refine r_iadd (pc := 61) hX (dk D_X12_partner 34 rfl) ?_
        obtain ⟨x6, hx6, h⟩ := bd_some h
        refine r_iald (pc := 62) hX (R32_w _) hx6 (dk D_X12_partner 35 rfl) (fun qx6 => ?_)
        refine r_icmp_eq (pc := 63) hX qx4 qx6 69 rfl (dk D_X12_partner 36 rfl) (fun hc => ?_) (fun hc => ?_)
        · rw [if_pos hc] at h
          refine r_aloadn (pc := 69) hX 0 rfl (dk D_X12_partner 38 rfl) ?_
          refine r_iloadn (pc := 70) hX 1 rfl (dk D_X12_partner 39 rfl) ?_
          refine r_iload (pc := 71) hX 4 rfl (dk D_X12_partner 40 rfl) ?_
          obtain ⟨_, hi, h⟩ := bd_some h
          obtain ⟨x7, μ8, hx7, h⟩ := bd2_some h
          refine r_invV0 (As := [(0, v1), (0, v4)]) (pc := 73) hX ml_12_313 (L_M_gainOf q_v1 q_v4 hx7) (isk_u hi) (Rm_of hRm (by decide) ⟨by decide, by decide⟩) (by decide) rfl (Nat.le_of_ble_eq_true rfl) rfl (dk D_X12_partner 41 rfl) (fun qx7 => ?_)
          refine r_istore (lv' := [(5, 0, x7), (0, 2, v0), (1, 0, v1), (2, 0, v2), (3, 0, v3), (4, 0, v4)]) (pc := 76) hX (by decide) rfl (dk D_X12_partner 42 rfl) ?_
          refine r_aloadn (pc := 78) hX 1 rfl (dk D_X12_partner 43 rfl) ?_
          refine r_iload (pc := 79) hX 5 rfl (dk D_X12_partner 44 rfl) ?_
          refine r_iloadn (pc := 81) hX 2 rfl (dk D_X12_partner 45 rfl) ?_
          obtain ⟨_, hi, h⟩ := bd_some h
          obtain ⟨x9, μ10, hx9, h⟩ := bd2_some h
          refine r_invV0 (As := [(0, v4), (0, v1)]) (pc := 82) hX ml_12_313 (L_M_gainOf q_v4 q_v1 hx9) (isk_u hi) (Rm_of hRm (by decide) ⟨by decide, by decide⟩) (by decide) rfl (Nat.le_of_ble_eq_true rfl) rfl (dk D_X12_partner 46 rfl) (fun qx9 => ?_)
          refine r_istore (lv' := [(6, 0, x9), (5, 0, x7), (0, 2, v0), (1, 0, v1), (2, 0, v2), (3, 0, v3), (4, 0, v4)]) (pc := 85) hX (by decide) rfl (dk D_X12_partner 47 rfl) ?_
          refine r_iload (pc := 87) hX 1 rfl (dk D_X12_partner 48 rfl) ?_
          refine r_if_lt (pc := 89) hX qx7 118 rfl (dk D_X12_partner 49 rfl) (fun hc => ?_) (fun hc => ?_)
          · rw [if_pos hc] at h
            refine r_iinc (lv' := [(4, 0, (w32 (v4 + 1))), (6, 0, x9), (5, 0, x7), (0, 2, v0), (1, 0, v1), (2, 0, v2), (3, 0, v3)]) (pc := 118) hX 6 rfl (by decide) rfl (dk D_X12_partner 64 rfl) ?_
            refine r_goto (pc := 121) hX 23 rfl (dk D_X12_partner 65 rfl) ?_
            refine r_sub (lv' := [(0, 2, v0), (1, 0, v1), (2, 0, v2), (3, 0, v3), (4, 0, (w32 (v4 + 1)))]) [3, 4, 5, 6, 0] rfl ?_
            exact ih v0 v1 v2 v3 (w32 (v4 + 1)) μ10 q_v1 q_v2 q_v3 (R32_w _) h
          · rw [if_neg hc] at h
            refine r_iload (pc := 92) hX 0 rfl (dk D_X12_partner 50 rfl) ?_
            refine r_if_lt (pc := 94) hX qx9 118 rfl (dk D_X12_partner 51 rfl) (fun hc => ?_) (fun hc => ?_)
            · rw [if_pos hc] at h
              refine r_iinc (lv' := [(4, 0, (w32 (v4 + 1))), (6, 0, x9), (5, 0, x7), (0, 2, v0), (1, 0, v1), (2, 0, v2), (3, 0, v3)]) (pc := 118) hX 6 rfl (by decide) rfl (dk D_X12_partner 64 rfl) ?_
              refine r_goto (pc := 121) hX 23 rfl (dk D_X12_partner 65 rfl) ?_
              refine r_sub (lv' := [(0, 2, v0), (1, 0, v1), (2, 0, v2), (3, 0, v3), (4, 0, (w32 (v4 + 1)))]) [3, 4, 5, 6, 0] rfl ?_
              exact ih v0 v1 v2 v3 (w32 (v4 + 1)) μ10 q_v1 q_v2 q_v3 (R32_w _) h
            · rw [if_neg hc] at h
              refine r_iload (pc := 97) hX 1 rfl (dk D_X12_partner 52 rfl) ?_
              refine r_iload (pc := 99) hX 0 rfl (dk D_X12_partner 53 rfl) ?_
              refine r_iadd (pc := 101) hX (dk D_X12_partner 54 rfl) ?_
              refine r_iloadn (pc := 102) hX 5 rfl (dk D_X12_partner 55 rfl) ?_
              refine r_icmp_gt (pc := 103) hX (R32_w _) q_v3 109 rfl (dk D_X12_partner 56 rfl) (fun hc => ?_) (fun hc => ?_)
              · rw [if_pos hc] at h
                refine r_iload (pc := 109) hX 6 rfl (dk D_X12_partner 58 rfl) ?_
                refine r_istoren (lv' := [(2, 0, v4), (6, 0, x9), (5, 0, x7), (0, 2, v0), (1, 0, v1), (3, 0, v3), (4, 0, v4)]) (pc := 111) hX (by decide) rfl (dk D_X12_partner 59 rfl) ?_
                refine r_iload (pc := 112) hX 2 rfl (dk D_X12_partner 60 rfl) ?_
                refine r_iload (pc := 114) hX 1 rfl (dk D_X12_partner 61 rfl) ?_
                refine r_iadd (pc := 116) hX (dk D_X12_partner 62 rfl) ?_
                obtain ⟨x11, ex11, h⟩ := bd_some h
                replace ex11 := Option.some.inj ex11
                have qx11 : R32 x11 := ex11 ▸ (R32_w _)
                rw [ex11]
                refine r_istoren (lv' := [(3, 0, x11), (2, 0, v4), (6, 0, x9), (5, 0, x7), (0, 2, v0), (1, 0, v1), (4, 0, v4)]) (pc := 117) hX (by decide) rfl (dk D_X12_partner 63 rfl) ?_
                refine r_iinc (lv' := [(4, 0, (w32 (v4 + 1))), (3, 0, x11), (2, 0, v4), (6, 0, x9), (5, 0, x7), (0, 2, v0), (1, 0, v1)]) (pc := 118) hX 6 rfl (by decide) rfl (dk D_X12_partner 64 rfl) ?_
                refine r_goto (pc := 121) hX 23 rfl (dk D_X12_partner 65 rfl) ?_
                refine r_sub (lv' := [(0, 2, v0), (1, 0, v1), (2, 0, v4), (3, 0, x11), (4, 0, (w32 (v4 + 1)))]) [5, 6, 2, 1, 0] rfl ?_
                exact ih v0 v1 v4 x11 (w32 (v4 + 1)) μ10 q_v1 q_v4 qx11 (R32_w _) h
              · rw [if_neg hc] at h
                refine r_goto (pc := 106) hX 118 rfl (dk D_X12_partner 57 rfl) ?_
                refine r_iinc (lv' := [(4, 0, (w32 (v4 + 1))), (6, 0, x9), (5, 0, x7), (0, 2, v0), (1, 0, v1), (2, 0, v2), (3, 0, v3)]) (pc := 118) hX 6 rfl (by decide) rfl (dk D_X12_partner 64 rfl) ?_
                refine r_goto (pc := 121) hX 23 rfl (dk D_X12_partner 65 rfl) ?_
                refine r_sub (lv' := [(0, 2, v0), (1, 0, v1), (2, 0, v2), (3, 0, v3), (4, 0, (w32 (v4 + 1)))]) [3, 4, 5, 6, 0] rfl ?_
                exact ih v0 v1 v2 v3 (w32 (v4 + 1)) μ10 q_v1 q_v2 q_v3 (R32_w _) h
        · rw [if_neg hc] at h
          refine r_goto (pc := 66) hX 118 rfl (dk D_X12_partner 37 rfl) ?_
          refine r_iinc (lv' := [(4, 0, (w32 (v4 + 1))), (0, 2, v0), (1, 0, v1), (2, 0, v2), (3, 0, v3)]) (pc := 118) hX 4 rfl (by decide) rfl (dk D_X12_partner 64 rfl) ?_
          refine r_goto (pc := 121) hX 23 rfl (dk D_X12_partner 65 rfl) ?_
          refine r_sub (lv' := [(0, 2, v0), (1, 0, v1), (2, 0, v2), (3, 0, v3), (4, 0, (w32 (v4 + 1)))]) [1, 2, 3, 4, 0] rfl ?_
          exact ih v0 v1 v2 v3 (w32 (v4 + 1)) μ q_v1 q_v2 q_v3 (R32_w _) h
set_option maxRecDepth 100000 in
set_option maxHeartbeats 4000000 in
theorem L_M_partner {E : EX} {l : Launch} {a0 a1 res : Int} {μ μ' : Mem} (q_a1 : R32 a1) (h : M_partner a0 a1 μ = some (res, μ')) : Ok E l 7 yX12_partner (.code yX12_partner cX12_partner 7 (some .int)) 0 0 [(2, a0), (0, a1)] μ (some (0, res)) μ' := by
  refine Ok.of (own := "TollsBackModel") [(0, 2, a0), (1, 0, a1)] (by decide +kernel) rfl (Nat.le_of_ble_eq_true rfl) rfl ?_
  intro X hL hRm hin hX hM
  unfold M_partner at h
  subst hL
  refine r_aloadn (pc := 0) hX 0 rfl (dk D_X12_partner 0 rfl) ?_
  refine r_iconst (pc := 1) hX (dk D_X12_partner 1 rfl) ?_
  obtain ⟨μ1, hμ1, h⟩ := bd_some h
  refine r_putI (pc := 2) hX fl_12_1 rfl rfl (R32_lit rfl) trivial hμ1 (dk D_X12_partner 2 rfl) ?_
  refine r_aloadn (pc := 5) hX 0 rfl (dk D_X12_partner 3 rfl) ?_
  refine r_iloadn (pc := 6) hX 1 rfl (dk D_X12_partner 4 rfl) ?_
  obtain ⟨_, hi, h⟩ := bd_some h
  obtain ⟨x2, μ3, hx2, h⟩ := bd2_some h
  refine r_invV0 (As := [(0, a1)]) (pc := 7) hX ml_12_230 (L_M_isOne q_a1 hx2) (isk_u hi) (Rm_of hRm (by decide) ⟨by decide, by decide⟩) (by decide) rfl (Nat.le_of_ble_eq_true rfl) rfl (dk D_X12_partner 5 rfl) (fun qx2 => ?_)
  refine r_if_ne (pc := 10) hX qx2 16 rfl (dk D_X12_partner 6 rfl) (fun hc => ?_) (fun hc => ?_)
  · rw [if_neg hc] at h
    refine r_iconst (pc := 16) hX (dk D_X12_partner 9 rfl) ?_
    refine r_istoren (lv' := [(2, 0, (-1)), (0, 2, a0), (1, 0, a1)]) (pc := 17) hX (by decide) rfl (dk D_X12_partner 10 rfl) ?_
    refine r_iconst (pc := 18) hX (dk D_X12_partner 11 rfl) ?_
    refine r_istoren (lv' := [(3, 0, 0), (2, 0, (-1)), (0, 2, a0), (1, 0, a1)]) (pc := 19) hX (by decide) rfl (dk D_X12_partner 12 rfl) ?_
    refine r_iconst (pc := 20) hX (dk D_X12_partner 13 rfl) ?_
    refine r_istore (lv' := [(4, 0, 0), (3, 0, 0), (2, 0, (-1)), (0, 2, a0), (1, 0, a1)]) (pc := 21) hX (by decide) rfl (dk D_X12_partner 14 rfl) ?_
    refine r_sub (lv' := [(0, 2, a0), (1, 0, a1), (2, 0, (-1)), (3, 0, 0), (4, 0, 0)]) [3, 4, 2, 1, 0] rfl ?_
    refine L_M_partner_L23 hX hM hRm FU a0 a1 (-1) 0 0 μ3 q_a1 (R32_lit rfl) (R32_lit rfl) (R32_lit rfl) h
  · rw [if_pos hc] at h
    refine r_bipush (pc := 13) hX rfl (dk D_X12_partner 7 rfl) ?_
    cases h
    exact r_ireturn (pc := 15) hX (R32_lit rfl) hM ⟨by decide, by decide⟩ (dk D_X12_partner 8 rfl)
set_option maxRecDepth 100000 in
set_option maxHeartbeats 4000000 in
theorem L_M_price {E : EX} {l : Launch} {a0 a1 a2 res : Int} {μ μ' : Mem} (q_a1 : R32 a1) (q_a2 : R32 a2) (h : M_price a0 a1 a2 μ = some (res, μ')) : Ok E l 6 yX12_price (.code yX12_price cX12_price 4 (some .int)) 0 0 [(2, a0), (0, a1), (0, a2)] μ (some (0, res)) μ' := by
  refine Ok.of (own := "TollsBackModel") [(0, 2, a0), (1, 0, a1), (2, 0, a2)] (by decide +kernel) rfl (Nat.le_of_ble_eq_true rfl) rfl ?_
  intro X hL hRm hin hX hM
  unfold M_price at h
  subst hL
  refine r_aloadn (pc := 0) hX 0 rfl (dk D_X12_price 0 rfl) ?_
  refine r_iconst (pc := 1) hX (dk D_X12_price 1 rfl) ?_
  obtain ⟨μ1, hμ1, h⟩ := bd_some h
  refine r_putI (pc := 2) hX fl_12_1 rfl rfl (R32_lit rfl) trivial hμ1 (dk D_X12_price 2 rfl) ?_
  refine r_aloadn (pc := 5) hX 0 rfl (dk D_X12_price 3 rfl) ?_
  refine r_iloadn (pc := 6) hX 1 rfl (dk D_X12_price 4 rfl) ?_
  obtain ⟨_, hi, h⟩ := bd_some h
  obtain ⟨x2, μ3, hx2, h⟩ := bd2_some h
  refine r_invV0 (As := [(0, a1)]) (pc := 7) hX ml_12_230 (L_M_isOne q_a1 hx2) (isk_u hi) (Rm_of hRm (by decide) ⟨by decide, by decide⟩) (by decide) rfl (Nat.le_of_ble_eq_true rfl) rfl (dk D_X12_price 5 rfl) (fun qx2 => ?_)
  refine r_if_eq (pc := 10) hX qx2 26 rfl (dk D_X12_price 6 rfl) (fun hc => ?_) (fun hc => ?_)
  · rw [if_pos hc] at h
    refine r_bipush (pc := 26) hX rfl (dk D_X12_price 14 rfl) ?_
    cases h
    exact r_ireturn (pc := 28) hX (R32_lit rfl) hM ⟨by decide, by decide⟩ (dk D_X12_price 15 rfl)
  · rw [if_neg hc] at h
    refine r_aloadn (pc := 13) hX 0 rfl (dk D_X12_price 7 rfl) ?_
    refine r_iloadn (pc := 14) hX 2 rfl (dk D_X12_price 8 rfl) ?_
    obtain ⟨_, hi, h⟩ := bd_some h
    obtain ⟨x4, μ5, hx4, h⟩ := bd2_some h
    refine r_invV0 (As := [(0, a2)]) (pc := 15) hX ml_12_230 (L_M_isOne q_a2 hx4) (isk_u hi) (Rm_of hRm (by decide) ⟨by decide, by decide⟩) (by decide) rfl (Nat.le_of_ble_eq_true rfl) rfl (dk D_X12_price 9 rfl) (fun qx4 => ?_)
    refine r_if_eq (pc := 18) hX qx4 26 rfl (dk D_X12_price 10 rfl) (fun hc => ?_) (fun hc => ?_)
    · rw [if_pos hc] at h
      refine r_bipush (pc := 26) hX rfl (dk D_X12_price 14 rfl) ?_
      cases h
      exact r_ireturn (pc := 28) hX (R32_lit rfl) hM ⟨by decide, by decide⟩ (dk D_X12_price 15 rfl)
    · rw [if_neg hc] at h
      refine r_iloadn (pc := 21) hX 1 rfl (dk D_X12_price 11 rfl) ?_
      refine r_iloadn (pc := 22) hX 2 rfl (dk D_X12_price 12 rfl) ?_
      refine r_icmp_ne (pc := 23) hX q_a1 q_a2 29 rfl (dk D_X12_price 13 rfl) (fun hc => ?_) (fun hc => ?_)
      · rw [if_neg hc] at h
        refine r_aloadn (pc := 29) hX 0 rfl (dk D_X12_price 16 rfl) ?_
        obtain ⟨x6, hx6, h⟩ := bd_some h
        refine r_getR (pc := 30) hX fl_12_13 rfl hx6 (dk D_X12_price 17 rfl) ?_
        refine r_sipush (pc := 33) hX rfl (dk D_X12_price 18 rfl) ?_
        refine r_iloadn (pc := 36) hX 1 rfl (dk D_X12_price 19 rfl) ?_
        refine r_iadd (pc := 37) hX (dk D_X12_price 20 rfl) ?_
        obtain ⟨x7, hx7, h⟩ := bd_some h
        refine r_iald (pc := 38) hX (R32_w _) hx7 (dk D_X12_price 21 rfl) (fun qx7 => ?_)
        refine r_if_ne (pc := 39) hX qx7 45 rfl (dk D_X12_price 22 rfl) (fun hc => ?_) (fun hc => ?_)
        · rw [if_neg hc] at h
          refine r_aloadn (pc := 45) hX 0 rfl (dk D_X12_price 25 rfl) ?_
          obtain ⟨x8, hx8, h⟩ := bd_some h
          refine r_getR (pc := 46) hX fl_12_13 rfl hx8 (dk D_X12_price 26 rfl) ?_
          refine r_sipush (pc := 49) hX rfl (dk D_X12_price 27 rfl) ?_
          refine r_iloadn (pc := 52) hX 2 rfl (dk D_X12_price 28 rfl) ?_
          refine r_iadd (pc := 53) hX (dk D_X12_price 29 rfl) ?_
          obtain ⟨x9, hx9, h⟩ := bd_some h
          refine r_iald (pc := 54) hX (R32_w _) hx9 (dk D_X12_price 30 rfl) (fun qx9 => ?_)
          refine r_bipush (pc := 55) hX rfl (dk D_X12_price 31 rfl) ?_
          refine r_icmp_ne (pc := 57) hX qx9 (R32_lit rfl) 63 rfl (dk D_X12_price 32 rfl) (fun hc => ?_) (fun hc => ?_)
          · rw [if_neg hc] at h
            refine r_aloadn (pc := 63) hX 0 rfl (dk D_X12_price 35 rfl) ?_
            refine r_iloadn (pc := 64) hX 2 rfl (dk D_X12_price 36 rfl) ?_
            refine r_iloadn (pc := 65) hX 2 rfl (dk D_X12_price 37 rfl) ?_
            obtain ⟨_, hi, h⟩ := bd_some h
            obtain ⟨x10, μ11, hx10, h⟩ := bd2_some h
            refine r_invV0 (As := [(0, a2), (0, a2)]) (pc := 66) hX ml_12_308 (L_M_cheapOf q_a2 q_a2 hx10) (isk_u hi) (Rm_of hRm (by decide) ⟨by decide, by decide⟩) (by decide) rfl (Nat.le_of_ble_eq_true rfl) rfl (dk D_X12_price 38 rfl) (fun qx10 => ?_)
            refine r_if_ne (pc := 69) hX qx10 76 rfl (dk D_X12_price 39 rfl) (fun hc => ?_) (fun hc => ?_)
            · rw [if_neg hc] at h
              refine r_aloadn (pc := 76) hX 0 rfl (dk D_X12_price 42 rfl) ?_
              obtain ⟨x12, hx12, h⟩ := bd_some h
              refine r_getI (pc := 77) hX fl_12_296 rfl rfl hx12 (dk D_X12_price 43 rfl) (fun qx12 => ?_)
              refine r_istoren (lv' := [(3, 0, x12), (0, 2, a0), (1, 0, a1), (2, 0, a2)]) (pc := 80) hX (by decide) rfl (dk D_X12_price 44 rfl) ?_
              refine r_aloadn (pc := 81) hX 1 rfl (dk D_X12_price 45 rfl) ?_
              refine r_iloadn (pc := 82) hX 3 rfl (dk D_X12_price 46 rfl) ?_
              refine r_aloadn (pc := 83) hX 1 rfl (dk D_X12_price 47 rfl) ?_
              obtain ⟨x13, hx13, h⟩ := bd_some h
              refine r_getR (pc := 84) hX fl_12_13 rfl hx13 (dk D_X12_price 48 rfl) ?_
              refine r_sipush (pc := 87) hX rfl (dk D_X12_price 49 rfl) ?_
              refine r_iloadn (pc := 90) hX 3 rfl (dk D_X12_price 50 rfl) ?_
              refine r_iadd (pc := 91) hX (dk D_X12_price 51 rfl) ?_
              obtain ⟨x14, hx14, h⟩ := bd_some h
              refine r_iald (pc := 92) hX (R32_w _) hx14 (dk D_X12_price 52 rfl) (fun qx14 => ?_)
              obtain ⟨_, hi, h⟩ := bd_some h
              obtain ⟨x15, μ16, hx15, h⟩ := bd2_some h
              refine r_invV0 (As := [(0, a2), (0, x14)]) (pc := 93) hX ml_12_302 (L_M_looksAt q_a2 qx14 hx15) (isk_u hi) (Rm_of hRm (by decide) ⟨by decide, by decide⟩) (by decide) rfl (Nat.le_of_ble_eq_true rfl) rfl (dk D_X12_price 53 rfl) (fun _ => ?_)
              refine r_aloadn (pc := 96) hX 1 rfl (dk D_X12_price 54 rfl) ?_
              obtain ⟨x17, hx17, h⟩ := bd_some h
              refine r_getR (pc := 97) hX fl_12_43 rfl hx17 (dk D_X12_price 55 rfl) ?_
              refine r_aloadn (pc := 100) hX 1 rfl (dk D_X12_price 56 rfl) ?_
              obtain ⟨x18, hx18, h⟩ := bd_some h
              refine r_getI (pc := 101) hX fl_12_289 rfl rfl hx18 (dk D_X12_price 57 rfl) (fun qx18 => ?_)
              refine r_aloadn (pc := 104) hX 1 rfl (dk D_X12_price 58 rfl) ?_
              obtain ⟨x19, hx19, h⟩ := bd_some h
              refine r_getR (pc := 105) hX fl_12_13 rfl hx19 (dk D_X12_price 59 rfl) ?_
              refine r_sipush (pc := 108) hX rfl (dk D_X12_price 60 rfl) ?_
              refine r_iloadn (pc := 111) hX 2 rfl (dk D_X12_price 61 rfl) ?_
              refine r_aloadn (pc := 112) hX 1 rfl (dk D_X12_price 62 rfl) ?_
              obtain ⟨x20, hx20, h⟩ := bd_some h
              refine r_getR (pc := 113) hX fl_12_13 rfl hx20 (dk D_X12_price 63 rfl) ?_
              refine r_sipush (pc := 116) hX rfl (dk D_X12_price 64 rfl) ?_
              refine r_iloadn (pc := 119) hX 2 rfl (dk D_X12_price 65 rfl) ?_
              refine r_iadd (pc := 120) hX (dk D_X12_price 66 rfl) ?_
              obtain ⟨x21, hx21, h⟩ := bd_some h
              refine r_iald (pc := 121) hX (R32_w _) hx21 (dk D_X12_price 67 rfl) (fun qx21 => ?_)
              refine r_iconst (pc := 122) hX (dk D_X12_price 68 rfl) ?_
              refine r_isub (pc := 123) hX (dk D_X12_price 69 rfl) ?_
              obtain ⟨x22, μ23, hx22, h⟩ := bd2_some h
              refine r_invS0 (As := [(0, a1), (0, (w32 (x21 - 1)))]) (pc := 124) hX ml_12_233 (L_M_slipAt q_a1 (R32_w _) hx22) (Rm_of hRm (by decide) ⟨by decide, by decide⟩) (by decide) rfl (Nat.le_of_ble_eq_true rfl) rfl (dk D_X12_price 70 rfl) (fun qx22 => ?_)
              refine r_iadd (pc := 127) hX (dk D_X12_price 71 rfl) ?_
              obtain ⟨x24, hx24, h⟩ := bd_some h
              refine r_iald (pc := 128) hX (R32_w _) hx24 (dk D_X12_price 72 rfl) (fun qx24 => ?_)
              obtain ⟨μ25, hμ25, h⟩ := bd_some h
              refine r_iast (pc := 129) hX qx18 qx24 hμ25 (dk D_X12_price 73 rfl) ?_
              refine r_aloadn (pc := 130) hX 1 rfl (dk D_X12_price 74 rfl) ?_
              obtain ⟨x26, hx26, h⟩ := bd_some h
              refine r_getR (pc := 131) hX fl_12_46 rfl hx26 (dk D_X12_price 75 rfl) ?_
              refine r_aloadn (pc := 134) hX 1 rfl (dk D_X12_price 76 rfl) ?_
              obtain ⟨x27, hx27, h⟩ := bd_some h
              refine r_getI (pc := 135) hX fl_12_289 rfl rfl hx27 (dk D_X12_price 77 rfl) (fun qx27 => ?_)
              refine r_aloadn (pc := 138) hX 1 rfl (dk D_X12_price 78 rfl) ?_
              refine r_iloadn (pc := 139) hX 2 rfl (dk D_X12_price 79 rfl) ?_
              refine r_aloadn (pc := 140) hX 1 rfl (dk D_X12_price 80 rfl) ?_
              obtain ⟨x28, hx28, h⟩ := bd_some h
              refine r_getR (pc := 141) hX fl_12_13 rfl hx28 (dk D_X12_price 81 rfl) ?_
              refine r_sipush (pc := 144) hX rfl (dk D_X12_price 82 rfl) ?_
              refine r_iloadn (pc := 147) hX 2 rfl (dk D_X12_price 83 rfl) ?_
              refine r_iadd (pc := 148) hX (dk D_X12_price 84 rfl) ?_
              obtain ⟨x29, hx29, h⟩ := bd_some h
              refine r_iald (pc := 149) hX (R32_w _) hx29 (dk D_X12_price 85 rfl) (fun qx29 => ?_)
              refine r_iconst (pc := 150) hX (dk D_X12_price 86 rfl) ?_
              refine r_isub (pc := 151) hX (dk D_X12_price 87 rfl) ?_
              refine r_aloadn (pc := 152) hX 1 rfl (dk D_X12_price 88 rfl) ?_
              obtain ⟨x30, hx30, h⟩ := bd_some h
              refine r_getR (pc := 153) hX fl_12_13 rfl hx30 (dk D_X12_price 89 rfl) ?_
              refine r_sipush (pc := 156) hX rfl (dk D_X12_price 90 rfl) ?_
              refine r_iloadn (pc := 159) hX 3 rfl (dk D_X12_price 91 rfl) ?_
              refine r_iadd (pc := 160) hX (dk D_X12_price 92 rfl) ?_
              obtain ⟨x31, hx31, h⟩ := bd_some h
              refine r_iald (pc := 161) hX (R32_w _) hx31 (dk D_X12_price 93 rfl) (fun qx31 => ?_)
              obtain ⟨_, hi, h⟩ := bd_some h
              obtain ⟨x32, μ33, hx32, h⟩ := bd2_some h
              refine r_invV0 (As := [(0, a1), (0, (w32 (x29 - 1))), (0, x31)]) (pc := 162) hX ml_12_246 (L_M_worthOf q_a1 (R32_w _) qx31 hx32) (isk_u hi) (Rm_of hRm (by decide) ⟨by decide, by decide⟩) (by decide) rfl (Nat.le_of_ble_eq_true rfl) rfl (dk D_X12_price 94 rfl) (fun qx32 => ?_)
              obtain ⟨μ34, hμ34, h⟩ := bd_some h
              refine r_iast (pc := 165) hX qx27 qx32 hμ34 (dk D_X12_price 95 rfl) ?_
              refine r_aloadn (pc := 166) hX 1 rfl (dk D_X12_price 96 rfl) ?_
              refine r_dup (pc := 167) hX rfl (dk D_X12_price 97 rfl) ?_
              obtain ⟨x35, hx35, h⟩ := bd_some h
              refine r_getI (pc := 168) hX fl_12_289 rfl rfl hx35 (dk D_X12_price 98 rfl) (fun qx35 => ?_)
              refine r_iconst (pc := 171) hX (dk D_X12_price 99 rfl) ?_
              refine r_iadd (pc := 172) hX (dk D_X12_price 100 rfl) ?_
              obtain ⟨μ36, hμ36, h⟩ := bd_some h
              refine r_putI (pc := 173) hX fl_12_289 rfl rfl (R32_w _) trivial hμ36 (dk D_X12_price 101 rfl) ?_
              refine r_aloadn (pc := 176) hX 1 rfl (dk D_X12_price 102 rfl) ?_
              refine r_aloadn (pc := 177) hX 1 rfl (dk D_X12_price 103 rfl) ?_
              obtain ⟨x37, hx37, h⟩ := bd_some h
              refine r_getR (pc := 178) hX fl_12_13 rfl hx37 (dk D_X12_price 104 rfl) ?_
              refine r_sipush (pc := 181) hX rfl (dk D_X12_price 105 rfl) ?_
              refine r_iloadn (pc := 184) hX 3 rfl (dk D_X12_price 106 rfl) ?_
              refine r_iadd (pc := 185) hX (dk D_X12_price 107 rfl) ?_
              obtain ⟨x38, hx38, h⟩ := bd_some h
              refine r_iald (pc := 186) hX (R32_w _) hx38 (dk D_X12_price 108 rfl) (fun qx38 => ?_)
              refine r_aloadn (pc := 187) hX 1 rfl (dk D_X12_price 109 rfl) ?_
              obtain ⟨x39, hx39, h⟩ := bd_some h
              refine r_getR (pc := 188) hX fl_12_13 rfl hx39 (dk D_X12_price 110 rfl) ?_
              refine r_sipush (pc := 191) hX rfl (dk D_X12_price 111 rfl) ?_
              refine r_iloadn (pc := 194) hX 3 rfl (dk D_X12_price 112 rfl) ?_
              refine r_iadd (pc := 195) hX (dk D_X12_price 113 rfl) ?_
              obtain ⟨x40, hx40, h⟩ := bd_some h
              refine r_iald (pc := 196) hX (R32_w _) hx40 (dk D_X12_price 114 rfl) (fun qx40 => ?_)
              obtain ⟨_, hi, h⟩ := bd_some h
              obtain ⟨x41, μ42, hx41, h⟩ := bd2_some h
              refine r_invV0 (As := [(0, x38), (0, x40)]) (pc := 197) hX ml_12_305 (L_M_cheap qx38 qx40 hx41) (isk_u hi) (Rm_of hRm (by decide) ⟨by decide, by decide⟩) (by decide) rfl (Nat.le_of_ble_eq_true rfl) rfl (dk D_X12_price 115 rfl) (fun qx41 => ?_)
              refine r_if_eq (pc := 200) hX qx41 212 rfl (dk D_X12_price 116 rfl) (fun hc => ?_) (fun hc => ?_)
              · rw [if_pos hc] at h
                refine r_ldcw (pc := 212) hX cn_12_311 (dk D_X12_price 122 rfl) ?_
                cases h
                exact r_ireturn (pc := 215) hX (R32_lit rfl) hM ⟨by decide, by decide⟩ (dk D_X12_price 123 rfl)
              · rw [if_neg hc] at h
                refine r_iloadn (pc := 203) hX 0 rfl (dk D_X12_price 117 rfl) ?_
                refine r_aloadn (pc := 204) hX 1 rfl (dk D_X12_price 118 rfl) ?_
                obtain ⟨x43, hx43, h⟩ := bd_some h
                refine r_getI (pc := 205) hX fl_12_296 rfl rfl hx43 (dk D_X12_price 119 rfl) (fun qx43 => ?_)
                refine r_isub (pc := 208) hX (dk D_X12_price 120 rfl) ?_
                refine r_goto (pc := 209) hX 215 rfl (dk D_X12_price 121 rfl) ?_
                cases h
                exact r_ireturn (pc := 215) hX (R32_w _) hM ⟨by decide, by decide⟩ (dk D_X12_price 123 rfl)
            · rw [if_pos hc] at h
              refine r_ldcw (pc := 72) hX cn_12_311 (dk D_X12_price 40 rfl) ?_
              cases h
              exact r_ireturn (pc := 75) hX (R32_lit rfl) hM ⟨by decide, by decide⟩ (dk D_X12_price 41 rfl)
          · rw [if_pos hc] at h
            refine r_bipush (pc := 60) hX rfl (dk D_X12_price 33 rfl) ?_
            cases h
            exact r_ireturn (pc := 62) hX (R32_lit rfl) hM ⟨by decide, by decide⟩ (dk D_X12_price 34 rfl)
        · rw [if_pos hc] at h
          refine r_bipush (pc := 42) hX rfl (dk D_X12_price 23 rfl) ?_
          cases h
          exact r_ireturn (pc := 44) hX (R32_lit rfl) hM ⟨by decide, by decide⟩ (dk D_X12_price 24 rfl)
      · rw [if_pos hc] at h
        refine r_bipush (pc := 26) hX rfl (dk D_X12_price 14 rfl) ?_
        cases h
        exact r_ireturn (pc := 28) hX (R32_lit rfl) hM ⟨by decide, by decide⟩ (dk D_X12_price 15 rfl)
set_option maxRecDepth 100000 in
set_option maxHeartbeats 4000000 in
theorem L_M_gain {E : EX} {l : Launch} {a0 a1 a2 a3 res : Int} {μ μ' : Mem} (q_a1 : R32 a1) (q_a2 : R32 a2) (q_a3 : R32 a3) (h : M_gain a0 a1 a2 a3 μ = some (res, μ')) : Ok E l 7 yX12_gain (.code yX12_gain cX12_gain 6 (some .int)) 0 0 [(2, a0), (0, a1), (0, a2), (0, a3)] μ (some (0, res)) μ' := by
  refine Ok.of (own := "TollsBackModel") [(0, 2, a0), (1, 0, a1), (2, 0, a2), (3, 0, a3)] (by decide +kernel) rfl (Nat.le_of_ble_eq_true rfl) rfl ?_
  intro X hL hRm hin hX hM
  unfold M_gain at h
  subst hL
  refine r_aloadn (pc := 0) hX 0 rfl (dk D_X12_gain 0 rfl) ?_
  refine r_iconst (pc := 1) hX (dk D_X12_gain 1 rfl) ?_
  obtain ⟨μ1, hμ1, h⟩ := bd_some h
  refine r_putI (pc := 2) hX fl_12_1 rfl rfl (R32_lit rfl) trivial hμ1 (dk D_X12_gain 2 rfl) ?_
  refine r_aloadn (pc := 5) hX 0 rfl (dk D_X12_gain 3 rfl) ?_
  refine r_iloadn (pc := 6) hX 1 rfl (dk D_X12_gain 4 rfl) ?_
  obtain ⟨_, hi, h⟩ := bd_some h
  obtain ⟨x2, μ3, hx2, h⟩ := bd2_some h
  refine r_invV0 (As := [(0, a1)]) (pc := 7) hX ml_12_230 (L_M_isOne q_a1 hx2) (isk_u hi) (Rm_of hRm (by decide) ⟨by decide, by decide⟩) (by decide) rfl (Nat.le_of_ble_eq_true rfl) rfl (dk D_X12_gain 5 rfl) (fun qx2 => ?_)
  refine r_if_eq (pc := 10) hX qx2 36 rfl (dk D_X12_gain 6 rfl) (fun hc => ?_) (fun hc => ?_)
  · rw [if_pos hc] at h
    refine r_bipush (pc := 36) hX rfl (dk D_X12_gain 20 rfl) ?_
    cases h
    exact r_ireturn (pc := 38) hX (R32_lit rfl) hM ⟨by decide, by decide⟩ (dk D_X12_gain 21 rfl)
  · rw [if_neg hc] at h
    refine r_aloadn (pc := 13) hX 0 rfl (dk D_X12_gain 7 rfl) ?_
    refine r_iloadn (pc := 14) hX 2 rfl (dk D_X12_gain 8 rfl) ?_
    obtain ⟨_, hi, h⟩ := bd_some h
    obtain ⟨x4, μ5, hx4, h⟩ := bd2_some h
    refine r_invV0 (As := [(0, a2)]) (pc := 15) hX ml_12_230 (L_M_isOne q_a2 hx4) (isk_u hi) (Rm_of hRm (by decide) ⟨by decide, by decide⟩) (by decide) rfl (Nat.le_of_ble_eq_true rfl) rfl (dk D_X12_gain 9 rfl) (fun qx4 => ?_)
    refine r_if_eq (pc := 18) hX qx4 36 rfl (dk D_X12_gain 10 rfl) (fun hc => ?_) (fun hc => ?_)
    · rw [if_pos hc] at h
      refine r_bipush (pc := 36) hX rfl (dk D_X12_gain 20 rfl) ?_
      cases h
      exact r_ireturn (pc := 38) hX (R32_lit rfl) hM ⟨by decide, by decide⟩ (dk D_X12_gain 21 rfl)
    · rw [if_neg hc] at h
      refine r_iloadn (pc := 21) hX 1 rfl (dk D_X12_gain 11 rfl) ?_
      refine r_iloadn (pc := 22) hX 2 rfl (dk D_X12_gain 12 rfl) ?_
      refine r_icmp_eq (pc := 23) hX q_a1 q_a2 36 rfl (dk D_X12_gain 13 rfl) (fun hc => ?_) (fun hc => ?_)
      · rw [if_pos hc] at h
        refine r_bipush (pc := 36) hX rfl (dk D_X12_gain 20 rfl) ?_
        cases h
        exact r_ireturn (pc := 38) hX (R32_lit rfl) hM ⟨by decide, by decide⟩ (dk D_X12_gain 21 rfl)
      · rw [if_neg hc] at h
        refine r_iloadn (pc := 26) hX 3 rfl (dk D_X12_gain 14 rfl) ?_
        refine r_i2l (pc := 27) hX q_a3 (dk D_X12_gain 15 rfl) ?_
        refine r_lconst (x := 0) (pc := 28) hX (by decide) (dk D_X12_gain 16 rfl) ?_
        refine r_lconst (x := 1) (pc := 29) hX (by decide) (dk D_X12_gain 17 rfl) ?_
        obtain ⟨x6, μ7, hx6, h⟩ := bd2_some h
        refine r_invS0 (As := [(1, a3), (1, 0), (1, 1)]) (pc := 30) hX ml_12_178 (L_M_within (R64_of q_a3) (R64_lit rfl) (R64_lit rfl) hx6) (Rm_of hRm (by decide) ⟨by decide, by decide⟩) (by decide) rfl (Nat.le_of_ble_eq_true rfl) rfl (dk D_X12_gain 18 rfl) (fun qx6 => ?_)
        refine r_if_ne (pc := 33) hX qx6 39 rfl (dk D_X12_gain 19 rfl) (fun hc => ?_) (fun hc => ?_)
        · rw [if_neg hc] at h
          refine r_iloadn (pc := 39) hX 3 rfl (dk D_X12_gain 22 rfl) ?_
          obtain ⟨y8, hb, h⟩ := bd_some h
          have hj : R32 y8 → At E X cX12_gain 6 "TollsBackModel" (0, 0) 48 [(0, 2, a0), (1, 0, a1), (2, 0, a2), (3, 0, a3)] [(0, y8)] μ7 := by
            intro qy8
            clear hb
            refine r_istore (lv' := [(4, 0, y8), (0, 2, a0), (1, 0, a1), (2, 0, a2), (3, 0, a3)]) (pc := 48) hX (by decide) rfl (dk D_X12_gain 27 rfl) ?_
            refine r_iloadn (pc := 50) hX 4 rfl (dk D_X12_gain 28 rfl) ?_
            obtain ⟨y9, hb, h⟩ := bd_some h
            have hj : R32 y9 → At E X cX12_gain 6 "TollsBackModel" (0, 0) 59 [(0, 2, a0), (4, 0, y8)] [(0, y9)] μ7 := by
              intro qy9
              clear hb
              refine r_istore (lv' := [(5, 0, y9), (0, 2, a0), (4, 0, y8)]) (pc := 59) hX (by decide) rfl (dk D_X12_gain 33 rfl) ?_
              refine r_aloadn (pc := 61) hX 1 rfl (dk D_X12_gain 34 rfl) ?_
              refine r_iload (pc := 62) hX 2 rfl (dk D_X12_gain 35 rfl) ?_
              refine r_iload (pc := 64) hX 0 rfl (dk D_X12_gain 36 rfl) ?_
              obtain ⟨_, hi, h⟩ := bd_some h
              obtain ⟨x10, μ11, hx10, h⟩ := bd2_some h
              refine r_invV0 (As := [(0, y8), (0, y9)]) (pc := 66) hX ml_12_313 (L_M_gainOf qy8 qy9 hx10) (isk_u hi) (Rm_of hRm (by decide) ⟨by decide, by decide⟩) (by decide) rfl (Nat.le_of_ble_eq_true rfl) rfl (dk D_X12_gain 37 rfl) (fun qx10 => ?_)
              cases h
              exact r_ireturn (pc := 69) hX qx10 hM ⟨by decide, by decide⟩ (dk D_X12_gain 38 rfl)
            clear h
            have h := hb
            clear hb
            refine r_if_ne (pc := 51) hX q_a3 58 rfl (dk D_X12_gain 29 rfl) (fun hc => ?_) (fun hc => ?_)
            · rw [if_neg hc] at h
              refine r_iloadn (pc := 58) hX 2 rfl (dk D_X12_gain 32 rfl) ?_
              replace h := Option.some.inj h
              subst y9
              refine r_sub (lv' := [(0, 2, a0), (4, 0, y8)]) [1, 0] rfl ?_
              exact hj q_a1
            · rw [if_pos hc] at h
              refine r_iloadn (pc := 54) hX 3 rfl (dk D_X12_gain 30 rfl) ?_
              refine r_goto (pc := 55) hX 59 rfl (dk D_X12_gain 31 rfl) ?_
              replace h := Option.some.inj h
              subst y9
              refine r_sub (lv' := [(0, 2, a0), (4, 0, y8)]) [1, 0] rfl ?_
              exact hj q_a2
          clear h
          have h := hb
          clear hb
          refine r_if_ne (pc := 40) hX q_a3 47 rfl (dk D_X12_gain 23 rfl) (fun hc => ?_) (fun hc => ?_)
          · rw [if_neg hc] at h
            refine r_iloadn (pc := 47) hX 2 rfl (dk D_X12_gain 26 rfl) ?_
            replace h := Option.some.inj h
            subst y8
            exact hj q_a2
          · rw [if_pos hc] at h
            refine r_iloadn (pc := 43) hX 1 rfl (dk D_X12_gain 24 rfl) ?_
            refine r_goto (pc := 44) hX 48 rfl (dk D_X12_gain 25 rfl) ?_
            replace h := Option.some.inj h
            subst y8
            exact hj q_a1
        · rw [if_pos hc] at h
          refine r_bipush (pc := 36) hX rfl (dk D_X12_gain 20 rfl) ?_
          cases h
          exact r_ireturn (pc := 38) hX (R32_lit rfl) hM ⟨by decide, by decide⟩ (dk D_X12_gain 21 rfl)
set_option maxRecDepth 100000 in
set_option maxHeartbeats 4000000 in
theorem L_M_tries_L213 {E : EX} {X : CX} {res : Int} {μe : Mem} {lev : Nat} (hX : Good E X cX12_tries 10 "TollsBackModel") (hM : GoodM E X none none μe 0 0) (hRm : cR X = rmOf lev 0 0) (hlev : 6 ≤ lev) {rc : Int → Int → Int → Int → Int → Int → Mem → Option (Int × Mem)} {k255 : Int → Int → Int → Int → Int → Int → Int → Int → Int → Mem → Option (Int × Mem)} (hrc : ∀ (a0 a1 a2 a3 a4 a5 : Int) (μ μ' : Mem) (res : Int), R32 a1 → R32 a2 → R32 a3 → R32 a4 → R32 a5 → rc a0 a1 a2 a3 a4 a5 μ = some (res, μ') → Ok E (cL X) (lev - 1) yX12_tries (.code yX12_tries cX12_tries 10 none) 0 0 [(2, a0), (0, a1), (0, a2), (0, a3), (0, a4), (0, a5)] μ none μ') (hk255 : ∀ (u0 u1 u2 u3 u4 u5 u6 u7 u8 : Int) (μ : Mem), R32 u1 → R32 u2 → R32 u3 → R32 u4 → R32 u5 → R32 u6 → R32 u7 → R32 u8 → k255 u0 u1 u2 u3 u4 u5 u6 u7 u8 μ = some (res, μe) → At E X cX12_tries 10 "TollsBackModel" (0, 0) 255 [(0, 2, u0), (1, 0, u1), (2, 0, u2), (3, 0, u3), (4, 0, u4), (5, 0, u5), (6, 0, u6), (7, 0, u7), (8, 0, u8)] [] μ) : ∀ (n : Nat) (v0 v1 v2 v3 v4 v5 v6 v7 v8 v9 : Int) (μ : Mem) (q_v1 : R32 v1) (q_v2 : R32 v2) (q_v3 : R32 v3) (q_v4 : R32 v4) (q_v5 : R32 v5) (q_v6 : R32 v6) (q_v7 : R32 v7) (q_v8 : R32 v8) (q_v9 : R32 v9) (h : M_tries_L213 rc k255 n v0 v1 v2 v3 v4 v5 v6 v7 v8 v9 μ = some (res, μe)), At E X cX12_tries 10 "TollsBackModel" (0, 0) 213 [(0, 2, v0), (1, 0, v1), (2, 0, v2), (3, 0, v3), (4, 0, v4), (5, 0, v5), (6, 0, v6), (7, 0, v7), (8, 0, v8), (9, 0, v9)] [] μ := by
  intro n
  induction n with
  | zero =>
    intro v0 v1 v2 v3 v4 v5 v6 v7 v8 v9 μ q_v1 q_v2 q_v3 q_v4 q_v5 q_v6 q_v7 q_v8 q_v9 h
    have h : (none : Option (Int × Mem)) = some (res, μe) := h
    cases h
  | succ n ih =>
    intro v0 v1 v2 v3 v4 v5 v6 v7 v8 v9 μ q_v1 q_v2 q_v3 q_v4 q_v5 q_v6 q_v7 q_v8 q_v9 h
    rw [M_tries_L213.eq_2] at h
    refine r_iload (pc := 213) hX 9 rfl (dk D_X12_tries 112 rfl) ?_
    refine r_bipush (pc := 215) hX rfl (dk D_X12_tries 113 rfl) ?_
    refine r_icmp_ge (pc := 217) hX q_v9 (R32_lit rfl) 255 rfl (dk D_X12_tries 114 rfl) (fun hc => ?_) (fun hc => ?_)
    · rw [if_neg hc] at h
      refine r_sub (lv' := [(0, 2, v0), (1, 0, v1), (2, 0, v2), (3, 0, v3), (4, 0, v4), (5, 0, v5), (6, 0, v6), (7, 0, v7), (8, 0, v8)]) [0, 1, 2, 3, 4, 5, 6, 7, 8] rfl ?_
      exact hk255 v0 v1 v2 v3 v4 v5 v6 v7 v8 μ q_v1 q_v2 q_v3 q_v4 q_v5 q_v6 q_v7 q_v8 h
    · rw [if_pos hc] at h
      refine r_aloadn (pc := 220) hX 0 rfl (dk D_X12_tries 115 rfl) ?_
      obtain ⟨x1, hx1, h⟩ := bd_some h
      refine r_getR (pc := 221) hX fl_12_58 rfl hx1 (dk D_X12_tries 116 rfl) ?_
      refine r_bipush (pc := 224) hX rfl (dk D_X12_tries 117 rfl) ?_
      refine r_iload (pc := 226) hX 4 rfl (dk D_X12_tries 118 rfl) ?_
      refine r_imul (pc := 228) hX (dk D_X12_tries 119 rfl) ?_
      refine r_iload (pc := 229) hX 9 rfl (dk D_X12_tries 120 rfl) ?_
      refine r_iadd (pc := 231) hX (dk D_X12_tries 121 rfl) ?_
      refine r_aloadn (pc := 232) hX 0 rfl (dk D_X12_tries 122 rfl) ?_
      obtain ⟨x2, hx2, h⟩ := bd_some h
      refine r_getR (pc := 233) hX fl_12_13 rfl hx2 (dk D_X12_tries 123 rfl) ?_
      refine r_sipush (pc := 236) hX rfl (dk D_X12_tries 124 rfl) ?_
      refine r_bipush (pc := 239) hX rfl (dk D_X12_tries 125 rfl) ?_
      refine r_iload (pc := 241) hX 9 rfl (dk D_X12_tries 126 rfl) ?_
      refine r_imul (pc := 243) hX (dk D_X12_tries 127 rfl) ?_
      refine r_iadd (pc := 244) hX (dk D_X12_tries 128 rfl) ?_
      refine r_iloadn (pc := 245) hX 1 rfl (dk D_X12_tries 129 rfl) ?_
      refine r_iadd (pc := 246) hX (dk D_X12_tries 130 rfl) ?_
      obtain ⟨x3, hx3, h⟩ := bd_some h
      refine r_iald (pc := 247) hX (R32_w _) hx3 (dk D_X12_tries 131 rfl) (fun qx3 => ?_)
      obtain ⟨μ4, hμ4, h⟩ := bd_some h
      refine r_iast (pc := 248) hX (R32_w _) qx3 hμ4 (dk D_X12_tries 132 rfl) ?_
      refine r_iinc (lv' := [(9, 0, (w32 (v9 + 1))), (0, 2, v0), (1, 0, v1), (2, 0, v2), (3, 0, v3), (4, 0, v4), (5, 0, v5), (6, 0, v6), (7, 0, v7), (8, 0, v8)]) (pc := 249) hX 9 rfl (by decide) rfl (dk D_X12_tries 133 rfl) ?_
      refine r_goto (pc := 252) hX 213 rfl (dk D_X12_tries 134 rfl) ?_
      refine r_sub (lv' := [(0, 2, v0), (1, 0, v1), (2, 0, v2), (3, 0, v3), (4, 0, v4), (5, 0, v5), (6, 0, v6), (7, 0, v7), (8, 0, v8), (9, 0, (w32 (v9 + 1)))]) [1, 2, 3, 4, 5, 6, 7, 8, 9, 0] rfl ?_
      exact ih v0 v1 v2 v3 v4 v5 v6 v7 v8 (w32 (v9 + 1)) μ4 q_v1 q_v2 q_v3 q_v4 q_v5 q_v6 q_v7 q_v8 (R32_w _) h
set_option maxRecDepth 100000 in
set_option maxHeartbeats 4000000 in
theorem L_M_tries_L390 {E : EX} {X : CX} {res : Int} {μe : Mem} {lev : Nat} (hX : Good E X cX12_tries 10 "TollsBackModel") (hM : GoodM E X none none μe 0 0) (hRm : cR X = rmOf lev 0 0) (hlev : 6 ≤ lev) {rc : Int → Int → Int → Int → Int → Int → Mem → Option (Int × Mem)} {k432 : Int → Int → Int → Int → Int → Int → Int → Int → Int → Mem → Option (Int × Mem)} (hrc : ∀ (a0 a1 a2 a3 a4 a5 : Int) (μ μ' : Mem) (res : Int), R32 a1 → R32 a2 → R32 a3 → R32 a4 → R32 a5 → rc a0 a1 a2 a3 a4 a5 μ = some (res, μ') → Ok E (cL X) (lev - 1) yX12_tries (.code yX12_tries cX12_tries 10 none) 0 0 [(2, a0), (0, a1), (0, a2), (0, a3), (0, a4), (0, a5)] μ none μ') (hk432 : ∀ (u0 u1 u2 u3 u4 u5 u6 u7 u8 : Int) (μ : Mem), R32 u1 → R32 u2 → R32 u3 → R32 u4 → R32 u5 → R32 u6 → R32 u7 → R32 u8 → k432 u0 u1 u2 u3 u4 u5 u6 u7 u8 μ = some (res, μe) → At E X cX12_tries 10 "TollsBackModel" (0, 0) 432 [(0, 2, u0), (1, 0, u1), (2, 0, u2), (3, 0, u3), (4, 0, u4), (5, 0, u5), (6, 0, u6), (7, 0, u7), (8, 0, u8)] [] μ) : ∀ (n : Nat) (v0 v1 v2 v3 v4 v5 v6 v7 v8 v9 : Int) (μ : Mem) (q_v1 : R32 v1) (q_v2 : R32 v2) (q_v3 : R32 v3) (q_v4 : R32 v4) (q_v5 : R32 v5) (q_v6 : R32 v6) (q_v7 : R32 v7) (q_v8 : R32 v8) (q_v9 : R32 v9) (h : M_tries_L390 rc k432 n v0 v1 v2 v3 v4 v5 v6 v7 v8 v9 μ = some (res, μe)), At E X cX12_tries 10 "TollsBackModel" (0, 0) 390 [(0, 2, v0), (1, 0, v1), (2, 0, v2), (3, 0, v3), (4, 0, v4), (5, 0, v5), (6, 0, v6), (7, 0, v7), (8, 0, v8), (9, 0, v9)] [] μ := by
  intro n
  induction n with
  | zero =>
    intro v0 v1 v2 v3 v4 v5 v6 v7 v8 v9 μ q_v1 q_v2 q_v3 q_v4 q_v5 q_v6 q_v7 q_v8 q_v9 h
    have h : (none : Option (Int × Mem)) = some (res, μe) := h
    cases h
  | succ n ih =>
    intro v0 v1 v2 v3 v4 v5 v6 v7 v8 v9 μ q_v1 q_v2 q_v3 q_v4 q_v5 q_v6 q_v7 q_v8 q_v9 h
    rw [M_tries_L390.eq_2] at h
    refine r_iload (pc := 390) hX 9 rfl (dk D_X12_tries 215 rfl) ?_
    refine r_bipush (pc := 392) hX rfl (dk D_X12_tries 216 rfl) ?_
    refine r_icmp_ge (pc := 394) hX q_v9 (R32_lit rfl) 432 rfl (dk D_X12_tries 217 rfl) (fun hc => ?_) (fun hc => ?_)
    · rw [if_neg hc] at h
      refine r_sub (lv' := [(0, 2, v0), (1, 0, v1), (2, 0, v2), (3, 0, v3), (4, 0, v4), (5, 0, v5), (6, 0, v6), (7, 0, v7), (8, 0, v8)]) [0, 1, 2, 3, 4, 5, 6, 7, 8] rfl ?_
      exact hk432 v0 v1 v2 v3 v4 v5 v6 v7 v8 μ q_v1 q_v2 q_v3 q_v4 q_v5 q_v6 q_v7 q_v8 h
    · rw [if_pos hc] at h
      refine r_aloadn (pc := 397) hX 0 rfl (dk D_X12_tries 218 rfl) ?_
      obtain ⟨x1, hx1, h⟩ := bd_some h
      refine r_getR (pc := 398) hX fl_12_13 rfl hx1 (dk D_X12_tries 219 rfl) ?_
      refine r_sipush (pc := 401) hX rfl (dk D_X12_tries 220 rfl) ?_
      refine r_bipush (pc := 404) hX rfl (dk D_X12_tries 221 rfl) ?_
      refine r_iload (pc := 406) hX 9 rfl (dk D_X12_tries 222 rfl) ?_
      refine r_imul (pc := 408) hX (dk D_X12_tries 223 rfl) ?_
      refine r_iadd (pc := 409) hX (dk D_X12_tries 224 rfl) ?_
      refine r_iloadn (pc := 410) hX 1 rfl (dk D_X12_tries 225 rfl) ?_
      refine r_iadd (pc := 411) hX (dk D_X12_tries 226 rfl) ?_
      refine r_aloadn (pc := 412) hX 0 rfl (dk D_X12_tries 227 rfl) ?_
      obtain ⟨x2, hx2, h⟩ := bd_some h
      refine r_getR (pc := 413) hX fl_12_58 rfl hx2 (dk D_X12_tries 228 rfl) ?_
      refine r_bipush (pc := 416) hX rfl (dk D_X12_tries 229 rfl) ?_
      refine r_iload (pc := 418) hX 4 rfl (dk D_X12_tries 230 rfl) ?_
      refine r_imul (pc := 420) hX (dk D_X12_tries 231 rfl) ?_
      refine r_iload (pc := 421) hX 9 rfl (dk D_X12_tries 232 rfl) ?_
      refine r_iadd (pc := 423) hX (dk D_X12_tries 233 rfl) ?_
      obtain ⟨x3, hx3, h⟩ := bd_some h
      refine r_iald (pc := 424) hX (R32_w _) hx3 (dk D_X12_tries 234 rfl) (fun qx3 => ?_)
      obtain ⟨μ4, hμ4, h⟩ := bd_some h
      refine r_iast (pc := 425) hX (R32_w _) qx3 hμ4 (dk D_X12_tries 235 rfl) ?_
      refine r_iinc (lv' := [(9, 0, (w32 (v9 + 1))), (0, 2, v0), (1, 0, v1), (2, 0, v2), (3, 0, v3), (4, 0, v4), (5, 0, v5), (6, 0, v6), (7, 0, v7), (8, 0, v8)]) (pc := 426) hX 9 rfl (by decide) rfl (dk D_X12_tries 236 rfl) ?_
      refine r_goto (pc := 429) hX 390 rfl (dk D_X12_tries 237 rfl) ?_
      refine r_sub (lv' := [(0, 2, v0), (1, 0, v1), (2, 0, v2), (3, 0, v3), (4, 0, v4), (5, 0, v5), (6, 0, v6), (7, 0, v7), (8, 0, v8), (9, 0, (w32 (v9 + 1)))]) [1, 2, 3, 4, 5, 6, 7, 8, 9, 0] rfl ?_
      exact ih v0 v1 v2 v3 v4 v5 v6 v7 v8 (w32 (v9 + 1)) μ4 q_v1 q_v2 q_v3 q_v4 q_v5 q_v6 q_v7 q_v8 (R32_w _) h
set_option maxRecDepth 100000 in
set_option maxHeartbeats 4000000 in
theorem L_M_tries_L124 {E : EX} {X : CX} {res : Int} {μe : Mem} {lev : Nat} (hX : Good E X cX12_tries 10 "TollsBackModel") (hM : GoodM E X none none μe 0 0) (hRm : cR X = rmOf lev 0 0) (hlev : 6 ≤ lev) {rc : Int → Int → Int → Int → Int → Int → Mem → Option (Int × Mem)} (hrc : ∀ (a0 a1 a2 a3 a4 a5 : Int) (μ μ' : Mem) (res : Int), R32 a1 → R32 a2 → R32 a3 → R32 a4 → R32 a5 → rc a0 a1 a2 a3 a4 a5 μ = some (res, μ') → Ok E (cL X) (lev - 1) yX12_tries (.code yX12_tries cX12_tries 10 none) 0 0 [(2, a0), (0, a1), (0, a2), (0, a3), (0, a4), (0, a5)] μ none μ') : ∀ (n : Nat) (v0 v1 v2 v3 v4 v5 v6 : Int) (μ : Mem) (q_v1 : R32 v1) (q_v2 : R32 v2) (q_v3 : R32 v3) (q_v4 : R32 v4) (q_v5 : R32 v5) (q_v6 : R32 v6) (h : M_tries_L124 rc n v0 v1 v2 v3 v4 v5 v6 μ = some (res, μe)), At E X cX12_tries 10 "TollsBackModel" (0, 0) 124 [(0, 2, v0), (1, 0, v1), (2, 0, v2), (3, 0, v3), (4, 0, v4), (5, 0, v5), (6, 0, v6)] [] μ := by
  intro n
  induction n with
  | zero =>
    intro v0 v1 v2 v3 v4 v5 v6 μ q_v1 q_v2 q_v3 q_v4 q_v5 q_v6 h
    have h : (none : Option (Int × Mem)) = some (res, μe) := h
    cases h
  | succ n ih =>
    intro v0 v1 v2 v3 v4 v5 v6 μ q_v1 q_v2 q_v3 q_v4 q_v5 q_v6 h
    rw [M_tries_L124.eq_2] at h
    refine r_iload (pc := 124) hX 6 rfl (dk D_X12_tries 66 rfl) ?_
    refine r_aloadn (pc := 126) hX 0 rfl (dk D_X12_tries 67 rfl) ?_
    obtain ⟨x1, hx1, h⟩ := bd_some h
    refine r_getR (pc := 127) hX fl_12_13 rfl hx1 (dk D_X12_tries 68 rfl) ?_
    refine r_bipush (pc := 130) hX rfl (dk D_X12_tries 69 rfl) ?_
    obtain ⟨x2, hx2, h⟩ := bd_some h
    refine r_iald (pc := 132) hX (R32_lit rfl) hx2 (dk D_X12_tries 70 rfl) (fun qx2 => ?_)
    refine r_icmp_ge (pc := 133) hX q_v6 qx2 530 rfl (dk D_X12_tries 71 rfl) (fun hc => ?_) (fun hc => ?_)
    · rw [if_neg hc] at h
      cases h
      exact r_return (pc := 530) hX hM ⟨by decide, by decide⟩ (dk D_X12_tries 291 rfl)
    · rw [if_pos hc] at h
      refine r_iload (pc := 136) hX 4 rfl (dk D_X12_tries 72 rfl) ?_
      refine r_iload (pc := 138) hX 5 rfl (dk D_X12_tries 73 rfl) ?_
      refine r_icmp_ge (pc := 140) hX q_v4 q_v5 530 rfl (dk D_X12_tries 74 rfl) (fun hc => ?_) (fun hc => ?_)
      · rw [if_neg hc] at h
        cases h
        exact r_return (pc := 530) hX hM ⟨by decide, by decide⟩ (dk D_X12_tries 291 rfl)
      · rw [if_pos hc] at h
        refine r_aloadn (pc := 143) hX 0 rfl (dk D_X12_tries 75 rfl) ?_
        obtain ⟨x3, hx3, h⟩ := bd_some h
        refine r_getI (pc := 144) hX fl_12_325 rfl rfl hx3 (dk D_X12_tries 76 rfl) (fun qx3 => ?_)
        refine r_ldcw (pc := 147) hX cn_12_328 (dk D_X12_tries 77 rfl) ?_
        refine r_icmp_gt (pc := 150) hX qx3 (R32_lit rfl) 530 rfl (dk D_X12_tries 78 rfl) (fun hc => ?_) (fun hc => ?_)
        · rw [if_pos hc] at h
          cases h
          exact r_return (pc := 530) hX hM ⟨by decide, by decide⟩ (dk D_X12_tries 291 rfl)
        · rw [if_neg hc] at h
          refine r_aloadn (pc := 153) hX 0 rfl (dk D_X12_tries 79 rfl) ?_
          refine r_iloadn (pc := 154) hX 1 rfl (dk D_X12_tries 80 rfl) ?_
          refine r_iload (pc := 155) hX 6 rfl (dk D_X12_tries 81 rfl) ?_
          obtain ⟨_, hi, h⟩ := bd_some h
          obtain ⟨x4, μ5, hx4, h⟩ := bd2_some h
          refine r_invV0 (As := [(0, v1), (0, v6)]) (pc := 157) hX ml_12_255 (L_M_refuses q_v1 q_v6 hx4) (isk_u hi) (Rm_of hRm (by omega) ⟨by decide, by decide⟩) (by decide) rfl (Nat.le_of_ble_eq_true rfl) rfl (dk D_X12_tries 82 rfl) (fun qx4 => ?_)
          refine r_if_eq (pc := 160) hX qx4 166 rfl (dk D_X12_tries 83 rfl) (fun hc => ?_) (fun hc => ?_)
          · rw [if_pos hc] at h
            refine r_aloadn (pc := 166) hX 0 rfl (dk D_X12_tries 85 rfl) ?_
            refine r_dup (pc := 167) hX rfl (dk D_X12_tries 86 rfl) ?_
            obtain ⟨x6, hx6, h⟩ := bd_some h
            refine r_getI (pc := 168) hX fl_12_325 rfl rfl hx6 (dk D_X12_tries 87 rfl) (fun qx6 => ?_)
            refine r_iconst (pc := 171) hX (dk D_X12_tries 88 rfl) ?_
            refine r_iadd (pc := 172) hX (dk D_X12_tries 89 rfl) ?_
            obtain ⟨μ7, hμ7, h⟩ := bd_some h
            refine r_putI (pc := 173) hX fl_12_325 rfl rfl (R32_w _) trivial hμ7 (dk D_X12_tries 90 rfl) ?_
            refine r_aloadn (pc := 176) hX 0 rfl (dk D_X12_tries 91 rfl) ?_
            obtain ⟨x8, hx8, h⟩ := bd_some h
            refine r_getI (pc := 177) hX fl_12_325 rfl rfl hx8 (dk D_X12_tries 92 rfl) (fun qx8 => ?_)
            refine r_ldcw (pc := 180) hX cn_12_328 (dk D_X12_tries 93 rfl) ?_
            refine r_icmp_le (pc := 183) hX qx8 (R32_lit rfl) 187 rfl (dk D_X12_tries 94 rfl) (fun hc => ?_) (fun hc => ?_)
            · rw [if_neg hc] at h
              refine r_aloadn (pc := 187) hX 0 rfl (dk D_X12_tries 96 rfl) ?_
              obtain ⟨x9, hx9, h⟩ := bd_some h
              refine r_getR (pc := 188) hX fl_12_13 rfl hx9 (dk D_X12_tries 97 rfl) ?_
              refine r_sipush (pc := 191) hX rfl (dk D_X12_tries 98 rfl) ?_
              refine r_iloadn (pc := 194) hX 1 rfl (dk D_X12_tries 99 rfl) ?_
              refine r_iadd (pc := 195) hX (dk D_X12_tries 100 rfl) ?_
              obtain ⟨x10, hx10, h⟩ := bd_some h
              refine r_iald (pc := 196) hX (R32_w _) hx10 (dk D_X12_tries 101 rfl) (fun qx10 => ?_)
              refine r_iconst (pc := 197) hX (dk D_X12_tries 102 rfl) ?_
              refine r_isub (pc := 198) hX (dk D_X12_tries 103 rfl) ?_
              obtain ⟨x11, ex11, h⟩ := bd_some h
              replace ex11 := Option.some.inj ex11
              have qx11 : R32 x11 := ex11 ▸ (R32_w _)
              rw [ex11]
              refine r_istore (lv' := [(7, 0, x11), (0, 2, v0), (1, 0, v1), (2, 0, v2), (3, 0, v3), (4, 0, v4), (5, 0, v5), (6, 0, v6)]) (pc := 199) hX (by decide) rfl (dk D_X12_tries 104 rfl) ?_
              refine r_aloadn (pc := 201) hX 1 rfl (dk D_X12_tries 105 rfl) ?_
              refine r_iloadn (pc := 202) hX 2 rfl (dk D_X12_tries 106 rfl) ?_
              refine r_iload (pc := 203) hX 7 rfl (dk D_X12_tries 107 rfl) ?_
              obtain ⟨_, hi, h⟩ := bd_some h
              obtain ⟨x12, μ13, hx12, h⟩ := bd2_some h
              refine r_invV0 (As := [(0, v1), (0, v6)]) (pc := 205) hX ml_12_252 (L_M_hasBack q_v1 q_v6 hx12) (isk_u hi) (Rm_of hRm (by omega) ⟨by decide, by decide⟩) (by decide) rfl (Nat.le_of_ble_eq_true rfl) rfl (dk D_X12_tries 108 rfl) (fun qx12 => ?_)
              refine r_istore (lv' := [(8, 0, x12), (7, 0, x11), (0, 2, v0), (1, 0, v1), (2, 0, v2), (3, 0, v3), (4, 0, v4), (5, 0, v5), (6, 0, v6)]) (pc := 208) hX (by decide) rfl (dk D_X12_tries 109 rfl) ?_
              refine r_iconst (pc := 210) hX (dk D_X12_tries 110 rfl) ?_
              refine r_istore (lv' := [(9, 0, 0), (8, 0, x12), (7, 0, x11), (0, 2, v0), (1, 0, v1), (2, 0, v2), (3, 0, v3), (4, 0, v4), (5, 0, v5), (6, 0, v6)]) (pc := 211) hX (by decide) rfl (dk D_X12_tries 111 rfl) ?_
              refine r_sub (lv' := [(0, 2, v0), (1, 0, v1), (2, 0, v2), (3, 0, v3), (4, 0, v4), (5, 0, v5), (6, 0, v6), (7, 0, x11), (8, 0, x12), (9, 0, 0)]) [3, 4, 5, 6, 7, 8, 9, 2, 1, 0] rfl ?_
              refine L_M_tries_L213 hX hM hRm hlev hrc ?_ FU v0 v1 v2 v3 v4 v5 v6 x11 x12 0 μ13 q_v1 q_v2 q_v3 q_v4 q_v5 q_v6 qx11 qx12 (R32_lit rfl) h
              intro x14 x15 x16 x17 x18 x19 x20 x21 x22 μ23 qx15 qx16 qx17 qx18 qx19 qx20 qx21 qx22 h
              refine r_iload (pc := 255) hX 8 rfl (dk D_X12_tries 135 rfl) ?_
              obtain ⟨μ24, hb, h⟩ := bd_some h
              have hj : At E X cX12_tries 10 "TollsBackModel" (0, 0) 344 [(0, 2, x14), (1, 0, x15), (2, 0, x16), (3, 0, x17), (4, 0, x18), (5, 0, x19), (6, 0, x20), (7, 0, x21), (8, 0, x22)] [] μ24 := by
                clear hb
                refine r_aloadn (pc := 344) hX 0 rfl (dk D_X12_tries 185 rfl) ?_
                refine r_iloadn (pc := 345) hX 1 rfl (dk D_X12_tries 186 rfl) ?_
                refine r_iload (pc := 346) hX 6 rfl (dk D_X12_tries 187 rfl) ?_
                obtain ⟨_, hi, h⟩ := bd_some h
                obtain ⟨x43, μ44, hx43, h⟩ := bd2_some h
                refine r_invV0 (As := [(0, x15), (0, x20)]) (pc := 348) hX ml_12_258 (L_M_goes qx15 qx20 hx43) (isk_u hi) (Rm_of hRm (by omega) ⟨by decide, by decide⟩) (by decide) rfl (Nat.le_of_ble_eq_true rfl) rfl (dk D_X12_tries 188 rfl) (fun qx43 => ?_)
                refine r_pop (pc := 351) hX rfl (dk D_X12_tries 189 rfl) ?_
                refine r_aloadn (pc := 352) hX 0 rfl (dk D_X12_tries 190 rfl) ?_
                obtain ⟨x45, hx45, h⟩ := bd_some h
                refine r_getR (pc := 353) hX fl_12_52 rfl hx45 (dk D_X12_tries 191 rfl) ?_
                refine r_iload (pc := 356) hX 4 rfl (dk D_X12_tries 192 rfl) ?_
                refine r_iload (pc := 358) hX 6 rfl (dk D_X12_tries 193 rfl) ?_
                obtain ⟨μ46, hμ46, h⟩ := bd_some h
                refine r_iast (pc := 360) hX qx18 qx20 hμ46 (dk D_X12_tries 194 rfl) ?_
                refine r_aloadn (pc := 361) hX 0 rfl (dk D_X12_tries 195 rfl) ?_
                refine r_iloadn (pc := 362) hX 1 rfl (dk D_X12_tries 196 rfl) ?_
                refine r_iloadn (pc := 363) hX 2 rfl (dk D_X12_tries 197 rfl) ?_
                refine r_iloadn (pc := 364) hX 3 rfl (dk D_X12_tries 198 rfl) ?_
                refine r_iconst (pc := 365) hX (dk D_X12_tries 199 rfl) ?_
                refine r_aloadn (pc := 366) hX 0 rfl (dk D_X12_tries 200 rfl) ?_
                obtain ⟨x47, hx47, h⟩ := bd_some h
                refine r_getR (pc := 367) hX fl_12_13 rfl hx47 (dk D_X12_tries 201 rfl) ?_
                refine r_sipush (pc := 370) hX rfl (dk D_X12_tries 202 rfl) ?_
                refine r_iloadn (pc := 373) hX 1 rfl (dk D_X12_tries 203 rfl) ?_
                refine r_iadd (pc := 374) hX (dk D_X12_tries 204 rfl) ?_
                obtain ⟨x48, hx48, h⟩ := bd_some h
                refine r_iald (pc := 375) hX (R32_w _) hx48 (dk D_X12_tries 205 rfl) (fun qx48 => ?_)
                refine r_ishl (pc := 376) hX (dk D_X12_tries 206 rfl) ?_
                refine r_ior (pc := 377) hX (dk D_X12_tries 207 rfl) ?_
                refine r_iload (pc := 378) hX 4 rfl (dk D_X12_tries 208 rfl) ?_
                refine r_iconst (pc := 380) hX (dk D_X12_tries 209 rfl) ?_
                refine r_iadd (pc := 381) hX (dk D_X12_tries 210 rfl) ?_
                refine r_iload (pc := 382) hX 5 rfl (dk D_X12_tries 211 rfl) ?_
                obtain ⟨_, hi, h⟩ := bd_some h
                obtain ⟨x49, μ50, hx49, h⟩ := bd2_some h
                refine r_invV0 (As := [(0, x15), (0, x16), (0, (or32 x17 (shl32 1 x48))), (0, (w32 (x18 + 1))), (0, x19)]) (pc := 384) hX ml_12_329 (hrc x14 x15 x16 (or32 x17 (shl32 1 x48)) (w32 (x18 + 1)) x19 _ _ _ qx15 qx16 (R32_t _) (R32_w _) qx19 hx49) (isk_u hi) (Rm_of hRm (by omega) ⟨by decide, by decide⟩) (by decide) rfl (Nat.le_of_ble_eq_true rfl) rfl (dk D_X12_tries 212 rfl) (fun _ => ?_)
                refine r_iconst (pc := 387) hX (dk D_X12_tries 213 rfl) ?_
                refine r_istore (lv' := [(9, 0, 0), (0, 2, x14), (1, 0, x15), (2, 0, x16), (3, 0, x17), (4, 0, x18), (5, 0, x19), (6, 0, x20), (7, 0, x21), (8, 0, x22)]) (pc := 388) hX (by decide) rfl (dk D_X12_tries 214 rfl) ?_
                refine r_sub (lv' := [(0, 2, x14), (1, 0, x15), (2, 0, x16), (3, 0, x17), (4, 0, x18), (5, 0, x19), (6, 0, x20), (7, 0, x21), (8, 0, x22), (9, 0, 0)]) [1, 2, 3, 4, 5, 6, 7, 8, 9, 0] rfl ?_
                refine L_M_tries_L390 hX hM hRm hlev hrc ?_ FU x14 x15 x16 x17 x18 x19 x20 x21 x22 0 μ50 qx15 qx16 qx17 qx18 qx19 qx20 qx21 qx22 (R32_lit rfl) h
                intro x51 x52 x53 x54 x55 x56 x57 x58 x59 μ60 qx52 qx53 qx54 qx55 qx56 qx57 qx58 qx59 h
                refine r_iload (pc := 432) hX 8 rfl (dk D_X12_tries 238 rfl) ?_
                refine r_if_ne (pc := 434) hX qx59 440 rfl (dk D_X12_tries 239 rfl) (fun hc => ?_) (fun hc => ?_)
                · rw [if_neg hc] at h
                  refine r_aloadn (pc := 440) hX 0 rfl (dk D_X12_tries 241 rfl) ?_
                  obtain ⟨x61, hx61, h⟩ := bd_some h
                  refine r_getR (pc := 441) hX fl_12_13 rfl hx61 (dk D_X12_tries 242 rfl) ?_
                  refine r_sipush (pc := 444) hX rfl (dk D_X12_tries 243 rfl) ?_
                  refine r_iloadn (pc := 447) hX 1 rfl (dk D_X12_tries 244 rfl) ?_
                  refine r_iload (pc := 448) hX 7 rfl (dk D_X12_tries 245 rfl) ?_
                  obtain ⟨x62, μ63, hx62, h⟩ := bd2_some h
                  refine r_invS0 (As := [(0, x52), (0, x58)]) (pc := 450) hX ml_12_233 (L_M_slipAt qx52 qx58 hx62) (Rm_of hRm (by omega) ⟨by decide, by decide⟩) (by decide) rfl (Nat.le_of_ble_eq_true rfl) rfl (dk D_X12_tries 246 rfl) (fun qx62 => ?_)
                  refine r_iadd (pc := 453) hX (dk D_X12_tries 247 rfl) ?_
                  refine r_aloadn (pc := 454) hX 0 rfl (dk D_X12_tries 248 rfl) ?_
                  obtain ⟨x64, hx64, h⟩ := bd_some h
                  refine r_getR (pc := 455) hX fl_12_58 rfl hx64 (dk D_X12_tries 249 rfl) ?_
                  refine r_bipush (pc := 458) hX rfl (dk D_X12_tries 250 rfl) ?_
                  refine r_iload (pc := 460) hX 4 rfl (dk D_X12_tries 251 rfl) ?_
                  refine r_imul (pc := 462) hX (dk D_X12_tries 252 rfl) ?_
                  refine r_bipush (pc := 463) hX rfl (dk D_X12_tries 253 rfl) ?_
                  refine r_iadd (pc := 465) hX (dk D_X12_tries 254 rfl) ?_
                  obtain ⟨x65, hx65, h⟩ := bd_some h
                  refine r_iald (pc := 466) hX (R32_w _) hx65 (dk D_X12_tries 255 rfl) (fun qx65 => ?_)
                  obtain ⟨μ66, hμ66, h⟩ := bd_some h
                  refine r_iast (pc := 467) hX (R32_w _) qx65 hμ66 (dk D_X12_tries 256 rfl) ?_
                  refine r_aloadn (pc := 468) hX 0 rfl (dk D_X12_tries 257 rfl) ?_
                  obtain ⟨x67, hx67, h⟩ := bd_some h
                  refine r_getR (pc := 469) hX fl_12_13 rfl hx67 (dk D_X12_tries 258 rfl) ?_
                  refine r_sipush (pc := 472) hX rfl (dk D_X12_tries 259 rfl) ?_
                  refine r_iloadn (pc := 475) hX 1 rfl (dk D_X12_tries 260 rfl) ?_
                  refine r_iload (pc := 476) hX 7 rfl (dk D_X12_tries 261 rfl) ?_
                  obtain ⟨x68, μ69, hx68, h⟩ := bd2_some h
                  refine r_invS0 (As := [(0, x52), (0, x58)]) (pc := 478) hX ml_12_233 (L_M_slipAt qx52 qx58 hx68) (Rm_of hRm (by omega) ⟨by decide, by decide⟩) (by decide) rfl (Nat.le_of_ble_eq_true rfl) rfl (dk D_X12_tries 262 rfl) (fun qx68 => ?_)
                  refine r_iadd (pc := 481) hX (dk D_X12_tries 263 rfl) ?_
                  refine r_aloadn (pc := 482) hX 0 rfl (dk D_X12_tries 264 rfl) ?_
                  obtain ⟨x70, hx70, h⟩ := bd_some h
                  refine r_getR (pc := 483) hX fl_12_58 rfl hx70 (dk D_X12_tries 265 rfl) ?_
                  refine r_bipush (pc := 486) hX rfl (dk D_X12_tries 266 rfl) ?_
                  refine r_iload (pc := 488) hX 4 rfl (dk D_X12_tries 267 rfl) ?_
                  refine r_imul (pc := 490) hX (dk D_X12_tries 268 rfl) ?_
                  refine r_bipush (pc := 491) hX rfl (dk D_X12_tries 269 rfl) ?_
                  refine r_iadd (pc := 493) hX (dk D_X12_tries 270 rfl) ?_
                  obtain ⟨x71, hx71, h⟩ := bd_some h
                  refine r_iald (pc := 494) hX (R32_w _) hx71 (dk D_X12_tries 271 rfl) (fun qx71 => ?_)
                  obtain ⟨μ72, hμ72, h⟩ := bd_some h
                  refine r_iast (pc := 495) hX (R32_w _) qx71 hμ72 (dk D_X12_tries 272 rfl) ?_
                  refine r_aloadn (pc := 496) hX 0 rfl (dk D_X12_tries 273 rfl) ?_
                  obtain ⟨x73, hx73, h⟩ := bd_some h
                  refine r_getR (pc := 497) hX fl_12_13 rfl hx73 (dk D_X12_tries 274 rfl) ?_
                  refine r_sipush (pc := 500) hX rfl (dk D_X12_tries 275 rfl) ?_
                  refine r_iloadn (pc := 503) hX 1 rfl (dk D_X12_tries 276 rfl) ?_
                  refine r_iload (pc := 504) hX 7 rfl (dk D_X12_tries 277 rfl) ?_
                  obtain ⟨x74, μ75, hx74, h⟩ := bd2_some h
                  refine r_invS0 (As := [(0, x52), (0, x58)]) (pc := 506) hX ml_12_233 (L_M_slipAt qx52 qx58 hx74) (Rm_of hRm (by omega) ⟨by decide, by decide⟩) (by decide) rfl (Nat.le_of_ble_eq_true rfl) rfl (dk D_X12_tries 278 rfl) (fun qx74 => ?_)
                  refine r_iadd (pc := 509) hX (dk D_X12_tries 279 rfl) ?_
                  refine r_aloadn (pc := 510) hX 0 rfl (dk D_X12_tries 280 rfl) ?_
                  obtain ⟨x76, hx76, h⟩ := bd_some h
                  refine r_getR (pc := 511) hX fl_12_58 rfl hx76 (dk D_X12_tries 281 rfl) ?_
                  refine r_bipush (pc := 514) hX rfl (dk D_X12_tries 282 rfl) ?_
                  refine r_iload (pc := 516) hX 4 rfl (dk D_X12_tries 283 rfl) ?_
                  refine r_imul (pc := 518) hX (dk D_X12_tries 284 rfl) ?_
                  refine r_bipush (pc := 519) hX rfl (dk D_X12_tries 285 rfl) ?_
                  refine r_iadd (pc := 521) hX (dk D_X12_tries 286 rfl) ?_
                  obtain ⟨x77, hx77, h⟩ := bd_some h
                  refine r_iald (pc := 522) hX (R32_w _) hx77 (dk D_X12_tries 287 rfl) (fun qx77 => ?_)
                  obtain ⟨μ78, hμ78, h⟩ := bd_some h
                  refine r_iast (pc := 523) hX (R32_w _) qx77 hμ78 (dk D_X12_tries 288 rfl) ?_
                  refine r_iinc (lv' := [(6, 0, (w32 (x57 + 1))), (0, 2, x51), (1, 0, x52), (2, 0, x53), (3, 0, x54), (4, 0, x55), (5, 0, x56), (7, 0, x58), (8, 0, x59)]) (pc := 524) hX 6 rfl (by decide) rfl (dk D_X12_tries 289 rfl) ?_
                  refine r_goto (pc := 527) hX 124 rfl (dk D_X12_tries 290 rfl) ?_
                  refine r_sub (lv' := [(0, 2, x51), (1, 0, x52), (2, 0, x53), (3, 0, x54), (4, 0, x55), (5, 0, x56), (6, 0, (w32 (x57 + 1)))]) [1, 2, 3, 4, 5, 6, 0] rfl ?_
                  exact ih x51 x52 x53 x54 x55 x56 (w32 (x57 + 1)) μ78 qx52 qx53 qx54 qx55 qx56 (R32_w _) h
                · rw [if_pos hc] at h
                  refine r_goto (pc := 437) hX 524 rfl (dk D_X12_tries 240 rfl) ?_
                  refine r_iinc (lv' := [(6, 0, (w32 (x57 + 1))), (0, 2, x51), (1, 0, x52), (2, 0, x53), (3, 0, x54), (4, 0, x55), (5, 0, x56), (7, 0, x58), (8, 0, x59)]) (pc := 524) hX 6 rfl (by decide) rfl (dk D_X12_tries 289 rfl) ?_
                  refine r_goto (pc := 527) hX 124 rfl (dk D_X12_tries 290 rfl) ?_
                  refine r_sub (lv' := [(0, 2, x51), (1, 0, x52), (2, 0, x53), (3, 0, x54), (4, 0, x55), (5, 0, x56), (6, 0, (w32 (x57 + 1)))]) [1, 2, 3, 4, 5, 6, 0] rfl ?_
                  exact ih x51 x52 x53 x54 x55 x56 (w32 (x57 + 1)) μ60 qx52 qx53 qx54 qx55 qx56 (R32_w _) h
              clear h
              have h := hb
              clear hb
              refine r_if_eq (pc := 257) hX qx22 344 rfl (dk D_X12_tries 136 rfl) (fun hc => ?_) (fun hc => ?_)
              · rw [if_pos hc] at h
                replace h := Option.some.inj h
                subst μ24
                exact hj
              · rw [if_neg hc] at h
                refine r_aloadn (pc := 260) hX 0 rfl (dk D_X12_tries 137 rfl) ?_
                obtain ⟨x25, hx25, h⟩ := bd_some h
                refine r_getR (pc := 261) hX fl_12_58 rfl hx25 (dk D_X12_tries 138 rfl) ?_
                refine r_bipush (pc := 264) hX rfl (dk D_X12_tries 139 rfl) ?_
                refine r_iload (pc := 266) hX 4 rfl (dk D_X12_tries 140 rfl) ?_
                refine r_imul (pc := 268) hX (dk D_X12_tries 141 rfl) ?_
                refine r_bipush (pc := 269) hX rfl (dk D_X12_tries 142 rfl) ?_
                refine r_iadd (pc := 271) hX (dk D_X12_tries 143 rfl) ?_
                refine r_aloadn (pc := 272) hX 0 rfl (dk D_X12_tries 144 rfl) ?_
                obtain ⟨x26, hx26, h⟩ := bd_some h
                refine r_getR (pc := 273) hX fl_12_13 rfl hx26 (dk D_X12_tries 145 rfl) ?_
                refine r_sipush (pc := 276) hX rfl (dk D_X12_tries 146 rfl) ?_
                refine r_iloadn (pc := 279) hX 1 rfl (dk D_X12_tries 147 rfl) ?_
                refine r_iload (pc := 280) hX 7 rfl (dk D_X12_tries 148 rfl) ?_
                obtain ⟨x27, μ28, hx27, h⟩ := bd2_some h
                refine r_invS0 (As := [(0, x15), (0, x21)]) (pc := 282) hX ml_12_233 (L_M_slipAt qx15 qx21 hx27) (Rm_of hRm (by omega) ⟨by decide, by decide⟩) (by decide) rfl (Nat.le_of_ble_eq_true rfl) rfl (dk D_X12_tries 149 rfl) (fun qx27 => ?_)
                refine r_iadd (pc := 285) hX (dk D_X12_tries 150 rfl) ?_
                obtain ⟨x29, hx29, h⟩ := bd_some h
                refine r_iald (pc := 286) hX (R32_w _) hx29 (dk D_X12_tries 151 rfl) (fun qx29 => ?_)
                obtain ⟨μ30, hμ30, h⟩ := bd_some h
                refine r_iast (pc := 287) hX (R32_w _) qx29 hμ30 (dk D_X12_tries 152 rfl) ?_
                refine r_aloadn (pc := 288) hX 0 rfl (dk D_X12_tries 153 rfl) ?_
                obtain ⟨x31, hx31, h⟩ := bd_some h
                refine r_getR (pc := 289) hX fl_12_58 rfl hx31 (dk D_X12_tries 154 rfl) ?_
                refine r_bipush (pc := 292) hX rfl (dk D_X12_tries 155 rfl) ?_
                refine r_iload (pc := 294) hX 4 rfl (dk D_X12_tries 156 rfl) ?_
                refine r_imul (pc := 296) hX (dk D_X12_tries 157 rfl) ?_
                refine r_bipush (pc := 297) hX rfl (dk D_X12_tries 158 rfl) ?_
                refine r_iadd (pc := 299) hX (dk D_X12_tries 159 rfl) ?_
                refine r_aloadn (pc := 300) hX 0 rfl (dk D_X12_tries 160 rfl) ?_
                obtain ⟨x32, hx32, h⟩ := bd_some h
                refine r_getR (pc := 301) hX fl_12_13 rfl hx32 (dk D_X12_tries 161 rfl) ?_
                refine r_sipush (pc := 304) hX rfl (dk D_X12_tries 162 rfl) ?_
                refine r_iloadn (pc := 307) hX 1 rfl (dk D_X12_tries 163 rfl) ?_
                refine r_iload (pc := 308) hX 7 rfl (dk D_X12_tries 164 rfl) ?_
                obtain ⟨x33, μ34, hx33, h⟩ := bd2_some h
                refine r_invS0 (As := [(0, x15), (0, x21)]) (pc := 310) hX ml_12_233 (L_M_slipAt qx15 qx21 hx33) (Rm_of hRm (by omega) ⟨by decide, by decide⟩) (by decide) rfl (Nat.le_of_ble_eq_true rfl) rfl (dk D_X12_tries 165 rfl) (fun qx33 => ?_)
                refine r_iadd (pc := 313) hX (dk D_X12_tries 166 rfl) ?_
                obtain ⟨x35, hx35, h⟩ := bd_some h
                refine r_iald (pc := 314) hX (R32_w _) hx35 (dk D_X12_tries 167 rfl) (fun qx35 => ?_)
                obtain ⟨μ36, hμ36, h⟩ := bd_some h
                refine r_iast (pc := 315) hX (R32_w _) qx35 hμ36 (dk D_X12_tries 168 rfl) ?_
                refine r_aloadn (pc := 316) hX 0 rfl (dk D_X12_tries 169 rfl) ?_
                obtain ⟨x37, hx37, h⟩ := bd_some h
                refine r_getR (pc := 317) hX fl_12_58 rfl hx37 (dk D_X12_tries 170 rfl) ?_
                refine r_bipush (pc := 320) hX rfl (dk D_X12_tries 171 rfl) ?_
                refine r_iload (pc := 322) hX 4 rfl (dk D_X12_tries 172 rfl) ?_
                refine r_imul (pc := 324) hX (dk D_X12_tries 173 rfl) ?_
                refine r_bipush (pc := 325) hX rfl (dk D_X12_tries 174 rfl) ?_
                refine r_iadd (pc := 327) hX (dk D_X12_tries 175 rfl) ?_
                refine r_aloadn (pc := 328) hX 0 rfl (dk D_X12_tries 176 rfl) ?_
                obtain ⟨x38, hx38, h⟩ := bd_some h
                refine r_getR (pc := 329) hX fl_12_13 rfl hx38 (dk D_X12_tries 177 rfl) ?_
                refine r_sipush (pc := 332) hX rfl (dk D_X12_tries 178 rfl) ?_
                refine r_iloadn (pc := 335) hX 1 rfl (dk D_X12_tries 179 rfl) ?_
                refine r_iload (pc := 336) hX 7 rfl (dk D_X12_tries 180 rfl) ?_
                obtain ⟨x39, μ40, hx39, h⟩ := bd2_some h
                refine r_invS0 (As := [(0, x15), (0, x21)]) (pc := 338) hX ml_12_233 (L_M_slipAt qx15 qx21 hx39) (Rm_of hRm (by omega) ⟨by decide, by decide⟩) (by decide) rfl (Nat.le_of_ble_eq_true rfl) rfl (dk D_X12_tries 181 rfl) (fun qx39 => ?_)
                refine r_iadd (pc := 341) hX (dk D_X12_tries 182 rfl) ?_
                obtain ⟨x41, hx41, h⟩ := bd_some h
                refine r_iald (pc := 342) hX (R32_w _) hx41 (dk D_X12_tries 183 rfl) (fun qx41 => ?_)
                obtain ⟨μ42, hμ42, h⟩ := bd_some h
                refine r_iast (pc := 343) hX (R32_w _) qx41 hμ42 (dk D_X12_tries 184 rfl) ?_
                replace h := Option.some.inj h
                subst μ24
                exact hj
            · rw [if_pos hc] at h
              cases h
              exact r_return (pc := 186) hX hM ⟨by decide, by decide⟩ (dk D_X12_tries 95 rfl)
          · rw [if_neg hc] at h
            refine r_goto (pc := 163) hX 524 rfl (dk D_X12_tries 84 rfl) ?_
            refine r_iinc (lv' := [(6, 0, (w32 (v6 + 1))), (0, 2, v0), (1, 0, v1), (2, 0, v2), (3, 0, v3), (4, 0, v4), (5, 0, v5)]) (pc := 524) hX 6 rfl (by decide) rfl (dk D_X12_tries 289 rfl) ?_
            refine r_goto (pc := 527) hX 124 rfl (dk D_X12_tries 290 rfl) ?_
            refine r_sub (lv' := [(0, 2, v0), (1, 0, v1), (2, 0, v2), (3, 0, v3), (4, 0, v4), (5, 0, v5), (6, 0, (w32 (v6 + 1)))]) [1, 2, 3, 4, 5, 6, 0] rfl ?_
            exact ih v0 v1 v2 v3 v4 v5 (w32 (v6 + 1)) μ5 q_v1 q_v2 q_v3 q_v4 q_v5 (R32_w _) h
set_option maxRecDepth 100000 in
set_option maxHeartbeats 4000000 in
theorem L_M_tries_L94 {E : EX} {X : CX} {res : Int} {μe : Mem} {lev : Nat} (hX : Good E X cX12_tries 10 "TollsBackModel") (hM : GoodM E X none none μe 0 0) (hRm : cR X = rmOf lev 0 0) (hlev : 6 ≤ lev) {rc : Int → Int → Int → Int → Int → Int → Mem → Option (Int × Mem)} {k121 : Int → Int → Int → Int → Int → Int → Mem → Option (Int × Mem)} (hrc : ∀ (a0 a1 a2 a3 a4 a5 : Int) (μ μ' : Mem) (res : Int), R32 a1 → R32 a2 → R32 a3 → R32 a4 → R32 a5 → rc a0 a1 a2 a3 a4 a5 μ = some (res, μ') → Ok E (cL X) (lev - 1) yX12_tries (.code yX12_tries cX12_tries 10 none) 0 0 [(2, a0), (0, a1), (0, a2), (0, a3), (0, a4), (0, a5)] μ none μ') (hk121 : ∀ (u0 u1 u2 u3 u4 u5 : Int) (μ : Mem), R32 u1 → R32 u2 → R32 u3 → R32 u4 → R32 u5 → k121 u0 u1 u2 u3 u4 u5 μ = some (res, μe) → At E X cX12_tries 10 "TollsBackModel" (0, 0) 121 [(0, 2, u0), (1, 0, u1), (2, 0, u2), (3, 0, u3), (4, 0, u4), (5, 0, u5)] [] μ) : ∀ (n : Nat) (v0 v1 v2 v3 v4 v5 v7 : Int) (μ : Mem) (q_v1 : R32 v1) (q_v2 : R32 v2) (q_v3 : R32 v3) (q_v4 : R32 v4) (q_v5 : R32 v5) (q_v7 : R32 v7) (h : M_tries_L94 rc k121 n v0 v1 v2 v3 v4 v5 v7 μ = some (res, μe)), At E X cX12_tries 10 "TollsBackModel" (0, 0) 94 [(0, 2, v0), (1, 0, v1), (2, 0, v2), (3, 0, v3), (4, 0, v4), (5, 0, v5), (7, 0, v7)] [] μ := by
  intro n
  induction n with
  | zero =>
    intro v0 v1 v2 v3 v4 v5 v7 μ q_v1 q_v2 q_v3 q_v4 q_v5 q_v7 h
    have h : (none : Option (Int × Mem)) = some (res, μe) := h
    cases h
  | succ n ih =>
    intro v0 v1 v2 v3 v4 v5 v7 μ q_v1 q_v2 q_v3 q_v4 q_v5 q_v7 h
    rw [M_tries_L94.eq_2] at h
    refine r_iload (pc := 94) hX 6 rfl (dk D_X12_tries 51 rfl) ?_
    refine r_iload (pc := 96) hX 4 rfl (dk D_X12_tries 52 rfl) ?_
    refine r_icmp_ge (pc := 98) hX q_v7 q_v4 121 rfl (dk D_X12_tries 53 rfl) (fun hc => ?_) (fun hc => ?_)
    · rw [if_neg hc] at h
      refine r_sub (lv' := [(0, 2, v0), (1, 0, v1), (2, 0, v2), (3, 0, v3), (4, 0, v4), (5, 0, v5)]) [0, 1, 2, 3, 4, 5] rfl ?_
      exact hk121 v0 v1 v2 v3 v4 v5 μ q_v1 q_v2 q_v3 q_v4 q_v5 h
    · rw [if_pos hc] at h
      refine r_aloadn (pc := 101) hX 0 rfl (dk D_X12_tries 54 rfl) ?_
      obtain ⟨x1, hx1, h⟩ := bd_some h
      refine r_getR (pc := 102) hX fl_12_55 rfl hx1 (dk D_X12_tries 55 rfl) ?_
      refine r_iload (pc := 105) hX 6 rfl (dk D_X12_tries 56 rfl) ?_
      refine r_aloadn (pc := 107) hX 0 rfl (dk D_X12_tries 57 rfl) ?_
      obtain ⟨x2, hx2, h⟩ := bd_some h
      refine r_getR (pc := 108) hX fl_12_52 rfl hx2 (dk D_X12_tries 58 rfl) ?_
      refine r_iload (pc := 111) hX 6 rfl (dk D_X12_tries 59 rfl) ?_
      obtain ⟨x3, hx3, h⟩ := bd_some h
      refine r_iald (pc := 113) hX q_v7 hx3 (dk D_X12_tries 60 rfl) (fun qx3 => ?_)
      obtain ⟨μ4, hμ4, h⟩ := bd_some h
      refine r_iast (pc := 114) hX q_v7 qx3 hμ4 (dk D_X12_tries 61 rfl) ?_
      refine r_iinc (lv' := [(7, 0, (w32 (v7 + 1))), (0, 2, v0), (1, 0, v1), (2, 0, v2), (3, 0, v3), (4, 0, v4), (5, 0, v5)]) (pc := 115) hX 6 rfl (by decide) rfl (dk D_X12_tries 62 rfl) ?_
      refine r_goto (pc := 118) hX 94 rfl (dk D_X12_tries 63 rfl) ?_
      refine r_sub (lv' := [(0, 2, v0), (1, 0, v1), (2, 0, v2), (3, 0, v3), (4, 0, v4), (5, 0, v5), (7, 0, (w32 (v7 + 1)))]) [1, 2, 3, 4, 5, 6, 0] rfl ?_
      exact ih v0 v1 v2 v3 v4 v5 (w32 (v7 + 1)) μ4 q_v1 q_v2 q_v3 q_v4 q_v5 (R32_w _) h
set_option maxRecDepth 100000 in
set_option maxHeartbeats 4000000 in
theorem L_M_tries_J79 {E : EX} {X : CX} {res : Int} {μe : Mem} {lev : Nat} (hX : Good E X cX12_tries 10 "TollsBackModel") (hM : GoodM E X none none μe 0 0) (hRm : cR X = rmOf lev 0 0) (hlev : 6 ≤ lev) {rc : Int → Int → Int → Int → Int → Int → Mem → Option (Int × Mem)} {k121 : Int → Int → Int → Int → Int → Int → Mem → Option (Int × Mem)} (hrc : ∀ (a0 a1 a2 a3 a4 a5 : Int) (μ μ' : Mem) (res : Int), R32 a1 → R32 a2 → R32 a3 → R32 a4 → R32 a5 → rc a0 a1 a2 a3 a4 a5 μ = some (res, μ') → Ok E (cL X) (lev - 1) yX12_tries (.code yX12_tries cX12_tries 10 none) 0 0 [(2, a0), (0, a1), (0, a2), (0, a3), (0, a4), (0, a5)] μ none μ') (hk121 : ∀ (u0 u1 u2 u3 u4 u5 : Int) (μ : Mem), R32 u1 → R32 u2 → R32 u3 → R32 u4 → R32 u5 → k121 u0 u1 u2 u3 u4 u5 μ = some (res, μe) → At E X cX12_tries 10 "TollsBackModel" (0, 0) 121 [(0, 2, u0), (1, 0, u1), (2, 0, u2), (3, 0, u3), (4, 0, u4), (5, 0, u5)] [] μ) {v0 v1 v2 v3 v4 v5 v6 : Int} {μ : Mem} (q_v1 : R32 v1) (q_v2 : R32 v2) (q_v3 : R32 v3) (q_v4 : R32 v4) (q_v5 : R32 v5) (q_v6 : R32 v6) (h : M_tries_J79 rc k121 v0 v1 v2 v3 v4 v5 v6 μ = some (res, μe)) : At E X cX12_tries 10 "TollsBackModel" (0, 0) 79 [(0, 2, v0), (1, 0, v1), (2, 0, v2), (3, 0, v3), (4, 0, v4), (5, 0, v5), (6, 0, v6)] [] μ := by
  unfold M_tries_J79 at h
  refine r_aloadn (pc := 79) hX 0 rfl (dk D_X12_tries 43 rfl) ?_
  refine r_iload (pc := 80) hX 4 rfl (dk D_X12_tries 44 rfl) ?_
  obtain ⟨μ1, hμ1, h⟩ := bd_some h
  refine r_putI (pc := 82) hX fl_12_319 rfl rfl q_v4 trivial hμ1 (dk D_X12_tries 45 rfl) ?_
  refine r_aloadn (pc := 85) hX 0 rfl (dk D_X12_tries 46 rfl) ?_
  refine r_iload (pc := 86) hX 6 rfl (dk D_X12_tries 47 rfl) ?_
  obtain ⟨μ2, hμ2, h⟩ := bd_some h
  refine r_putI (pc := 88) hX fl_12_322 rfl rfl q_v6 trivial hμ2 (dk D_X12_tries 48 rfl) ?_
  refine r_iconst (pc := 91) hX (dk D_X12_tries 49 rfl) ?_
  refine r_istore (lv' := [(7, 0, 0), (0, 2, v0), (1, 0, v1), (2, 0, v2), (3, 0, v3), (4, 0, v4), (5, 0, v5), (6, 0, v6)]) (pc := 92) hX (by decide) rfl (dk D_X12_tries 50 rfl) ?_
  refine r_sub (lv' := [(0, 2, v0), (1, 0, v1), (2, 0, v2), (3, 0, v3), (4, 0, v4), (5, 0, v5), (7, 0, 0)]) [1, 2, 3, 4, 5, 6, 0] rfl ?_
  refine L_M_tries_L94 hX hM hRm hlev hrc hk121 FU v0 v1 v2 v3 v4 v5 0 μ2 q_v1 q_v2 q_v3 q_v4 q_v5 (R32_lit rfl) h
set_option maxRecDepth 100000 in
set_option maxHeartbeats 4000000 in
theorem L_M_tries {E : EX} {l : Launch} : ∀ (dp : Nat) (a0 a1 a2 a3 a4 a5 : Int) (μ μ' : Mem) (res : Int) (q_a1 : R32 a1) (q_a2 : R32 a2) (q_a3 : R32 a3) (q_a4 : R32 a4) (q_a5 : R32 a5) (h : M_tries dp a0 a1 a2 a3 a4 a5 μ = some (res, μ')), Ok E l (5 + dp) yX12_tries (.code yX12_tries cX12_tries 10 none) 0 0 [(2, a0), (0, a1), (0, a2), (0, a3), (0, a4), (0, a5)] μ none μ' := by
  intro dp
  induction dp with
  | zero =>
    intro a0 a1 a2 a3 a4 a5 μ μ' res q_a1 q_a2 q_a3 q_a4 q_a5 h
    have h : (none : Option (Int × Mem)) = some (res, μ') := h
    cases h
  | succ dp ih =>
    intro a0 a1 a2 a3 a4 a5 μ μ' res q_a1 q_a2 q_a3 q_a4 q_a5 h
    have hrc : ∀ (a0 a1 a2 a3 a4 a5 : Int) (μ μ' : Mem) (res : Int), R32 a1 → R32 a2 → R32 a3 → R32 a4 → R32 a5 → M_tries dp a0 a1 a2 a3 a4 a5 μ = some (res, μ') → Ok E l (5 + dp) yX12_tries (.code yX12_tries cX12_tries 10 none) 0 0 [(2, a0), (0, a1), (0, a2), (0, a3), (0, a4), (0, a5)] μ none μ' := fun a0 a1 a2 a3 a4 a5 μ μ' res q_a1 q_a2 q_a3 q_a4 q_a5 h => ih a0 a1 a2 a3 a4 a5 μ μ' res q_a1 q_a2 q_a3 q_a4 q_a5 h
    refine Ok.of (own := "TollsBackModel") [(0, 2, a0), (1, 0, a1), (2, 0, a2), (3, 0, a3), (4, 0, a4), (5, 0, a5)] (by decide +kernel) rfl (Nat.le_of_ble_eq_true rfl) rfl ?_
    intro X hL hRm hin hX hM
    rw [M_tries.eq_2] at h
    subst hL
    refine r_iloadn (pc := 0) hX 2 rfl (dk D_X12_tries 0 rfl) ?_
    refine r_iloadn (pc := 1) hX 3 rfl (dk D_X12_tries 1 rfl) ?_
    refine r_iconst (pc := 2) hX (dk D_X12_tries 2 rfl) ?_
    refine r_ixor (pc := 3) hX (dk D_X12_tries 3 rfl) ?_
    refine r_iand (pc := 4) hX (dk D_X12_tries 4 rfl) ?_
    refine r_if_ne (pc := 5) hX (R32_t _) 121 rfl (dk D_X12_tries 5 rfl) (fun hc => ?_) (fun hc => ?_)
    · rw [if_neg hc] at h
      refine r_iconst (pc := 121) hX (dk D_X12_tries 64 rfl) ?_
      refine r_istore (lv' := [(6, 0, 0), (0, 2, a0), (1, 0, a1), (2, 0, a2), (3, 0, a3), (4, 0, a4), (5, 0, a5)]) (pc := 122) hX (by decide) rfl (dk D_X12_tries 65 rfl) ?_
      refine r_sub (lv' := [(0, 2, a0), (1, 0, a1), (2, 0, a2), (3, 0, a3), (4, 0, a4), (5, 0, a5), (6, 0, 0)]) [1, 2, 3, 4, 5, 6, 0] rfl ?_
      refine L_M_tries_L124 hX hM hRm (by omega) hrc FU a0 a1 a2 a3 a4 a5 0 μ q_a1 q_a2 q_a3 q_a4 q_a5 (R32_lit rfl) h
    · rw [if_pos hc] at h
      refine r_aloadn (pc := 8) hX 0 rfl (dk D_X12_tries 6 rfl) ?_
      obtain ⟨x1, hx1, h⟩ := bd_some h
      refine r_getR (pc := 9) hX fl_12_13 rfl hx1 (dk D_X12_tries 7 rfl) ?_
      refine r_sipush (pc := 12) hX rfl (dk D_X12_tries 8 rfl) ?_
      refine r_iloadn (pc := 15) hX 1 rfl (dk D_X12_tries 9 rfl) ?_
      refine r_iadd (pc := 16) hX (dk D_X12_tries 10 rfl) ?_
      obtain ⟨x2, hx2, h⟩ := bd_some h
      refine r_iald (pc := 17) hX (R32_w _) hx2 (dk D_X12_tries 11 rfl) (fun qx2 => ?_)
      refine r_aloadn (pc := 18) hX 0 rfl (dk D_X12_tries 12 rfl) ?_
      obtain ⟨x3, hx3, h⟩ := bd_some h
      refine r_getR (pc := 19) hX fl_12_13 rfl hx3 (dk D_X12_tries 13 rfl) ?_
      refine r_iconst (pc := 22) hX (dk D_X12_tries 14 rfl) ?_
      obtain ⟨x4, hx4, h⟩ := bd_some h
      refine r_iald (pc := 23) hX (R32_lit rfl) hx4 (dk D_X12_tries 15 rfl) (fun qx4 => ?_)
      refine r_icmp_ne (pc := 24) hX qx2 qx4 121 rfl (dk D_X12_tries 16 rfl) (fun hc => ?_) (fun hc => ?_)
      · rw [if_neg hc] at h
        refine r_iconst (pc := 121) hX (dk D_X12_tries 64 rfl) ?_
        refine r_istore (lv' := [(6, 0, 0), (0, 2, a0), (1, 0, a1), (2, 0, a2), (3, 0, a3), (4, 0, a4), (5, 0, a5)]) (pc := 122) hX (by decide) rfl (dk D_X12_tries 65 rfl) ?_
        refine r_sub (lv' := [(0, 2, a0), (1, 0, a1), (2, 0, a2), (3, 0, a3), (4, 0, a4), (5, 0, a5), (6, 0, 0)]) [1, 2, 3, 4, 5, 6, 0] rfl ?_
        refine L_M_tries_L124 hX hM hRm (by omega) hrc FU a0 a1 a2 a3 a4 a5 0 μ q_a1 q_a2 q_a3 q_a4 q_a5 (R32_lit rfl) h
      · rw [if_pos hc] at h
        refine r_aloadn (pc := 27) hX 0 rfl (dk D_X12_tries 17 rfl) ?_
        obtain ⟨x5, hx5, h⟩ := bd_some h
        refine r_getR (pc := 28) hX fl_12_13 rfl hx5 (dk D_X12_tries 18 rfl) ?_
        refine r_sipush (pc := 31) hX rfl (dk D_X12_tries 19 rfl) ?_
        refine r_iloadn (pc := 34) hX 1 rfl (dk D_X12_tries 20 rfl) ?_
        refine r_iadd (pc := 35) hX (dk D_X12_tries 21 rfl) ?_
        obtain ⟨x6, hx6, h⟩ := bd_some h
        refine r_iald (pc := 36) hX (R32_w _) hx6 (dk D_X12_tries 22 rfl) (fun qx6 => ?_)
        refine r_aloadn (pc := 37) hX 0 rfl (dk D_X12_tries 23 rfl) ?_
        obtain ⟨x7, hx7, h⟩ := bd_some h
        refine r_getI (pc := 38) hX fl_12_316 rfl rfl hx7 (dk D_X12_tries 24 rfl) (fun qx7 => ?_)
        refine r_isub (pc := 41) hX (dk D_X12_tries 25 rfl) ?_
        obtain ⟨x8, ex8, h⟩ := bd_some h
        replace ex8 := Option.some.inj ex8
        have qx8 : R32 x8 := ex8 ▸ (R32_w _)
        rw [ex8]
        refine r_istore (lv' := [(6, 0, x8), (0, 2, a0), (1, 0, a1), (2, 0, a2), (3, 0, a3), (4, 0, a4), (5, 0, a5)]) (pc := 42) hX (by decide) rfl (dk D_X12_tries 26 rfl) ?_
        refine r_aloadn (pc := 44) hX 1 rfl (dk D_X12_tries 27 rfl) ?_
        obtain ⟨x9, hx9, h⟩ := bd_some h
        refine r_getI (pc := 45) hX fl_12_319 rfl rfl hx9 (dk D_X12_tries 28 rfl) (fun qx9 => ?_)
        refine r_iconst (pc := 48) hX (dk D_X12_tries 29 rfl) ?_
        refine r_icmp_eq (pc := 49) hX qx9 (R32_lit rfl) 79 rfl (dk D_X12_tries 30 rfl) (fun hc => ?_) (fun hc => ?_)
        · rw [if_pos hc] at h
          refine r_sub (lv' := [(0, 2, a0), (1, 0, a1), (2, 0, a2), (3, 0, a3), (4, 0, a4), (5, 0, a5), (6, 0, x8)]) [1, 2, 3, 4, 5, 6, 0] rfl ?_
          refine L_M_tries_J79 hX hM hRm (by omega) hrc ?_ q_a1 q_a2 q_a3 q_a4 q_a5 qx8 h
          intro x10 x11 x12 x13 x14 x15 μ16 qx11 qx12 qx13 qx14 qx15 h
          refine r_iconst (pc := 121) hX (dk D_X12_tries 64 rfl) ?_
          refine r_istore (lv' := [(6, 0, 0), (0, 2, x10), (1, 0, x11), (2, 0, x12), (3, 0, x13), (4, 0, x14), (5, 0, x15)]) (pc := 122) hX (by decide) rfl (dk D_X12_tries 65 rfl) ?_
          refine r_sub (lv' := [(0, 2, x10), (1, 0, x11), (2, 0, x12), (3, 0, x13), (4, 0, x14), (5, 0, x15), (6, 0, 0)]) [1, 2, 3, 4, 5, 6, 0] rfl ?_
          refine L_M_tries_L124 hX hM hRm (by omega) hrc FU x10 x11 x12 x13 x14 x15 0 μ16 qx11 qx12 qx13 qx14 qx15 (R32_lit rfl) h
        · rw [if_neg hc] at h
          refine r_iload (pc := 52) hX 0 rfl (dk D_X12_tries 31 rfl) ?_
          refine r_aloadn (pc := 54) hX 1 rfl (dk D_X12_tries 32 rfl) ?_
          obtain ⟨x17, hx17, h⟩ := bd_some h
          refine r_getI (pc := 55) hX fl_12_322 rfl rfl hx17 (dk D_X12_tries 33 rfl) (fun qx17 => ?_)
          refine r_icmp_gt (pc := 58) hX qx8 qx17 79 rfl (dk D_X12_tries 34 rfl) (fun hc => ?_) (fun hc => ?_)
          · rw [if_pos hc] at h
            refine r_sub (lv' := [(0, 2, a0), (1, 0, a1), (2, 0, a2), (3, 0, a3), (4, 0, a4), (5, 0, a5), (6, 0, x8)]) [1, 2, 3, 4, 5, 6, 0] rfl ?_
            refine L_M_tries_J79 hX hM hRm (by omega) hrc ?_ q_a1 q_a2 q_a3 q_a4 q_a5 qx8 h
            intro x18 x19 x20 x21 x22 x23 μ24 qx19 qx20 qx21 qx22 qx23 h
            refine r_iconst (pc := 121) hX (dk D_X12_tries 64 rfl) ?_
            refine r_istore (lv' := [(6, 0, 0), (0, 2, x18), (1, 0, x19), (2, 0, x20), (3, 0, x21), (4, 0, x22), (5, 0, x23)]) (pc := 122) hX (by decide) rfl (dk D_X12_tries 65 rfl) ?_
            refine r_sub (lv' := [(0, 2, x18), (1, 0, x19), (2, 0, x20), (3, 0, x21), (4, 0, x22), (5, 0, x23), (6, 0, 0)]) [1, 2, 3, 4, 5, 6, 0] rfl ?_
            refine L_M_tries_L124 hX hM hRm (by omega) hrc FU x18 x19 x20 x21 x22 x23 0 μ24 qx19 qx20 qx21 qx22 qx23 (R32_lit rfl) h
          · rw [if_neg hc] at h
            refine r_iload (pc := 61) hX 0 rfl (dk D_X12_tries 35 rfl) ?_
            refine r_aloadn (pc := 63) hX 1 rfl (dk D_X12_tries 36 rfl) ?_
            obtain ⟨x25, hx25, h⟩ := bd_some h
            refine r_getI (pc := 64) hX fl_12_322 rfl rfl hx25 (dk D_X12_tries 37 rfl) (fun qx25 => ?_)
            refine r_icmp_ne (pc := 67) hX qx8 qx25 121 rfl (dk D_X12_tries 38 rfl) (fun hc => ?_) (fun hc => ?_)
            · rw [if_neg hc] at h
              refine r_iconst (pc := 121) hX (dk D_X12_tries 64 rfl) ?_
              refine r_istore (lv' := [(6, 0, 0), (0, 2, a0), (1, 0, a1), (2, 0, a2), (3, 0, a3), (4, 0, a4), (5, 0, a5)]) (pc := 122) hX (by decide) rfl (dk D_X12_tries 65 rfl) ?_
              refine r_sub (lv' := [(0, 2, a0), (1, 0, a1), (2, 0, a2), (3, 0, a3), (4, 0, a4), (5, 0, a5), (6, 0, 0)]) [1, 2, 3, 4, 5, 6, 0] rfl ?_
              refine L_M_tries_L124 hX hM hRm (by omega) hrc FU a0 a1 a2 a3 a4 a5 0 μ q_a1 q_a2 q_a3 q_a4 q_a5 (R32_lit rfl) h
            · rw [if_pos hc] at h
              refine r_iload (pc := 70) hX 5 rfl (dk D_X12_tries 39 rfl) ?_
              refine r_aloadn (pc := 72) hX 1 rfl (dk D_X12_tries 40 rfl) ?_
              obtain ⟨x26, hx26, h⟩ := bd_some h
              refine r_getI (pc := 73) hX fl_12_319 rfl rfl hx26 (dk D_X12_tries 41 rfl) (fun qx26 => ?_)
              refine r_icmp_ge (pc := 76) hX q_a4 qx26 121 rfl (dk D_X12_tries 42 rfl) (fun hc => ?_) (fun hc => ?_)
              · rw [if_neg hc] at h
                refine r_iconst (pc := 121) hX (dk D_X12_tries 64 rfl) ?_
                refine r_istore (lv' := [(6, 0, 0), (0, 2, a0), (1, 0, a1), (2, 0, a2), (3, 0, a3), (4, 0, a4), (5, 0, a5)]) (pc := 122) hX (by decide) rfl (dk D_X12_tries 65 rfl) ?_
                refine r_sub (lv' := [(0, 2, a0), (1, 0, a1), (2, 0, a2), (3, 0, a3), (4, 0, a4), (5, 0, a5), (6, 0, 0)]) [1, 2, 3, 4, 5, 6, 0] rfl ?_
                refine L_M_tries_L124 hX hM hRm (by omega) hrc FU a0 a1 a2 a3 a4 a5 0 μ q_a1 q_a2 q_a3 q_a4 q_a5 (R32_lit rfl) h
              · rw [if_pos hc] at h
                refine r_sub (lv' := [(0, 2, a0), (1, 0, a1), (2, 0, a2), (3, 0, a3), (4, 0, a4), (5, 0, a5), (6, 0, x8)]) [1, 2, 3, 4, 5, 6, 0] rfl ?_
                refine L_M_tries_J79 hX hM hRm (by omega) hrc ?_ q_a1 q_a2 q_a3 q_a4 q_a5 qx8 h
                intro x27 x28 x29 x30 x31 x32 μ33 qx28 qx29 qx30 qx31 qx32 h
                refine r_iconst (pc := 121) hX (dk D_X12_tries 64 rfl) ?_
                refine r_istore (lv' := [(6, 0, 0), (0, 2, x27), (1, 0, x28), (2, 0, x29), (3, 0, x30), (4, 0, x31), (5, 0, x32)]) (pc := 122) hX (by decide) rfl (dk D_X12_tries 65 rfl) ?_
                refine r_sub (lv' := [(0, 2, x27), (1, 0, x28), (2, 0, x29), (3, 0, x30), (4, 0, x31), (5, 0, x32), (6, 0, 0)]) [1, 2, 3, 4, 5, 6, 0] rfl ?_
                refine L_M_tries_L124 hX hM hRm (by omega) hrc FU x27 x28 x29 x30 x31 x32 0 μ33 qx28 qx29 qx30 qx31 qx32 (R32_lit rfl) h
set_option maxRecDepth 100000 in
set_option maxHeartbeats 4000000 in
theorem L_M_through_J42 {E : EX} {X : CX} {res : Int} {μe : Mem} (hX : Good E X cX12_through 5 "TollsBackModel") (hM : GoodM E X (some .int) (some (0, res)) μe 0 0) (hRm : cR X = rmOf 18 0 0) {v0 v1 v2 v3 v4 : Int} {μ : Mem} (q_v1 : R32 v1) (q_v2 : R32 v2) (q_v3 : R32 v3) (q_v4 : R32 v4) (h : M_through_J42 v0 v1 v2 v3 v4 μ = some (res, μe)) : At E X cX12_through 5 "TollsBackModel" (0, 0) 42 [(0, 2, v0), (1, 0, v1), (2, 0, v2), (3, 0, v3), (4, 0, v4)] [] μ := by
  unfold M_through_J42 at h
  refine r_iloadn (pc := 42) hX 2 rfl (dk D_X12_through 21 rfl) ?_
  refine r_i2l (pc := 43) hX q_v2 (dk D_X12_through 22 rfl) ?_
  refine r_lconst (x := 0) (pc := 44) hX (by decide) (dk D_X12_through 23 rfl) ?_
  refine r_iconst (pc := 45) hX (dk D_X12_through 24 rfl) ?_
  refine r_aloadn (pc := 46) hX 0 rfl (dk D_X12_through 25 rfl) ?_
  obtain ⟨x1, hx1, h⟩ := bd_some h
  refine r_getR (pc := 47) hX fl_12_13 rfl hx1 (dk D_X12_through 26 rfl) ?_
  refine r_iconst (pc := 50) hX (dk D_X12_through 27 rfl) ?_
  obtain ⟨x2, hx2, h⟩ := bd_some h
  refine r_iald (pc := 51) hX (R32_lit rfl) hx2 (dk D_X12_through 28 rfl) (fun qx2 => ?_)
  refine r_ishl (pc := 52) hX (dk D_X12_through 29 rfl) ?_
  refine r_iconst (pc := 53) hX (dk D_X12_through 30 rfl) ?_
  refine r_isub (pc := 54) hX (dk D_X12_through 31 rfl) ?_
  refine r_i2l (pc := 55) hX (R32_w _) (dk D_X12_through 32 rfl) ?_
  obtain ⟨x3, μ4, hx3, h⟩ := bd2_some h
  refine r_invS0 (As := [(1, v2), (1, 0), (1, (w32 ((shl32 1 x2) - 1)))]) (pc := 56) hX ml_12_178 (L_M_within (R64_of q_v2) (R64_lit rfl) (R64_of (R32_w _)) hx3) (Rm_of hRm (by decide) ⟨by decide, by decide⟩) (by decide) rfl (Nat.le_of_ble_eq_true rfl) rfl (dk D_X12_through 33 rfl) (fun qx3 => ?_)
  refine r_if_eq (pc := 59) hX qx3 74 rfl (dk D_X12_through 34 rfl) (fun hc => ?_) (fun hc => ?_)
  · rw [if_pos hc] at h
    refine r_bipush (pc := 74) hX rfl (dk D_X12_through 41 rfl) ?_
    cases h
    exact r_ireturn (pc := 76) hX (R32_lit rfl) hM ⟨by decide, by decide⟩ (dk D_X12_through 42 rfl)
  · rw [if_neg hc] at h
    refine r_iloadn (pc := 62) hX 3 rfl (dk D_X12_through 35 rfl) ?_
    refine r_i2l (pc := 63) hX q_v3 (dk D_X12_through 36 rfl) ?_
    refine r_lconst (x := 0) (pc := 64) hX (by decide) (dk D_X12_through 37 rfl) ?_
    refine r_ldc2 (pc := 65) hX cn_12_337 (dk D_X12_through 38 rfl) ?_
    obtain ⟨x5, μ6, hx5, h⟩ := bd2_some h
    refine r_invS0 (As := [(1, v3), (1, 0), (1, 8)]) (pc := 68) hX ml_12_178 (L_M_within (R64_of q_v3) (R64_lit rfl) (R64_lit rfl) hx5) (Rm_of hRm (by decide) ⟨by decide, by decide⟩) (by decide) rfl (Nat.le_of_ble_eq_true rfl) rfl (dk D_X12_through 39 rfl) (fun qx5 => ?_)
    refine r_if_ne (pc := 71) hX qx5 77 rfl (dk D_X12_through 40 rfl) (fun hc => ?_) (fun hc => ?_)
    · rw [if_neg hc] at h
      refine r_aloadn (pc := 77) hX 0 rfl (dk D_X12_through 43 rfl) ?_
      refine r_iconst (pc := 78) hX (dk D_X12_through 44 rfl) ?_
      obtain ⟨μ7, hμ7, h⟩ := bd_some h
      refine r_putI (pc := 79) hX fl_12_325 rfl rfl (R32_lit rfl) trivial hμ7 (dk D_X12_through 45 rfl) ?_
      refine r_aloadn (pc := 82) hX 0 rfl (dk D_X12_through 46 rfl) ?_
      refine r_iconst (pc := 83) hX (dk D_X12_through 47 rfl) ?_
      obtain ⟨μ8, hμ8, h⟩ := bd_some h
      refine r_putI (pc := 84) hX fl_12_319 rfl rfl (R32_lit rfl) trivial hμ8 (dk D_X12_through 48 rfl) ?_
      refine r_aloadn (pc := 87) hX 0 rfl (dk D_X12_through 49 rfl) ?_
      refine r_aloadn (pc := 88) hX 0 rfl (dk D_X12_through 50 rfl) ?_
      obtain ⟨x9, hx9, h⟩ := bd_some h
      refine r_getR (pc := 89) hX fl_12_13 rfl hx9 (dk D_X12_through 51 rfl) ?_
      refine r_sipush (pc := 92) hX rfl (dk D_X12_through 52 rfl) ?_
      refine r_iloadn (pc := 95) hX 1 rfl (dk D_X12_through 53 rfl) ?_
      refine r_iadd (pc := 96) hX (dk D_X12_through 54 rfl) ?_
      obtain ⟨x10, hx10, h⟩ := bd_some h
      refine r_iald (pc := 97) hX (R32_w _) hx10 (dk D_X12_through 55 rfl) (fun qx10 => ?_)
      obtain ⟨μ11, hμ11, h⟩ := bd_some h
      refine r_putI (pc := 98) hX fl_12_316 rfl rfl qx10 trivial hμ11 (dk D_X12_through 56 rfl) ?_
      refine r_aloadn (pc := 101) hX 0 rfl (dk D_X12_through 57 rfl) ?_
      refine r_iconst (pc := 102) hX (dk D_X12_through 58 rfl) ?_
      obtain ⟨μ12, hμ12, h⟩ := bd_some h
      refine r_putI (pc := 103) hX fl_12_30 rfl rfl (R32_lit rfl) (Or.inl rfl) hμ12 (dk D_X12_through 59 rfl) ?_
      refine r_aloadn (pc := 106) hX 0 rfl (dk D_X12_through 60 rfl) ?_
      refine r_iloadn (pc := 107) hX 1 rfl (dk D_X12_through 61 rfl) ?_
      refine r_iloadn (pc := 108) hX 2 rfl (dk D_X12_through 62 rfl) ?_
      refine r_iconst (pc := 109) hX (dk D_X12_through 63 rfl) ?_
      refine r_aloadn (pc := 110) hX 0 rfl (dk D_X12_through 64 rfl) ?_
      obtain ⟨x13, hx13, h⟩ := bd_some h
      refine r_getR (pc := 111) hX fl_12_13 rfl hx13 (dk D_X12_through 65 rfl) ?_
      refine r_sipush (pc := 114) hX rfl (dk D_X12_through 66 rfl) ?_
      refine r_iloadn (pc := 117) hX 1 rfl (dk D_X12_through 67 rfl) ?_
      refine r_iadd (pc := 118) hX (dk D_X12_through 68 rfl) ?_
      obtain ⟨x14, hx14, h⟩ := bd_some h
      refine r_iald (pc := 119) hX (R32_w _) hx14 (dk D_X12_through 69 rfl) (fun qx14 => ?_)
      refine r_ishl (pc := 120) hX (dk D_X12_through 70 rfl) ?_
      refine r_iconst (pc := 121) hX (dk D_X12_through 71 rfl) ?_
      refine r_iloadn (pc := 122) hX 3 rfl (dk D_X12_through 72 rfl) ?_
      obtain ⟨_, hi, h⟩ := bd_some h
      obtain ⟨x15, μ16, hx15, h⟩ := bd2_some h
      refine r_invV0 (As := [(0, v1), (0, v2), (0, (shl32 1 x14)), (0, 0), (0, v3)]) (pc := 123) hX ml_12_329 (L_M_tries 12 v0 v1 v2 (shl32 1 x14) 0 v3 _ _ _ q_v1 q_v2 (R32_t _) (R32_lit rfl) q_v3 hx15) (isk_u hi) (Rm_of hRm (by decide) ⟨by decide, by decide⟩) (by decide) rfl (Nat.le_of_ble_eq_true rfl) rfl (dk D_X12_through 73 rfl) (fun _ => ?_)
      refine r_aloadn (pc := 126) hX 0 rfl (dk D_X12_through 74 rfl) ?_
      refine r_iconst (pc := 127) hX (dk D_X12_through 75 rfl) ?_
      obtain ⟨μ17, hμ17, h⟩ := bd_some h
      refine r_putI (pc := 128) hX fl_12_30 rfl rfl (R32_lit rfl) (Or.inr rfl) hμ17 (dk D_X12_through 76 rfl) ?_
      refine r_aloadn (pc := 131) hX 0 rfl (dk D_X12_through 77 rfl) ?_
      obtain ⟨x18, hx18, h⟩ := bd_some h
      refine r_getI (pc := 132) hX fl_12_325 rfl rfl hx18 (dk D_X12_through 78 rfl) (fun qx18 => ?_)
      refine r_ldcw (pc := 135) hX cn_12_328 (dk D_X12_through 79 rfl) ?_
      refine r_icmp_le (pc := 138) hX qx18 (R32_lit rfl) 144 rfl (dk D_X12_through 80 rfl) (fun hc => ?_) (fun hc => ?_)
      · rw [if_neg hc] at h
        refine r_aloadn (pc := 144) hX 0 rfl (dk D_X12_through 83 rfl) ?_
        obtain ⟨x19, hx19, h⟩ := bd_some h
        refine r_getI (pc := 145) hX fl_12_319 rfl rfl hx19 (dk D_X12_through 84 rfl) (fun qx19 => ?_)
        refine r_iconst (pc := 148) hX (dk D_X12_through 85 rfl) ?_
        refine r_icmp_ne (pc := 149) hX qx19 (R32_lit rfl) 165 rfl (dk D_X12_through 86 rfl) (fun hc => ?_) (fun hc => ?_)
        · rw [if_neg hc] at h
          refine r_iload (pc := 165) hX 4 rfl (dk D_X12_through 93 rfl) ?_
          refine r_if_ne (pc := 167) hX q_v4 177 rfl (dk D_X12_through 94 rfl) (fun hc => ?_) (fun hc => ?_)
          · rw [if_neg hc] at h
            refine r_iload (pc := 177) hX 4 rfl (dk D_X12_through 98 rfl) ?_
            refine r_iconst (pc := 179) hX (dk D_X12_through 99 rfl) ?_
            refine r_icmp_ne (pc := 180) hX q_v4 (R32_lit rfl) 190 rfl (dk D_X12_through 100 rfl) (fun hc => ?_) (fun hc => ?_)
            · rw [if_neg hc] at h
              refine r_iload (pc := 190) hX 4 rfl (dk D_X12_through 104 rfl) ?_
              refine r_bipush (pc := 192) hX rfl (dk D_X12_through 105 rfl) ?_
              refine r_isub (pc := 194) hX (dk D_X12_through 106 rfl) ?_
              refine r_aloadn (pc := 195) hX 0 rfl (dk D_X12_through 107 rfl) ?_
              obtain ⟨x20, hx20, h⟩ := bd_some h
              refine r_getI (pc := 196) hX fl_12_319 rfl rfl hx20 (dk D_X12_through 108 rfl) (fun qx20 => ?_)
              refine r_icmp_ge (pc := 199) hX (R32_w _) qx20 215 rfl (dk D_X12_through 109 rfl) (fun hc => ?_) (fun hc => ?_)
              · rw [if_neg hc] at h
                refine r_iconst (pc := 215) hX (dk D_X12_through 117 rfl) ?_
                cases h
                exact r_ireturn (pc := 216) hX (R32_lit rfl) hM ⟨by decide, by decide⟩ (dk D_X12_through 118 rfl)
              · rw [if_pos hc] at h
                refine r_aloadn (pc := 202) hX 0 rfl (dk D_X12_through 110 rfl) ?_
                obtain ⟨x21, hx21, h⟩ := bd_some h
                refine r_getR (pc := 203) hX fl_12_55 rfl hx21 (dk D_X12_through 111 rfl) ?_
                refine r_iload (pc := 206) hX 4 rfl (dk D_X12_through 112 rfl) ?_
                refine r_bipush (pc := 208) hX rfl (dk D_X12_through 113 rfl) ?_
                refine r_isub (pc := 210) hX (dk D_X12_through 114 rfl) ?_
                obtain ⟨x22, hx22, h⟩ := bd_some h
                refine r_iald (pc := 211) hX (R32_w _) hx22 (dk D_X12_through 115 rfl) (fun qx22 => ?_)
                refine r_goto (pc := 212) hX 216 rfl (dk D_X12_through 116 rfl) ?_
                cases h
                exact r_ireturn (pc := 216) hX qx22 hM ⟨by decide, by decide⟩ (dk D_X12_through 118 rfl)
            · rw [if_pos hc] at h
              refine r_aloadn (pc := 183) hX 0 rfl (dk D_X12_through 101 rfl) ?_
              obtain ⟨x23, hx23, h⟩ := bd_some h
              refine r_getI (pc := 184) hX fl_12_319 rfl rfl hx23 (dk D_X12_through 102 rfl) (fun qx23 => ?_)
              refine r_goto (pc := 187) hX 216 rfl (dk D_X12_through 103 rfl) ?_
              cases h
              exact r_ireturn (pc := 216) hX qx23 hM ⟨by decide, by decide⟩ (dk D_X12_through 118 rfl)
          · rw [if_pos hc] at h
            refine r_aloadn (pc := 170) hX 0 rfl (dk D_X12_through 95 rfl) ?_
            obtain ⟨x24, hx24, h⟩ := bd_some h
            refine r_getI (pc := 171) hX fl_12_322 rfl rfl hx24 (dk D_X12_through 96 rfl) (fun qx24 => ?_)
            refine r_goto (pc := 174) hX 216 rfl (dk D_X12_through 97 rfl) ?_
            cases h
            exact r_ireturn (pc := 216) hX qx24 hM ⟨by decide, by decide⟩ (dk D_X12_through 118 rfl)
        · rw [if_pos hc] at h
          refine r_iload (pc := 152) hX 4 rfl (dk D_X12_through 87 rfl) ?_
          refine r_if_ne (pc := 154) hX q_v4 163 rfl (dk D_X12_through 88 rfl) (fun hc => ?_) (fun hc => ?_)
          · rw [if_neg hc] at h
            refine r_iconst (pc := 163) hX (dk D_X12_through 91 rfl) ?_
            cases h
            exact r_ireturn (pc := 164) hX (R32_lit rfl) hM ⟨by decide, by decide⟩ (dk D_X12_through 92 rfl)
          · rw [if_pos hc] at h
            refine r_ldcw (pc := 157) hX cn_12_311 (dk D_X12_through 89 rfl) ?_
            refine r_goto (pc := 160) hX 164 rfl (dk D_X12_through 90 rfl) ?_
            cases h
            exact r_ireturn (pc := 164) hX (R32_lit rfl) hM ⟨by decide, by decide⟩ (dk D_X12_through 92 rfl)
      · rw [if_pos hc] at h
        refine r_bipush (pc := 141) hX rfl (dk D_X12_through 81 rfl) ?_
        cases h
        exact r_ireturn (pc := 143) hX (R32_lit rfl) hM ⟨by decide, by decide⟩ (dk D_X12_through 82 rfl)
    · rw [if_pos hc] at h
      refine r_bipush (pc := 74) hX rfl (dk D_X12_through 41 rfl) ?_
      cases h
      exact r_ireturn (pc := 76) hX (R32_lit rfl) hM ⟨by decide, by decide⟩ (dk D_X12_through 42 rfl)
set_option maxRecDepth 100000 in
set_option maxHeartbeats 4000000 in
theorem L_M_through {E : EX} {l : Launch} {a0 a1 a2 a3 a4 res : Int} {μ μ' : Mem} (q_a1 : R32 a1) (q_a2 : R32 a2) (q_a3 : R32 a3) (q_a4 : R32 a4) (h : M_through a0 a1 a2 a3 a4 μ = some (res, μ')) : Ok E l 18 yX12_through (.code yX12_through cX12_through 5 (some .int)) 0 0 [(2, a0), (0, a1), (0, a2), (0, a3), (0, a4)] μ (some (0, res)) μ' := by
  refine Ok.of (own := "TollsBackModel") [(0, 2, a0), (1, 0, a1), (2, 0, a2), (3, 0, a3), (4, 0, a4)] (by decide +kernel) rfl (Nat.le_of_ble_eq_true rfl) rfl ?_
  intro X hL hRm hin hX hM
  unfold M_through at h
  subst hL
  refine r_aloadn (pc := 0) hX 0 rfl (dk D_X12_through 0 rfl) ?_
  refine r_iconst (pc := 1) hX (dk D_X12_through 1 rfl) ?_
  obtain ⟨μ1, hμ1, h⟩ := bd_some h
  refine r_putI (pc := 2) hX fl_12_1 rfl rfl (R32_lit rfl) trivial hμ1 (dk D_X12_through 2 rfl) ?_
  refine r_aloadn (pc := 5) hX 0 rfl (dk D_X12_through 3 rfl) ?_
  refine r_iloadn (pc := 6) hX 1 rfl (dk D_X12_through 4 rfl) ?_
  obtain ⟨_, hi, h⟩ := bd_some h
  obtain ⟨x2, μ3, hx2, h⟩ := bd2_some h
  refine r_invV0 (As := [(0, a1)]) (pc := 7) hX ml_12_230 (L_M_isOne q_a1 hx2) (isk_u hi) (Rm_of hRm (by decide) ⟨by decide, by decide⟩) (by decide) rfl (Nat.le_of_ble_eq_true rfl) rfl (dk D_X12_through 5 rfl) (fun qx2 => ?_)
  refine r_if_eq (pc := 10) hX qx2 39 rfl (dk D_X12_through 6 rfl) (fun hc => ?_) (fun hc => ?_)
  · rw [if_pos hc] at h
    refine r_bipush (pc := 39) hX rfl (dk D_X12_through 19 rfl) ?_
    cases h
    exact r_ireturn (pc := 41) hX (R32_lit rfl) hM ⟨by decide, by decide⟩ (dk D_X12_through 20 rfl)
  · rw [if_neg hc] at h
    refine r_iload (pc := 13) hX 4 rfl (dk D_X12_through 7 rfl) ?_
    refine r_i2l (pc := 15) hX q_a4 (dk D_X12_through 8 rfl) ?_
    refine r_lconst (x := 0) (pc := 16) hX (by decide) (dk D_X12_through 9 rfl) ?_
    refine r_lconst (x := 1) (pc := 17) hX (by decide) (dk D_X12_through 10 rfl) ?_
    obtain ⟨x4, μ5, hx4, h⟩ := bd2_some h
    refine r_invS0 (As := [(1, a4), (1, 0), (1, 1)]) (pc := 18) hX ml_12_178 (L_M_within (R64_of q_a4) (R64_lit rfl) (R64_lit rfl) hx4) (Rm_of hRm (by decide) ⟨by decide, by decide⟩) (by decide) rfl (Nat.le_of_ble_eq_true rfl) rfl (dk D_X12_through 11 rfl) (fun qx4 => ?_)
    refine r_if_ne (pc := 21) hX qx4 42 rfl (dk D_X12_through 12 rfl) (fun hc => ?_) (fun hc => ?_)
    · rw [if_neg hc] at h
      refine L_M_through_J42 hX hM hRm q_a1 q_a2 q_a3 q_a4 h
    · rw [if_pos hc] at h
      refine r_iload (pc := 24) hX 4 rfl (dk D_X12_through 13 rfl) ?_
      refine r_i2l (pc := 26) hX q_a4 (dk D_X12_through 14 rfl) ?_
      refine r_ldc2 (pc := 27) hX cn_12_333 (dk D_X12_through 15 rfl) ?_
      refine r_ldc2 (pc := 30) hX cn_12_335 (dk D_X12_through 16 rfl) ?_
      obtain ⟨x6, μ7, hx6, h⟩ := bd2_some h
      refine r_invS0 (As := [(1, a4), (1, 10), (1, 17)]) (pc := 33) hX ml_12_178 (L_M_within (R64_of q_a4) (R64_lit rfl) (R64_lit rfl) hx6) (Rm_of hRm (by decide) ⟨by decide, by decide⟩) (by decide) rfl (Nat.le_of_ble_eq_true rfl) rfl (dk D_X12_through 17 rfl) (fun qx6 => ?_)
      refine r_if_ne (pc := 36) hX qx6 42 rfl (dk D_X12_through 18 rfl) (fun hc => ?_) (fun hc => ?_)
      · rw [if_neg hc] at h
        refine L_M_through_J42 hX hM hRm q_a1 q_a2 q_a3 q_a4 h
      · rw [if_pos hc] at h
        refine r_bipush (pc := 39) hX rfl (dk D_X12_through 19 rfl) ?_
        cases h
        exact r_ireturn (pc := 41) hX (R32_lit rfl) hM ⟨by decide, by decide⟩ (dk D_X12_through 20 rfl)
set_option maxRecDepth 100000 in
set_option maxHeartbeats 4000000 in
theorem L_M_sumOf {E : EX} {l : Launch} {a0 a1 a2 a3 res : Int} {μ μ' : Mem} (q_a1 : R64 a1) (q_a2 : R64 a2) (q_a3 : R64 a3) (h : M_sumOf a0 a1 a2 a3 μ = some (res, μ')) : Ok E l 1 yX12_sumOf (.code yX12_sumOf cX12_sumOf 9 (some .long)) 0 0 [(2, a0), (1, a1), (1, a2), (1, a3)] μ (some (1, res)) μ' := by
  refine Ok.of (own := "TollsBackModel") [(0, 2, a0), (1, 1, a1), (3, 1, a2), (5, 1, a3)] (by decide +kernel) rfl (Nat.le_of_ble_eq_true rfl) rfl ?_
  intro X hL hRm hin hX hM
  unfold M_sumOf at h
  subst hL
  refine r_aloadn (pc := 0) hX 0 rfl (dk D_X12_sumOf 0 rfl) ?_
  obtain ⟨x1, hx1, h⟩ := bd_some h
  refine r_getI (pc := 1) hX fl_12_339 rfl rfl hx1 (dk D_X12_sumOf 1 rfl) (fun qx1 => ?_)
  refine r_if_ne (pc := 4) hX qx1 18 rfl (dk D_X12_sumOf 2 rfl) (fun hc => ?_) (fun hc => ?_)
  · rw [if_neg hc] at h
    refine r_lloadn (pc := 18) hX 2 rfl (dk D_X12_sumOf 11 rfl) ?_
    refine r_lconst (x := 0) (pc := 19) hX (by decide) (dk D_X12_sumOf 12 rfl) ?_
    refine r_lcmp (pc := 20) hX q_a2 (R64_lit rfl) (dk D_X12_sumOf 13 rfl) ?_
    obtain ⟨y2, hb, h⟩ := bd_some h
    have hj : R64 y2 → At E X cX12_sumOf 9 "TollsBackModel" (0, 0) 45 [(1, 1, a1)] [(1, y2)] μ := by
      intro qy2
      clear hb
      refine r_lstore (lv' := [(7, 1, y2), (1, 1, a1)]) (pc := 45) hX (by decide) rfl (dk D_X12_sumOf 26 rfl) ?_
      refine r_lloadn (pc := 47) hX 1 rfl (dk D_X12_sumOf 27 rfl) ?_
      refine r_lload (pc := 48) hX 0 rfl (dk D_X12_sumOf 28 rfl) ?_
      refine r_ladd (pc := 50) hX (dk D_X12_sumOf 29 rfl) ?_
      refine r_ldc2 (pc := 51) hX cn_12_344 (dk D_X12_sumOf 30 rfl) ?_
      refine r_lcmp (pc := 54) hX (R64_w _) (R64_lit rfl) (dk D_X12_sumOf 31 rfl) ?_
      refine r_if_le (pc := 55) hX (R32_cmp _ _) 64 rfl (dk D_X12_sumOf 32 rfl) (fun hc => ?_) (fun hc => ?_)
      · rw [if_neg hc] at h
        refine r_lloadn (pc := 64) hX 1 rfl (dk D_X12_sumOf 35 rfl) ?_
        refine r_lload (pc := 65) hX 0 rfl (dk D_X12_sumOf 36 rfl) ?_
        refine r_ladd (pc := 67) hX (dk D_X12_sumOf 37 rfl) ?_
        cases h
        exact r_lreturn (pc := 68) hX (R64_w _) hM ⟨by decide, by decide⟩ (dk D_X12_sumOf 38 rfl)
      · rw [if_pos hc] at h
        refine r_ldc2 (pc := 58) hX cn_12_344 (dk D_X12_sumOf 33 rfl) ?_
        refine r_goto (pc := 61) hX 68 rfl (dk D_X12_sumOf 34 rfl) ?_
        cases h
        exact r_lreturn (pc := 68) hX (R64_lit rfl) hM ⟨by decide, by decide⟩ (dk D_X12_sumOf 38 rfl)
    clear h
    have h := hb
    clear hb
    refine r_if_le (pc := 21) hX (R32_cmp _ _) 41 rfl (dk D_X12_sumOf 14 rfl) (fun hc => ?_) (fun hc => ?_)
    · rw [if_neg hc] at h
      refine r_lloadn (pc := 41) hX 2 rfl (dk D_X12_sumOf 23 rfl) ?_
      refine r_lload (pc := 42) hX 3 rfl (dk D_X12_sumOf 24 rfl) ?_
      refine r_lmul (pc := 44) hX (dk D_X12_sumOf 25 rfl) ?_
      replace h := Option.some.inj h
      subst y2
      refine r_sub (lv' := [(1, 1, a1)]) [1] rfl ?_
      exact hj (R64_w _)
    · rw [if_pos hc] at h
      refine r_lload (pc := 24) hX 3 rfl (dk D_X12_sumOf 15 rfl) ?_
      refine r_ldc2 (pc := 26) hX cn_12_344 (dk D_X12_sumOf 16 rfl) ?_
      refine r_lloadn (pc := 29) hX 2 rfl (dk D_X12_sumOf 17 rfl) ?_
      obtain ⟨x3, hx3, h⟩ := bd_some h
      refine r_ldiv (pc := 30) hX q_a2 hx3 (dk D_X12_sumOf 18 rfl) (fun qx3 => ?_)
      refine r_lcmp (pc := 31) hX q_a3 qx3 (dk D_X12_sumOf 19 rfl) ?_
      refine r_if_le (pc := 32) hX (R32_cmp _ _) 41 rfl (dk D_X12_sumOf 20 rfl) (fun hc => ?_) (fun hc => ?_)
      · rw [if_neg hc] at h
        refine r_lloadn (pc := 41) hX 2 rfl (dk D_X12_sumOf 23 rfl) ?_
        refine r_lload (pc := 42) hX 3 rfl (dk D_X12_sumOf 24 rfl) ?_
        refine r_lmul (pc := 44) hX (dk D_X12_sumOf 25 rfl) ?_
        replace h := Option.some.inj h
        subst y2
        refine r_sub (lv' := [(1, 1, a1)]) [1] rfl ?_
        exact hj (R64_w _)
      · rw [if_pos hc] at h
        refine r_ldc2 (pc := 35) hX cn_12_344 (dk D_X12_sumOf 21 rfl) ?_
        refine r_goto (pc := 38) hX 45 rfl (dk D_X12_sumOf 22 rfl) ?_
        replace h := Option.some.inj h
        subst y2
        refine r_sub (lv' := [(1, 1, a1)]) [1] rfl ?_
        exact hj (R64_lit rfl)
  · rw [if_pos hc] at h
    refine r_lloadn (pc := 7) hX 1 rfl (dk D_X12_sumOf 3 rfl) ?_
    refine r_lloadn (pc := 8) hX 2 rfl (dk D_X12_sumOf 4 rfl) ?_
    refine r_lload (pc := 9) hX 3 rfl (dk D_X12_sumOf 5 rfl) ?_
    refine r_lmul (pc := 11) hX (dk D_X12_sumOf 6 rfl) ?_
    refine r_ladd (pc := 12) hX (dk D_X12_sumOf 7 rfl) ?_
    refine r_ldc2 (pc := 13) hX cn_12_342 (dk D_X12_sumOf 8 rfl) ?_
    obtain ⟨x4, hx4, h⟩ := bd_some h
    refine r_lrem (pc := 16) hX (R64_lit rfl) hx4 (dk D_X12_sumOf 9 rfl) (fun qx4 => ?_)
    cases h
    exact r_lreturn (pc := 17) hX qx4 hM ⟨by decide, by decide⟩ (dk D_X12_sumOf 10 rfl)
set_option maxRecDepth 100000 in
set_option maxHeartbeats 4000000 in
theorem L_M_isSlips_L2 {E : EX} {X : CX} {res : Int} {μe : Mem} (hX : Good E X cX12_isSlips 3 "TollsBackModel") (hM : GoodM E X (some .boolean) (some (0, res)) μe 0 0) (hRm : cR X = rmOf 2 0 0) : ∀ (n : Nat) (v0 v1 v2 : Int) (μ : Mem) (q_v1 : R32 v1) (q_v2 : R32 v2) (h : M_isSlips_L2 n v0 v1 v2 μ = some (res, μe)), At E X cX12_isSlips 3 "TollsBackModel" (0, 0) 2 [(0, 2, v0), (1, 0, v1), (2, 0, v2)] [] μ := by
  intro n
  induction n with
  | zero =>
    intro v0 v1 v2 μ q_v1 q_v2 h
    have h : (none : Option (Int × Mem)) = some (res, μe) := h
    cases h
  | succ n ih =>
    intro v0 v1 v2 μ q_v1 q_v2 h
    rw [M_isSlips_L2.eq_2] at h
    refine r_iloadn (pc := 2) hX 2 rfl (dk D_X12_isSlips 2 rfl) ?_
    refine r_aloadn (pc := 3) hX 0 rfl (dk D_X12_isSlips 3 rfl) ?_
    obtain ⟨x1, hx1, h⟩ := bd_some h
    refine r_getR (pc := 4) hX fl_12_105 rfl hx1 (dk D_X12_isSlips 4 rfl) ?_
    refine r_iloadn (pc := 7) hX 1 rfl (dk D_X12_isSlips 5 rfl) ?_
    obtain ⟨x2, hx2, h⟩ := bd_some h
    refine r_iald (pc := 8) hX q_v1 hx2 (dk D_X12_isSlips 6 rfl) (fun qx2 => ?_)
    refine r_icmp_ge (pc := 9) hX q_v2 qx2 50 rfl (dk D_X12_isSlips 7 rfl) (fun hc => ?_) (fun hc => ?_)
    · rw [if_neg hc] at h
      refine r_iconst (pc := 50) hX (dk D_X12_isSlips 32 rfl) ?_
      cases h
      exact r_zreturn (pc := 51) hX (R32_lit rfl) hM (Or.inr rfl) ⟨by decide, by decide⟩ (dk D_X12_isSlips 33 rfl)
    · rw [if_pos hc] at h
      refine r_aloadn (pc := 12) hX 0 rfl (dk D_X12_isSlips 8 rfl) ?_
      obtain ⟨x3, hx3, h⟩ := bd_some h
      refine r_getR (pc := 13) hX fl_12_108 rfl hx3 (dk D_X12_isSlips 9 rfl) ?_
      refine r_bipush (pc := 16) hX rfl (dk D_X12_isSlips 10 rfl) ?_
      refine r_iloadn (pc := 18) hX 1 rfl (dk D_X12_isSlips 11 rfl) ?_
      refine r_imul (pc := 19) hX (dk D_X12_isSlips 12 rfl) ?_
      refine r_iloadn (pc := 20) hX 2 rfl (dk D_X12_isSlips 13 rfl) ?_
      refine r_iadd (pc := 21) hX (dk D_X12_isSlips 14 rfl) ?_
      obtain ⟨x4, hx4, h⟩ := bd_some h
      refine r_lald (pc := 22) hX (R32_w _) hx4 (dk D_X12_isSlips 15 rfl) (fun qx4 => ?_)
      refine r_lconst (x := 0) (pc := 23) hX (by decide) (dk D_X12_isSlips 16 rfl) ?_
      refine r_iconst (pc := 24) hX (dk D_X12_isSlips 17 rfl) ?_
      refine r_aloadn (pc := 25) hX 0 rfl (dk D_X12_isSlips 18 rfl) ?_
      obtain ⟨x5, hx5, h⟩ := bd_some h
      refine r_getR (pc := 26) hX fl_12_13 rfl hx5 (dk D_X12_isSlips 19 rfl) ?_
      refine r_bipush (pc := 29) hX rfl (dk D_X12_isSlips 20 rfl) ?_
      obtain ⟨x6, hx6, h⟩ := bd_some h
      refine r_iald (pc := 31) hX (R32_lit rfl) hx6 (dk D_X12_isSlips 21 rfl) (fun qx6 => ?_)
      refine r_imul (pc := 32) hX (dk D_X12_isSlips 22 rfl) ?_
      refine r_iconst (pc := 33) hX (dk D_X12_isSlips 23 rfl) ?_
      refine r_isub (pc := 34) hX (dk D_X12_isSlips 24 rfl) ?_
      refine r_i2l (pc := 35) hX (R32_w _) (dk D_X12_isSlips 25 rfl) ?_
      obtain ⟨x7, μ8, hx7, h⟩ := bd2_some h
      refine r_invS0 (As := [(1, x4), (1, 0), (1, (w32 ((w32 (2 * x6)) - 1)))]) (pc := 36) hX ml_12_178 (L_M_within qx4 (R64_lit rfl) (R64_of (R32_w _)) hx7) (Rm_of hRm (by decide) ⟨by decide, by decide⟩) (by decide) rfl (Nat.le_of_ble_eq_true rfl) rfl (dk D_X12_isSlips 26 rfl) (fun qx7 => ?_)
      refine r_if_ne (pc := 39) hX qx7 44 rfl (dk D_X12_isSlips 27 rfl) (fun hc => ?_) (fun hc => ?_)
      · rw [if_neg hc] at h
        refine r_iinc (lv' := [(2, 0, (w32 (v2 + 1))), (0, 2, v0), (1, 0, v1)]) (pc := 44) hX 2 rfl (by decide) rfl (dk D_X12_isSlips 30 rfl) ?_
        refine r_goto (pc := 47) hX 2 rfl (dk D_X12_isSlips 31 rfl) ?_
        refine r_sub (lv' := [(0, 2, v0), (1, 0, v1), (2, 0, (w32 (v2 + 1)))]) [1, 2, 0] rfl ?_
        exact ih v0 v1 (w32 (v2 + 1)) μ8 q_v1 (R32_w _) h
      · rw [if_pos hc] at h
        refine r_iconst (pc := 42) hX (dk D_X12_isSlips 28 rfl) ?_
        cases h
        exact r_zreturn (pc := 43) hX (R32_lit rfl) hM (Or.inl rfl) ⟨by decide, by decide⟩ (dk D_X12_isSlips 29 rfl)
set_option maxRecDepth 100000 in
set_option maxHeartbeats 4000000 in
theorem L_M_isSlips {E : EX} {l : Launch} {a0 a1 res : Int} {μ μ' : Mem} (q_a1 : R32 a1) (h : M_isSlips a0 a1 μ = some (res, μ')) : Ok E l 2 yX12_isSlips (.code yX12_isSlips cX12_isSlips 3 (some .boolean)) 0 0 [(2, a0), (0, a1)] μ (some (0, res)) μ' := by
  refine Ok.of (own := "TollsBackModel") [(0, 2, a0), (1, 0, a1)] (by decide +kernel) rfl (Nat.le_of_ble_eq_true rfl) rfl ?_
  intro X hL hRm hin hX hM
  unfold M_isSlips at h
  subst hL
  refine r_iconst (pc := 0) hX (dk D_X12_isSlips 0 rfl) ?_
  refine r_istoren (lv' := [(2, 0, 0), (0, 2, a0), (1, 0, a1)]) (pc := 1) hX (by decide) rfl (dk D_X12_isSlips 1 rfl) ?_
  refine r_sub (lv' := [(0, 2, a0), (1, 0, a1), (2, 0, 0)]) [1, 2, 0] rfl ?_
  refine L_M_isSlips_L2 hX hM hRm FU a0 a1 0 μ q_a1 (R32_lit rfl) h
set_option maxRecDepth 100000 in
set_option maxHeartbeats 4000000 in
theorem L_M_firstForged_J64 {E : EX} {X : CX} {res : Int} {μe : Mem} (hX : Good E X cX12_firstForged 6 "TollsBackModel") (hM : GoodM E X (some .int) (some (0, res)) μe 0 0) (hRm : cR X = rmOf 2 0 0) {k12 : Int → Int → Int → Int → Int → Mem → Option (Int × Mem)} (hk12 : ∀ (u0 u1 u2 u3 u4 : Int) (μ : Mem), R32 u1 → R32 u2 → R32 u3 → R32 u4 → k12 u0 u1 u2 u3 u4 μ = some (res, μe) → At E X cX12_firstForged 6 "TollsBackModel" (0, 0) 12 [(0, 2, u0), (1, 0, u1), (2, 0, u2), (3, 0, u3), (4, 0, u4)] [] μ) {v0 v1 v4 v5 : Int} {μ : Mem} (q_v1 : R32 v1) (q_v4 : R32 v4) (q_v5 : R32 v5) (h : M_firstForged_J64 k12 v0 v1 v4 v5 μ = some (res, μe)) : At E X cX12_firstForged 6 "TollsBackModel" (0, 0) 64 [(0, 2, v0), (1, 0, v1), (4, 0, v4), (5, 0, v5)] [] μ := by
  unfold M_firstForged_J64 at h
  refine r_aloadn (pc := 64) hX 0 rfl (dk D_X12_firstForged 40 rfl) ?_
  refine r_iload (pc := 65) hX 3 rfl (dk D_X12_firstForged 41 rfl) ?_
  obtain ⟨_, hi, h⟩ := bd_some h
  obtain ⟨x1, μ2, hx1, h⟩ := bd2_some h
  refine r_invV0 (As := [(0, v5)]) (pc := 67) hX ml_12_243 (L_M_headOf q_v5 hx1) (isk_u hi) (Rm_of hRm (by decide) ⟨by decide, by decide⟩) (by decide) rfl (Nat.le_of_ble_eq_true rfl) rfl (dk D_X12_firstForged 42 rfl) (fun qx1 => ?_)
  refine r_istoren (lv' := [(2, 0, x1), (0, 2, v0), (1, 0, v1), (4, 0, v4), (5, 0, v5)]) (pc := 70) hX (by decide) rfl (dk D_X12_firstForged 43 rfl) ?_
  refine r_iload (pc := 71) hX 4 rfl (dk D_X12_firstForged 44 rfl) ?_
  refine r_istoren (lv' := [(3, 0, v5), (2, 0, x1), (0, 2, v0), (1, 0, v1), (4, 0, v4), (5, 0, v5)]) (pc := 73) hX (by decide) rfl (dk D_X12_firstForged 45 rfl) ?_
  refine r_iinc (lv' := [(4, 0, (w32 (v4 + 1))), (3, 0, v5), (2, 0, x1), (0, 2, v0), (1, 0, v1), (5, 0, v5)]) (pc := 74) hX 4 rfl (by decide) rfl (dk D_X12_firstForged 46 rfl) ?_
  refine r_goto (pc := 77) hX 12 rfl (dk D_X12_firstForged 47 rfl) ?_
  refine r_sub (lv' := [(0, 2, v0), (1, 0, v1), (2, 0, x1), (3, 0, v5), (4, 0, (w32 (v4 + 1)))]) [3, 4, 2, 1, 0] rfl ?_
  exact hk12 v0 v1 x1 v5 (w32 (v4 + 1)) μ2 q_v1 qx1 q_v5 (R32_w _) h
set_option maxRecDepth 100000 in
set_option maxHeartbeats 4000000 in
theorem L_M_firstForged_L12 {E : EX} {X : CX} {res : Int} {μe : Mem} (hX : Good E X cX12_firstForged 6 "TollsBackModel") (hM : GoodM E X (some .int) (some (0, res)) μe 0 0) (hRm : cR X = rmOf 2 0 0) : ∀ (n : Nat) (v0 v1 v2 v3 v4 : Int) (μ : Mem) (q_v1 : R32 v1) (q_v2 : R32 v2) (q_v3 : R32 v3) (q_v4 : R32 v4) (h : M_firstForged_L12 n v0 v1 v2 v3 v4 μ = some (res, μe)), At E X cX12_firstForged 6 "TollsBackModel" (0, 0) 12 [(0, 2, v0), (1, 0, v1), (2, 0, v2), (3, 0, v3), (4, 0, v4)] [] μ := by
  intro n
  induction n with
  | zero =>
    intro v0 v1 v2 v3 v4 μ q_v1 q_v2 q_v3 q_v4 h
    have h : (none : Option (Int × Mem)) = some (res, μe) := h
    cases h
  | succ n ih =>
    intro v0 v1 v2 v3 v4 μ q_v1 q_v2 q_v3 q_v4 h
    rw [M_firstForged_L12.eq_2] at h
    refine r_iload (pc := 12) hX 4 rfl (dk D_X12_firstForged 9 rfl) ?_
    refine r_aloadn (pc := 14) hX 0 rfl (dk D_X12_firstForged 10 rfl) ?_
    obtain ⟨x1, hx1, h⟩ := bd_some h
    refine r_getR (pc := 15) hX fl_12_105 rfl hx1 (dk D_X12_firstForged 11 rfl) ?_
    refine r_iloadn (pc := 18) hX 1 rfl (dk D_X12_firstForged 12 rfl) ?_
    obtain ⟨x2, hx2, h⟩ := bd_some h
    refine r_iald (pc := 19) hX q_v1 hx2 (dk D_X12_firstForged 13 rfl) (fun qx2 => ?_)
    refine r_icmp_ge (pc := 20) hX q_v4 qx2 80 rfl (dk D_X12_firstForged 14 rfl) (fun hc => ?_) (fun hc => ?_)
    · rw [if_neg hc] at h
      refine r_iconst (pc := 80) hX (dk D_X12_firstForged 48 rfl) ?_
      cases h
      exact r_ireturn (pc := 81) hX (R32_lit rfl) hM ⟨by decide, by decide⟩ (dk D_X12_firstForged 49 rfl)
    · rw [if_pos hc] at h
      refine r_aloadn (pc := 23) hX 0 rfl (dk D_X12_firstForged 15 rfl) ?_
      obtain ⟨x3, hx3, h⟩ := bd_some h
      refine r_getR (pc := 24) hX fl_12_108 rfl hx3 (dk D_X12_firstForged 16 rfl) ?_
      refine r_bipush (pc := 27) hX rfl (dk D_X12_firstForged 17 rfl) ?_
      refine r_iloadn (pc := 29) hX 1 rfl (dk D_X12_firstForged 18 rfl) ?_
      refine r_imul (pc := 30) hX (dk D_X12_firstForged 19 rfl) ?_
      refine r_iload (pc := 31) hX 4 rfl (dk D_X12_firstForged 20 rfl) ?_
      refine r_iadd (pc := 33) hX (dk D_X12_firstForged 21 rfl) ?_
      obtain ⟨x4, hx4, h⟩ := bd_some h
      refine r_lald (pc := 34) hX (R32_w _) hx4 (dk D_X12_firstForged 22 rfl) (fun qx4 => ?_)
      refine r_l2i (pc := 35) hX qx4 (dk D_X12_firstForged 23 rfl) ?_
      obtain ⟨x5, ex5, h⟩ := bd_some h
      replace ex5 := Option.some.inj ex5
      have qx5 : R32 x5 := ex5 ▸ (R32_w _)
      rw [ex5]
      refine r_istore (lv' := [(5, 0, x5), (0, 2, v0), (1, 0, v1), (2, 0, v2), (3, 0, v3), (4, 0, v4)]) (pc := 36) hX (by decide) rfl (dk D_X12_firstForged 24 rfl) ?_
      refine r_aloadn (pc := 38) hX 1 rfl (dk D_X12_firstForged 25 rfl) ?_
      refine r_iload (pc := 39) hX 0 rfl (dk D_X12_firstForged 26 rfl) ?_
      obtain ⟨_, hi, h⟩ := bd_some h
      obtain ⟨x6, μ7, hx6, h⟩ := bd2_some h
      refine r_invV0 (As := [(0, x5)]) (pc := 41) hX ml_12_240 (L_M_tailOf qx5 hx6) (isk_u hi) (Rm_of hRm (by decide) ⟨by decide, by decide⟩) (by decide) rfl (Nat.le_of_ble_eq_true rfl) rfl (dk D_X12_firstForged 27 rfl) (fun qx6 => ?_)
      refine r_iloadn (pc := 44) hX 3 rfl (dk D_X12_firstForged 28 rfl) ?_
      refine r_icmp_ne (pc := 45) hX qx6 q_v2 61 rfl (dk D_X12_firstForged 29 rfl) (fun hc => ?_) (fun hc => ?_)
      · rw [if_neg hc] at h
        refine r_iload (pc := 61) hX 5 rfl (dk D_X12_firstForged 38 rfl) ?_
        cases h
        exact r_ireturn (pc := 63) hX q_v4 hM ⟨by decide, by decide⟩ (dk D_X12_firstForged 39 rfl)
      · rw [if_pos hc] at h
        refine r_iloadn (pc := 48) hX 4 rfl (dk D_X12_firstForged 30 rfl) ?_
        refine r_iconst (pc := 49) hX (dk D_X12_firstForged 31 rfl) ?_
        refine r_icmp_eq (pc := 50) hX q_v3 (R32_lit rfl) 64 rfl (dk D_X12_firstForged 32 rfl) (fun hc => ?_) (fun hc => ?_)
        · rw [if_pos hc] at h
          refine r_sub (lv' := [(0, 2, v0), (1, 0, v1), (4, 0, v4), (5, 0, x5)]) [1, 2, 5, 0] rfl ?_
          refine L_M_firstForged_J64 hX hM hRm (fun u0 u1 u2 u3 u4 μ qu1 qu2 qu3 qu4 h => ih u0 u1 u2 u3 u4 μ qu1 qu2 qu3 qu4 h) q_v1 q_v4 qx5 h
        · rw [if_neg hc] at h
          refine r_iload (pc := 53) hX 0 rfl (dk D_X12_firstForged 33 rfl) ?_
          refine r_iloadn (pc := 55) hX 4 rfl (dk D_X12_firstForged 34 rfl) ?_
          refine r_iconst (pc := 56) hX (dk D_X12_firstForged 35 rfl) ?_
          refine r_ixor (pc := 57) hX (dk D_X12_firstForged 36 rfl) ?_
          refine r_icmp_ne (pc := 58) hX qx5 (R32_t _) 64 rfl (dk D_X12_firstForged 37 rfl) (fun hc => ?_) (fun hc => ?_)
          · rw [if_neg hc] at h
            refine r_sub (lv' := [(0, 2, v0), (1, 0, v1), (4, 0, v4), (5, 0, x5)]) [1, 2, 5, 0] rfl ?_
            refine L_M_firstForged_J64 hX hM hRm (fun u0 u1 u2 u3 u4 μ qu1 qu2 qu3 qu4 h => ih u0 u1 u2 u3 u4 μ qu1 qu2 qu3 qu4 h) q_v1 q_v4 qx5 h
          · rw [if_pos hc] at h
            refine r_iload (pc := 61) hX 5 rfl (dk D_X12_firstForged 38 rfl) ?_
            cases h
            exact r_ireturn (pc := 63) hX q_v4 hM ⟨by decide, by decide⟩ (dk D_X12_firstForged 39 rfl)
set_option maxRecDepth 100000 in
set_option maxHeartbeats 4000000 in
theorem L_M_firstForged {E : EX} {l : Launch} {a0 a1 res : Int} {μ μ' : Mem} (q_a1 : R32 a1) (h : M_firstForged a0 a1 μ = some (res, μ')) : Ok E l 2 yX12_firstForged (.code yX12_firstForged cX12_firstForged 6 (some .int)) 0 0 [(2, a0), (0, a1)] μ (some (0, res)) μ' := by
  refine Ok.of (own := "TollsBackModel") [(0, 2, a0), (1, 0, a1)] (by decide +kernel) rfl (Nat.le_of_ble_eq_true rfl) rfl ?_
  intro X hL hRm hin hX hM
  unfold M_firstForged at h
  subst hL
  refine r_aloadn (pc := 0) hX 0 rfl (dk D_X12_firstForged 0 rfl) ?_
  obtain ⟨x1, hx1, h⟩ := bd_some h
  refine r_getR (pc := 1) hX fl_12_13 rfl hx1 (dk D_X12_firstForged 1 rfl) ?_
  refine r_iconst (pc := 4) hX (dk D_X12_firstForged 2 rfl) ?_
  obtain ⟨x2, hx2, h⟩ := bd_some h
  refine r_iald (pc := 5) hX (R32_lit rfl) hx2 (dk D_X12_firstForged 3 rfl) (fun qx2 => ?_)
  refine r_istoren (lv' := [(2, 0, x2), (0, 2, a0), (1, 0, a1)]) (pc := 6) hX (by decide) rfl (dk D_X12_firstForged 4 rfl) ?_
  refine r_iconst (pc := 7) hX (dk D_X12_firstForged 5 rfl) ?_
  refine r_istoren (lv' := [(3, 0, (-1)), (2, 0, x2), (0, 2, a0), (1, 0, a1)]) (pc := 8) hX (by decide) rfl (dk D_X12_firstForged 6 rfl) ?_
  refine r_iconst (pc := 9) hX (dk D_X12_firstForged 7 rfl) ?_
  refine r_istore (lv' := [(4, 0, 0), (3, 0, (-1)), (2, 0, x2), (0, 2, a0), (1, 0, a1)]) (pc := 10) hX (by decide) rfl (dk D_X12_firstForged 8 rfl) ?_
  refine r_sub (lv' := [(0, 2, a0), (1, 0, a1), (2, 0, x2), (3, 0, (-1)), (4, 0, 0)]) [3, 4, 2, 1, 0] rfl ?_
  refine L_M_firstForged_L12 hX hM hRm FU a0 a1 x2 (-1) 0 μ q_a1 qx2 (R32_lit rfl) (R32_lit rfl) h
set_option maxRecDepth 100000 in
set_option maxHeartbeats 4000000 in
theorem L_M_outAndBack_L53 {E : EX} {X : CX} {res : Int} {μe : Mem} (hX : Good E X cX12_outAndBack 10 "TollsBackModel") (hM : GoodM E X (some .long) (some (1, res)) μe 0 0) (hRm : cR X = rmOf 2 0 0) {k101 : Int → Int → Int → Int → Int → Int → Int → Int → Mem → Option (Int × Mem)} (hk101 : ∀ (u0 u1 u2 u3 u4 u5 u6 u7 : Int) (μ : Mem), R32 u1 → R32 u2 → R32 u4 → R32 u5 → R64 u6 → R32 u7 → k101 u0 u1 u2 u3 u4 u5 u6 u7 μ = some (res, μe) → At E X cX12_outAndBack 10 "TollsBackModel" (0, 0) 101 [(0, 2, u0), (1, 0, u1), (2, 0, u2), (3, 2, u3), (4, 0, u4), (5, 0, u5), (6, 1, u6), (8, 0, u7)] [] μ) : ∀ (n : Nat) (v0 v1 v2 v3 v4 v5 v6 v8 v9 : Int) (μ : Mem) (q_v1 : R32 v1) (q_v2 : R32 v2) (q_v4 : R32 v4) (q_v5 : R32 v5) (q_v6 : R64 v6) (q_v8 : R32 v8) (q_v9 : R32 v9) (h : M_outAndBack_L53 k101 n v0 v1 v2 v3 v4 v5 v6 v8 v9 μ = some (res, μe)), At E X cX12_outAndBack 10 "TollsBackModel" (0, 0) 53 [(0, 2, v0), (1, 0, v1), (2, 0, v2), (3, 2, v3), (4, 0, v4), (5, 0, v5), (6, 1, v6), (8, 0, v8), (9, 0, v9)] [] μ := by
  intro n
  induction n with
  | zero =>
    intro v0 v1 v2 v3 v4 v5 v6 v8 v9 μ q_v1 q_v2 q_v4 q_v5 q_v6 q_v8 q_v9 h
    have h : (none : Option (Int × Mem)) = some (res, μe) := h
    cases h
  | succ n ih =>
    intro v0 v1 v2 v3 v4 v5 v6 v8 v9 μ q_v1 q_v2 q_v4 q_v5 q_v6 q_v8 q_v9 h
    rw [M_outAndBack_L53.eq_2] at h
    refine r_iload (pc := 53) hX 8 rfl (dk D_X12_outAndBack 29 rfl) ?_
    refine r_iconst (pc := 55) hX (dk D_X12_outAndBack 30 rfl) ?_
    refine r_iadd (pc := 56) hX (dk D_X12_outAndBack 31 rfl) ?_
    refine r_iload (pc := 57) hX 5 rfl (dk D_X12_outAndBack 32 rfl) ?_
    refine r_icmp_gt (pc := 59) hX (R32_w _) q_v5 101 rfl (dk D_X12_outAndBack 33 rfl) (fun hc => ?_) (fun hc => ?_)
    · rw [if_pos hc] at h
      refine r_sub (lv' := [(0, 2, v0), (1, 0, v1), (2, 0, v2), (3, 2, v3), (4, 0, v4), (5, 0, v5), (6, 1, v6), (8, 0, v8)]) [0, 1, 2, 3, 4, 5, 6, 7] rfl ?_
      exact hk101 v0 v1 v2 v3 v4 v5 v6 v8 μ q_v1 q_v2 q_v4 q_v5 q_v6 q_v8 h
    · rw [if_neg hc] at h
      refine r_aloadn (pc := 62) hX 0 rfl (dk D_X12_outAndBack 34 rfl) ?_
      refine r_lload (pc := 63) hX 6 rfl (dk D_X12_outAndBack 35 rfl) ?_
      refine r_aloadn (pc := 65) hX 0 rfl (dk D_X12_outAndBack 36 rfl) ?_
      obtain ⟨x1, hx1, h⟩ := bd_some h
      refine r_getR (pc := 66) hX fl_12_61 rfl hx1 (dk D_X12_outAndBack 37 rfl) ?_
      refine r_bipush (pc := 69) hX rfl (dk D_X12_outAndBack 38 rfl) ?_
      refine r_iload (pc := 71) hX 7 rfl (dk D_X12_outAndBack 39 rfl) ?_
      refine r_imul (pc := 73) hX (dk D_X12_outAndBack 40 rfl) ?_
      refine r_iload (pc := 74) hX 8 rfl (dk D_X12_outAndBack 41 rfl) ?_
      refine r_iadd (pc := 76) hX (dk D_X12_outAndBack 42 rfl) ?_
      obtain ⟨x2, hx2, h⟩ := bd_some h
      refine r_lald (pc := 77) hX (R32_w _) hx2 (dk D_X12_outAndBack 43 rfl) (fun qx2 => ?_)
      refine r_aloadn (pc := 78) hX 3 rfl (dk D_X12_outAndBack 44 rfl) ?_
      refine r_iload (pc := 79) hX 4 rfl (dk D_X12_outAndBack 45 rfl) ?_
      refine r_iload (pc := 81) hX 5 rfl (dk D_X12_outAndBack 46 rfl) ?_
      refine r_iadd (pc := 83) hX (dk D_X12_outAndBack 47 rfl) ?_
      refine r_iconst (pc := 84) hX (dk D_X12_outAndBack 48 rfl) ?_
      refine r_isub (pc := 85) hX (dk D_X12_outAndBack 49 rfl) ?_
      refine r_iload (pc := 86) hX 8 rfl (dk D_X12_outAndBack 50 rfl) ?_
      refine r_isub (pc := 88) hX (dk D_X12_outAndBack 51 rfl) ?_
      obtain ⟨x3, hx3, h⟩ := bd_some h
      refine r_lald (pc := 89) hX (R32_w _) hx3 (dk D_X12_outAndBack 52 rfl) (fun qx3 => ?_)
      obtain ⟨_, hi, h⟩ := bd_some h
      obtain ⟨x4, μ5, hx4, h⟩ := bd2_some h
      refine r_invV0 (As := [(1, v6), (1, x2), (1, x3)]) (pc := 90) hX ml_12_346 (L_M_sumOf q_v6 qx2 qx3 hx4) (isk_u hi) (Rm_of hRm (by decide) ⟨by decide, by decide⟩) (by decide) rfl (Nat.le_of_ble_eq_true rfl) rfl (dk D_X12_outAndBack 53 rfl) (fun qx4 => ?_)
      refine r_lstore (lv' := [(6, 1, x4), (0, 2, v0), (1, 0, v1), (2, 0, v2), (3, 2, v3), (4, 0, v4), (5, 0, v5), (8, 0, v8), (9, 0, v9)]) (pc := 93) hX (by decide) rfl (dk D_X12_outAndBack 54 rfl) ?_
      refine r_iinc (lv' := [(9, 0, (w32 (v9 + 1))), (6, 1, x4), (0, 2, v0), (1, 0, v1), (2, 0, v2), (3, 2, v3), (4, 0, v4), (5, 0, v5), (8, 0, v8)]) (pc := 95) hX 8 rfl (by decide) rfl (dk D_X12_outAndBack 55 rfl) ?_
      refine r_goto (pc := 98) hX 53 rfl (dk D_X12_outAndBack 56 rfl) ?_
      refine r_sub (lv' := [(0, 2, v0), (1, 0, v1), (2, 0, v2), (3, 2, v3), (4, 0, v4), (5, 0, v5), (6, 1, x4), (8, 0, v8), (9, 0, (w32 (v9 + 1)))]) [2, 3, 4, 5, 6, 7, 1, 8, 0] rfl ?_
      exact ih v0 v1 v2 v3 v4 v5 x4 v8 (w32 (v9 + 1)) μ5 q_v1 q_v2 q_v4 q_v5 qx4 q_v8 (R32_w _) h
set_option maxRecDepth 100000 in
set_option maxHeartbeats 4000000 in
theorem L_M_outAndBack_L6 {E : EX} {X : CX} {res : Int} {μe : Mem} (hX : Good E X cX12_outAndBack 10 "TollsBackModel") (hM : GoodM E X (some .long) (some (1, res)) μe 0 0) (hRm : cR X = rmOf 2 0 0) : ∀ (n : Nat) (v0 v1 v2 v3 v4 v5 v6 v8 : Int) (μ : Mem) (q_v1 : R32 v1) (q_v2 : R32 v2) (q_v4 : R32 v4) (q_v5 : R32 v5) (q_v6 : R64 v6) (q_v8 : R32 v8) (h : M_outAndBack_L6 n v0 v1 v2 v3 v4 v5 v6 v8 μ = some (res, μe)), At E X cX12_outAndBack 10 "TollsBackModel" (0, 0) 6 [(0, 2, v0), (1, 0, v1), (2, 0, v2), (3, 2, v3), (4, 0, v4), (5, 0, v5), (6, 1, v6), (8, 0, v8)] [] μ := by
  intro n
  induction n with
  | zero =>
    intro v0 v1 v2 v3 v4 v5 v6 v8 μ q_v1 q_v2 q_v4 q_v5 q_v6 q_v8 h
    have h : (none : Option (Int × Mem)) = some (res, μe) := h
    cases h
  | succ n ih =>
    intro v0 v1 v2 v3 v4 v5 v6 v8 μ q_v1 q_v2 q_v4 q_v5 q_v6 q_v8 h
    rw [M_outAndBack_L6.eq_2] at h
    refine r_iload (pc := 6) hX 7 rfl (dk D_X12_outAndBack 4 rfl) ?_
    refine r_iconst (pc := 8) hX (dk D_X12_outAndBack 5 rfl) ?_
    refine r_aloadn (pc := 9) hX 0 rfl (dk D_X12_outAndBack 6 rfl) ?_
    obtain ⟨x1, hx1, h⟩ := bd_some h
    refine r_getR (pc := 10) hX fl_12_13 rfl hx1 (dk D_X12_outAndBack 7 rfl) ?_
    refine r_bipush (pc := 13) hX rfl (dk D_X12_outAndBack 8 rfl) ?_
    obtain ⟨x2, hx2, h⟩ := bd_some h
    refine r_iald (pc := 15) hX (R32_lit rfl) hx2 (dk D_X12_outAndBack 9 rfl) (fun qx2 => ?_)
    refine r_imul (pc := 16) hX (dk D_X12_outAndBack 10 rfl) ?_
    refine r_icmp_ge (pc := 17) hX q_v8 (R32_w _) 107 rfl (dk D_X12_outAndBack 11 rfl) (fun hc => ?_) (fun hc => ?_)
    · rw [if_neg hc] at h
      refine r_lload (pc := 107) hX 6 rfl (dk D_X12_outAndBack 59 rfl) ?_
      cases h
      exact r_lreturn (pc := 109) hX q_v6 hM ⟨by decide, by decide⟩ (dk D_X12_outAndBack 60 rfl)
    · rw [if_pos hc] at h
      refine r_aloadn (pc := 20) hX 0 rfl (dk D_X12_outAndBack 12 rfl) ?_
      refine r_iload (pc := 21) hX 7 rfl (dk D_X12_outAndBack 13 rfl) ?_
      refine r_iconst (pc := 23) hX (dk D_X12_outAndBack 14 rfl) ?_
      obtain ⟨x3, hx3, h⟩ := bd_some h
      refine r_idiv (pc := 24) hX (R32_lit rfl) hx3 (dk D_X12_outAndBack 15 rfl) (fun qx3 => ?_)
      obtain ⟨_, hi, h⟩ := bd_some h
      obtain ⟨x4, μ5, hx4, h⟩ := bd2_some h
      refine r_invV0 (As := [(0, x3)]) (pc := 25) hX ml_12_213 (L_M_isOpen qx3 hx4) (isk_u hi) (Rm_of hRm (by decide) ⟨by decide, by decide⟩) (by decide) rfl (Nat.le_of_ble_eq_true rfl) rfl (dk D_X12_outAndBack 16 rfl) (fun qx4 => ?_)
      refine r_if_eq (pc := 28) hX qx4 101 rfl (dk D_X12_outAndBack 17 rfl) (fun hc => ?_) (fun hc => ?_)
      · rw [if_pos hc] at h
        refine r_iinc (lv' := [(8, 0, (w32 (v8 + 1))), (0, 2, v0), (1, 0, v1), (2, 0, v2), (3, 2, v3), (4, 0, v4), (5, 0, v5), (6, 1, v6)]) (pc := 101) hX 7 rfl (by decide) rfl (dk D_X12_outAndBack 57 rfl) ?_
        refine r_goto (pc := 104) hX 6 rfl (dk D_X12_outAndBack 58 rfl) ?_
        refine r_sub (lv' := [(0, 2, v0), (1, 0, v1), (2, 0, v2), (3, 2, v3), (4, 0, v4), (5, 0, v5), (6, 1, v6), (8, 0, (w32 (v8 + 1)))]) [1, 2, 3, 4, 5, 6, 7, 0] rfl ?_
        exact ih v0 v1 v2 v3 v4 v5 v6 (w32 (v8 + 1)) μ5 q_v1 q_v2 q_v4 q_v5 q_v6 (R32_w _) h
      · rw [if_neg hc] at h
        refine r_aloadn (pc := 31) hX 0 rfl (dk D_X12_outAndBack 18 rfl) ?_
        refine r_iload (pc := 32) hX 7 rfl (dk D_X12_outAndBack 19 rfl) ?_
        obtain ⟨_, hi, h⟩ := bd_some h
        obtain ⟨x6, μ7, hx6, h⟩ := bd2_some h
        refine r_invV0 (As := [(0, v8)]) (pc := 34) hX ml_12_240 (L_M_tailOf q_v8 hx6) (isk_u hi) (Rm_of hRm (by decide) ⟨by decide, by decide⟩) (by decide) rfl (Nat.le_of_ble_eq_true rfl) rfl (dk D_X12_outAndBack 20 rfl) (fun qx6 => ?_)
        refine r_iloadn (pc := 37) hX 1 rfl (dk D_X12_outAndBack 21 rfl) ?_
        refine r_icmp_ne (pc := 38) hX qx6 q_v1 101 rfl (dk D_X12_outAndBack 22 rfl) (fun hc => ?_) (fun hc => ?_)
        · rw [if_neg hc] at h
          refine r_iinc (lv' := [(8, 0, (w32 (v8 + 1))), (0, 2, v0), (1, 0, v1), (2, 0, v2), (3, 2, v3), (4, 0, v4), (5, 0, v5), (6, 1, v6)]) (pc := 101) hX 7 rfl (by decide) rfl (dk D_X12_outAndBack 57 rfl) ?_
          refine r_goto (pc := 104) hX 6 rfl (dk D_X12_outAndBack 58 rfl) ?_
          refine r_sub (lv' := [(0, 2, v0), (1, 0, v1), (2, 0, v2), (3, 2, v3), (4, 0, v4), (5, 0, v5), (6, 1, v6), (8, 0, (w32 (v8 + 1)))]) [1, 2, 3, 4, 5, 6, 7, 0] rfl ?_
          exact ih v0 v1 v2 v3 v4 v5 v6 (w32 (v8 + 1)) μ7 q_v1 q_v2 q_v4 q_v5 q_v6 (R32_w _) h
        · rw [if_pos hc] at h
          refine r_iload (pc := 41) hX 7 rfl (dk D_X12_outAndBack 23 rfl) ?_
          refine r_iloadn (pc := 43) hX 2 rfl (dk D_X12_outAndBack 24 rfl) ?_
          refine r_icmp_ne (pc := 44) hX q_v8 q_v2 50 rfl (dk D_X12_outAndBack 25 rfl) (fun hc => ?_) (fun hc => ?_)
          · rw [if_neg hc] at h
            refine r_iconst (pc := 50) hX (dk D_X12_outAndBack 27 rfl) ?_
            refine r_istore (lv' := [(9, 0, 0), (0, 2, v0), (1, 0, v1), (2, 0, v2), (3, 2, v3), (4, 0, v4), (5, 0, v5), (6, 1, v6), (8, 0, v8)]) (pc := 51) hX (by decide) rfl (dk D_X12_outAndBack 28 rfl) ?_
            refine r_sub (lv' := [(0, 2, v0), (1, 0, v1), (2, 0, v2), (3, 2, v3), (4, 0, v4), (5, 0, v5), (6, 1, v6), (8, 0, v8), (9, 0, 0)]) [1, 2, 3, 4, 5, 6, 7, 8, 0] rfl ?_
            refine L_M_outAndBack_L53 hX hM hRm ?_ FU v0 v1 v2 v3 v4 v5 v6 v8 0 μ7 q_v1 q_v2 q_v4 q_v5 q_v6 q_v8 (R32_lit rfl) h
            intro x8 x9 x10 x11 x12 x13 x14 x15 μ16 qx9 qx10 qx12 qx13 qx14 qx15 h
            refine r_iinc (lv' := [(8, 0, (w32 (x15 + 1))), (0, 2, x8), (1, 0, x9), (2, 0, x10), (3, 2, x11), (4, 0, x12), (5, 0, x13), (6, 1, x14)]) (pc := 101) hX 7 rfl (by decide) rfl (dk D_X12_outAndBack 57 rfl) ?_
            refine r_goto (pc := 104) hX 6 rfl (dk D_X12_outAndBack 58 rfl) ?_
            refine r_sub (lv' := [(0, 2, x8), (1, 0, x9), (2, 0, x10), (3, 2, x11), (4, 0, x12), (5, 0, x13), (6, 1, x14), (8, 0, (w32 (x15 + 1)))]) [1, 2, 3, 4, 5, 6, 7, 0] rfl ?_
            exact ih x8 x9 x10 x11 x12 x13 x14 (w32 (x15 + 1)) μ16 qx9 qx10 qx12 qx13 qx14 (R32_w _) h
          · rw [if_pos hc] at h
            refine r_goto (pc := 47) hX 101 rfl (dk D_X12_outAndBack 26 rfl) ?_
            refine r_iinc (lv' := [(8, 0, (w32 (v8 + 1))), (0, 2, v0), (1, 0, v1), (2, 0, v2), (3, 2, v3), (4, 0, v4), (5, 0, v5), (6, 1, v6)]) (pc := 101) hX 7 rfl (by decide) rfl (dk D_X12_outAndBack 57 rfl) ?_
            refine r_goto (pc := 104) hX 6 rfl (dk D_X12_outAndBack 58 rfl) ?_
            refine r_sub (lv' := [(0, 2, v0), (1, 0, v1), (2, 0, v2), (3, 2, v3), (4, 0, v4), (5, 0, v5), (6, 1, v6), (8, 0, (w32 (v8 + 1)))]) [1, 2, 3, 4, 5, 6, 7, 0] rfl ?_
            exact ih v0 v1 v2 v3 v4 v5 v6 (w32 (v8 + 1)) μ7 q_v1 q_v2 q_v4 q_v5 q_v6 (R32_w _) h
set_option maxRecDepth 100000 in
set_option maxHeartbeats 4000000 in
theorem L_M_outAndBack {E : EX} {l : Launch} {a0 a1 a2 a3 a4 a5 res : Int} {μ μ' : Mem} (q_a1 : R32 a1) (q_a2 : R32 a2) (q_a4 : R32 a4) (q_a5 : R32 a5) (h : M_outAndBack a0 a1 a2 a3 a4 a5 μ = some (res, μ')) : Ok E l 2 yX12_outAndBack (.code yX12_outAndBack cX12_outAndBack 10 (some .long)) 0 0 [(2, a0), (0, a1), (0, a2), (2, a3), (0, a4), (0, a5)] μ (some (1, res)) μ' := by
  refine Ok.of (own := "TollsBackModel") [(0, 2, a0), (1, 0, a1), (2, 0, a2), (3, 2, a3), (4, 0, a4), (5, 0, a5)] (by decide +kernel) rfl (Nat.le_of_ble_eq_true rfl) rfl ?_
  intro X hL hRm hin hX hM
  unfold M_outAndBack at h
  subst hL
  refine r_lconst (x := 0) (pc := 0) hX (by decide) (dk D_X12_outAndBack 0 rfl) ?_
  refine r_lstore (lv' := [(6, 1, 0), (0, 2, a0), (1, 0, a1), (2, 0, a2), (3, 2, a3), (4, 0, a4), (5, 0, a5)]) (pc := 1) hX (by decide) rfl (dk D_X12_outAndBack 1 rfl) ?_
  refine r_iconst (pc := 3) hX (dk D_X12_outAndBack 2 rfl) ?_
  refine r_istore (lv' := [(8, 0, 0), (6, 1, 0), (0, 2, a0), (1, 0, a1), (2, 0, a2), (3, 2, a3), (4, 0, a4), (5, 0, a5)]) (pc := 4) hX (by decide) rfl (dk D_X12_outAndBack 3 rfl) ?_
  refine r_sub (lv' := [(0, 2, a0), (1, 0, a1), (2, 0, a2), (3, 2, a3), (4, 0, a4), (5, 0, a5), (6, 1, 0), (8, 0, 0)]) [2, 3, 4, 5, 6, 7, 1, 0] rfl ?_
  refine L_M_outAndBack_L6 hX hM hRm FU a0 a1 a2 a3 a4 a5 0 0 μ q_a1 q_a2 q_a4 q_a5 (R64_lit rfl) (R32_lit rfl) h
set_option maxRecDepth 100000 in
set_option maxHeartbeats 4000000 in
theorem L_M_laysRounds_L9 {E : EX} {X : CX} {res : Int} {μe : Mem} (hX : Good E X cX12_laysRounds 4 "TollsBackModel") (hM : GoodM E X none none μe 0 0) (hRm : cR X = rmOf 3 0 0) {k68 : Int → Int → Int → Mem → Option (Int × Mem)} (hk68 : ∀ (u0 u1 u2 : Int) (μ : Mem), R32 u1 → R32 u2 → k68 u0 u1 u2 μ = some (res, μe) → At E X cX12_laysRounds 4 "TollsBackModel" (0, 0) 68 [(0, 2, u0), (1, 0, u1), (2, 0, u2)] [] μ) : ∀ (n : Nat) (v0 v1 v2 v3 : Int) (μ : Mem) (q_v1 : R32 v1) (q_v2 : R32 v2) (q_v3 : R32 v3) (h : M_laysRounds_L9 k68 n v0 v1 v2 v3 μ = some (res, μe)), At E X cX12_laysRounds 4 "TollsBackModel" (0, 0) 9 [(0, 2, v0), (1, 0, v1), (2, 0, v2), (3, 0, v3)] [] μ := by
  intro n
  induction n with
  | zero =>
    intro v0 v1 v2 v3 μ q_v1 q_v2 q_v3 h
    have h : (none : Option (Int × Mem)) = some (res, μe) := h
    cases h
  | succ n ih =>
    intro v0 v1 v2 v3 μ q_v1 q_v2 q_v3 h
    rw [M_laysRounds_L9.eq_2] at h
    refine r_iloadn (pc := 9) hX 3 rfl (dk D_X12_laysRounds 7 rfl) ?_
    refine r_iconst (pc := 10) hX (dk D_X12_laysRounds 8 rfl) ?_
    refine r_aloadn (pc := 11) hX 0 rfl (dk D_X12_laysRounds 9 rfl) ?_
    obtain ⟨x1, hx1, h⟩ := bd_some h
    refine r_getR (pc := 12) hX fl_12_13 rfl hx1 (dk D_X12_laysRounds 10 rfl) ?_
    refine r_bipush (pc := 15) hX rfl (dk D_X12_laysRounds 11 rfl) ?_
    obtain ⟨x2, hx2, h⟩ := bd_some h
    refine r_iald (pc := 17) hX (R32_lit rfl) hx2 (dk D_X12_laysRounds 12 rfl) (fun qx2 => ?_)
    refine r_imul (pc := 18) hX (dk D_X12_laysRounds 13 rfl) ?_
    refine r_icmp_ge (pc := 19) hX q_v3 (R32_w _) 68 rfl (dk D_X12_laysRounds 14 rfl) (fun hc => ?_) (fun hc => ?_)
    · rw [if_neg hc] at h
      refine r_sub (lv' := [(0, 2, v0), (1, 0, v1), (2, 0, v2)]) [0, 1, 2] rfl ?_
      exact hk68 v0 v1 v2 μ q_v1 q_v2 h
    · rw [if_pos hc] at h
      refine r_aloadn (pc := 22) hX 0 rfl (dk D_X12_laysRounds 15 rfl) ?_
      obtain ⟨x3, hx3, h⟩ := bd_some h
      refine r_getR (pc := 23) hX fl_12_61 rfl hx3 (dk D_X12_laysRounds 16 rfl) ?_
      refine r_bipush (pc := 26) hX rfl (dk D_X12_laysRounds 17 rfl) ?_
      refine r_iloadn (pc := 28) hX 3 rfl (dk D_X12_laysRounds 18 rfl) ?_
      refine r_imul (pc := 29) hX (dk D_X12_laysRounds 19 rfl) ?_
      refine r_iloadn (pc := 30) hX 2 rfl (dk D_X12_laysRounds 20 rfl) ?_
      refine r_iadd (pc := 31) hX (dk D_X12_laysRounds 21 rfl) ?_
      refine r_iloadn (pc := 32) hX 2 rfl (dk D_X12_laysRounds 22 rfl) ?_
      obtain ⟨y4, μ5, hb, h⟩ := bd2_some h
      have hj : R64 y4 → At E X cX12_laysRounds 4 "TollsBackModel" (0, 0) 61 [(0, 2, v0), (1, 0, v1), (2, 0, v2), (3, 0, v3)] [(1, y4), (0, (w32 ((w32 (41 * v3)) + v2))), (2, x3)] μ5 := by
        intro qy4
        clear hb
        obtain ⟨μ11, hμ11, h⟩ := bd_some h
        refine r_last (pc := 61) hX (R32_w _) qy4 hμ11 (dk D_X12_laysRounds 40 rfl) ?_
        refine r_iinc (lv' := [(3, 0, (w32 (v3 + 1))), (0, 2, v0), (1, 0, v1), (2, 0, v2)]) (pc := 62) hX 3 rfl (by decide) rfl (dk D_X12_laysRounds 41 rfl) ?_
        refine r_goto (pc := 65) hX 9 rfl (dk D_X12_laysRounds 42 rfl) ?_
        refine r_sub (lv' := [(0, 2, v0), (1, 0, v1), (2, 0, v2), (3, 0, (w32 (v3 + 1)))]) [1, 2, 3, 0] rfl ?_
        exact ih v0 v1 v2 (w32 (v3 + 1)) μ11 q_v1 q_v2 (R32_w _) h
      clear h
      have h := hb
      clear hb
      refine r_if_ne (pc := 33) hX q_v2 40 rfl (dk D_X12_laysRounds 23 rfl) (fun hc => ?_) (fun hc => ?_)
      · rw [if_neg hc] at h
        refine r_aloadn (pc := 40) hX 0 rfl (dk D_X12_laysRounds 26 rfl) ?_
        refine r_aloadn (pc := 41) hX 0 rfl (dk D_X12_laysRounds 27 rfl) ?_
        refine r_iloadn (pc := 42) hX 3 rfl (dk D_X12_laysRounds 28 rfl) ?_
        obtain ⟨_, hi, h⟩ := bd_some h
        obtain ⟨x6, μ7, hx6, h⟩ := bd2_some h
        refine r_invV0 (As := [(0, v3)]) (pc := 43) hX ml_12_243 (L_M_headOf q_v3 hx6) (isk_u hi) (Rm_of hRm (by decide) ⟨by decide, by decide⟩) (by decide) rfl (Nat.le_of_ble_eq_true rfl) rfl (dk D_X12_laysRounds 29 rfl) (fun qx6 => ?_)
        refine r_iloadn (pc := 46) hX 3 rfl (dk D_X12_laysRounds 30 rfl) ?_
        refine r_iconst (pc := 47) hX (dk D_X12_laysRounds 31 rfl) ?_
        refine r_ixor (pc := 48) hX (dk D_X12_laysRounds 32 rfl) ?_
        refine r_aloadn (pc := 49) hX 0 rfl (dk D_X12_laysRounds 33 rfl) ?_
        obtain ⟨x8, hx8, h⟩ := bd_some h
        refine r_getR (pc := 50) hX fl_12_61 rfl hx8 (dk D_X12_laysRounds 34 rfl) ?_
        refine r_bipush (pc := 53) hX rfl (dk D_X12_laysRounds 35 rfl) ?_
        refine r_iloadn (pc := 55) hX 3 rfl (dk D_X12_laysRounds 36 rfl) ?_
        refine r_imul (pc := 56) hX (dk D_X12_laysRounds 37 rfl) ?_
        refine r_iloadn (pc := 57) hX 2 rfl (dk D_X12_laysRounds 38 rfl) ?_
        obtain ⟨_, hi, h⟩ := bd_some h
        obtain ⟨x9, μ10, hx9, h⟩ := bd2_some h
        refine r_invV0 (As := [(0, x6), (0, (xor32 v3 1)), (2, x8), (0, (w32 (41 * v3))), (0, v2)]) (pc := 58) hX ml_12_350 (L_M_outAndBack qx6 (R32_t _) (R32_w _) q_v2 hx9) (isk_u hi) (Rm_of hRm (by decide) ⟨by decide, by decide⟩) (by decide) rfl (Nat.le_of_ble_eq_true rfl) rfl (dk D_X12_laysRounds 39 rfl) (fun qx9 => ?_)
        replace h := Option.some.inj h
        obtain ⟨h_0, h⟩ := Prod.mk.inj h
        subst y4
        subst μ5
        exact hj qx9
      · rw [if_pos hc] at h
        refine r_lconst (x := 1) (pc := 36) hX (by decide) (dk D_X12_laysRounds 24 rfl) ?_
        refine r_goto (pc := 37) hX 61 rfl (dk D_X12_laysRounds 25 rfl) ?_
        replace h := Option.some.inj h
        obtain ⟨h_0, h⟩ := Prod.mk.inj h
        subst y4
        subst μ5
        exact hj (R64_lit rfl)
set_option maxRecDepth 100000 in
set_option maxHeartbeats 4000000 in
theorem L_M_laysRounds_L2 {E : EX} {X : CX} {res : Int} {μe : Mem} (hX : Good E X cX12_laysRounds 4 "TollsBackModel") (hM : GoodM E X none none μe 0 0) (hRm : cR X = rmOf 3 0 0) : ∀ (n : Nat) (v0 v1 v2 : Int) (μ : Mem) (q_v1 : R32 v1) (q_v2 : R32 v2) (h : M_laysRounds_L2 n v0 v1 v2 μ = some (res, μe)), At E X cX12_laysRounds 4 "TollsBackModel" (0, 0) 2 [(0, 2, v0), (1, 0, v1), (2, 0, v2)] [] μ := by
  intro n
  induction n with
  | zero =>
    intro v0 v1 v2 μ q_v1 q_v2 h
    have h : (none : Option (Int × Mem)) = some (res, μe) := h
    cases h
  | succ n ih =>
    intro v0 v1 v2 μ q_v1 q_v2 h
    rw [M_laysRounds_L2.eq_2] at h
    refine r_iloadn (pc := 2) hX 2 rfl (dk D_X12_laysRounds 2 rfl) ?_
    refine r_iloadn (pc := 3) hX 1 rfl (dk D_X12_laysRounds 3 rfl) ?_
    refine r_icmp_gt (pc := 4) hX q_v2 q_v1 74 rfl (dk D_X12_laysRounds 4 rfl) (fun hc => ?_) (fun hc => ?_)
    · rw [if_pos hc] at h
      cases h
      exact r_return (pc := 74) hX hM ⟨by decide, by decide⟩ (dk D_X12_laysRounds 45 rfl)
    · rw [if_neg hc] at h
      refine r_iconst (pc := 7) hX (dk D_X12_laysRounds 5 rfl) ?_
      refine r_istoren (lv' := [(3, 0, 0), (0, 2, v0), (1, 0, v1), (2, 0, v2)]) (pc := 8) hX (by decide) rfl (dk D_X12_laysRounds 6 rfl) ?_
      refine r_sub (lv' := [(0, 2, v0), (1, 0, v1), (2, 0, v2), (3, 0, 0)]) [1, 2, 3, 0] rfl ?_
      refine L_M_laysRounds_L9 hX hM hRm ?_ FU v0 v1 v2 0 μ q_v1 q_v2 (R32_lit rfl) h
      intro x1 x2 x3 μ4 qx2 qx3 h
      refine r_iinc (lv' := [(2, 0, (w32 (x3 + 1))), (0, 2, x1), (1, 0, x2)]) (pc := 68) hX 2 rfl (by decide) rfl (dk D_X12_laysRounds 43 rfl) ?_
      refine r_goto (pc := 71) hX 2 rfl (dk D_X12_laysRounds 44 rfl) ?_
      refine r_sub (lv' := [(0, 2, x1), (1, 0, x2), (2, 0, (w32 (x3 + 1)))]) [1, 2, 0] rfl ?_
      exact ih x1 x2 (w32 (x3 + 1)) μ4 qx2 (R32_w _) h
set_option maxRecDepth 100000 in
set_option maxHeartbeats 4000000 in
theorem L_M_laysRounds {E : EX} {l : Launch} {a0 a1 res : Int} {μ μ' : Mem} (q_a1 : R32 a1) (h : M_laysRounds a0 a1 μ = some (res, μ')) : Ok E l 3 yX12_laysRounds (.code yX12_laysRounds cX12_laysRounds 4 none) 0 0 [(2, a0), (0, a1)] μ none μ' := by
  refine Ok.of (own := "TollsBackModel") [(0, 2, a0), (1, 0, a1)] (by decide +kernel) rfl (Nat.le_of_ble_eq_true rfl) rfl ?_
  intro X hL hRm hin hX hM
  unfold M_laysRounds at h
  subst hL
  refine r_iconst (pc := 0) hX (dk D_X12_laysRounds 0 rfl) ?_
  refine r_istoren (lv' := [(2, 0, 0), (0, 2, a0), (1, 0, a1)]) (pc := 1) hX (by decide) rfl (dk D_X12_laysRounds 1 rfl) ?_
  refine r_sub (lv' := [(0, 2, a0), (1, 0, a1), (2, 0, 0)]) [1, 2, 0] rfl ?_
  refine L_M_laysRounds_L2 hX hM hRm FU a0 a1 0 μ q_a1 (R32_lit rfl) h
set_option maxRecDepth 100000 in
set_option maxHeartbeats 4000000 in
theorem L_M_canBeLeft_L13 {E : EX} {X : CX} {res : Int} {μe : Mem} (hX : Good E X cX12_canBeLeft 3 "TollsBackModel") (hM : GoodM E X (some .boolean) (some (0, res)) μe 0 0) (hRm : cR X = rmOf 3 0 0) : ∀ (n : Nat) (v0 v1 v2 : Int) (μ : Mem) (q_v1 : R32 v1) (q_v2 : R32 v2) (h : M_canBeLeft_L13 n v0 v1 v2 μ = some (res, μe)), At E X cX12_canBeLeft 3 "TollsBackModel" (0, 0) 13 [(0, 2, v0), (1, 0, v1), (2, 0, v2)] [] μ := by
  intro n
  induction n with
  | zero =>
    intro v0 v1 v2 μ q_v1 q_v2 h
    have h : (none : Option (Int × Mem)) = some (res, μe) := h
    cases h
  | succ n ih =>
    intro v0 v1 v2 μ q_v1 q_v2 h
    rw [M_canBeLeft_L13.eq_2] at h
    refine r_iloadn (pc := 13) hX 2 rfl (dk D_X12_canBeLeft 9 rfl) ?_
    refine r_aloadn (pc := 14) hX 0 rfl (dk D_X12_canBeLeft 10 rfl) ?_
    obtain ⟨x1, hx1, h⟩ := bd_some h
    refine r_getR (pc := 15) hX fl_12_105 rfl hx1 (dk D_X12_canBeLeft 11 rfl) ?_
    refine r_iloadn (pc := 18) hX 1 rfl (dk D_X12_canBeLeft 12 rfl) ?_
    obtain ⟨x2, hx2, h⟩ := bd_some h
    refine r_iald (pc := 19) hX q_v1 hx2 (dk D_X12_canBeLeft 13 rfl) (fun qx2 => ?_)
    refine r_icmp_ge (pc := 20) hX q_v2 qx2 52 rfl (dk D_X12_canBeLeft 14 rfl) (fun hc => ?_) (fun hc => ?_)
    · rw [if_neg hc] at h
      refine r_iconst (pc := 52) hX (dk D_X12_canBeLeft 33 rfl) ?_
      cases h
      exact r_zreturn (pc := 53) hX (R32_lit rfl) hM (Or.inr rfl) ⟨by decide, by decide⟩ (dk D_X12_canBeLeft 34 rfl)
    · rw [if_pos hc] at h
      refine r_aloadn (pc := 23) hX 0 rfl (dk D_X12_canBeLeft 15 rfl) ?_
      refine r_aloadn (pc := 24) hX 0 rfl (dk D_X12_canBeLeft 16 rfl) ?_
      obtain ⟨x3, hx3, h⟩ := bd_some h
      refine r_getR (pc := 25) hX fl_12_108 rfl hx3 (dk D_X12_canBeLeft 17 rfl) ?_
      refine r_bipush (pc := 28) hX rfl (dk D_X12_canBeLeft 18 rfl) ?_
      refine r_iloadn (pc := 30) hX 1 rfl (dk D_X12_canBeLeft 19 rfl) ?_
      refine r_imul (pc := 31) hX (dk D_X12_canBeLeft 20 rfl) ?_
      refine r_iloadn (pc := 32) hX 2 rfl (dk D_X12_canBeLeft 21 rfl) ?_
      refine r_iadd (pc := 33) hX (dk D_X12_canBeLeft 22 rfl) ?_
      obtain ⟨x4, hx4, h⟩ := bd_some h
      refine r_lald (pc := 34) hX (R32_w _) hx4 (dk D_X12_canBeLeft 23 rfl) (fun qx4 => ?_)
      refine r_l2i (pc := 35) hX qx4 (dk D_X12_canBeLeft 24 rfl) ?_
      refine r_iconst (pc := 36) hX (dk D_X12_canBeLeft 25 rfl) ?_
      obtain ⟨x5, hx5, h⟩ := bd_some h
      refine r_idiv (pc := 37) hX (R32_lit rfl) hx5 (dk D_X12_canBeLeft 26 rfl) (fun qx5 => ?_)
      obtain ⟨_, hi, h⟩ := bd_some h
      obtain ⟨x6, μ7, hx6, h⟩ := bd2_some h
      refine r_invV0 (As := [(0, x5)]) (pc := 38) hX ml_12_213 (L_M_isOpen qx5 hx6) (isk_u hi) (Rm_of hRm (by decide) ⟨by decide, by decide⟩) (by decide) rfl (Nat.le_of_ble_eq_true rfl) rfl (dk D_X12_canBeLeft 27 rfl) (fun qx6 => ?_)
      refine r_if_ne (pc := 41) hX qx6 46 rfl (dk D_X12_canBeLeft 28 rfl) (fun hc => ?_) (fun hc => ?_)
      · rw [if_neg hc] at h
        refine r_iinc (lv' := [(2, 0, (w32 (v2 + 1))), (0, 2, v0), (1, 0, v1)]) (pc := 46) hX 2 rfl (by decide) rfl (dk D_X12_canBeLeft 31 rfl) ?_
        refine r_goto (pc := 49) hX 13 rfl (dk D_X12_canBeLeft 32 rfl) ?_
        refine r_sub (lv' := [(0, 2, v0), (1, 0, v1), (2, 0, (w32 (v2 + 1)))]) [1, 2, 0] rfl ?_
        exact ih v0 v1 (w32 (v2 + 1)) μ7 q_v1 (R32_w _) h
      · rw [if_pos hc] at h
        refine r_iconst (pc := 44) hX (dk D_X12_canBeLeft 29 rfl) ?_
        cases h
        exact r_zreturn (pc := 45) hX (R32_lit rfl) hM (Or.inl rfl) ⟨by decide, by decide⟩ (dk D_X12_canBeLeft 30 rfl)
set_option maxRecDepth 100000 in
set_option maxHeartbeats 4000000 in
theorem L_M_canBeLeft {E : EX} {l : Launch} {a0 a1 res : Int} {μ μ' : Mem} (q_a1 : R32 a1) (h : M_canBeLeft a0 a1 μ = some (res, μ')) : Ok E l 3 yX12_canBeLeft (.code yX12_canBeLeft cX12_canBeLeft 3 (some .boolean)) 0 0 [(2, a0), (0, a1)] μ (some (0, res)) μ' := by
  refine Ok.of (own := "TollsBackModel") [(0, 2, a0), (1, 0, a1)] (by decide +kernel) rfl (Nat.le_of_ble_eq_true rfl) rfl ?_
  intro X hL hRm hin hX hM
  unfold M_canBeLeft at h
  subst hL
  refine r_aloadn (pc := 0) hX 0 rfl (dk D_X12_canBeLeft 0 rfl) ?_
  refine r_iloadn (pc := 1) hX 1 rfl (dk D_X12_canBeLeft 1 rfl) ?_
  obtain ⟨_, hi, h⟩ := bd_some h
  obtain ⟨x1, μ2, hx1, h⟩ := bd2_some h
  refine r_invV0 (As := [(0, a1)]) (pc := 2) hX ml_12_375 (L_M_firstForged q_a1 hx1) (isk_u hi) (Rm_of hRm (by decide) ⟨by decide, by decide⟩) (by decide) rfl (Nat.le_of_ble_eq_true rfl) rfl (dk D_X12_canBeLeft 2 rfl) (fun qx1 => ?_)
  refine r_iconst (pc := 5) hX (dk D_X12_canBeLeft 3 rfl) ?_
  refine r_icmp_eq (pc := 6) hX qx1 (R32_lit rfl) 11 rfl (dk D_X12_canBeLeft 4 rfl) (fun hc => ?_) (fun hc => ?_)
  · rw [if_pos hc] at h
    refine r_iconst (pc := 11) hX (dk D_X12_canBeLeft 7 rfl) ?_
    refine r_istoren (lv' := [(2, 0, 0), (0, 2, a0), (1, 0, a1)]) (pc := 12) hX (by decide) rfl (dk D_X12_canBeLeft 8 rfl) ?_
    refine r_sub (lv' := [(0, 2, a0), (1, 0, a1), (2, 0, 0)]) [1, 2, 0] rfl ?_
    refine L_M_canBeLeft_L13 hX hM hRm FU a0 a1 0 μ2 q_a1 (R32_lit rfl) h
  · rw [if_neg hc] at h
    refine r_iconst (pc := 9) hX (dk D_X12_canBeLeft 5 rfl) ?_
    cases h
    exact r_zreturn (pc := 10) hX (R32_lit rfl) hM (Or.inl rfl) ⟨by decide, by decide⟩ (dk D_X12_canBeLeft 6 rfl)
set_option maxRecDepth 100000 in
set_option maxHeartbeats 4000000 in
theorem L_M_walksBy_L2 {E : EX} {X : CX} {res : Int} {μe : Mem} (hX : Good E X cX12_walksBy 8 "TollsBackModel") (hM : GoodM E X (some .long) (some (1, res)) μe 0 0) (hRm : cR X = rmOf 3 0 0) {k39 : Int → Int → Mem → Option (Int × Mem)} (hk39 : ∀ (u0 u1 : Int) (μ : Mem), R32 u1 → k39 u0 u1 μ = some (res, μe) → At E X cX12_walksBy 8 "TollsBackModel" (0, 0) 39 [(0, 2, u0), (2, 0, u1)] [] μ) : ∀ (n : Nat) (v0 v1 v2 v3 : Int) (μ : Mem) (q_v1 : R32 v1) (q_v2 : R32 v2) (q_v3 : R32 v3) (h : M_walksBy_L2 k39 n v0 v1 v2 v3 μ = some (res, μe)), At E X cX12_walksBy 8 "TollsBackModel" (0, 0) 2 [(0, 2, v0), (1, 0, v1), (2, 0, v2), (3, 0, v3)] [] μ := by
  intro n
  induction n with
  | zero =>
    intro v0 v1 v2 v3 μ q_v1 q_v2 q_v3 h
    have h : (none : Option (Int × Mem)) = some (res, μe) := h
    cases h
  | succ n ih =>
    intro v0 v1 v2 v3 μ q_v1 q_v2 q_v3 h
    rw [M_walksBy_L2.eq_2] at h
    refine r_iloadn (pc := 2) hX 3 rfl (dk D_X12_walksBy 2 rfl) ?_
    refine r_iloadn (pc := 3) hX 2 rfl (dk D_X12_walksBy 3 rfl) ?_
    refine r_icmp_gt (pc := 4) hX q_v3 q_v2 39 rfl (dk D_X12_walksBy 4 rfl) (fun hc => ?_) (fun hc => ?_)
    · rw [if_pos hc] at h
      refine r_sub (lv' := [(0, 2, v0), (2, 0, v2)]) [0, 2] rfl ?_
      exact hk39 v0 v2 μ q_v2 h
    · rw [if_neg hc] at h
      refine r_aloadn (pc := 7) hX 0 rfl (dk D_X12_walksBy 5 rfl) ?_
      obtain ⟨x1, hx1, h⟩ := bd_some h
      refine r_getR (pc := 8) hX fl_12_65 rfl hx1 (dk D_X12_walksBy 6 rfl) ?_
      refine r_iloadn (pc := 11) hX 3 rfl (dk D_X12_walksBy 7 rfl) ?_
      refine r_iloadn (pc := 12) hX 3 rfl (dk D_X12_walksBy 8 rfl) ?_
      obtain ⟨y2, μ3, hb, h⟩ := bd2_some h
      have hj : R64 y2 → At E X cX12_walksBy 8 "TollsBackModel" (0, 0) 32 [(0, 2, v0), (1, 0, v1), (2, 0, v2), (3, 0, v3)] [(1, y2), (0, v3), (2, x1)] μ3 := by
        intro qy2
        clear hb
        obtain ⟨μ7, hμ7, h⟩ := bd_some h
        refine r_last (pc := 32) hX q_v3 qy2 hμ7 (dk D_X12_walksBy 20 rfl) ?_
        refine r_iinc (lv' := [(3, 0, (w32 (v3 + 1))), (0, 2, v0), (1, 0, v1), (2, 0, v2)]) (pc := 33) hX 3 rfl (by decide) rfl (dk D_X12_walksBy 21 rfl) ?_
        refine r_goto (pc := 36) hX 2 rfl (dk D_X12_walksBy 22 rfl) ?_
        refine r_sub (lv' := [(0, 2, v0), (1, 0, v1), (2, 0, v2), (3, 0, (w32 (v3 + 1)))]) [1, 2, 3, 0] rfl ?_
        exact ih v0 v1 v2 (w32 (v3 + 1)) μ7 q_v1 q_v2 (R32_w _) h
      clear h
      have h := hb
      clear hb
      refine r_if_ne (pc := 13) hX q_v3 20 rfl (dk D_X12_walksBy 9 rfl) (fun hc => ?_) (fun hc => ?_)
      · rw [if_neg hc] at h
        refine r_aloadn (pc := 20) hX 0 rfl (dk D_X12_walksBy 12 rfl) ?_
        refine r_iloadn (pc := 21) hX 1 rfl (dk D_X12_walksBy 13 rfl) ?_
        refine r_iconst (pc := 22) hX (dk D_X12_walksBy 14 rfl) ?_
        refine r_aloadn (pc := 23) hX 0 rfl (dk D_X12_walksBy 15 rfl) ?_
        obtain ⟨x4, hx4, h⟩ := bd_some h
        refine r_getR (pc := 24) hX fl_12_65 rfl hx4 (dk D_X12_walksBy 16 rfl) ?_
        refine r_iconst (pc := 27) hX (dk D_X12_walksBy 17 rfl) ?_
        refine r_iloadn (pc := 28) hX 3 rfl (dk D_X12_walksBy 18 rfl) ?_
        obtain ⟨_, hi, h⟩ := bd_some h
        obtain ⟨x5, μ6, hx5, h⟩ := bd2_some h
        refine r_invV0 (As := [(0, v1), (0, (-1)), (2, x4), (0, 0), (0, v3)]) (pc := 29) hX ml_12_350 (L_M_outAndBack q_v1 (R32_lit rfl) (R32_lit rfl) q_v3 hx5) (isk_u hi) (Rm_of hRm (by decide) ⟨by decide, by decide⟩) (by decide) rfl (Nat.le_of_ble_eq_true rfl) rfl (dk D_X12_walksBy 19 rfl) (fun qx5 => ?_)
        replace h := Option.some.inj h
        obtain ⟨h_0, h⟩ := Prod.mk.inj h
        subst y2
        subst μ3
        exact hj qx5
      · rw [if_pos hc] at h
        refine r_lconst (x := 1) (pc := 16) hX (by decide) (dk D_X12_walksBy 10 rfl) ?_
        refine r_goto (pc := 17) hX 32 rfl (dk D_X12_walksBy 11 rfl) ?_
        replace h := Option.some.inj h
        obtain ⟨h_0, h⟩ := Prod.mk.inj h
        subst y2
        subst μ3
        exact hj (R64_lit rfl)
set_option maxRecDepth 100000 in
set_option maxHeartbeats 4000000 in
theorem L_M_walksBy_L64 {E : EX} {X : CX} {res : Int} {μe : Mem} (hX : Good E X cX12_walksBy 8 "TollsBackModel") (hM : GoodM E X (some .long) (some (1, res)) μe 0 0) (hRm : cR X = rmOf 3 0 0) {k114 : Int → Int → Int → Int → Int → Mem → Option (Int × Mem)} (hk114 : ∀ (u0 u1 u2 u3 u4 : Int) (μ : Mem), R32 u1 → R32 u2 → R32 u3 → R64 u4 → k114 u0 u1 u2 u3 u4 μ = some (res, μe) → At E X cX12_walksBy 8 "TollsBackModel" (0, 0) 114 [(0, 2, u0), (2, 0, u1), (3, 0, u2), (4, 0, u3), (5, 1, u4)] [] μ) : ∀ (n : Nat) (v0 v2 v3 v4 v5 v7 : Int) (μ : Mem) (q_v2 : R32 v2) (q_v3 : R32 v3) (q_v4 : R32 v4) (q_v5 : R64 v5) (q_v7 : R32 v7) (h : M_walksBy_L64 k114 n v0 v2 v3 v4 v5 v7 μ = some (res, μe)), At E X cX12_walksBy 8 "TollsBackModel" (0, 0) 64 [(0, 2, v0), (2, 0, v2), (3, 0, v3), (4, 0, v4), (5, 1, v5), (7, 0, v7)] [] μ := by
  intro n
  induction n with
  | zero =>
    intro v0 v2 v3 v4 v5 v7 μ q_v2 q_v3 q_v4 q_v5 q_v7 h
    have h : (none : Option (Int × Mem)) = some (res, μe) := h
    cases h
  | succ n ih =>
    intro v0 v2 v3 v4 v5 v7 μ q_v2 q_v3 q_v4 q_v5 q_v7 h
    rw [M_walksBy_L64.eq_2] at h
    refine r_iload (pc := 64) hX 5 rfl (dk D_X12_walksBy 38 rfl) ?_
    refine r_iload (pc := 66) hX 3 rfl (dk D_X12_walksBy 39 rfl) ?_
    refine r_icmp_ge (pc := 68) hX q_v7 q_v4 114 rfl (dk D_X12_walksBy 40 rfl) (fun hc => ?_) (fun hc => ?_)
    · rw [if_neg hc] at h
      refine r_sub (lv' := [(0, 2, v0), (2, 0, v2), (3, 0, v3), (4, 0, v4), (5, 1, v5)]) [0, 1, 2, 3, 4] rfl ?_
      exact hk114 v0 v2 v3 v4 v5 μ q_v2 q_v3 q_v4 q_v5 h
    · rw [if_pos hc] at h
      refine r_aloadn (pc := 71) hX 0 rfl (dk D_X12_walksBy 41 rfl) ?_
      refine r_lload (pc := 72) hX 4 rfl (dk D_X12_walksBy 42 rfl) ?_
      refine r_aloadn (pc := 74) hX 0 rfl (dk D_X12_walksBy 43 rfl) ?_
      obtain ⟨x1, hx1, h⟩ := bd_some h
      refine r_getR (pc := 75) hX fl_12_65 rfl hx1 (dk D_X12_walksBy 44 rfl) ?_
      refine r_iload (pc := 78) hX 5 rfl (dk D_X12_walksBy 45 rfl) ?_
      obtain ⟨x2, hx2, h⟩ := bd_some h
      refine r_lald (pc := 80) hX q_v7 hx2 (dk D_X12_walksBy 46 rfl) (fun qx2 => ?_)
      refine r_aloadn (pc := 81) hX 0 rfl (dk D_X12_walksBy 47 rfl) ?_
      obtain ⟨x3, hx3, h⟩ := bd_some h
      refine r_getR (pc := 82) hX fl_12_61 rfl hx3 (dk D_X12_walksBy 48 rfl) ?_
      refine r_bipush (pc := 85) hX rfl (dk D_X12_walksBy 49 rfl) ?_
      refine r_aloadn (pc := 87) hX 0 rfl (dk D_X12_walksBy 50 rfl) ?_
      obtain ⟨x4, hx4, h⟩ := bd_some h
      refine r_getR (pc := 88) hX fl_12_71 rfl hx4 (dk D_X12_walksBy 51 rfl) ?_
      refine r_iloadn (pc := 91) hX 2 rfl (dk D_X12_walksBy 52 rfl) ?_
      obtain ⟨x5, hx5, h⟩ := bd_some h
      refine r_iald (pc := 92) hX q_v3 hx5 (dk D_X12_walksBy 53 rfl) (fun qx5 => ?_)
      refine r_imul (pc := 93) hX (dk D_X12_walksBy 54 rfl) ?_
      refine r_iload (pc := 94) hX 3 rfl (dk D_X12_walksBy 55 rfl) ?_
      refine r_iadd (pc := 96) hX (dk D_X12_walksBy 56 rfl) ?_
      refine r_iconst (pc := 97) hX (dk D_X12_walksBy 57 rfl) ?_
      refine r_isub (pc := 98) hX (dk D_X12_walksBy 58 rfl) ?_
      refine r_iload (pc := 99) hX 5 rfl (dk D_X12_walksBy 59 rfl) ?_
      refine r_isub (pc := 101) hX (dk D_X12_walksBy 60 rfl) ?_
      obtain ⟨x6, hx6, h⟩ := bd_some h
      refine r_lald (pc := 102) hX (R32_w _) hx6 (dk D_X12_walksBy 61 rfl) (fun qx6 => ?_)
      obtain ⟨_, hi, h⟩ := bd_some h
      obtain ⟨x7, μ8, hx7, h⟩ := bd2_some h
      refine r_invV0 (As := [(1, v5), (1, x2), (1, x6)]) (pc := 103) hX ml_12_346 (L_M_sumOf q_v5 qx2 qx6 hx7) (isk_u hi) (Rm_of hRm (by decide) ⟨by decide, by decide⟩) (by decide) rfl (Nat.le_of_ble_eq_true rfl) rfl (dk D_X12_walksBy 62 rfl) (fun qx7 => ?_)
      refine r_lstore (lv' := [(5, 1, x7), (0, 2, v0), (2, 0, v2), (3, 0, v3), (4, 0, v4), (7, 0, v7)]) (pc := 106) hX (by decide) rfl (dk D_X12_walksBy 63 rfl) ?_
      refine r_iinc (lv' := [(7, 0, (w32 (v7 + 1))), (5, 1, x7), (0, 2, v0), (2, 0, v2), (3, 0, v3), (4, 0, v4)]) (pc := 108) hX 5 rfl (by decide) rfl (dk D_X12_walksBy 64 rfl) ?_
      refine r_goto (pc := 111) hX 64 rfl (dk D_X12_walksBy 65 rfl) ?_
      refine r_sub (lv' := [(0, 2, v0), (2, 0, v2), (3, 0, v3), (4, 0, v4), (5, 1, x7), (7, 0, (w32 (v7 + 1)))]) [2, 3, 4, 5, 1, 0] rfl ?_
      exact ih v0 v2 v3 v4 x7 (w32 (v7 + 1)) μ8 q_v2 q_v3 q_v4 qx7 (R32_w _) h
set_option maxRecDepth 100000 in
set_option maxHeartbeats 4000000 in
theorem L_M_walksBy_L52 {E : EX} {X : CX} {res : Int} {μe : Mem} (hX : Good E X cX12_walksBy 8 "TollsBackModel") (hM : GoodM E X (some .long) (some (1, res)) μe 0 0) (hRm : cR X = rmOf 3 0 0) {k129 : Int → Int → Int → Mem → Option (Int × Mem)} (hk129 : ∀ (u0 u1 u2 : Int) (μ : Mem), R32 u1 → R32 u2 → k129 u0 u1 u2 μ = some (res, μe) → At E X cX12_walksBy 8 "TollsBackModel" (0, 0) 129 [(0, 2, u0), (2, 0, u1), (3, 0, u2)] [] μ) : ∀ (n : Nat) (v0 v2 v3 v4 : Int) (μ : Mem) (q_v2 : R32 v2) (q_v3 : R32 v3) (q_v4 : R32 v4) (h : M_walksBy_L52 k129 n v0 v2 v3 v4 μ = some (res, μe)), At E X cX12_walksBy 8 "TollsBackModel" (0, 0) 52 [(0, 2, v0), (2, 0, v2), (3, 0, v3), (4, 0, v4)] [] μ := by
  intro n
  induction n with
  | zero =>
    intro v0 v2 v3 v4 μ q_v2 q_v3 q_v4 h
    have h : (none : Option (Int × Mem)) = some (res, μe) := h
    cases h
  | succ n ih =>
    intro v0 v2 v3 v4 μ q_v2 q_v3 q_v4 h
    rw [M_walksBy_L52.eq_2] at h
    refine r_iload (pc := 52) hX 3 rfl (dk D_X12_walksBy 31 rfl) ?_
    refine r_iloadn (pc := 54) hX 1 rfl (dk D_X12_walksBy 32 rfl) ?_
    refine r_icmp_gt (pc := 55) hX q_v4 q_v2 129 rfl (dk D_X12_walksBy 33 rfl) (fun hc => ?_) (fun hc => ?_)
    · rw [if_pos hc] at h
      refine r_sub (lv' := [(0, 2, v0), (2, 0, v2), (3, 0, v3)]) [0, 1, 2] rfl ?_
      exact hk129 v0 v2 v3 μ q_v2 q_v3 h
    · rw [if_neg hc] at h
      refine r_lconst (x := 0) (pc := 58) hX (by decide) (dk D_X12_walksBy 34 rfl) ?_
      refine r_lstore (lv' := [(5, 1, 0), (0, 2, v0), (2, 0, v2), (3, 0, v3), (4, 0, v4)]) (pc := 59) hX (by decide) rfl (dk D_X12_walksBy 35 rfl) ?_
      refine r_iconst (pc := 61) hX (dk D_X12_walksBy 36 rfl) ?_
      refine r_istore (lv' := [(7, 0, 0), (5, 1, 0), (0, 2, v0), (2, 0, v2), (3, 0, v3), (4, 0, v4)]) (pc := 62) hX (by decide) rfl (dk D_X12_walksBy 37 rfl) ?_
      refine r_sub (lv' := [(0, 2, v0), (2, 0, v2), (3, 0, v3), (4, 0, v4), (5, 1, 0), (7, 0, 0)]) [2, 3, 4, 5, 1, 0] rfl ?_
      refine L_M_walksBy_L64 hX hM hRm ?_ FU v0 v2 v3 v4 0 0 μ q_v2 q_v3 q_v4 (R64_lit rfl) (R32_lit rfl) h
      intro x1 x2 x3 x4 x5 μ6 qx2 qx3 qx4 qx5 h
      refine r_aloadn (pc := 114) hX 0 rfl (dk D_X12_walksBy 66 rfl) ?_
      obtain ⟨x7, hx7, h⟩ := bd_some h
      refine r_getR (pc := 115) hX fl_12_68 rfl hx7 (dk D_X12_walksBy 67 rfl) ?_
      refine r_iload (pc := 118) hX 3 rfl (dk D_X12_walksBy 68 rfl) ?_
      refine r_lload (pc := 120) hX 4 rfl (dk D_X12_walksBy 69 rfl) ?_
      obtain ⟨μ8, hμ8, h⟩ := bd_some h
      refine r_last (pc := 122) hX qx4 qx5 hμ8 (dk D_X12_walksBy 70 rfl) ?_
      refine r_iinc (lv' := [(4, 0, (w32 (x4 + 1))), (0, 2, x1), (2, 0, x2), (3, 0, x3), (5, 1, x5)]) (pc := 123) hX 3 rfl (by decide) rfl (dk D_X12_walksBy 71 rfl) ?_
      refine r_goto (pc := 126) hX 52 rfl (dk D_X12_walksBy 72 rfl) ?_
      refine r_sub (lv' := [(0, 2, x1), (2, 0, x2), (3, 0, x3), (4, 0, (w32 (x4 + 1)))]) [1, 2, 3, 0] rfl ?_
      exact ih x1 x2 x3 (w32 (x4 + 1)) μ8 qx2 qx3 (R32_w _) h
set_option maxRecDepth 100000 in
set_option maxHeartbeats 4000000 in
theorem L_M_walksBy_L132 {E : EX} {X : CX} {res : Int} {μe : Mem} (hX : Good E X cX12_walksBy 8 "TollsBackModel") (hM : GoodM E X (some .long) (some (1, res)) μe 0 0) (hRm : cR X = rmOf 3 0 0) {k158 : Int → Int → Int → Mem → Option (Int × Mem)} (hk158 : ∀ (u0 u1 u2 : Int) (μ : Mem), R32 u1 → R32 u2 → k158 u0 u1 u2 μ = some (res, μe) → At E X cX12_walksBy 8 "TollsBackModel" (0, 0) 158 [(0, 2, u0), (2, 0, u1), (3, 0, u2)] [] μ) : ∀ (n : Nat) (v0 v2 v3 v4 : Int) (μ : Mem) (q_v2 : R32 v2) (q_v3 : R32 v3) (q_v4 : R32 v4) (h : M_walksBy_L132 k158 n v0 v2 v3 v4 μ = some (res, μe)), At E X cX12_walksBy 8 "TollsBackModel" (0, 0) 132 [(0, 2, v0), (2, 0, v2), (3, 0, v3), (4, 0, v4)] [] μ := by
  intro n
  induction n with
  | zero =>
    intro v0 v2 v3 v4 μ q_v2 q_v3 q_v4 h
    have h : (none : Option (Int × Mem)) = some (res, μe) := h
    cases h
  | succ n ih =>
    intro v0 v2 v3 v4 μ q_v2 q_v3 q_v4 h
    rw [M_walksBy_L132.eq_2] at h
    refine r_iload (pc := 132) hX 3 rfl (dk D_X12_walksBy 75 rfl) ?_
    refine r_iloadn (pc := 134) hX 1 rfl (dk D_X12_walksBy 76 rfl) ?_
    refine r_icmp_gt (pc := 135) hX q_v4 q_v2 158 rfl (dk D_X12_walksBy 77 rfl) (fun hc => ?_) (fun hc => ?_)
    · rw [if_pos hc] at h
      refine r_sub (lv' := [(0, 2, v0), (2, 0, v2), (3, 0, v3)]) [0, 1, 2] rfl ?_
      exact hk158 v0 v2 v3 μ q_v2 q_v3 h
    · rw [if_neg hc] at h
      refine r_aloadn (pc := 138) hX 0 rfl (dk D_X12_walksBy 78 rfl) ?_
      obtain ⟨x1, hx1, h⟩ := bd_some h
      refine r_getR (pc := 139) hX fl_12_65 rfl hx1 (dk D_X12_walksBy 79 rfl) ?_
      refine r_iload (pc := 142) hX 3 rfl (dk D_X12_walksBy 80 rfl) ?_
      refine r_aloadn (pc := 144) hX 0 rfl (dk D_X12_walksBy 81 rfl) ?_
      obtain ⟨x2, hx2, h⟩ := bd_some h
      refine r_getR (pc := 145) hX fl_12_68 rfl hx2 (dk D_X12_walksBy 82 rfl) ?_
      refine r_iload (pc := 148) hX 3 rfl (dk D_X12_walksBy 83 rfl) ?_
      obtain ⟨x3, hx3, h⟩ := bd_some h
      refine r_lald (pc := 150) hX q_v4 hx3 (dk D_X12_walksBy 84 rfl) (fun qx3 => ?_)
      obtain ⟨μ4, hμ4, h⟩ := bd_some h
      refine r_last (pc := 151) hX q_v4 qx3 hμ4 (dk D_X12_walksBy 85 rfl) ?_
      refine r_iinc (lv' := [(4, 0, (w32 (v4 + 1))), (0, 2, v0), (2, 0, v2), (3, 0, v3)]) (pc := 152) hX 3 rfl (by decide) rfl (dk D_X12_walksBy 86 rfl) ?_
      refine r_goto (pc := 155) hX 132 rfl (dk D_X12_walksBy 87 rfl) ?_
      refine r_sub (lv' := [(0, 2, v0), (2, 0, v2), (3, 0, v3), (4, 0, (w32 (v4 + 1)))]) [1, 2, 3, 0] rfl ?_
      exact ih v0 v2 v3 (w32 (v4 + 1)) μ4 q_v2 q_v3 (R32_w _) h
set_option maxRecDepth 100000 in
set_option maxHeartbeats 4000000 in
theorem L_M_walksBy_L41 {E : EX} {X : CX} {res : Int} {μe : Mem} (hX : Good E X cX12_walksBy 8 "TollsBackModel") (hM : GoodM E X (some .long) (some (1, res)) μe 0 0) (hRm : cR X = rmOf 3 0 0) : ∀ (n : Nat) (v0 v2 v3 : Int) (μ : Mem) (q_v2 : R32 v2) (q_v3 : R32 v3) (h : M_walksBy_L41 n v0 v2 v3 μ = some (res, μe)), At E X cX12_walksBy 8 "TollsBackModel" (0, 0) 41 [(0, 2, v0), (2, 0, v2), (3, 0, v3)] [] μ := by
  intro n
  induction n with
  | zero =>
    intro v0 v2 v3 μ q_v2 q_v3 h
    have h : (none : Option (Int × Mem)) = some (res, μe) := h
    cases h
  | succ n ih =>
    intro v0 v2 v3 μ q_v2 q_v3 h
    rw [M_walksBy_L41.eq_2] at h
    refine r_iloadn (pc := 41) hX 2 rfl (dk D_X12_walksBy 25 rfl) ?_
    refine r_aloadn (pc := 42) hX 0 rfl (dk D_X12_walksBy 26 rfl) ?_
    obtain ⟨x1, hx1, h⟩ := bd_some h
    refine r_getI (pc := 43) hX fl_12_365 rfl rfl hx1 (dk D_X12_walksBy 27 rfl) (fun qx1 => ?_)
    refine r_icmp_ge (pc := 46) hX q_v3 qx1 164 rfl (dk D_X12_walksBy 28 rfl) (fun hc => ?_) (fun hc => ?_)
    · rw [if_neg hc] at h
      refine r_aloadn (pc := 164) hX 0 rfl (dk D_X12_walksBy 90 rfl) ?_
      obtain ⟨x2, hx2, h⟩ := bd_some h
      refine r_getR (pc := 165) hX fl_12_65 rfl hx2 (dk D_X12_walksBy 91 rfl) ?_
      refine r_iloadn (pc := 168) hX 1 rfl (dk D_X12_walksBy 92 rfl) ?_
      obtain ⟨x3, hx3, h⟩ := bd_some h
      refine r_lald (pc := 169) hX q_v2 hx3 (dk D_X12_walksBy 93 rfl) (fun qx3 => ?_)
      cases h
      exact r_lreturn (pc := 170) hX qx3 hM ⟨by decide, by decide⟩ (dk D_X12_walksBy 94 rfl)
    · rw [if_pos hc] at h
      refine r_iconst (pc := 49) hX (dk D_X12_walksBy 29 rfl) ?_
      refine r_istore (lv' := [(4, 0, 0), (0, 2, v0), (2, 0, v2), (3, 0, v3)]) (pc := 50) hX (by decide) rfl (dk D_X12_walksBy 30 rfl) ?_
      refine r_sub (lv' := [(0, 2, v0), (2, 0, v2), (3, 0, v3), (4, 0, 0)]) [1, 2, 3, 0] rfl ?_
      refine L_M_walksBy_L52 hX hM hRm ?_ FU v0 v2 v3 0 μ q_v2 q_v3 (R32_lit rfl) h
      intro x4 x5 x6 μ7 qx5 qx6 h
      refine r_iconst (pc := 129) hX (dk D_X12_walksBy 73 rfl) ?_
      refine r_istore (lv' := [(4, 0, 0), (0, 2, x4), (2, 0, x5), (3, 0, x6)]) (pc := 130) hX (by decide) rfl (dk D_X12_walksBy 74 rfl) ?_
      refine r_sub (lv' := [(0, 2, x4), (2, 0, x5), (3, 0, x6), (4, 0, 0)]) [1, 2, 3, 0] rfl ?_
      refine L_M_walksBy_L132 hX hM hRm ?_ FU x4 x5 x6 0 μ7 qx5 qx6 (R32_lit rfl) h
      intro x8 x9 x10 μ11 qx9 qx10 h
      refine r_iinc (lv' := [(3, 0, (w32 (x10 + 1))), (0, 2, x8), (2, 0, x9)]) (pc := 158) hX 2 rfl (by decide) rfl (dk D_X12_walksBy 88 rfl) ?_
      refine r_goto (pc := 161) hX 41 rfl (dk D_X12_walksBy 89 rfl) ?_
      refine r_sub (lv' := [(0, 2, x8), (2, 0, x9), (3, 0, (w32 (x10 + 1)))]) [1, 2, 0] rfl ?_
      exact ih x8 x9 (w32 (x10 + 1)) μ11 qx9 (R32_w _) h
set_option maxRecDepth 100000 in
set_option maxHeartbeats 4000000 in
theorem L_M_walksBy {E : EX} {l : Launch} {a0 a1 a2 res : Int} {μ μ' : Mem} (q_a1 : R32 a1) (q_a2 : R32 a2) (h : M_walksBy a0 a1 a2 μ = some (res, μ')) : Ok E l 3 yX12_walksBy (.code yX12_walksBy cX12_walksBy 8 (some .long)) 0 0 [(2, a0), (0, a1), (0, a2)] μ (some (1, res)) μ' := by
  refine Ok.of (own := "TollsBackModel") [(0, 2, a0), (1, 0, a1), (2, 0, a2)] (by decide +kernel) rfl (Nat.le_of_ble_eq_true rfl) rfl ?_
  intro X hL hRm hin hX hM
  unfold M_walksBy at h
  subst hL
  refine r_iconst (pc := 0) hX (dk D_X12_walksBy 0 rfl) ?_
  refine r_istoren (lv' := [(3, 0, 0), (0, 2, a0), (1, 0, a1), (2, 0, a2)]) (pc := 1) hX (by decide) rfl (dk D_X12_walksBy 1 rfl) ?_
  refine r_sub (lv' := [(0, 2, a0), (1, 0, a1), (2, 0, a2), (3, 0, 0)]) [1, 2, 3, 0] rfl ?_
  refine L_M_walksBy_L2 hX hM hRm ?_ FU a0 a1 a2 0 μ q_a1 q_a2 (R32_lit rfl) h
  intro x1 x2 μ3 qx2 h
  refine r_iconst (pc := 39) hX (dk D_X12_walksBy 23 rfl) ?_
  refine r_istoren (lv' := [(3, 0, 0), (0, 2, x1), (2, 0, x2)]) (pc := 40) hX (by decide) rfl (dk D_X12_walksBy 24 rfl) ?_
  refine r_sub (lv' := [(0, 2, x1), (2, 0, x2), (3, 0, 0)]) [1, 2, 0] rfl ?_
  refine L_M_walksBy_L41 hX hM hRm FU x1 x2 0 μ3 qx2 (R32_lit rfl) h
set_option maxRecDepth 100000 in
set_option maxHeartbeats 4000000 in
theorem L_M_journeys_L110 {E : EX} {X : CX} {res : Int} {μe : Mem} (hX : Good E X cX12_journeys 4 "TollsBackModel") (hM : GoodM E X (some .int) (some (0, res)) μe 0 0) (hRm : cR X = rmOf 4 0 0) {k142 : Int → Int → Mem → Option (Int × Mem)} (hk142 : ∀ (u0 u1 : Int) (μ : Mem), R32 u1 → k142 u0 u1 μ = some (res, μe) → At E X cX12_journeys 4 "TollsBackModel" (0, 0) 142 [(0, 2, u0), (2, 0, u1)] [] μ) : ∀ (n : Nat) (v0 v1 v2 v3 : Int) (μ : Mem) (q_v1 : R32 v1) (q_v2 : R32 v2) (q_v3 : R32 v3) (h : M_journeys_L110 k142 n v0 v1 v2 v3 μ = some (res, μe)), At E X cX12_journeys 4 "TollsBackModel" (0, 0) 110 [(0, 2, v0), (1, 0, v1), (2, 0, v2), (3, 0, v3)] [] μ := by
  intro n
  induction n with
  | zero =>
    intro v0 v1 v2 v3 μ q_v1 q_v2 q_v3 h
    have h : (none : Option (Int × Mem)) = some (res, μe) := h
    cases h
  | succ n ih =>
    intro v0 v1 v2 v3 μ q_v1 q_v2 q_v3 h
    rw [M_journeys_L110.eq_2] at h
    refine r_iloadn (pc := 110) hX 3 rfl (dk D_X12_journeys 64 rfl) ?_
    refine r_aloadn (pc := 111) hX 0 rfl (dk D_X12_journeys 65 rfl) ?_
    obtain ⟨x1, hx1, h⟩ := bd_some h
    refine r_getI (pc := 112) hX fl_12_365 rfl rfl hx1 (dk D_X12_journeys 66 rfl) (fun qx1 => ?_)
    refine r_icmp_ge (pc := 115) hX q_v3 qx1 142 rfl (dk D_X12_journeys 67 rfl) (fun hc => ?_) (fun hc => ?_)
    · rw [if_neg hc] at h
      refine r_sub (lv' := [(0, 2, v0), (2, 0, v2)]) [0, 2] rfl ?_
      exact hk142 v0 v2 μ q_v2 h
    · rw [if_pos hc] at h
      refine r_aloadn (pc := 118) hX 0 rfl (dk D_X12_journeys 68 rfl) ?_
      obtain ⟨x2, hx2, h⟩ := bd_some h
      refine r_getR (pc := 119) hX fl_12_71 rfl hx2 (dk D_X12_journeys 69 rfl) ?_
      refine r_iloadn (pc := 122) hX 3 rfl (dk D_X12_journeys 70 rfl) ?_
      refine r_aloadn (pc := 123) hX 0 rfl (dk D_X12_journeys 71 rfl) ?_
      obtain ⟨x3, hx3, h⟩ := bd_some h
      refine r_getR (pc := 124) hX fl_12_108 rfl hx3 (dk D_X12_journeys 72 rfl) ?_
      refine r_bipush (pc := 127) hX rfl (dk D_X12_journeys 73 rfl) ?_
      refine r_iloadn (pc := 129) hX 1 rfl (dk D_X12_journeys 74 rfl) ?_
      refine r_imul (pc := 130) hX (dk D_X12_journeys 75 rfl) ?_
      refine r_iloadn (pc := 131) hX 3 rfl (dk D_X12_journeys 76 rfl) ?_
      refine r_iadd (pc := 132) hX (dk D_X12_journeys 77 rfl) ?_
      obtain ⟨x4, hx4, h⟩ := bd_some h
      refine r_lald (pc := 133) hX (R32_w _) hx4 (dk D_X12_journeys 78 rfl) (fun qx4 => ?_)
      refine r_l2i (pc := 134) hX qx4 (dk D_X12_journeys 79 rfl) ?_
      obtain ⟨μ5, hμ5, h⟩ := bd_some h
      refine r_iast (pc := 135) hX q_v3 (R32_w _) hμ5 (dk D_X12_journeys 80 rfl) ?_
      refine r_iinc (lv' := [(3, 0, (w32 (v3 + 1))), (0, 2, v0), (1, 0, v1), (2, 0, v2)]) (pc := 136) hX 3 rfl (by decide) rfl (dk D_X12_journeys 81 rfl) ?_
      refine r_goto (pc := 139) hX 110 rfl (dk D_X12_journeys 82 rfl) ?_
      refine r_sub (lv' := [(0, 2, v0), (1, 0, v1), (2, 0, v2), (3, 0, (w32 (v3 + 1)))]) [1, 2, 3, 0] rfl ?_
      exact ih v0 v1 v2 (w32 (v3 + 1)) μ5 q_v1 q_v2 (R32_w _) h
set_option maxRecDepth 100000 in
set_option maxHeartbeats 4000000 in
theorem L_M_journeys {E : EX} {l : Launch} {a0 a1 a2 res : Int} {μ μ' : Mem} (q_a1 : R32 a1) (q_a2 : R32 a2) (h : M_journeys a0 a1 a2 μ = some (res, μ')) : Ok E l 4 yX12_journeys (.code yX12_journeys cX12_journeys 4 (some .int)) 0 0 [(2, a0), (0, a1), (0, a2)] μ (some (0, res)) μ' := by
  refine Ok.of (own := "TollsBackModel") [(0, 2, a0), (1, 0, a1), (2, 0, a2)] (by decide +kernel) rfl (Nat.le_of_ble_eq_true rfl) rfl ?_
  intro X hL hRm hin hX hM
  unfold M_journeys at h
  subst hL
  refine r_aloadn (pc := 0) hX 0 rfl (dk D_X12_journeys 0 rfl) ?_
  refine r_iconst (pc := 1) hX (dk D_X12_journeys 1 rfl) ?_
  obtain ⟨μ1, hμ1, h⟩ := bd_some h
  refine r_putI (pc := 2) hX fl_12_1 rfl rfl (R32_lit rfl) trivial hμ1 (dk D_X12_journeys 2 rfl) ?_
  refine r_iloadn (pc := 5) hX 1 rfl (dk D_X12_journeys 3 rfl) ?_
  refine r_i2l (pc := 6) hX q_a1 (dk D_X12_journeys 4 rfl) ?_
  refine r_lconst (x := 0) (pc := 7) hX (by decide) (dk D_X12_journeys 5 rfl) ?_
  refine r_ldc2 (pc := 8) hX cn_12_274 (dk D_X12_journeys 6 rfl) ?_
  obtain ⟨x2, μ3, hx2, h⟩ := bd2_some h
  refine r_invS0 (As := [(1, a1), (1, 0), (1, 3)]) (pc := 11) hX ml_12_178 (L_M_within (R64_of q_a1) (R64_lit rfl) (R64_lit rfl) hx2) (Rm_of hRm (by decide) ⟨by decide, by decide⟩) (by decide) rfl (Nat.le_of_ble_eq_true rfl) rfl (dk D_X12_journeys 7 rfl) (fun qx2 => ?_)
  refine r_if_ne (pc := 14) hX qx2 20 rfl (dk D_X12_journeys 8 rfl) (fun hc => ?_) (fun hc => ?_)
  · rw [if_neg hc] at h
    refine r_aloadn (pc := 20) hX 0 rfl (dk D_X12_journeys 11 rfl) ?_
    obtain ⟨x4, hx4, h⟩ := bd_some h
    refine r_getR (pc := 21) hX fl_12_13 rfl hx4 (dk D_X12_journeys 12 rfl) ?_
    refine r_iconst (pc := 24) hX (dk D_X12_journeys 13 rfl) ?_
    obtain ⟨x5, hx5, h⟩ := bd_some h
    refine r_iald (pc := 25) hX (R32_lit rfl) hx5 (dk D_X12_journeys 14 rfl) (fun qx5 => ?_)
    refine r_if_ne (pc := 26) hX qx5 32 rfl (dk D_X12_journeys 15 rfl) (fun hc => ?_) (fun hc => ?_)
    · rw [if_neg hc] at h
      refine r_aloadn (pc := 32) hX 0 rfl (dk D_X12_journeys 18 rfl) ?_
      obtain ⟨x6, hx6, h⟩ := bd_some h
      refine r_getR (pc := 33) hX fl_12_102 rfl hx6 (dk D_X12_journeys 19 rfl) ?_
      refine r_iloadn (pc := 36) hX 1 rfl (dk D_X12_journeys 20 rfl) ?_
      obtain ⟨x7, hx7, h⟩ := bd_some h
      refine r_iald (pc := 37) hX q_a1 hx7 (dk D_X12_journeys 21 rfl) (fun qx7 => ?_)
      refine r_iconst (pc := 38) hX (dk D_X12_journeys 22 rfl) ?_
      refine r_icmp_ne (pc := 39) hX qx7 (R32_lit rfl) 45 rfl (dk D_X12_journeys 23 rfl) (fun hc => ?_) (fun hc => ?_)
      · rw [if_neg hc] at h
        refine r_aloadn (pc := 45) hX 0 rfl (dk D_X12_journeys 26 rfl) ?_
        refine r_iloadn (pc := 46) hX 1 rfl (dk D_X12_journeys 27 rfl) ?_
        obtain ⟨_, hi, h⟩ := bd_some h
        obtain ⟨x8, μ9, hx8, h⟩ := bd2_some h
        refine r_invV0 (As := [(0, a1)]) (pc := 47) hX ml_12_354 (L_M_isSlips q_a1 hx8) (isk_u hi) (Rm_of hRm (by decide) ⟨by decide, by decide⟩) (by decide) rfl (Nat.le_of_ble_eq_true rfl) rfl (dk D_X12_journeys 28 rfl) (fun qx8 => ?_)
        refine r_if_eq (pc := 50) hX qx8 65 rfl (dk D_X12_journeys 29 rfl) (fun hc => ?_) (fun hc => ?_)
        · rw [if_pos hc] at h
          refine r_bipush (pc := 65) hX rfl (dk D_X12_journeys 36 rfl) ?_
          cases h
          exact r_ireturn (pc := 67) hX (R32_lit rfl) hM ⟨by decide, by decide⟩ (dk D_X12_journeys 37 rfl)
        · rw [if_neg hc] at h
          refine r_iloadn (pc := 53) hX 2 rfl (dk D_X12_journeys 30 rfl) ?_
          refine r_i2l (pc := 54) hX q_a2 (dk D_X12_journeys 31 rfl) ?_
          refine r_lconst (x := 0) (pc := 55) hX (by decide) (dk D_X12_journeys 32 rfl) ?_
          refine r_ldc2 (pc := 56) hX cn_12_357 (dk D_X12_journeys 33 rfl) ?_
          obtain ⟨x10, μ11, hx10, h⟩ := bd2_some h
          refine r_invS0 (As := [(1, a2), (1, 0), (1, 40)]) (pc := 59) hX ml_12_178 (L_M_within (R64_of q_a2) (R64_lit rfl) (R64_lit rfl) hx10) (Rm_of hRm (by decide) ⟨by decide, by decide⟩) (by decide) rfl (Nat.le_of_ble_eq_true rfl) rfl (dk D_X12_journeys 34 rfl) (fun qx10 => ?_)
          refine r_if_ne (pc := 62) hX qx10 68 rfl (dk D_X12_journeys 35 rfl) (fun hc => ?_) (fun hc => ?_)
          · rw [if_neg hc] at h
            refine r_aloadn (pc := 68) hX 0 rfl (dk D_X12_journeys 38 rfl) ?_
            refine r_iloadn (pc := 69) hX 1 rfl (dk D_X12_journeys 39 rfl) ?_
            obtain ⟨_, hi, h⟩ := bd_some h
            obtain ⟨x12, μ13, hx12, h⟩ := bd2_some h
            refine r_invV0 (As := [(0, a1)]) (pc := 70) hX ml_12_359 (L_M_canBeLeft q_a1 hx12) (isk_u hi) (Rm_of hRm (by decide) ⟨by decide, by decide⟩) (by decide) rfl (Nat.le_of_ble_eq_true rfl) rfl (dk D_X12_journeys 40 rfl) (fun qx12 => ?_)
            refine r_if_eq (pc := 73) hX qx12 86 rfl (dk D_X12_journeys 41 rfl) (fun hc => ?_) (fun hc => ?_)
            · rw [if_pos hc] at h
              refine r_iconst (pc := 86) hX (dk D_X12_journeys 48 rfl) ?_
              cases h
              exact r_ireturn (pc := 87) hX (R32_lit rfl) hM ⟨by decide, by decide⟩ (dk D_X12_journeys 49 rfl)
            · rw [if_neg hc] at h
              refine r_aloadn (pc := 76) hX 0 rfl (dk D_X12_journeys 42 rfl) ?_
              obtain ⟨x14, hx14, h⟩ := bd_some h
              refine r_getR (pc := 77) hX fl_12_105 rfl hx14 (dk D_X12_journeys 43 rfl) ?_
              refine r_iloadn (pc := 80) hX 1 rfl (dk D_X12_journeys 44 rfl) ?_
              obtain ⟨x15, hx15, h⟩ := bd_some h
              refine r_iald (pc := 81) hX q_a1 hx15 (dk D_X12_journeys 45 rfl) (fun qx15 => ?_)
              refine r_iloadn (pc := 82) hX 2 rfl (dk D_X12_journeys 46 rfl) ?_
              refine r_icmp_le (pc := 83) hX qx15 q_a2 88 rfl (dk D_X12_journeys 47 rfl) (fun hc => ?_) (fun hc => ?_)
              · rw [if_neg hc] at h
                refine r_aloadn (pc := 88) hX 0 rfl (dk D_X12_journeys 50 rfl) ?_
                refine r_iconst (pc := 89) hX (dk D_X12_journeys 51 rfl) ?_
                obtain ⟨μ16, hμ16, h⟩ := bd_some h
                refine r_putI (pc := 90) hX fl_12_339 rfl rfl (R32_lit rfl) (Or.inl rfl) hμ16 (dk D_X12_journeys 52 rfl) ?_
                refine r_aloadn (pc := 93) hX 0 rfl (dk D_X12_journeys 53 rfl) ?_
                refine r_iloadn (pc := 94) hX 2 rfl (dk D_X12_journeys 54 rfl) ?_
                obtain ⟨_, hi, h⟩ := bd_some h
                obtain ⟨x17, μ18, hx17, h⟩ := bd2_some h
                refine r_invV0 (As := [(0, a2)]) (pc := 95) hX ml_12_362 (L_M_laysRounds q_a2 hx17) (isk_u hi) (Rm_of hRm (by decide) ⟨by decide, by decide⟩) (by decide) rfl (Nat.le_of_ble_eq_true rfl) rfl (dk D_X12_journeys 55 rfl) (fun _ => ?_)
                refine r_aloadn (pc := 98) hX 0 rfl (dk D_X12_journeys 56 rfl) ?_
                refine r_aloadn (pc := 99) hX 0 rfl (dk D_X12_journeys 57 rfl) ?_
                obtain ⟨x19, hx19, h⟩ := bd_some h
                refine r_getR (pc := 100) hX fl_12_105 rfl hx19 (dk D_X12_journeys 58 rfl) ?_
                refine r_iloadn (pc := 103) hX 1 rfl (dk D_X12_journeys 59 rfl) ?_
                obtain ⟨x20, hx20, h⟩ := bd_some h
                refine r_iald (pc := 104) hX q_a1 hx20 (dk D_X12_journeys 60 rfl) (fun qx20 => ?_)
                obtain ⟨μ21, hμ21, h⟩ := bd_some h
                refine r_putI (pc := 105) hX fl_12_365 rfl rfl qx20 trivial hμ21 (dk D_X12_journeys 61 rfl) ?_
                refine r_iconst (pc := 108) hX (dk D_X12_journeys 62 rfl) ?_
                refine r_istoren (lv' := [(3, 0, 0), (0, 2, a0), (1, 0, a1), (2, 0, a2)]) (pc := 109) hX (by decide) rfl (dk D_X12_journeys 63 rfl) ?_
                refine r_sub (lv' := [(0, 2, a0), (1, 0, a1), (2, 0, a2), (3, 0, 0)]) [1, 2, 3, 0] rfl ?_
                refine L_M_journeys_L110 hX hM hRm ?_ FU a0 a1 a2 0 μ21 q_a1 q_a2 (R32_lit rfl) h
                intro x22 x23 μ24 qx23 h
                refine r_aloadn (pc := 142) hX 0 rfl (dk D_X12_journeys 83 rfl) ?_
                refine r_aloadn (pc := 143) hX 0 rfl (dk D_X12_journeys 84 rfl) ?_
                obtain ⟨x25, hx25, h⟩ := bd_some h
                refine r_getR (pc := 144) hX fl_12_13 rfl hx25 (dk D_X12_journeys 85 rfl) ?_
                refine r_iconst (pc := 147) hX (dk D_X12_journeys 86 rfl) ?_
                obtain ⟨x26, hx26, h⟩ := bd_some h
                refine r_iald (pc := 148) hX (R32_lit rfl) hx26 (dk D_X12_journeys 87 rfl) (fun qx26 => ?_)
                refine r_iloadn (pc := 149) hX 1 rfl (dk D_X12_journeys 88 rfl) ?_
                obtain ⟨_, hi, h⟩ := bd_some h
                obtain ⟨x27, μ28, hx27, h⟩ := bd2_some h
                refine r_invV0 (As := [(0, x26), (0, x23)]) (pc := 150) hX ml_12_368 (L_M_walksBy qx26 qx23 hx27) (isk_u hi) (Rm_of hRm (by decide) ⟨by decide, by decide⟩) (by decide) rfl (Nat.le_of_ble_eq_true rfl) rfl (dk D_X12_journeys 89 rfl) (fun qx27 => ?_)
                refine r_l2i (pc := 153) hX qx27 (dk D_X12_journeys 90 rfl) ?_
                cases h
                exact r_ireturn (pc := 154) hX (R32_w _) hM ⟨by decide, by decide⟩ (dk D_X12_journeys 91 rfl)
              · rw [if_pos hc] at h
                refine r_iconst (pc := 86) hX (dk D_X12_journeys 48 rfl) ?_
                cases h
                exact r_ireturn (pc := 87) hX (R32_lit rfl) hM ⟨by decide, by decide⟩ (dk D_X12_journeys 49 rfl)
          · rw [if_pos hc] at h
            refine r_bipush (pc := 65) hX rfl (dk D_X12_journeys 36 rfl) ?_
            cases h
            exact r_ireturn (pc := 67) hX (R32_lit rfl) hM ⟨by decide, by decide⟩ (dk D_X12_journeys 37 rfl)
      · rw [if_pos hc] at h
        refine r_bipush (pc := 42) hX rfl (dk D_X12_journeys 24 rfl) ?_
        cases h
        exact r_ireturn (pc := 44) hX (R32_lit rfl) hM ⟨by decide, by decide⟩ (dk D_X12_journeys 25 rfl)
    · rw [if_pos hc] at h
      refine r_bipush (pc := 29) hX rfl (dk D_X12_journeys 16 rfl) ?_
      cases h
      exact r_ireturn (pc := 31) hX (R32_lit rfl) hM ⟨by decide, by decide⟩ (dk D_X12_journeys 17 rfl)
  · rw [if_pos hc] at h
    refine r_bipush (pc := 17) hX rfl (dk D_X12_journeys 9 rfl) ?_
    cases h
    exact r_ireturn (pc := 19) hX (R32_lit rfl) hM ⟨by decide, by decide⟩ (dk D_X12_journeys 10 rfl)
set_option maxRecDepth 100000 in
set_option maxHeartbeats 4000000 in
theorem L_M_laysWay_L2 {E : EX} {X : CX} {res : Int} {μe : Mem} (hX : Good E X cX12_laysWay 4 "TollsBackModel") (hM : GoodM E X none none μe 0 0) (hRm : cR X = rmOf 1 0 0) {k48 : Int → Int → Int → Mem → Option (Int × Mem)} (hk48 : ∀ (u0 u1 u2 : Int) (μ : Mem), R32 u1 → R32 u2 → k48 u0 u1 u2 μ = some (res, μe) → At E X cX12_laysWay 4 "TollsBackModel" (0, 0) 48 [(0, 2, u0), (1, 0, u1), (2, 0, u2)] [] μ) : ∀ (n : Nat) (v0 v1 v2 : Int) (μ : Mem) (q_v1 : R32 v1) (q_v2 : R32 v2) (h : M_laysWay_L2 k48 n v0 v1 v2 μ = some (res, μe)), At E X cX12_laysWay 4 "TollsBackModel" (0, 0) 2 [(0, 2, v0), (1, 0, v1), (2, 0, v2)] [] μ := by
  intro n
  induction n with
  | zero =>
    intro v0 v1 v2 μ q_v1 q_v2 h
    have h : (none : Option (Int × Mem)) = some (res, μe) := h
    cases h
  | succ n ih =>
    intro v0 v1 v2 μ q_v1 q_v2 h
    rw [M_laysWay_L2.eq_2] at h
    refine r_iloadn (pc := 2) hX 2 rfl (dk D_X12_laysWay 2 rfl) ?_
    refine r_aloadn (pc := 3) hX 0 rfl (dk D_X12_laysWay 3 rfl) ?_
    obtain ⟨x1, hx1, h⟩ := bd_some h
    refine r_getI (pc := 4) hX fl_12_372 rfl rfl hx1 (dk D_X12_laysWay 4 rfl) (fun qx1 => ?_)
    refine r_icmp_ge (pc := 7) hX q_v2 qx1 48 rfl (dk D_X12_laysWay 5 rfl) (fun hc => ?_) (fun hc => ?_)
    · rw [if_neg hc] at h
      exact hk48 v0 v1 v2 μ q_v1 q_v2 h
    · rw [if_pos hc] at h
      refine r_iloadn (pc := 10) hX 2 rfl (dk D_X12_laysWay 6 rfl) ?_
      refine r_aloadn (pc := 11) hX 0 rfl (dk D_X12_laysWay 7 rfl) ?_
      obtain ⟨x2, hx2, h⟩ := bd_some h
      refine r_getR (pc := 12) hX fl_12_105 rfl hx2 (dk D_X12_laysWay 8 rfl) ?_
      refine r_iloadn (pc := 15) hX 1 rfl (dk D_X12_laysWay 9 rfl) ?_
      obtain ⟨x3, hx3, h⟩ := bd_some h
      refine r_iald (pc := 16) hX q_v1 hx3 (dk D_X12_laysWay 10 rfl) (fun qx3 => ?_)
      refine r_icmp_ge (pc := 17) hX q_v2 qx3 48 rfl (dk D_X12_laysWay 11 rfl) (fun hc => ?_) (fun hc => ?_)
      · rw [if_neg hc] at h
        exact hk48 v0 v1 v2 μ q_v1 q_v2 h
      · rw [if_pos hc] at h
        refine r_aloadn (pc := 20) hX 0 rfl (dk D_X12_laysWay 12 rfl) ?_
        obtain ⟨x4, hx4, h⟩ := bd_some h
        refine r_getR (pc := 21) hX fl_12_74 rfl hx4 (dk D_X12_laysWay 13 rfl) ?_
        refine r_iloadn (pc := 24) hX 2 rfl (dk D_X12_laysWay 14 rfl) ?_
        obtain ⟨x5, hx5, h⟩ := bd_some h
        refine r_iald (pc := 25) hX q_v2 hx5 (dk D_X12_laysWay 15 rfl) (fun qx5 => ?_)
        refine r_i2l (pc := 26) hX qx5 (dk D_X12_laysWay 16 rfl) ?_
        refine r_aloadn (pc := 27) hX 0 rfl (dk D_X12_laysWay 17 rfl) ?_
        obtain ⟨x6, hx6, h⟩ := bd_some h
        refine r_getR (pc := 28) hX fl_12_108 rfl hx6 (dk D_X12_laysWay 18 rfl) ?_
        refine r_bipush (pc := 31) hX rfl (dk D_X12_laysWay 19 rfl) ?_
        refine r_iloadn (pc := 33) hX 1 rfl (dk D_X12_laysWay 20 rfl) ?_
        refine r_imul (pc := 34) hX (dk D_X12_laysWay 21 rfl) ?_
        refine r_iloadn (pc := 35) hX 2 rfl (dk D_X12_laysWay 22 rfl) ?_
        refine r_iadd (pc := 36) hX (dk D_X12_laysWay 23 rfl) ?_
        obtain ⟨x7, hx7, h⟩ := bd_some h
        refine r_lald (pc := 37) hX (R32_w _) hx7 (dk D_X12_laysWay 24 rfl) (fun qx7 => ?_)
        refine r_lcmp (pc := 38) hX (R64_of qx5) qx7 (dk D_X12_laysWay 25 rfl) ?_
        refine r_if_ne (pc := 39) hX (R32_cmp _ _) 48 rfl (dk D_X12_laysWay 26 rfl) (fun hc => ?_) (fun hc => ?_)
        · rw [if_neg hc] at h
          exact hk48 v0 v1 v2 μ q_v1 q_v2 h
        · rw [if_pos hc] at h
          refine r_iinc (lv' := [(2, 0, (w32 (v2 + 1))), (0, 2, v0), (1, 0, v1)]) (pc := 42) hX 2 rfl (by decide) rfl (dk D_X12_laysWay 27 rfl) ?_
          refine r_goto (pc := 45) hX 2 rfl (dk D_X12_laysWay 28 rfl) ?_
          refine r_sub (lv' := [(0, 2, v0), (1, 0, v1), (2, 0, (w32 (v2 + 1)))]) [1, 2, 0] rfl ?_
          exact ih v0 v1 (w32 (v2 + 1)) μ q_v1 (R32_w _) h
set_option maxRecDepth 100000 in
set_option maxHeartbeats 4000000 in
theorem L_M_laysWay_L60 {E : EX} {X : CX} {res : Int} {μe : Mem} (hX : Good E X cX12_laysWay 4 "TollsBackModel") (hM : GoodM E X none none μe 0 0) (hRm : cR X = rmOf 1 0 0) {k98 : Int → Int → Int → Mem → Option (Int × Mem)} (hk98 : ∀ (u0 u1 u2 : Int) (μ : Mem), R32 u1 → R32 u2 → k98 u0 u1 u2 μ = some (res, μe) → At E X cX12_laysWay 4 "TollsBackModel" (0, 0) 98 [(0, 2, u0), (1, 0, u1), (2, 0, u2)] [] μ) : ∀ (n : Nat) (v0 v1 v2 v3 : Int) (μ : Mem) (q_v1 : R32 v1) (q_v2 : R32 v2) (q_v3 : R32 v3) (h : M_laysWay_L60 k98 n v0 v1 v2 v3 μ = some (res, μe)), At E X cX12_laysWay 4 "TollsBackModel" (0, 0) 60 [(0, 2, v0), (1, 0, v1), (2, 0, v2), (3, 0, v3)] [] μ := by
  intro n
  induction n with
  | zero =>
    intro v0 v1 v2 v3 μ q_v1 q_v2 q_v3 h
    have h : (none : Option (Int × Mem)) = some (res, μe) := h
    cases h
  | succ n ih =>
    intro v0 v1 v2 v3 μ q_v1 q_v2 q_v3 h
    rw [M_laysWay_L60.eq_2] at h
    refine r_iloadn (pc := 60) hX 3 rfl (dk D_X12_laysWay 37 rfl) ?_
    refine r_iloadn (pc := 61) hX 2 rfl (dk D_X12_laysWay 38 rfl) ?_
    refine r_icmp_lt (pc := 62) hX q_v3 q_v2 98 rfl (dk D_X12_laysWay 39 rfl) (fun hc => ?_) (fun hc => ?_)
    · rw [if_pos hc] at h
      refine r_sub (lv' := [(0, 2, v0), (1, 0, v1), (2, 0, v2)]) [0, 1, 2] rfl ?_
      exact hk98 v0 v1 v2 μ q_v1 q_v2 h
    · rw [if_neg hc] at h
      refine r_aloadn (pc := 65) hX 0 rfl (dk D_X12_laysWay 40 rfl) ?_
      obtain ⟨x1, hx1, h⟩ := bd_some h
      refine r_getR (pc := 66) hX fl_12_71 rfl hx1 (dk D_X12_laysWay 41 rfl) ?_
      refine r_aloadn (pc := 69) hX 0 rfl (dk D_X12_laysWay 42 rfl) ?_
      obtain ⟨x2, hx2, h⟩ := bd_some h
      refine r_getI (pc := 70) hX fl_12_365 rfl rfl hx2 (dk D_X12_laysWay 43 rfl) (fun qx2 => ?_)
      refine r_aloadn (pc := 73) hX 0 rfl (dk D_X12_laysWay 44 rfl) ?_
      obtain ⟨x3, hx3, h⟩ := bd_some h
      refine r_getR (pc := 74) hX fl_12_74 rfl hx3 (dk D_X12_laysWay 45 rfl) ?_
      refine r_iloadn (pc := 77) hX 3 rfl (dk D_X12_laysWay 46 rfl) ?_
      obtain ⟨x4, hx4, h⟩ := bd_some h
      refine r_iald (pc := 78) hX q_v3 hx4 (dk D_X12_laysWay 47 rfl) (fun qx4 => ?_)
      refine r_iconst (pc := 79) hX (dk D_X12_laysWay 48 rfl) ?_
      refine r_ixor (pc := 80) hX (dk D_X12_laysWay 49 rfl) ?_
      obtain ⟨μ5, hμ5, h⟩ := bd_some h
      refine r_iast (pc := 81) hX qx2 (R32_t _) hμ5 (dk D_X12_laysWay 50 rfl) ?_
      refine r_aloadn (pc := 82) hX 0 rfl (dk D_X12_laysWay 51 rfl) ?_
      refine r_dup (pc := 83) hX rfl (dk D_X12_laysWay 52 rfl) ?_
      obtain ⟨x6, hx6, h⟩ := bd_some h
      refine r_getI (pc := 84) hX fl_12_365 rfl rfl hx6 (dk D_X12_laysWay 53 rfl) (fun qx6 => ?_)
      refine r_iconst (pc := 87) hX (dk D_X12_laysWay 54 rfl) ?_
      refine r_iadd (pc := 88) hX (dk D_X12_laysWay 55 rfl) ?_
      obtain ⟨μ7, hμ7, h⟩ := bd_some h
      refine r_putI (pc := 89) hX fl_12_365 rfl rfl (R32_w _) trivial hμ7 (dk D_X12_laysWay 56 rfl) ?_
      refine r_iinc (lv' := [(3, 0, (w32 (v3 + (-1)))), (0, 2, v0), (1, 0, v1), (2, 0, v2)]) (pc := 92) hX 3 rfl (by decide) rfl (dk D_X12_laysWay 57 rfl) ?_
      refine r_goto (pc := 95) hX 60 rfl (dk D_X12_laysWay 58 rfl) ?_
      refine r_sub (lv' := [(0, 2, v0), (1, 0, v1), (2, 0, v2), (3, 0, (w32 (v3 + (-1))))]) [1, 2, 3, 0] rfl ?_
      exact ih v0 v1 v2 (w32 (v3 + (-1))) μ7 q_v1 q_v2 (R32_w _) h
set_option maxRecDepth 100000 in
set_option maxHeartbeats 4000000 in
theorem L_M_laysWay_L100 {E : EX} {X : CX} {res : Int} {μe : Mem} (hX : Good E X cX12_laysWay 4 "TollsBackModel") (hM : GoodM E X none none μe 0 0) (hRm : cR X = rmOf 1 0 0) : ∀ (n : Nat) (v0 v1 v3 : Int) (μ : Mem) (q_v1 : R32 v1) (q_v3 : R32 v3) (h : M_laysWay_L100 n v0 v1 v3 μ = some (res, μe)), At E X cX12_laysWay 4 "TollsBackModel" (0, 0) 100 [(0, 2, v0), (1, 0, v1), (3, 0, v3)] [] μ := by
  intro n
  induction n with
  | zero =>
    intro v0 v1 v3 μ q_v1 q_v3 h
    have h : (none : Option (Int × Mem)) = some (res, μe) := h
    cases h
  | succ n ih =>
    intro v0 v1 v3 μ q_v1 q_v3 h
    rw [M_laysWay_L100.eq_2] at h
    refine r_iloadn (pc := 100) hX 2 rfl (dk D_X12_laysWay 61 rfl) ?_
    refine r_aloadn (pc := 101) hX 0 rfl (dk D_X12_laysWay 62 rfl) ?_
    obtain ⟨x1, hx1, h⟩ := bd_some h
    refine r_getR (pc := 102) hX fl_12_105 rfl hx1 (dk D_X12_laysWay 63 rfl) ?_
    refine r_iloadn (pc := 105) hX 1 rfl (dk D_X12_laysWay 64 rfl) ?_
    obtain ⟨x2, hx2, h⟩ := bd_some h
    refine r_iald (pc := 106) hX q_v1 hx2 (dk D_X12_laysWay 65 rfl) (fun qx2 => ?_)
    refine r_icmp_ge (pc := 107) hX q_v3 qx2 147 rfl (dk D_X12_laysWay 66 rfl) (fun hc => ?_) (fun hc => ?_)
    · rw [if_neg hc] at h
      cases h
      exact r_return (pc := 147) hX hM ⟨by decide, by decide⟩ (dk D_X12_laysWay 89 rfl)
    · rw [if_pos hc] at h
      refine r_aloadn (pc := 110) hX 0 rfl (dk D_X12_laysWay 67 rfl) ?_
      obtain ⟨x3, hx3, h⟩ := bd_some h
      refine r_getR (pc := 111) hX fl_12_71 rfl hx3 (dk D_X12_laysWay 68 rfl) ?_
      refine r_aloadn (pc := 114) hX 0 rfl (dk D_X12_laysWay 69 rfl) ?_
      obtain ⟨x4, hx4, h⟩ := bd_some h
      refine r_getI (pc := 115) hX fl_12_365 rfl rfl hx4 (dk D_X12_laysWay 70 rfl) (fun qx4 => ?_)
      refine r_aloadn (pc := 118) hX 0 rfl (dk D_X12_laysWay 71 rfl) ?_
      obtain ⟨x5, hx5, h⟩ := bd_some h
      refine r_getR (pc := 119) hX fl_12_108 rfl hx5 (dk D_X12_laysWay 72 rfl) ?_
      refine r_bipush (pc := 122) hX rfl (dk D_X12_laysWay 73 rfl) ?_
      refine r_iloadn (pc := 124) hX 1 rfl (dk D_X12_laysWay 74 rfl) ?_
      refine r_imul (pc := 125) hX (dk D_X12_laysWay 75 rfl) ?_
      refine r_iloadn (pc := 126) hX 2 rfl (dk D_X12_laysWay 76 rfl) ?_
      refine r_iadd (pc := 127) hX (dk D_X12_laysWay 77 rfl) ?_
      obtain ⟨x6, hx6, h⟩ := bd_some h
      refine r_lald (pc := 128) hX (R32_w _) hx6 (dk D_X12_laysWay 78 rfl) (fun qx6 => ?_)
      refine r_l2i (pc := 129) hX qx6 (dk D_X12_laysWay 79 rfl) ?_
      obtain ⟨μ7, hμ7, h⟩ := bd_some h
      refine r_iast (pc := 130) hX qx4 (R32_w _) hμ7 (dk D_X12_laysWay 80 rfl) ?_
      refine r_aloadn (pc := 131) hX 0 rfl (dk D_X12_laysWay 81 rfl) ?_
      refine r_dup (pc := 132) hX rfl (dk D_X12_laysWay 82 rfl) ?_
      obtain ⟨x8, hx8, h⟩ := bd_some h
      refine r_getI (pc := 133) hX fl_12_365 rfl rfl hx8 (dk D_X12_laysWay 83 rfl) (fun qx8 => ?_)
      refine r_iconst (pc := 136) hX (dk D_X12_laysWay 84 rfl) ?_
      refine r_iadd (pc := 137) hX (dk D_X12_laysWay 85 rfl) ?_
      obtain ⟨μ9, hμ9, h⟩ := bd_some h
      refine r_putI (pc := 138) hX fl_12_365 rfl rfl (R32_w _) trivial hμ9 (dk D_X12_laysWay 86 rfl) ?_
      refine r_iinc (lv' := [(3, 0, (w32 (v3 + 1))), (0, 2, v0), (1, 0, v1)]) (pc := 141) hX 2 rfl (by decide) rfl (dk D_X12_laysWay 87 rfl) ?_
      refine r_goto (pc := 144) hX 100 rfl (dk D_X12_laysWay 88 rfl) ?_
      refine r_sub (lv' := [(0, 2, v0), (1, 0, v1), (3, 0, (w32 (v3 + 1)))]) [1, 2, 0] rfl ?_
      exact ih v0 v1 (w32 (v3 + 1)) μ9 q_v1 (R32_w _) h
set_option maxRecDepth 100000 in
set_option maxHeartbeats 4000000 in
theorem L_M_laysWay_J48 {E : EX} {X : CX} {res : Int} {μe : Mem} (hX : Good E X cX12_laysWay 4 "TollsBackModel") (hM : GoodM E X none none μe 0 0) (hRm : cR X = rmOf 1 0 0) {v0 v1 v2 : Int} {μ : Mem} (q_v1 : R32 v1) (q_v2 : R32 v2) (h : M_laysWay_J48 v0 v1 v2 μ = some (res, μe)) : At E X cX12_laysWay 4 "TollsBackModel" (0, 0) 48 [(0, 2, v0), (1, 0, v1), (2, 0, v2)] [] μ := by
  unfold M_laysWay_J48 at h
  refine r_aloadn (pc := 48) hX 0 rfl (dk D_X12_laysWay 29 rfl) ?_
  refine r_iconst (pc := 49) hX (dk D_X12_laysWay 30 rfl) ?_
  obtain ⟨μ1, hμ1, h⟩ := bd_some h
  refine r_putI (pc := 50) hX fl_12_365 rfl rfl (R32_lit rfl) trivial hμ1 (dk D_X12_laysWay 31 rfl) ?_
  refine r_aloadn (pc := 53) hX 0 rfl (dk D_X12_laysWay 32 rfl) ?_
  obtain ⟨x2, hx2, h⟩ := bd_some h
  refine r_getI (pc := 54) hX fl_12_372 rfl rfl hx2 (dk D_X12_laysWay 33 rfl) (fun qx2 => ?_)
  refine r_iconst (pc := 57) hX (dk D_X12_laysWay 34 rfl) ?_
  refine r_isub (pc := 58) hX (dk D_X12_laysWay 35 rfl) ?_
  obtain ⟨x3, ex3, h⟩ := bd_some h
  replace ex3 := Option.some.inj ex3
  have qx3 : R32 x3 := ex3 ▸ (R32_w _)
  rw [ex3]
  refine r_istoren (lv' := [(3, 0, x3), (0, 2, v0), (1, 0, v1), (2, 0, v2)]) (pc := 59) hX (by decide) rfl (dk D_X12_laysWay 36 rfl) ?_
  refine r_sub (lv' := [(0, 2, v0), (1, 0, v1), (2, 0, v2), (3, 0, x3)]) [1, 2, 3, 0] rfl ?_
  refine L_M_laysWay_L60 hX hM hRm ?_ FU v0 v1 v2 x3 μ1 q_v1 q_v2 qx3 h
  intro x4 x5 x6 μ7 qx5 qx6 h
  refine r_iloadn (pc := 98) hX 2 rfl (dk D_X12_laysWay 59 rfl) ?_
  refine r_istoren (lv' := [(3, 0, x6), (0, 2, x4), (1, 0, x5), (2, 0, x6)]) (pc := 99) hX (by decide) rfl (dk D_X12_laysWay 60 rfl) ?_
  refine r_sub (lv' := [(0, 2, x4), (1, 0, x5), (3, 0, x6)]) [1, 2, 0] rfl ?_
  refine L_M_laysWay_L100 hX hM hRm FU x4 x5 x6 μ7 qx5 qx6 h
set_option maxRecDepth 100000 in
set_option maxHeartbeats 4000000 in
theorem L_M_laysWay {E : EX} {l : Launch} {a0 a1 res : Int} {μ μ' : Mem} (q_a1 : R32 a1) (h : M_laysWay a0 a1 μ = some (res, μ')) : Ok E l 1 yX12_laysWay (.code yX12_laysWay cX12_laysWay 4 none) 0 0 [(2, a0), (0, a1)] μ none μ' := by
  refine Ok.of (own := "TollsBackModel") [(0, 2, a0), (1, 0, a1)] (by decide +kernel) rfl (Nat.le_of_ble_eq_true rfl) rfl ?_
  intro X hL hRm hin hX hM
  unfold M_laysWay at h
  subst hL
  refine r_iconst (pc := 0) hX (dk D_X12_laysWay 0 rfl) ?_
  refine r_istoren (lv' := [(2, 0, 0), (0, 2, a0), (1, 0, a1)]) (pc := 1) hX (by decide) rfl (dk D_X12_laysWay 1 rfl) ?_
  refine r_sub (lv' := [(0, 2, a0), (1, 0, a1), (2, 0, 0)]) [1, 2, 0] rfl ?_
  refine L_M_laysWay_L2 hX hM hRm ?_ FU a0 a1 0 μ q_a1 (R32_lit rfl) h
  intro x1 x2 x3 μ4 qx2 qx3 h
  refine L_M_laysWay_J48 hX hM hRm qx2 qx3 h
set_option maxRecDepth 100000 in
set_option maxHeartbeats 4000000 in
theorem L_M_journey_L152 {E : EX} {X : CX} {res : Int} {μe : Mem} (hX : Good E X cX12_journey 15 "TollsBackModel") (hM : GoodM E X (some .int) (some (0, res)) μe 0 0) (hRm : cR X = rmOf 4 0 0) {k376 : Int → Int → Int → Int → Int → Int → Int → Mem → Option (Int × Mem)} (hk376 : ∀ (u0 u1 u2 u3 u4 u5 u6 : Int) (μ : Mem), R32 u1 → R32 u2 → R32 u3 → R32 u4 → R64 u5 → R32 u6 → k376 u0 u1 u2 u3 u4 u5 u6 μ = some (res, μe) → At E X cX12_journey 15 "TollsBackModel" (0, 0) 376 [(0, 2, u0), (1, 0, u1), (2, 0, u2), (4, 0, u3), (5, 0, u4), (6, 1, u5), (8, 0, u6)] [] μ) : ∀ (n : Nat) (v0 v1 v2 v4 v5 v6 v8 v9 v10 : Int) (μ : Mem) (q_v1 : R32 v1) (q_v2 : R32 v2) (q_v4 : R32 v4) (q_v5 : R32 v5) (q_v6 : R64 v6) (q_v8 : R32 v8) (q_v9 : R32 v9) (q_v10 : R32 v10) (h : M_journey_L152 k376 n v0 v1 v2 v4 v5 v6 v8 v9 v10 μ = some (res, μe)), At E X cX12_journey 15 "TollsBackModel" (0, 0) 152 [(0, 2, v0), (1, 0, v1), (2, 0, v2), (4, 0, v4), (5, 0, v5), (6, 1, v6), (8, 0, v8), (9, 0, v9), (10, 0, v10)] [] μ := by
  intro n
  induction n with
  | zero =>
    intro v0 v1 v2 v4 v5 v6 v8 v9 v10 μ q_v1 q_v2 q_v4 q_v5 q_v6 q_v8 q_v9 q_v10 h
    have h : (none : Option (Int × Mem)) = some (res, μe) := h
    cases h
  | succ n ih =>
    intro v0 v1 v2 v4 v5 v6 v8 v9 v10 μ q_v1 q_v2 q_v4 q_v5 q_v6 q_v8 q_v9 q_v10 h
    rw [M_journey_L152.eq_2] at h
    refine r_iload (pc := 152) hX 8 rfl (dk D_X12_journey 90 rfl) ?_
    refine r_if_ne (pc := 154) hX q_v10 376 rfl (dk D_X12_journey 91 rfl) (fun hc => ?_) (fun hc => ?_)
    · rw [if_neg hc] at h
      refine r_sub (lv' := [(0, 2, v0), (1, 0, v1), (2, 0, v2), (4, 0, v4), (5, 0, v5), (6, 1, v6), (8, 0, v8)]) [0, 1, 2, 3, 4, 5, 6] rfl ?_
      exact hk376 v0 v1 v2 v4 v5 v6 v8 μ q_v1 q_v2 q_v4 q_v5 q_v6 q_v8 h
    · rw [if_pos hc] at h
      refine r_aloadn (pc := 157) hX 0 rfl (dk D_X12_journey 92 rfl) ?_
      refine r_iload (pc := 158) hX 7 rfl (dk D_X12_journey 93 rfl) ?_
      obtain ⟨_, hi, h⟩ := bd_some h
      obtain ⟨x1, μ2, hx1, h⟩ := bd2_some h
      refine r_invV0 (As := [(0, v9)]) (pc := 160) hX ml_12_213 (L_M_isOpen q_v9 hx1) (isk_u hi) (Rm_of hRm (by decide) ⟨by decide, by decide⟩) (by decide) rfl (Nat.le_of_ble_eq_true rfl) rfl (dk D_X12_journey 94 rfl) (fun qx1 => ?_)
      refine r_if_eq (pc := 163) hX qx1 370 rfl (dk D_X12_journey 95 rfl) (fun hc => ?_) (fun hc => ?_)
      · rw [if_pos hc] at h
        refine r_iinc (lv' := [(9, 0, (w32 (v9 + 1))), (0, 2, v0), (1, 0, v1), (2, 0, v2), (4, 0, v4), (5, 0, v5), (6, 1, v6), (8, 0, v8), (10, 0, v10)]) (pc := 370) hX 7 rfl (by decide) rfl (dk D_X12_journey 206 rfl) ?_
        refine r_goto (pc := 373) hX 152 rfl (dk D_X12_journey 207 rfl) ?_
        refine r_sub (lv' := [(0, 2, v0), (1, 0, v1), (2, 0, v2), (4, 0, v4), (5, 0, v5), (6, 1, v6), (8, 0, v8), (9, 0, (w32 (v9 + 1))), (10, 0, v10)]) [1, 2, 3, 4, 5, 6, 7, 0, 8] rfl ?_
        exact ih v0 v1 v2 v4 v5 v6 v8 (w32 (v9 + 1)) v10 μ2 q_v1 q_v2 q_v4 q_v5 q_v6 q_v8 (R32_w _) q_v10 h
      · rw [if_neg hc] at h
        refine r_aloadn (pc := 166) hX 0 rfl (dk D_X12_journey 96 rfl) ?_
        refine r_iload (pc := 167) hX 7 rfl (dk D_X12_journey 97 rfl) ?_
        refine r_iload (pc := 169) hX 4 rfl (dk D_X12_journey 98 rfl) ?_
        obtain ⟨_, hi, h⟩ := bd_some h
        obtain ⟨x3, μ4, hx3, h⟩ := bd2_some h
        refine r_invV0 (As := [(0, v9), (0, v5)]) (pc := 171) hX ml_12_216 (L_M_leads q_v9 q_v5 hx3) (isk_u hi) (Rm_of hRm (by decide) ⟨by decide, by decide⟩) (by decide) rfl (Nat.le_of_ble_eq_true rfl) rfl (dk D_X12_journey 99 rfl) (fun qx3 => ?_)
        refine r_if_eq (pc := 174) hX qx3 370 rfl (dk D_X12_journey 100 rfl) (fun hc => ?_) (fun hc => ?_)
        · rw [if_pos hc] at h
          refine r_iinc (lv' := [(9, 0, (w32 (v9 + 1))), (0, 2, v0), (1, 0, v1), (2, 0, v2), (4, 0, v4), (5, 0, v5), (6, 1, v6), (8, 0, v8), (10, 0, v10)]) (pc := 370) hX 7 rfl (by decide) rfl (dk D_X12_journey 206 rfl) ?_
          refine r_goto (pc := 373) hX 152 rfl (dk D_X12_journey 207 rfl) ?_
          refine r_sub (lv' := [(0, 2, v0), (1, 0, v1), (2, 0, v2), (4, 0, v4), (5, 0, v5), (6, 1, v6), (8, 0, v8), (9, 0, (w32 (v9 + 1))), (10, 0, v10)]) [1, 2, 3, 4, 5, 6, 7, 0, 8] rfl ?_
          exact ih v0 v1 v2 v4 v5 v6 v8 (w32 (v9 + 1)) v10 μ4 q_v1 q_v2 q_v4 q_v5 q_v6 q_v8 (R32_w _) q_v10 h
        · rw [if_neg hc] at h
          refine r_aloadn (pc := 177) hX 0 rfl (dk D_X12_journey 101 rfl) ?_
          refine r_iload (pc := 178) hX 7 rfl (dk D_X12_journey 102 rfl) ?_
          refine r_iload (pc := 180) hX 4 rfl (dk D_X12_journey 103 rfl) ?_
          obtain ⟨_, hi, h⟩ := bd_some h
          obtain ⟨x5, μ6, hx5, h⟩ := bd2_some h
          refine r_invV0 (As := [(0, v9), (0, v5)]) (pc := 182) hX ml_12_249 (L_M_dartBy q_v9 q_v5 hx5) (isk_u hi) (Rm_of hRm (by decide) ⟨by decide, by decide⟩) (by decide) rfl (Nat.le_of_ble_eq_true rfl) rfl (dk D_X12_journey 104 rfl) (fun qx5 => ?_)
          refine r_istore (lv' := [(11, 0, x5), (0, 2, v0), (1, 0, v1), (2, 0, v2), (4, 0, v4), (5, 0, v5), (6, 1, v6), (8, 0, v8), (9, 0, v9), (10, 0, v10)]) (pc := 185) hX (by decide) rfl (dk D_X12_journey 105 rfl) ?_
          refine r_aloadn (pc := 187) hX 1 rfl (dk D_X12_journey 106 rfl) ?_
          obtain ⟨x7, hx7, h⟩ := bd_some h
          refine r_getI (pc := 188) hX fl_12_372 rfl rfl hx7 (dk D_X12_journey 107 rfl) (fun qx7 => ?_)
          obtain ⟨y8, hb, h⟩ := bd_some h
          have hj : R32 y8 → At E X cX12_journey 15 "TollsBackModel" (0, 0) 217 [(0, 2, v0), (1, 0, v1), (2, 0, v2), (4, 0, v4), (5, 0, v5), (6, 1, v6), (8, 0, v8), (9, 0, v9), (11, 0, x5)] [(0, y8)] μ6 := by
            intro qy8
            clear hb
            refine r_istore (lv' := [(12, 0, y8), (0, 2, v0), (1, 0, v1), (2, 0, v2), (4, 0, v4), (5, 0, v5), (6, 1, v6), (8, 0, v8), (9, 0, v9), (11, 0, x5)]) (pc := 217) hX (by decide) rfl (dk D_X12_journey 123 rfl) ?_
            refine r_iload (pc := 219) hX 0 rfl (dk D_X12_journey 124 rfl) ?_
            obtain ⟨μ12, hb, h⟩ := bd_some h
            have hj : At E X cX12_journey 15 "TollsBackModel" (0, 0) 258 [(0, 2, v0), (1, 0, v1), (2, 0, v2), (4, 0, v4), (5, 0, v5), (6, 1, v6), (8, 0, v8), (9, 0, v9), (11, 0, x5), (12, 0, y8)] [] μ12 := by
              clear hb
              refine r_aloadn (pc := 258) hX 0 rfl (dk D_X12_journey 145 rfl) ?_
              refine r_iloadn (pc := 259) hX 1 rfl (dk D_X12_journey 146 rfl) ?_
              obtain ⟨_, hi, h⟩ := bd_some h
              obtain ⟨x20, μ21, hx20, h⟩ := bd2_some h
              refine r_invV0 (As := [(0, v1)]) (pc := 260) hX ml_12_378 (L_M_laysWay q_v1 hx20) (isk_u hi) (Rm_of hRm (by decide) ⟨by decide, by decide⟩) (by decide) rfl (Nat.le_of_ble_eq_true rfl) rfl (dk D_X12_journey 147 rfl) (fun _ => ?_)
              refine r_aloadn (pc := 263) hX 0 rfl (dk D_X12_journey 148 rfl) ?_
              refine r_aloadn (pc := 264) hX 0 rfl (dk D_X12_journey 149 rfl) ?_
              refine r_iload (pc := 265) hX 8 rfl (dk D_X12_journey 150 rfl) ?_
              obtain ⟨_, hi, h⟩ := bd_some h
              obtain ⟨x22, μ23, hx22, h⟩ := bd2_some h
              refine r_invV0 (As := [(0, x5)]) (pc := 267) hX ml_12_243 (L_M_headOf qx5 hx22) (isk_u hi) (Rm_of hRm (by decide) ⟨by decide, by decide⟩) (by decide) rfl (Nat.le_of_ble_eq_true rfl) rfl (dk D_X12_journey 151 rfl) (fun qx22 => ?_)
              refine r_iloadn (pc := 270) hX 2 rfl (dk D_X12_journey 152 rfl) ?_
              refine r_iload (pc := 271) hX 6 rfl (dk D_X12_journey 153 rfl) ?_
              refine r_isub (pc := 273) hX (dk D_X12_journey 154 rfl) ?_
              refine r_iconst (pc := 274) hX (dk D_X12_journey 155 rfl) ?_
              refine r_isub (pc := 275) hX (dk D_X12_journey 156 rfl) ?_
              obtain ⟨_, hi, h⟩ := bd_some h
              obtain ⟨x24, μ25, hx24, h⟩ := bd2_some h
              refine r_invV0 (As := [(0, x22), (0, (w32 ((w32 (v2 - v8)) - 1)))]) (pc := 276) hX ml_12_368 (L_M_walksBy qx22 (R32_w _) hx24) (isk_u hi) (Rm_of hRm (by decide) ⟨by decide, by decide⟩) (by decide) rfl (Nat.le_of_ble_eq_true rfl) rfl (dk D_X12_journey 157 rfl) (fun qx24 => ?_)
              refine r_lstore (lv' := [(13, 1, x24), (0, 2, v0), (1, 0, v1), (2, 0, v2), (4, 0, v4), (5, 0, v5), (6, 1, v6), (8, 0, v8), (9, 0, v9), (11, 0, x5), (12, 0, y8)]) (pc := 279) hX (by decide) rfl (dk D_X12_journey 158 rfl) ?_
              refine r_lload (pc := 281) hX 0 rfl (dk D_X12_journey 159 rfl) ?_
              refine r_lload (pc := 283) hX 6 rfl (dk D_X12_journey 160 rfl) ?_
              refine r_lcmp (pc := 285) hX qx24 q_v6 (dk D_X12_journey 161 rfl) ?_
              obtain ⟨y26, hb, h⟩ := bd_some h
              have hj : R32 y26 → At E X cX12_journey 15 "TollsBackModel" (0, 0) 294 [(0, 2, v0), (1, 0, v1), (2, 0, v2), (4, 0, v4), (5, 0, v5), (6, 1, v6), (8, 0, v8), (9, 0, v9), (11, 0, x5), (12, 0, y8), (13, 1, x24)] [(0, y26)] μ25 := by
                intro qy26
                clear hb
                refine r_istore (lv' := [(10, 0, y26), (0, 2, v0), (1, 0, v1), (2, 0, v2), (4, 0, v4), (5, 0, v5), (6, 1, v6), (8, 0, v8), (9, 0, v9), (11, 0, x5), (12, 0, y8), (13, 1, x24)]) (pc := 294) hX (by decide) rfl (dk D_X12_journey 166 rfl) ?_
                refine r_iload (pc := 296) hX 0 rfl (dk D_X12_journey 167 rfl) ?_
                refine r_if_eq (pc := 298) hX qy26 322 rfl (dk D_X12_journey 168 rfl) (fun hc => ?_) (fun hc => ?_)
                · rw [if_pos hc] at h
                  refine r_lload (pc := 322) hX 6 rfl (dk D_X12_journey 179 rfl) ?_
                  refine r_lload (pc := 324) hX 11 rfl (dk D_X12_journey 180 rfl) ?_
                  refine r_lsub (pc := 326) hX (dk D_X12_journey 181 rfl) ?_
                  obtain ⟨x27, ex27, h⟩ := bd_some h
                  replace ex27 := Option.some.inj ex27
                  have qx27 : R64 x27 := ex27 ▸ (R64_w _)
                  rw [ex27]
                  refine r_lstore (lv' := [(6, 1, x27), (10, 0, y26), (0, 2, v0), (1, 0, v1), (2, 0, v2), (4, 0, v4), (5, 0, v5), (8, 0, v8), (9, 0, v9), (11, 0, x5), (12, 0, y8), (13, 1, x24)]) (pc := 327) hX (by decide) rfl (dk D_X12_journey 182 rfl) ?_
                  refine r_iload (pc := 329) hX 10 rfl (dk D_X12_journey 183 rfl) ?_
                  refine r_if_eq (pc := 331) hX qy8 360 rfl (dk D_X12_journey 184 rfl) (fun hc => ?_) (fun hc => ?_)
                  · rw [if_pos hc] at h
                    refine r_aloadn (pc := 360) hX 2 rfl (dk D_X12_journey 200 rfl) ?_
                    refine r_dup (pc := 361) hX rfl (dk D_X12_journey 201 rfl) ?_
                    obtain ⟨x28, hx28, h⟩ := bd_some h
                    refine r_getI (pc := 362) hX fl_12_372 rfl rfl hx28 (dk D_X12_journey 202 rfl) (fun qx28 => ?_)
                    refine r_iconst (pc := 365) hX (dk D_X12_journey 203 rfl) ?_
                    refine r_isub (pc := 366) hX (dk D_X12_journey 204 rfl) ?_
                    obtain ⟨μ29, hμ29, h⟩ := bd_some h
                    refine r_putI (pc := 367) hX fl_12_372 rfl rfl (R32_w _) trivial hμ29 (dk D_X12_journey 205 rfl) ?_
                    refine r_iinc (lv' := [(9, 0, (w32 (v9 + 1))), (6, 1, x27), (10, 0, y26), (0, 2, v0), (1, 0, v1), (2, 0, v2), (4, 0, v4), (5, 0, v5), (8, 0, v8), (11, 0, x5), (12, 0, y8), (13, 1, x24)]) (pc := 370) hX 8 rfl (by decide) rfl (dk D_X12_journey 206 rfl) ?_
                    refine r_goto (pc := 373) hX 152 rfl (dk D_X12_journey 207 rfl) ?_
                    refine r_sub (lv' := [(0, 2, v0), (1, 0, v1), (2, 0, v2), (4, 0, v4), (5, 0, v5), (6, 1, x27), (8, 0, v8), (9, 0, (w32 (v9 + 1))), (10, 0, y26)]) [3, 4, 5, 6, 7, 1, 8, 0, 2] rfl ?_
                    exact ih v0 v1 v2 v4 v5 x27 v8 (w32 (v9 + 1)) y26 μ29 q_v1 q_v2 q_v4 q_v5 qx27 q_v8 (R32_w _) qy26 h
                  · rw [if_neg hc] at h
                    refine r_aloadn (pc := 334) hX 2 rfl (dk D_X12_journey 185 rfl) ?_
                    obtain ⟨x30, hx30, h⟩ := bd_some h
                    refine r_getR (pc := 335) hX fl_12_74 rfl hx30 (dk D_X12_journey 186 rfl) ?_
                    refine r_aloadn (pc := 338) hX 2 rfl (dk D_X12_journey 187 rfl) ?_
                    obtain ⟨x31, hx31, h⟩ := bd_some h
                    refine r_getI (pc := 339) hX fl_12_372 rfl rfl hx31 (dk D_X12_journey 188 rfl) (fun qx31 => ?_)
                    refine r_iload (pc := 342) hX 9 rfl (dk D_X12_journey 189 rfl) ?_
                    refine r_iconst (pc := 344) hX (dk D_X12_journey 190 rfl) ?_
                    refine r_ixor (pc := 345) hX (dk D_X12_journey 191 rfl) ?_
                    obtain ⟨μ32, hμ32, h⟩ := bd_some h
                    refine r_iast (pc := 346) hX qx31 (R32_t _) hμ32 (dk D_X12_journey 192 rfl) ?_
                    refine r_aloadn (pc := 347) hX 2 rfl (dk D_X12_journey 193 rfl) ?_
                    refine r_dup (pc := 348) hX rfl (dk D_X12_journey 194 rfl) ?_
                    obtain ⟨x33, hx33, h⟩ := bd_some h
                    refine r_getI (pc := 349) hX fl_12_372 rfl rfl hx33 (dk D_X12_journey 195 rfl) (fun qx33 => ?_)
                    refine r_iconst (pc := 352) hX (dk D_X12_journey 196 rfl) ?_
                    refine r_iadd (pc := 353) hX (dk D_X12_journey 197 rfl) ?_
                    obtain ⟨μ34, hμ34, h⟩ := bd_some h
                    refine r_putI (pc := 354) hX fl_12_372 rfl rfl (R32_w _) trivial hμ34 (dk D_X12_journey 198 rfl) ?_
                    refine r_goto (pc := 357) hX 370 rfl (dk D_X12_journey 199 rfl) ?_
                    refine r_iinc (lv' := [(9, 0, (w32 (v9 + 1))), (6, 1, x27), (10, 0, y26), (0, 2, v0), (1, 0, v1), (2, 0, v2), (4, 0, v4), (5, 0, v5), (8, 0, v8), (11, 0, x5), (12, 0, y8), (13, 1, x24)]) (pc := 370) hX 8 rfl (by decide) rfl (dk D_X12_journey 206 rfl) ?_
                    refine r_goto (pc := 373) hX 152 rfl (dk D_X12_journey 207 rfl) ?_
                    refine r_sub (lv' := [(0, 2, v0), (1, 0, v1), (2, 0, v2), (4, 0, v4), (5, 0, v5), (6, 1, x27), (8, 0, v8), (9, 0, (w32 (v9 + 1))), (10, 0, y26)]) [3, 4, 5, 6, 7, 1, 8, 0, 2] rfl ?_
                    exact ih v0 v1 v2 v4 v5 x27 v8 (w32 (v9 + 1)) y26 μ34 q_v1 q_v2 q_v4 q_v5 qx27 q_v8 (R32_w _) qy26 h
                · rw [if_neg hc] at h
                  refine r_iload (pc := 301) hX 7 rfl (dk D_X12_journey 169 rfl) ?_
                  refine r_iload (pc := 303) hX 4 rfl (dk D_X12_journey 170 rfl) ?_
                  refine r_icmp_ne (pc := 305) hX q_v8 q_v4 311 rfl (dk D_X12_journey 171 rfl) (fun hc => ?_) (fun hc => ?_)
                  · rw [if_neg hc] at h
                    refine r_aloadn (pc := 311) hX 1 rfl (dk D_X12_journey 174 rfl) ?_
                    refine r_iload (pc := 312) hX 9 rfl (dk D_X12_journey 175 rfl) ?_
                    obtain ⟨_, hi, h⟩ := bd_some h
                    obtain ⟨x35, μ36, hx35, h⟩ := bd2_some h
                    refine r_invV0 (As := [(0, x5)]) (pc := 314) hX ml_12_243 (L_M_headOf qx5 hx35) (isk_u hi) (Rm_of hRm (by decide) ⟨by decide, by decide⟩) (by decide) rfl (Nat.le_of_ble_eq_true rfl) rfl (dk D_X12_journey 176 rfl) (fun qx35 => ?_)
                    refine r_istore (lv' := [(5, 0, x35), (10, 0, y26), (0, 2, v0), (1, 0, v1), (2, 0, v2), (4, 0, v4), (6, 1, v6), (8, 0, v8), (9, 0, v9), (11, 0, x5), (12, 0, y8), (13, 1, x24)]) (pc := 317) hX (by decide) rfl (dk D_X12_journey 177 rfl) ?_
                    refine r_goto (pc := 319) hX 152 rfl (dk D_X12_journey 178 rfl) ?_
                    refine r_sub (lv' := [(0, 2, v0), (1, 0, v1), (2, 0, v2), (4, 0, v4), (5, 0, x35), (6, 1, v6), (8, 0, v8), (9, 0, v9), (10, 0, y26)]) [2, 3, 4, 5, 0, 6, 7, 8, 1] rfl ?_
                    exact ih v0 v1 v2 v4 x35 v6 v8 v9 y26 μ36 q_v1 q_v2 q_v4 qx35 q_v6 q_v8 q_v9 qy26 h
                  · rw [if_pos hc] at h
                    refine r_iload (pc := 308) hX 8 rfl (dk D_X12_journey 172 rfl) ?_
                    cases h
                    exact r_ireturn (pc := 310) hX q_v9 hM ⟨by decide, by decide⟩ (dk D_X12_journey 173 rfl)
              clear h
              have h := hb
              clear hb
              refine r_if_le (pc := 286) hX (R32_cmp _ _) 293 rfl (dk D_X12_journey 162 rfl) (fun hc => ?_) (fun hc => ?_)
              · rw [if_neg hc] at h
                refine r_iconst (pc := 293) hX (dk D_X12_journey 165 rfl) ?_
                replace h := Option.some.inj h
                subst y26
                refine r_sub (lv' := [(0, 2, v0), (1, 0, v1), (2, 0, v2), (4, 0, v4), (5, 0, v5), (6, 1, v6), (8, 0, v8), (9, 0, v9), (11, 0, x5), (12, 0, y8), (13, 1, x24)]) [1, 2, 3, 4, 5, 6, 7, 8, 9, 10, 0] rfl ?_
                exact hj (R32_lit rfl)
              · rw [if_pos hc] at h
                refine r_iconst (pc := 289) hX (dk D_X12_journey 163 rfl) ?_
                refine r_goto (pc := 290) hX 294 rfl (dk D_X12_journey 164 rfl) ?_
                replace h := Option.some.inj h
                subst y26
                refine r_sub (lv' := [(0, 2, v0), (1, 0, v1), (2, 0, v2), (4, 0, v4), (5, 0, v5), (6, 1, v6), (8, 0, v8), (9, 0, v9), (11, 0, x5), (12, 0, y8), (13, 1, x24)]) [1, 2, 3, 4, 5, 6, 7, 8, 9, 10, 0] rfl ?_
                exact hj (R32_lit rfl)
            clear h
            have h := hb
            clear hb
            refine r_if_eq (pc := 221) hX qy8 237 rfl (dk D_X12_journey 125 rfl) (fun hc => ?_) (fun hc => ?_)
            · rw [if_pos hc] at h
              refine r_aloadn (pc := 237) hX 1 rfl (dk D_X12_journey 133 rfl) ?_
              obtain ⟨x13, hx13, h⟩ := bd_some h
              refine r_getR (pc := 238) hX fl_12_74 rfl hx13 (dk D_X12_journey 134 rfl) ?_
              refine r_aloadn (pc := 241) hX 1 rfl (dk D_X12_journey 135 rfl) ?_
              obtain ⟨x14, hx14, h⟩ := bd_some h
              refine r_getI (pc := 242) hX fl_12_372 rfl rfl hx14 (dk D_X12_journey 136 rfl) (fun qx14 => ?_)
              refine r_iload (pc := 245) hX 9 rfl (dk D_X12_journey 137 rfl) ?_
              obtain ⟨μ15, hμ15, h⟩ := bd_some h
              refine r_iast (pc := 247) hX qx14 qx5 hμ15 (dk D_X12_journey 138 rfl) ?_
              refine r_aloadn (pc := 248) hX 1 rfl (dk D_X12_journey 139 rfl) ?_
              refine r_dup (pc := 249) hX rfl (dk D_X12_journey 140 rfl) ?_
              obtain ⟨x16, hx16, h⟩ := bd_some h
              refine r_getI (pc := 250) hX fl_12_372 rfl rfl hx16 (dk D_X12_journey 141 rfl) (fun qx16 => ?_)
              refine r_iconst (pc := 253) hX (dk D_X12_journey 142 rfl) ?_
              refine r_iadd (pc := 254) hX (dk D_X12_journey 143 rfl) ?_
              obtain ⟨μ17, hμ17, h⟩ := bd_some h
              refine r_putI (pc := 255) hX fl_12_372 rfl rfl (R32_w _) trivial hμ17 (dk D_X12_journey 144 rfl) ?_
              replace h := Option.some.inj h
              subst μ12
              refine r_sub (lv' := [(0, 2, v0), (1, 0, v1), (2, 0, v2), (4, 0, v4), (5, 0, v5), (6, 1, v6), (8, 0, v8), (9, 0, v9), (11, 0, x5), (12, 0, y8)]) [1, 2, 3, 4, 5, 6, 7, 8, 9, 0] rfl ?_
              exact hj
            · rw [if_neg hc] at h
              refine r_aloadn (pc := 224) hX 1 rfl (dk D_X12_journey 126 rfl) ?_
              refine r_dup (pc := 225) hX rfl (dk D_X12_journey 127 rfl) ?_
              obtain ⟨x18, hx18, h⟩ := bd_some h
              refine r_getI (pc := 226) hX fl_12_372 rfl rfl hx18 (dk D_X12_journey 128 rfl) (fun qx18 => ?_)
              refine r_iconst (pc := 229) hX (dk D_X12_journey 129 rfl) ?_
              refine r_isub (pc := 230) hX (dk D_X12_journey 130 rfl) ?_
              obtain ⟨μ19, hμ19, h⟩ := bd_some h
              refine r_putI (pc := 231) hX fl_12_372 rfl rfl (R32_w _) trivial hμ19 (dk D_X12_journey 131 rfl) ?_
              refine r_goto (pc := 234) hX 258 rfl (dk D_X12_journey 132 rfl) ?_
              replace h := Option.some.inj h
              subst μ12
              refine r_sub (lv' := [(0, 2, v0), (1, 0, v1), (2, 0, v2), (4, 0, v4), (5, 0, v5), (6, 1, v6), (8, 0, v8), (9, 0, v9), (11, 0, x5), (12, 0, y8)]) [1, 2, 3, 4, 5, 6, 7, 8, 9, 0] rfl ?_
              exact hj
          clear h
          have h := hb
          clear hb
          refine r_if_le (pc := 191) hX qx7 216 rfl (dk D_X12_journey 108 rfl) (fun hc => ?_) (fun hc => ?_)
          · rw [if_neg hc] at h
            refine r_iconst (pc := 216) hX (dk D_X12_journey 122 rfl) ?_
            replace h := Option.some.inj h
            subst y8
            refine r_sub (lv' := [(0, 2, v0), (1, 0, v1), (2, 0, v2), (4, 0, v4), (5, 0, v5), (6, 1, v6), (8, 0, v8), (9, 0, v9), (11, 0, x5)]) [1, 2, 3, 4, 5, 6, 7, 8, 0] rfl ?_
            exact hj (R32_lit rfl)
          · rw [if_pos hc] at h
            refine r_aloadn (pc := 194) hX 1 rfl (dk D_X12_journey 109 rfl) ?_
            obtain ⟨x9, hx9, h⟩ := bd_some h
            refine r_getR (pc := 195) hX fl_12_74 rfl hx9 (dk D_X12_journey 110 rfl) ?_
            refine r_aloadn (pc := 198) hX 1 rfl (dk D_X12_journey 111 rfl) ?_
            obtain ⟨x10, hx10, h⟩ := bd_some h
            refine r_getI (pc := 199) hX fl_12_372 rfl rfl hx10 (dk D_X12_journey 112 rfl) (fun qx10 => ?_)
            refine r_iconst (pc := 202) hX (dk D_X12_journey 113 rfl) ?_
            refine r_isub (pc := 203) hX (dk D_X12_journey 114 rfl) ?_
            obtain ⟨x11, hx11, h⟩ := bd_some h
            refine r_iald (pc := 204) hX (R32_w _) hx11 (dk D_X12_journey 115 rfl) (fun qx11 => ?_)
            refine r_iload (pc := 205) hX 0 rfl (dk D_X12_journey 116 rfl) ?_
            refine r_iconst (pc := 207) hX (dk D_X12_journey 117 rfl) ?_
            refine r_ixor (pc := 208) hX (dk D_X12_journey 118 rfl) ?_
            refine r_icmp_ne (pc := 209) hX qx11 (R32_t _) 216 rfl (dk D_X12_journey 119 rfl) (fun hc => ?_) (fun hc => ?_)
            · rw [if_neg hc] at h
              refine r_iconst (pc := 216) hX (dk D_X12_journey 122 rfl) ?_
              replace h := Option.some.inj h
              subst y8
              refine r_sub (lv' := [(0, 2, v0), (1, 0, v1), (2, 0, v2), (4, 0, v4), (5, 0, v5), (6, 1, v6), (8, 0, v8), (9, 0, v9), (11, 0, x5)]) [1, 2, 3, 4, 5, 6, 7, 8, 0] rfl ?_
              exact hj (R32_lit rfl)
            · rw [if_pos hc] at h
              refine r_iconst (pc := 212) hX (dk D_X12_journey 120 rfl) ?_
              refine r_goto (pc := 213) hX 217 rfl (dk D_X12_journey 121 rfl) ?_
              replace h := Option.some.inj h
              subst y8
              refine r_sub (lv' := [(0, 2, v0), (1, 0, v1), (2, 0, v2), (4, 0, v4), (5, 0, v5), (6, 1, v6), (8, 0, v8), (9, 0, v9), (11, 0, x5)]) [1, 2, 3, 4, 5, 6, 7, 8, 0] rfl ?_
              exact hj (R32_lit rfl)
set_option maxRecDepth 100000 in
set_option maxHeartbeats 4000000 in
theorem L_M_journey_L146 {E : EX} {X : CX} {res : Int} {μe : Mem} (hX : Good E X cX12_journey 15 "TollsBackModel") (hM : GoodM E X (some .int) (some (0, res)) μe 0 0) (hRm : cR X = rmOf 4 0 0) : ∀ (n : Nat) (v0 v1 v2 v4 v5 v6 v8 : Int) (μ : Mem) (q_v1 : R32 v1) (q_v2 : R32 v2) (q_v4 : R32 v4) (q_v5 : R32 v5) (q_v6 : R64 v6) (q_v8 : R32 v8) (h : M_journey_L146 n v0 v1 v2 v4 v5 v6 v8 μ = some (res, μe)), At E X cX12_journey 15 "TollsBackModel" (0, 0) 146 [(0, 2, v0), (1, 0, v1), (2, 0, v2), (4, 0, v4), (5, 0, v5), (6, 1, v6), (8, 0, v8)] [] μ := by
  intro n
  induction n with
  | zero =>
    intro v0 v1 v2 v4 v5 v6 v8 μ q_v1 q_v2 q_v4 q_v5 q_v6 q_v8 h
    have h : (none : Option (Int × Mem)) = some (res, μe) := h
    cases h
  | succ n ih =>
    intro v0 v1 v2 v4 v5 v6 v8 μ q_v1 q_v2 q_v4 q_v5 q_v6 q_v8 h
    rw [M_journey_L146.eq_2] at h
    refine r_iconst (pc := 146) hX (dk D_X12_journey 86 rfl) ?_
    refine r_istore (lv' := [(9, 0, 0), (0, 2, v0), (1, 0, v1), (2, 0, v2), (4, 0, v4), (5, 0, v5), (6, 1, v6), (8, 0, v8)]) (pc := 147) hX (by decide) rfl (dk D_X12_journey 87 rfl) ?_
    refine r_iconst (pc := 149) hX (dk D_X12_journey 88 rfl) ?_
    refine r_istore (lv' := [(10, 0, 0), (9, 0, 0), (0, 2, v0), (1, 0, v1), (2, 0, v2), (4, 0, v4), (5, 0, v5), (6, 1, v6), (8, 0, v8)]) (pc := 150) hX (by decide) rfl (dk D_X12_journey 89 rfl) ?_
    refine r_sub (lv' := [(0, 2, v0), (1, 0, v1), (2, 0, v2), (4, 0, v4), (5, 0, v5), (6, 1, v6), (8, 0, v8), (9, 0, 0), (10, 0, 0)]) [2, 3, 4, 5, 6, 7, 8, 1, 0] rfl ?_
    refine L_M_journey_L152 hX hM hRm ?_ FU v0 v1 v2 v4 v5 v6 v8 0 0 μ q_v1 q_v2 q_v4 q_v5 q_v6 q_v8 (R32_lit rfl) (R32_lit rfl) h
    intro x1 x2 x3 x4 x5 x6 x7 μ8 qx2 qx3 qx4 qx5 qx6 qx7 h
    refine r_iinc (lv' := [(8, 0, (w32 (x7 + 1))), (0, 2, x1), (1, 0, x2), (2, 0, x3), (4, 0, x4), (5, 0, x5), (6, 1, x6)]) (pc := 376) hX 6 rfl (by decide) rfl (dk D_X12_journey 208 rfl) ?_
    refine r_goto (pc := 379) hX 146 rfl (dk D_X12_journey 209 rfl) ?_
    refine r_sub (lv' := [(0, 2, x1), (1, 0, x2), (2, 0, x3), (4, 0, x4), (5, 0, x5), (6, 1, x6), (8, 0, (w32 (x7 + 1)))]) [1, 2, 3, 4, 5, 6, 0] rfl ?_
    exact ih x1 x2 x3 x4 x5 x6 (w32 (x7 + 1)) μ8 qx2 qx3 qx4 qx5 qx6 (R32_w _) h
set_option maxRecDepth 100000 in
set_option maxHeartbeats 4000000 in
theorem L_M_journey {E : EX} {l : Launch} {a0 a1 a2 a3 a4 res : Int} {μ μ' : Mem} (q_a1 : R32 a1) (q_a2 : R32 a2) (q_a3 : R32 a3) (q_a4 : R32 a4) (h : M_journey a0 a1 a2 a3 a4 μ = some (res, μ')) : Ok E l 4 yX12_journey (.code yX12_journey cX12_journey 15 (some .int)) 0 0 [(2, a0), (0, a1), (0, a2), (0, a3), (0, a4)] μ (some (0, res)) μ' := by
  refine Ok.of (own := "TollsBackModel") [(0, 2, a0), (1, 0, a1), (2, 0, a2), (3, 0, a3), (4, 0, a4)] (by decide +kernel) rfl (Nat.le_of_ble_eq_true rfl) rfl ?_
  intro X hL hRm hin hX hM
  unfold M_journey at h
  subst hL
  refine r_aloadn (pc := 0) hX 0 rfl (dk D_X12_journey 0 rfl) ?_
  refine r_iconst (pc := 1) hX (dk D_X12_journey 1 rfl) ?_
  obtain ⟨μ1, hμ1, h⟩ := bd_some h
  refine r_putI (pc := 2) hX fl_12_1 rfl rfl (R32_lit rfl) trivial hμ1 (dk D_X12_journey 2 rfl) ?_
  refine r_iloadn (pc := 5) hX 1 rfl (dk D_X12_journey 3 rfl) ?_
  refine r_i2l (pc := 6) hX q_a1 (dk D_X12_journey 4 rfl) ?_
  refine r_lconst (x := 0) (pc := 7) hX (by decide) (dk D_X12_journey 5 rfl) ?_
  refine r_ldc2 (pc := 8) hX cn_12_274 (dk D_X12_journey 6 rfl) ?_
  obtain ⟨x2, μ3, hx2, h⟩ := bd2_some h
  refine r_invS0 (As := [(1, a1), (1, 0), (1, 3)]) (pc := 11) hX ml_12_178 (L_M_within (R64_of q_a1) (R64_lit rfl) (R64_lit rfl) hx2) (Rm_of hRm (by decide) ⟨by decide, by decide⟩) (by decide) rfl (Nat.le_of_ble_eq_true rfl) rfl (dk D_X12_journey 7 rfl) (fun qx2 => ?_)
  refine r_if_ne (pc := 14) hX qx2 20 rfl (dk D_X12_journey 8 rfl) (fun hc => ?_) (fun hc => ?_)
  · rw [if_neg hc] at h
    refine r_aloadn (pc := 20) hX 0 rfl (dk D_X12_journey 11 rfl) ?_
    obtain ⟨x4, hx4, h⟩ := bd_some h
    refine r_getR (pc := 21) hX fl_12_13 rfl hx4 (dk D_X12_journey 12 rfl) ?_
    refine r_iconst (pc := 24) hX (dk D_X12_journey 13 rfl) ?_
    obtain ⟨x5, hx5, h⟩ := bd_some h
    refine r_iald (pc := 25) hX (R32_lit rfl) hx5 (dk D_X12_journey 14 rfl) (fun qx5 => ?_)
    refine r_if_ne (pc := 26) hX qx5 32 rfl (dk D_X12_journey 15 rfl) (fun hc => ?_) (fun hc => ?_)
    · rw [if_neg hc] at h
      refine r_aloadn (pc := 32) hX 0 rfl (dk D_X12_journey 18 rfl) ?_
      obtain ⟨x6, hx6, h⟩ := bd_some h
      refine r_getR (pc := 33) hX fl_12_102 rfl hx6 (dk D_X12_journey 19 rfl) ?_
      refine r_iloadn (pc := 36) hX 1 rfl (dk D_X12_journey 20 rfl) ?_
      obtain ⟨x7, hx7, h⟩ := bd_some h
      refine r_iald (pc := 37) hX q_a1 hx7 (dk D_X12_journey 21 rfl) (fun qx7 => ?_)
      refine r_iconst (pc := 38) hX (dk D_X12_journey 22 rfl) ?_
      refine r_icmp_ne (pc := 39) hX qx7 (R32_lit rfl) 45 rfl (dk D_X12_journey 23 rfl) (fun hc => ?_) (fun hc => ?_)
      · rw [if_neg hc] at h
        refine r_aloadn (pc := 45) hX 0 rfl (dk D_X12_journey 26 rfl) ?_
        refine r_iloadn (pc := 46) hX 1 rfl (dk D_X12_journey 27 rfl) ?_
        obtain ⟨_, hi, h⟩ := bd_some h
        obtain ⟨x8, μ9, hx8, h⟩ := bd2_some h
        refine r_invV0 (As := [(0, a1)]) (pc := 47) hX ml_12_354 (L_M_isSlips q_a1 hx8) (isk_u hi) (Rm_of hRm (by decide) ⟨by decide, by decide⟩) (by decide) rfl (Nat.le_of_ble_eq_true rfl) rfl (dk D_X12_journey 28 rfl) (fun qx8 => ?_)
        refine r_if_eq (pc := 50) hX qx8 69 rfl (dk D_X12_journey 29 rfl) (fun hc => ?_) (fun hc => ?_)
        · rw [if_pos hc] at h
          refine r_bipush (pc := 69) hX rfl (dk D_X12_journey 38 rfl) ?_
          cases h
          exact r_ireturn (pc := 71) hX (R32_lit rfl) hM ⟨by decide, by decide⟩ (dk D_X12_journey 39 rfl)
        · rw [if_neg hc] at h
          refine r_iloadn (pc := 53) hX 2 rfl (dk D_X12_journey 30 rfl) ?_
          refine r_i2l (pc := 54) hX q_a2 (dk D_X12_journey 31 rfl) ?_
          refine r_lconst (x := 0) (pc := 55) hX (by decide) (dk D_X12_journey 32 rfl) ?_
          refine r_ldc2 (pc := 56) hX cn_12_357 (dk D_X12_journey 33 rfl) ?_
          obtain ⟨x10, μ11, hx10, h⟩ := bd2_some h
          refine r_invS0 (As := [(1, a2), (1, 0), (1, 40)]) (pc := 59) hX ml_12_178 (L_M_within (R64_of q_a2) (R64_lit rfl) (R64_lit rfl) hx10) (Rm_of hRm (by decide) ⟨by decide, by decide⟩) (by decide) rfl (Nat.le_of_ble_eq_true rfl) rfl (dk D_X12_journey 34 rfl) (fun qx10 => ?_)
          refine r_if_eq (pc := 62) hX qx10 69 rfl (dk D_X12_journey 35 rfl) (fun hc => ?_) (fun hc => ?_)
          · rw [if_pos hc] at h
            refine r_bipush (pc := 69) hX rfl (dk D_X12_journey 38 rfl) ?_
            cases h
            exact r_ireturn (pc := 71) hX (R32_lit rfl) hM ⟨by decide, by decide⟩ (dk D_X12_journey 39 rfl)
          · rw [if_neg hc] at h
            refine r_iloadn (pc := 65) hX 3 rfl (dk D_X12_journey 36 rfl) ?_
            refine r_if_ge (pc := 66) hX q_a3 72 rfl (dk D_X12_journey 37 rfl) (fun hc => ?_) (fun hc => ?_)
            · rw [if_neg hc] at h
              refine r_iload (pc := 72) hX 4 rfl (dk D_X12_journey 40 rfl) ?_
              refine r_i2l (pc := 74) hX q_a4 (dk D_X12_journey 41 rfl) ?_
              refine r_lconst (x := 0) (pc := 75) hX (by decide) (dk D_X12_journey 42 rfl) ?_
              refine r_iloadn (pc := 76) hX 2 rfl (dk D_X12_journey 43 rfl) ?_
              refine r_iconst (pc := 77) hX (dk D_X12_journey 44 rfl) ?_
              refine r_isub (pc := 78) hX (dk D_X12_journey 45 rfl) ?_
              refine r_i2l (pc := 79) hX (R32_w _) (dk D_X12_journey 46 rfl) ?_
              obtain ⟨x12, μ13, hx12, h⟩ := bd2_some h
              refine r_invS0 (As := [(1, a4), (1, 0), (1, (w32 (a2 - 1)))]) (pc := 80) hX ml_12_178 (L_M_within (R64_of q_a4) (R64_lit rfl) (R64_of (R32_w _)) hx12) (Rm_of hRm (by decide) ⟨by decide, by decide⟩) (by decide) rfl (Nat.le_of_ble_eq_true rfl) rfl (dk D_X12_journey 47 rfl) (fun qx12 => ?_)
              refine r_if_eq (pc := 83) hX qx12 94 rfl (dk D_X12_journey 48 rfl) (fun hc => ?_) (fun hc => ?_)
              · rw [if_pos hc] at h
                refine r_iconst (pc := 94) hX (dk D_X12_journey 53 rfl) ?_
                cases h
                exact r_ireturn (pc := 95) hX (R32_lit rfl) hM ⟨by decide, by decide⟩ (dk D_X12_journey 54 rfl)
              · rw [if_neg hc] at h
                refine r_aloadn (pc := 86) hX 0 rfl (dk D_X12_journey 49 rfl) ?_
                refine r_iloadn (pc := 87) hX 1 rfl (dk D_X12_journey 50 rfl) ?_
                obtain ⟨_, hi, h⟩ := bd_some h
                obtain ⟨x14, μ15, hx14, h⟩ := bd2_some h
                refine r_invV0 (As := [(0, a1)]) (pc := 88) hX ml_12_359 (L_M_canBeLeft q_a1 hx14) (isk_u hi) (Rm_of hRm (by decide) ⟨by decide, by decide⟩) (by decide) rfl (Nat.le_of_ble_eq_true rfl) rfl (dk D_X12_journey 51 rfl) (fun qx14 => ?_)
                refine r_if_ne (pc := 91) hX qx14 96 rfl (dk D_X12_journey 52 rfl) (fun hc => ?_) (fun hc => ?_)
                · rw [if_neg hc] at h
                  refine r_aloadn (pc := 96) hX 0 rfl (dk D_X12_journey 55 rfl) ?_
                  refine r_iconst (pc := 97) hX (dk D_X12_journey 56 rfl) ?_
                  obtain ⟨μ16, hμ16, h⟩ := bd_some h
                  refine r_putI (pc := 98) hX fl_12_339 rfl rfl (R32_lit rfl) (Or.inr rfl) hμ16 (dk D_X12_journey 57 rfl) ?_
                  refine r_aloadn (pc := 101) hX 0 rfl (dk D_X12_journey 58 rfl) ?_
                  refine r_iloadn (pc := 102) hX 2 rfl (dk D_X12_journey 59 rfl) ?_
                  obtain ⟨_, hi, h⟩ := bd_some h
                  obtain ⟨x17, μ18, hx17, h⟩ := bd2_some h
                  refine r_invV0 (As := [(0, a2)]) (pc := 103) hX ml_12_362 (L_M_laysRounds q_a2 hx17) (isk_u hi) (Rm_of hRm (by decide) ⟨by decide, by decide⟩) (by decide) rfl (Nat.le_of_ble_eq_true rfl) rfl (dk D_X12_journey 60 rfl) (fun _ => ?_)
                  refine r_aloadn (pc := 106) hX 0 rfl (dk D_X12_journey 61 rfl) ?_
                  refine r_iconst (pc := 107) hX (dk D_X12_journey 62 rfl) ?_
                  obtain ⟨μ19, hμ19, h⟩ := bd_some h
                  refine r_putI (pc := 108) hX fl_12_372 rfl rfl (R32_lit rfl) trivial hμ19 (dk D_X12_journey 63 rfl) ?_
                  refine r_aloadn (pc := 111) hX 0 rfl (dk D_X12_journey 64 rfl) ?_
                  refine r_iloadn (pc := 112) hX 1 rfl (dk D_X12_journey 65 rfl) ?_
                  obtain ⟨_, hi, h⟩ := bd_some h
                  obtain ⟨x20, μ21, hx20, h⟩ := bd2_some h
                  refine r_invV0 (As := [(0, a1)]) (pc := 113) hX ml_12_378 (L_M_laysWay q_a1 hx20) (isk_u hi) (Rm_of hRm (by decide) ⟨by decide, by decide⟩) (by decide) rfl (Nat.le_of_ble_eq_true rfl) rfl (dk D_X12_journey 66 rfl) (fun _ => ?_)
                  refine r_aloadn (pc := 116) hX 0 rfl (dk D_X12_journey 67 rfl) ?_
                  obtain ⟨x22, hx22, h⟩ := bd_some h
                  refine r_getR (pc := 117) hX fl_12_13 rfl hx22 (dk D_X12_journey 68 rfl) ?_
                  refine r_iconst (pc := 120) hX (dk D_X12_journey 69 rfl) ?_
                  obtain ⟨x23, hx23, h⟩ := bd_some h
                  refine r_iald (pc := 121) hX (R32_lit rfl) hx23 (dk D_X12_journey 70 rfl) (fun qx23 => ?_)
                  refine r_istore (lv' := [(5, 0, x23), (0, 2, a0), (1, 0, a1), (2, 0, a2), (3, 0, a3), (4, 0, a4)]) (pc := 122) hX (by decide) rfl (dk D_X12_journey 71 rfl) ?_
                  refine r_iloadn (pc := 124) hX 4 rfl (dk D_X12_journey 72 rfl) ?_
                  refine r_i2l (pc := 125) hX q_a3 (dk D_X12_journey 73 rfl) ?_
                  refine r_lstore (lv' := [(6, 1, a3), (5, 0, x23), (0, 2, a0), (1, 0, a1), (2, 0, a2), (3, 0, a3), (4, 0, a4)]) (pc := 126) hX (by decide) rfl (dk D_X12_journey 74 rfl) ?_
                  refine r_aloadn (pc := 128) hX 2 rfl (dk D_X12_journey 75 rfl) ?_
                  refine r_iload (pc := 129) hX 1 rfl (dk D_X12_journey 76 rfl) ?_
                  refine r_iloadn (pc := 131) hX 4 rfl (dk D_X12_journey 77 rfl) ?_
                  obtain ⟨_, hi, h⟩ := bd_some h
                  obtain ⟨x24, μ25, hx24, h⟩ := bd2_some h
                  refine r_invV0 (As := [(0, x23), (0, a2)]) (pc := 132) hX ml_12_368 (L_M_walksBy qx23 q_a2 hx24) (isk_u hi) (Rm_of hRm (by decide) ⟨by decide, by decide⟩) (by decide) rfl (Nat.le_of_ble_eq_true rfl) rfl (dk D_X12_journey 78 rfl) (fun qx24 => ?_)
                  refine r_lload (pc := 135) hX 0 rfl (dk D_X12_journey 79 rfl) ?_
                  refine r_lcmp (pc := 137) hX qx24 (R64_of q_a3) (dk D_X12_journey 80 rfl) ?_
                  refine r_if_gt (pc := 138) hX (R32_cmp _ _) 143 rfl (dk D_X12_journey 81 rfl) (fun hc => ?_) (fun hc => ?_)
                  · rw [if_pos hc] at h
                    refine r_iconst (pc := 143) hX (dk D_X12_journey 84 rfl) ?_
                    refine r_istore (lv' := [(8, 0, 0), (6, 1, a3), (5, 0, x23), (0, 2, a0), (1, 0, a1), (2, 0, a2), (3, 0, a3), (4, 0, a4)]) (pc := 144) hX (by decide) rfl (dk D_X12_journey 85 rfl) ?_
                    refine r_sub (lv' := [(0, 2, a0), (1, 0, a1), (2, 0, a2), (4, 0, a4), (5, 0, x23), (6, 1, a3), (8, 0, 0)]) [3, 4, 5, 7, 2, 1, 0] rfl ?_
                    refine L_M_journey_L146 hX hM hRm FU a0 a1 a2 a4 x23 a3 0 μ25 q_a1 q_a2 q_a4 qx23 (R64_of q_a3) (R32_lit rfl) h
                  · rw [if_neg hc] at h
                    refine r_iconst (pc := 141) hX (dk D_X12_journey 82 rfl) ?_
                    cases h
                    exact r_ireturn (pc := 142) hX (R32_lit rfl) hM ⟨by decide, by decide⟩ (dk D_X12_journey 83 rfl)
                · rw [if_pos hc] at h
                  refine r_iconst (pc := 94) hX (dk D_X12_journey 53 rfl) ?_
                  cases h
                  exact r_ireturn (pc := 95) hX (R32_lit rfl) hM ⟨by decide, by decide⟩ (dk D_X12_journey 54 rfl)
            · rw [if_pos hc] at h
              refine r_bipush (pc := 69) hX rfl (dk D_X12_journey 38 rfl) ?_
              cases h
              exact r_ireturn (pc := 71) hX (R32_lit rfl) hM ⟨by decide, by decide⟩ (dk D_X12_journey 39 rfl)
      · rw [if_pos hc] at h
        refine r_bipush (pc := 42) hX rfl (dk D_X12_journey 24 rfl) ?_
        cases h
        exact r_ireturn (pc := 44) hX (R32_lit rfl) hM ⟨by decide, by decide⟩ (dk D_X12_journey 25 rfl)
    · rw [if_pos hc] at h
      refine r_bipush (pc := 29) hX rfl (dk D_X12_journey 16 rfl) ?_
      cases h
      exact r_ireturn (pc := 31) hX (R32_lit rfl) hM ⟨by decide, by decide⟩ (dk D_X12_journey 17 rfl)
  · rw [if_pos hc] at h
    refine r_bipush (pc := 17) hX rfl (dk D_X12_journey 9 rfl) ?_
    cases h
    exact r_ireturn (pc := 19) hX (R32_lit rfl) hM ⟨by decide, by decide⟩ (dk D_X12_journey 10 rfl)
set_option maxRecDepth 100000 in
set_option maxHeartbeats 4000000 in
theorem L_M_isLane {E : EX} {l : Launch} {a0 a1 a2 a3 res : Int} {μ μ' : Mem} (q_a1 : R32 a1) (q_a2 : R32 a2) (q_a3 : R32 a3) (h : M_isLane a0 a1 a2 a3 μ = some (res, μ')) : Ok E l 4 yX12_isLane (.code yX12_isLane cX12_isLane 5 (some .boolean)) 0 0 [(2, a0), (0, a1), (0, a2), (0, a3)] μ (some (0, res)) μ' := by
  refine Ok.of (own := "TollsBackModel") [(0, 2, a0), (1, 0, a1), (2, 0, a2), (3, 0, a3)] (by decide +kernel) rfl (Nat.le_of_ble_eq_true rfl) rfl ?_
  intro X hL hRm hin hX hM
  unfold M_isLane at h
  subst hL
  refine r_aloadn (pc := 0) hX 0 rfl (dk D_X12_isLane 0 rfl) ?_
  refine r_aloadn (pc := 1) hX 0 rfl (dk D_X12_isLane 1 rfl) ?_
  refine r_iloadn (pc := 2) hX 2 rfl (dk D_X12_isLane 2 rfl) ?_
  refine r_iloadn (pc := 3) hX 1 rfl (dk D_X12_isLane 3 rfl) ?_
  obtain ⟨_, hi, h⟩ := bd_some h
  obtain ⟨x1, μ2, hx1, h⟩ := bd2_some h
  refine r_invV0 (As := [(0, a2), (0, a1)]) (pc := 4) hX ml_12_249 (L_M_dartBy q_a2 q_a1 hx1) (isk_u hi) (Rm_of hRm (by decide) ⟨by decide, by decide⟩) (by decide) rfl (Nat.le_of_ble_eq_true rfl) rfl (dk D_X12_isLane 4 rfl) (fun qx1 => ?_)
  obtain ⟨_, hi, h⟩ := bd_some h
  obtain ⟨x3, μ4, hx3, h⟩ := bd2_some h
  refine r_invV0 (As := [(0, x1)]) (pc := 7) hX ml_12_243 (L_M_headOf qx1 hx3) (isk_u hi) (Rm_of hRm (by decide) ⟨by decide, by decide⟩) (by decide) rfl (Nat.le_of_ble_eq_true rfl) rfl (dk D_X12_isLane 5 rfl) (fun qx3 => ?_)
  refine r_istore (lv' := [(4, 0, x3), (0, 2, a0), (1, 0, a1), (2, 0, a2), (3, 0, a3)]) (pc := 10) hX (by decide) rfl (dk D_X12_isLane 6 rfl) ?_
  refine r_aloadn (pc := 12) hX 1 rfl (dk D_X12_isLane 7 rfl) ?_
  obtain ⟨x5, hx5, h⟩ := bd_some h
  refine r_getR (pc := 13) hX fl_12_86 rfl hx5 (dk D_X12_isLane 8 rfl) ?_
  refine r_iloadn (pc := 16) hX 2 rfl (dk D_X12_isLane 9 rfl) ?_
  obtain ⟨x6, hx6, h⟩ := bd_some h
  refine r_zald (pc := 17) hX q_a1 hx6 (dk D_X12_isLane 10 rfl) (fun qx6 => ?_)
  refine r_if_eq (pc := 18) hX qx6 102 rfl (dk D_X12_isLane 11 rfl) (fun hc => ?_) (fun hc => ?_)
  · rw [if_pos hc] at h
    refine r_iconst (pc := 102) hX (dk D_X12_isLane 60 rfl) ?_
    cases h
    exact r_zreturn (pc := 103) hX (R32_lit rfl) hM (Or.inl rfl) ⟨by decide, by decide⟩ (dk D_X12_isLane 61 rfl)
  · rw [if_neg hc] at h
    refine r_aloadn (pc := 21) hX 1 rfl (dk D_X12_isLane 12 rfl) ?_
    obtain ⟨x7, hx7, h⟩ := bd_some h
    refine r_getR (pc := 22) hX fl_12_86 rfl hx7 (dk D_X12_isLane 13 rfl) ?_
    refine r_iload (pc := 25) hX 0 rfl (dk D_X12_isLane 14 rfl) ?_
    obtain ⟨x8, hx8, h⟩ := bd_some h
    refine r_zald (pc := 27) hX qx3 hx8 (dk D_X12_isLane 15 rfl) (fun qx8 => ?_)
    refine r_if_eq (pc := 28) hX qx8 102 rfl (dk D_X12_isLane 16 rfl) (fun hc => ?_) (fun hc => ?_)
    · rw [if_pos hc] at h
      refine r_iconst (pc := 102) hX (dk D_X12_isLane 60 rfl) ?_
      cases h
      exact r_zreturn (pc := 103) hX (R32_lit rfl) hM (Or.inl rfl) ⟨by decide, by decide⟩ (dk D_X12_isLane 61 rfl)
    · rw [if_neg hc] at h
      refine r_aloadn (pc := 31) hX 1 rfl (dk D_X12_isLane 17 rfl) ?_
      obtain ⟨x9, hx9, h⟩ := bd_some h
      refine r_getR (pc := 32) hX fl_12_77 rfl hx9 (dk D_X12_isLane 18 rfl) ?_
      refine r_iloadn (pc := 35) hX 2 rfl (dk D_X12_isLane 19 rfl) ?_
      obtain ⟨x10, hx10, h⟩ := bd_some h
      refine r_iald (pc := 36) hX q_a1 hx10 (dk D_X12_isLane 20 rfl) (fun qx10 => ?_)
      refine r_aloadn (pc := 37) hX 1 rfl (dk D_X12_isLane 21 rfl) ?_
      obtain ⟨x11, hx11, h⟩ := bd_some h
      refine r_getR (pc := 38) hX fl_12_77 rfl hx11 (dk D_X12_isLane 22 rfl) ?_
      refine r_iload (pc := 41) hX 0 rfl (dk D_X12_isLane 23 rfl) ?_
      obtain ⟨x12, hx12, h⟩ := bd_some h
      refine r_iald (pc := 43) hX qx3 hx12 (dk D_X12_isLane 24 rfl) (fun qx12 => ?_)
      refine r_aloadn (pc := 44) hX 1 rfl (dk D_X12_isLane 25 rfl) ?_
      refine r_iloadn (pc := 45) hX 3 rfl (dk D_X12_isLane 26 rfl) ?_
      refine r_iloadn (pc := 46) hX 4 rfl (dk D_X12_isLane 27 rfl) ?_
      obtain ⟨_, hi, h⟩ := bd_some h
      obtain ⟨x13, μ14, hx13, h⟩ := bd2_some h
      refine r_invV0 (As := [(0, a2), (0, a3)]) (pc := 47) hX ml_12_225 (L_M_tollOn q_a2 q_a3 hx13) (isk_u hi) (Rm_of hRm (by decide) ⟨by decide, by decide⟩) (by decide) rfl (Nat.le_of_ble_eq_true rfl) rfl (dk D_X12_isLane 28 rfl) (fun qx13 => ?_)
      refine r_iadd (pc := 50) hX (dk D_X12_isLane 29 rfl) ?_
      refine r_icmp_ne (pc := 51) hX qx10 (R32_w _) 102 rfl (dk D_X12_isLane 30 rfl) (fun hc => ?_) (fun hc => ?_)
      · rw [if_neg hc] at h
        refine r_iconst (pc := 102) hX (dk D_X12_isLane 60 rfl) ?_
        cases h
        exact r_zreturn (pc := 103) hX (R32_lit rfl) hM (Or.inl rfl) ⟨by decide, by decide⟩ (dk D_X12_isLane 61 rfl)
      · rw [if_pos hc] at h
        refine r_aloadn (pc := 54) hX 1 rfl (dk D_X12_isLane 31 rfl) ?_
        obtain ⟨x15, hx15, h⟩ := bd_some h
        refine r_getR (pc := 55) hX fl_12_80 rfl hx15 (dk D_X12_isLane 32 rfl) ?_
        refine r_iloadn (pc := 58) hX 2 rfl (dk D_X12_isLane 33 rfl) ?_
        obtain ⟨x16, hx16, h⟩ := bd_some h
        refine r_iald (pc := 59) hX q_a1 hx16 (dk D_X12_isLane 34 rfl) (fun qx16 => ?_)
        refine r_aloadn (pc := 60) hX 1 rfl (dk D_X12_isLane 35 rfl) ?_
        obtain ⟨x17, hx17, h⟩ := bd_some h
        refine r_getR (pc := 61) hX fl_12_80 rfl hx17 (dk D_X12_isLane 36 rfl) ?_
        refine r_iload (pc := 64) hX 0 rfl (dk D_X12_isLane 37 rfl) ?_
        obtain ⟨x18, hx18, h⟩ := bd_some h
        refine r_iald (pc := 66) hX qx3 hx18 (dk D_X12_isLane 38 rfl) (fun qx18 => ?_)
        refine r_aloadn (pc := 67) hX 1 rfl (dk D_X12_isLane 39 rfl) ?_
        obtain ⟨x19, hx19, h⟩ := bd_some h
        refine r_getR (pc := 68) hX fl_12_13 rfl hx19 (dk D_X12_isLane 40 rfl) ?_
        refine r_bipush (pc := 71) hX rfl (dk D_X12_isLane 41 rfl) ?_
        refine r_iloadn (pc := 73) hX 3 rfl (dk D_X12_isLane 42 rfl) ?_
        refine r_iadd (pc := 74) hX (dk D_X12_isLane 43 rfl) ?_
        obtain ⟨x20, hx20, h⟩ := bd_some h
        refine r_iald (pc := 75) hX (R32_w _) hx20 (dk D_X12_isLane 44 rfl) (fun qx20 => ?_)
        refine r_iadd (pc := 76) hX (dk D_X12_isLane 45 rfl) ?_
        refine r_icmp_ne (pc := 77) hX qx16 (R32_w _) 102 rfl (dk D_X12_isLane 46 rfl) (fun hc => ?_) (fun hc => ?_)
        · rw [if_neg hc] at h
          refine r_iconst (pc := 102) hX (dk D_X12_isLane 60 rfl) ?_
          cases h
          exact r_zreturn (pc := 103) hX (R32_lit rfl) hM (Or.inl rfl) ⟨by decide, by decide⟩ (dk D_X12_isLane 61 rfl)
        · rw [if_pos hc] at h
          refine r_aloadn (pc := 80) hX 1 rfl (dk D_X12_isLane 47 rfl) ?_
          obtain ⟨x21, hx21, h⟩ := bd_some h
          refine r_getR (pc := 81) hX fl_12_83 rfl hx21 (dk D_X12_isLane 48 rfl) ?_
          refine r_iloadn (pc := 84) hX 2 rfl (dk D_X12_isLane 49 rfl) ?_
          obtain ⟨x22, hx22, h⟩ := bd_some h
          refine r_iald (pc := 85) hX q_a1 hx22 (dk D_X12_isLane 50 rfl) (fun qx22 => ?_)
          refine r_aloadn (pc := 86) hX 1 rfl (dk D_X12_isLane 51 rfl) ?_
          obtain ⟨x23, hx23, h⟩ := bd_some h
          refine r_getR (pc := 87) hX fl_12_83 rfl hx23 (dk D_X12_isLane 52 rfl) ?_
          refine r_iload (pc := 90) hX 0 rfl (dk D_X12_isLane 53 rfl) ?_
          obtain ⟨x24, hx24, h⟩ := bd_some h
          refine r_iald (pc := 92) hX qx3 hx24 (dk D_X12_isLane 54 rfl) (fun qx24 => ?_)
          refine r_iconst (pc := 93) hX (dk D_X12_isLane 55 rfl) ?_
          refine r_iadd (pc := 94) hX (dk D_X12_isLane 56 rfl) ?_
          refine r_icmp_ne (pc := 95) hX qx22 (R32_w _) 102 rfl (dk D_X12_isLane 57 rfl) (fun hc => ?_) (fun hc => ?_)
          · rw [if_neg hc] at h
            refine r_iconst (pc := 102) hX (dk D_X12_isLane 60 rfl) ?_
            cases h
            exact r_zreturn (pc := 103) hX (R32_lit rfl) hM (Or.inl rfl) ⟨by decide, by decide⟩ (dk D_X12_isLane 61 rfl)
          · rw [if_pos hc] at h
            refine r_iconst (pc := 98) hX (dk D_X12_isLane 58 rfl) ?_
            refine r_goto (pc := 99) hX 103 rfl (dk D_X12_isLane 59 rfl) ?_
            cases h
            exact r_zreturn (pc := 103) hX (R32_lit rfl) hM (Or.inr rfl) ⟨by decide, by decide⟩ (dk D_X12_isLane 61 rfl)
