/-! THE MACHINE DOES AS THE FUNCTIONS SAY, part 5 -/
set_option maxRecDepth 100000 in
set_option maxHeartbeats 4000000 in
theorem L_M_lanes {E : EX} {l : Launch} {a0 a1 a2 a3 res : Int} {μ μ' : Mem} (q_a1 : R32 a1) (q_a2 : R32 a2) (q_a3 : R32 a3) (h : M_lanes a0 a1 a2 a3 μ = some (res, μ')) : Ok E l 4 yX12_lanes (.code yX12_lanes cX12_lanes 9 (some .boolean)) 0 0 [(2, a0), (0, a1), (0, a2), (0, a3)] μ (some (0, res)) μ' := by
  refine Ok.of (own := "TollsBackModel") [(0, 2, a0), (1, 0, a1), (2, 0, a2), (3, 0, a3)] (by decide +kernel) rfl (Nat.le_of_ble_eq_true rfl) rfl ?_
  intro X hL hRm hin hX hM
  unfold M_lanes at h
  subst hL
  refine r_aloadn (pc := 0) hX 0 rfl (dk D_X12_lanes 0 rfl) ?_
  refine r_aloadn (pc := 1) hX 0 rfl (dk D_X12_lanes 1 rfl) ?_
  refine r_iloadn (pc := 2) hX 2 rfl (dk D_X12_lanes 2 rfl) ?_
  refine r_iloadn (pc := 3) hX 1 rfl (dk D_X12_lanes 3 rfl) ?_
  obtain ⟨_, hi, h⟩ := bd_some h
  obtain ⟨x1, μ2, hx1, h⟩ := bd2_some h
  refine r_invV0 (As := [(0, a2), (0, a1)]) (pc := 4) hX ml_12_249 (L_M_dartBy q_a2 q_a1 hx1) (isk_u hi) (Rm_of hRm (by decide) ⟨by decide, by decide⟩) (by decide) rfl (Nat.le_of_ble_eq_true rfl) rfl (dk D_X12_lanes 4 rfl) (fun qx1 => ?_)
  obtain ⟨_, hi, h⟩ := bd_some h
  obtain ⟨x3, μ4, hx3, h⟩ := bd2_some h
  refine r_invV0 (As := [(0, x1)]) (pc := 7) hX ml_12_243 (L_M_headOf qx1 hx3) (isk_u hi) (Rm_of hRm (by decide) ⟨by decide, by decide⟩) (by decide) rfl (Nat.le_of_ble_eq_true rfl) rfl (dk D_X12_lanes 5 rfl) (fun qx3 => ?_)
  refine r_istore (lv' := [(4, 0, x3), (0, 2, a0), (1, 0, a1), (2, 0, a2), (3, 0, a3)]) (pc := 10) hX (by decide) rfl (dk D_X12_lanes 6 rfl) ?_
  refine r_aloadn (pc := 12) hX 1 rfl (dk D_X12_lanes 7 rfl) ?_
  obtain ⟨x5, hx5, h⟩ := bd_some h
  refine r_getR (pc := 13) hX fl_12_86 rfl hx5 (dk D_X12_lanes 8 rfl) ?_
  refine r_iload (pc := 16) hX 0 rfl (dk D_X12_lanes 9 rfl) ?_
  obtain ⟨x6, hx6, h⟩ := bd_some h
  refine r_zald (pc := 18) hX qx3 hx6 (dk D_X12_lanes 10 rfl) (fun qx6 => ?_)
  refine r_if_ne (pc := 19) hX qx6 24 rfl (dk D_X12_lanes 11 rfl) (fun hc => ?_) (fun hc => ?_)
  · rw [if_neg hc] at h
    refine r_aloadn (pc := 24) hX 1 rfl (dk D_X12_lanes 14 rfl) ?_
    obtain ⟨x7, hx7, h⟩ := bd_some h
    refine r_getR (pc := 25) hX fl_12_77 rfl hx7 (dk D_X12_lanes 15 rfl) ?_
    refine r_iload (pc := 28) hX 0 rfl (dk D_X12_lanes 16 rfl) ?_
    obtain ⟨x8, hx8, h⟩ := bd_some h
    refine r_iald (pc := 30) hX qx3 hx8 (dk D_X12_lanes 17 rfl) (fun qx8 => ?_)
    refine r_aloadn (pc := 31) hX 1 rfl (dk D_X12_lanes 18 rfl) ?_
    refine r_iloadn (pc := 32) hX 3 rfl (dk D_X12_lanes 19 rfl) ?_
    refine r_iloadn (pc := 33) hX 4 rfl (dk D_X12_lanes 20 rfl) ?_
    obtain ⟨_, hi, h⟩ := bd_some h
    obtain ⟨x9, μ10, hx9, h⟩ := bd2_some h
    refine r_invV0 (As := [(0, a2), (0, a3)]) (pc := 34) hX ml_12_225 (L_M_tollOn q_a2 q_a3 hx9) (isk_u hi) (Rm_of hRm (by decide) ⟨by decide, by decide⟩) (by decide) rfl (Nat.le_of_ble_eq_true rfl) rfl (dk D_X12_lanes 21 rfl) (fun qx9 => ?_)
    refine r_iadd (pc := 37) hX (dk D_X12_lanes 22 rfl) ?_
    obtain ⟨x11, ex11, h⟩ := bd_some h
    replace ex11 := Option.some.inj ex11
    have qx11 : R32 x11 := ex11 ▸ (R32_w _)
    rw [ex11]
    refine r_istore (lv' := [(5, 0, x11), (4, 0, x3), (0, 2, a0), (1, 0, a1), (2, 0, a2), (3, 0, a3)]) (pc := 38) hX (by decide) rfl (dk D_X12_lanes 23 rfl) ?_
    refine r_aloadn (pc := 40) hX 2 rfl (dk D_X12_lanes 24 rfl) ?_
    obtain ⟨x12, hx12, h⟩ := bd_some h
    refine r_getR (pc := 41) hX fl_12_80 rfl hx12 (dk D_X12_lanes 25 rfl) ?_
    refine r_iload (pc := 44) hX 1 rfl (dk D_X12_lanes 26 rfl) ?_
    obtain ⟨x13, hx13, h⟩ := bd_some h
    refine r_iald (pc := 46) hX qx3 hx13 (dk D_X12_lanes 27 rfl) (fun qx13 => ?_)
    refine r_aloadn (pc := 47) hX 2 rfl (dk D_X12_lanes 28 rfl) ?_
    obtain ⟨x14, hx14, h⟩ := bd_some h
    refine r_getR (pc := 48) hX fl_12_13 rfl hx14 (dk D_X12_lanes 29 rfl) ?_
    refine r_bipush (pc := 51) hX rfl (dk D_X12_lanes 30 rfl) ?_
    refine r_iloadn (pc := 53) hX 4 rfl (dk D_X12_lanes 31 rfl) ?_
    refine r_iadd (pc := 54) hX (dk D_X12_lanes 32 rfl) ?_
    obtain ⟨x15, hx15, h⟩ := bd_some h
    refine r_iald (pc := 55) hX (R32_w _) hx15 (dk D_X12_lanes 33 rfl) (fun qx15 => ?_)
    refine r_iadd (pc := 56) hX (dk D_X12_lanes 34 rfl) ?_
    obtain ⟨x16, ex16, h⟩ := bd_some h
    replace ex16 := Option.some.inj ex16
    have qx16 : R32 x16 := ex16 ▸ (R32_w _)
    rw [ex16]
    refine r_istore (lv' := [(6, 0, x16), (5, 0, x11), (4, 0, x3), (0, 2, a0), (1, 0, a1), (2, 0, a2), (3, 0, a3)]) (pc := 57) hX (by decide) rfl (dk D_X12_lanes 35 rfl) ?_
    refine r_aloadn (pc := 59) hX 3 rfl (dk D_X12_lanes 36 rfl) ?_
    obtain ⟨x17, hx17, h⟩ := bd_some h
    refine r_getR (pc := 60) hX fl_12_83 rfl hx17 (dk D_X12_lanes 37 rfl) ?_
    refine r_iload (pc := 63) hX 2 rfl (dk D_X12_lanes 38 rfl) ?_
    obtain ⟨x18, hx18, h⟩ := bd_some h
    refine r_iald (pc := 65) hX qx3 hx18 (dk D_X12_lanes 39 rfl) (fun qx18 => ?_)
    refine r_iconst (pc := 66) hX (dk D_X12_lanes 40 rfl) ?_
    refine r_iadd (pc := 67) hX (dk D_X12_lanes 41 rfl) ?_
    obtain ⟨x19, ex19, h⟩ := bd_some h
    replace ex19 := Option.some.inj ex19
    have qx19 : R32 x19 := ex19 ▸ (R32_w _)
    rw [ex19]
    refine r_istore (lv' := [(7, 0, x19), (6, 0, x16), (5, 0, x11), (4, 0, x3), (0, 2, a0), (1, 0, a1), (2, 0, a2), (3, 0, a3)]) (pc := 68) hX (by decide) rfl (dk D_X12_lanes 42 rfl) ?_
    refine r_aloadn (pc := 70) hX 4 rfl (dk D_X12_lanes 43 rfl) ?_
    obtain ⟨x20, hx20, h⟩ := bd_some h
    refine r_getR (pc := 71) hX fl_12_86 rfl hx20 (dk D_X12_lanes 44 rfl) ?_
    refine r_iloadn (pc := 74) hX 5 rfl (dk D_X12_lanes 45 rfl) ?_
    obtain ⟨x21, hx21, h⟩ := bd_some h
    refine r_zald (pc := 75) hX q_a1 hx21 (dk D_X12_lanes 46 rfl) (fun qx21 => ?_)
    obtain ⟨y22, hb, h⟩ := bd_some h
    have hj : R32 y22 → At E X cX12_lanes 9 "TollsBackModel" (0, 0) 139 [(0, 2, a0), (1, 0, a1), (5, 0, x11), (6, 0, x16), (7, 0, x19)] [(0, y22)] μ10 := by
      intro qy22
      clear hb
      refine r_istore (lv' := [(8, 0, y22), (0, 2, a0), (1, 0, a1), (5, 0, x11), (6, 0, x16), (7, 0, x19)]) (pc := 139) hX (by decide) rfl (dk D_X12_lanes 81 rfl) ?_
      refine r_iload (pc := 141) hX 0 rfl (dk D_X12_lanes 82 rfl) ?_
      refine r_if_ne (pc := 143) hX qy22 148 rfl (dk D_X12_lanes 83 rfl) (fun hc => ?_) (fun hc => ?_)
      · rw [if_neg hc] at h
        refine r_aloadn (pc := 148) hX 1 rfl (dk D_X12_lanes 86 rfl) ?_
        obtain ⟨x33, hx33, h⟩ := bd_some h
        refine r_getR (pc := 149) hX fl_12_86 rfl hx33 (dk D_X12_lanes 87 rfl) ?_
        refine r_iloadn (pc := 152) hX 2 rfl (dk D_X12_lanes 88 rfl) ?_
        refine r_iconst (pc := 153) hX (dk D_X12_lanes 89 rfl) ?_
        obtain ⟨μ34, hμ34, h⟩ := bd_some h
        refine r_zast (pc := 154) hX q_a1 (R32_lit rfl) (Or.inr rfl) hμ34 (dk D_X12_lanes 90 rfl) ?_
        refine r_aloadn (pc := 155) hX 1 rfl (dk D_X12_lanes 91 rfl) ?_
        obtain ⟨x35, hx35, h⟩ := bd_some h
        refine r_getR (pc := 156) hX fl_12_77 rfl hx35 (dk D_X12_lanes 92 rfl) ?_
        refine r_iloadn (pc := 159) hX 2 rfl (dk D_X12_lanes 93 rfl) ?_
        refine r_iload (pc := 160) hX 3 rfl (dk D_X12_lanes 94 rfl) ?_
        obtain ⟨μ36, hμ36, h⟩ := bd_some h
        refine r_iast (pc := 162) hX q_a1 qx11 hμ36 (dk D_X12_lanes 95 rfl) ?_
        refine r_aloadn (pc := 163) hX 1 rfl (dk D_X12_lanes 96 rfl) ?_
        obtain ⟨x37, hx37, h⟩ := bd_some h
        refine r_getR (pc := 164) hX fl_12_80 rfl hx37 (dk D_X12_lanes 97 rfl) ?_
        refine r_iloadn (pc := 167) hX 2 rfl (dk D_X12_lanes 98 rfl) ?_
        refine r_iload (pc := 168) hX 4 rfl (dk D_X12_lanes 99 rfl) ?_
        obtain ⟨μ38, hμ38, h⟩ := bd_some h
        refine r_iast (pc := 170) hX q_a1 qx16 hμ38 (dk D_X12_lanes 100 rfl) ?_
        refine r_aloadn (pc := 171) hX 1 rfl (dk D_X12_lanes 101 rfl) ?_
        obtain ⟨x39, hx39, h⟩ := bd_some h
        refine r_getR (pc := 172) hX fl_12_83 rfl hx39 (dk D_X12_lanes 102 rfl) ?_
        refine r_iloadn (pc := 175) hX 2 rfl (dk D_X12_lanes 103 rfl) ?_
        refine r_iload (pc := 176) hX 5 rfl (dk D_X12_lanes 104 rfl) ?_
        obtain ⟨μ40, hμ40, h⟩ := bd_some h
        refine r_iast (pc := 178) hX q_a1 qx19 hμ40 (dk D_X12_lanes 105 rfl) ?_
        refine r_iconst (pc := 179) hX (dk D_X12_lanes 106 rfl) ?_
        cases h
        exact r_zreturn (pc := 180) hX (R32_lit rfl) hM (Or.inr rfl) ⟨by decide, by decide⟩ (dk D_X12_lanes 107 rfl)
      · rw [if_pos hc] at h
        refine r_iconst (pc := 146) hX (dk D_X12_lanes 84 rfl) ?_
        cases h
        exact r_zreturn (pc := 147) hX (R32_lit rfl) hM (Or.inl rfl) ⟨by decide, by decide⟩ (dk D_X12_lanes 85 rfl)
    clear h
    have h := hb
    clear hb
    refine r_if_eq (pc := 76) hX qx21 134 rfl (dk D_X12_lanes 47 rfl) (fun hc => ?_) (fun hc => ?_)
    · rw [if_pos hc] at h
      refine r_iconst (pc := 134) hX (dk D_X12_lanes 78 rfl) ?_
      refine r_goto (pc := 135) hX 139 rfl (dk D_X12_lanes 79 rfl) ?_
      replace h := Option.some.inj h
      subst y22
      refine r_sub (lv' := [(0, 2, a0), (1, 0, a1), (5, 0, x11), (6, 0, x16), (7, 0, x19)]) [4, 5, 2, 1, 0] rfl ?_
      exact hj (R32_lit rfl)
    · rw [if_neg hc] at h
      refine r_iload (pc := 79) hX 2 rfl (dk D_X12_lanes 48 rfl) ?_
      refine r_aloadn (pc := 81) hX 4 rfl (dk D_X12_lanes 49 rfl) ?_
      obtain ⟨x23, hx23, h⟩ := bd_some h
      refine r_getR (pc := 82) hX fl_12_77 rfl hx23 (dk D_X12_lanes 50 rfl) ?_
      refine r_iloadn (pc := 85) hX 5 rfl (dk D_X12_lanes 51 rfl) ?_
      obtain ⟨x24, hx24, h⟩ := bd_some h
      refine r_iald (pc := 86) hX q_a1 hx24 (dk D_X12_lanes 52 rfl) (fun qx24 => ?_)
      refine r_icmp_lt (pc := 87) hX qx11 qx24 134 rfl (dk D_X12_lanes 53 rfl) (fun hc => ?_) (fun hc => ?_)
      · rw [if_pos hc] at h
        refine r_iconst (pc := 134) hX (dk D_X12_lanes 78 rfl) ?_
        refine r_goto (pc := 135) hX 139 rfl (dk D_X12_lanes 79 rfl) ?_
        replace h := Option.some.inj h
        subst y22
        refine r_sub (lv' := [(0, 2, a0), (1, 0, a1), (5, 0, x11), (6, 0, x16), (7, 0, x19)]) [4, 5, 2, 1, 0] rfl ?_
        exact hj (R32_lit rfl)
      · rw [if_neg hc] at h
        refine r_iload (pc := 90) hX 2 rfl (dk D_X12_lanes 54 rfl) ?_
        refine r_aloadn (pc := 92) hX 4 rfl (dk D_X12_lanes 55 rfl) ?_
        obtain ⟨x25, hx25, h⟩ := bd_some h
        refine r_getR (pc := 93) hX fl_12_77 rfl hx25 (dk D_X12_lanes 56 rfl) ?_
        refine r_iloadn (pc := 96) hX 5 rfl (dk D_X12_lanes 57 rfl) ?_
        obtain ⟨x26, hx26, h⟩ := bd_some h
        refine r_iald (pc := 97) hX q_a1 hx26 (dk D_X12_lanes 58 rfl) (fun qx26 => ?_)
        refine r_icmp_ne (pc := 98) hX qx11 qx26 138 rfl (dk D_X12_lanes 59 rfl) (fun hc => ?_) (fun hc => ?_)
        · rw [if_neg hc] at h
          refine r_iconst (pc := 138) hX (dk D_X12_lanes 80 rfl) ?_
          replace h := Option.some.inj h
          subst y22
          refine r_sub (lv' := [(0, 2, a0), (1, 0, a1), (5, 0, x11), (6, 0, x16), (7, 0, x19)]) [4, 5, 2, 1, 0] rfl ?_
          exact hj (R32_lit rfl)
        · rw [if_pos hc] at h
          refine r_iload (pc := 101) hX 1 rfl (dk D_X12_lanes 60 rfl) ?_
          refine r_aloadn (pc := 103) hX 4 rfl (dk D_X12_lanes 61 rfl) ?_
          obtain ⟨x27, hx27, h⟩ := bd_some h
          refine r_getR (pc := 104) hX fl_12_80 rfl hx27 (dk D_X12_lanes 62 rfl) ?_
          refine r_iloadn (pc := 107) hX 5 rfl (dk D_X12_lanes 63 rfl) ?_
          obtain ⟨x28, hx28, h⟩ := bd_some h
          refine r_iald (pc := 108) hX q_a1 hx28 (dk D_X12_lanes 64 rfl) (fun qx28 => ?_)
          refine r_icmp_lt (pc := 109) hX qx16 qx28 134 rfl (dk D_X12_lanes 65 rfl) (fun hc => ?_) (fun hc => ?_)
          · rw [if_pos hc] at h
            refine r_iconst (pc := 134) hX (dk D_X12_lanes 78 rfl) ?_
            refine r_goto (pc := 135) hX 139 rfl (dk D_X12_lanes 79 rfl) ?_
            replace h := Option.some.inj h
            subst y22
            refine r_sub (lv' := [(0, 2, a0), (1, 0, a1), (5, 0, x11), (6, 0, x16), (7, 0, x19)]) [4, 5, 2, 1, 0] rfl ?_
            exact hj (R32_lit rfl)
          · rw [if_neg hc] at h
            refine r_iload (pc := 112) hX 1 rfl (dk D_X12_lanes 66 rfl) ?_
            refine r_aloadn (pc := 114) hX 4 rfl (dk D_X12_lanes 67 rfl) ?_
            obtain ⟨x29, hx29, h⟩ := bd_some h
            refine r_getR (pc := 115) hX fl_12_80 rfl hx29 (dk D_X12_lanes 68 rfl) ?_
            refine r_iloadn (pc := 118) hX 5 rfl (dk D_X12_lanes 69 rfl) ?_
            obtain ⟨x30, hx30, h⟩ := bd_some h
            refine r_iald (pc := 119) hX q_a1 hx30 (dk D_X12_lanes 70 rfl) (fun qx30 => ?_)
            refine r_icmp_ne (pc := 120) hX qx16 qx30 138 rfl (dk D_X12_lanes 71 rfl) (fun hc => ?_) (fun hc => ?_)
            · rw [if_neg hc] at h
              refine r_iconst (pc := 138) hX (dk D_X12_lanes 80 rfl) ?_
              replace h := Option.some.inj h
              subst y22
              refine r_sub (lv' := [(0, 2, a0), (1, 0, a1), (5, 0, x11), (6, 0, x16), (7, 0, x19)]) [4, 5, 2, 1, 0] rfl ?_
              exact hj (R32_lit rfl)
            · rw [if_pos hc] at h
              refine r_iload (pc := 123) hX 0 rfl (dk D_X12_lanes 72 rfl) ?_
              refine r_aloadn (pc := 125) hX 4 rfl (dk D_X12_lanes 73 rfl) ?_
              obtain ⟨x31, hx31, h⟩ := bd_some h
              refine r_getR (pc := 126) hX fl_12_83 rfl hx31 (dk D_X12_lanes 74 rfl) ?_
              refine r_iloadn (pc := 129) hX 5 rfl (dk D_X12_lanes 75 rfl) ?_
              obtain ⟨x32, hx32, h⟩ := bd_some h
              refine r_iald (pc := 130) hX q_a1 hx32 (dk D_X12_lanes 76 rfl) (fun qx32 => ?_)
              refine r_icmp_ge (pc := 131) hX qx19 qx32 138 rfl (dk D_X12_lanes 77 rfl) (fun hc => ?_) (fun hc => ?_)
              · rw [if_neg hc] at h
                refine r_iconst (pc := 138) hX (dk D_X12_lanes 80 rfl) ?_
                replace h := Option.some.inj h
                subst y22
                refine r_sub (lv' := [(0, 2, a0), (1, 0, a1), (5, 0, x11), (6, 0, x16), (7, 0, x19)]) [4, 5, 2, 1, 0] rfl ?_
                exact hj (R32_lit rfl)
              · rw [if_pos hc] at h
                refine r_iconst (pc := 134) hX (dk D_X12_lanes 78 rfl) ?_
                refine r_goto (pc := 135) hX 139 rfl (dk D_X12_lanes 79 rfl) ?_
                replace h := Option.some.inj h
                subst y22
                refine r_sub (lv' := [(0, 2, a0), (1, 0, a1), (5, 0, x11), (6, 0, x16), (7, 0, x19)]) [4, 5, 2, 1, 0] rfl ?_
                exact hj (R32_lit rfl)
  · rw [if_pos hc] at h
    refine r_iconst (pc := 22) hX (dk D_X12_lanes 12 rfl) ?_
    cases h
    exact r_zreturn (pc := 23) hX (R32_lit rfl) hM (Or.inl rfl) ⟨by decide, by decide⟩ (dk D_X12_lanes 13 rfl)
set_option maxRecDepth 100000 in
set_option maxHeartbeats 4000000 in
theorem L_M_laysLanes_L2 {E : EX} {X : CX} {res : Int} {μe : Mem} (hX : Good E X cX12_laysLanes 5 "TollsBackModel") (hM : GoodM E X none none μe 0 0) (hRm : cR X = rmOf 5 0 0) {k30 : Int → Int → Int → Mem → Option (Int × Mem)} (hk30 : ∀ (u0 u1 u2 : Int) (μ : Mem), R32 u1 → R32 u2 → k30 u0 u1 u2 μ = some (res, μe) → At E X cX12_laysLanes 5 "TollsBackModel" (0, 0) 30 [(0, 2, u0), (1, 0, u1), (2, 0, u2)] [] μ) : ∀ (n : Nat) (v0 v1 v2 v3 : Int) (μ : Mem) (q_v1 : R32 v1) (q_v2 : R32 v2) (q_v3 : R32 v3) (h : M_laysLanes_L2 k30 n v0 v1 v2 v3 μ = some (res, μe)), At E X cX12_laysLanes 5 "TollsBackModel" (0, 0) 2 [(0, 2, v0), (1, 0, v1), (2, 0, v2), (3, 0, v3)] [] μ := by
  intro n
  induction n with
  | zero =>
    intro v0 v1 v2 v3 μ q_v1 q_v2 q_v3 h
    have h : (none : Option (Int × Mem)) = some (res, μe) := h
    cases h
  | succ n ih =>
    intro v0 v1 v2 v3 μ q_v1 q_v2 q_v3 h
    rw [M_laysLanes_L2.eq_2] at h
    refine r_iloadn (pc := 2) hX 3 rfl (dk D_X12_laysLanes 2 rfl) ?_
    refine r_bipush (pc := 3) hX rfl (dk D_X12_laysLanes 3 rfl) ?_
    refine r_icmp_ge (pc := 5) hX q_v3 (R32_lit rfl) 30 rfl (dk D_X12_laysLanes 4 rfl) (fun hc => ?_) (fun hc => ?_)
    · rw [if_neg hc] at h
      refine r_sub (lv' := [(0, 2, v0), (1, 0, v1), (2, 0, v2)]) [0, 1, 2] rfl ?_
      exact hk30 v0 v1 v2 μ q_v1 q_v2 h
    · rw [if_pos hc] at h
      refine r_aloadn (pc := 8) hX 0 rfl (dk D_X12_laysLanes 5 rfl) ?_
      obtain ⟨x1, hx1, h⟩ := bd_some h
      refine r_getR (pc := 9) hX fl_12_86 rfl hx1 (dk D_X12_laysLanes 6 rfl) ?_
      refine r_iloadn (pc := 12) hX 3 rfl (dk D_X12_laysLanes 7 rfl) ?_
      refine r_iloadn (pc := 13) hX 3 rfl (dk D_X12_laysLanes 8 rfl) ?_
      refine r_iloadn (pc := 14) hX 1 rfl (dk D_X12_laysLanes 9 rfl) ?_
      obtain ⟨y2, hb, h⟩ := bd_some h
      have hj : R32 y2 → At E X cX12_laysLanes 5 "TollsBackModel" (0, 0) 23 [(0, 2, v0), (1, 0, v1), (2, 0, v2), (3, 0, v3)] [(0, y2), (0, v3), (2, x1)] μ := by
        intro qy2
        clear hb
        obtain ⟨_, hz, h⟩ := bd_some h
        obtain ⟨μ3, hμ3, h⟩ := bd_some h
        refine r_zast (pc := 23) hX q_v3 qy2 (okz_some hz) hμ3 (dk D_X12_laysLanes 14 rfl) ?_
        refine r_iinc (lv' := [(3, 0, (w32 (v3 + 1))), (0, 2, v0), (1, 0, v1), (2, 0, v2)]) (pc := 24) hX 3 rfl (by decide) rfl (dk D_X12_laysLanes 15 rfl) ?_
        refine r_goto (pc := 27) hX 2 rfl (dk D_X12_laysLanes 16 rfl) ?_
        refine r_sub (lv' := [(0, 2, v0), (1, 0, v1), (2, 0, v2), (3, 0, (w32 (v3 + 1)))]) [1, 2, 3, 0] rfl ?_
        exact ih v0 v1 v2 (w32 (v3 + 1)) μ3 q_v1 q_v2 (R32_w _) h
      clear h
      have h := hb
      clear hb
      refine r_icmp_ne (pc := 15) hX q_v3 q_v1 22 rfl (dk D_X12_laysLanes 10 rfl) (fun hc => ?_) (fun hc => ?_)
      · rw [if_neg hc] at h
        refine r_iconst (pc := 22) hX (dk D_X12_laysLanes 13 rfl) ?_
        replace h := Option.some.inj h
        subst y2
        exact hj (R32_lit rfl)
      · rw [if_pos hc] at h
        refine r_iconst (pc := 18) hX (dk D_X12_laysLanes 11 rfl) ?_
        refine r_goto (pc := 19) hX 23 rfl (dk D_X12_laysLanes 12 rfl) ?_
        replace h := Option.some.inj h
        subst y2
        exact hj (R32_lit rfl)
set_option maxRecDepth 100000 in
set_option maxHeartbeats 4000000 in
theorem L_M_laysLanes_L62 {E : EX} {X : CX} {res : Int} {μe : Mem} (hX : Good E X cX12_laysLanes 5 "TollsBackModel") (hM : GoodM E X none none μe 0 0) (hRm : cR X = rmOf 5 0 0) {k152 : Int → Int → Int → Mem → Option (Int × Mem)} (hk152 : ∀ (u0 u1 u2 : Int) (μ : Mem), R32 u1 → R32 u2 → k152 u0 u1 u2 μ = some (res, μe) → At E X cX12_laysLanes 5 "TollsBackModel" (0, 0) 152 [(0, 2, u0), (2, 0, u1), (3, 0, u2)] [] μ) : ∀ (n : Nat) (v0 v2 v3 v4 : Int) (μ : Mem) (q_v2 : R32 v2) (q_v3 : R32 v3) (q_v4 : R32 v4) (h : M_laysLanes_L62 k152 n v0 v2 v3 v4 μ = some (res, μe)), At E X cX12_laysLanes 5 "TollsBackModel" (0, 0) 62 [(0, 2, v0), (2, 0, v2), (3, 0, v3), (4, 0, v4)] [] μ := by
  intro n
  induction n with
  | zero =>
    intro v0 v2 v3 v4 μ q_v2 q_v3 q_v4 h
    have h : (none : Option (Int × Mem)) = some (res, μe) := h
    cases h
  | succ n ih =>
    intro v0 v2 v3 v4 μ q_v2 q_v3 q_v4 h
    rw [M_laysLanes_L62.eq_2] at h
    refine r_iload (pc := 62) hX 3 rfl (dk D_X12_laysLanes 40 rfl) ?_
    refine r_aloadn (pc := 64) hX 0 rfl (dk D_X12_laysLanes 41 rfl) ?_
    obtain ⟨x1, hx1, h⟩ := bd_some h
    refine r_getR (pc := 65) hX fl_12_13 rfl hx1 (dk D_X12_laysLanes 42 rfl) ?_
    refine r_bipush (pc := 68) hX rfl (dk D_X12_laysLanes 43 rfl) ?_
    obtain ⟨x2, hx2, h⟩ := bd_some h
    refine r_iald (pc := 70) hX (R32_lit rfl) hx2 (dk D_X12_laysLanes 44 rfl) (fun qx2 => ?_)
    refine r_icmp_ge (pc := 71) hX q_v4 qx2 152 rfl (dk D_X12_laysLanes 45 rfl) (fun hc => ?_) (fun hc => ?_)
    · rw [if_neg hc] at h
      refine r_sub (lv' := [(0, 2, v0), (2, 0, v2), (3, 0, v3)]) [0, 1, 2] rfl ?_
      exact hk152 v0 v2 v3 μ q_v2 q_v3 h
    · rw [if_pos hc] at h
      refine r_aloadn (pc := 74) hX 0 rfl (dk D_X12_laysLanes 46 rfl) ?_
      refine r_iload (pc := 75) hX 3 rfl (dk D_X12_laysLanes 47 rfl) ?_
      obtain ⟨_, hi, h⟩ := bd_some h
      obtain ⟨x3, μ4, hx3, h⟩ := bd2_some h
      refine r_invV0 (As := [(0, v4)]) (pc := 77) hX ml_12_213 (L_M_isOpen q_v4 hx3) (isk_u hi) (Rm_of hRm (by decide) ⟨by decide, by decide⟩) (by decide) rfl (Nat.le_of_ble_eq_true rfl) rfl (dk D_X12_laysLanes 48 rfl) (fun qx3 => ?_)
      refine r_if_ne (pc := 80) hX qx3 86 rfl (dk D_X12_laysLanes 49 rfl) (fun hc => ?_) (fun hc => ?_)
      · rw [if_neg hc] at h
        refine r_aloadn (pc := 86) hX 0 rfl (dk D_X12_laysLanes 51 rfl) ?_
        refine r_aloadn (pc := 87) hX 0 rfl (dk D_X12_laysLanes 52 rfl) ?_
        obtain ⟨x5, hx5, h⟩ := bd_some h
        refine r_getR (pc := 88) hX fl_12_13 rfl hx5 (dk D_X12_laysLanes 53 rfl) ?_
        refine r_bipush (pc := 91) hX rfl (dk D_X12_laysLanes 54 rfl) ?_
        refine r_iload (pc := 93) hX 3 rfl (dk D_X12_laysLanes 55 rfl) ?_
        refine r_iadd (pc := 95) hX (dk D_X12_laysLanes 56 rfl) ?_
        obtain ⟨x6, hx6, h⟩ := bd_some h
        refine r_iald (pc := 96) hX (R32_w _) hx6 (dk D_X12_laysLanes 57 rfl) (fun qx6 => ?_)
        refine r_iload (pc := 97) hX 3 rfl (dk D_X12_laysLanes 58 rfl) ?_
        refine r_iloadn (pc := 99) hX 1 rfl (dk D_X12_laysLanes 59 rfl) ?_
        obtain ⟨_, hi, h⟩ := bd_some h
        obtain ⟨x7, μ8, hx7, h⟩ := bd2_some h
        refine r_invV0 (As := [(0, x6), (0, v4), (0, v2)]) (pc := 100) hX ml_12_381 (L_M_lanes qx6 q_v4 q_v2 hx7) (isk_u hi) (Rm_of hRm (by decide) ⟨by decide, by decide⟩) (by decide) rfl (Nat.le_of_ble_eq_true rfl) rfl (dk D_X12_laysLanes 60 rfl) (fun qx7 => ?_)
        obtain ⟨y9, hb, h⟩ := bd_some h
        have hj : R32 y9 → At E X cX12_laysLanes 5 "TollsBackModel" (0, 0) 115 [(0, 2, v0), (2, 0, v2), (4, 0, v4)] [(0, y9)] μ8 := by
          intro qy9
          clear hb
          refine r_istoren (lv' := [(3, 0, y9), (0, 2, v0), (2, 0, v2), (4, 0, v4)]) (pc := 115) hX (by decide) rfl (dk D_X12_laysLanes 67 rfl) ?_
          refine r_aloadn (pc := 116) hX 1 rfl (dk D_X12_laysLanes 68 rfl) ?_
          refine r_aloadn (pc := 117) hX 1 rfl (dk D_X12_laysLanes 69 rfl) ?_
          obtain ⟨x10, hx10, h⟩ := bd_some h
          refine r_getR (pc := 118) hX fl_12_13 rfl hx10 (dk D_X12_laysLanes 70 rfl) ?_
          refine r_bipush (pc := 121) hX rfl (dk D_X12_laysLanes 71 rfl) ?_
          refine r_iload (pc := 123) hX 3 rfl (dk D_X12_laysLanes 72 rfl) ?_
          refine r_iadd (pc := 125) hX (dk D_X12_laysLanes 73 rfl) ?_
          obtain ⟨x11, hx11, h⟩ := bd_some h
          refine r_iald (pc := 126) hX (R32_w _) hx11 (dk D_X12_laysLanes 74 rfl) (fun qx11 => ?_)
          refine r_iload (pc := 127) hX 3 rfl (dk D_X12_laysLanes 75 rfl) ?_
          refine r_iloadn (pc := 129) hX 2 rfl (dk D_X12_laysLanes 76 rfl) ?_
          obtain ⟨_, hi, h⟩ := bd_some h
          obtain ⟨x12, μ13, hx12, h⟩ := bd2_some h
          refine r_invV0 (As := [(0, x11), (0, v4), (0, v2)]) (pc := 130) hX ml_12_381 (L_M_lanes qx11 q_v4 q_v2 hx12) (isk_u hi) (Rm_of hRm (by decide) ⟨by decide, by decide⟩) (by decide) rfl (Nat.le_of_ble_eq_true rfl) rfl (dk D_X12_laysLanes 77 rfl) (fun qx12 => ?_)
          refine r_if_ne (pc := 133) hX qx12 140 rfl (dk D_X12_laysLanes 78 rfl) (fun hc => ?_) (fun hc => ?_)
          · rw [if_neg hc] at h
            refine r_iconst (pc := 140) hX (dk D_X12_laysLanes 81 rfl) ?_
            refine r_goto (pc := 141) hX 145 rfl (dk D_X12_laysLanes 82 rfl) ?_
            refine r_istoren (lv' := [(3, 0, 1), (0, 2, v0), (2, 0, v2), (4, 0, v4)]) (pc := 145) hX (by decide) rfl (dk D_X12_laysLanes 84 rfl) ?_
            refine r_iinc (lv' := [(4, 0, (w32 (v4 + 1))), (3, 0, 1), (0, 2, v0), (2, 0, v2)]) (pc := 146) hX 3 rfl (by decide) rfl (dk D_X12_laysLanes 85 rfl) ?_
            refine r_goto (pc := 149) hX 62 rfl (dk D_X12_laysLanes 86 rfl) ?_
            refine r_sub (lv' := [(0, 2, v0), (2, 0, v2), (3, 0, 1), (4, 0, (w32 (v4 + 1)))]) [2, 3, 1, 0] rfl ?_
            exact ih v0 v2 1 (w32 (v4 + 1)) μ13 q_v2 (R32_lit rfl) (R32_w _) h
          · rw [if_pos hc] at h
            refine r_iloadn (pc := 136) hX 0 rfl (dk D_X12_laysLanes 79 rfl) ?_
            refine r_if_eq (pc := 137) hX qy9 144 rfl (dk D_X12_laysLanes 80 rfl) (fun hc => ?_) (fun hc => ?_)
            · rw [if_pos hc] at h
              refine r_iconst (pc := 144) hX (dk D_X12_laysLanes 83 rfl) ?_
              refine r_istoren (lv' := [(3, 0, 0), (0, 2, v0), (2, 0, v2), (4, 0, v4)]) (pc := 145) hX (by decide) rfl (dk D_X12_laysLanes 84 rfl) ?_
              refine r_iinc (lv' := [(4, 0, (w32 (v4 + 1))), (3, 0, 0), (0, 2, v0), (2, 0, v2)]) (pc := 146) hX 3 rfl (by decide) rfl (dk D_X12_laysLanes 85 rfl) ?_
              refine r_goto (pc := 149) hX 62 rfl (dk D_X12_laysLanes 86 rfl) ?_
              refine r_sub (lv' := [(0, 2, v0), (2, 0, v2), (3, 0, 0), (4, 0, (w32 (v4 + 1)))]) [2, 3, 1, 0] rfl ?_
              exact ih v0 v2 0 (w32 (v4 + 1)) μ13 q_v2 (R32_lit rfl) (R32_w _) h
            · rw [if_neg hc] at h
              refine r_iconst (pc := 140) hX (dk D_X12_laysLanes 81 rfl) ?_
              refine r_goto (pc := 141) hX 145 rfl (dk D_X12_laysLanes 82 rfl) ?_
              refine r_istoren (lv' := [(3, 0, 1), (0, 2, v0), (2, 0, v2), (4, 0, v4)]) (pc := 145) hX (by decide) rfl (dk D_X12_laysLanes 84 rfl) ?_
              refine r_iinc (lv' := [(4, 0, (w32 (v4 + 1))), (3, 0, 1), (0, 2, v0), (2, 0, v2)]) (pc := 146) hX 3 rfl (by decide) rfl (dk D_X12_laysLanes 85 rfl) ?_
              refine r_goto (pc := 149) hX 62 rfl (dk D_X12_laysLanes 86 rfl) ?_
              refine r_sub (lv' := [(0, 2, v0), (2, 0, v2), (3, 0, 1), (4, 0, (w32 (v4 + 1)))]) [2, 3, 1, 0] rfl ?_
              exact ih v0 v2 1 (w32 (v4 + 1)) μ13 q_v2 (R32_lit rfl) (R32_w _) h
        clear h
        have h := hb
        clear hb
        refine r_if_ne (pc := 103) hX qx7 110 rfl (dk D_X12_laysLanes 61 rfl) (fun hc => ?_) (fun hc => ?_)
        · rw [if_neg hc] at h
          refine r_iconst (pc := 110) hX (dk D_X12_laysLanes 64 rfl) ?_
          refine r_goto (pc := 111) hX 115 rfl (dk D_X12_laysLanes 65 rfl) ?_
          replace h := Option.some.inj h
          subst y9
          refine r_sub (lv' := [(0, 2, v0), (2, 0, v2), (4, 0, v4)]) [0, 1, 3] rfl ?_
          exact hj (R32_lit rfl)
        · rw [if_pos hc] at h
          refine r_iloadn (pc := 106) hX 2 rfl (dk D_X12_laysLanes 62 rfl) ?_
          refine r_if_eq (pc := 107) hX q_v3 114 rfl (dk D_X12_laysLanes 63 rfl) (fun hc => ?_) (fun hc => ?_)
          · rw [if_pos hc] at h
            refine r_iconst (pc := 114) hX (dk D_X12_laysLanes 66 rfl) ?_
            replace h := Option.some.inj h
            subst y9
            refine r_sub (lv' := [(0, 2, v0), (2, 0, v2), (4, 0, v4)]) [0, 1, 3] rfl ?_
            exact hj (R32_lit rfl)
          · rw [if_neg hc] at h
            refine r_iconst (pc := 110) hX (dk D_X12_laysLanes 64 rfl) ?_
            refine r_goto (pc := 111) hX 115 rfl (dk D_X12_laysLanes 65 rfl) ?_
            replace h := Option.some.inj h
            subst y9
            refine r_sub (lv' := [(0, 2, v0), (2, 0, v2), (4, 0, v4)]) [0, 1, 3] rfl ?_
            exact hj (R32_lit rfl)
      · rw [if_pos hc] at h
        refine r_goto (pc := 83) hX 146 rfl (dk D_X12_laysLanes 50 rfl) ?_
        refine r_iinc (lv' := [(4, 0, (w32 (v4 + 1))), (0, 2, v0), (2, 0, v2), (3, 0, v3)]) (pc := 146) hX 3 rfl (by decide) rfl (dk D_X12_laysLanes 85 rfl) ?_
        refine r_goto (pc := 149) hX 62 rfl (dk D_X12_laysLanes 86 rfl) ?_
        refine r_sub (lv' := [(0, 2, v0), (2, 0, v2), (3, 0, v3), (4, 0, (w32 (v4 + 1)))]) [1, 2, 3, 0] rfl ?_
        exact ih v0 v2 v3 (w32 (v4 + 1)) μ4 q_v2 q_v3 (R32_w _) h
set_option maxRecDepth 100000 in
set_option maxHeartbeats 4000000 in
theorem L_M_laysLanes_L53 {E : EX} {X : CX} {res : Int} {μe : Mem} (hX : Good E X cX12_laysLanes 5 "TollsBackModel") (hM : GoodM E X none none μe 0 0) (hRm : cR X = rmOf 5 0 0) : ∀ (n : Nat) (v0 v2 v3 : Int) (μ : Mem) (q_v2 : R32 v2) (q_v3 : R32 v3) (h : M_laysLanes_L53 n v0 v2 v3 μ = some (res, μe)), At E X cX12_laysLanes 5 "TollsBackModel" (0, 0) 53 [(0, 2, v0), (2, 0, v2), (3, 0, v3)] [] μ := by
  intro n
  induction n with
  | zero =>
    intro v0 v2 v3 μ q_v2 q_v3 h
    have h : (none : Option (Int × Mem)) = some (res, μe) := h
    cases h
  | succ n ih =>
    intro v0 v2 v3 μ q_v2 q_v3 h
    rw [M_laysLanes_L53.eq_2] at h
    refine r_iloadn (pc := 53) hX 2 rfl (dk D_X12_laysLanes 34 rfl) ?_
    refine r_if_eq (pc := 54) hX q_v3 155 rfl (dk D_X12_laysLanes 35 rfl) (fun hc => ?_) (fun hc => ?_)
    · rw [if_pos hc] at h
      cases h
      exact r_return (pc := 155) hX hM ⟨by decide, by decide⟩ (dk D_X12_laysLanes 88 rfl)
    · rw [if_neg hc] at h
      refine r_iconst (pc := 57) hX (dk D_X12_laysLanes 36 rfl) ?_
      refine r_istoren (lv' := [(3, 0, 0), (0, 2, v0), (2, 0, v2)]) (pc := 58) hX (by decide) rfl (dk D_X12_laysLanes 37 rfl) ?_
      refine r_iconst (pc := 59) hX (dk D_X12_laysLanes 38 rfl) ?_
      refine r_istore (lv' := [(4, 0, 0), (3, 0, 0), (0, 2, v0), (2, 0, v2)]) (pc := 60) hX (by decide) rfl (dk D_X12_laysLanes 39 rfl) ?_
      refine r_sub (lv' := [(0, 2, v0), (2, 0, v2), (3, 0, 0), (4, 0, 0)]) [2, 3, 1, 0] rfl ?_
      refine L_M_laysLanes_L62 hX hM hRm ?_ FU v0 v2 0 0 μ q_v2 (R32_lit rfl) (R32_lit rfl) h
      intro x1 x2 x3 μ4 qx2 qx3 h
      refine r_goto (pc := 152) hX 53 rfl (dk D_X12_laysLanes 87 rfl) ?_
      exact ih x1 x2 x3 μ4 qx2 qx3 h
set_option maxRecDepth 100000 in
set_option maxHeartbeats 4000000 in
theorem L_M_laysLanes {E : EX} {l : Launch} {a0 a1 a2 res : Int} {μ μ' : Mem} (q_a1 : R32 a1) (q_a2 : R32 a2) (h : M_laysLanes a0 a1 a2 μ = some (res, μ')) : Ok E l 5 yX12_laysLanes (.code yX12_laysLanes cX12_laysLanes 5 none) 0 0 [(2, a0), (0, a1), (0, a2)] μ none μ' := by
  refine Ok.of (own := "TollsBackModel") [(0, 2, a0), (1, 0, a1), (2, 0, a2)] (by decide +kernel) rfl (Nat.le_of_ble_eq_true rfl) rfl ?_
  intro X hL hRm hin hX hM
  unfold M_laysLanes at h
  subst hL
  refine r_iconst (pc := 0) hX (dk D_X12_laysLanes 0 rfl) ?_
  refine r_istoren (lv' := [(3, 0, 0), (0, 2, a0), (1, 0, a1), (2, 0, a2)]) (pc := 1) hX (by decide) rfl (dk D_X12_laysLanes 1 rfl) ?_
  refine r_sub (lv' := [(0, 2, a0), (1, 0, a1), (2, 0, a2), (3, 0, 0)]) [1, 2, 3, 0] rfl ?_
  refine L_M_laysLanes_L2 hX hM hRm ?_ FU a0 a1 a2 0 μ q_a1 q_a2 (R32_lit rfl) h
  intro x1 x2 x3 μ4 qx2 qx3 h
  refine r_aloadn (pc := 30) hX 0 rfl (dk D_X12_laysLanes 17 rfl) ?_
  obtain ⟨x5, hx5, h⟩ := bd_some h
  refine r_getR (pc := 31) hX fl_12_77 rfl hx5 (dk D_X12_laysLanes 18 rfl) ?_
  refine r_iloadn (pc := 34) hX 1 rfl (dk D_X12_laysLanes 19 rfl) ?_
  refine r_iconst (pc := 35) hX (dk D_X12_laysLanes 20 rfl) ?_
  obtain ⟨μ6, hμ6, h⟩ := bd_some h
  refine r_iast (pc := 36) hX qx2 (R32_lit rfl) hμ6 (dk D_X12_laysLanes 21 rfl) ?_
  refine r_aloadn (pc := 37) hX 0 rfl (dk D_X12_laysLanes 22 rfl) ?_
  obtain ⟨x7, hx7, h⟩ := bd_some h
  refine r_getR (pc := 38) hX fl_12_80 rfl hx7 (dk D_X12_laysLanes 23 rfl) ?_
  refine r_iloadn (pc := 41) hX 1 rfl (dk D_X12_laysLanes 24 rfl) ?_
  refine r_iconst (pc := 42) hX (dk D_X12_laysLanes 25 rfl) ?_
  obtain ⟨μ8, hμ8, h⟩ := bd_some h
  refine r_iast (pc := 43) hX qx2 (R32_lit rfl) hμ8 (dk D_X12_laysLanes 26 rfl) ?_
  refine r_aloadn (pc := 44) hX 0 rfl (dk D_X12_laysLanes 27 rfl) ?_
  obtain ⟨x9, hx9, h⟩ := bd_some h
  refine r_getR (pc := 45) hX fl_12_83 rfl hx9 (dk D_X12_laysLanes 28 rfl) ?_
  refine r_iloadn (pc := 48) hX 1 rfl (dk D_X12_laysLanes 29 rfl) ?_
  refine r_iconst (pc := 49) hX (dk D_X12_laysLanes 30 rfl) ?_
  obtain ⟨μ10, hμ10, h⟩ := bd_some h
  refine r_iast (pc := 50) hX qx2 (R32_lit rfl) hμ10 (dk D_X12_laysLanes 31 rfl) ?_
  refine r_iconst (pc := 51) hX (dk D_X12_laysLanes 32 rfl) ?_
  refine r_istoren (lv' := [(3, 0, 1), (0, 2, x1), (1, 0, x2), (2, 0, x3)]) (pc := 52) hX (by decide) rfl (dk D_X12_laysLanes 33 rfl) ?_
  refine r_sub (lv' := [(0, 2, x1), (2, 0, x3), (3, 0, 1)]) [1, 3, 0] rfl ?_
  refine L_M_laysLanes_L53 hX hM hRm FU x1 x3 1 μ10 qx3 (R32_lit rfl) h
set_option maxRecDepth 100000 in
set_option maxHeartbeats 4000000 in
theorem L_M_lane_L153 {E : EX} {X : CX} {res : Int} {μe : Mem} (hX : Good E X cX12_lane 8 "TollsBackModel") (hM : GoodM E X (some .int) (some (0, res)) μe 0 0) (hRm : cR X = rmOf 6 0 0) {k191 : Int → Int → Int → Int → Int → Int → Int → Mem → Option (Int × Mem)} (hk191 : ∀ (u0 u1 u2 u3 u4 u5 u6 : Int) (μ : Mem), R32 u1 → R32 u2 → R32 u3 → R32 u4 → R32 u5 → R32 u6 → k191 u0 u1 u2 u3 u4 u5 u6 μ = some (res, μe) → At E X cX12_lane 8 "TollsBackModel" (0, 0) 191 [(0, 2, u0), (2, 0, u1), (3, 0, u2), (4, 0, u3), (5, 0, u4), (6, 0, u5), (7, 0, u6)] [] μ) : ∀ (n : Nat) (v0 v2 v3 v4 v5 v6 v7 : Int) (μ : Mem) (q_v2 : R32 v2) (q_v3 : R32 v3) (q_v4 : R32 v4) (q_v5 : R32 v5) (q_v6 : R32 v6) (q_v7 : R32 v7) (h : M_lane_L153 k191 n v0 v2 v3 v4 v5 v6 v7 μ = some (res, μe)), At E X cX12_lane 8 "TollsBackModel" (0, 0) 153 [(0, 2, v0), (2, 0, v2), (3, 0, v3), (4, 0, v4), (5, 0, v5), (6, 0, v6), (7, 0, v7)] [] μ := by
  intro n
  induction n with
  | zero =>
    intro v0 v2 v3 v4 v5 v6 v7 μ q_v2 q_v3 q_v4 q_v5 q_v6 q_v7 h
    have h : (none : Option (Int × Mem)) = some (res, μe) := h
    cases h
  | succ n ih =>
    intro v0 v2 v3 v4 v5 v6 v7 μ q_v2 q_v3 q_v4 q_v5 q_v6 q_v7 h
    rw [M_lane_L153.eq_2] at h
    refine r_aloadn (pc := 153) hX 0 rfl (dk D_X12_lane 88 rfl) ?_
    refine r_iload (pc := 154) hX 6 rfl (dk D_X12_lane 89 rfl) ?_
    obtain ⟨_, hi, h⟩ := bd_some h
    obtain ⟨x1, μ2, hx1, h⟩ := bd2_some h
    refine r_invV0 (As := [(0, v7)]) (pc := 156) hX ml_12_213 (L_M_isOpen q_v7 hx1) (isk_u hi) (Rm_of hRm (by decide) ⟨by decide, by decide⟩) (by decide) rfl (Nat.le_of_ble_eq_true rfl) rfl (dk D_X12_lane 90 rfl) (fun qx1 => ?_)
    refine r_if_eq (pc := 159) hX qx1 185 rfl (dk D_X12_lane 91 rfl) (fun hc => ?_) (fun hc => ?_)
    · rw [if_pos hc] at h
      refine r_iinc (lv' := [(7, 0, (w32 (v7 + 1))), (0, 2, v0), (2, 0, v2), (3, 0, v3), (4, 0, v4), (5, 0, v5), (6, 0, v6)]) (pc := 185) hX 6 rfl (by decide) rfl (dk D_X12_lane 103 rfl) ?_
      refine r_goto (pc := 188) hX 153 rfl (dk D_X12_lane 104 rfl) ?_
      refine r_sub (lv' := [(0, 2, v0), (2, 0, v2), (3, 0, v3), (4, 0, v4), (5, 0, v5), (6, 0, v6), (7, 0, (w32 (v7 + 1)))]) [1, 2, 3, 4, 5, 6, 0] rfl ?_
      exact ih v0 v2 v3 v4 v5 v6 (w32 (v7 + 1)) μ2 q_v2 q_v3 q_v4 q_v5 q_v6 (R32_w _) h
    · rw [if_neg hc] at h
      refine r_aloadn (pc := 162) hX 0 rfl (dk D_X12_lane 92 rfl) ?_
      refine r_iload (pc := 163) hX 6 rfl (dk D_X12_lane 93 rfl) ?_
      refine r_iload (pc := 165) hX 4 rfl (dk D_X12_lane 94 rfl) ?_
      obtain ⟨_, hi, h⟩ := bd_some h
      obtain ⟨x3, μ4, hx3, h⟩ := bd2_some h
      refine r_invV0 (As := [(0, v7), (0, v5)]) (pc := 167) hX ml_12_216 (L_M_leads q_v7 q_v5 hx3) (isk_u hi) (Rm_of hRm (by decide) ⟨by decide, by decide⟩) (by decide) rfl (Nat.le_of_ble_eq_true rfl) rfl (dk D_X12_lane 95 rfl) (fun qx3 => ?_)
      refine r_if_eq (pc := 170) hX qx3 185 rfl (dk D_X12_lane 96 rfl) (fun hc => ?_) (fun hc => ?_)
      · rw [if_pos hc] at h
        refine r_iinc (lv' := [(7, 0, (w32 (v7 + 1))), (0, 2, v0), (2, 0, v2), (3, 0, v3), (4, 0, v4), (5, 0, v5), (6, 0, v6)]) (pc := 185) hX 6 rfl (by decide) rfl (dk D_X12_lane 103 rfl) ?_
        refine r_goto (pc := 188) hX 153 rfl (dk D_X12_lane 104 rfl) ?_
        refine r_sub (lv' := [(0, 2, v0), (2, 0, v2), (3, 0, v3), (4, 0, v4), (5, 0, v5), (6, 0, v6), (7, 0, (w32 (v7 + 1)))]) [1, 2, 3, 4, 5, 6, 0] rfl ?_
        exact ih v0 v2 v3 v4 v5 v6 (w32 (v7 + 1)) μ4 q_v2 q_v3 q_v4 q_v5 q_v6 (R32_w _) h
      · rw [if_neg hc] at h
        refine r_aloadn (pc := 173) hX 0 rfl (dk D_X12_lane 97 rfl) ?_
        refine r_iload (pc := 174) hX 4 rfl (dk D_X12_lane 98 rfl) ?_
        refine r_iload (pc := 176) hX 6 rfl (dk D_X12_lane 99 rfl) ?_
        refine r_iloadn (pc := 178) hX 2 rfl (dk D_X12_lane 100 rfl) ?_
        obtain ⟨_, hi, h⟩ := bd_some h
        obtain ⟨x5, μ6, hx5, h⟩ := bd2_some h
        refine r_invV0 (As := [(0, v5), (0, v7), (0, v3)]) (pc := 179) hX ml_12_390 (L_M_isLane q_v5 q_v7 q_v3 hx5) (isk_u hi) (Rm_of hRm (by decide) ⟨by decide, by decide⟩) (by decide) rfl (Nat.le_of_ble_eq_true rfl) rfl (dk D_X12_lane 101 rfl) (fun qx5 => ?_)
        refine r_if_ne (pc := 182) hX qx5 191 rfl (dk D_X12_lane 102 rfl) (fun hc => ?_) (fun hc => ?_)
        · rw [if_neg hc] at h
          exact hk191 v0 v2 v3 v4 v5 v6 v7 μ6 q_v2 q_v3 q_v4 q_v5 q_v6 q_v7 h
        · rw [if_pos hc] at h
          refine r_iinc (lv' := [(7, 0, (w32 (v7 + 1))), (0, 2, v0), (2, 0, v2), (3, 0, v3), (4, 0, v4), (5, 0, v5), (6, 0, v6)]) (pc := 185) hX 6 rfl (by decide) rfl (dk D_X12_lane 103 rfl) ?_
          refine r_goto (pc := 188) hX 153 rfl (dk D_X12_lane 104 rfl) ?_
          refine r_sub (lv' := [(0, 2, v0), (2, 0, v2), (3, 0, v3), (4, 0, v4), (5, 0, v5), (6, 0, v6), (7, 0, (w32 (v7 + 1)))]) [1, 2, 3, 4, 5, 6, 0] rfl ?_
          exact ih v0 v2 v3 v4 v5 v6 (w32 (v7 + 1)) μ6 q_v2 q_v3 q_v4 q_v5 q_v6 (R32_w _) h
set_option maxRecDepth 100000 in
set_option maxHeartbeats 4000000 in
theorem L_M_lane_L144 {E : EX} {X : CX} {res : Int} {μe : Mem} (hX : Good E X cX12_lane 8 "TollsBackModel") (hM : GoodM E X (some .int) (some (0, res)) μe 0 0) (hRm : cR X = rmOf 6 0 0) : ∀ (n : Nat) (v0 v2 v3 v4 v5 v6 : Int) (μ : Mem) (q_v2 : R32 v2) (q_v3 : R32 v3) (q_v4 : R32 v4) (q_v5 : R32 v5) (q_v6 : R32 v6) (h : M_lane_L144 n v0 v2 v3 v4 v5 v6 μ = some (res, μe)), At E X cX12_lane 8 "TollsBackModel" (0, 0) 144 [(0, 2, v0), (2, 0, v2), (3, 0, v3), (4, 0, v4), (5, 0, v5), (6, 0, v6)] [] μ := by
  intro n
  induction n with
  | zero =>
    intro v0 v2 v3 v4 v5 v6 μ q_v2 q_v3 q_v4 q_v5 q_v6 h
    have h : (none : Option (Int × Mem)) = some (res, μe) := h
    cases h
  | succ n ih =>
    intro v0 v2 v3 v4 v5 v6 μ q_v2 q_v3 q_v4 q_v5 q_v6 h
    rw [M_lane_L144.eq_2] at h
    refine r_iload (pc := 144) hX 4 rfl (dk D_X12_lane 83 rfl) ?_
    refine r_iloadn (pc := 146) hX 1 rfl (dk D_X12_lane 84 rfl) ?_
    refine r_icmp_eq (pc := 147) hX q_v5 q_v2 224 rfl (dk D_X12_lane 85 rfl) (fun hc => ?_) (fun hc => ?_)
    · rw [if_pos hc] at h
      refine r_iconst (pc := 224) hX (dk D_X12_lane 121 rfl) ?_
      cases h
      exact r_ireturn (pc := 225) hX (R32_lit rfl) hM ⟨by decide, by decide⟩ (dk D_X12_lane 122 rfl)
    · rw [if_neg hc] at h
      refine r_iconst (pc := 150) hX (dk D_X12_lane 86 rfl) ?_
      refine r_istore (lv' := [(7, 0, 0), (0, 2, v0), (2, 0, v2), (3, 0, v3), (4, 0, v4), (5, 0, v5), (6, 0, v6)]) (pc := 151) hX (by decide) rfl (dk D_X12_lane 87 rfl) ?_
      refine r_sub (lv' := [(0, 2, v0), (2, 0, v2), (3, 0, v3), (4, 0, v4), (5, 0, v5), (6, 0, v6), (7, 0, 0)]) [1, 2, 3, 4, 5, 6, 0] rfl ?_
      refine L_M_lane_L153 hX hM hRm ?_ FU v0 v2 v3 v4 v5 v6 0 μ q_v2 q_v3 q_v4 q_v5 q_v6 (R32_lit rfl) h
      intro x1 x2 x3 x4 x5 x6 x7 μ8 qx2 qx3 qx4 qx5 qx6 qx7 h
      refine r_iload (pc := 191) hX 5 rfl (dk D_X12_lane 105 rfl) ?_
      refine r_iload (pc := 193) hX 3 rfl (dk D_X12_lane 106 rfl) ?_
      refine r_bipush (pc := 195) hX rfl (dk D_X12_lane 107 rfl) ?_
      refine r_isub (pc := 197) hX (dk D_X12_lane 108 rfl) ?_
      refine r_icmp_ne (pc := 198) hX qx6 (R32_w _) 204 rfl (dk D_X12_lane 109 rfl) (fun hc => ?_) (fun hc => ?_)
      · rw [if_neg hc] at h
        refine r_aloadn (pc := 204) hX 0 rfl (dk D_X12_lane 112 rfl) ?_
        refine r_aloadn (pc := 205) hX 0 rfl (dk D_X12_lane 113 rfl) ?_
        refine r_iload (pc := 206) hX 6 rfl (dk D_X12_lane 114 rfl) ?_
        refine r_iload (pc := 208) hX 4 rfl (dk D_X12_lane 115 rfl) ?_
        obtain ⟨_, hi, h⟩ := bd_some h
        obtain ⟨x9, μ10, hx9, h⟩ := bd2_some h
        refine r_invV0 (As := [(0, x7), (0, x5)]) (pc := 210) hX ml_12_249 (L_M_dartBy qx7 qx5 hx9) (isk_u hi) (Rm_of hRm (by decide) ⟨by decide, by decide⟩) (by decide) rfl (Nat.le_of_ble_eq_true rfl) rfl (dk D_X12_lane 116 rfl) (fun qx9 => ?_)
        obtain ⟨_, hi, h⟩ := bd_some h
        obtain ⟨x11, μ12, hx11, h⟩ := bd2_some h
        refine r_invV0 (As := [(0, x9)]) (pc := 213) hX ml_12_243 (L_M_headOf qx9 hx11) (isk_u hi) (Rm_of hRm (by decide) ⟨by decide, by decide⟩) (by decide) rfl (Nat.le_of_ble_eq_true rfl) rfl (dk D_X12_lane 117 rfl) (fun qx11 => ?_)
        refine r_istore (lv' := [(5, 0, x11), (0, 2, x1), (2, 0, x2), (3, 0, x3), (4, 0, x4), (6, 0, x6), (7, 0, x7)]) (pc := 216) hX (by decide) rfl (dk D_X12_lane 118 rfl) ?_
        refine r_iinc (lv' := [(6, 0, (w32 (x6 + 1))), (5, 0, x11), (0, 2, x1), (2, 0, x2), (3, 0, x3), (4, 0, x4), (7, 0, x7)]) (pc := 218) hX 5 rfl (by decide) rfl (dk D_X12_lane 119 rfl) ?_
        refine r_goto (pc := 221) hX 144 rfl (dk D_X12_lane 120 rfl) ?_
        refine r_sub (lv' := [(0, 2, x1), (2, 0, x2), (3, 0, x3), (4, 0, x4), (5, 0, x11), (6, 0, (w32 (x6 + 1)))]) [2, 3, 4, 5, 1, 0] rfl ?_
        exact ih x1 x2 x3 x4 x11 (w32 (x6 + 1)) μ12 qx2 qx3 qx4 qx11 (R32_w _) h
      · rw [if_pos hc] at h
        refine r_iload (pc := 201) hX 6 rfl (dk D_X12_lane 110 rfl) ?_
        cases h
        exact r_ireturn (pc := 203) hX qx7 hM ⟨by decide, by decide⟩ (dk D_X12_lane 111 rfl)
set_option maxRecDepth 100000 in
set_option maxHeartbeats 4000000 in
theorem L_M_lane_J72 {E : EX} {X : CX} {res : Int} {μe : Mem} (hX : Good E X cX12_lane 8 "TollsBackModel") (hM : GoodM E X (some .int) (some (0, res)) μe 0 0) (hRm : cR X = rmOf 6 0 0) {v0 v1 v2 v3 v4 : Int} {μ : Mem} (q_v1 : R32 v1) (q_v2 : R32 v2) (q_v3 : R32 v3) (q_v4 : R32 v4) (h : M_lane_J72 v0 v1 v2 v3 v4 μ = some (res, μe)) : At E X cX12_lane 8 "TollsBackModel" (0, 0) 72 [(0, 2, v0), (1, 0, v1), (2, 0, v2), (3, 0, v3), (4, 0, v4)] [] μ := by
  unfold M_lane_J72 at h
  refine r_iloadn (pc := 72) hX 3 rfl (dk D_X12_lane 41 rfl) ?_
  refine r_if_ge (pc := 73) hX q_v3 79 rfl (dk D_X12_lane 42 rfl) (fun hc => ?_) (fun hc => ?_)
  · rw [if_neg hc] at h
    refine r_aloadn (pc := 79) hX 0 rfl (dk D_X12_lane 45 rfl) ?_
    refine r_iloadn (pc := 80) hX 2 rfl (dk D_X12_lane 46 rfl) ?_
    refine r_iloadn (pc := 81) hX 3 rfl (dk D_X12_lane 47 rfl) ?_
    obtain ⟨_, hi, h⟩ := bd_some h
    obtain ⟨x1, μ2, hx1, h⟩ := bd2_some h
    refine r_invV0 (As := [(0, v2), (0, v3)]) (pc := 82) hX ml_12_387 (L_M_laysLanes q_v2 q_v3 hx1) (isk_u hi) (Rm_of hRm (by decide) ⟨by decide, by decide⟩) (by decide) rfl (Nat.le_of_ble_eq_true rfl) rfl (dk D_X12_lane 48 rfl) (fun _ => ?_)
    refine r_aloadn (pc := 85) hX 0 rfl (dk D_X12_lane 49 rfl) ?_
    obtain ⟨x3, hx3, h⟩ := bd_some h
    refine r_getR (pc := 86) hX fl_12_86 rfl hx3 (dk D_X12_lane 50 rfl) ?_
    refine r_iloadn (pc := 89) hX 1 rfl (dk D_X12_lane 51 rfl) ?_
    obtain ⟨x4, hx4, h⟩ := bd_some h
    refine r_zald (pc := 90) hX q_v1 hx4 (dk D_X12_lane 52 rfl) (fun qx4 => ?_)
    refine r_if_ne (pc := 91) hX qx4 96 rfl (dk D_X12_lane 53 rfl) (fun hc => ?_) (fun hc => ?_)
    · rw [if_neg hc] at h
      refine r_iload (pc := 96) hX 4 rfl (dk D_X12_lane 56 rfl) ?_
      refine r_iconst (pc := 98) hX (dk D_X12_lane 57 rfl) ?_
      refine r_icmp_ge (pc := 99) hX q_v4 (R32_lit rfl) 138 rfl (dk D_X12_lane 58 rfl) (fun hc => ?_) (fun hc => ?_)
      · rw [if_neg hc] at h
        refine r_iloadn (pc := 138) hX 1 rfl (dk D_X12_lane 79 rfl) ?_
        refine r_istore (lv' := [(5, 0, v1), (0, 2, v0), (1, 0, v1), (2, 0, v2), (3, 0, v3), (4, 0, v4)]) (pc := 139) hX (by decide) rfl (dk D_X12_lane 80 rfl) ?_
        refine r_iconst (pc := 141) hX (dk D_X12_lane 81 rfl) ?_
        refine r_istore (lv' := [(6, 0, 0), (5, 0, v1), (0, 2, v0), (1, 0, v1), (2, 0, v2), (3, 0, v3), (4, 0, v4)]) (pc := 142) hX (by decide) rfl (dk D_X12_lane 82 rfl) ?_
        refine r_sub (lv' := [(0, 2, v0), (2, 0, v2), (3, 0, v3), (4, 0, v4), (5, 0, v1), (6, 0, 0)]) [2, 4, 5, 6, 1, 0] rfl ?_
        refine L_M_lane_L144 hX hM hRm FU v0 v2 v3 v4 v1 0 μ2 q_v2 q_v3 q_v4 q_v1 (R32_lit rfl) h
      · rw [if_pos hc] at h
        refine r_iload (pc := 102) hX 4 rfl (dk D_X12_lane 59 rfl) ?_
        refine r_if_ne (pc := 104) hX q_v4 116 rfl (dk D_X12_lane 60 rfl) (fun hc => ?_) (fun hc => ?_)
        · rw [if_neg hc] at h
          refine r_iload (pc := 116) hX 4 rfl (dk D_X12_lane 66 rfl) ?_
          refine r_iconst (pc := 118) hX (dk D_X12_lane 67 rfl) ?_
          refine r_icmp_ne (pc := 119) hX q_v4 (R32_lit rfl) 131 rfl (dk D_X12_lane 68 rfl) (fun hc => ?_) (fun hc => ?_)
          · rw [if_neg hc] at h
            refine r_aloadn (pc := 131) hX 0 rfl (dk D_X12_lane 74 rfl) ?_
            obtain ⟨x5, hx5, h⟩ := bd_some h
            refine r_getR (pc := 132) hX fl_12_83 rfl hx5 (dk D_X12_lane 75 rfl) ?_
            refine r_iloadn (pc := 135) hX 1 rfl (dk D_X12_lane 76 rfl) ?_
            obtain ⟨x6, hx6, h⟩ := bd_some h
            refine r_iald (pc := 136) hX q_v1 hx6 (dk D_X12_lane 77 rfl) (fun qx6 => ?_)
            cases h
            exact r_ireturn (pc := 137) hX qx6 hM ⟨by decide, by decide⟩ (dk D_X12_lane 78 rfl)
          · rw [if_pos hc] at h
            refine r_aloadn (pc := 122) hX 0 rfl (dk D_X12_lane 69 rfl) ?_
            obtain ⟨x7, hx7, h⟩ := bd_some h
            refine r_getR (pc := 123) hX fl_12_80 rfl hx7 (dk D_X12_lane 70 rfl) ?_
            refine r_iloadn (pc := 126) hX 1 rfl (dk D_X12_lane 71 rfl) ?_
            obtain ⟨x8, hx8, h⟩ := bd_some h
            refine r_iald (pc := 127) hX q_v1 hx8 (dk D_X12_lane 72 rfl) (fun qx8 => ?_)
            refine r_goto (pc := 128) hX 137 rfl (dk D_X12_lane 73 rfl) ?_
            cases h
            exact r_ireturn (pc := 137) hX qx8 hM ⟨by decide, by decide⟩ (dk D_X12_lane 78 rfl)
        · rw [if_pos hc] at h
          refine r_aloadn (pc := 107) hX 0 rfl (dk D_X12_lane 61 rfl) ?_
          obtain ⟨x9, hx9, h⟩ := bd_some h
          refine r_getR (pc := 108) hX fl_12_77 rfl hx9 (dk D_X12_lane 62 rfl) ?_
          refine r_iloadn (pc := 111) hX 1 rfl (dk D_X12_lane 63 rfl) ?_
          obtain ⟨x10, hx10, h⟩ := bd_some h
          refine r_iald (pc := 112) hX q_v1 hx10 (dk D_X12_lane 64 rfl) (fun qx10 => ?_)
          refine r_goto (pc := 113) hX 137 rfl (dk D_X12_lane 65 rfl) ?_
          cases h
          exact r_ireturn (pc := 137) hX qx10 hM ⟨by decide, by decide⟩ (dk D_X12_lane 78 rfl)
    · rw [if_pos hc] at h
      refine r_iconst (pc := 94) hX (dk D_X12_lane 54 rfl) ?_
      cases h
      exact r_ireturn (pc := 95) hX (R32_lit rfl) hM ⟨by decide, by decide⟩ (dk D_X12_lane 55 rfl)
  · rw [if_pos hc] at h
    refine r_bipush (pc := 76) hX rfl (dk D_X12_lane 43 rfl) ?_
    cases h
    exact r_ireturn (pc := 78) hX (R32_lit rfl) hM ⟨by decide, by decide⟩ (dk D_X12_lane 44 rfl)
set_option maxRecDepth 100000 in
set_option maxHeartbeats 4000000 in
theorem L_M_lane {E : EX} {l : Launch} {a0 a1 a2 a3 a4 res : Int} {μ μ' : Mem} (q_a1 : R32 a1) (q_a2 : R32 a2) (q_a3 : R32 a3) (q_a4 : R32 a4) (h : M_lane a0 a1 a2 a3 a4 μ = some (res, μ')) : Ok E l 6 yX12_lane (.code yX12_lane cX12_lane 8 (some .int)) 0 0 [(2, a0), (0, a1), (0, a2), (0, a3), (0, a4)] μ (some (0, res)) μ' := by
  refine Ok.of (own := "TollsBackModel") [(0, 2, a0), (1, 0, a1), (2, 0, a2), (3, 0, a3), (4, 0, a4)] (by decide +kernel) rfl (Nat.le_of_ble_eq_true rfl) rfl ?_
  intro X hL hRm hin hX hM
  unfold M_lane at h
  subst hL
  refine r_aloadn (pc := 0) hX 0 rfl (dk D_X12_lane 0 rfl) ?_
  refine r_iconst (pc := 1) hX (dk D_X12_lane 1 rfl) ?_
  obtain ⟨μ1, hμ1, h⟩ := bd_some h
  refine r_putI (pc := 2) hX fl_12_1 rfl rfl (R32_lit rfl) trivial hμ1 (dk D_X12_lane 2 rfl) ?_
  refine r_iloadn (pc := 5) hX 1 rfl (dk D_X12_lane 3 rfl) ?_
  refine r_i2l (pc := 6) hX q_a1 (dk D_X12_lane 4 rfl) ?_
  refine r_lconst (x := 0) (pc := 7) hX (by decide) (dk D_X12_lane 5 rfl) ?_
  refine r_aloadn (pc := 8) hX 0 rfl (dk D_X12_lane 6 rfl) ?_
  obtain ⟨x2, hx2, h⟩ := bd_some h
  refine r_getR (pc := 9) hX fl_12_13 rfl hx2 (dk D_X12_lane 7 rfl) ?_
  refine r_iconst (pc := 12) hX (dk D_X12_lane 8 rfl) ?_
  obtain ⟨x3, hx3, h⟩ := bd_some h
  refine r_iald (pc := 13) hX (R32_lit rfl) hx3 (dk D_X12_lane 9 rfl) (fun qx3 => ?_)
  refine r_iconst (pc := 14) hX (dk D_X12_lane 10 rfl) ?_
  refine r_isub (pc := 15) hX (dk D_X12_lane 11 rfl) ?_
  refine r_i2l (pc := 16) hX (R32_w _) (dk D_X12_lane 12 rfl) ?_
  obtain ⟨x4, μ5, hx4, h⟩ := bd2_some h
  refine r_invS0 (As := [(1, a1), (1, 0), (1, (w32 (x3 - 1)))]) (pc := 17) hX ml_12_178 (L_M_within (R64_of q_a1) (R64_lit rfl) (R64_of (R32_w _)) hx4) (Rm_of hRm (by decide) ⟨by decide, by decide⟩) (by decide) rfl (Nat.le_of_ble_eq_true rfl) rfl (dk D_X12_lane 13 rfl) (fun qx4 => ?_)
  refine r_if_eq (pc := 20) hX qx4 69 rfl (dk D_X12_lane 14 rfl) (fun hc => ?_) (fun hc => ?_)
  · rw [if_pos hc] at h
    refine r_bipush (pc := 69) hX rfl (dk D_X12_lane 39 rfl) ?_
    cases h
    exact r_ireturn (pc := 71) hX (R32_lit rfl) hM ⟨by decide, by decide⟩ (dk D_X12_lane 40 rfl)
  · rw [if_neg hc] at h
    refine r_iloadn (pc := 23) hX 2 rfl (dk D_X12_lane 15 rfl) ?_
    refine r_i2l (pc := 24) hX q_a2 (dk D_X12_lane 16 rfl) ?_
    refine r_lconst (x := 0) (pc := 25) hX (by decide) (dk D_X12_lane 17 rfl) ?_
    refine r_aloadn (pc := 26) hX 0 rfl (dk D_X12_lane 18 rfl) ?_
    obtain ⟨x6, hx6, h⟩ := bd_some h
    refine r_getR (pc := 27) hX fl_12_13 rfl hx6 (dk D_X12_lane 19 rfl) ?_
    refine r_iconst (pc := 30) hX (dk D_X12_lane 20 rfl) ?_
    obtain ⟨x7, hx7, h⟩ := bd_some h
    refine r_iald (pc := 31) hX (R32_lit rfl) hx7 (dk D_X12_lane 21 rfl) (fun qx7 => ?_)
    refine r_iconst (pc := 32) hX (dk D_X12_lane 22 rfl) ?_
    refine r_isub (pc := 33) hX (dk D_X12_lane 23 rfl) ?_
    refine r_i2l (pc := 34) hX (R32_w _) (dk D_X12_lane 24 rfl) ?_
    obtain ⟨x8, μ9, hx8, h⟩ := bd2_some h
    refine r_invS0 (As := [(1, a2), (1, 0), (1, (w32 (x7 - 1)))]) (pc := 35) hX ml_12_178 (L_M_within (R64_of q_a2) (R64_lit rfl) (R64_of (R32_w _)) hx8) (Rm_of hRm (by decide) ⟨by decide, by decide⟩) (by decide) rfl (Nat.le_of_ble_eq_true rfl) rfl (dk D_X12_lane 25 rfl) (fun qx8 => ?_)
    refine r_if_eq (pc := 38) hX qx8 69 rfl (dk D_X12_lane 26 rfl) (fun hc => ?_) (fun hc => ?_)
    · rw [if_pos hc] at h
      refine r_bipush (pc := 69) hX rfl (dk D_X12_lane 39 rfl) ?_
      cases h
      exact r_ireturn (pc := 71) hX (R32_lit rfl) hM ⟨by decide, by decide⟩ (dk D_X12_lane 40 rfl)
    · rw [if_neg hc] at h
      refine r_iload (pc := 41) hX 4 rfl (dk D_X12_lane 27 rfl) ?_
      refine r_i2l (pc := 43) hX q_a4 (dk D_X12_lane 28 rfl) ?_
      refine r_lconst (x := 0) (pc := 44) hX (by decide) (dk D_X12_lane 29 rfl) ?_
      refine r_ldc2 (pc := 45) hX cn_12_287 (dk D_X12_lane 30 rfl) ?_
      obtain ⟨x10, μ11, hx10, h⟩ := bd2_some h
      refine r_invS0 (As := [(1, a4), (1, 0), (1, 2)]) (pc := 48) hX ml_12_178 (L_M_within (R64_of q_a4) (R64_lit rfl) (R64_lit rfl) hx10) (Rm_of hRm (by decide) ⟨by decide, by decide⟩) (by decide) rfl (Nat.le_of_ble_eq_true rfl) rfl (dk D_X12_lane 31 rfl) (fun qx10 => ?_)
      refine r_if_ne (pc := 51) hX qx10 72 rfl (dk D_X12_lane 32 rfl) (fun hc => ?_) (fun hc => ?_)
      · rw [if_neg hc] at h
        refine L_M_lane_J72 hX hM hRm q_a1 q_a2 q_a3 q_a4 h
      · rw [if_pos hc] at h
        refine r_iload (pc := 54) hX 4 rfl (dk D_X12_lane 33 rfl) ?_
        refine r_i2l (pc := 56) hX q_a4 (dk D_X12_lane 34 rfl) ?_
        refine r_ldc2 (pc := 57) hX cn_12_333 (dk D_X12_lane 35 rfl) ?_
        refine r_ldc2 (pc := 60) hX cn_12_385 (dk D_X12_lane 36 rfl) ?_
        obtain ⟨x12, μ13, hx12, h⟩ := bd2_some h
        refine r_invS0 (As := [(1, a4), (1, 10), (1, 20)]) (pc := 63) hX ml_12_178 (L_M_within (R64_of q_a4) (R64_lit rfl) (R64_lit rfl) hx12) (Rm_of hRm (by decide) ⟨by decide, by decide⟩) (by decide) rfl (Nat.le_of_ble_eq_true rfl) rfl (dk D_X12_lane 37 rfl) (fun qx12 => ?_)
        refine r_if_ne (pc := 66) hX qx12 72 rfl (dk D_X12_lane 38 rfl) (fun hc => ?_) (fun hc => ?_)
        · rw [if_neg hc] at h
          refine L_M_lane_J72 hX hM hRm q_a1 q_a2 q_a3 q_a4 h
        · rw [if_pos hc] at h
          refine r_bipush (pc := 69) hX rfl (dk D_X12_lane 39 rfl) ?_
          cases h
          exact r_ireturn (pc := 71) hX (R32_lit rfl) hM ⟨by decide, by decide⟩ (dk D_X12_lane 40 rfl)
set_option maxRecDepth 100000 in
set_option maxHeartbeats 4000000 in
theorem L_M_spreads_L10 {E : EX} {X : CX} {res : Int} {μe : Mem} (hX : Good E X cX12_spreads 7 "TollsBackModel") (hM : GoodM E X none none μe 0 0) (hRm : cR X = rmOf 2 0 0) {k159 : Int → Int → Int → Mem → Option (Int × Mem)} (hk159 : ∀ (u0 u1 u2 : Int) (μ : Mem), R32 u1 → R32 u2 → k159 u0 u1 u2 μ = some (res, μe) → At E X cX12_spreads 7 "TollsBackModel" (0, 0) 159 [(0, 2, u0), (1, 0, u1), (2, 0, u2)] [] μ) : ∀ (n : Nat) (v0 v1 v2 v3 : Int) (μ : Mem) (q_v1 : R32 v1) (q_v2 : R32 v2) (q_v3 : R32 v3) (h : M_spreads_L10 k159 n v0 v1 v2 v3 μ = some (res, μe)), At E X cX12_spreads 7 "TollsBackModel" (0, 0) 10 [(0, 2, v0), (1, 0, v1), (2, 0, v2), (3, 0, v3)] [] μ := by
  intro n
  induction n with
  | zero =>
    intro v0 v1 v2 v3 μ q_v1 q_v2 q_v3 h
    have h : (none : Option (Int × Mem)) = some (res, μe) := h
    cases h
  | succ n ih =>
    intro v0 v1 v2 v3 μ q_v1 q_v2 q_v3 h
    rw [M_spreads_L10.eq_2] at h
    refine r_iloadn (pc := 10) hX 3 rfl (dk D_X12_spreads 8 rfl) ?_
    refine r_aloadn (pc := 11) hX 0 rfl (dk D_X12_spreads 9 rfl) ?_
    obtain ⟨x1, hx1, h⟩ := bd_some h
    refine r_getR (pc := 12) hX fl_12_13 rfl hx1 (dk D_X12_spreads 10 rfl) ?_
    refine r_bipush (pc := 15) hX rfl (dk D_X12_spreads 11 rfl) ?_
    obtain ⟨x2, hx2, h⟩ := bd_some h
    refine r_iald (pc := 17) hX (R32_lit rfl) hx2 (dk D_X12_spreads 12 rfl) (fun qx2 => ?_)
    refine r_icmp_ge (pc := 18) hX q_v3 qx2 159 rfl (dk D_X12_spreads 13 rfl) (fun hc => ?_) (fun hc => ?_)
    · rw [if_neg hc] at h
      refine r_sub (lv' := [(0, 2, v0), (1, 0, v1), (2, 0, v2)]) [0, 1, 2] rfl ?_
      exact hk159 v0 v1 v2 μ q_v1 q_v2 h
    · rw [if_pos hc] at h
      refine r_aloadn (pc := 21) hX 0 rfl (dk D_X12_spreads 14 rfl) ?_
      refine r_iloadn (pc := 22) hX 3 rfl (dk D_X12_spreads 15 rfl) ?_
      obtain ⟨_, hi, h⟩ := bd_some h
      obtain ⟨x3, μ4, hx3, h⟩ := bd2_some h
      refine r_invV0 (As := [(0, v3)]) (pc := 23) hX ml_12_213 (L_M_isOpen q_v3 hx3) (isk_u hi) (Rm_of hRm (by decide) ⟨by decide, by decide⟩) (by decide) rfl (Nat.le_of_ble_eq_true rfl) rfl (dk D_X12_spreads 16 rfl) (fun qx3 => ?_)
      refine r_if_ne (pc := 26) hX qx3 32 rfl (dk D_X12_spreads 17 rfl) (fun hc => ?_) (fun hc => ?_)
      · rw [if_neg hc] at h
        refine r_bipush (pc := 32) hX rfl (dk D_X12_spreads 19 rfl) ?_
        refine r_iloadn (pc := 34) hX 1 rfl (dk D_X12_spreads 20 rfl) ?_
        refine r_imul (pc := 35) hX (dk D_X12_spreads 21 rfl) ?_
        refine r_aloadn (pc := 36) hX 0 rfl (dk D_X12_spreads 22 rfl) ?_
        obtain ⟨x5, hx5, h⟩ := bd_some h
        refine r_getR (pc := 37) hX fl_12_13 rfl hx5 (dk D_X12_spreads 23 rfl) ?_
        refine r_bipush (pc := 40) hX rfl (dk D_X12_spreads 24 rfl) ?_
        refine r_iloadn (pc := 42) hX 3 rfl (dk D_X12_spreads 25 rfl) ?_
        refine r_iadd (pc := 43) hX (dk D_X12_spreads 26 rfl) ?_
        obtain ⟨x6, hx6, h⟩ := bd_some h
        refine r_iald (pc := 44) hX (R32_w _) hx6 (dk D_X12_spreads 27 rfl) (fun qx6 => ?_)
        refine r_iadd (pc := 45) hX (dk D_X12_spreads 28 rfl) ?_
        obtain ⟨x7, ex7, h⟩ := bd_some h
        replace ex7 := Option.some.inj ex7
        have qx7 : R32 x7 := ex7 ▸ (R32_w _)
        rw [ex7]
        refine r_istore (lv' := [(4, 0, x7), (0, 2, v0), (1, 0, v1), (2, 0, v2), (3, 0, v3)]) (pc := 46) hX (by decide) rfl (dk D_X12_spreads 29 rfl) ?_
        refine r_bipush (pc := 48) hX rfl (dk D_X12_spreads 30 rfl) ?_
        refine r_iloadn (pc := 50) hX 2 rfl (dk D_X12_spreads 31 rfl) ?_
        refine r_imul (pc := 51) hX (dk D_X12_spreads 32 rfl) ?_
        refine r_aloadn (pc := 52) hX 1 rfl (dk D_X12_spreads 33 rfl) ?_
        obtain ⟨x8, hx8, h⟩ := bd_some h
        refine r_getR (pc := 53) hX fl_12_13 rfl hx8 (dk D_X12_spreads 34 rfl) ?_
        refine r_bipush (pc := 56) hX rfl (dk D_X12_spreads 35 rfl) ?_
        refine r_iloadn (pc := 58) hX 4 rfl (dk D_X12_spreads 36 rfl) ?_
        refine r_iadd (pc := 59) hX (dk D_X12_spreads 37 rfl) ?_
        obtain ⟨x9, hx9, h⟩ := bd_some h
        refine r_iald (pc := 60) hX (R32_w _) hx9 (dk D_X12_spreads 38 rfl) (fun qx9 => ?_)
        refine r_iadd (pc := 61) hX (dk D_X12_spreads 39 rfl) ?_
        obtain ⟨x10, ex10, h⟩ := bd_some h
        replace ex10 := Option.some.inj ex10
        have qx10 : R32 x10 := ex10 ▸ (R32_w _)
        rw [ex10]
        refine r_istore (lv' := [(5, 0, x10), (4, 0, x7), (0, 2, v0), (1, 0, v1), (2, 0, v2), (3, 0, v3)]) (pc := 62) hX (by decide) rfl (dk D_X12_spreads 40 rfl) ?_
        refine r_aloadn (pc := 64) hX 2 rfl (dk D_X12_spreads 41 rfl) ?_
        obtain ⟨x11, hx11, h⟩ := bd_some h
        refine r_getR (pc := 65) hX fl_12_13 rfl hx11 (dk D_X12_spreads 42 rfl) ?_
        refine r_bipush (pc := 68) hX rfl (dk D_X12_spreads 43 rfl) ?_
        refine r_iloadn (pc := 70) hX 5 rfl (dk D_X12_spreads 44 rfl) ?_
        refine r_iadd (pc := 71) hX (dk D_X12_spreads 45 rfl) ?_
        obtain ⟨x12, hx12, h⟩ := bd_some h
        refine r_iald (pc := 72) hX (R32_w _) hx12 (dk D_X12_spreads 46 rfl) (fun qx12 => ?_)
        refine r_istore (lv' := [(6, 0, x12), (5, 0, x10), (4, 0, x7), (0, 2, v0), (1, 0, v1), (2, 0, v2), (3, 0, v3)]) (pc := 73) hX (by decide) rfl (dk D_X12_spreads 47 rfl) ?_
        refine r_aloadn (pc := 75) hX 3 rfl (dk D_X12_spreads 48 rfl) ?_
        obtain ⟨x13, hx13, h⟩ := bd_some h
        refine r_getR (pc := 76) hX fl_12_90 rfl hx13 (dk D_X12_spreads 49 rfl) ?_
        refine r_iload (pc := 79) hX 2 rfl (dk D_X12_spreads 50 rfl) ?_
        obtain ⟨x14, hx14, h⟩ := bd_some h
        refine r_iald (pc := 81) hX qx7 hx14 (dk D_X12_spreads 51 rfl) (fun qx14 => ?_)
        refine r_iload (pc := 82) hX 0 rfl (dk D_X12_spreads 52 rfl) ?_
        refine r_iadd (pc := 84) hX (dk D_X12_spreads 53 rfl) ?_
        refine r_aloadn (pc := 85) hX 3 rfl (dk D_X12_spreads 54 rfl) ?_
        obtain ⟨x15, hx15, h⟩ := bd_some h
        refine r_getR (pc := 86) hX fl_12_90 rfl hx15 (dk D_X12_spreads 55 rfl) ?_
        refine r_iload (pc := 89) hX 1 rfl (dk D_X12_spreads 56 rfl) ?_
        obtain ⟨x16, hx16, h⟩ := bd_some h
        refine r_iald (pc := 91) hX qx10 hx16 (dk D_X12_spreads 57 rfl) (fun qx16 => ?_)
        obtain ⟨y17, μ18, hb, h⟩ := bd2_some h
        have hj : R32 y17 → At E X cX12_spreads 7 "TollsBackModel" (0, 0) 114 [(0, 2, v0), (1, 0, v1), (2, 0, y17), (3, 0, v3), (4, 0, x7), (5, 0, x10), (6, 0, x12)] [] μ18 := by
          intro qy17
          clear hb
          refine r_aloadn (pc := 114) hX 0 rfl (dk D_X12_spreads 71 rfl) ?_
          obtain ⟨x23, hx23, h⟩ := bd_some h
          refine r_getR (pc := 115) hX fl_12_90 rfl hx23 (dk D_X12_spreads 72 rfl) ?_
          refine r_iload (pc := 118) hX 5 rfl (dk D_X12_spreads 73 rfl) ?_
          obtain ⟨x24, hx24, h⟩ := bd_some h
          refine r_iald (pc := 120) hX qx10 hx24 (dk D_X12_spreads 74 rfl) (fun qx24 => ?_)
          refine r_iload (pc := 121) hX 6 rfl (dk D_X12_spreads 75 rfl) ?_
          refine r_iadd (pc := 123) hX (dk D_X12_spreads 76 rfl) ?_
          refine r_aloadn (pc := 124) hX 0 rfl (dk D_X12_spreads 77 rfl) ?_
          obtain ⟨x25, hx25, h⟩ := bd_some h
          refine r_getR (pc := 125) hX fl_12_90 rfl hx25 (dk D_X12_spreads 78 rfl) ?_
          refine r_iload (pc := 128) hX 4 rfl (dk D_X12_spreads 79 rfl) ?_
          obtain ⟨x26, hx26, h⟩ := bd_some h
          refine r_iald (pc := 130) hX qx7 hx26 (dk D_X12_spreads 80 rfl) (fun qx26 => ?_)
          refine r_icmp_ge (pc := 131) hX (R32_w _) qx26 153 rfl (dk D_X12_spreads 81 rfl) (fun hc => ?_) (fun hc => ?_)
          · rw [if_neg hc] at h
            refine r_iinc (lv' := [(3, 0, (w32 (v3 + 1))), (0, 2, v0), (1, 0, v1), (2, 0, y17), (4, 0, x7), (5, 0, x10), (6, 0, x12)]) (pc := 153) hX 3 rfl (by decide) rfl (dk D_X12_spreads 94 rfl) ?_
            refine r_goto (pc := 156) hX 10 rfl (dk D_X12_spreads 95 rfl) ?_
            refine r_sub (lv' := [(0, 2, v0), (1, 0, v1), (2, 0, y17), (3, 0, (w32 (v3 + 1)))]) [1, 2, 3, 0] rfl ?_
            exact ih v0 v1 y17 (w32 (v3 + 1)) μ18 q_v1 qy17 (R32_w _) h
          · rw [if_pos hc] at h
            refine r_aloadn (pc := 134) hX 0 rfl (dk D_X12_spreads 82 rfl) ?_
            obtain ⟨x27, hx27, h⟩ := bd_some h
            refine r_getR (pc := 135) hX fl_12_90 rfl hx27 (dk D_X12_spreads 83 rfl) ?_
            refine r_iload (pc := 138) hX 4 rfl (dk D_X12_spreads 84 rfl) ?_
            refine r_aloadn (pc := 140) hX 0 rfl (dk D_X12_spreads 85 rfl) ?_
            obtain ⟨x28, hx28, h⟩ := bd_some h
            refine r_getR (pc := 141) hX fl_12_90 rfl hx28 (dk D_X12_spreads 86 rfl) ?_
            refine r_iload (pc := 144) hX 5 rfl (dk D_X12_spreads 87 rfl) ?_
            obtain ⟨x29, hx29, h⟩ := bd_some h
            refine r_iald (pc := 146) hX qx10 hx29 (dk D_X12_spreads 88 rfl) (fun qx29 => ?_)
            refine r_iload (pc := 147) hX 6 rfl (dk D_X12_spreads 89 rfl) ?_
            refine r_iadd (pc := 149) hX (dk D_X12_spreads 90 rfl) ?_
            obtain ⟨μ30, hμ30, h⟩ := bd_some h
            refine r_iast (pc := 150) hX qx7 (R32_w _) hμ30 (dk D_X12_spreads 91 rfl) ?_
            refine r_iconst (pc := 151) hX (dk D_X12_spreads 92 rfl) ?_
            refine r_istoren (lv' := [(2, 0, 1), (0, 2, v0), (1, 0, v1), (3, 0, v3), (4, 0, x7), (5, 0, x10), (6, 0, x12)]) (pc := 152) hX (by decide) rfl (dk D_X12_spreads 93 rfl) ?_
            refine r_iinc (lv' := [(3, 0, (w32 (v3 + 1))), (2, 0, 1), (0, 2, v0), (1, 0, v1), (4, 0, x7), (5, 0, x10), (6, 0, x12)]) (pc := 153) hX 3 rfl (by decide) rfl (dk D_X12_spreads 94 rfl) ?_
            refine r_goto (pc := 156) hX 10 rfl (dk D_X12_spreads 95 rfl) ?_
            refine r_sub (lv' := [(0, 2, v0), (1, 0, v1), (2, 0, 1), (3, 0, (w32 (v3 + 1)))]) [2, 3, 1, 0] rfl ?_
            exact ih v0 v1 1 (w32 (v3 + 1)) μ30 q_v1 (R32_lit rfl) (R32_w _) h
        clear h
        have h := hb
        clear hb
        refine r_icmp_ge (pc := 92) hX (R32_w _) qx16 114 rfl (dk D_X12_spreads 58 rfl) (fun hc => ?_) (fun hc => ?_)
        · rw [if_neg hc] at h
          replace h := Option.some.inj h
          obtain ⟨h_0, h⟩ := Prod.mk.inj h
          subst y17
          subst μ18
          refine r_sub (lv' := [(0, 2, v0), (1, 0, v1), (2, 0, v2), (3, 0, v3), (4, 0, x7), (5, 0, x10), (6, 0, x12)]) [3, 4, 5, 6, 2, 1, 0] rfl ?_
          exact hj q_v2
        · rw [if_pos hc] at h
          refine r_aloadn (pc := 95) hX 3 rfl (dk D_X12_spreads 59 rfl) ?_
          obtain ⟨x19, hx19, h⟩ := bd_some h
          refine r_getR (pc := 96) hX fl_12_90 rfl hx19 (dk D_X12_spreads 60 rfl) ?_
          refine r_iload (pc := 99) hX 1 rfl (dk D_X12_spreads 61 rfl) ?_
          refine r_aloadn (pc := 101) hX 3 rfl (dk D_X12_spreads 62 rfl) ?_
          obtain ⟨x20, hx20, h⟩ := bd_some h
          refine r_getR (pc := 102) hX fl_12_90 rfl hx20 (dk D_X12_spreads 63 rfl) ?_
          refine r_iload (pc := 105) hX 2 rfl (dk D_X12_spreads 64 rfl) ?_
          obtain ⟨x21, hx21, h⟩ := bd_some h
          refine r_iald (pc := 107) hX qx7 hx21 (dk D_X12_spreads 65 rfl) (fun qx21 => ?_)
          refine r_iload (pc := 108) hX 0 rfl (dk D_X12_spreads 66 rfl) ?_
          refine r_iadd (pc := 110) hX (dk D_X12_spreads 67 rfl) ?_
          obtain ⟨μ22, hμ22, h⟩ := bd_some h
          refine r_iast (pc := 111) hX qx10 (R32_w _) hμ22 (dk D_X12_spreads 68 rfl) ?_
          refine r_iconst (pc := 112) hX (dk D_X12_spreads 69 rfl) ?_
          refine r_istoren (lv' := [(2, 0, 1), (6, 0, x12), (5, 0, x10), (4, 0, x7), (0, 2, v0), (1, 0, v1), (3, 0, v3)]) (pc := 113) hX (by decide) rfl (dk D_X12_spreads 70 rfl) ?_
          replace h := Option.some.inj h
          obtain ⟨h_0, h⟩ := Prod.mk.inj h
          subst y17
          subst μ18
          refine r_sub (lv' := [(0, 2, v0), (1, 0, v1), (2, 0, 1), (3, 0, v3), (4, 0, x7), (5, 0, x10), (6, 0, x12)]) [4, 5, 0, 6, 3, 2, 1] rfl ?_
          exact hj (R32_lit rfl)
      · rw [if_pos hc] at h
        refine r_goto (pc := 29) hX 153 rfl (dk D_X12_spreads 18 rfl) ?_
        refine r_iinc (lv' := [(3, 0, (w32 (v3 + 1))), (0, 2, v0), (1, 0, v1), (2, 0, v2)]) (pc := 153) hX 3 rfl (by decide) rfl (dk D_X12_spreads 94 rfl) ?_
        refine r_goto (pc := 156) hX 10 rfl (dk D_X12_spreads 95 rfl) ?_
        refine r_sub (lv' := [(0, 2, v0), (1, 0, v1), (2, 0, v2), (3, 0, (w32 (v3 + 1)))]) [1, 2, 3, 0] rfl ?_
        exact ih v0 v1 v2 (w32 (v3 + 1)) μ4 q_v1 q_v2 (R32_w _) h
set_option maxRecDepth 100000 in
set_option maxHeartbeats 4000000 in
theorem L_M_spreads_L2 {E : EX} {X : CX} {res : Int} {μe : Mem} (hX : Good E X cX12_spreads 7 "TollsBackModel") (hM : GoodM E X none none μe 0 0) (hRm : cR X = rmOf 2 0 0) : ∀ (n : Nat) (v0 v1 v2 : Int) (μ : Mem) (q_v1 : R32 v1) (q_v2 : R32 v2) (h : M_spreads_L2 n v0 v1 v2 μ = some (res, μe)), At E X cX12_spreads 7 "TollsBackModel" (0, 0) 2 [(0, 2, v0), (1, 0, v1), (2, 0, v2)] [] μ := by
  intro n
  induction n with
  | zero =>
    intro v0 v1 v2 μ q_v1 q_v2 h
    have h : (none : Option (Int × Mem)) = some (res, μe) := h
    cases h
  | succ n ih =>
    intro v0 v1 v2 μ q_v1 q_v2 h
    rw [M_spreads_L2.eq_2] at h
    refine r_iloadn (pc := 2) hX 2 rfl (dk D_X12_spreads 2 rfl) ?_
    refine r_if_eq (pc := 3) hX q_v2 162 rfl (dk D_X12_spreads 3 rfl) (fun hc => ?_) (fun hc => ?_)
    · rw [if_pos hc] at h
      cases h
      exact r_return (pc := 162) hX hM ⟨by decide, by decide⟩ (dk D_X12_spreads 97 rfl)
    · rw [if_neg hc] at h
      refine r_iconst (pc := 6) hX (dk D_X12_spreads 4 rfl) ?_
      refine r_istoren (lv' := [(2, 0, 0), (0, 2, v0), (1, 0, v1)]) (pc := 7) hX (by decide) rfl (dk D_X12_spreads 5 rfl) ?_
      refine r_iconst (pc := 8) hX (dk D_X12_spreads 6 rfl) ?_
      refine r_istoren (lv' := [(3, 0, 0), (2, 0, 0), (0, 2, v0), (1, 0, v1)]) (pc := 9) hX (by decide) rfl (dk D_X12_spreads 7 rfl) ?_
      refine r_sub (lv' := [(0, 2, v0), (1, 0, v1), (2, 0, 0), (3, 0, 0)]) [2, 3, 1, 0] rfl ?_
      refine L_M_spreads_L10 hX hM hRm ?_ FU v0 v1 0 0 μ q_v1 (R32_lit rfl) (R32_lit rfl) h
      intro x1 x2 x3 μ4 qx2 qx3 h
      refine r_goto (pc := 159) hX 2 rfl (dk D_X12_spreads 96 rfl) ?_
      exact ih x1 x2 x3 μ4 qx2 qx3 h
set_option maxRecDepth 100000 in
set_option maxHeartbeats 4000000 in
theorem L_M_spreads {E : EX} {l : Launch} {a0 a1 res : Int} {μ μ' : Mem} (q_a1 : R32 a1) (h : M_spreads a0 a1 μ = some (res, μ')) : Ok E l 2 yX12_spreads (.code yX12_spreads cX12_spreads 7 none) 0 0 [(2, a0), (0, a1)] μ none μ' := by
  refine Ok.of (own := "TollsBackModel") [(0, 2, a0), (1, 0, a1)] (by decide +kernel) rfl (Nat.le_of_ble_eq_true rfl) rfl ?_
  intro X hL hRm hin hX hM
  unfold M_spreads at h
  subst hL
  refine r_iconst (pc := 0) hX (dk D_X12_spreads 0 rfl) ?_
  refine r_istoren (lv' := [(2, 0, 1), (0, 2, a0), (1, 0, a1)]) (pc := 1) hX (by decide) rfl (dk D_X12_spreads 1 rfl) ?_
  refine r_sub (lv' := [(0, 2, a0), (1, 0, a1), (2, 0, 1)]) [1, 2, 0] rfl ?_
  refine L_M_spreads_L2 hX hM hRm FU a0 a1 1 μ q_a1 (R32_lit rfl) h
set_option maxRecDepth 100000 in
set_option maxHeartbeats 4000000 in
theorem L_M_box_L98 {E : EX} {X : CX} {res : Int} {μe : Mem} (hX : Good E X cX12_box 6 "TollsBackModel") (hM : GoodM E X (some .int) (some (0, res)) μe 0 0) (hRm : cR X = rmOf 3 0 0) {k172 : Int → Int → Int → Int → Mem → Option (Int × Mem)} (hk172 : ∀ (u0 u1 u2 u3 : Int) (μ : Mem), R32 u1 → R32 u2 → R32 u3 → k172 u0 u1 u2 u3 μ = some (res, μe) → At E X cX12_box 6 "TollsBackModel" (0, 0) 172 [(0, 2, u0), (1, 0, u1), (2, 0, u2), (3, 0, u3)] [] μ) : ∀ (n : Nat) (v0 v1 v2 v3 v4 : Int) (μ : Mem) (q_v1 : R32 v1) (q_v2 : R32 v2) (q_v3 : R32 v3) (q_v4 : R32 v4) (h : M_box_L98 k172 n v0 v1 v2 v3 v4 μ = some (res, μe)), At E X cX12_box 6 "TollsBackModel" (0, 0) 98 [(0, 2, v0), (1, 0, v1), (2, 0, v2), (3, 0, v3), (4, 0, v4)] [] μ := by
  intro n
  induction n with
  | zero =>
    intro v0 v1 v2 v3 v4 μ q_v1 q_v2 q_v3 q_v4 h
    have h : (none : Option (Int × Mem)) = some (res, μe) := h
    cases h
  | succ n ih =>
    intro v0 v1 v2 v3 v4 μ q_v1 q_v2 q_v3 q_v4 h
    rw [M_box_L98.eq_2] at h
    refine r_iload (pc := 98) hX 4 rfl (dk D_X12_box 65 rfl) ?_
    refine r_if_le (pc := 100) hX q_v4 172 rfl (dk D_X12_box 66 rfl) (fun hc => ?_) (fun hc => ?_)
    · rw [if_neg hc] at h
      refine r_sub (lv' := [(0, 2, v0), (1, 0, v1), (2, 0, v2), (3, 0, v3)]) [0, 1, 2, 3] rfl ?_
      exact hk172 v0 v1 v2 v3 μ q_v1 q_v2 q_v3 h
    · rw [if_pos hc] at h
      refine r_aloadn (pc := 103) hX 0 rfl (dk D_X12_box 67 rfl) ?_
      obtain ⟨x1, hx1, h⟩ := bd_some h
      refine r_getR (pc := 104) hX fl_12_90 rfl hx1 (dk D_X12_box 68 rfl) ?_
      refine r_bipush (pc := 107) hX rfl (dk D_X12_box 69 rfl) ?_
      refine r_iload (pc := 109) hX 4 rfl (dk D_X12_box 70 rfl) ?_
      refine r_imul (pc := 111) hX (dk D_X12_box 71 rfl) ?_
      refine r_iloadn (pc := 112) hX 3 rfl (dk D_X12_box 72 rfl) ?_
      refine r_iadd (pc := 113) hX (dk D_X12_box 73 rfl) ?_
      obtain ⟨x2, hx2, h⟩ := bd_some h
      refine r_iald (pc := 114) hX (R32_w _) hx2 (dk D_X12_box 74 rfl) (fun qx2 => ?_)
      refine r_aloadn (pc := 115) hX 0 rfl (dk D_X12_box 75 rfl) ?_
      obtain ⟨x3, hx3, h⟩ := bd_some h
      refine r_getR (pc := 116) hX fl_12_90 rfl hx3 (dk D_X12_box 76 rfl) ?_
      refine r_bipush (pc := 119) hX rfl (dk D_X12_box 77 rfl) ?_
      refine r_iloadn (pc := 121) hX 2 rfl (dk D_X12_box 78 rfl) ?_
      refine r_iload (pc := 122) hX 4 rfl (dk D_X12_box 79 rfl) ?_
      refine r_ixor (pc := 124) hX (dk D_X12_box 80 rfl) ?_
      refine r_imul (pc := 125) hX (dk D_X12_box 81 rfl) ?_
      refine r_iloadn (pc := 126) hX 3 rfl (dk D_X12_box 82 rfl) ?_
      refine r_iadd (pc := 127) hX (dk D_X12_box 83 rfl) ?_
      obtain ⟨x4, hx4, h⟩ := bd_some h
      refine r_iald (pc := 128) hX (R32_w _) hx4 (dk D_X12_box 84 rfl) (fun qx4 => ?_)
      refine r_iadd (pc := 129) hX (dk D_X12_box 85 rfl) ?_
      obtain ⟨x5, ex5, h⟩ := bd_some h
      replace ex5 := Option.some.inj ex5
      have qx5 : R32 x5 := ex5 ▸ (R32_w _)
      rw [ex5]
      refine r_istore (lv' := [(5, 0, x5), (0, 2, v0), (1, 0, v1), (2, 0, v2), (3, 0, v3), (4, 0, v4)]) (pc := 130) hX (by decide) rfl (dk D_X12_box 86 rfl) ?_
      refine r_iload (pc := 132) hX 0 rfl (dk D_X12_box 87 rfl) ?_
      refine r_aloadn (pc := 134) hX 1 rfl (dk D_X12_box 88 rfl) ?_
      obtain ⟨x6, hx6, h⟩ := bd_some h
      refine r_getR (pc := 135) hX fl_12_90 rfl hx6 (dk D_X12_box 89 rfl) ?_
      refine r_bipush (pc := 138) hX rfl (dk D_X12_box 90 rfl) ?_
      refine r_iloadn (pc := 140) hX 3 rfl (dk D_X12_box 91 rfl) ?_
      refine r_imul (pc := 141) hX (dk D_X12_box 92 rfl) ?_
      refine r_iloadn (pc := 142) hX 4 rfl (dk D_X12_box 93 rfl) ?_
      refine r_iadd (pc := 143) hX (dk D_X12_box 94 rfl) ?_
      obtain ⟨x7, hx7, h⟩ := bd_some h
      refine r_iald (pc := 144) hX (R32_w _) hx7 (dk D_X12_box 95 rfl) (fun qx7 => ?_)
      refine r_icmp_ge (pc := 145) hX qx5 qx7 161 rfl (dk D_X12_box 96 rfl) (fun hc => ?_) (fun hc => ?_)
      · rw [if_neg hc] at h
        refine r_iload (pc := 161) hX 5 rfl (dk D_X12_box 106 rfl) ?_
        refine r_iconst (pc := 163) hX (dk D_X12_box 107 rfl) ?_
        refine r_isub (pc := 164) hX (dk D_X12_box 108 rfl) ?_
        refine r_iloadn (pc := 165) hX 3 rfl (dk D_X12_box 109 rfl) ?_
        refine r_iand (pc := 166) hX (dk D_X12_box 110 rfl) ?_
        obtain ⟨x8, ex8, h⟩ := bd_some h
        replace ex8 := Option.some.inj ex8
        have qx8 : R32 x8 := ex8 ▸ (R32_t _)
        rw [ex8]
        refine r_istore (lv' := [(4, 0, x8), (5, 0, x5), (0, 2, v0), (1, 0, v1), (2, 0, v2), (3, 0, v3)]) (pc := 167) hX (by decide) rfl (dk D_X12_box 111 rfl) ?_
        refine r_goto (pc := 169) hX 98 rfl (dk D_X12_box 112 rfl) ?_
        refine r_sub (lv' := [(0, 2, v0), (1, 0, v1), (2, 0, v2), (3, 0, v3), (4, 0, x8)]) [2, 3, 4, 5, 0] rfl ?_
        exact ih v0 v1 v2 v3 x8 μ q_v1 q_v2 q_v3 qx8 h
      · rw [if_pos hc] at h
        refine r_aloadn (pc := 148) hX 1 rfl (dk D_X12_box 97 rfl) ?_
        obtain ⟨x9, hx9, h⟩ := bd_some h
        refine r_getR (pc := 149) hX fl_12_90 rfl hx9 (dk D_X12_box 98 rfl) ?_
        refine r_bipush (pc := 152) hX rfl (dk D_X12_box 99 rfl) ?_
        refine r_iloadn (pc := 154) hX 3 rfl (dk D_X12_box 100 rfl) ?_
        refine r_imul (pc := 155) hX (dk D_X12_box 101 rfl) ?_
        refine r_iloadn (pc := 156) hX 4 rfl (dk D_X12_box 102 rfl) ?_
        refine r_iadd (pc := 157) hX (dk D_X12_box 103 rfl) ?_
        refine r_iload (pc := 158) hX 0 rfl (dk D_X12_box 104 rfl) ?_
        obtain ⟨μ10, hμ10, h⟩ := bd_some h
        refine r_iast (pc := 160) hX (R32_w _) qx5 hμ10 (dk D_X12_box 105 rfl) ?_
        refine r_iload (pc := 161) hX 5 rfl (dk D_X12_box 106 rfl) ?_
        refine r_iconst (pc := 163) hX (dk D_X12_box 107 rfl) ?_
        refine r_isub (pc := 164) hX (dk D_X12_box 108 rfl) ?_
        refine r_iloadn (pc := 165) hX 3 rfl (dk D_X12_box 109 rfl) ?_
        refine r_iand (pc := 166) hX (dk D_X12_box 110 rfl) ?_
        obtain ⟨x11, ex11, h⟩ := bd_some h
        replace ex11 := Option.some.inj ex11
        have qx11 : R32 x11 := ex11 ▸ (R32_t _)
        rw [ex11]
        refine r_istore (lv' := [(4, 0, x11), (5, 0, x5), (0, 2, v0), (1, 0, v1), (2, 0, v2), (3, 0, v3)]) (pc := 167) hX (by decide) rfl (dk D_X12_box 111 rfl) ?_
        refine r_goto (pc := 169) hX 98 rfl (dk D_X12_box 112 rfl) ?_
        refine r_sub (lv' := [(0, 2, v0), (1, 0, v1), (2, 0, v2), (3, 0, v3), (4, 0, x11)]) [2, 3, 4, 5, 0] rfl ?_
        exact ih v0 v1 v2 v3 x11 μ10 q_v1 q_v2 q_v3 qx11 h
set_option maxRecDepth 100000 in
set_option maxHeartbeats 4000000 in
theorem L_M_box_L60 {E : EX} {X : CX} {res : Int} {μe : Mem} (hX : Good E X cX12_box 6 "TollsBackModel") (hM : GoodM E X (some .int) (some (0, res)) μe 0 0) (hRm : cR X = rmOf 3 0 0) {k178 : Int → Int → Int → Mem → Option (Int × Mem)} (hk178 : ∀ (u0 u1 u2 : Int) (μ : Mem), R32 u1 → R32 u2 → k178 u0 u1 u2 μ = some (res, μe) → At E X cX12_box 6 "TollsBackModel" (0, 0) 178 [(0, 2, u0), (1, 0, u1), (2, 0, u2)] [] μ) : ∀ (n : Nat) (v0 v1 v2 v3 : Int) (μ : Mem) (q_v1 : R32 v1) (q_v2 : R32 v2) (q_v3 : R32 v3) (h : M_box_L60 k178 n v0 v1 v2 v3 μ = some (res, μe)), At E X cX12_box 6 "TollsBackModel" (0, 0) 60 [(0, 2, v0), (1, 0, v1), (2, 0, v2), (3, 0, v3)] [] μ := by
  intro n
  induction n with
  | zero =>
    intro v0 v1 v2 v3 μ q_v1 q_v2 q_v3 h
    have h : (none : Option (Int × Mem)) = some (res, μe) := h
    cases h
  | succ n ih =>
    intro v0 v1 v2 v3 μ q_v1 q_v2 q_v3 h
    rw [M_box_L60.eq_2] at h
    refine r_iloadn (pc := 60) hX 3 rfl (dk D_X12_box 40 rfl) ?_
    refine r_bipush (pc := 61) hX rfl (dk D_X12_box 41 rfl) ?_
    refine r_icmp_ge (pc := 63) hX q_v3 (R32_lit rfl) 178 rfl (dk D_X12_box 42 rfl) (fun hc => ?_) (fun hc => ?_)
    · rw [if_neg hc] at h
      refine r_sub (lv' := [(0, 2, v0), (1, 0, v1), (2, 0, v2)]) [0, 1, 2] rfl ?_
      exact hk178 v0 v1 v2 μ q_v1 q_v2 h
    · rw [if_pos hc] at h
      refine r_aloadn (pc := 66) hX 0 rfl (dk D_X12_box 43 rfl) ?_
      obtain ⟨x1, hx1, h⟩ := bd_some h
      refine r_getR (pc := 67) hX fl_12_90 rfl hx1 (dk D_X12_box 44 rfl) ?_
      refine r_bipush (pc := 70) hX rfl (dk D_X12_box 45 rfl) ?_
      refine r_iloadn (pc := 72) hX 2 rfl (dk D_X12_box 46 rfl) ?_
      refine r_imul (pc := 73) hX (dk D_X12_box 47 rfl) ?_
      refine r_iloadn (pc := 74) hX 3 rfl (dk D_X12_box 48 rfl) ?_
      refine r_iadd (pc := 75) hX (dk D_X12_box 49 rfl) ?_
      refine r_iloadn (pc := 76) hX 2 rfl (dk D_X12_box 50 rfl) ?_
      refine r_iconst (pc := 77) hX (dk D_X12_box 51 rfl) ?_
      refine r_iloadn (pc := 78) hX 3 rfl (dk D_X12_box 52 rfl) ?_
      refine r_ishl (pc := 79) hX (dk D_X12_box 53 rfl) ?_
      obtain ⟨y2, hb, h⟩ := bd_some h
      have hj : R32 y2 → At E X cX12_box 6 "TollsBackModel" (0, 0) 90 [(0, 2, v0), (1, 0, v1), (2, 0, v2), (3, 0, v3)] [(0, y2), (0, (w32 ((w32 (12 * v2)) + v3))), (2, x1)] μ := by
        intro qy2
        clear hb
        obtain ⟨μ3, hμ3, h⟩ := bd_some h
        refine r_iast (pc := 90) hX (R32_w _) qy2 hμ3 (dk D_X12_box 58 rfl) ?_
        refine r_iloadn (pc := 91) hX 2 rfl (dk D_X12_box 59 rfl) ?_
        refine r_iconst (pc := 92) hX (dk D_X12_box 60 rfl) ?_
        refine r_isub (pc := 93) hX (dk D_X12_box 61 rfl) ?_
        refine r_iloadn (pc := 94) hX 2 rfl (dk D_X12_box 62 rfl) ?_
        refine r_iand (pc := 95) hX (dk D_X12_box 63 rfl) ?_
        obtain ⟨x4, ex4, h⟩ := bd_some h
        replace ex4 := Option.some.inj ex4
        have qx4 : R32 x4 := ex4 ▸ (R32_t _)
        rw [ex4]
        refine r_istore (lv' := [(4, 0, x4), (0, 2, v0), (1, 0, v1), (2, 0, v2), (3, 0, v3)]) (pc := 96) hX (by decide) rfl (dk D_X12_box 64 rfl) ?_
        refine r_sub (lv' := [(0, 2, v0), (1, 0, v1), (2, 0, v2), (3, 0, v3), (4, 0, x4)]) [1, 2, 3, 4, 0] rfl ?_
        refine L_M_box_L98 hX hM hRm ?_ FU v0 v1 v2 v3 x4 μ3 q_v1 q_v2 q_v3 qx4 h
        intro x5 x6 x7 x8 μ9 qx6 qx7 qx8 h
        refine r_iinc (lv' := [(3, 0, (w32 (x8 + 1))), (0, 2, x5), (1, 0, x6), (2, 0, x7)]) (pc := 172) hX 3 rfl (by decide) rfl (dk D_X12_box 113 rfl) ?_
        refine r_goto (pc := 175) hX 60 rfl (dk D_X12_box 114 rfl) ?_
        refine r_sub (lv' := [(0, 2, x5), (1, 0, x6), (2, 0, x7), (3, 0, (w32 (x8 + 1)))]) [1, 2, 3, 0] rfl ?_
        exact ih x5 x6 x7 (w32 (x8 + 1)) μ9 qx6 qx7 (R32_w _) h
      clear h
      have h := hb
      clear hb
      refine r_icmp_ne (pc := 80) hX q_v2 (R32_t _) 87 rfl (dk D_X12_box 54 rfl) (fun hc => ?_) (fun hc => ?_)
      · rw [if_neg hc] at h
        refine r_ldcw (pc := 87) hX cn_12_393 (dk D_X12_box 57 rfl) ?_
        replace h := Option.some.inj h
        subst y2
        exact hj (R32_lit rfl)
      · rw [if_pos hc] at h
        refine r_iconst (pc := 83) hX (dk D_X12_box 55 rfl) ?_
        refine r_goto (pc := 84) hX 90 rfl (dk D_X12_box 56 rfl) ?_
        replace h := Option.some.inj h
        subst y2
        exact hj (R32_lit rfl)
set_option maxRecDepth 100000 in
set_option maxHeartbeats 4000000 in
theorem L_M_box_L42 {E : EX} {X : CX} {res : Int} {μe : Mem} (hX : Good E X cX12_box 6 "TollsBackModel") (hM : GoodM E X (some .int) (some (0, res)) μe 0 0) (hRm : cR X = rmOf 3 0 0) {k189 : Int → Int → Mem → Option (Int × Mem)} (hk189 : ∀ (u0 u1 : Int) (μ : Mem), R32 u1 → k189 u0 u1 μ = some (res, μe) → At E X cX12_box 6 "TollsBackModel" (0, 0) 189 [(0, 2, u0), (1, 0, u1)] [] μ) : ∀ (n : Nat) (v0 v1 v2 : Int) (μ : Mem) (q_v1 : R32 v1) (q_v2 : R32 v2) (h : M_box_L42 k189 n v0 v1 v2 μ = some (res, μe)), At E X cX12_box 6 "TollsBackModel" (0, 0) 42 [(0, 2, v0), (1, 0, v1), (2, 0, v2)] [] μ := by
  intro n
  induction n with
  | zero =>
    intro v0 v1 v2 μ q_v1 q_v2 h
    have h : (none : Option (Int × Mem)) = some (res, μe) := h
    cases h
  | succ n ih =>
    intro v0 v1 v2 μ q_v1 q_v2 h
    rw [M_box_L42.eq_2] at h
    refine r_iloadn (pc := 42) hX 2 rfl (dk D_X12_box 28 rfl) ?_
    refine r_iloadn (pc := 43) hX 1 rfl (dk D_X12_box 29 rfl) ?_
    refine r_icmp_gt (pc := 44) hX q_v2 q_v1 189 rfl (dk D_X12_box 30 rfl) (fun hc => ?_) (fun hc => ?_)
    · rw [if_pos hc] at h
      refine r_sub (lv' := [(0, 2, v0), (1, 0, v1)]) [0, 1] rfl ?_
      exact hk189 v0 v1 μ q_v1 h
    · rw [if_neg hc] at h
      refine r_iloadn (pc := 47) hX 2 rfl (dk D_X12_box 31 rfl) ?_
      refine r_iloadn (pc := 48) hX 1 rfl (dk D_X12_box 32 rfl) ?_
      refine r_iconst (pc := 49) hX (dk D_X12_box 33 rfl) ?_
      refine r_ixor (pc := 50) hX (dk D_X12_box 34 rfl) ?_
      refine r_iand (pc := 51) hX (dk D_X12_box 35 rfl) ?_
      refine r_if_eq (pc := 52) hX (R32_t _) 58 rfl (dk D_X12_box 36 rfl) (fun hc => ?_) (fun hc => ?_)
      · rw [if_pos hc] at h
        refine r_iconst (pc := 58) hX (dk D_X12_box 38 rfl) ?_
        refine r_istoren (lv' := [(3, 0, 0), (0, 2, v0), (1, 0, v1), (2, 0, v2)]) (pc := 59) hX (by decide) rfl (dk D_X12_box 39 rfl) ?_
        refine r_sub (lv' := [(0, 2, v0), (1, 0, v1), (2, 0, v2), (3, 0, 0)]) [1, 2, 3, 0] rfl ?_
        refine L_M_box_L60 hX hM hRm ?_ FU v0 v1 v2 0 μ q_v1 q_v2 (R32_lit rfl) h
        intro x1 x2 x3 μ4 qx2 qx3 h
        refine r_aloadn (pc := 178) hX 0 rfl (dk D_X12_box 115 rfl) ?_
        refine r_iloadn (pc := 179) hX 2 rfl (dk D_X12_box 116 rfl) ?_
        obtain ⟨_, hi, h⟩ := bd_some h
        obtain ⟨x5, μ6, hx5, h⟩ := bd2_some h
        refine r_invV0 (As := [(0, x3)]) (pc := 180) hX ml_12_394 (L_M_spreads qx3 hx5) (isk_u hi) (Rm_of hRm (by decide) ⟨by decide, by decide⟩) (by decide) rfl (Nat.le_of_ble_eq_true rfl) rfl (dk D_X12_box 117 rfl) (fun _ => ?_)
        refine r_iinc (lv' := [(2, 0, (w32 (x3 + 1))), (0, 2, x1), (1, 0, x2)]) (pc := 183) hX 2 rfl (by decide) rfl (dk D_X12_box 118 rfl) ?_
        refine r_goto (pc := 186) hX 42 rfl (dk D_X12_box 119 rfl) ?_
        refine r_sub (lv' := [(0, 2, x1), (1, 0, x2), (2, 0, (w32 (x3 + 1)))]) [1, 2, 0] rfl ?_
        exact ih x1 x2 (w32 (x3 + 1)) μ6 qx2 (R32_w _) h
      · rw [if_neg hc] at h
        refine r_goto (pc := 55) hX 183 rfl (dk D_X12_box 37 rfl) ?_
        refine r_iinc (lv' := [(2, 0, (w32 (v2 + 1))), (0, 2, v0), (1, 0, v1)]) (pc := 183) hX 2 rfl (by decide) rfl (dk D_X12_box 118 rfl) ?_
        refine r_goto (pc := 186) hX 42 rfl (dk D_X12_box 119 rfl) ?_
        refine r_sub (lv' := [(0, 2, v0), (1, 0, v1), (2, 0, (w32 (v2 + 1)))]) [1, 2, 0] rfl ?_
        exact ih v0 v1 (w32 (v2 + 1)) μ q_v1 (R32_w _) h
set_option maxRecDepth 100000 in
set_option maxHeartbeats 4000000 in
theorem L_M_box {E : EX} {l : Launch} {a0 a1 res : Int} {μ μ' : Mem} (q_a1 : R32 a1) (h : M_box a0 a1 μ = some (res, μ')) : Ok E l 3 yX12_box (.code yX12_box cX12_box 6 (some .int)) 0 0 [(2, a0), (0, a1)] μ (some (0, res)) μ' := by
  refine Ok.of (own := "TollsBackModel") [(0, 2, a0), (1, 0, a1)] (by decide +kernel) rfl (Nat.le_of_ble_eq_true rfl) rfl ?_
  intro X hL hRm hin hX hM
  unfold M_box at h
  subst hL
  refine r_aloadn (pc := 0) hX 0 rfl (dk D_X12_box 0 rfl) ?_
  refine r_iconst (pc := 1) hX (dk D_X12_box 1 rfl) ?_
  obtain ⟨μ1, hμ1, h⟩ := bd_some h
  refine r_putI (pc := 2) hX fl_12_1 rfl rfl (R32_lit rfl) trivial hμ1 (dk D_X12_box 2 rfl) ?_
  refine r_aloadn (pc := 5) hX 0 rfl (dk D_X12_box 3 rfl) ?_
  obtain ⟨x2, hx2, h⟩ := bd_some h
  refine r_getR (pc := 6) hX fl_12_13 rfl hx2 (dk D_X12_box 4 rfl) ?_
  refine r_iconst (pc := 9) hX (dk D_X12_box 5 rfl) ?_
  obtain ⟨x3, hx3, h⟩ := bd_some h
  refine r_iald (pc := 10) hX (R32_lit rfl) hx3 (dk D_X12_box 6 rfl) (fun qx3 => ?_)
  refine r_if_ne (pc := 11) hX qx3 17 rfl (dk D_X12_box 7 rfl) (fun hc => ?_) (fun hc => ?_)
  · rw [if_neg hc] at h
    refine r_iloadn (pc := 17) hX 1 rfl (dk D_X12_box 10 rfl) ?_
    refine r_i2l (pc := 18) hX q_a1 (dk D_X12_box 11 rfl) ?_
    refine r_lconst (x := 0) (pc := 19) hX (by decide) (dk D_X12_box 12 rfl) ?_
    refine r_iconst (pc := 20) hX (dk D_X12_box 13 rfl) ?_
    refine r_aloadn (pc := 21) hX 0 rfl (dk D_X12_box 14 rfl) ?_
    obtain ⟨x4, hx4, h⟩ := bd_some h
    refine r_getR (pc := 22) hX fl_12_13 rfl hx4 (dk D_X12_box 15 rfl) ?_
    refine r_iconst (pc := 25) hX (dk D_X12_box 16 rfl) ?_
    obtain ⟨x5, hx5, h⟩ := bd_some h
    refine r_iald (pc := 26) hX (R32_lit rfl) hx5 (dk D_X12_box 17 rfl) (fun qx5 => ?_)
    refine r_ishl (pc := 27) hX (dk D_X12_box 18 rfl) ?_
    refine r_iconst (pc := 28) hX (dk D_X12_box 19 rfl) ?_
    refine r_isub (pc := 29) hX (dk D_X12_box 20 rfl) ?_
    refine r_i2l (pc := 30) hX (R32_w _) (dk D_X12_box 21 rfl) ?_
    obtain ⟨x6, μ7, hx6, h⟩ := bd2_some h
    refine r_invS0 (As := [(1, a1), (1, 0), (1, (w32 ((shl32 1 x5) - 1)))]) (pc := 31) hX ml_12_178 (L_M_within (R64_of q_a1) (R64_lit rfl) (R64_of (R32_w _)) hx6) (Rm_of hRm (by decide) ⟨by decide, by decide⟩) (by decide) rfl (Nat.le_of_ble_eq_true rfl) rfl (dk D_X12_box 22 rfl) (fun qx6 => ?_)
    refine r_if_ne (pc := 34) hX qx6 40 rfl (dk D_X12_box 23 rfl) (fun hc => ?_) (fun hc => ?_)
    · rw [if_neg hc] at h
      refine r_iconst (pc := 40) hX (dk D_X12_box 26 rfl) ?_
      refine r_istoren (lv' := [(2, 0, 1), (0, 2, a0), (1, 0, a1)]) (pc := 41) hX (by decide) rfl (dk D_X12_box 27 rfl) ?_
      refine r_sub (lv' := [(0, 2, a0), (1, 0, a1), (2, 0, 1)]) [1, 2, 0] rfl ?_
      refine L_M_box_L42 hX hM hRm ?_ FU a0 a1 1 μ7 q_a1 (R32_lit rfl) h
      intro x8 x9 μ10 qx9 h
      refine r_iloadn (pc := 189) hX 1 rfl (dk D_X12_box 120 rfl) ?_
      obtain ⟨y11, hb, h⟩ := bd_some h
      have hj : R32 y11 → At E X cX12_box 6 "TollsBackModel" (0, 0) 213 [] [(0, y11)] μ10 := by
        intro qy11
        clear hb
        refine r_istoren (lv' := [(2, 0, y11)]) (pc := 213) hX (by decide) rfl (dk D_X12_box 135 rfl) ?_
        refine r_iloadn (pc := 214) hX 0 rfl (dk D_X12_box 136 rfl) ?_
        refine r_ldcw (pc := 215) hX cn_12_393 (dk D_X12_box 137 rfl) ?_
        refine r_icmp_lt (pc := 218) hX qy11 (R32_lit rfl) 225 rfl (dk D_X12_box 138 rfl) (fun hc => ?_) (fun hc => ?_)
        · rw [if_pos hc] at h
          refine r_iconst (pc := 225) hX (dk D_X12_box 141 rfl) ?_
          refine r_iloadn (pc := 226) hX 0 rfl (dk D_X12_box 142 rfl) ?_
          refine r_imul (pc := 227) hX (dk D_X12_box 143 rfl) ?_
          cases h
          exact r_ireturn (pc := 228) hX (R32_w _) hM ⟨by decide, by decide⟩ (dk D_X12_box 144 rfl)
        · rw [if_neg hc] at h
          refine r_iconst (pc := 221) hX (dk D_X12_box 139 rfl) ?_
          refine r_goto (pc := 222) hX 228 rfl (dk D_X12_box 140 rfl) ?_
          cases h
          exact r_ireturn (pc := 228) hX (R32_lit rfl) hM ⟨by decide, by decide⟩ (dk D_X12_box 144 rfl)
      clear h
      have h := hb
      clear hb
      refine r_if_ne (pc := 190) hX qx9 197 rfl (dk D_X12_box 121 rfl) (fun hc => ?_) (fun hc => ?_)
      · rw [if_neg hc] at h
        refine r_aloadn (pc := 197) hX 0 rfl (dk D_X12_box 124 rfl) ?_
        obtain ⟨x12, hx12, h⟩ := bd_some h
        refine r_getR (pc := 198) hX fl_12_90 rfl hx12 (dk D_X12_box 125 rfl) ?_
        refine r_bipush (pc := 201) hX rfl (dk D_X12_box 126 rfl) ?_
        refine r_iloadn (pc := 203) hX 1 rfl (dk D_X12_box 127 rfl) ?_
        refine r_imul (pc := 204) hX (dk D_X12_box 128 rfl) ?_
        refine r_aloadn (pc := 205) hX 0 rfl (dk D_X12_box 129 rfl) ?_
        obtain ⟨x13, hx13, h⟩ := bd_some h
        refine r_getR (pc := 206) hX fl_12_13 rfl hx13 (dk D_X12_box 130 rfl) ?_
        refine r_iconst (pc := 209) hX (dk D_X12_box 131 rfl) ?_
        obtain ⟨x14, hx14, h⟩ := bd_some h
        refine r_iald (pc := 210) hX (R32_lit rfl) hx14 (dk D_X12_box 132 rfl) (fun qx14 => ?_)
        refine r_iadd (pc := 211) hX (dk D_X12_box 133 rfl) ?_
        obtain ⟨x15, hx15, h⟩ := bd_some h
        refine r_iald (pc := 212) hX (R32_w _) hx15 (dk D_X12_box 134 rfl) (fun qx15 => ?_)
        replace h := Option.some.inj h
        subst y11
        refine r_sub (lv' := []) [] rfl ?_
        exact hj qx15
      · rw [if_pos hc] at h
        refine r_iconst (pc := 193) hX (dk D_X12_box 122 rfl) ?_
        refine r_goto (pc := 194) hX 213 rfl (dk D_X12_box 123 rfl) ?_
        replace h := Option.some.inj h
        subst y11
        refine r_sub (lv' := []) [] rfl ?_
        exact hj (R32_lit rfl)
    · rw [if_pos hc] at h
      refine r_bipush (pc := 37) hX rfl (dk D_X12_box 24 rfl) ?_
      cases h
      exact r_ireturn (pc := 39) hX (R32_lit rfl) hM ⟨by decide, by decide⟩ (dk D_X12_box 25 rfl)
  · rw [if_pos hc] at h
    refine r_bipush (pc := 14) hX rfl (dk D_X12_box 8 rfl) ?_
    cases h
    exact r_ireturn (pc := 16) hX (R32_lit rfl) hM ⟨by decide, by decide⟩ (dk D_X12_box 9 rfl)
set_option maxRecDepth 100000 in
set_option maxHeartbeats 4000000 in
theorem L_M_reached_L21 {E : EX} {X : CX} {res : Int} {μe : Mem} (hX : Good E X cX12_reached 5 "TollsBackModel") (hM : GoodM E X (some .int) (some (0, res)) μe 0 0) (hRm : cR X = rmOf 2 0 0) {k113 : Int → Int → Int → Int → Mem → Option (Int × Mem)} (hk113 : ∀ (u0 u1 u2 u3 : Int) (μ : Mem), R32 u1 → R32 u2 → R32 u3 → k113 u0 u1 u2 u3 μ = some (res, μe) → At E X cX12_reached 5 "TollsBackModel" (0, 0) 113 [(0, 2, u0), (1, 0, u1), (2, 0, u2), (3, 0, u3)] [] μ) : ∀ (n : Nat) (v0 v1 v2 v3 v4 : Int) (μ : Mem) (q_v1 : R32 v1) (q_v2 : R32 v2) (q_v3 : R32 v3) (q_v4 : R32 v4) (h : M_reached_L21 k113 n v0 v1 v2 v3 v4 μ = some (res, μe)), At E X cX12_reached 5 "TollsBackModel" (0, 0) 21 [(0, 2, v0), (1, 0, v1), (2, 0, v2), (3, 0, v3), (4, 0, v4)] [] μ := by
  intro n
  induction n with
  | zero =>
    intro v0 v1 v2 v3 v4 μ q_v1 q_v2 q_v3 q_v4 h
    have h : (none : Option (Int × Mem)) = some (res, μe) := h
    cases h
  | succ n ih =>
    intro v0 v1 v2 v3 v4 μ q_v1 q_v2 q_v3 q_v4 h
    rw [M_reached_L21.eq_2] at h
    refine r_iload (pc := 21) hX 4 rfl (dk D_X12_reached 16 rfl) ?_
    refine r_aloadn (pc := 23) hX 0 rfl (dk D_X12_reached 17 rfl) ?_
    obtain ⟨x1, hx1, h⟩ := bd_some h
    refine r_getR (pc := 24) hX fl_12_13 rfl hx1 (dk D_X12_reached 18 rfl) ?_
    refine r_bipush (pc := 27) hX rfl (dk D_X12_reached 19 rfl) ?_
    obtain ⟨x2, hx2, h⟩ := bd_some h
    refine r_iald (pc := 29) hX (R32_lit rfl) hx2 (dk D_X12_reached 20 rfl) (fun qx2 => ?_)
    refine r_icmp_ge (pc := 30) hX q_v4 qx2 113 rfl (dk D_X12_reached 21 rfl) (fun hc => ?_) (fun hc => ?_)
    · rw [if_neg hc] at h
      refine r_sub (lv' := [(0, 2, v0), (1, 0, v1), (2, 0, v2), (3, 0, v3)]) [0, 1, 2, 3] rfl ?_
      exact hk113 v0 v1 v2 v3 μ q_v1 q_v2 q_v3 h
    · rw [if_pos hc] at h
      refine r_iload (pc := 33) hX 4 rfl (dk D_X12_reached 22 rfl) ?_
      refine r_iloadn (pc := 35) hX 1 rfl (dk D_X12_reached 23 rfl) ?_
      refine r_icmp_eq (pc := 36) hX q_v4 q_v1 107 rfl (dk D_X12_reached 24 rfl) (fun hc => ?_) (fun hc => ?_)
      · rw [if_pos hc] at h
        refine r_iinc (lv' := [(4, 0, (w32 (v4 + 1))), (0, 2, v0), (1, 0, v1), (2, 0, v2), (3, 0, v3)]) (pc := 107) hX 4 rfl (by decide) rfl (dk D_X12_reached 70 rfl) ?_
        refine r_goto (pc := 110) hX 21 rfl (dk D_X12_reached 71 rfl) ?_
        refine r_sub (lv' := [(0, 2, v0), (1, 0, v1), (2, 0, v2), (3, 0, v3), (4, 0, (w32 (v4 + 1)))]) [1, 2, 3, 4, 0] rfl ?_
        exact ih v0 v1 v2 v3 (w32 (v4 + 1)) μ q_v1 q_v2 q_v3 (R32_w _) h
      · rw [if_neg hc] at h
        refine r_aloadn (pc := 39) hX 0 rfl (dk D_X12_reached 25 rfl) ?_
        refine r_iload (pc := 40) hX 4 rfl (dk D_X12_reached 26 rfl) ?_
        obtain ⟨_, hi, h⟩ := bd_some h
        obtain ⟨x3, μ4, hx3, h⟩ := bd2_some h
        refine r_invV0 (As := [(0, v4)]) (pc := 42) hX ml_12_213 (L_M_isOpen q_v4 hx3) (isk_u hi) (Rm_of hRm (by decide) ⟨by decide, by decide⟩) (by decide) rfl (Nat.le_of_ble_eq_true rfl) rfl (dk D_X12_reached 27 rfl) (fun qx3 => ?_)
        refine r_if_eq (pc := 45) hX qx3 107 rfl (dk D_X12_reached 28 rfl) (fun hc => ?_) (fun hc => ?_)
        · rw [if_pos hc] at h
          refine r_iinc (lv' := [(4, 0, (w32 (v4 + 1))), (0, 2, v0), (1, 0, v1), (2, 0, v2), (3, 0, v3)]) (pc := 107) hX 4 rfl (by decide) rfl (dk D_X12_reached 70 rfl) ?_
          refine r_goto (pc := 110) hX 21 rfl (dk D_X12_reached 71 rfl) ?_
          refine r_sub (lv' := [(0, 2, v0), (1, 0, v1), (2, 0, v2), (3, 0, v3), (4, 0, (w32 (v4 + 1)))]) [1, 2, 3, 4, 0] rfl ?_
          exact ih v0 v1 v2 v3 (w32 (v4 + 1)) μ4 q_v1 q_v2 q_v3 (R32_w _) h
        · rw [if_neg hc] at h
          refine r_iloadn (pc := 48) hX 2 rfl (dk D_X12_reached 29 rfl) ?_
          refine r_aloadn (pc := 49) hX 0 rfl (dk D_X12_reached 30 rfl) ?_
          obtain ⟨x5, hx5, h⟩ := bd_some h
          refine r_getR (pc := 50) hX fl_12_13 rfl hx5 (dk D_X12_reached 31 rfl) ?_
          refine r_bipush (pc := 53) hX rfl (dk D_X12_reached 32 rfl) ?_
          refine r_iload (pc := 55) hX 4 rfl (dk D_X12_reached 33 rfl) ?_
          refine r_iadd (pc := 57) hX (dk D_X12_reached 34 rfl) ?_
          obtain ⟨x6, hx6, h⟩ := bd_some h
          refine r_iald (pc := 58) hX (R32_w _) hx6 (dk D_X12_reached 35 rfl) (fun qx6 => ?_)
          refine r_ishr (pc := 59) hX (dk D_X12_reached 36 rfl) ?_
          refine r_iconst (pc := 60) hX (dk D_X12_reached 37 rfl) ?_
          refine r_iand (pc := 61) hX (dk D_X12_reached 38 rfl) ?_
          refine r_iloadn (pc := 62) hX 2 rfl (dk D_X12_reached 39 rfl) ?_
          refine r_aloadn (pc := 63) hX 0 rfl (dk D_X12_reached 40 rfl) ?_
          obtain ⟨x7, hx7, h⟩ := bd_some h
          refine r_getR (pc := 64) hX fl_12_13 rfl hx7 (dk D_X12_reached 41 rfl) ?_
          refine r_bipush (pc := 67) hX rfl (dk D_X12_reached 42 rfl) ?_
          refine r_iload (pc := 69) hX 4 rfl (dk D_X12_reached 43 rfl) ?_
          refine r_iadd (pc := 71) hX (dk D_X12_reached 44 rfl) ?_
          obtain ⟨x8, hx8, h⟩ := bd_some h
          refine r_iald (pc := 72) hX (R32_w _) hx8 (dk D_X12_reached 45 rfl) (fun qx8 => ?_)
          refine r_ishr (pc := 73) hX (dk D_X12_reached 46 rfl) ?_
          refine r_iconst (pc := 74) hX (dk D_X12_reached 47 rfl) ?_
          refine r_iand (pc := 75) hX (dk D_X12_reached 48 rfl) ?_
          refine r_icmp_eq (pc := 76) hX (R32_t _) (R32_t _) 107 rfl (dk D_X12_reached 49 rfl) (fun hc => ?_) (fun hc => ?_)
          · rw [if_pos hc] at h
            refine r_iinc (lv' := [(4, 0, (w32 (v4 + 1))), (0, 2, v0), (1, 0, v1), (2, 0, v2), (3, 0, v3)]) (pc := 107) hX 4 rfl (by decide) rfl (dk D_X12_reached 70 rfl) ?_
            refine r_goto (pc := 110) hX 21 rfl (dk D_X12_reached 71 rfl) ?_
            refine r_sub (lv' := [(0, 2, v0), (1, 0, v1), (2, 0, v2), (3, 0, v3), (4, 0, (w32 (v4 + 1)))]) [1, 2, 3, 4, 0] rfl ?_
            exact ih v0 v1 v2 v3 (w32 (v4 + 1)) μ4 q_v1 q_v2 q_v3 (R32_w _) h
          · rw [if_neg hc] at h
            refine r_iloadn (pc := 79) hX 2 rfl (dk D_X12_reached 50 rfl) ?_
            refine r_iconst (pc := 80) hX (dk D_X12_reached 51 rfl) ?_
            refine r_aloadn (pc := 81) hX 0 rfl (dk D_X12_reached 52 rfl) ?_
            obtain ⟨x9, hx9, h⟩ := bd_some h
            refine r_getR (pc := 82) hX fl_12_13 rfl hx9 (dk D_X12_reached 53 rfl) ?_
            refine r_bipush (pc := 85) hX rfl (dk D_X12_reached 54 rfl) ?_
            refine r_iload (pc := 87) hX 4 rfl (dk D_X12_reached 55 rfl) ?_
            refine r_iadd (pc := 89) hX (dk D_X12_reached 56 rfl) ?_
            obtain ⟨x10, hx10, h⟩ := bd_some h
            refine r_iald (pc := 90) hX (R32_w _) hx10 (dk D_X12_reached 57 rfl) (fun qx10 => ?_)
            refine r_ishl (pc := 91) hX (dk D_X12_reached 58 rfl) ?_
            refine r_iconst (pc := 92) hX (dk D_X12_reached 59 rfl) ?_
            refine r_aloadn (pc := 93) hX 0 rfl (dk D_X12_reached 60 rfl) ?_
            obtain ⟨x11, hx11, h⟩ := bd_some h
            refine r_getR (pc := 94) hX fl_12_13 rfl hx11 (dk D_X12_reached 61 rfl) ?_
            refine r_bipush (pc := 97) hX rfl (dk D_X12_reached 62 rfl) ?_
            refine r_iload (pc := 99) hX 4 rfl (dk D_X12_reached 63 rfl) ?_
            refine r_iadd (pc := 101) hX (dk D_X12_reached 64 rfl) ?_
            obtain ⟨x12, hx12, h⟩ := bd_some h
            refine r_iald (pc := 102) hX (R32_w _) hx12 (dk D_X12_reached 65 rfl) (fun qx12 => ?_)
            refine r_ishl (pc := 103) hX (dk D_X12_reached 66 rfl) ?_
            refine r_ior (pc := 104) hX (dk D_X12_reached 67 rfl) ?_
            refine r_ior (pc := 105) hX (dk D_X12_reached 68 rfl) ?_
            obtain ⟨x13, ex13, h⟩ := bd_some h
            replace ex13 := Option.some.inj ex13
            have qx13 : R32 x13 := ex13 ▸ (R32_t _)
            rw [ex13]
            refine r_istoren (lv' := [(2, 0, x13), (0, 2, v0), (1, 0, v1), (3, 0, v3), (4, 0, v4)]) (pc := 106) hX (by decide) rfl (dk D_X12_reached 69 rfl) ?_
            refine r_iinc (lv' := [(4, 0, (w32 (v4 + 1))), (2, 0, x13), (0, 2, v0), (1, 0, v1), (3, 0, v3)]) (pc := 107) hX 4 rfl (by decide) rfl (dk D_X12_reached 70 rfl) ?_
            refine r_goto (pc := 110) hX 21 rfl (dk D_X12_reached 71 rfl) ?_
            refine r_sub (lv' := [(0, 2, v0), (1, 0, v1), (2, 0, x13), (3, 0, v3), (4, 0, (w32 (v4 + 1)))]) [2, 3, 1, 4, 0] rfl ?_
            exact ih v0 v1 x13 v3 (w32 (v4 + 1)) μ4 q_v1 qx13 q_v3 (R32_w _) h
set_option maxRecDepth 100000 in
set_option maxHeartbeats 4000000 in
theorem L_M_reached_L11 {E : EX} {X : CX} {res : Int} {μe : Mem} (hX : Good E X cX12_reached 5 "TollsBackModel") (hM : GoodM E X (some .int) (some (0, res)) μe 0 0) (hRm : cR X = rmOf 2 0 0) : ∀ (n : Nat) (v0 v1 v2 v3 : Int) (μ : Mem) (q_v1 : R32 v1) (q_v2 : R32 v2) (q_v3 : R32 v3) (h : M_reached_L11 n v0 v1 v2 v3 μ = some (res, μe)), At E X cX12_reached 5 "TollsBackModel" (0, 0) 11 [(0, 2, v0), (1, 0, v1), (2, 0, v2), (3, 0, v3)] [] μ := by
  intro n
  induction n with
  | zero =>
    intro v0 v1 v2 v3 μ q_v1 q_v2 q_v3 h
    have h : (none : Option (Int × Mem)) = some (res, μe) := h
    cases h
  | succ n ih =>
    intro v0 v1 v2 v3 μ q_v1 q_v2 q_v3 h
    rw [M_reached_L11.eq_2] at h
    refine r_iloadn (pc := 11) hX 3 rfl (dk D_X12_reached 9 rfl) ?_
    refine r_iloadn (pc := 12) hX 2 rfl (dk D_X12_reached 10 rfl) ?_
    refine r_icmp_eq (pc := 13) hX q_v3 q_v2 116 rfl (dk D_X12_reached 11 rfl) (fun hc => ?_) (fun hc => ?_)
    · rw [if_pos hc] at h
      refine r_iloadn (pc := 116) hX 2 rfl (dk D_X12_reached 73 rfl) ?_
      cases h
      exact r_ireturn (pc := 117) hX q_v2 hM ⟨by decide, by decide⟩ (dk D_X12_reached 74 rfl)
    · rw [if_neg hc] at h
      refine r_iloadn (pc := 16) hX 2 rfl (dk D_X12_reached 12 rfl) ?_
      refine r_istoren (lv' := [(3, 0, v2), (0, 2, v0), (1, 0, v1), (2, 0, v2)]) (pc := 17) hX (by decide) rfl (dk D_X12_reached 13 rfl) ?_
      refine r_iconst (pc := 18) hX (dk D_X12_reached 14 rfl) ?_
      refine r_istore (lv' := [(4, 0, 0), (3, 0, v2), (0, 2, v0), (1, 0, v1), (2, 0, v2)]) (pc := 19) hX (by decide) rfl (dk D_X12_reached 15 rfl) ?_
      refine r_sub (lv' := [(0, 2, v0), (1, 0, v1), (2, 0, v2), (3, 0, v2), (4, 0, 0)]) [2, 3, 4, 1, 0] rfl ?_
      refine L_M_reached_L21 hX hM hRm ?_ FU v0 v1 v2 v2 0 μ q_v1 q_v2 q_v2 (R32_lit rfl) h
      intro x1 x2 x3 x4 μ5 qx2 qx3 qx4 h
      refine r_goto (pc := 113) hX 11 rfl (dk D_X12_reached 72 rfl) ?_
      exact ih x1 x2 x3 x4 μ5 qx2 qx3 qx4 h
set_option maxRecDepth 100000 in
set_option maxHeartbeats 4000000 in
theorem L_M_reached {E : EX} {l : Launch} {a0 a1 res : Int} {μ μ' : Mem} (q_a1 : R32 a1) (h : M_reached a0 a1 μ = some (res, μ')) : Ok E l 2 yX12_reached (.code yX12_reached cX12_reached 5 (some .int)) 0 0 [(2, a0), (0, a1)] μ (some (0, res)) μ' := by
  refine Ok.of (own := "TollsBackModel") [(0, 2, a0), (1, 0, a1)] (by decide +kernel) rfl (Nat.le_of_ble_eq_true rfl) rfl ?_
  intro X hL hRm hin hX hM
  unfold M_reached at h
  subst hL
  refine r_iconst (pc := 0) hX (dk D_X12_reached 0 rfl) ?_
  refine r_aloadn (pc := 1) hX 0 rfl (dk D_X12_reached 1 rfl) ?_
  obtain ⟨x1, hx1, h⟩ := bd_some h
  refine r_getR (pc := 2) hX fl_12_13 rfl hx1 (dk D_X12_reached 2 rfl) ?_
  refine r_iconst (pc := 5) hX (dk D_X12_reached 3 rfl) ?_
  obtain ⟨x2, hx2, h⟩ := bd_some h
  refine r_iald (pc := 6) hX (R32_lit rfl) hx2 (dk D_X12_reached 4 rfl) (fun qx2 => ?_)
  refine r_ishl (pc := 7) hX (dk D_X12_reached 5 rfl) ?_
  obtain ⟨x3, ex3, h⟩ := bd_some h
  replace ex3 := Option.some.inj ex3
  have qx3 : R32 x3 := ex3 ▸ (R32_t _)
  rw [ex3]
  refine r_istoren (lv' := [(2, 0, x3), (0, 2, a0), (1, 0, a1)]) (pc := 8) hX (by decide) rfl (dk D_X12_reached 6 rfl) ?_
  refine r_iconst (pc := 9) hX (dk D_X12_reached 7 rfl) ?_
  refine r_istoren (lv' := [(3, 0, 0), (2, 0, x3), (0, 2, a0), (1, 0, a1)]) (pc := 10) hX (by decide) rfl (dk D_X12_reached 8 rfl) ?_
  refine r_sub (lv' := [(0, 2, a0), (1, 0, a1), (2, 0, x3), (3, 0, 0)]) [2, 3, 1, 0] rfl ?_
  refine L_M_reached_L11 hX hM hRm FU a0 a1 x3 0 μ q_a1 qx3 (R32_lit rfl) h
set_option maxRecDepth 100000 in
set_option maxHeartbeats 4000000 in
theorem L_M_cutOff {E : EX} {l : Launch} {a0 a1 res : Int} {μ μ' : Mem} (q_a1 : R32 a1) (h : M_cutOff a0 a1 μ = some (res, μ')) : Ok E l 3 yX12_cutOff (.code yX12_cutOff cX12_cutOff 2 (some .int)) 0 0 [(2, a0), (0, a1)] μ (some (0, res)) μ' := by
  refine Ok.of (own := "TollsBackModel") [(0, 2, a0), (1, 0, a1)] (by decide +kernel) rfl (Nat.le_of_ble_eq_true rfl) rfl ?_
  intro X hL hRm hin hX hM
  unfold M_cutOff at h
  subst hL
  refine r_aloadn (pc := 0) hX 0 rfl (dk D_X12_cutOff 0 rfl) ?_
  refine r_iconst (pc := 1) hX (dk D_X12_cutOff 1 rfl) ?_
  obtain ⟨μ1, hμ1, h⟩ := bd_some h
  refine r_putI (pc := 2) hX fl_12_1 rfl rfl (R32_lit rfl) trivial hμ1 (dk D_X12_cutOff 2 rfl) ?_
  refine r_aloadn (pc := 5) hX 0 rfl (dk D_X12_cutOff 3 rfl) ?_
  refine r_iloadn (pc := 6) hX 1 rfl (dk D_X12_cutOff 4 rfl) ?_
  refine r_i2l (pc := 7) hX q_a1 (dk D_X12_cutOff 5 rfl) ?_
  obtain ⟨_, hi, h⟩ := bd_some h
  obtain ⟨x2, μ3, hx2, h⟩ := bd2_some h
  refine r_invV0 (As := [(1, a1)]) (pc := 8) hX ml_12_207 (L_M_isRoad (R64_of q_a1) hx2) (isk_u hi) (Rm_of hRm (by decide) ⟨by decide, by decide⟩) (by decide) rfl (Nat.le_of_ble_eq_true rfl) rfl (dk D_X12_cutOff 6 rfl) (fun qx2 => ?_)
  refine r_if_eq (pc := 11) hX qx2 30 rfl (dk D_X12_cutOff 7 rfl) (fun hc => ?_) (fun hc => ?_)
  · rw [if_pos hc] at h
    refine r_bipush (pc := 30) hX rfl (dk D_X12_cutOff 18 rfl) ?_
    cases h
    exact r_ireturn (pc := 32) hX (R32_lit rfl) hM ⟨by decide, by decide⟩ (dk D_X12_cutOff 19 rfl)
  · rw [if_neg hc] at h
    refine r_aloadn (pc := 14) hX 0 rfl (dk D_X12_cutOff 8 rfl) ?_
    refine r_iconst (pc := 15) hX (dk D_X12_cutOff 9 rfl) ?_
    obtain ⟨_, hi, h⟩ := bd_some h
    obtain ⟨x4, μ5, hx4, h⟩ := bd2_some h
    refine r_invV0 (As := [(0, (-1))]) (pc := 16) hX ml_12_397 (L_M_reached (R32_lit rfl) hx4) (isk_u hi) (Rm_of hRm (by decide) ⟨by decide, by decide⟩) (by decide) rfl (Nat.le_of_ble_eq_true rfl) rfl (dk D_X12_cutOff 10 rfl) (fun qx4 => ?_)
    refine r_aloadn (pc := 19) hX 0 rfl (dk D_X12_cutOff 11 rfl) ?_
    refine r_iloadn (pc := 20) hX 1 rfl (dk D_X12_cutOff 12 rfl) ?_
    obtain ⟨_, hi, h⟩ := bd_some h
    obtain ⟨x6, μ7, hx6, h⟩ := bd2_some h
    refine r_invV0 (As := [(0, a1)]) (pc := 21) hX ml_12_397 (L_M_reached q_a1 hx6) (isk_u hi) (Rm_of hRm (by decide) ⟨by decide, by decide⟩) (by decide) rfl (Nat.le_of_ble_eq_true rfl) rfl (dk D_X12_cutOff 13 rfl) (fun qx6 => ?_)
    refine r_iconst (pc := 24) hX (dk D_X12_cutOff 14 rfl) ?_
    refine r_ixor (pc := 25) hX (dk D_X12_cutOff 15 rfl) ?_
    refine r_iand (pc := 26) hX (dk D_X12_cutOff 16 rfl) ?_
    refine r_goto (pc := 27) hX 32 rfl (dk D_X12_cutOff 17 rfl) ?_
    cases h
    exact r_ireturn (pc := 32) hX (R32_t _) hM ⟨by decide, by decide⟩ (dk D_X12_cutOff 19 rfl)
set_option maxRecDepth 100000 in
set_option maxHeartbeats 4000000 in
theorem L_M_ledger_L38 {E : EX} {X : CX} {res : Int} {μe : Mem} (hX : Good E X cX12_ledger 5 "TollsBackModel") (hM : GoodM E X (some .int) (some (0, res)) μe 0 0) (hRm : cR X = rmOf 2 0 0) : ∀ (n : Nat) (v0 v2 v3 v4 : Int) (μ : Mem) (q_v2 : R32 v2) (q_v3 : R32 v3) (q_v4 : R32 v4) (h : M_ledger_L38 n v0 v2 v3 v4 μ = some (res, μe)), At E X cX12_ledger 5 "TollsBackModel" (0, 0) 38 [(0, 2, v0), (2, 0, v2), (3, 0, v3), (4, 0, v4)] [] μ := by
  intro n
  induction n with
  | zero =>
    intro v0 v2 v3 v4 μ q_v2 q_v3 q_v4 h
    have h : (none : Option (Int × Mem)) = some (res, μe) := h
    cases h
  | succ n ih =>
    intro v0 v2 v3 v4 μ q_v2 q_v3 q_v4 h
    rw [M_ledger_L38.eq_2] at h
    refine r_iload (pc := 38) hX 3 rfl (dk D_X12_ledger 22 rfl) ?_
    refine r_iloadn (pc := 40) hX 1 rfl (dk D_X12_ledger 23 rfl) ?_
    refine r_icmp_gt (pc := 41) hX q_v4 q_v2 64 rfl (dk D_X12_ledger 24 rfl) (fun hc => ?_) (fun hc => ?_)
    · rw [if_pos hc] at h
      refine r_iloadn (pc := 64) hX 2 rfl (dk D_X12_ledger 36 rfl) ?_
      cases h
      exact r_ireturn (pc := 65) hX q_v3 hM ⟨by decide, by decide⟩ (dk D_X12_ledger 37 rfl)
    · rw [if_neg hc] at h
      refine r_iloadn (pc := 44) hX 2 rfl (dk D_X12_ledger 25 rfl) ?_
      refine r_aloadn (pc := 45) hX 0 rfl (dk D_X12_ledger 26 rfl) ?_
      obtain ⟨x1, hx1, h⟩ := bd_some h
      refine r_getR (pc := 46) hX fl_12_13 rfl hx1 (dk D_X12_ledger 27 rfl) ?_
      refine r_sipush (pc := 49) hX rfl (dk D_X12_ledger 28 rfl) ?_
      refine r_iload (pc := 52) hX 3 rfl (dk D_X12_ledger 29 rfl) ?_
      refine r_iadd (pc := 54) hX (dk D_X12_ledger 30 rfl) ?_
      obtain ⟨x2, hx2, h⟩ := bd_some h
      refine r_iald (pc := 55) hX (R32_w _) hx2 (dk D_X12_ledger 31 rfl) (fun qx2 => ?_)
      refine r_iadd (pc := 56) hX (dk D_X12_ledger 32 rfl) ?_
      obtain ⟨x3, ex3, h⟩ := bd_some h
      replace ex3 := Option.some.inj ex3
      have qx3 : R32 x3 := ex3 ▸ (R32_w _)
      rw [ex3]
      refine r_istoren (lv' := [(3, 0, x3), (0, 2, v0), (2, 0, v2), (4, 0, v4)]) (pc := 57) hX (by decide) rfl (dk D_X12_ledger 33 rfl) ?_
      refine r_iinc (lv' := [(4, 0, (w32 (v4 + 1))), (3, 0, x3), (0, 2, v0), (2, 0, v2)]) (pc := 58) hX 3 rfl (by decide) rfl (dk D_X12_ledger 34 rfl) ?_
      refine r_goto (pc := 61) hX 38 rfl (dk D_X12_ledger 35 rfl) ?_
      refine r_sub (lv' := [(0, 2, v0), (2, 0, v2), (3, 0, x3), (4, 0, (w32 (v4 + 1)))]) [2, 3, 1, 0] rfl ?_
      exact ih v0 v2 x3 (w32 (v4 + 1)) μ q_v2 qx3 (R32_w _) h
set_option maxRecDepth 100000 in
set_option maxHeartbeats 4000000 in
theorem L_M_ledger {E : EX} {l : Launch} {a0 a1 a2 res : Int} {μ μ' : Mem} (q_a1 : R32 a1) (q_a2 : R32 a2) (h : M_ledger a0 a1 a2 μ = some (res, μ')) : Ok E l 2 yX12_ledger (.code yX12_ledger cX12_ledger 5 (some .int)) 0 0 [(2, a0), (0, a1), (0, a2)] μ (some (0, res)) μ' := by
  refine Ok.of (own := "TollsBackModel") [(0, 2, a0), (1, 0, a1), (2, 0, a2)] (by decide +kernel) rfl (Nat.le_of_ble_eq_true rfl) rfl ?_
  intro X hL hRm hin hX hM
  unfold M_ledger at h
  subst hL
  refine r_aloadn (pc := 0) hX 0 rfl (dk D_X12_ledger 0 rfl) ?_
  refine r_iconst (pc := 1) hX (dk D_X12_ledger 1 rfl) ?_
  obtain ⟨μ1, hμ1, h⟩ := bd_some h
  refine r_putI (pc := 2) hX fl_12_1 rfl rfl (R32_lit rfl) trivial hμ1 (dk D_X12_ledger 2 rfl) ?_
  refine r_iloadn (pc := 5) hX 1 rfl (dk D_X12_ledger 3 rfl) ?_
  refine r_i2l (pc := 6) hX q_a1 (dk D_X12_ledger 4 rfl) ?_
  refine r_lconst (x := 0) (pc := 7) hX (by decide) (dk D_X12_ledger 5 rfl) ?_
  refine r_ldc2 (pc := 8) hX cn_12_400 (dk D_X12_ledger 6 rfl) ?_
  obtain ⟨x2, μ3, hx2, h⟩ := bd2_some h
  refine r_invS0 (As := [(1, a1), (1, 0), (1, 719)]) (pc := 11) hX ml_12_178 (L_M_within (R64_of q_a1) (R64_lit rfl) (R64_lit rfl) hx2) (Rm_of hRm (by decide) ⟨by decide, by decide⟩) (by decide) rfl (Nat.le_of_ble_eq_true rfl) rfl (dk D_X12_ledger 7 rfl) (fun qx2 => ?_)
  refine r_if_eq (pc := 14) hX qx2 30 rfl (dk D_X12_ledger 8 rfl) (fun hc => ?_) (fun hc => ?_)
  · rw [if_pos hc] at h
    refine r_bipush (pc := 30) hX rfl (dk D_X12_ledger 16 rfl) ?_
    cases h
    exact r_ireturn (pc := 32) hX (R32_lit rfl) hM ⟨by decide, by decide⟩ (dk D_X12_ledger 17 rfl)
  · rw [if_neg hc] at h
    refine r_iloadn (pc := 17) hX 2 rfl (dk D_X12_ledger 9 rfl) ?_
    refine r_i2l (pc := 18) hX q_a2 (dk D_X12_ledger 10 rfl) ?_
    refine r_iloadn (pc := 19) hX 1 rfl (dk D_X12_ledger 11 rfl) ?_
    refine r_i2l (pc := 20) hX q_a1 (dk D_X12_ledger 12 rfl) ?_
    refine r_ldc2 (pc := 21) hX cn_12_400 (dk D_X12_ledger 13 rfl) ?_
    obtain ⟨x4, μ5, hx4, h⟩ := bd2_some h
    refine r_invS0 (As := [(1, a2), (1, a1), (1, 719)]) (pc := 24) hX ml_12_178 (L_M_within (R64_of q_a2) (R64_of q_a1) (R64_lit rfl) hx4) (Rm_of hRm (by decide) ⟨by decide, by decide⟩) (by decide) rfl (Nat.le_of_ble_eq_true rfl) rfl (dk D_X12_ledger 14 rfl) (fun qx4 => ?_)
    refine r_if_ne (pc := 27) hX qx4 33 rfl (dk D_X12_ledger 15 rfl) (fun hc => ?_) (fun hc => ?_)
    · rw [if_neg hc] at h
      refine r_iconst (pc := 33) hX (dk D_X12_ledger 18 rfl) ?_
      refine r_istoren (lv' := [(3, 0, 0), (0, 2, a0), (1, 0, a1), (2, 0, a2)]) (pc := 34) hX (by decide) rfl (dk D_X12_ledger 19 rfl) ?_
      refine r_iloadn (pc := 35) hX 2 rfl (dk D_X12_ledger 20 rfl) ?_
      refine r_istore (lv' := [(4, 0, a1), (3, 0, 0), (0, 2, a0), (1, 0, a1), (2, 0, a2)]) (pc := 36) hX (by decide) rfl (dk D_X12_ledger 21 rfl) ?_
      refine r_sub (lv' := [(0, 2, a0), (2, 0, a2), (3, 0, 0), (4, 0, a1)]) [2, 4, 1, 0] rfl ?_
      refine L_M_ledger_L38 hX hM hRm FU a0 a2 0 a1 μ5 q_a2 (R32_lit rfl) q_a1 h
    · rw [if_pos hc] at h
      refine r_bipush (pc := 30) hX rfl (dk D_X12_ledger 16 rfl) ?_
      cases h
      exact r_ireturn (pc := 32) hX (R32_lit rfl) hM ⟨by decide, by decide⟩ (dk D_X12_ledger 17 rfl)
set_option maxRecDepth 100000 in
set_option maxHeartbeats 4000000 in
theorem L_M_notes_L54 {E : EX} {X : CX} {res : Int} {μe : Mem} (hX : Good E X cX12_notes 8 "TollsBackModel") (hM : GoodM E X none none μe 0 0) (hRm : cR X = rmOf 5 0 0) {k99 : Int → Int → Int → Int → Mem → Option (Int × Mem)} {k164 : Int → Int → Int → Int → Mem → Option (Int × Mem)} (hk99 : ∀ (u0 u1 u2 u3 : Int) (μ : Mem), R32 u1 → R32 u2 → R32 u3 → k99 u0 u1 u2 u3 μ = some (res, μe) → At E X cX12_notes 8 "TollsBackModel" (0, 0) 99 [(0, 2, u0), (1, 0, u1), (2, 0, u2), (4, 0, u3)] [] μ) (hk164 : ∀ (u0 u1 u2 u3 : Int) (μ : Mem), R32 u1 → R32 u2 → R32 u3 → k164 u0 u1 u2 u3 μ = some (res, μe) → At E X cX12_notes 8 "TollsBackModel" (0, 0) 164 [(0, 2, u0), (1, 0, u1), (2, 0, u2), (4, 0, u3)] [] μ) : ∀ (n : Nat) (v0 v1 v2 v3 v4 v5 : Int) (μ : Mem) (q_v1 : R32 v1) (q_v2 : R32 v2) (q_v3 : R32 v3) (q_v4 : R32 v4) (q_v5 : R32 v5) (h : M_notes_L54 k99 k164 n v0 v1 v2 v3 v4 v5 μ = some (res, μe)), At E X cX12_notes 8 "TollsBackModel" (0, 0) 54 [(0, 2, v0), (1, 0, v1), (2, 0, v2), (3, 0, v3), (4, 0, v4), (5, 0, v5)] [] μ := by
  intro n
  induction n with
  | zero =>
    intro v0 v1 v2 v3 v4 v5 μ q_v1 q_v2 q_v3 q_v4 q_v5 h
    have h : (none : Option (Int × Mem)) = some (res, μe) := h
    cases h
  | succ n ih =>
    intro v0 v1 v2 v3 v4 v5 μ q_v1 q_v2 q_v3 q_v4 q_v5 h
    rw [M_notes_L54.eq_2] at h
    refine r_iload (pc := 54) hX 5 rfl (dk D_X12_notes 34 rfl) ?_
    refine r_aloadn (pc := 56) hX 0 rfl (dk D_X12_notes 35 rfl) ?_
    obtain ⟨x1, hx1, h⟩ := bd_some h
    refine r_getR (pc := 57) hX fl_12_105 rfl hx1 (dk D_X12_notes 36 rfl) ?_
    refine r_iloadn (pc := 60) hX 3 rfl (dk D_X12_notes 37 rfl) ?_
    obtain ⟨x2, hx2, h⟩ := bd_some h
    refine r_iald (pc := 61) hX q_v3 hx2 (dk D_X12_notes 38 rfl) (fun qx2 => ?_)
    refine r_icmp_ge (pc := 62) hX q_v5 qx2 164 rfl (dk D_X12_notes 39 rfl) (fun hc => ?_) (fun hc => ?_)
    · rw [if_neg hc] at h
      refine r_sub (lv' := [(0, 2, v0), (1, 0, v1), (2, 0, v2), (4, 0, v4)]) [0, 1, 2, 4] rfl ?_
      exact hk164 v0 v1 v2 v4 μ q_v1 q_v2 q_v4 h
    · rw [if_pos hc] at h
      refine r_aloadn (pc := 65) hX 0 rfl (dk D_X12_notes 40 rfl) ?_
      obtain ⟨x3, hx3, h⟩ := bd_some h
      refine r_getR (pc := 66) hX fl_12_108 rfl hx3 (dk D_X12_notes 41 rfl) ?_
      refine r_bipush (pc := 69) hX rfl (dk D_X12_notes 42 rfl) ?_
      refine r_iloadn (pc := 71) hX 3 rfl (dk D_X12_notes 43 rfl) ?_
      refine r_imul (pc := 72) hX (dk D_X12_notes 44 rfl) ?_
      refine r_iload (pc := 73) hX 5 rfl (dk D_X12_notes 45 rfl) ?_
      refine r_iadd (pc := 75) hX (dk D_X12_notes 46 rfl) ?_
      obtain ⟨x4, hx4, h⟩ := bd_some h
      refine r_lald (pc := 76) hX (R32_w _) hx4 (dk D_X12_notes 47 rfl) (fun qx4 => ?_)
      refine r_lstore (lv' := [(6, 1, x4), (0, 2, v0), (1, 0, v1), (2, 0, v2), (3, 0, v3), (4, 0, v4), (5, 0, v5)]) (pc := 77) hX (by decide) rfl (dk D_X12_notes 48 rfl) ?_
      refine r_aloadn (pc := 79) hX 1 rfl (dk D_X12_notes 49 rfl) ?_
      refine r_lload (pc := 80) hX 0 rfl (dk D_X12_notes 50 rfl) ?_
      obtain ⟨_, hi, h⟩ := bd_some h
      obtain ⟨x5, μ6, hx5, h⟩ := bd2_some h
      refine r_invV0 (As := [(1, x4)]) (pc := 82) hX ml_12_207 (L_M_isRoad qx4 hx5) (isk_u hi) (Rm_of hRm (by decide) ⟨by decide, by decide⟩) (by decide) rfl (Nat.le_of_ble_eq_true rfl) rfl (dk D_X12_notes 51 rfl) (fun qx5 => ?_)
      refine r_if_eq (pc := 85) hX qx5 164 rfl (dk D_X12_notes 52 rfl) (fun hc => ?_) (fun hc => ?_)
      · rw [if_pos hc] at h
        refine r_sub (lv' := [(0, 2, v0), (1, 0, v1), (2, 0, v2), (4, 0, v4)]) [1, 2, 3, 5] rfl ?_
        exact hk164 v0 v1 v2 v4 μ6 q_v1 q_v2 q_v4 h
      · rw [if_neg hc] at h
        refine r_aloadn (pc := 88) hX 1 rfl (dk D_X12_notes 53 rfl) ?_
        refine r_iloadn (pc := 89) hX 3 rfl (dk D_X12_notes 54 rfl) ?_
        refine r_lload (pc := 90) hX 0 rfl (dk D_X12_notes 55 rfl) ?_
        refine r_l2i (pc := 92) hX qx4 (dk D_X12_notes 56 rfl) ?_
        obtain ⟨_, hi, h⟩ := bd_some h
        obtain ⟨x7, μ8, hx7, h⟩ := bd2_some h
        refine r_invV0 (As := [(0, v2), (0, (w32 x4))]) (pc := 93) hX ml_12_255 (L_M_refuses q_v2 (R32_w _) hx7) (isk_u hi) (Rm_of hRm (by decide) ⟨by decide, by decide⟩) (by decide) rfl (Nat.le_of_ble_eq_true rfl) rfl (dk D_X12_notes 57 rfl) (fun qx7 => ?_)
        refine r_if_eq (pc := 96) hX qx7 102 rfl (dk D_X12_notes 58 rfl) (fun hc => ?_) (fun hc => ?_)
        · rw [if_pos hc] at h
          refine r_aloadn (pc := 102) hX 1 rfl (dk D_X12_notes 60 rfl) ?_
          refine r_iloadn (pc := 103) hX 3 rfl (dk D_X12_notes 61 rfl) ?_
          refine r_lload (pc := 104) hX 0 rfl (dk D_X12_notes 62 rfl) ?_
          refine r_l2i (pc := 106) hX qx4 (dk D_X12_notes 63 rfl) ?_
          obtain ⟨_, hi, h⟩ := bd_some h
          obtain ⟨x9, μ10, hx9, h⟩ := bd2_some h
          refine r_invV0 (As := [(0, v2), (0, (w32 x4))]) (pc := 107) hX ml_12_258 (L_M_goes q_v2 (R32_w _) hx9) (isk_u hi) (Rm_of hRm (by decide) ⟨by decide, by decide⟩) (by decide) rfl (Nat.le_of_ble_eq_true rfl) rfl (dk D_X12_notes 64 rfl) (fun qx9 => ?_)
          refine r_pop (pc := 110) hX rfl (dk D_X12_notes 65 rfl) ?_
          refine r_iinc (lv' := [(4, 0, (w32 (v4 + 1))), (6, 1, x4), (0, 2, v0), (1, 0, v1), (2, 0, v2), (3, 0, v3), (5, 0, v5)]) (pc := 111) hX 5 rfl (by decide) rfl (dk D_X12_notes 66 rfl) ?_
          refine r_aloadn (pc := 114) hX 2 rfl (dk D_X12_notes 67 rfl) ?_
          obtain ⟨x11, hx11, h⟩ := bd_some h
          refine r_getR (pc := 115) hX fl_12_93 rfl hx11 (dk D_X12_notes 68 rfl) ?_
          refine r_bipush (pc := 118) hX rfl (dk D_X12_notes 69 rfl) ?_
          refine r_iloadn (pc := 120) hX 3 rfl (dk D_X12_notes 70 rfl) ?_
          refine r_imul (pc := 121) hX (dk D_X12_notes 71 rfl) ?_
          refine r_iload (pc := 122) hX 0 rfl (dk D_X12_notes 72 rfl) ?_
          refine r_iadd (pc := 124) hX (dk D_X12_notes 73 rfl) ?_
          refine r_aloadn (pc := 125) hX 2 rfl (dk D_X12_notes 74 rfl) ?_
          obtain ⟨x12, hx12, h⟩ := bd_some h
          refine r_getR (pc := 126) hX fl_12_13 rfl hx12 (dk D_X12_notes 75 rfl) ?_
          refine r_sipush (pc := 129) hX rfl (dk D_X12_notes 76 rfl) ?_
          refine r_iloadn (pc := 132) hX 4 rfl (dk D_X12_notes 77 rfl) ?_
          refine r_iadd (pc := 133) hX (dk D_X12_notes 78 rfl) ?_
          obtain ⟨x13, hx13, h⟩ := bd_some h
          refine r_iald (pc := 134) hX (R32_w _) hx13 (dk D_X12_notes 79 rfl) (fun qx13 => ?_)
          obtain ⟨μ14, hμ14, h⟩ := bd_some h
          refine r_iast (pc := 135) hX (R32_w _) qx13 hμ14 (dk D_X12_notes 80 rfl) ?_
          refine r_aloadn (pc := 136) hX 2 rfl (dk D_X12_notes 81 rfl) ?_
          obtain ⟨x15, hx15, h⟩ := bd_some h
          refine r_getR (pc := 137) hX fl_12_96 rfl hx15 (dk D_X12_notes 82 rfl) ?_
          refine r_bipush (pc := 140) hX rfl (dk D_X12_notes 83 rfl) ?_
          refine r_iloadn (pc := 142) hX 3 rfl (dk D_X12_notes 84 rfl) ?_
          refine r_imul (pc := 143) hX (dk D_X12_notes 85 rfl) ?_
          refine r_iload (pc := 144) hX 0 rfl (dk D_X12_notes 86 rfl) ?_
          refine r_iadd (pc := 146) hX (dk D_X12_notes 87 rfl) ?_
          refine r_aloadn (pc := 147) hX 2 rfl (dk D_X12_notes 88 rfl) ?_
          obtain ⟨x16, hx16, h⟩ := bd_some h
          refine r_getR (pc := 148) hX fl_12_13 rfl hx16 (dk D_X12_notes 89 rfl) ?_
          refine r_sipush (pc := 151) hX rfl (dk D_X12_notes 90 rfl) ?_
          refine r_iloadn (pc := 154) hX 4 rfl (dk D_X12_notes 91 rfl) ?_
          refine r_iadd (pc := 155) hX (dk D_X12_notes 92 rfl) ?_
          obtain ⟨x17, hx17, h⟩ := bd_some h
          refine r_iald (pc := 156) hX (R32_w _) hx17 (dk D_X12_notes 93 rfl) (fun qx17 => ?_)
          obtain ⟨μ18, hμ18, h⟩ := bd_some h
          refine r_iast (pc := 157) hX (R32_w _) qx17 hμ18 (dk D_X12_notes 94 rfl) ?_
          refine r_iinc (lv' := [(5, 0, (w32 (v5 + 1))), (4, 0, (w32 (v4 + 1))), (6, 1, x4), (0, 2, v0), (1, 0, v1), (2, 0, v2), (3, 0, v3)]) (pc := 158) hX 6 rfl (by decide) rfl (dk D_X12_notes 95 rfl) ?_
          refine r_goto (pc := 161) hX 54 rfl (dk D_X12_notes 96 rfl) ?_
          refine r_sub (lv' := [(0, 2, v0), (1, 0, v1), (2, 0, v2), (3, 0, v3), (4, 0, (w32 (v4 + 1))), (5, 0, (w32 (v5 + 1)))]) [3, 4, 5, 6, 1, 0] rfl ?_
          exact ih v0 v1 v2 v3 (w32 (v4 + 1)) (w32 (v5 + 1)) μ18 q_v1 q_v2 q_v3 (R32_w _) (R32_w _) h
        · rw [if_neg hc] at h
          refine r_sub (lv' := [(0, 2, v0), (1, 0, v1), (2, 0, v2), (4, 0, v4)]) [1, 2, 3, 5] rfl ?_
          exact hk99 v0 v1 v2 v4 μ8 q_v1 q_v2 q_v4 h
set_option maxRecDepth 100000 in
set_option maxHeartbeats 4000000 in
theorem L_M_notes_J164 {E : EX} {X : CX} {res : Int} {μe : Mem} (hX : Good E X cX12_notes 8 "TollsBackModel") (hM : GoodM E X none none μe 0 0) (hRm : cR X = rmOf 5 0 0) {v0 v1 v2 v4 : Int} {μ : Mem} (q_v1 : R32 v1) (q_v2 : R32 v2) (q_v4 : R32 v4) (h : M_notes_J164 v0 v1 v2 v4 μ = some (res, μe)) : At E X cX12_notes 8 "TollsBackModel" (0, 0) 164 [(0, 2, v0), (1, 0, v1), (2, 0, v2), (4, 0, v4)] [] μ := by
  unfold M_notes_J164 at h
  refine r_aloadn (pc := 164) hX 0 rfl (dk D_X12_notes 97 rfl) ?_
  obtain ⟨x1, hx1, h⟩ := bd_some h
  refine r_getR (pc := 165) hX fl_12_99 rfl hx1 (dk D_X12_notes 98 rfl) ?_
  refine r_iloadn (pc := 168) hX 1 rfl (dk D_X12_notes 99 rfl) ?_
  refine r_iload (pc := 169) hX 3 rfl (dk D_X12_notes 100 rfl) ?_
  obtain ⟨μ2, hμ2, h⟩ := bd_some h
  refine r_iast (pc := 171) hX q_v1 q_v4 hμ2 (dk D_X12_notes 101 rfl) ?_
  refine r_aloadn (pc := 172) hX 0 rfl (dk D_X12_notes 102 rfl) ?_
  refine r_iconst (pc := 173) hX (dk D_X12_notes 103 rfl) ?_
  obtain ⟨μ3, hμ3, h⟩ := bd_some h
  refine r_putI (pc := 174) hX fl_12_30 rfl rfl (R32_lit rfl) (Or.inr rfl) hμ3 (dk D_X12_notes 104 rfl) ?_
  refine r_aloadn (pc := 177) hX 0 rfl (dk D_X12_notes 105 rfl) ?_
  refine r_iloadn (pc := 178) hX 2 rfl (dk D_X12_notes 106 rfl) ?_
  obtain ⟨_, hi, h⟩ := bd_some h
  obtain ⟨x4, μ5, hx4, h⟩ := bd2_some h
  refine r_invV0 (As := [(0, v2)]) (pc := 179) hX ml_12_284 (L_M_isAgain q_v2 hx4) (isk_u hi) (Rm_of hRm (by decide) ⟨by decide, by decide⟩) (by decide) rfl (Nat.le_of_ble_eq_true rfl) rfl (dk D_X12_notes 107 rfl) (fun _ => ?_)
  cases h
  exact r_return (pc := 182) hX hM ⟨by decide, by decide⟩ (dk D_X12_notes 108 rfl)
set_option maxRecDepth 100000 in
set_option maxHeartbeats 4000000 in
theorem L_M_notes {E : EX} {l : Launch} {a0 a1 a2 a3 res : Int} {μ μ' : Mem} (q_a1 : R32 a1) (q_a2 : R32 a2) (q_a3 : R32 a3) (h : M_notes a0 a1 a2 a3 μ = some (res, μ')) : Ok E l 5 yX12_notes (.code yX12_notes cX12_notes 8 none) 0 0 [(2, a0), (0, a1), (0, a2), (0, a3)] μ none μ' := by
  refine Ok.of (own := "TollsBackModel") [(0, 2, a0), (1, 0, a1), (2, 0, a2), (3, 0, a3)] (by decide +kernel) rfl (Nat.le_of_ble_eq_true rfl) rfl ?_
  intro X hL hRm hin hX hM
  unfold M_notes at h
  subst hL
  refine r_aloadn (pc := 0) hX 0 rfl (dk D_X12_notes 0 rfl) ?_
  refine r_iloadn (pc := 1) hX 2 rfl (dk D_X12_notes 1 rfl) ?_
  obtain ⟨_, hi, h⟩ := bd_some h
  obtain ⟨x1, μ2, hx1, h⟩ := bd2_some h
  refine r_invV0 (As := [(0, a2)]) (pc := 2) hX ml_12_278 (L_M_keeps q_a2 hx1) (isk_u hi) (Rm_of hRm (by decide) ⟨by decide, by decide⟩) (by decide) rfl (Nat.le_of_ble_eq_true rfl) rfl (dk D_X12_notes 2 rfl) (fun _ => ?_)
  refine r_aloadn (pc := 5) hX 0 rfl (dk D_X12_notes 3 rfl) ?_
  refine r_iconst (pc := 6) hX (dk D_X12_notes 4 rfl) ?_
  obtain ⟨μ3, hμ3, h⟩ := bd_some h
  refine r_putI (pc := 7) hX fl_12_30 rfl rfl (R32_lit rfl) (Or.inl rfl) hμ3 (dk D_X12_notes 5 rfl) ?_
  refine r_iconst (pc := 10) hX (dk D_X12_notes 6 rfl) ?_
  refine r_istore (lv' := [(4, 0, 0), (0, 2, a0), (1, 0, a1), (2, 0, a2), (3, 0, a3)]) (pc := 11) hX (by decide) rfl (dk D_X12_notes 7 rfl) ?_
  refine r_aloadn (pc := 13) hX 1 rfl (dk D_X12_notes 8 rfl) ?_
  obtain ⟨x4, hx4, h⟩ := bd_some h
  refine r_getR (pc := 14) hX fl_12_93 rfl hx4 (dk D_X12_notes 9 rfl) ?_
  refine r_bipush (pc := 17) hX rfl (dk D_X12_notes 10 rfl) ?_
  refine r_iloadn (pc := 19) hX 2 rfl (dk D_X12_notes 11 rfl) ?_
  refine r_imul (pc := 20) hX (dk D_X12_notes 12 rfl) ?_
  refine r_aloadn (pc := 21) hX 1 rfl (dk D_X12_notes 13 rfl) ?_
  obtain ⟨x5, hx5, h⟩ := bd_some h
  refine r_getR (pc := 22) hX fl_12_13 rfl hx5 (dk D_X12_notes 14 rfl) ?_
  refine r_sipush (pc := 25) hX rfl (dk D_X12_notes 15 rfl) ?_
  refine r_iloadn (pc := 28) hX 3 rfl (dk D_X12_notes 16 rfl) ?_
  refine r_iadd (pc := 29) hX (dk D_X12_notes 17 rfl) ?_
  obtain ⟨x6, hx6, h⟩ := bd_some h
  refine r_iald (pc := 30) hX (R32_w _) hx6 (dk D_X12_notes 18 rfl) (fun qx6 => ?_)
  obtain ⟨μ7, hμ7, h⟩ := bd_some h
  refine r_iast (pc := 31) hX (R32_w _) qx6 hμ7 (dk D_X12_notes 19 rfl) ?_
  refine r_aloadn (pc := 32) hX 1 rfl (dk D_X12_notes 20 rfl) ?_
  obtain ⟨x8, hx8, h⟩ := bd_some h
  refine r_getR (pc := 33) hX fl_12_96 rfl hx8 (dk D_X12_notes 21 rfl) ?_
  refine r_bipush (pc := 36) hX rfl (dk D_X12_notes 22 rfl) ?_
  refine r_iloadn (pc := 38) hX 2 rfl (dk D_X12_notes 23 rfl) ?_
  refine r_imul (pc := 39) hX (dk D_X12_notes 24 rfl) ?_
  refine r_aloadn (pc := 40) hX 1 rfl (dk D_X12_notes 25 rfl) ?_
  obtain ⟨x9, hx9, h⟩ := bd_some h
  refine r_getR (pc := 41) hX fl_12_13 rfl hx9 (dk D_X12_notes 26 rfl) ?_
  refine r_sipush (pc := 44) hX rfl (dk D_X12_notes 27 rfl) ?_
  refine r_iloadn (pc := 47) hX 3 rfl (dk D_X12_notes 28 rfl) ?_
  refine r_iadd (pc := 48) hX (dk D_X12_notes 29 rfl) ?_
  obtain ⟨x10, hx10, h⟩ := bd_some h
  refine r_iald (pc := 49) hX (R32_w _) hx10 (dk D_X12_notes 30 rfl) (fun qx10 => ?_)
  obtain ⟨μ11, hμ11, h⟩ := bd_some h
  refine r_iast (pc := 50) hX (R32_w _) qx10 hμ11 (dk D_X12_notes 31 rfl) ?_
  refine r_iconst (pc := 51) hX (dk D_X12_notes 32 rfl) ?_
  refine r_istore (lv' := [(5, 0, 0), (4, 0, 0), (0, 2, a0), (1, 0, a1), (2, 0, a2), (3, 0, a3)]) (pc := 52) hX (by decide) rfl (dk D_X12_notes 33 rfl) ?_
  refine r_sub (lv' := [(0, 2, a0), (1, 0, a1), (2, 0, a2), (3, 0, a3), (4, 0, 0), (5, 0, 0)]) [2, 3, 4, 5, 1, 0] rfl ?_
  refine L_M_notes_L54 hX hM hRm ?_ ?_ FU a0 a1 a2 a3 0 0 μ11 q_a1 q_a2 q_a3 (R32_lit rfl) (R32_lit rfl) h
  · intro x12 x13 x14 x15 μ16 qx13 qx14 qx15 h
    refine r_goto (pc := 99) hX 164 rfl (dk D_X12_notes 59 rfl) ?_
    refine L_M_notes_J164 hX hM hRm qx13 qx14 qx15 h
  · intro x17 x18 x19 x20 μ21 qx18 qx19 qx20 h
    refine L_M_notes_J164 hX hM hRm qx18 qx19 qx20 h
set_option maxRecDepth 100000 in
set_option maxHeartbeats 4000000 in
theorem L_M_bothOn {E : EX} {l : Launch} {a0 a1 a2 res : Int} {μ μ' : Mem} (q_a1 : R32 a1) (q_a2 : R32 a2) (h : M_bothOn a0 a1 a2 μ = some (res, μ')) : Ok E l 1 yX12_bothOn (.code yX12_bothOn cX12_bothOn 6 (some .int)) 0 0 [(2, a0), (0, a1), (0, a2)] μ (some (0, res)) μ' := by
  refine Ok.of (own := "TollsBackModel") [(0, 2, a0), (1, 0, a1), (2, 0, a2)] (by decide +kernel) rfl (Nat.le_of_ble_eq_true rfl) rfl ?_
  intro X hL hRm hin hX hM
  unfold M_bothOn at h
  subst hL
  refine r_aloadn (pc := 0) hX 0 rfl (dk D_X12_bothOn 0 rfl) ?_
  obtain ⟨x1, hx1, h⟩ := bd_some h
  refine r_getR (pc := 1) hX fl_12_96 rfl hx1 (dk D_X12_bothOn 1 rfl) ?_
  refine r_iloadn (pc := 4) hX 1 rfl (dk D_X12_bothOn 2 rfl) ?_
  obtain ⟨x2, hx2, h⟩ := bd_some h
  refine r_iald (pc := 5) hX q_a1 hx2 (dk D_X12_bothOn 3 rfl) (fun qx2 => ?_)
  refine r_aloadn (pc := 6) hX 0 rfl (dk D_X12_bothOn 4 rfl) ?_
  obtain ⟨x3, hx3, h⟩ := bd_some h
  refine r_getR (pc := 7) hX fl_12_96 rfl hx3 (dk D_X12_bothOn 5 rfl) ?_
  refine r_bipush (pc := 10) hX rfl (dk D_X12_bothOn 6 rfl) ?_
  refine r_iloadn (pc := 12) hX 2 rfl (dk D_X12_bothOn 7 rfl) ?_
  refine r_iadd (pc := 13) hX (dk D_X12_bothOn 8 rfl) ?_
  obtain ⟨x4, hx4, h⟩ := bd_some h
  refine r_iald (pc := 14) hX (R32_w _) hx4 (dk D_X12_bothOn 9 rfl) (fun qx4 => ?_)
  refine r_icmp_eq (pc := 15) hX qx2 qx4 20 rfl (dk D_X12_bothOn 10 rfl) (fun hc => ?_) (fun hc => ?_)
  · rw [if_pos hc] at h
    refine r_aloadn (pc := 20) hX 0 rfl (dk D_X12_bothOn 13 rfl) ?_
    obtain ⟨x5, hx5, h⟩ := bd_some h
    refine r_getR (pc := 21) hX fl_12_93 rfl hx5 (dk D_X12_bothOn 14 rfl) ?_
    refine r_iloadn (pc := 24) hX 1 rfl (dk D_X12_bothOn 15 rfl) ?_
    obtain ⟨x6, hx6, h⟩ := bd_some h
    refine r_iald (pc := 25) hX q_a1 hx6 (dk D_X12_bothOn 16 rfl) (fun qx6 => ?_)
    refine r_istoren (lv' := [(3, 0, x6), (0, 2, a0), (1, 0, a1), (2, 0, a2)]) (pc := 26) hX (by decide) rfl (dk D_X12_bothOn 17 rfl) ?_
    refine r_aloadn (pc := 27) hX 1 rfl (dk D_X12_bothOn 18 rfl) ?_
    obtain ⟨x7, hx7, h⟩ := bd_some h
    refine r_getR (pc := 28) hX fl_12_93 rfl hx7 (dk D_X12_bothOn 19 rfl) ?_
    refine r_bipush (pc := 31) hX rfl (dk D_X12_bothOn 20 rfl) ?_
    refine r_iloadn (pc := 33) hX 3 rfl (dk D_X12_bothOn 21 rfl) ?_
    refine r_iadd (pc := 34) hX (dk D_X12_bothOn 22 rfl) ?_
    obtain ⟨x8, hx8, h⟩ := bd_some h
    refine r_iald (pc := 35) hX (R32_w _) hx8 (dk D_X12_bothOn 23 rfl) (fun qx8 => ?_)
    refine r_istore (lv' := [(4, 0, x8), (3, 0, x6), (0, 2, a0), (1, 0, a1), (2, 0, a2)]) (pc := 36) hX (by decide) rfl (dk D_X12_bothOn 24 rfl) ?_
    refine r_iloadn (pc := 38) hX 1 rfl (dk D_X12_bothOn 25 rfl) ?_
    refine r_iload (pc := 39) hX 0 rfl (dk D_X12_bothOn 26 rfl) ?_
    refine r_icmp_ne (pc := 41) hX qx6 qx8 46 rfl (dk D_X12_bothOn 27 rfl) (fun hc => ?_) (fun hc => ?_)
    · rw [if_neg hc] at h
      refine r_iloadn (pc := 46) hX 1 rfl (dk D_X12_bothOn 30 rfl) ?_
      refine r_iload (pc := 47) hX 0 rfl (dk D_X12_bothOn 31 rfl) ?_
      obtain ⟨y9, hb, h⟩ := bd_some h
      have hj : R32 y9 → At E X cX12_bothOn 6 "TollsBackModel" (0, 0) 85 [(3, 0, x6), (4, 0, x8)] [(0, y9)] μ := by
        intro qy9
        clear hb
        refine r_istore (lv' := [(5, 0, y9), (3, 0, x6), (4, 0, x8)]) (pc := 85) hX (by decide) rfl (dk D_X12_bothOn 52 rfl) ?_
        refine r_iload (pc := 87) hX 0 rfl (dk D_X12_bothOn 53 rfl) ?_
        refine r_if_eq (pc := 89) hX qy9 107 rfl (dk D_X12_bothOn 54 rfl) (fun hc => ?_) (fun hc => ?_)
        · rw [if_pos hc] at h
          refine r_iconst (pc := 107) hX (dk D_X12_bothOn 62 rfl) ?_
          cases h
          exact r_ireturn (pc := 108) hX (R32_lit rfl) hM ⟨by decide, by decide⟩ (dk D_X12_bothOn 63 rfl)
        · rw [if_neg hc] at h
          refine r_iloadn (pc := 92) hX 1 rfl (dk D_X12_bothOn 55 rfl) ?_
          refine r_iload (pc := 93) hX 2 rfl (dk D_X12_bothOn 56 rfl) ?_
          refine r_icmp_ge (pc := 95) hX qx6 qx8 103 rfl (dk D_X12_bothOn 57 rfl) (fun hc => ?_) (fun hc => ?_)
          · rw [if_neg hc] at h
            refine r_iloadn (pc := 103) hX 1 rfl (dk D_X12_bothOn 60 rfl) ?_
            refine r_goto (pc := 104) hX 108 rfl (dk D_X12_bothOn 61 rfl) ?_
            cases h
            exact r_ireturn (pc := 108) hX qx6 hM ⟨by decide, by decide⟩ (dk D_X12_bothOn 63 rfl)
          · rw [if_pos hc] at h
            refine r_iload (pc := 98) hX 2 rfl (dk D_X12_bothOn 58 rfl) ?_
            refine r_goto (pc := 100) hX 108 rfl (dk D_X12_bothOn 59 rfl) ?_
            cases h
            exact r_ireturn (pc := 108) hX qx8 hM ⟨by decide, by decide⟩ (dk D_X12_bothOn 63 rfl)
      clear h
      have h := hb
      clear hb
      refine r_icmp_ge (pc := 49) hX qx6 qx8 70 rfl (dk D_X12_bothOn 32 rfl) (fun hc => ?_) (fun hc => ?_)
      · rw [if_neg hc] at h
        refine r_iloadn (pc := 70) hX 4 rfl (dk D_X12_bothOn 43 rfl) ?_
        refine r_aloadn (pc := 71) hX 2 rfl (dk D_X12_bothOn 44 rfl) ?_
        obtain ⟨x10, hx10, h⟩ := bd_some h
        refine r_getR (pc := 72) hX fl_12_99 rfl hx10 (dk D_X12_bothOn 45 rfl) ?_
        refine r_iconst (pc := 75) hX (dk D_X12_bothOn 46 rfl) ?_
        obtain ⟨x11, hx11, h⟩ := bd_some h
        refine r_iald (pc := 76) hX (R32_lit rfl) hx11 (dk D_X12_bothOn 47 rfl) (fun qx11 => ?_)
        refine r_icmp_ne (pc := 77) hX q_a2 qx11 84 rfl (dk D_X12_bothOn 48 rfl) (fun hc => ?_) (fun hc => ?_)
        · rw [if_neg hc] at h
          refine r_iconst (pc := 84) hX (dk D_X12_bothOn 51 rfl) ?_
          replace h := Option.some.inj h
          subst y9
          refine r_sub (lv' := [(3, 0, x6), (4, 0, x8)]) [1, 0] rfl ?_
          exact hj (R32_lit rfl)
        · rw [if_pos hc] at h
          refine r_iconst (pc := 80) hX (dk D_X12_bothOn 49 rfl) ?_
          refine r_goto (pc := 81) hX 85 rfl (dk D_X12_bothOn 50 rfl) ?_
          replace h := Option.some.inj h
          subst y9
          refine r_sub (lv' := [(3, 0, x6), (4, 0, x8)]) [1, 0] rfl ?_
          exact hj (R32_lit rfl)
      · rw [if_pos hc] at h
        refine r_iloadn (pc := 52) hX 3 rfl (dk D_X12_bothOn 33 rfl) ?_
        refine r_aloadn (pc := 53) hX 2 rfl (dk D_X12_bothOn 34 rfl) ?_
        obtain ⟨x12, hx12, h⟩ := bd_some h
        refine r_getR (pc := 54) hX fl_12_99 rfl hx12 (dk D_X12_bothOn 35 rfl) ?_
        refine r_iconst (pc := 57) hX (dk D_X12_bothOn 36 rfl) ?_
        obtain ⟨x13, hx13, h⟩ := bd_some h
        refine r_iald (pc := 58) hX (R32_lit rfl) hx13 (dk D_X12_bothOn 37 rfl) (fun qx13 => ?_)
        refine r_icmp_ne (pc := 59) hX q_a1 qx13 66 rfl (dk D_X12_bothOn 38 rfl) (fun hc => ?_) (fun hc => ?_)
        · rw [if_neg hc] at h
          refine r_iconst (pc := 66) hX (dk D_X12_bothOn 41 rfl) ?_
          refine r_goto (pc := 67) hX 85 rfl (dk D_X12_bothOn 42 rfl) ?_
          replace h := Option.some.inj h
          subst y9
          refine r_sub (lv' := [(3, 0, x6), (4, 0, x8)]) [1, 0] rfl ?_
          exact hj (R32_lit rfl)
        · rw [if_pos hc] at h
          refine r_iconst (pc := 62) hX (dk D_X12_bothOn 39 rfl) ?_
          refine r_goto (pc := 63) hX 85 rfl (dk D_X12_bothOn 40 rfl) ?_
          replace h := Option.some.inj h
          subst y9
          refine r_sub (lv' := [(3, 0, x6), (4, 0, x8)]) [1, 0] rfl ?_
          exact hj (R32_lit rfl)
    · rw [if_pos hc] at h
      refine r_iloadn (pc := 44) hX 1 rfl (dk D_X12_bothOn 28 rfl) ?_
      cases h
      exact r_ireturn (pc := 45) hX qx6 hM ⟨by decide, by decide⟩ (dk D_X12_bothOn 29 rfl)
  · rw [if_neg hc] at h
    refine r_iconst (pc := 18) hX (dk D_X12_bothOn 11 rfl) ?_
    cases h
    exact r_ireturn (pc := 19) hX (R32_lit rfl) hM ⟨by decide, by decide⟩ (dk D_X12_bothOn 12 rfl)
set_option maxRecDepth 100000 in
set_option maxHeartbeats 4000000 in
theorem L_M_meet_L127 {E : EX} {X : CX} {res : Int} {μe : Mem} (hX : Good E X cX12_meet 11 "TollsBackModel") (hM : GoodM E X (some .int) (some (0, res)) μe 0 0) (hRm : cR X = rmOf 6 0 0) {k189 : Int → Int → Int → Int → Int → Mem → Option (Int × Mem)} (hk189 : ∀ (u0 u1 u2 u3 u4 : Int) (μ : Mem), R32 u1 → R32 u2 → R32 u3 → R32 u4 → k189 u0 u1 u2 u3 u4 μ = some (res, μe) → At E X cX12_meet 11 "TollsBackModel" (0, 0) 189 [(0, 2, u0), (5, 0, u1), (6, 0, u2), (7, 0, u3), (8, 0, u4)] [] μ) : ∀ (n : Nat) (v0 v5 v6 v7 v8 v9 : Int) (μ : Mem) (q_v5 : R32 v5) (q_v6 : R32 v6) (q_v7 : R32 v7) (q_v8 : R32 v8) (q_v9 : R32 v9) (h : M_meet_L127 k189 n v0 v5 v6 v7 v8 v9 μ = some (res, μe)), At E X cX12_meet 11 "TollsBackModel" (0, 0) 127 [(0, 2, v0), (5, 0, v5), (6, 0, v6), (7, 0, v7), (8, 0, v8), (9, 0, v9)] [] μ := by
  intro n
  induction n with
  | zero =>
    intro v0 v5 v6 v7 v8 v9 μ q_v5 q_v6 q_v7 q_v8 q_v9 h
    have h : (none : Option (Int × Mem)) = some (res, μe) := h
    cases h
  | succ n ih =>
    intro v0 v5 v6 v7 v8 v9 μ q_v5 q_v6 q_v7 q_v8 q_v9 h
    rw [M_meet_L127.eq_2] at h
    refine r_iload (pc := 127) hX 5 rfl (dk D_X12_meet 72 rfl) ?_
    refine r_aloadn (pc := 129) hX 0 rfl (dk D_X12_meet 73 rfl) ?_
    obtain ⟨x1, hx1, h⟩ := bd_some h
    refine r_getR (pc := 130) hX fl_12_99 rfl hx1 (dk D_X12_meet 74 rfl) ?_
    refine r_iconst (pc := 133) hX (dk D_X12_meet 75 rfl) ?_
    obtain ⟨x2, hx2, h⟩ := bd_some h
    refine r_iald (pc := 134) hX (R32_lit rfl) hx2 (dk D_X12_meet 76 rfl) (fun qx2 => ?_)
    refine r_icmp_gt (pc := 135) hX q_v9 qx2 189 rfl (dk D_X12_meet 77 rfl) (fun hc => ?_) (fun hc => ?_)
    · rw [if_pos hc] at h
      refine r_sub (lv' := [(0, 2, v0), (5, 0, v5), (6, 0, v6), (7, 0, v7), (8, 0, v8)]) [0, 1, 2, 3, 4] rfl ?_
      exact hk189 v0 v5 v6 v7 v8 μ q_v5 q_v6 q_v7 q_v8 h
    · rw [if_neg hc] at h
      refine r_aloadn (pc := 138) hX 0 rfl (dk D_X12_meet 78 rfl) ?_
      refine r_iload (pc := 139) hX 4 rfl (dk D_X12_meet 79 rfl) ?_
      refine r_iload (pc := 141) hX 5 rfl (dk D_X12_meet 80 rfl) ?_
      obtain ⟨_, hi, h⟩ := bd_some h
      obtain ⟨x3, μ4, hx3, h⟩ := bd2_some h
      refine r_invV0 (As := [(0, v8), (0, v9)]) (pc := 143) hX ml_12_406 (L_M_bothOn q_v8 q_v9 hx3) (isk_u hi) (Rm_of hRm (by decide) ⟨by decide, by decide⟩) (by decide) rfl (Nat.le_of_ble_eq_true rfl) rfl (dk D_X12_meet 81 rfl) (fun qx3 => ?_)
      refine r_istore (lv' := [(10, 0, x3), (0, 2, v0), (5, 0, v5), (6, 0, v6), (7, 0, v7), (8, 0, v8), (9, 0, v9)]) (pc := 146) hX (by decide) rfl (dk D_X12_meet 82 rfl) ?_
      refine r_iload (pc := 148) hX 0 rfl (dk D_X12_meet 83 rfl) ?_
      refine r_iconst (pc := 150) hX (dk D_X12_meet 84 rfl) ?_
      refine r_icmp_eq (pc := 151) hX qx3 (R32_lit rfl) 183 rfl (dk D_X12_meet 85 rfl) (fun hc => ?_) (fun hc => ?_)
      · rw [if_pos hc] at h
        refine r_iinc (lv' := [(9, 0, (w32 (v9 + 1))), (10, 0, x3), (0, 2, v0), (5, 0, v5), (6, 0, v6), (7, 0, v7), (8, 0, v8)]) (pc := 183) hX 6 rfl (by decide) rfl (dk D_X12_meet 100 rfl) ?_
        refine r_goto (pc := 186) hX 127 rfl (dk D_X12_meet 101 rfl) ?_
        refine r_sub (lv' := [(0, 2, v0), (5, 0, v5), (6, 0, v6), (7, 0, v7), (8, 0, v8), (9, 0, (w32 (v9 + 1)))]) [2, 3, 4, 5, 6, 0] rfl ?_
        exact ih v0 v5 v6 v7 v8 (w32 (v9 + 1)) μ4 q_v5 q_v6 q_v7 q_v8 (R32_w _) h
      · rw [if_neg hc] at h
        refine r_iload (pc := 154) hX 3 rfl (dk D_X12_meet 86 rfl) ?_
        refine r_iconst (pc := 156) hX (dk D_X12_meet 87 rfl) ?_
        refine r_icmp_eq (pc := 157) hX q_v6 (R32_lit rfl) 170 rfl (dk D_X12_meet 88 rfl) (fun hc => ?_) (fun hc => ?_)
        · rw [if_pos hc] at h
          refine r_iload (pc := 170) hX 0 rfl (dk D_X12_meet 93 rfl) ?_
          refine r_istore (lv' := [(6, 0, x3), (10, 0, x3), (0, 2, v0), (5, 0, v5), (7, 0, v7), (8, 0, v8), (9, 0, v9)]) (pc := 172) hX (by decide) rfl (dk D_X12_meet 94 rfl) ?_
          refine r_aloadn (pc := 174) hX 2 rfl (dk D_X12_meet 95 rfl) ?_
          obtain ⟨x5, hx5, h⟩ := bd_some h
          refine r_getR (pc := 175) hX fl_12_96 rfl hx5 (dk D_X12_meet 96 rfl) ?_
          refine r_iload (pc := 178) hX 5 rfl (dk D_X12_meet 97 rfl) ?_
          obtain ⟨x6, hx6, h⟩ := bd_some h
          refine r_iald (pc := 180) hX q_v8 hx6 (dk D_X12_meet 98 rfl) (fun qx6 => ?_)
          refine r_istore (lv' := [(7, 0, x6), (6, 0, x3), (10, 0, x3), (0, 2, v0), (5, 0, v5), (8, 0, v8), (9, 0, v9)]) (pc := 181) hX (by decide) rfl (dk D_X12_meet 99 rfl) ?_
          refine r_iinc (lv' := [(9, 0, (w32 (v9 + 1))), (7, 0, x6), (6, 0, x3), (10, 0, x3), (0, 2, v0), (5, 0, v5), (8, 0, v8)]) (pc := 183) hX 6 rfl (by decide) rfl (dk D_X12_meet 100 rfl) ?_
          refine r_goto (pc := 186) hX 127 rfl (dk D_X12_meet 101 rfl) ?_
          refine r_sub (lv' := [(0, 2, v0), (5, 0, v5), (6, 0, x3), (7, 0, x6), (8, 0, v8), (9, 0, (w32 (v9 + 1)))]) [4, 5, 2, 1, 6, 0] rfl ?_
          exact ih v0 v5 x3 x6 v8 (w32 (v9 + 1)) μ4 q_v5 qx3 qx6 q_v8 (R32_w _) h
        · rw [if_neg hc] at h
          refine r_iload (pc := 160) hX 0 rfl (dk D_X12_meet 89 rfl) ?_
          refine r_iload (pc := 162) hX 3 rfl (dk D_X12_meet 90 rfl) ?_
          refine r_icmp_lt (pc := 164) hX qx3 q_v6 170 rfl (dk D_X12_meet 91 rfl) (fun hc => ?_) (fun hc => ?_)
          · rw [if_pos hc] at h
            refine r_iload (pc := 170) hX 0 rfl (dk D_X12_meet 93 rfl) ?_
            refine r_istore (lv' := [(6, 0, x3), (10, 0, x3), (0, 2, v0), (5, 0, v5), (7, 0, v7), (8, 0, v8), (9, 0, v9)]) (pc := 172) hX (by decide) rfl (dk D_X12_meet 94 rfl) ?_
            refine r_aloadn (pc := 174) hX 2 rfl (dk D_X12_meet 95 rfl) ?_
            obtain ⟨x7, hx7, h⟩ := bd_some h
            refine r_getR (pc := 175) hX fl_12_96 rfl hx7 (dk D_X12_meet 96 rfl) ?_
            refine r_iload (pc := 178) hX 5 rfl (dk D_X12_meet 97 rfl) ?_
            obtain ⟨x8, hx8, h⟩ := bd_some h
            refine r_iald (pc := 180) hX q_v8 hx8 (dk D_X12_meet 98 rfl) (fun qx8 => ?_)
            refine r_istore (lv' := [(7, 0, x8), (6, 0, x3), (10, 0, x3), (0, 2, v0), (5, 0, v5), (8, 0, v8), (9, 0, v9)]) (pc := 181) hX (by decide) rfl (dk D_X12_meet 99 rfl) ?_
            refine r_iinc (lv' := [(9, 0, (w32 (v9 + 1))), (7, 0, x8), (6, 0, x3), (10, 0, x3), (0, 2, v0), (5, 0, v5), (8, 0, v8)]) (pc := 183) hX 6 rfl (by decide) rfl (dk D_X12_meet 100 rfl) ?_
            refine r_goto (pc := 186) hX 127 rfl (dk D_X12_meet 101 rfl) ?_
            refine r_sub (lv' := [(0, 2, v0), (5, 0, v5), (6, 0, x3), (7, 0, x8), (8, 0, v8), (9, 0, (w32 (v9 + 1)))]) [4, 5, 2, 1, 6, 0] rfl ?_
            exact ih v0 v5 x3 x8 v8 (w32 (v9 + 1)) μ4 q_v5 qx3 qx8 q_v8 (R32_w _) h
          · rw [if_neg hc] at h
            refine r_goto (pc := 167) hX 183 rfl (dk D_X12_meet 92 rfl) ?_
            refine r_iinc (lv' := [(9, 0, (w32 (v9 + 1))), (10, 0, x3), (0, 2, v0), (5, 0, v5), (6, 0, v6), (7, 0, v7), (8, 0, v8)]) (pc := 183) hX 6 rfl (by decide) rfl (dk D_X12_meet 100 rfl) ?_
            refine r_goto (pc := 186) hX 127 rfl (dk D_X12_meet 101 rfl) ?_
            refine r_sub (lv' := [(0, 2, v0), (5, 0, v5), (6, 0, v6), (7, 0, v7), (8, 0, v8), (9, 0, (w32 (v9 + 1)))]) [2, 3, 4, 5, 6, 0] rfl ?_
            exact ih v0 v5 v6 v7 v8 (w32 (v9 + 1)) μ4 q_v5 q_v6 q_v7 q_v8 (R32_w _) h
set_option maxRecDepth 100000 in
set_option maxHeartbeats 4000000 in
theorem L_M_meet_L113 {E : EX} {X : CX} {res : Int} {μe : Mem} (hX : Good E X cX12_meet 11 "TollsBackModel") (hM : GoodM E X (some .int) (some (0, res)) μe 0 0) (hRm : cR X = rmOf 6 0 0) {k195 : Int → Int → Int → Mem → Option (Int × Mem)} (hk195 : ∀ (u0 u1 u2 : Int) (μ : Mem), R32 u0 → R32 u1 → R32 u2 → k195 u0 u1 u2 μ = some (res, μe) → At E X cX12_meet 11 "TollsBackModel" (0, 0) 195 [(5, 0, u0), (6, 0, u1), (7, 0, u2)] [] μ) : ∀ (n : Nat) (v0 v5 v6 v7 v8 : Int) (μ : Mem) (q_v5 : R32 v5) (q_v6 : R32 v6) (q_v7 : R32 v7) (q_v8 : R32 v8) (h : M_meet_L113 k195 n v0 v5 v6 v7 v8 μ = some (res, μe)), At E X cX12_meet 11 "TollsBackModel" (0, 0) 113 [(0, 2, v0), (5, 0, v5), (6, 0, v6), (7, 0, v7), (8, 0, v8)] [] μ := by
  intro n
  induction n with
  | zero =>
    intro v0 v5 v6 v7 v8 μ q_v5 q_v6 q_v7 q_v8 h
    have h : (none : Option (Int × Mem)) = some (res, μe) := h
    cases h
  | succ n ih =>
    intro v0 v5 v6 v7 v8 μ q_v5 q_v6 q_v7 q_v8 h
    rw [M_meet_L113.eq_2] at h
    refine r_iload (pc := 113) hX 4 rfl (dk D_X12_meet 64 rfl) ?_
    refine r_aloadn (pc := 115) hX 0 rfl (dk D_X12_meet 65 rfl) ?_
    obtain ⟨x1, hx1, h⟩ := bd_some h
    refine r_getR (pc := 116) hX fl_12_99 rfl hx1 (dk D_X12_meet 66 rfl) ?_
    refine r_iconst (pc := 119) hX (dk D_X12_meet 67 rfl) ?_
    obtain ⟨x2, hx2, h⟩ := bd_some h
    refine r_iald (pc := 120) hX (R32_lit rfl) hx2 (dk D_X12_meet 68 rfl) (fun qx2 => ?_)
    refine r_icmp_gt (pc := 121) hX q_v8 qx2 195 rfl (dk D_X12_meet 69 rfl) (fun hc => ?_) (fun hc => ?_)
    · rw [if_pos hc] at h
      refine r_sub (lv' := [(5, 0, v5), (6, 0, v6), (7, 0, v7)]) [1, 2, 3] rfl ?_
      exact hk195 v5 v6 v7 μ q_v5 q_v6 q_v7 h
    · rw [if_neg hc] at h
      refine r_iconst (pc := 124) hX (dk D_X12_meet 70 rfl) ?_
      refine r_istore (lv' := [(9, 0, 0), (0, 2, v0), (5, 0, v5), (6, 0, v6), (7, 0, v7), (8, 0, v8)]) (pc := 125) hX (by decide) rfl (dk D_X12_meet 71 rfl) ?_
      refine r_sub (lv' := [(0, 2, v0), (5, 0, v5), (6, 0, v6), (7, 0, v7), (8, 0, v8), (9, 0, 0)]) [1, 2, 3, 4, 5, 0] rfl ?_
      refine L_M_meet_L127 hX hM hRm ?_ FU v0 v5 v6 v7 v8 0 μ q_v5 q_v6 q_v7 q_v8 (R32_lit rfl) h
      intro x3 x4 x5 x6 x7 μ8 qx4 qx5 qx6 qx7 h
      refine r_iinc (lv' := [(8, 0, (w32 (x7 + 1))), (0, 2, x3), (5, 0, x4), (6, 0, x5), (7, 0, x6)]) (pc := 189) hX 4 rfl (by decide) rfl (dk D_X12_meet 102 rfl) ?_
      refine r_goto (pc := 192) hX 113 rfl (dk D_X12_meet 103 rfl) ?_
      refine r_sub (lv' := [(0, 2, x3), (5, 0, x4), (6, 0, x5), (7, 0, x6), (8, 0, (w32 (x7 + 1)))]) [1, 2, 3, 4, 0] rfl ?_
      exact ih x3 x4 x5 x6 (w32 (x7 + 1)) μ8 qx4 qx5 qx6 (R32_w _) h
set_option maxRecDepth 100000 in
set_option maxHeartbeats 4000000 in
theorem L_M_meet {E : EX} {l : Launch} {a0 a1 a2 a3 a4 a5 res : Int} {μ μ' : Mem} (q_a1 : R32 a1) (q_a2 : R32 a2) (q_a3 : R32 a3) (q_a4 : R32 a4) (q_a5 : R32 a5) (h : M_meet a0 a1 a2 a3 a4 a5 μ = some (res, μ')) : Ok E l 6 yX12_meet (.code yX12_meet cX12_meet 11 (some .int)) 0 0 [(2, a0), (0, a1), (0, a2), (0, a3), (0, a4), (0, a5)] μ (some (0, res)) μ' := by
  refine Ok.of (own := "TollsBackModel") [(0, 2, a0), (1, 0, a1), (2, 0, a2), (3, 0, a3), (4, 0, a4), (5, 0, a5)] (by decide +kernel) rfl (Nat.le_of_ble_eq_true rfl) rfl ?_
  intro X hL hRm hin hX hM
  unfold M_meet at h
  subst hL
  refine r_aloadn (pc := 0) hX 0 rfl (dk D_X12_meet 0 rfl) ?_
  refine r_iconst (pc := 1) hX (dk D_X12_meet 1 rfl) ?_
  obtain ⟨μ1, hμ1, h⟩ := bd_some h
  refine r_putI (pc := 2) hX fl_12_1 rfl rfl (R32_lit rfl) trivial hμ1 (dk D_X12_meet 2 rfl) ?_
  refine r_aloadn (pc := 5) hX 0 rfl (dk D_X12_meet 3 rfl) ?_
  refine r_iloadn (pc := 6) hX 1 rfl (dk D_X12_meet 4 rfl) ?_
  obtain ⟨_, hi, h⟩ := bd_some h
  obtain ⟨x2, μ3, hx2, h⟩ := bd2_some h
  refine r_invV0 (As := [(0, a1)]) (pc := 7) hX ml_12_230 (L_M_isOne q_a1 hx2) (isk_u hi) (Rm_of hRm (by decide) ⟨by decide, by decide⟩) (by decide) rfl (Nat.le_of_ble_eq_true rfl) rfl (dk D_X12_meet 5 rfl) (fun qx2 => ?_)
  refine r_if_eq (pc := 10) hX qx2 62 rfl (dk D_X12_meet 6 rfl) (fun hc => ?_) (fun hc => ?_)
  · rw [if_pos hc] at h
    refine r_bipush (pc := 62) hX rfl (dk D_X12_meet 32 rfl) ?_
    cases h
    exact r_ireturn (pc := 64) hX (R32_lit rfl) hM ⟨by decide, by decide⟩ (dk D_X12_meet 33 rfl)
  · rw [if_neg hc] at h
    refine r_aloadn (pc := 13) hX 0 rfl (dk D_X12_meet 7 rfl) ?_
    refine r_iloadn (pc := 14) hX 3 rfl (dk D_X12_meet 8 rfl) ?_
    obtain ⟨_, hi, h⟩ := bd_some h
    obtain ⟨x4, μ5, hx4, h⟩ := bd2_some h
    refine r_invV0 (As := [(0, a3)]) (pc := 15) hX ml_12_230 (L_M_isOne q_a3 hx4) (isk_u hi) (Rm_of hRm (by decide) ⟨by decide, by decide⟩) (by decide) rfl (Nat.le_of_ble_eq_true rfl) rfl (dk D_X12_meet 9 rfl) (fun qx4 => ?_)
    refine r_if_eq (pc := 18) hX qx4 62 rfl (dk D_X12_meet 10 rfl) (fun hc => ?_) (fun hc => ?_)
    · rw [if_pos hc] at h
      refine r_bipush (pc := 62) hX rfl (dk D_X12_meet 32 rfl) ?_
      cases h
      exact r_ireturn (pc := 64) hX (R32_lit rfl) hM ⟨by decide, by decide⟩ (dk D_X12_meet 33 rfl)
    · rw [if_neg hc] at h
      refine r_iloadn (pc := 21) hX 1 rfl (dk D_X12_meet 11 rfl) ?_
      refine r_iloadn (pc := 22) hX 3 rfl (dk D_X12_meet 12 rfl) ?_
      refine r_icmp_eq (pc := 23) hX q_a1 q_a3 62 rfl (dk D_X12_meet 13 rfl) (fun hc => ?_) (fun hc => ?_)
      · rw [if_pos hc] at h
        refine r_bipush (pc := 62) hX rfl (dk D_X12_meet 32 rfl) ?_
        cases h
        exact r_ireturn (pc := 64) hX (R32_lit rfl) hM ⟨by decide, by decide⟩ (dk D_X12_meet 33 rfl)
      · rw [if_neg hc] at h
        refine r_iloadn (pc := 26) hX 2 rfl (dk D_X12_meet 14 rfl) ?_
        refine r_i2l (pc := 27) hX q_a2 (dk D_X12_meet 15 rfl) ?_
        refine r_lconst (x := 0) (pc := 28) hX (by decide) (dk D_X12_meet 16 rfl) ?_
        refine r_ldc2 (pc := 29) hX cn_12_274 (dk D_X12_meet 17 rfl) ?_
        obtain ⟨x6, μ7, hx6, h⟩ := bd2_some h
        refine r_invS0 (As := [(1, a2), (1, 0), (1, 3)]) (pc := 32) hX ml_12_178 (L_M_within (R64_of q_a2) (R64_lit rfl) (R64_lit rfl) hx6) (Rm_of hRm (by decide) ⟨by decide, by decide⟩) (by decide) rfl (Nat.le_of_ble_eq_true rfl) rfl (dk D_X12_meet 18 rfl) (fun qx6 => ?_)
        refine r_if_eq (pc := 35) hX qx6 62 rfl (dk D_X12_meet 19 rfl) (fun hc => ?_) (fun hc => ?_)
        · rw [if_pos hc] at h
          refine r_bipush (pc := 62) hX rfl (dk D_X12_meet 32 rfl) ?_
          cases h
          exact r_ireturn (pc := 64) hX (R32_lit rfl) hM ⟨by decide, by decide⟩ (dk D_X12_meet 33 rfl)
        · rw [if_neg hc] at h
          refine r_iload (pc := 38) hX 4 rfl (dk D_X12_meet 20 rfl) ?_
          refine r_i2l (pc := 40) hX q_a4 (dk D_X12_meet 21 rfl) ?_
          refine r_lconst (x := 0) (pc := 41) hX (by decide) (dk D_X12_meet 22 rfl) ?_
          refine r_ldc2 (pc := 42) hX cn_12_274 (dk D_X12_meet 23 rfl) ?_
          obtain ⟨x8, μ9, hx8, h⟩ := bd2_some h
          refine r_invS0 (As := [(1, a4), (1, 0), (1, 3)]) (pc := 45) hX ml_12_178 (L_M_within (R64_of q_a4) (R64_lit rfl) (R64_lit rfl) hx8) (Rm_of hRm (by decide) ⟨by decide, by decide⟩) (by decide) rfl (Nat.le_of_ble_eq_true rfl) rfl (dk D_X12_meet 24 rfl) (fun qx8 => ?_)
          refine r_if_eq (pc := 48) hX qx8 62 rfl (dk D_X12_meet 25 rfl) (fun hc => ?_) (fun hc => ?_)
          · rw [if_pos hc] at h
            refine r_bipush (pc := 62) hX rfl (dk D_X12_meet 32 rfl) ?_
            cases h
            exact r_ireturn (pc := 64) hX (R32_lit rfl) hM ⟨by decide, by decide⟩ (dk D_X12_meet 33 rfl)
          · rw [if_neg hc] at h
            refine r_iload (pc := 51) hX 5 rfl (dk D_X12_meet 26 rfl) ?_
            refine r_i2l (pc := 53) hX q_a5 (dk D_X12_meet 27 rfl) ?_
            refine r_lconst (x := 0) (pc := 54) hX (by decide) (dk D_X12_meet 28 rfl) ?_
            refine r_lconst (x := 1) (pc := 55) hX (by decide) (dk D_X12_meet 29 rfl) ?_
            obtain ⟨x10, μ11, hx10, h⟩ := bd2_some h
            refine r_invS0 (As := [(1, a5), (1, 0), (1, 1)]) (pc := 56) hX ml_12_178 (L_M_within (R64_of q_a5) (R64_lit rfl) (R64_lit rfl) hx10) (Rm_of hRm (by decide) ⟨by decide, by decide⟩) (by decide) rfl (Nat.le_of_ble_eq_true rfl) rfl (dk D_X12_meet 30 rfl) (fun qx10 => ?_)
            refine r_if_ne (pc := 59) hX qx10 65 rfl (dk D_X12_meet 31 rfl) (fun hc => ?_) (fun hc => ?_)
            · rw [if_neg hc] at h
              refine r_aloadn (pc := 65) hX 0 rfl (dk D_X12_meet 34 rfl) ?_
              obtain ⟨x12, hx12, h⟩ := bd_some h
              refine r_getR (pc := 66) hX fl_12_102 rfl hx12 (dk D_X12_meet 35 rfl) ?_
              refine r_iloadn (pc := 69) hX 2 rfl (dk D_X12_meet 36 rfl) ?_
              obtain ⟨x13, hx13, h⟩ := bd_some h
              refine r_iald (pc := 70) hX q_a2 hx13 (dk D_X12_meet 37 rfl) (fun qx13 => ?_)
              refine r_iconst (pc := 71) hX (dk D_X12_meet 38 rfl) ?_
              refine r_icmp_eq (pc := 72) hX qx13 (R32_lit rfl) 86 rfl (dk D_X12_meet 39 rfl) (fun hc => ?_) (fun hc => ?_)
              · rw [if_pos hc] at h
                refine r_bipush (pc := 86) hX rfl (dk D_X12_meet 46 rfl) ?_
                cases h
                exact r_ireturn (pc := 88) hX (R32_lit rfl) hM ⟨by decide, by decide⟩ (dk D_X12_meet 47 rfl)
              · rw [if_neg hc] at h
                refine r_aloadn (pc := 75) hX 0 rfl (dk D_X12_meet 40 rfl) ?_
                obtain ⟨x14, hx14, h⟩ := bd_some h
                refine r_getR (pc := 76) hX fl_12_102 rfl hx14 (dk D_X12_meet 41 rfl) ?_
                refine r_iload (pc := 79) hX 4 rfl (dk D_X12_meet 42 rfl) ?_
                obtain ⟨x15, hx15, h⟩ := bd_some h
                refine r_iald (pc := 81) hX q_a4 hx15 (dk D_X12_meet 43 rfl) (fun qx15 => ?_)
                refine r_iconst (pc := 82) hX (dk D_X12_meet 44 rfl) ?_
                refine r_icmp_ne (pc := 83) hX qx15 (R32_lit rfl) 89 rfl (dk D_X12_meet 45 rfl) (fun hc => ?_) (fun hc => ?_)
                · rw [if_neg hc] at h
                  refine r_aloadn (pc := 89) hX 0 rfl (dk D_X12_meet 48 rfl) ?_
                  refine r_iconst (pc := 90) hX (dk D_X12_meet 49 rfl) ?_
                  refine r_iloadn (pc := 91) hX 1 rfl (dk D_X12_meet 50 rfl) ?_
                  refine r_iloadn (pc := 92) hX 2 rfl (dk D_X12_meet 51 rfl) ?_
                  obtain ⟨_, hi, h⟩ := bd_some h
                  obtain ⟨x16, μ17, hx16, h⟩ := bd2_some h
                  refine r_invV0 (As := [(0, 0), (0, a1), (0, a2)]) (pc := 93) hX ml_12_402 (L_M_notes (R32_lit rfl) q_a1 q_a2 hx16) (isk_u hi) (Rm_of hRm (by decide) ⟨by decide, by decide⟩) (by decide) rfl (Nat.le_of_ble_eq_true rfl) rfl (dk D_X12_meet 52 rfl) (fun _ => ?_)
                  refine r_aloadn (pc := 96) hX 0 rfl (dk D_X12_meet 53 rfl) ?_
                  refine r_iconst (pc := 97) hX (dk D_X12_meet 54 rfl) ?_
                  refine r_iloadn (pc := 98) hX 3 rfl (dk D_X12_meet 55 rfl) ?_
                  refine r_iload (pc := 99) hX 4 rfl (dk D_X12_meet 56 rfl) ?_
                  obtain ⟨_, hi, h⟩ := bd_some h
                  obtain ⟨x18, μ19, hx18, h⟩ := bd2_some h
                  refine r_invV0 (As := [(0, 1), (0, a3), (0, a4)]) (pc := 101) hX ml_12_402 (L_M_notes (R32_lit rfl) q_a3 q_a4 hx18) (isk_u hi) (Rm_of hRm (by decide) ⟨by decide, by decide⟩) (by decide) rfl (Nat.le_of_ble_eq_true rfl) rfl (dk D_X12_meet 57 rfl) (fun _ => ?_)
                  refine r_iconst (pc := 104) hX (dk D_X12_meet 58 rfl) ?_
                  refine r_istore (lv' := [(6, 0, (-1)), (0, 2, a0), (1, 0, a1), (2, 0, a2), (3, 0, a3), (4, 0, a4), (5, 0, a5)]) (pc := 105) hX (by decide) rfl (dk D_X12_meet 59 rfl) ?_
                  refine r_iconst (pc := 107) hX (dk D_X12_meet 60 rfl) ?_
                  refine r_istore (lv' := [(7, 0, (-1)), (6, 0, (-1)), (0, 2, a0), (1, 0, a1), (2, 0, a2), (3, 0, a3), (4, 0, a4), (5, 0, a5)]) (pc := 108) hX (by decide) rfl (dk D_X12_meet 61 rfl) ?_
                  refine r_iconst (pc := 110) hX (dk D_X12_meet 62 rfl) ?_
                  refine r_istore (lv' := [(8, 0, 0), (7, 0, (-1)), (6, 0, (-1)), (0, 2, a0), (1, 0, a1), (2, 0, a2), (3, 0, a3), (4, 0, a4), (5, 0, a5)]) (pc := 111) hX (by decide) rfl (dk D_X12_meet 63 rfl) ?_
                  refine r_sub (lv' := [(0, 2, a0), (5, 0, a5), (6, 0, (-1)), (7, 0, (-1)), (8, 0, 0)]) [3, 8, 2, 1, 0] rfl ?_
                  refine L_M_meet_L113 hX hM hRm ?_ FU a0 a5 (-1) (-1) 0 μ19 q_a5 (R32_lit rfl) (R32_lit rfl) (R32_lit rfl) h
                  intro x20 x21 x22 μ23 qx20 qx21 qx22 h
                  refine r_iload (pc := 195) hX 0 rfl (dk D_X12_meet 104 rfl) ?_
                  refine r_if_ne (pc := 197) hX qx20 205 rfl (dk D_X12_meet 105 rfl) (fun hc => ?_) (fun hc => ?_)
                  · rw [if_neg hc] at h
                    refine r_iload (pc := 205) hX 2 rfl (dk D_X12_meet 108 rfl) ?_
                    cases h
                    exact r_ireturn (pc := 207) hX qx22 hM ⟨by decide, by decide⟩ (dk D_X12_meet 109 rfl)
                  · rw [if_pos hc] at h
                    refine r_iload (pc := 200) hX 1 rfl (dk D_X12_meet 106 rfl) ?_
                    refine r_goto (pc := 202) hX 207 rfl (dk D_X12_meet 107 rfl) ?_
                    cases h
                    exact r_ireturn (pc := 207) hX qx21 hM ⟨by decide, by decide⟩ (dk D_X12_meet 109 rfl)
                · rw [if_pos hc] at h
                  refine r_bipush (pc := 86) hX rfl (dk D_X12_meet 46 rfl) ?_
                  cases h
                  exact r_ireturn (pc := 88) hX (R32_lit rfl) hM ⟨by decide, by decide⟩ (dk D_X12_meet 47 rfl)
            · rw [if_pos hc] at h
              refine r_bipush (pc := 62) hX rfl (dk D_X12_meet 32 rfl) ?_
              cases h
              exact r_ireturn (pc := 64) hX (R32_lit rfl) hM ⟨by decide, by decide⟩ (dk D_X12_meet 33 rfl)
set_option maxRecDepth 100000 in
set_option maxHeartbeats 4000000 in
theorem L_M_forged {E : EX} {l : Launch} {a0 a1 res : Int} {μ μ' : Mem} (q_a1 : R32 a1) (h : M_forged a0 a1 μ = some (res, μ')) : Ok E l 3 yX12_forged (.code yX12_forged cX12_forged 2 (some .int)) 0 0 [(2, a0), (0, a1)] μ (some (0, res)) μ' := by
  refine Ok.of (own := "TollsBackModel") [(0, 2, a0), (1, 0, a1)] (by decide +kernel) rfl (Nat.le_of_ble_eq_true rfl) rfl ?_
  intro X hL hRm hin hX hM
  unfold M_forged at h
  subst hL
  refine r_aloadn (pc := 0) hX 0 rfl (dk D_X12_forged 0 rfl) ?_
  refine r_iconst (pc := 1) hX (dk D_X12_forged 1 rfl) ?_
  obtain ⟨μ1, hμ1, h⟩ := bd_some h
  refine r_putI (pc := 2) hX fl_12_1 rfl rfl (R32_lit rfl) trivial hμ1 (dk D_X12_forged 2 rfl) ?_
  refine r_iloadn (pc := 5) hX 1 rfl (dk D_X12_forged 3 rfl) ?_
  refine r_i2l (pc := 6) hX q_a1 (dk D_X12_forged 4 rfl) ?_
  refine r_lconst (x := 0) (pc := 7) hX (by decide) (dk D_X12_forged 5 rfl) ?_
  refine r_ldc2 (pc := 8) hX cn_12_274 (dk D_X12_forged 6 rfl) ?_
  obtain ⟨x2, μ3, hx2, h⟩ := bd2_some h
  refine r_invS0 (As := [(1, a1), (1, 0), (1, 3)]) (pc := 11) hX ml_12_178 (L_M_within (R64_of q_a1) (R64_lit rfl) (R64_lit rfl) hx2) (Rm_of hRm (by decide) ⟨by decide, by decide⟩) (by decide) rfl (Nat.le_of_ble_eq_true rfl) rfl (dk D_X12_forged 7 rfl) (fun qx2 => ?_)
  refine r_if_ne (pc := 14) hX qx2 20 rfl (dk D_X12_forged 8 rfl) (fun hc => ?_) (fun hc => ?_)
  · rw [if_neg hc] at h
    refine r_aloadn (pc := 20) hX 0 rfl (dk D_X12_forged 11 rfl) ?_
    obtain ⟨x4, hx4, h⟩ := bd_some h
    refine r_getR (pc := 21) hX fl_12_13 rfl hx4 (dk D_X12_forged 12 rfl) ?_
    refine r_iconst (pc := 24) hX (dk D_X12_forged 13 rfl) ?_
    obtain ⟨x5, hx5, h⟩ := bd_some h
    refine r_iald (pc := 25) hX (R32_lit rfl) hx5 (dk D_X12_forged 14 rfl) (fun qx5 => ?_)
    refine r_if_ne (pc := 26) hX qx5 32 rfl (dk D_X12_forged 15 rfl) (fun hc => ?_) (fun hc => ?_)
    · rw [if_neg hc] at h
      refine r_aloadn (pc := 32) hX 0 rfl (dk D_X12_forged 18 rfl) ?_
      obtain ⟨x6, hx6, h⟩ := bd_some h
      refine r_getR (pc := 33) hX fl_12_102 rfl hx6 (dk D_X12_forged 19 rfl) ?_
      refine r_iloadn (pc := 36) hX 1 rfl (dk D_X12_forged 20 rfl) ?_
      obtain ⟨x7, hx7, h⟩ := bd_some h
      refine r_iald (pc := 37) hX q_a1 hx7 (dk D_X12_forged 21 rfl) (fun qx7 => ?_)
      refine r_iconst (pc := 38) hX (dk D_X12_forged 22 rfl) ?_
      refine r_icmp_ne (pc := 39) hX qx7 (R32_lit rfl) 45 rfl (dk D_X12_forged 23 rfl) (fun hc => ?_) (fun hc => ?_)
      · rw [if_neg hc] at h
        refine r_aloadn (pc := 45) hX 0 rfl (dk D_X12_forged 26 rfl) ?_
        refine r_iloadn (pc := 46) hX 1 rfl (dk D_X12_forged 27 rfl) ?_
        obtain ⟨_, hi, h⟩ := bd_some h
        obtain ⟨x8, μ9, hx8, h⟩ := bd2_some h
        refine r_invV0 (As := [(0, a1)]) (pc := 47) hX ml_12_354 (L_M_isSlips q_a1 hx8) (isk_u hi) (Rm_of hRm (by decide) ⟨by decide, by decide⟩) (by decide) rfl (Nat.le_of_ble_eq_true rfl) rfl (dk D_X12_forged 28 rfl) (fun qx8 => ?_)
        refine r_if_eq (pc := 50) hX qx8 61 rfl (dk D_X12_forged 29 rfl) (fun hc => ?_) (fun hc => ?_)
        · rw [if_pos hc] at h
          refine r_bipush (pc := 61) hX rfl (dk D_X12_forged 34 rfl) ?_
          cases h
          exact r_ireturn (pc := 63) hX (R32_lit rfl) hM ⟨by decide, by decide⟩ (dk D_X12_forged 35 rfl)
        · rw [if_neg hc] at h
          refine r_aloadn (pc := 53) hX 0 rfl (dk D_X12_forged 30 rfl) ?_
          refine r_iloadn (pc := 54) hX 1 rfl (dk D_X12_forged 31 rfl) ?_
          obtain ⟨_, hi, h⟩ := bd_some h
          obtain ⟨x10, μ11, hx10, h⟩ := bd2_some h
          refine r_invV0 (As := [(0, a1)]) (pc := 55) hX ml_12_375 (L_M_firstForged q_a1 hx10) (isk_u hi) (Rm_of hRm (by decide) ⟨by decide, by decide⟩) (by decide) rfl (Nat.le_of_ble_eq_true rfl) rfl (dk D_X12_forged 32 rfl) (fun qx10 => ?_)
          refine r_goto (pc := 58) hX 63 rfl (dk D_X12_forged 33 rfl) ?_
          cases h
          exact r_ireturn (pc := 63) hX qx10 hM ⟨by decide, by decide⟩ (dk D_X12_forged 35 rfl)
      · rw [if_pos hc] at h
        refine r_bipush (pc := 42) hX rfl (dk D_X12_forged 24 rfl) ?_
        cases h
        exact r_ireturn (pc := 44) hX (R32_lit rfl) hM ⟨by decide, by decide⟩ (dk D_X12_forged 25 rfl)
    · rw [if_pos hc] at h
      refine r_bipush (pc := 29) hX rfl (dk D_X12_forged 16 rfl) ?_
      cases h
      exact r_ireturn (pc := 31) hX (R32_lit rfl) hM ⟨by decide, by decide⟩ (dk D_X12_forged 17 rfl)
  · rw [if_pos hc] at h
    refine r_bipush (pc := 17) hX rfl (dk D_X12_forged 9 rfl) ?_
    cases h
    exact r_ireturn (pc := 19) hX (R32_lit rfl) hM ⟨by decide, by decide⟩ (dk D_X12_forged 10 rfl)
set_option maxRecDepth 100000 in
set_option maxHeartbeats 4000000 in
theorem L_M_fair_L49 {E : EX} {X : CX} {res : Int} {μe : Mem} (hX : Good E X cX12_fair 9 "TollsBackModel") (hM : GoodM E X (some .int) (some (0, res)) μe 0 0) (hRm : cR X = rmOf 5 0 0) {k105 : Int → Int → Int → Int → Int → Int → Mem → Option (Int × Mem)} (hk105 : ∀ (u0 u1 u2 u3 u4 u5 : Int) (μ : Mem), R32 u1 → R32 u2 → R32 u3 → R32 u4 → R32 u5 → k105 u0 u1 u2 u3 u4 u5 μ = some (res, μe) → At E X cX12_fair 9 "TollsBackModel" (0, 0) 105 [(0, 2, u0), (1, 0, u1), (3, 0, u2), (4, 0, u3), (5, 0, u4), (6, 0, u5)] [] μ) : ∀ (n : Nat) (v0 v1 v3 v4 v5 v6 v7 : Int) (μ : Mem) (q_v1 : R32 v1) (q_v3 : R32 v3) (q_v4 : R32 v4) (q_v5 : R32 v5) (q_v6 : R32 v6) (q_v7 : R32 v7) (h : M_fair_L49 k105 n v0 v1 v3 v4 v5 v6 v7 μ = some (res, μe)), At E X cX12_fair 9 "TollsBackModel" (0, 0) 49 [(0, 2, v0), (1, 0, v1), (3, 0, v3), (4, 0, v4), (5, 0, v5), (6, 0, v6), (7, 0, v7)] [] μ := by
  intro n
  induction n with
  | zero =>
    intro v0 v1 v3 v4 v5 v6 v7 μ q_v1 q_v3 q_v4 q_v5 q_v6 q_v7 h
    have h : (none : Option (Int × Mem)) = some (res, μe) := h
    cases h
  | succ n ih =>
    intro v0 v1 v3 v4 v5 v6 v7 μ q_v1 q_v3 q_v4 q_v5 q_v6 q_v7 h
    rw [M_fair_L49.eq_2] at h
    refine r_iload (pc := 49) hX 6 rfl (dk D_X12_fair 28 rfl) ?_
    refine r_aloadn (pc := 51) hX 0 rfl (dk D_X12_fair 29 rfl) ?_
    obtain ⟨x1, hx1, h⟩ := bd_some h
    refine r_getR (pc := 52) hX fl_12_13 rfl hx1 (dk D_X12_fair 30 rfl) ?_
    refine r_bipush (pc := 55) hX rfl (dk D_X12_fair 31 rfl) ?_
    obtain ⟨x2, hx2, h⟩ := bd_some h
    refine r_iald (pc := 57) hX (R32_lit rfl) hx2 (dk D_X12_fair 32 rfl) (fun qx2 => ?_)
    refine r_icmp_ge (pc := 58) hX q_v7 qx2 105 rfl (dk D_X12_fair 33 rfl) (fun hc => ?_) (fun hc => ?_)
    · rw [if_neg hc] at h
      refine r_sub (lv' := [(0, 2, v0), (1, 0, v1), (3, 0, v3), (4, 0, v4), (5, 0, v5), (6, 0, v6)]) [0, 1, 2, 3, 4, 5] rfl ?_
      exact hk105 v0 v1 v3 v4 v5 v6 μ q_v1 q_v3 q_v4 q_v5 q_v6 h
    · rw [if_pos hc] at h
      refine r_iload (pc := 61) hX 5 rfl (dk D_X12_fair 34 rfl) ?_
      refine r_aloadn (pc := 63) hX 0 rfl (dk D_X12_fair 35 rfl) ?_
      refine r_iload (pc := 64) hX 6 rfl (dk D_X12_fair 36 rfl) ?_
      obtain ⟨_, hi, h⟩ := bd_some h
      obtain ⟨x3, μ4, hx3, h⟩ := bd2_some h
      refine r_invV0 (As := [(0, v7)]) (pc := 66) hX ml_12_213 (L_M_isOpen q_v7 hx3) (isk_u hi) (Rm_of hRm (by decide) ⟨by decide, by decide⟩) (by decide) rfl (Nat.le_of_ble_eq_true rfl) rfl (dk D_X12_fair 37 rfl) (fun qx3 => ?_)
      refine r_if_eq (pc := 69) hX qx3 95 rfl (dk D_X12_fair 38 rfl) (fun hc => ?_) (fun hc => ?_)
      · rw [if_pos hc] at h
        refine r_iconst (pc := 95) hX (dk D_X12_fair 51 rfl) ?_
        refine r_iadd (pc := 96) hX (dk D_X12_fair 52 rfl) ?_
        obtain ⟨x5, ex5, h⟩ := bd_some h
        replace ex5 := Option.some.inj ex5
        have qx5 : R32 x5 := ex5 ▸ (R32_w _)
        rw [ex5]
        refine r_istore (lv' := [(6, 0, x5), (0, 2, v0), (1, 0, v1), (3, 0, v3), (4, 0, v4), (5, 0, v5), (7, 0, v7)]) (pc := 97) hX (by decide) rfl (dk D_X12_fair 53 rfl) ?_
        refine r_iinc (lv' := [(7, 0, (w32 (v7 + 1))), (6, 0, x5), (0, 2, v0), (1, 0, v1), (3, 0, v3), (4, 0, v4), (5, 0, v5)]) (pc := 99) hX 6 rfl (by decide) rfl (dk D_X12_fair 54 rfl) ?_
        refine r_goto (pc := 102) hX 49 rfl (dk D_X12_fair 55 rfl) ?_
        refine r_sub (lv' := [(0, 2, v0), (1, 0, v1), (3, 0, v3), (4, 0, v4), (5, 0, v5), (6, 0, x5), (7, 0, (w32 (v7 + 1)))]) [2, 3, 4, 5, 6, 1, 0] rfl ?_
        exact ih v0 v1 v3 v4 v5 x5 (w32 (v7 + 1)) μ4 q_v1 q_v3 q_v4 q_v5 qx5 (R32_w _) h
      · rw [if_neg hc] at h
        refine r_aloadn (pc := 72) hX 0 rfl (dk D_X12_fair 39 rfl) ?_
        refine r_iload (pc := 73) hX 6 rfl (dk D_X12_fair 40 rfl) ?_
        refine r_aloadn (pc := 75) hX 0 rfl (dk D_X12_fair 41 rfl) ?_
        obtain ⟨x6, hx6, h⟩ := bd_some h
        refine r_getR (pc := 76) hX fl_12_13 rfl hx6 (dk D_X12_fair 42 rfl) ?_
        refine r_sipush (pc := 79) hX rfl (dk D_X12_fair 43 rfl) ?_
        refine r_iloadn (pc := 82) hX 1 rfl (dk D_X12_fair 44 rfl) ?_
        refine r_iadd (pc := 83) hX (dk D_X12_fair 45 rfl) ?_
        obtain ⟨x7, hx7, h⟩ := bd_some h
        refine r_iald (pc := 84) hX (R32_w _) hx7 (dk D_X12_fair 46 rfl) (fun qx7 => ?_)
        obtain ⟨_, hi, h⟩ := bd_some h
        obtain ⟨x8, μ9, hx8, h⟩ := bd2_some h
        refine r_invV0 (As := [(0, v7), (0, x7)]) (pc := 85) hX ml_12_216 (L_M_leads q_v7 qx7 hx8) (isk_u hi) (Rm_of hRm (by decide) ⟨by decide, by decide⟩) (by decide) rfl (Nat.le_of_ble_eq_true rfl) rfl (dk D_X12_fair 47 rfl) (fun qx8 => ?_)
        refine r_if_eq (pc := 88) hX qx8 95 rfl (dk D_X12_fair 48 rfl) (fun hc => ?_) (fun hc => ?_)
        · rw [if_pos hc] at h
          refine r_iconst (pc := 95) hX (dk D_X12_fair 51 rfl) ?_
          refine r_iadd (pc := 96) hX (dk D_X12_fair 52 rfl) ?_
          obtain ⟨x10, ex10, h⟩ := bd_some h
          replace ex10 := Option.some.inj ex10
          have qx10 : R32 x10 := ex10 ▸ (R32_w _)
          rw [ex10]
          refine r_istore (lv' := [(6, 0, x10), (0, 2, v0), (1, 0, v1), (3, 0, v3), (4, 0, v4), (5, 0, v5), (7, 0, v7)]) (pc := 97) hX (by decide) rfl (dk D_X12_fair 53 rfl) ?_
          refine r_iinc (lv' := [(7, 0, (w32 (v7 + 1))), (6, 0, x10), (0, 2, v0), (1, 0, v1), (3, 0, v3), (4, 0, v4), (5, 0, v5)]) (pc := 99) hX 6 rfl (by decide) rfl (dk D_X12_fair 54 rfl) ?_
          refine r_goto (pc := 102) hX 49 rfl (dk D_X12_fair 55 rfl) ?_
          refine r_sub (lv' := [(0, 2, v0), (1, 0, v1), (3, 0, v3), (4, 0, v4), (5, 0, v5), (6, 0, x10), (7, 0, (w32 (v7 + 1)))]) [2, 3, 4, 5, 6, 1, 0] rfl ?_
          exact ih v0 v1 v3 v4 v5 x10 (w32 (v7 + 1)) μ9 q_v1 q_v3 q_v4 q_v5 qx10 (R32_w _) h
        · rw [if_neg hc] at h
          refine r_iconst (pc := 91) hX (dk D_X12_fair 49 rfl) ?_
          refine r_goto (pc := 92) hX 96 rfl (dk D_X12_fair 50 rfl) ?_
          refine r_iadd (pc := 96) hX (dk D_X12_fair 52 rfl) ?_
          obtain ⟨x11, ex11, h⟩ := bd_some h
          replace ex11 := Option.some.inj ex11
          have qx11 : R32 x11 := ex11 ▸ (R32_w _)
          rw [ex11]
          refine r_istore (lv' := [(6, 0, x11), (0, 2, v0), (1, 0, v1), (3, 0, v3), (4, 0, v4), (5, 0, v5), (7, 0, v7)]) (pc := 97) hX (by decide) rfl (dk D_X12_fair 53 rfl) ?_
          refine r_iinc (lv' := [(7, 0, (w32 (v7 + 1))), (6, 0, x11), (0, 2, v0), (1, 0, v1), (3, 0, v3), (4, 0, v4), (5, 0, v5)]) (pc := 99) hX 6 rfl (by decide) rfl (dk D_X12_fair 54 rfl) ?_
          refine r_goto (pc := 102) hX 49 rfl (dk D_X12_fair 55 rfl) ?_
          refine r_sub (lv' := [(0, 2, v0), (1, 0, v1), (3, 0, v3), (4, 0, v4), (5, 0, v5), (6, 0, x11), (7, 0, (w32 (v7 + 1)))]) [2, 3, 4, 5, 6, 1, 0] rfl ?_
          exact ih v0 v1 v3 v4 v5 x11 (w32 (v7 + 1)) μ9 q_v1 q_v3 q_v4 q_v5 qx11 (R32_w _) h
set_option maxRecDepth 100000 in
set_option maxHeartbeats 4000000 in
theorem L_M_fair_J171 {E : EX} {X : CX} {res : Int} {μe : Mem} (hX : Good E X cX12_fair 9 "TollsBackModel") (hM : GoodM E X (some .int) (some (0, res)) μe 0 0) (hRm : cR X = rmOf 5 0 0) {k138 : Int → Int → Int → Int → Int → Int → Int → Mem → Option (Int × Mem)} (hk138 : ∀ (u0 u1 u2 u3 u4 u5 u6 : Int) (μ : Mem), R32 u1 → R32 u2 → R32 u3 → R32 u4 → R32 u5 → R32 u6 → k138 u0 u1 u2 u3 u4 u5 u6 μ = some (res, μe) → At E X cX12_fair 9 "TollsBackModel" (0, 0) 138 [(0, 2, u0), (1, 0, u1), (3, 0, u2), (4, 0, u3), (5, 0, u4), (7, 0, u5), (8, 0, u6)] [] μ) {v0 v1 v3 v4 v5 v7 v8 : Int} {μ : Mem} (q_v1 : R32 v1) (q_v3 : R32 v3) (q_v4 : R32 v4) (q_v5 : R32 v5) (q_v7 : R32 v7) (q_v8 : R32 v8) (h : M_fair_J171 k138 v0 v1 v3 v4 v5 v7 v8 μ = some (res, μe)) : At E X cX12_fair 9 "TollsBackModel" (0, 0) 171 [(0, 2, v0), (1, 0, v1), (3, 0, v3), (4, 0, v4), (5, 0, v5), (7, 0, v7), (8, 0, v8)] [] μ := by
  unfold M_fair_J171 at h
  refine r_iload (pc := 171) hX 5 rfl (dk D_X12_fair 90 rfl) ?_
  refine r_aloadn (pc := 173) hX 0 rfl (dk D_X12_fair 91 rfl) ?_
  refine r_iload (pc := 174) hX 6 rfl (dk D_X12_fair 92 rfl) ?_
  obtain ⟨_, hi, h⟩ := bd_some h
  obtain ⟨x1, μ2, hx1, h⟩ := bd2_some h
  refine r_invV0 (As := [(0, v8)]) (pc := 176) hX ml_12_213 (L_M_isOpen q_v8 hx1) (isk_u hi) (Rm_of hRm (by decide) ⟨by decide, by decide⟩) (by decide) rfl (Nat.le_of_ble_eq_true rfl) rfl (dk D_X12_fair 93 rfl) (fun qx1 => ?_)
  refine r_if_eq (pc := 179) hX qx1 205 rfl (dk D_X12_fair 94 rfl) (fun hc => ?_) (fun hc => ?_)
  · rw [if_pos hc] at h
    refine r_iconst (pc := 205) hX (dk D_X12_fair 107 rfl) ?_
    refine r_isub (pc := 206) hX (dk D_X12_fair 108 rfl) ?_
    obtain ⟨x3, ex3, h⟩ := bd_some h
    replace ex3 := Option.some.inj ex3
    have qx3 : R32 x3 := ex3 ▸ (R32_w _)
    rw [ex3]
    refine r_istore (lv' := [(7, 0, x3), (0, 2, v0), (1, 0, v1), (3, 0, v3), (4, 0, v4), (5, 0, v5), (8, 0, v8)]) (pc := 207) hX (by decide) rfl (dk D_X12_fair 109 rfl) ?_
    refine r_iinc (lv' := [(8, 0, (w32 (v8 + 1))), (7, 0, x3), (0, 2, v0), (1, 0, v1), (3, 0, v3), (4, 0, v4), (5, 0, v5)]) (pc := 209) hX 6 rfl (by decide) rfl (dk D_X12_fair 110 rfl) ?_
    refine r_goto (pc := 212) hX 138 rfl (dk D_X12_fair 111 rfl) ?_
    refine r_sub (lv' := [(0, 2, v0), (1, 0, v1), (3, 0, v3), (4, 0, v4), (5, 0, v5), (7, 0, x3), (8, 0, (w32 (v8 + 1)))]) [2, 3, 4, 5, 6, 1, 0] rfl ?_
    exact hk138 v0 v1 v3 v4 v5 x3 (w32 (v8 + 1)) μ2 q_v1 q_v3 q_v4 q_v5 qx3 (R32_w _) h
  · rw [if_neg hc] at h
    refine r_aloadn (pc := 182) hX 0 rfl (dk D_X12_fair 95 rfl) ?_
    refine r_iload (pc := 183) hX 6 rfl (dk D_X12_fair 96 rfl) ?_
    refine r_aloadn (pc := 185) hX 0 rfl (dk D_X12_fair 97 rfl) ?_
    obtain ⟨x4, hx4, h⟩ := bd_some h
    refine r_getR (pc := 186) hX fl_12_13 rfl hx4 (dk D_X12_fair 98 rfl) ?_
    refine r_sipush (pc := 189) hX rfl (dk D_X12_fair 99 rfl) ?_
    refine r_iloadn (pc := 192) hX 1 rfl (dk D_X12_fair 100 rfl) ?_
    refine r_iadd (pc := 193) hX (dk D_X12_fair 101 rfl) ?_
    obtain ⟨x5, hx5, h⟩ := bd_some h
    refine r_iald (pc := 194) hX (R32_w _) hx5 (dk D_X12_fair 102 rfl) (fun qx5 => ?_)
    obtain ⟨_, hi, h⟩ := bd_some h
    obtain ⟨x6, μ7, hx6, h⟩ := bd2_some h
    refine r_invV0 (As := [(0, v8), (0, x5)]) (pc := 195) hX ml_12_216 (L_M_leads q_v8 qx5 hx6) (isk_u hi) (Rm_of hRm (by decide) ⟨by decide, by decide⟩) (by decide) rfl (Nat.le_of_ble_eq_true rfl) rfl (dk D_X12_fair 103 rfl) (fun qx6 => ?_)
    refine r_if_eq (pc := 198) hX qx6 205 rfl (dk D_X12_fair 104 rfl) (fun hc => ?_) (fun hc => ?_)
    · rw [if_pos hc] at h
      refine r_iconst (pc := 205) hX (dk D_X12_fair 107 rfl) ?_
      refine r_isub (pc := 206) hX (dk D_X12_fair 108 rfl) ?_
      obtain ⟨x8, ex8, h⟩ := bd_some h
      replace ex8 := Option.some.inj ex8
      have qx8 : R32 x8 := ex8 ▸ (R32_w _)
      rw [ex8]
      refine r_istore (lv' := [(7, 0, x8), (0, 2, v0), (1, 0, v1), (3, 0, v3), (4, 0, v4), (5, 0, v5), (8, 0, v8)]) (pc := 207) hX (by decide) rfl (dk D_X12_fair 109 rfl) ?_
      refine r_iinc (lv' := [(8, 0, (w32 (v8 + 1))), (7, 0, x8), (0, 2, v0), (1, 0, v1), (3, 0, v3), (4, 0, v4), (5, 0, v5)]) (pc := 209) hX 6 rfl (by decide) rfl (dk D_X12_fair 110 rfl) ?_
      refine r_goto (pc := 212) hX 138 rfl (dk D_X12_fair 111 rfl) ?_
      refine r_sub (lv' := [(0, 2, v0), (1, 0, v1), (3, 0, v3), (4, 0, v4), (5, 0, v5), (7, 0, x8), (8, 0, (w32 (v8 + 1)))]) [2, 3, 4, 5, 6, 1, 0] rfl ?_
      exact hk138 v0 v1 v3 v4 v5 x8 (w32 (v8 + 1)) μ7 q_v1 q_v3 q_v4 q_v5 qx8 (R32_w _) h
    · rw [if_neg hc] at h
      refine r_iconst (pc := 201) hX (dk D_X12_fair 105 rfl) ?_
      refine r_goto (pc := 202) hX 206 rfl (dk D_X12_fair 106 rfl) ?_
      refine r_isub (pc := 206) hX (dk D_X12_fair 108 rfl) ?_
      obtain ⟨x9, ex9, h⟩ := bd_some h
      replace ex9 := Option.some.inj ex9
      have qx9 : R32 x9 := ex9 ▸ (R32_w _)
      rw [ex9]
      refine r_istore (lv' := [(7, 0, x9), (0, 2, v0), (1, 0, v1), (3, 0, v3), (4, 0, v4), (5, 0, v5), (8, 0, v8)]) (pc := 207) hX (by decide) rfl (dk D_X12_fair 109 rfl) ?_
      refine r_iinc (lv' := [(8, 0, (w32 (v8 + 1))), (7, 0, x9), (0, 2, v0), (1, 0, v1), (3, 0, v3), (4, 0, v4), (5, 0, v5)]) (pc := 209) hX 6 rfl (by decide) rfl (dk D_X12_fair 110 rfl) ?_
      refine r_goto (pc := 212) hX 138 rfl (dk D_X12_fair 111 rfl) ?_
      refine r_sub (lv' := [(0, 2, v0), (1, 0, v1), (3, 0, v3), (4, 0, v4), (5, 0, v5), (7, 0, x9), (8, 0, (w32 (v8 + 1)))]) [2, 3, 4, 5, 6, 1, 0] rfl ?_
      exact hk138 v0 v1 v3 v4 v5 x9 (w32 (v8 + 1)) μ7 q_v1 q_v3 q_v4 q_v5 qx9 (R32_w _) h
set_option maxRecDepth 100000 in
set_option maxHeartbeats 4000000 in
theorem L_M_fair_L138 {E : EX} {X : CX} {res : Int} {μe : Mem} (hX : Good E X cX12_fair 9 "TollsBackModel") (hM : GoodM E X (some .int) (some (0, res)) μe 0 0) (hRm : cR X = rmOf 5 0 0) {k215 : Int → Int → Int → Int → Int → Int → Mem → Option (Int × Mem)} (hk215 : ∀ (u0 u1 u2 u3 u4 u5 : Int) (μ : Mem), R32 u1 → R32 u2 → R32 u3 → R32 u4 → R32 u5 → k215 u0 u1 u2 u3 u4 u5 μ = some (res, μe) → At E X cX12_fair 9 "TollsBackModel" (0, 0) 215 [(0, 2, u0), (1, 0, u1), (3, 0, u2), (4, 0, u3), (5, 0, u4), (8, 0, u5)] [] μ) : ∀ (n : Nat) (v0 v1 v3 v4 v5 v7 v8 : Int) (μ : Mem) (q_v1 : R32 v1) (q_v3 : R32 v3) (q_v4 : R32 v4) (q_v5 : R32 v5) (q_v7 : R32 v7) (q_v8 : R32 v8) (h : M_fair_L138 k215 n v0 v1 v3 v4 v5 v7 v8 μ = some (res, μe)), At E X cX12_fair 9 "TollsBackModel" (0, 0) 138 [(0, 2, v0), (1, 0, v1), (3, 0, v3), (4, 0, v4), (5, 0, v5), (7, 0, v7), (8, 0, v8)] [] μ := by
  intro n
  induction n with
  | zero =>
    intro v0 v1 v3 v4 v5 v7 v8 μ q_v1 q_v3 q_v4 q_v5 q_v7 q_v8 h
    have h : (none : Option (Int × Mem)) = some (res, μe) := h
    cases h
  | succ n ih =>
    intro v0 v1 v3 v4 v5 v7 v8 μ q_v1 q_v3 q_v4 q_v5 q_v7 q_v8 h
    rw [M_fair_L138.eq_2] at h
    refine r_aloadn (pc := 138) hX 0 rfl (dk D_X12_fair 74 rfl) ?_
    refine r_iload (pc := 139) hX 6 rfl (dk D_X12_fair 75 rfl) ?_
    obtain ⟨_, hi, h⟩ := bd_some h
    obtain ⟨x1, μ2, hx1, h⟩ := bd2_some h
    refine r_invV0 (As := [(0, v8)]) (pc := 141) hX ml_12_213 (L_M_isOpen q_v8 hx1) (isk_u hi) (Rm_of hRm (by decide) ⟨by decide, by decide⟩) (by decide) rfl (Nat.le_of_ble_eq_true rfl) rfl (dk D_X12_fair 76 rfl) (fun qx1 => ?_)
    refine r_if_eq (pc := 144) hX qx1 171 rfl (dk D_X12_fair 77 rfl) (fun hc => ?_) (fun hc => ?_)
    · rw [if_pos hc] at h
      refine L_M_fair_J171 hX hM hRm (fun u0 u1 u2 u3 u4 u5 u6 μ qu1 qu2 qu3 qu4 qu5 qu6 h => ih u0 u1 u2 u3 u4 u5 u6 μ qu1 qu2 qu3 qu4 qu5 qu6 h) q_v1 q_v3 q_v4 q_v5 q_v7 q_v8 h
    · rw [if_neg hc] at h
      refine r_aloadn (pc := 147) hX 0 rfl (dk D_X12_fair 78 rfl) ?_
      refine r_iload (pc := 148) hX 6 rfl (dk D_X12_fair 79 rfl) ?_
      refine r_aloadn (pc := 150) hX 0 rfl (dk D_X12_fair 80 rfl) ?_
      obtain ⟨x3, hx3, h⟩ := bd_some h
      refine r_getR (pc := 151) hX fl_12_13 rfl hx3 (dk D_X12_fair 81 rfl) ?_
      refine r_sipush (pc := 154) hX rfl (dk D_X12_fair 82 rfl) ?_
      refine r_iloadn (pc := 157) hX 1 rfl (dk D_X12_fair 83 rfl) ?_
      refine r_iadd (pc := 158) hX (dk D_X12_fair 84 rfl) ?_
      obtain ⟨x4, hx4, h⟩ := bd_some h
      refine r_iald (pc := 159) hX (R32_w _) hx4 (dk D_X12_fair 85 rfl) (fun qx4 => ?_)
      obtain ⟨_, hi, h⟩ := bd_some h
      obtain ⟨x5, μ6, hx5, h⟩ := bd2_some h
      refine r_invV0 (As := [(0, v8), (0, x4)]) (pc := 160) hX ml_12_216 (L_M_leads q_v8 qx4 hx5) (isk_u hi) (Rm_of hRm (by decide) ⟨by decide, by decide⟩) (by decide) rfl (Nat.le_of_ble_eq_true rfl) rfl (dk D_X12_fair 86 rfl) (fun qx5 => ?_)
      refine r_if_eq (pc := 163) hX qx5 171 rfl (dk D_X12_fair 87 rfl) (fun hc => ?_) (fun hc => ?_)
      · rw [if_pos hc] at h
        refine L_M_fair_J171 hX hM hRm (fun u0 u1 u2 u3 u4 u5 u6 μ qu1 qu2 qu3 qu4 qu5 qu6 h => ih u0 u1 u2 u3 u4 u5 u6 μ qu1 qu2 qu3 qu4 qu5 qu6 h) q_v1 q_v3 q_v4 q_v5 q_v7 q_v8 h
      · rw [if_neg hc] at h
        refine r_iload (pc := 166) hX 5 rfl (dk D_X12_fair 88 rfl) ?_
        refine r_if_le (pc := 168) hX q_v7 215 rfl (dk D_X12_fair 89 rfl) (fun hc => ?_) (fun hc => ?_)
        · rw [if_neg hc] at h
          refine r_sub (lv' := [(0, 2, v0), (1, 0, v1), (3, 0, v3), (4, 0, v4), (5, 0, v5), (8, 0, v8)]) [0, 1, 2, 3, 4, 6] rfl ?_
          exact hk215 v0 v1 v3 v4 v5 v8 μ6 q_v1 q_v3 q_v4 q_v5 q_v8 h
        · rw [if_pos hc] at h
          refine L_M_fair_J171 hX hM hRm (fun u0 u1 u2 u3 u4 u5 u6 μ qu1 qu2 qu3 qu4 qu5 qu6 h => ih u0 u1 u2 u3 u4 u5 u6 μ qu1 qu2 qu3 qu4 qu5 qu6 h) q_v1 q_v3 q_v4 q_v5 q_v7 q_v8 h
set_option maxRecDepth 100000 in
set_option maxHeartbeats 4000000 in
theorem L_M_fair_L37 {E : EX} {X : CX} {res : Int} {μe : Mem} (hX : Good E X cX12_fair 9 "TollsBackModel") (hM : GoodM E X (some .int) (some (0, res)) μe 0 0) (hRm : cR X = rmOf 5 0 0) : ∀ (n : Nat) (v0 v1 v3 v4 v5 : Int) (μ : Mem) (q_v1 : R32 v1) (q_v3 : R32 v3) (q_v4 : R32 v4) (q_v5 : R32 v5) (h : M_fair_L37 n v0 v1 v3 v4 v5 μ = some (res, μe)), At E X cX12_fair 9 "TollsBackModel" (0, 0) 37 [(0, 2, v0), (1, 0, v1), (3, 0, v3), (4, 0, v4), (5, 0, v5)] [] μ := by
  intro n
  induction n with
  | zero =>
    intro v0 v1 v3 v4 v5 μ q_v1 q_v3 q_v4 q_v5 h
    have h : (none : Option (Int × Mem)) = some (res, μe) := h
    cases h
  | succ n ih =>
    intro v0 v1 v3 v4 v5 μ q_v1 q_v3 q_v4 q_v5 h
    rw [M_fair_L37.eq_2] at h
    refine r_iload (pc := 37) hX 4 rfl (dk D_X12_fair 21 rfl) ?_
    refine r_iloadn (pc := 39) hX 2 rfl (dk D_X12_fair 22 rfl) ?_
    refine r_icmp_ge (pc := 40) hX q_v5 q_v3 242 rfl (dk D_X12_fair 23 rfl) (fun hc => ?_) (fun hc => ?_)
    · rw [if_neg hc] at h
      refine r_iloadn (pc := 242) hX 2 rfl (dk D_X12_fair 126 rfl) ?_
      cases h
      exact r_ireturn (pc := 243) hX q_v3 hM ⟨by decide, by decide⟩ (dk D_X12_fair 127 rfl)
    · rw [if_pos hc] at h
      refine r_iconst (pc := 43) hX (dk D_X12_fair 24 rfl) ?_
      refine r_istore (lv' := [(6, 0, 0), (0, 2, v0), (1, 0, v1), (3, 0, v3), (4, 0, v4), (5, 0, v5)]) (pc := 44) hX (by decide) rfl (dk D_X12_fair 25 rfl) ?_
      refine r_iconst (pc := 46) hX (dk D_X12_fair 26 rfl) ?_
      refine r_istore (lv' := [(7, 0, 0), (6, 0, 0), (0, 2, v0), (1, 0, v1), (3, 0, v3), (4, 0, v4), (5, 0, v5)]) (pc := 47) hX (by decide) rfl (dk D_X12_fair 27 rfl) ?_
      refine r_sub (lv' := [(0, 2, v0), (1, 0, v1), (3, 0, v3), (4, 0, v4), (5, 0, v5), (6, 0, 0), (7, 0, 0)]) [2, 3, 4, 5, 6, 1, 0] rfl ?_
      refine L_M_fair_L49 hX hM hRm ?_ FU v0 v1 v3 v4 v5 0 0 μ q_v1 q_v3 q_v4 q_v5 (R32_lit rfl) (R32_lit rfl) h
      intro x1 x2 x3 x4 x5 x6 μ7 qx2 qx3 qx4 qx5 qx6 h
      refine r_iload (pc := 105) hX 5 rfl (dk D_X12_fair 56 rfl) ?_
      refine r_if_ne (pc := 107) hX qx6 113 rfl (dk D_X12_fair 57 rfl) (fun hc => ?_) (fun hc => ?_)
      · rw [if_neg hc] at h
        refine r_ldcw (pc := 113) hX cn_12_409 (dk D_X12_fair 60 rfl) ?_
        refine r_iload (pc := 116) hX 3 rfl (dk D_X12_fair 61 rfl) ?_
        refine r_imul (pc := 118) hX (dk D_X12_fair 62 rfl) ?_
        refine r_sipush (pc := 119) hX rfl (dk D_X12_fair 63 rfl) ?_
        refine r_iadd (pc := 122) hX (dk D_X12_fair 64 rfl) ?_
        obtain ⟨x8, ex8, h⟩ := bd_some h
        replace ex8 := Option.some.inj ex8
        have qx8 : R32 x8 := ex8 ▸ (R32_w _)
        rw [ex8]
        refine r_istore (lv' := [(4, 0, x8), (0, 2, x1), (1, 0, x2), (3, 0, x3), (5, 0, x5), (6, 0, x6)]) (pc := 123) hX (by decide) rfl (dk D_X12_fair 65 rfl) ?_
        refine r_iload (pc := 125) hX 0 rfl (dk D_X12_fair 66 rfl) ?_
        refine r_bipush (pc := 127) hX rfl (dk D_X12_fair 67 rfl) ?_
        refine r_iushr (pc := 129) hX (dk D_X12_fair 68 rfl) ?_
        refine r_iload (pc := 130) hX 5 rfl (dk D_X12_fair 69 rfl) ?_
        obtain ⟨x9, hx9, h⟩ := bd_some h
        refine r_irem (pc := 132) hX qx6 hx9 (dk D_X12_fair 70 rfl) (fun qx9 => ?_)
        refine r_istore (lv' := [(7, 0, x9), (4, 0, x8), (0, 2, x1), (1, 0, x2), (3, 0, x3), (5, 0, x5), (6, 0, x6)]) (pc := 133) hX (by decide) rfl (dk D_X12_fair 71 rfl) ?_
        refine r_iconst (pc := 135) hX (dk D_X12_fair 72 rfl) ?_
        refine r_istore (lv' := [(8, 0, 0), (7, 0, x9), (4, 0, x8), (0, 2, x1), (1, 0, x2), (3, 0, x3), (5, 0, x5), (6, 0, x6)]) (pc := 136) hX (by decide) rfl (dk D_X12_fair 73 rfl) ?_
        refine r_sub (lv' := [(0, 2, x1), (1, 0, x2), (3, 0, x3), (4, 0, x8), (5, 0, x5), (7, 0, x9), (8, 0, 0)]) [3, 4, 5, 2, 6, 1, 0] rfl ?_
        refine L_M_fair_L138 hX hM hRm ?_ FU x1 x2 x3 x8 x5 x9 0 μ7 qx2 qx3 qx8 qx5 qx9 (R32_lit rfl) h
        intro x10 x11 x12 x13 x14 x15 μ16 qx11 qx12 qx13 qx14 qx15 h
        refine r_aloadn (pc := 215) hX 0 rfl (dk D_X12_fair 112 rfl) ?_
        refine r_iloadn (pc := 216) hX 1 rfl (dk D_X12_fair 113 rfl) ?_
        refine r_iload (pc := 217) hX 5 rfl (dk D_X12_fair 114 rfl) ?_
        obtain ⟨_, hi, h⟩ := bd_some h
        obtain ⟨x17, μ18, hx17, h⟩ := bd2_some h
        refine r_invV0 (As := [(0, x11), (0, x15)]) (pc := 219) hX ml_12_255 (L_M_refuses qx11 qx15 hx17) (isk_u hi) (Rm_of hRm (by decide) ⟨by decide, by decide⟩) (by decide) rfl (Nat.le_of_ble_eq_true rfl) rfl (dk D_X12_fair 115 rfl) (fun qx17 => ?_)
        refine r_if_eq (pc := 222) hX qx17 228 rfl (dk D_X12_fair 116 rfl) (fun hc => ?_) (fun hc => ?_)
        · rw [if_pos hc] at h
          refine r_aloadn (pc := 228) hX 0 rfl (dk D_X12_fair 119 rfl) ?_
          refine r_iloadn (pc := 229) hX 1 rfl (dk D_X12_fair 120 rfl) ?_
          refine r_iload (pc := 230) hX 5 rfl (dk D_X12_fair 121 rfl) ?_
          obtain ⟨_, hi, h⟩ := bd_some h
          obtain ⟨x19, μ20, hx19, h⟩ := bd2_some h
          refine r_invV0 (As := [(0, x11), (0, x15)]) (pc := 232) hX ml_12_258 (L_M_goes qx11 qx15 hx19) (isk_u hi) (Rm_of hRm (by decide) ⟨by decide, by decide⟩) (by decide) rfl (Nat.le_of_ble_eq_true rfl) rfl (dk D_X12_fair 122 rfl) (fun qx19 => ?_)
          refine r_pop (pc := 235) hX rfl (dk D_X12_fair 123 rfl) ?_
          refine r_iinc (lv' := [(5, 0, (w32 (x14 + 1))), (0, 2, x10), (1, 0, x11), (3, 0, x12), (4, 0, x13), (8, 0, x15)]) (pc := 236) hX 4 rfl (by decide) rfl (dk D_X12_fair 124 rfl) ?_
          refine r_goto (pc := 239) hX 37 rfl (dk D_X12_fair 125 rfl) ?_
          refine r_sub (lv' := [(0, 2, x10), (1, 0, x11), (3, 0, x12), (4, 0, x13), (5, 0, (w32 (x14 + 1)))]) [1, 2, 3, 4, 0] rfl ?_
          exact ih x10 x11 x12 x13 (w32 (x14 + 1)) μ20 qx11 qx12 qx13 (R32_w _) h
        · rw [if_neg hc] at h
          refine r_iload (pc := 225) hX 4 rfl (dk D_X12_fair 117 rfl) ?_
          cases h
          exact r_ireturn (pc := 227) hX qx14 hM ⟨by decide, by decide⟩ (dk D_X12_fair 118 rfl)
      · rw [if_pos hc] at h
        refine r_iload (pc := 110) hX 4 rfl (dk D_X12_fair 58 rfl) ?_
        cases h
        exact r_ireturn (pc := 112) hX qx5 hM ⟨by decide, by decide⟩ (dk D_X12_fair 59 rfl)
set_option maxRecDepth 100000 in
set_option maxHeartbeats 4000000 in
theorem L_M_fair {E : EX} {l : Launch} {a0 a1 a2 a3 res : Int} {μ μ' : Mem} (q_a1 : R32 a1) (q_a2 : R32 a2) (q_a3 : R32 a3) (h : M_fair a0 a1 a2 a3 μ = some (res, μ')) : Ok E l 5 yX12_fair (.code yX12_fair cX12_fair 9 (some .int)) 0 0 [(2, a0), (0, a1), (0, a2), (0, a3)] μ (some (0, res)) μ' := by
  refine Ok.of (own := "TollsBackModel") [(0, 2, a0), (1, 0, a1), (2, 0, a2), (3, 0, a3)] (by decide +kernel) rfl (Nat.le_of_ble_eq_true rfl) rfl ?_
  intro X hL hRm hin hX hM
  unfold M_fair at h
  subst hL
  refine r_aloadn (pc := 0) hX 0 rfl (dk D_X12_fair 0 rfl) ?_
  refine r_iconst (pc := 1) hX (dk D_X12_fair 1 rfl) ?_
  obtain ⟨μ1, hμ1, h⟩ := bd_some h
  refine r_putI (pc := 2) hX fl_12_1 rfl rfl (R32_lit rfl) trivial hμ1 (dk D_X12_fair 2 rfl) ?_
  refine r_aloadn (pc := 5) hX 0 rfl (dk D_X12_fair 3 rfl) ?_
  refine r_iloadn (pc := 6) hX 1 rfl (dk D_X12_fair 4 rfl) ?_
  obtain ⟨_, hi, h⟩ := bd_some h
  obtain ⟨x2, μ3, hx2, h⟩ := bd2_some h
  refine r_invV0 (As := [(0, a1)]) (pc := 7) hX ml_12_230 (L_M_isOne q_a1 hx2) (isk_u hi) (Rm_of hRm (by decide) ⟨by decide, by decide⟩) (by decide) rfl (Nat.le_of_ble_eq_true rfl) rfl (dk D_X12_fair 5 rfl) (fun qx2 => ?_)
  refine r_if_ne (pc := 10) hX qx2 16 rfl (dk D_X12_fair 6 rfl) (fun hc => ?_) (fun hc => ?_)
  · rw [if_neg hc] at h
    refine r_iloadn (pc := 16) hX 3 rfl (dk D_X12_fair 9 rfl) ?_
    refine r_i2l (pc := 17) hX q_a3 (dk D_X12_fair 10 rfl) ?_
    refine r_lconst (x := 1) (pc := 18) hX (by decide) (dk D_X12_fair 11 rfl) ?_
    refine r_ldc2 (pc := 19) hX cn_12_357 (dk D_X12_fair 12 rfl) ?_
    obtain ⟨x4, μ5, hx4, h⟩ := bd2_some h
    refine r_invS0 (As := [(1, a3), (1, 1), (1, 40)]) (pc := 22) hX ml_12_178 (L_M_within (R64_of q_a3) (R64_lit rfl) (R64_lit rfl) hx4) (Rm_of hRm (by decide) ⟨by decide, by decide⟩) (by decide) rfl (Nat.le_of_ble_eq_true rfl) rfl (dk D_X12_fair 13 rfl) (fun qx4 => ?_)
    refine r_if_ne (pc := 25) hX qx4 31 rfl (dk D_X12_fair 14 rfl) (fun hc => ?_) (fun hc => ?_)
    · rw [if_neg hc] at h
      refine r_iloadn (pc := 31) hX 2 rfl (dk D_X12_fair 17 rfl) ?_
      refine r_istore (lv' := [(4, 0, a2), (0, 2, a0), (1, 0, a1), (2, 0, a2), (3, 0, a3)]) (pc := 32) hX (by decide) rfl (dk D_X12_fair 18 rfl) ?_
      refine r_iconst (pc := 34) hX (dk D_X12_fair 19 rfl) ?_
      refine r_istore (lv' := [(5, 0, 0), (4, 0, a2), (0, 2, a0), (1, 0, a1), (2, 0, a2), (3, 0, a3)]) (pc := 35) hX (by decide) rfl (dk D_X12_fair 20 rfl) ?_
      refine r_sub (lv' := [(0, 2, a0), (1, 0, a1), (3, 0, a3), (4, 0, a2), (5, 0, 0)]) [2, 3, 5, 1, 0] rfl ?_
      refine L_M_fair_L37 hX hM hRm FU a0 a1 a3 a2 0 μ5 q_a1 q_a3 q_a2 (R32_lit rfl) h
    · rw [if_pos hc] at h
      refine r_bipush (pc := 28) hX rfl (dk D_X12_fair 15 rfl) ?_
      cases h
      exact r_ireturn (pc := 30) hX (R32_lit rfl) hM ⟨by decide, by decide⟩ (dk D_X12_fair 16 rfl)
  · rw [if_pos hc] at h
    refine r_bipush (pc := 13) hX rfl (dk D_X12_fair 7 rfl) ?_
    cases h
    exact r_ireturn (pc := 15) hX (R32_lit rfl) hM ⟨by decide, by decide⟩ (dk D_X12_fair 8 rfl)
set_option maxRecDepth 100000 in
set_option maxHeartbeats 4000000 in
theorem L_M_cut {E : EX} {l : Launch} {a0 a1 res : Int} {μ μ' : Mem} (q_a0 : R64 a0) (q_a1 : R32 a1) (h : M_cut a0 a1 μ = some (res, μ')) : Ok E l 1 yX12_cut (.code yX12_cut cX12_cut 3 (some .long)) 0 0 [(1, a0), (0, a1)] μ (some (1, res)) μ' := by
  refine Ok.of (own := "TollsBackModel") [(0, 1, a0), (2, 0, a1)] (by decide +kernel) rfl (Nat.le_of_ble_eq_true rfl) rfl ?_
  intro X hL hRm hin hX hM
  unfold M_cut at h
  subst hL
  refine r_iloadn (pc := 0) hX 1 rfl (dk D_X12_cut 0 rfl) ?_
  refine r_if_ne (pc := 1) hX q_a1 11 rfl (dk D_X12_cut 1 rfl) (fun hc => ?_) (fun hc => ?_)
  · rw [if_neg hc] at h
    refine r_iloadn (pc := 11) hX 1 rfl (dk D_X12_cut 7 rfl) ?_
    refine r_iconst (pc := 12) hX (dk D_X12_cut 8 rfl) ?_
    refine r_icmp_ne (pc := 13) hX q_a1 (R32_lit rfl) 23 rfl (dk D_X12_cut 9 rfl) (fun hc => ?_) (fun hc => ?_)
    · rw [if_neg hc] at h
      refine r_iloadn (pc := 23) hX 1 rfl (dk D_X12_cut 15 rfl) ?_
      refine r_iconst (pc := 24) hX (dk D_X12_cut 16 rfl) ?_
      refine r_icmp_ne (pc := 25) hX q_a1 (R32_lit rfl) 34 rfl (dk D_X12_cut 17 rfl) (fun hc => ?_) (fun hc => ?_)
      · rw [if_neg hc] at h
        refine r_lloadn (pc := 34) hX 0 rfl (dk D_X12_cut 22 rfl) ?_
        cases h
        exact r_lreturn (pc := 35) hX q_a0 hM ⟨by decide, by decide⟩ (dk D_X12_cut 23 rfl)
      · rw [if_pos hc] at h
        refine r_lloadn (pc := 28) hX 0 rfl (dk D_X12_cut 18 rfl) ?_
        refine r_l2i (pc := 29) hX q_a0 (dk D_X12_cut 19 rfl) ?_
        refine r_i2l (pc := 30) hX (R32_w _) (dk D_X12_cut 20 rfl) ?_
        refine r_goto (pc := 31) hX 35 rfl (dk D_X12_cut 21 rfl) ?_
        cases h
        exact r_lreturn (pc := 35) hX (R64_of (R32_w _)) hM ⟨by decide, by decide⟩ (dk D_X12_cut 23 rfl)
    · rw [if_pos hc] at h
      refine r_lloadn (pc := 16) hX 0 rfl (dk D_X12_cut 10 rfl) ?_
      refine r_l2i (pc := 17) hX q_a0 (dk D_X12_cut 11 rfl) ?_
      refine r_i2s (pc := 18) hX (dk D_X12_cut 12 rfl) ?_
      refine r_i2l (pc := 19) hX (R32_t _) (dk D_X12_cut 13 rfl) ?_
      refine r_goto (pc := 20) hX 35 rfl (dk D_X12_cut 14 rfl) ?_
      cases h
      exact r_lreturn (pc := 35) hX (R64_of (R32_t _)) hM ⟨by decide, by decide⟩ (dk D_X12_cut 23 rfl)
  · rw [if_pos hc] at h
    refine r_lloadn (pc := 4) hX 0 rfl (dk D_X12_cut 2 rfl) ?_
    refine r_l2i (pc := 5) hX q_a0 (dk D_X12_cut 3 rfl) ?_
    refine r_i2b (pc := 6) hX (dk D_X12_cut 4 rfl) ?_
    refine r_i2l (pc := 7) hX (R32_t _) (dk D_X12_cut 5 rfl) ?_
    refine r_goto (pc := 8) hX 35 rfl (dk D_X12_cut 6 rfl) ?_
    cases h
    exact r_lreturn (pc := 35) hX (R64_of (R32_t _)) hM ⟨by decide, by decide⟩ (dk D_X12_cut 23 rfl)
set_option maxRecDepth 100000 in
set_option maxHeartbeats 4000000 in
theorem L_M_numbers_L64 {E : EX} {X : CX} {res : Int} {μe : Mem} (hX : Good E X cX12_numbers 5 "TollsBackModel") (hM : GoodM E X (some .int) (some (0, res)) μe 0 0) (hRm : cR X = rmOf 2 0 0) : ∀ (n : Nat) (v0 v1 v3 v4 : Int) (μ : Mem) (q_v1 : R32 v1) (q_v3 : R32 v3) (q_v4 : R32 v4) (h : M_numbers_L64 n v0 v1 v3 v4 μ = some (res, μe)), At E X cX12_numbers 5 "TollsBackModel" (0, 0) 64 [(0, 2, v0), (1, 0, v1), (3, 0, v3), (4, 0, v4)] [] μ := by
  intro n
  induction n with
  | zero =>
    intro v0 v1 v3 v4 μ q_v1 q_v3 q_v4 h
    have h : (none : Option (Int × Mem)) = some (res, μe) := h
    cases h
  | succ n ih =>
    intro v0 v1 v3 v4 μ q_v1 q_v3 q_v4 h
    rw [M_numbers_L64.eq_2] at h
    refine r_iload (pc := 64) hX 3 rfl (dk D_X12_numbers 37 rfl) ?_
    refine r_iloadn (pc := 66) hX 2 rfl (dk D_X12_numbers 38 rfl) ?_
    refine r_icmp_ge (pc := 67) hX q_v4 q_v3 89 rfl (dk D_X12_numbers 39 rfl) (fun hc => ?_) (fun hc => ?_)
    · rw [if_neg hc] at h
      refine r_iconst (pc := 89) hX (dk D_X12_numbers 51 rfl) ?_
      cases h
      exact r_ireturn (pc := 90) hX (R32_lit rfl) hM ⟨by decide, by decide⟩ (dk D_X12_numbers 52 rfl)
    · rw [if_pos hc] at h
      refine r_aloadn (pc := 70) hX 0 rfl (dk D_X12_numbers 40 rfl) ?_
      obtain ⟨x1, hx1, h⟩ := bd_some h
      refine r_getR (pc := 71) hX fl_12_108 rfl hx1 (dk D_X12_numbers 41 rfl) ?_
      refine r_bipush (pc := 74) hX rfl (dk D_X12_numbers 42 rfl) ?_
      refine r_iloadn (pc := 76) hX 1 rfl (dk D_X12_numbers 43 rfl) ?_
      refine r_imul (pc := 77) hX (dk D_X12_numbers 44 rfl) ?_
      refine r_iload (pc := 78) hX 3 rfl (dk D_X12_numbers 45 rfl) ?_
      refine r_iadd (pc := 80) hX (dk D_X12_numbers 46 rfl) ?_
      refine r_lconst (x := 0) (pc := 81) hX (by decide) (dk D_X12_numbers 47 rfl) ?_
      obtain ⟨μ2, hμ2, h⟩ := bd_some h
      refine r_last (pc := 82) hX (R32_w _) (R64_lit rfl) hμ2 (dk D_X12_numbers 48 rfl) ?_
      refine r_iinc (lv' := [(4, 0, (w32 (v4 + 1))), (0, 2, v0), (1, 0, v1), (3, 0, v3)]) (pc := 83) hX 3 rfl (by decide) rfl (dk D_X12_numbers 49 rfl) ?_
      refine r_goto (pc := 86) hX 64 rfl (dk D_X12_numbers 50 rfl) ?_
      refine r_sub (lv' := [(0, 2, v0), (1, 0, v1), (3, 0, v3), (4, 0, (w32 (v4 + 1)))]) [1, 2, 3, 0] rfl ?_
      exact ih v0 v1 v3 (w32 (v4 + 1)) μ2 q_v1 q_v3 (R32_w _) h
set_option maxRecDepth 100000 in
set_option maxHeartbeats 4000000 in
theorem L_M_numbers {E : EX} {l : Launch} {a0 a1 a2 a3 res : Int} {μ μ' : Mem} (q_a1 : R32 a1) (q_a2 : R32 a2) (q_a3 : R32 a3) (h : M_numbers a0 a1 a2 a3 μ = some (res, μ')) : Ok E l 2 yX12_numbers (.code yX12_numbers cX12_numbers 5 (some .int)) 0 0 [(2, a0), (0, a1), (0, a2), (0, a3)] μ (some (0, res)) μ' := by
  refine Ok.of (own := "TollsBackModel") [(0, 2, a0), (1, 0, a1), (2, 0, a2), (3, 0, a3)] (by decide +kernel) rfl (Nat.le_of_ble_eq_true rfl) rfl ?_
  intro X hL hRm hin hX hM
  unfold M_numbers at h
  subst hL
  refine r_aloadn (pc := 0) hX 0 rfl (dk D_X12_numbers 0 rfl) ?_
  refine r_iconst (pc := 1) hX (dk D_X12_numbers 1 rfl) ?_
  obtain ⟨μ1, hμ1, h⟩ := bd_some h
  refine r_putI (pc := 2) hX fl_12_1 rfl rfl (R32_lit rfl) trivial hμ1 (dk D_X12_numbers 2 rfl) ?_
  refine r_iloadn (pc := 5) hX 1 rfl (dk D_X12_numbers 3 rfl) ?_
  refine r_i2l (pc := 6) hX q_a1 (dk D_X12_numbers 4 rfl) ?_
  refine r_lconst (x := 0) (pc := 7) hX (by decide) (dk D_X12_numbers 5 rfl) ?_
  refine r_ldc2 (pc := 8) hX cn_12_274 (dk D_X12_numbers 6 rfl) ?_
  obtain ⟨x2, μ3, hx2, h⟩ := bd2_some h
  refine r_invS0 (As := [(1, a1), (1, 0), (1, 3)]) (pc := 11) hX ml_12_178 (L_M_within (R64_of q_a1) (R64_lit rfl) (R64_lit rfl) hx2) (Rm_of hRm (by decide) ⟨by decide, by decide⟩) (by decide) rfl (Nat.le_of_ble_eq_true rfl) rfl (dk D_X12_numbers 7 rfl) (fun qx2 => ?_)
  refine r_if_eq (pc := 14) hX qx2 29 rfl (dk D_X12_numbers 8 rfl) (fun hc => ?_) (fun hc => ?_)
  · rw [if_pos hc] at h
    refine r_bipush (pc := 29) hX rfl (dk D_X12_numbers 15 rfl) ?_
    cases h
    exact r_ireturn (pc := 31) hX (R32_lit rfl) hM ⟨by decide, by decide⟩ (dk D_X12_numbers 16 rfl)
  · rw [if_neg hc] at h
    refine r_iloadn (pc := 17) hX 2 rfl (dk D_X12_numbers 9 rfl) ?_
    refine r_i2l (pc := 18) hX q_a2 (dk D_X12_numbers 10 rfl) ?_
    refine r_lconst (x := 0) (pc := 19) hX (by decide) (dk D_X12_numbers 11 rfl) ?_
    refine r_ldc2 (pc := 20) hX cn_12_274 (dk D_X12_numbers 12 rfl) ?_
    obtain ⟨x4, μ5, hx4, h⟩ := bd2_some h
    refine r_invS0 (As := [(1, a2), (1, 0), (1, 3)]) (pc := 23) hX ml_12_178 (L_M_within (R64_of q_a2) (R64_lit rfl) (R64_lit rfl) hx4) (Rm_of hRm (by decide) ⟨by decide, by decide⟩) (by decide) rfl (Nat.le_of_ble_eq_true rfl) rfl (dk D_X12_numbers 13 rfl) (fun qx4 => ?_)
    refine r_if_ne (pc := 26) hX qx4 32 rfl (dk D_X12_numbers 14 rfl) (fun hc => ?_) (fun hc => ?_)
    · rw [if_neg hc] at h
      refine r_iloadn (pc := 32) hX 3 rfl (dk D_X12_numbers 17 rfl) ?_
      refine r_i2l (pc := 33) hX q_a3 (dk D_X12_numbers 18 rfl) ?_
      refine r_lconst (x := 0) (pc := 34) hX (by decide) (dk D_X12_numbers 19 rfl) ?_
      refine r_ldc2 (pc := 35) hX cn_12_357 (dk D_X12_numbers 20 rfl) ?_
      obtain ⟨x6, μ7, hx6, h⟩ := bd2_some h
      refine r_invS0 (As := [(1, a3), (1, 0), (1, 40)]) (pc := 38) hX ml_12_178 (L_M_within (R64_of q_a3) (R64_lit rfl) (R64_lit rfl) hx6) (Rm_of hRm (by decide) ⟨by decide, by decide⟩) (by decide) rfl (Nat.le_of_ble_eq_true rfl) rfl (dk D_X12_numbers 21 rfl) (fun qx6 => ?_)
      refine r_if_ne (pc := 41) hX qx6 47 rfl (dk D_X12_numbers 22 rfl) (fun hc => ?_) (fun hc => ?_)
      · rw [if_neg hc] at h
        refine r_aloadn (pc := 47) hX 0 rfl (dk D_X12_numbers 25 rfl) ?_
        obtain ⟨x8, hx8, h⟩ := bd_some h
        refine r_getR (pc := 48) hX fl_12_102 rfl hx8 (dk D_X12_numbers 26 rfl) ?_
        refine r_iloadn (pc := 51) hX 1 rfl (dk D_X12_numbers 27 rfl) ?_
        refine r_iloadn (pc := 52) hX 2 rfl (dk D_X12_numbers 28 rfl) ?_
        obtain ⟨μ9, hμ9, h⟩ := bd_some h
        refine r_iast (pc := 53) hX q_a1 q_a2 hμ9 (dk D_X12_numbers 29 rfl) ?_
        refine r_aloadn (pc := 54) hX 0 rfl (dk D_X12_numbers 30 rfl) ?_
        obtain ⟨x10, hx10, h⟩ := bd_some h
        refine r_getR (pc := 55) hX fl_12_105 rfl hx10 (dk D_X12_numbers 31 rfl) ?_
        refine r_iloadn (pc := 58) hX 1 rfl (dk D_X12_numbers 32 rfl) ?_
        refine r_iloadn (pc := 59) hX 3 rfl (dk D_X12_numbers 33 rfl) ?_
        obtain ⟨μ11, hμ11, h⟩ := bd_some h
        refine r_iast (pc := 60) hX q_a1 q_a3 hμ11 (dk D_X12_numbers 34 rfl) ?_
        refine r_iconst (pc := 61) hX (dk D_X12_numbers 35 rfl) ?_
        refine r_istore (lv' := [(4, 0, 0), (0, 2, a0), (1, 0, a1), (2, 0, a2), (3, 0, a3)]) (pc := 62) hX (by decide) rfl (dk D_X12_numbers 36 rfl) ?_
        refine r_sub (lv' := [(0, 2, a0), (1, 0, a1), (3, 0, a3), (4, 0, 0)]) [1, 2, 4, 0] rfl ?_
        refine L_M_numbers_L64 hX hM hRm FU a0 a1 a3 0 μ11 q_a1 q_a3 (R32_lit rfl) h
      · rw [if_pos hc] at h
        refine r_bipush (pc := 44) hX rfl (dk D_X12_numbers 23 rfl) ?_
        cases h
        exact r_ireturn (pc := 46) hX (R32_lit rfl) hM ⟨by decide, by decide⟩ (dk D_X12_numbers 24 rfl)
    · rw [if_pos hc] at h
      refine r_bipush (pc := 29) hX rfl (dk D_X12_numbers 15 rfl) ?_
      cases h
      exact r_ireturn (pc := 31) hX (R32_lit rfl) hM ⟨by decide, by decide⟩ (dk D_X12_numbers 16 rfl)
set_option maxRecDepth 100000 in
set_option maxHeartbeats 4000000 in
theorem L_M_write {E : EX} {l : Launch} {a0 a1 a2 a3 res : Int} {μ μ' : Mem} (q_a1 : R32 a1) (q_a2 : R32 a2) (q_a3 : R64 a3) (h : M_write a0 a1 a2 a3 μ = some (res, μ')) : Ok E l 2 yX12_write (.code yX12_write cX12_write 5 (some .long)) 0 0 [(2, a0), (0, a1), (0, a2), (1, a3)] μ (some (1, res)) μ' := by
  refine Ok.of (own := "TollsBackModel") [(0, 2, a0), (1, 0, a1), (2, 0, a2), (3, 1, a3)] (by decide +kernel) rfl (Nat.le_of_ble_eq_true rfl) rfl ?_
  intro X hL hRm hin hX hM
  unfold M_write at h
  subst hL
  refine r_aloadn (pc := 0) hX 0 rfl (dk D_X12_write 0 rfl) ?_
  refine r_iconst (pc := 1) hX (dk D_X12_write 1 rfl) ?_
  obtain ⟨μ1, hμ1, h⟩ := bd_some h
  refine r_putI (pc := 2) hX fl_12_1 rfl rfl (R32_lit rfl) trivial hμ1 (dk D_X12_write 2 rfl) ?_
  refine r_iloadn (pc := 5) hX 1 rfl (dk D_X12_write 3 rfl) ?_
  refine r_i2l (pc := 6) hX q_a1 (dk D_X12_write 4 rfl) ?_
  refine r_lconst (x := 0) (pc := 7) hX (by decide) (dk D_X12_write 5 rfl) ?_
  refine r_ldc2 (pc := 8) hX cn_12_274 (dk D_X12_write 6 rfl) ?_
  obtain ⟨x2, μ3, hx2, h⟩ := bd2_some h
  refine r_invS0 (As := [(1, a1), (1, 0), (1, 3)]) (pc := 11) hX ml_12_178 (L_M_within (R64_of q_a1) (R64_lit rfl) (R64_lit rfl) hx2) (Rm_of hRm (by decide) ⟨by decide, by decide⟩) (by decide) rfl (Nat.le_of_ble_eq_true rfl) rfl (dk D_X12_write 7 rfl) (fun qx2 => ?_)
  refine r_if_ne (pc := 14) hX qx2 21 rfl (dk D_X12_write 8 rfl) (fun hc => ?_) (fun hc => ?_)
  · rw [if_neg hc] at h
    refine r_aloadn (pc := 21) hX 0 rfl (dk D_X12_write 11 rfl) ?_
    obtain ⟨x4, hx4, h⟩ := bd_some h
    refine r_getR (pc := 22) hX fl_12_102 rfl hx4 (dk D_X12_write 12 rfl) ?_
    refine r_iloadn (pc := 25) hX 1 rfl (dk D_X12_write 13 rfl) ?_
    obtain ⟨x5, hx5, h⟩ := bd_some h
    refine r_iald (pc := 26) hX q_a1 hx5 (dk D_X12_write 14 rfl) (fun qx5 => ?_)
    refine r_iconst (pc := 27) hX (dk D_X12_write 15 rfl) ?_
    refine r_icmp_ne (pc := 28) hX qx5 (R32_lit rfl) 35 rfl (dk D_X12_write 16 rfl) (fun hc => ?_) (fun hc => ?_)
    · rw [if_neg hc] at h
      refine r_iloadn (pc := 35) hX 2 rfl (dk D_X12_write 19 rfl) ?_
      refine r_i2l (pc := 36) hX q_a2 (dk D_X12_write 20 rfl) ?_
      refine r_lconst (x := 0) (pc := 37) hX (by decide) (dk D_X12_write 21 rfl) ?_
      refine r_aloadn (pc := 38) hX 0 rfl (dk D_X12_write 22 rfl) ?_
      obtain ⟨x6, hx6, h⟩ := bd_some h
      refine r_getR (pc := 39) hX fl_12_105 rfl hx6 (dk D_X12_write 23 rfl) ?_
      refine r_iloadn (pc := 42) hX 1 rfl (dk D_X12_write 24 rfl) ?_
      obtain ⟨x7, hx7, h⟩ := bd_some h
      refine r_iald (pc := 43) hX q_a1 hx7 (dk D_X12_write 25 rfl) (fun qx7 => ?_)
      refine r_iconst (pc := 44) hX (dk D_X12_write 26 rfl) ?_
      refine r_isub (pc := 45) hX (dk D_X12_write 27 rfl) ?_
      refine r_i2l (pc := 46) hX (R32_w _) (dk D_X12_write 28 rfl) ?_
      obtain ⟨x8, μ9, hx8, h⟩ := bd2_some h
      refine r_invS0 (As := [(1, a2), (1, 0), (1, (w32 (x7 - 1)))]) (pc := 47) hX ml_12_178 (L_M_within (R64_of q_a2) (R64_lit rfl) (R64_of (R32_w _)) hx8) (Rm_of hRm (by decide) ⟨by decide, by decide⟩) (by decide) rfl (Nat.le_of_ble_eq_true rfl) rfl (dk D_X12_write 29 rfl) (fun qx8 => ?_)
      refine r_if_ne (pc := 50) hX qx8 57 rfl (dk D_X12_write 30 rfl) (fun hc => ?_) (fun hc => ?_)
      · rw [if_neg hc] at h
        refine r_aloadn (pc := 57) hX 0 rfl (dk D_X12_write 33 rfl) ?_
        obtain ⟨x10, hx10, h⟩ := bd_some h
        refine r_getR (pc := 58) hX fl_12_108 rfl hx10 (dk D_X12_write 34 rfl) ?_
        refine r_bipush (pc := 61) hX rfl (dk D_X12_write 35 rfl) ?_
        refine r_iloadn (pc := 63) hX 1 rfl (dk D_X12_write 36 rfl) ?_
        refine r_imul (pc := 64) hX (dk D_X12_write 37 rfl) ?_
        refine r_iloadn (pc := 65) hX 2 rfl (dk D_X12_write 38 rfl) ?_
        refine r_iadd (pc := 66) hX (dk D_X12_write 39 rfl) ?_
        refine r_lloadn (pc := 67) hX 3 rfl (dk D_X12_write 40 rfl) ?_
        refine r_aloadn (pc := 68) hX 0 rfl (dk D_X12_write 41 rfl) ?_
        obtain ⟨x11, hx11, h⟩ := bd_some h
        refine r_getR (pc := 69) hX fl_12_102 rfl hx11 (dk D_X12_write 42 rfl) ?_
        refine r_iloadn (pc := 72) hX 1 rfl (dk D_X12_write 43 rfl) ?_
        obtain ⟨x12, hx12, h⟩ := bd_some h
        refine r_iald (pc := 73) hX q_a1 hx12 (dk D_X12_write 44 rfl) (fun qx12 => ?_)
        obtain ⟨x13, μ14, hx13, h⟩ := bd2_some h
        refine r_invS0 (As := [(1, a3), (0, x12)]) (pc := 74) hX ml_12_416 (L_M_cut q_a3 qx12 hx13) (Rm_of hRm (by decide) ⟨by decide, by decide⟩) (by decide) rfl (Nat.le_of_ble_eq_true rfl) rfl (dk D_X12_write 45 rfl) (fun qx13 => ?_)
        obtain ⟨μ15, hμ15, h⟩ := bd_some h
        refine r_last (pc := 77) hX (R32_w _) qx13 hμ15 (dk D_X12_write 46 rfl) ?_
        refine r_aloadn (pc := 78) hX 0 rfl (dk D_X12_write 47 rfl) ?_
        obtain ⟨x16, hx16, h⟩ := bd_some h
        refine r_getR (pc := 79) hX fl_12_108 rfl hx16 (dk D_X12_write 48 rfl) ?_
        refine r_bipush (pc := 82) hX rfl (dk D_X12_write 49 rfl) ?_
        refine r_iloadn (pc := 84) hX 1 rfl (dk D_X12_write 50 rfl) ?_
        refine r_imul (pc := 85) hX (dk D_X12_write 51 rfl) ?_
        refine r_iloadn (pc := 86) hX 2 rfl (dk D_X12_write 52 rfl) ?_
        refine r_iadd (pc := 87) hX (dk D_X12_write 53 rfl) ?_
        obtain ⟨x17, hx17, h⟩ := bd_some h
        refine r_lald (pc := 88) hX (R32_w _) hx17 (dk D_X12_write 54 rfl) (fun qx17 => ?_)
        cases h
        exact r_lreturn (pc := 89) hX qx17 hM ⟨by decide, by decide⟩ (dk D_X12_write 55 rfl)
      · rw [if_pos hc] at h
        refine r_ldc2 (pc := 53) hX cn_12_414 (dk D_X12_write 31 rfl) ?_
        cases h
        exact r_lreturn (pc := 56) hX (R64_lit rfl) hM ⟨by decide, by decide⟩ (dk D_X12_write 32 rfl)
    · rw [if_pos hc] at h
      refine r_ldc2 (pc := 31) hX cn_12_412 (dk D_X12_write 17 rfl) ?_
      cases h
      exact r_lreturn (pc := 34) hX (R64_lit rfl) hM ⟨by decide, by decide⟩ (dk D_X12_write 18 rfl)
  · rw [if_pos hc] at h
    refine r_ldc2 (pc := 17) hX cn_12_410 (dk D_X12_write 9 rfl) ?_
    cases h
    exact r_lreturn (pc := 20) hX (R64_lit rfl) hM ⟨by decide, by decide⟩ (dk D_X12_write 10 rfl)
set_option maxRecDepth 100000 in
set_option maxHeartbeats 4000000 in
theorem L_M_copy_L65 {E : EX} {X : CX} {res : Int} {μe : Mem} (hX : Good E X cX12_copy 4 "TollsBackModel") (hM : GoodM E X (some .int) (some (0, res)) μe 0 0) (hRm : cR X = rmOf 3 0 0) : ∀ (n : Nat) (v0 v1 v2 v3 : Int) (μ : Mem) (q_v1 : R32 v1) (q_v2 : R32 v2) (q_v3 : R32 v3) (h : M_copy_L65 n v0 v1 v2 v3 μ = some (res, μe)), At E X cX12_copy 4 "TollsBackModel" (0, 0) 65 [(0, 2, v0), (1, 0, v1), (2, 0, v2), (3, 0, v3)] [] μ := by
  intro n
  induction n with
  | zero =>
    intro v0 v1 v2 v3 μ q_v1 q_v2 q_v3 h
    have h : (none : Option (Int × Mem)) = some (res, μe) := h
    cases h
  | succ n ih =>
    intro v0 v1 v2 v3 μ q_v1 q_v2 q_v3 h
    rw [M_copy_L65.eq_2] at h
    refine r_iloadn (pc := 65) hX 3 rfl (dk D_X12_copy 38 rfl) ?_
    refine r_aloadn (pc := 66) hX 0 rfl (dk D_X12_copy 39 rfl) ?_
    obtain ⟨x1, hx1, h⟩ := bd_some h
    refine r_getR (pc := 67) hX fl_12_13 rfl hx1 (dk D_X12_copy 40 rfl) ?_
    refine r_sipush (pc := 70) hX rfl (dk D_X12_copy 41 rfl) ?_
    refine r_iloadn (pc := 73) hX 1 rfl (dk D_X12_copy 42 rfl) ?_
    refine r_iadd (pc := 74) hX (dk D_X12_copy 43 rfl) ?_
    obtain ⟨x2, hx2, h⟩ := bd_some h
    refine r_iald (pc := 75) hX (R32_w _) hx2 (dk D_X12_copy 44 rfl) (fun qx2 => ?_)
    refine r_icmp_ge (pc := 76) hX q_v3 qx2 111 rfl (dk D_X12_copy 45 rfl) (fun hc => ?_) (fun hc => ?_)
    · rw [if_neg hc] at h
      refine r_aloadn (pc := 111) hX 0 rfl (dk D_X12_copy 65 rfl) ?_
      obtain ⟨x3, hx3, h⟩ := bd_some h
      refine r_getR (pc := 112) hX fl_12_13 rfl hx3 (dk D_X12_copy 66 rfl) ?_
      refine r_sipush (pc := 115) hX rfl (dk D_X12_copy 67 rfl) ?_
      refine r_iloadn (pc := 118) hX 1 rfl (dk D_X12_copy 68 rfl) ?_
      refine r_iadd (pc := 119) hX (dk D_X12_copy 69 rfl) ?_
      obtain ⟨x4, hx4, h⟩ := bd_some h
      refine r_iald (pc := 120) hX (R32_w _) hx4 (dk D_X12_copy 70 rfl) (fun qx4 => ?_)
      cases h
      exact r_ireturn (pc := 121) hX qx4 hM ⟨by decide, by decide⟩ (dk D_X12_copy 71 rfl)
    · rw [if_pos hc] at h
      refine r_aloadn (pc := 79) hX 0 rfl (dk D_X12_copy 46 rfl) ?_
      obtain ⟨x5, hx5, h⟩ := bd_some h
      refine r_getR (pc := 80) hX fl_12_108 rfl hx5 (dk D_X12_copy 47 rfl) ?_
      refine r_bipush (pc := 83) hX rfl (dk D_X12_copy 48 rfl) ?_
      refine r_iloadn (pc := 85) hX 2 rfl (dk D_X12_copy 49 rfl) ?_
      refine r_imul (pc := 86) hX (dk D_X12_copy 50 rfl) ?_
      refine r_iloadn (pc := 87) hX 3 rfl (dk D_X12_copy 51 rfl) ?_
      refine r_iadd (pc := 88) hX (dk D_X12_copy 52 rfl) ?_
      refine r_aloadn (pc := 89) hX 0 rfl (dk D_X12_copy 53 rfl) ?_
      obtain ⟨x6, hx6, h⟩ := bd_some h
      refine r_getR (pc := 90) hX fl_12_13 rfl hx6 (dk D_X12_copy 54 rfl) ?_
      refine r_sipush (pc := 93) hX rfl (dk D_X12_copy 55 rfl) ?_
      refine r_iloadn (pc := 96) hX 1 rfl (dk D_X12_copy 56 rfl) ?_
      refine r_iloadn (pc := 97) hX 3 rfl (dk D_X12_copy 57 rfl) ?_
      obtain ⟨x7, μ8, hx7, h⟩ := bd2_some h
      refine r_invS0 (As := [(0, v1), (0, v3)]) (pc := 98) hX ml_12_233 (L_M_slipAt q_v1 q_v3 hx7) (Rm_of hRm (by decide) ⟨by decide, by decide⟩) (by decide) rfl (Nat.le_of_ble_eq_true rfl) rfl (dk D_X12_copy 58 rfl) (fun qx7 => ?_)
      refine r_iadd (pc := 101) hX (dk D_X12_copy 59 rfl) ?_
      obtain ⟨x9, hx9, h⟩ := bd_some h
      refine r_iald (pc := 102) hX (R32_w _) hx9 (dk D_X12_copy 60 rfl) (fun qx9 => ?_)
      refine r_i2l (pc := 103) hX qx9 (dk D_X12_copy 61 rfl) ?_
      obtain ⟨μ10, hμ10, h⟩ := bd_some h
      refine r_last (pc := 104) hX (R32_w _) (R64_of qx9) hμ10 (dk D_X12_copy 62 rfl) ?_
      refine r_iinc (lv' := [(3, 0, (w32 (v3 + 1))), (0, 2, v0), (1, 0, v1), (2, 0, v2)]) (pc := 105) hX 3 rfl (by decide) rfl (dk D_X12_copy 63 rfl) ?_
      refine r_goto (pc := 108) hX 65 rfl (dk D_X12_copy 64 rfl) ?_
      refine r_sub (lv' := [(0, 2, v0), (1, 0, v1), (2, 0, v2), (3, 0, (w32 (v3 + 1)))]) [1, 2, 3, 0] rfl ?_
      exact ih v0 v1 v2 (w32 (v3 + 1)) μ10 q_v1 q_v2 (R32_w _) h
set_option maxRecDepth 100000 in
set_option maxHeartbeats 4000000 in
theorem L_M_copy {E : EX} {l : Launch} {a0 a1 a2 res : Int} {μ μ' : Mem} (q_a1 : R32 a1) (q_a2 : R32 a2) (h : M_copy a0 a1 a2 μ = some (res, μ')) : Ok E l 3 yX12_copy (.code yX12_copy cX12_copy 4 (some .int)) 0 0 [(2, a0), (0, a1), (0, a2)] μ (some (0, res)) μ' := by
  refine Ok.of (own := "TollsBackModel") [(0, 2, a0), (1, 0, a1), (2, 0, a2)] (by decide +kernel) rfl (Nat.le_of_ble_eq_true rfl) rfl ?_
  intro X hL hRm hin hX hM
  unfold M_copy at h
  subst hL
  refine r_aloadn (pc := 0) hX 0 rfl (dk D_X12_copy 0 rfl) ?_
  refine r_iconst (pc := 1) hX (dk D_X12_copy 1 rfl) ?_
  obtain ⟨μ1, hμ1, h⟩ := bd_some h
  refine r_putI (pc := 2) hX fl_12_1 rfl rfl (R32_lit rfl) trivial hμ1 (dk D_X12_copy 2 rfl) ?_
  refine r_aloadn (pc := 5) hX 0 rfl (dk D_X12_copy 3 rfl) ?_
  refine r_iloadn (pc := 6) hX 1 rfl (dk D_X12_copy 4 rfl) ?_
  obtain ⟨_, hi, h⟩ := bd_some h
  obtain ⟨x2, μ3, hx2, h⟩ := bd2_some h
  refine r_invV0 (As := [(0, a1)]) (pc := 7) hX ml_12_230 (L_M_isOne q_a1 hx2) (isk_u hi) (Rm_of hRm (by decide) ⟨by decide, by decide⟩) (by decide) rfl (Nat.le_of_ble_eq_true rfl) rfl (dk D_X12_copy 5 rfl) (fun qx2 => ?_)
  refine r_if_eq (pc := 10) hX qx2 25 rfl (dk D_X12_copy 6 rfl) (fun hc => ?_) (fun hc => ?_)
  · rw [if_pos hc] at h
    refine r_bipush (pc := 25) hX rfl (dk D_X12_copy 13 rfl) ?_
    cases h
    exact r_ireturn (pc := 27) hX (R32_lit rfl) hM ⟨by decide, by decide⟩ (dk D_X12_copy 14 rfl)
  · rw [if_neg hc] at h
    refine r_iloadn (pc := 13) hX 2 rfl (dk D_X12_copy 7 rfl) ?_
    refine r_i2l (pc := 14) hX q_a2 (dk D_X12_copy 8 rfl) ?_
    refine r_lconst (x := 0) (pc := 15) hX (by decide) (dk D_X12_copy 9 rfl) ?_
    refine r_ldc2 (pc := 16) hX cn_12_274 (dk D_X12_copy 10 rfl) ?_
    obtain ⟨x4, μ5, hx4, h⟩ := bd2_some h
    refine r_invS0 (As := [(1, a2), (1, 0), (1, 3)]) (pc := 19) hX ml_12_178 (L_M_within (R64_of q_a2) (R64_lit rfl) (R64_lit rfl) hx4) (Rm_of hRm (by decide) ⟨by decide, by decide⟩) (by decide) rfl (Nat.le_of_ble_eq_true rfl) rfl (dk D_X12_copy 11 rfl) (fun qx4 => ?_)
    refine r_if_ne (pc := 22) hX qx4 28 rfl (dk D_X12_copy 12 rfl) (fun hc => ?_) (fun hc => ?_)
    · rw [if_neg hc] at h
      refine r_aloadn (pc := 28) hX 0 rfl (dk D_X12_copy 15 rfl) ?_
      obtain ⟨x6, hx6, h⟩ := bd_some h
      refine r_getR (pc := 29) hX fl_12_102 rfl hx6 (dk D_X12_copy 16 rfl) ?_
      refine r_iloadn (pc := 32) hX 2 rfl (dk D_X12_copy 17 rfl) ?_
      obtain ⟨x7, hx7, h⟩ := bd_some h
      refine r_iald (pc := 33) hX q_a2 hx7 (dk D_X12_copy 18 rfl) (fun qx7 => ?_)
      refine r_iconst (pc := 34) hX (dk D_X12_copy 19 rfl) ?_
      refine r_icmp_ne (pc := 35) hX qx7 (R32_lit rfl) 41 rfl (dk D_X12_copy 20 rfl) (fun hc => ?_) (fun hc => ?_)
      · rw [if_neg hc] at h
        refine r_aloadn (pc := 41) hX 0 rfl (dk D_X12_copy 23 rfl) ?_
        obtain ⟨x8, hx8, h⟩ := bd_some h
        refine r_getR (pc := 42) hX fl_12_105 rfl hx8 (dk D_X12_copy 24 rfl) ?_
        refine r_iloadn (pc := 45) hX 2 rfl (dk D_X12_copy 25 rfl) ?_
        obtain ⟨x9, hx9, h⟩ := bd_some h
        refine r_iald (pc := 46) hX q_a2 hx9 (dk D_X12_copy 26 rfl) (fun qx9 => ?_)
        refine r_aloadn (pc := 47) hX 0 rfl (dk D_X12_copy 27 rfl) ?_
        obtain ⟨x10, hx10, h⟩ := bd_some h
        refine r_getR (pc := 48) hX fl_12_13 rfl hx10 (dk D_X12_copy 28 rfl) ?_
        refine r_sipush (pc := 51) hX rfl (dk D_X12_copy 29 rfl) ?_
        refine r_iloadn (pc := 54) hX 1 rfl (dk D_X12_copy 30 rfl) ?_
        refine r_iadd (pc := 55) hX (dk D_X12_copy 31 rfl) ?_
        obtain ⟨x11, hx11, h⟩ := bd_some h
        refine r_iald (pc := 56) hX (R32_w _) hx11 (dk D_X12_copy 32 rfl) (fun qx11 => ?_)
        refine r_icmp_ge (pc := 57) hX qx9 qx11 63 rfl (dk D_X12_copy 33 rfl) (fun hc => ?_) (fun hc => ?_)
        · rw [if_neg hc] at h
          refine r_iconst (pc := 63) hX (dk D_X12_copy 36 rfl) ?_
          refine r_istoren (lv' := [(3, 0, 0), (0, 2, a0), (1, 0, a1), (2, 0, a2)]) (pc := 64) hX (by decide) rfl (dk D_X12_copy 37 rfl) ?_
          refine r_sub (lv' := [(0, 2, a0), (1, 0, a1), (2, 0, a2), (3, 0, 0)]) [1, 2, 3, 0] rfl ?_
          refine L_M_copy_L65 hX hM hRm FU a0 a1 a2 0 μ5 q_a1 q_a2 (R32_lit rfl) h
        · rw [if_pos hc] at h
          refine r_bipush (pc := 60) hX rfl (dk D_X12_copy 34 rfl) ?_
          cases h
          exact r_ireturn (pc := 62) hX (R32_lit rfl) hM ⟨by decide, by decide⟩ (dk D_X12_copy 35 rfl)
      · rw [if_pos hc] at h
        refine r_bipush (pc := 38) hX rfl (dk D_X12_copy 21 rfl) ?_
        cases h
        exact r_ireturn (pc := 40) hX (R32_lit rfl) hM ⟨by decide, by decide⟩ (dk D_X12_copy 22 rfl)
    · rw [if_pos hc] at h
      refine r_bipush (pc := 25) hX rfl (dk D_X12_copy 13 rfl) ?_
      cases h
      exact r_ireturn (pc := 27) hX (R32_lit rfl) hM ⟨by decide, by decide⟩ (dk D_X12_copy 14 rfl)
set_option maxRecDepth 100000 in
set_option maxHeartbeats 4000000 in
theorem L_M_image_L20 {E : EX} {X : CX} {res : Int} {μe : Mem} (hX : Good E X cX12_image 3 "TollsBackModel") (hM : GoodM E X (some .int) (some (0, res)) μe 0 0) (hRm : cR X = rmOf 2 0 0) {k53 : Int → Int → Mem → Option (Int × Mem)} (hk53 : ∀ (u0 u1 : Int) (μ : Mem), R32 u1 → k53 u0 u1 μ = some (res, μe) → At E X cX12_image 3 "TollsBackModel" (0, 0) 53 [(0, 2, u0), (1, 0, u1)] [] μ) : ∀ (n : Nat) (v0 v1 v2 : Int) (μ : Mem) (q_v1 : R32 v1) (q_v2 : R32 v2) (h : M_image_L20 k53 n v0 v1 v2 μ = some (res, μe)), At E X cX12_image 3 "TollsBackModel" (0, 0) 20 [(0, 2, v0), (1, 0, v1), (2, 0, v2)] [] μ := by
  intro n
  induction n with
  | zero =>
    intro v0 v1 v2 μ q_v1 q_v2 h
    have h : (none : Option (Int × Mem)) = some (res, μe) := h
    cases h
  | succ n ih =>
    intro v0 v1 v2 μ q_v1 q_v2 h
    rw [M_image_L20.eq_2] at h
    refine r_iloadn (pc := 20) hX 2 rfl (dk D_X12_image 13 rfl) ?_
    refine r_sipush (pc := 21) hX rfl (dk D_X12_image 14 rfl) ?_
    refine r_icmp_ge (pc := 24) hX q_v2 (R32_lit rfl) 53 rfl (dk D_X12_image 15 rfl) (fun hc => ?_) (fun hc => ?_)
    · rw [if_neg hc] at h
      refine r_sub (lv' := [(0, 2, v0), (1, 0, v1)]) [0, 1] rfl ?_
      exact hk53 v0 v1 μ q_v1 h
    · rw [if_pos hc] at h
      refine r_aloadn (pc := 27) hX 0 rfl (dk D_X12_image 16 rfl) ?_
      obtain ⟨x1, hx1, h⟩ := bd_some h
      refine r_getR (pc := 28) hX fl_12_13 rfl hx1 (dk D_X12_image 17 rfl) ?_
      refine r_sipush (pc := 31) hX rfl (dk D_X12_image 18 rfl) ?_
      refine r_iloadn (pc := 34) hX 1 rfl (dk D_X12_image 19 rfl) ?_
      refine r_iconst (pc := 35) hX (dk D_X12_image 20 rfl) ?_
      refine r_iadd (pc := 36) hX (dk D_X12_image 21 rfl) ?_
      refine r_imul (pc := 37) hX (dk D_X12_image 22 rfl) ?_
      refine r_iloadn (pc := 38) hX 2 rfl (dk D_X12_image 23 rfl) ?_
      refine r_iadd (pc := 39) hX (dk D_X12_image 24 rfl) ?_
      refine r_aloadn (pc := 40) hX 0 rfl (dk D_X12_image 25 rfl) ?_
      obtain ⟨x2, hx2, h⟩ := bd_some h
      refine r_getR (pc := 41) hX fl_12_13 rfl hx2 (dk D_X12_image 26 rfl) ?_
      refine r_iloadn (pc := 44) hX 2 rfl (dk D_X12_image 27 rfl) ?_
      obtain ⟨x3, hx3, h⟩ := bd_some h
      refine r_iald (pc := 45) hX q_v2 hx3 (dk D_X12_image 28 rfl) (fun qx3 => ?_)
      obtain ⟨μ4, hμ4, h⟩ := bd_some h
      refine r_iast (pc := 46) hX (R32_w _) qx3 hμ4 (dk D_X12_image 29 rfl) ?_
      refine r_iinc (lv' := [(2, 0, (w32 (v2 + 1))), (0, 2, v0), (1, 0, v1)]) (pc := 47) hX 2 rfl (by decide) rfl (dk D_X12_image 30 rfl) ?_
      refine r_goto (pc := 50) hX 20 rfl (dk D_X12_image 31 rfl) ?_
      refine r_sub (lv' := [(0, 2, v0), (1, 0, v1), (2, 0, (w32 (v2 + 1)))]) [1, 2, 0] rfl ?_
      exact ih v0 v1 (w32 (v2 + 1)) μ4 q_v1 (R32_w _) h
set_option maxRecDepth 100000 in
set_option maxHeartbeats 4000000 in
theorem L_M_image {E : EX} {l : Launch} {a0 a1 res : Int} {μ μ' : Mem} (q_a1 : R32 a1) (h : M_image a0 a1 μ = some (res, μ')) : Ok E l 2 yX12_image (.code yX12_image cX12_image 3 (some .int)) 0 0 [(2, a0), (0, a1)] μ (some (0, res)) μ' := by
  refine Ok.of (own := "TollsBackModel") [(0, 2, a0), (1, 0, a1)] (by decide +kernel) rfl (Nat.le_of_ble_eq_true rfl) rfl ?_
  intro X hL hRm hin hX hM
  unfold M_image at h
  subst hL
  refine r_aloadn (pc := 0) hX 0 rfl (dk D_X12_image 0 rfl) ?_
  refine r_iconst (pc := 1) hX (dk D_X12_image 1 rfl) ?_
  obtain ⟨μ1, hμ1, h⟩ := bd_some h
  refine r_putI (pc := 2) hX fl_12_1 rfl rfl (R32_lit rfl) trivial hμ1 (dk D_X12_image 2 rfl) ?_
  refine r_iloadn (pc := 5) hX 1 rfl (dk D_X12_image 3 rfl) ?_
  refine r_i2l (pc := 6) hX q_a1 (dk D_X12_image 4 rfl) ?_
  refine r_lconst (x := 0) (pc := 7) hX (by decide) (dk D_X12_image 5 rfl) ?_
  refine r_lconst (x := 1) (pc := 8) hX (by decide) (dk D_X12_image 6 rfl) ?_
  obtain ⟨x2, μ3, hx2, h⟩ := bd2_some h
  refine r_invS0 (As := [(1, a1), (1, 0), (1, 1)]) (pc := 9) hX ml_12_178 (L_M_within (R64_of q_a1) (R64_lit rfl) (R64_lit rfl) hx2) (Rm_of hRm (by decide) ⟨by decide, by decide⟩) (by decide) rfl (Nat.le_of_ble_eq_true rfl) rfl (dk D_X12_image 7 rfl) (fun qx2 => ?_)
  refine r_if_ne (pc := 12) hX qx2 18 rfl (dk D_X12_image 8 rfl) (fun hc => ?_) (fun hc => ?_)
  · rw [if_neg hc] at h
    refine r_iconst (pc := 18) hX (dk D_X12_image 11 rfl) ?_
    refine r_istoren (lv' := [(2, 0, 0), (0, 2, a0), (1, 0, a1)]) (pc := 19) hX (by decide) rfl (dk D_X12_image 12 rfl) ?_
    refine r_sub (lv' := [(0, 2, a0), (1, 0, a1), (2, 0, 0)]) [1, 2, 0] rfl ?_
    refine L_M_image_L20 hX hM hRm ?_ FU a0 a1 0 μ3 q_a1 (R32_lit rfl) h
    intro x4 x5 μ6 qx5 h
    refine r_aloadn (pc := 53) hX 0 rfl (dk D_X12_image 32 rfl) ?_
    obtain ⟨x7, hx7, h⟩ := bd_some h
    refine r_getR (pc := 54) hX fl_12_17 rfl hx7 (dk D_X12_image 33 rfl) ?_
    refine r_iloadn (pc := 57) hX 1 rfl (dk D_X12_image 34 rfl) ?_
    refine r_iconst (pc := 58) hX (dk D_X12_image 35 rfl) ?_
    obtain ⟨μ8, hμ8, h⟩ := bd_some h
    refine r_zast (pc := 59) hX qx5 (R32_lit rfl) (Or.inr rfl) hμ8 (dk D_X12_image 36 rfl) ?_
    refine r_iconst (pc := 60) hX (dk D_X12_image 37 rfl) ?_
    cases h
    exact r_ireturn (pc := 61) hX (R32_lit rfl) hM ⟨by decide, by decide⟩ (dk D_X12_image 38 rfl)
  · rw [if_pos hc] at h
    refine r_bipush (pc := 15) hX rfl (dk D_X12_image 9 rfl) ?_
    cases h
    exact r_ireturn (pc := 17) hX (R32_lit rfl) hM ⟨by decide, by decide⟩ (dk D_X12_image 10 rfl)
set_option maxRecDepth 100000 in
set_option maxHeartbeats 4000000 in
theorem L_M_restore_L32 {E : EX} {X : CX} {res : Int} {μe : Mem} (hX : Good E X cX12_restore 3 "TollsBackModel") (hM : GoodM E X (some .int) (some (0, res)) μe 0 0) (hRm : cR X = rmOf 2 0 0) : ∀ (n : Nat) (v0 v1 v2 : Int) (μ : Mem) (q_v1 : R32 v1) (q_v2 : R32 v2) (h : M_restore_L32 n v0 v1 v2 μ = some (res, μe)), At E X cX12_restore 3 "TollsBackModel" (0, 0) 32 [(0, 2, v0), (1, 0, v1), (2, 0, v2)] [] μ := by
  intro n
  induction n with
  | zero =>
    intro v0 v1 v2 μ q_v1 q_v2 h
    have h : (none : Option (Int × Mem)) = some (res, μe) := h
    cases h
  | succ n ih =>
    intro v0 v1 v2 μ q_v1 q_v2 h
    rw [M_restore_L32.eq_2] at h
    refine r_iloadn (pc := 32) hX 2 rfl (dk D_X12_restore 20 rfl) ?_
    refine r_sipush (pc := 33) hX rfl (dk D_X12_restore 21 rfl) ?_
    refine r_icmp_ge (pc := 36) hX q_v2 (R32_lit rfl) 65 rfl (dk D_X12_restore 22 rfl) (fun hc => ?_) (fun hc => ?_)
    · rw [if_neg hc] at h
      refine r_iconst (pc := 65) hX (dk D_X12_restore 39 rfl) ?_
      cases h
      exact r_ireturn (pc := 66) hX (R32_lit rfl) hM ⟨by decide, by decide⟩ (dk D_X12_restore 40 rfl)
    · rw [if_pos hc] at h
      refine r_aloadn (pc := 39) hX 0 rfl (dk D_X12_restore 23 rfl) ?_
      obtain ⟨x1, hx1, h⟩ := bd_some h
      refine r_getR (pc := 40) hX fl_12_13 rfl hx1 (dk D_X12_restore 24 rfl) ?_
      refine r_iloadn (pc := 43) hX 2 rfl (dk D_X12_restore 25 rfl) ?_
      refine r_aloadn (pc := 44) hX 0 rfl (dk D_X12_restore 26 rfl) ?_
      obtain ⟨x2, hx2, h⟩ := bd_some h
      refine r_getR (pc := 45) hX fl_12_13 rfl hx2 (dk D_X12_restore 27 rfl) ?_
      refine r_sipush (pc := 48) hX rfl (dk D_X12_restore 28 rfl) ?_
      refine r_iloadn (pc := 51) hX 1 rfl (dk D_X12_restore 29 rfl) ?_
      refine r_iconst (pc := 52) hX (dk D_X12_restore 30 rfl) ?_
      refine r_iadd (pc := 53) hX (dk D_X12_restore 31 rfl) ?_
      refine r_imul (pc := 54) hX (dk D_X12_restore 32 rfl) ?_
      refine r_iloadn (pc := 55) hX 2 rfl (dk D_X12_restore 33 rfl) ?_
      refine r_iadd (pc := 56) hX (dk D_X12_restore 34 rfl) ?_
      obtain ⟨x3, hx3, h⟩ := bd_some h
      refine r_iald (pc := 57) hX (R32_w _) hx3 (dk D_X12_restore 35 rfl) (fun qx3 => ?_)
      obtain ⟨μ4, hμ4, h⟩ := bd_some h
      refine r_iast (pc := 58) hX q_v2 qx3 hμ4 (dk D_X12_restore 36 rfl) ?_
      refine r_iinc (lv' := [(2, 0, (w32 (v2 + 1))), (0, 2, v0), (1, 0, v1)]) (pc := 59) hX 2 rfl (by decide) rfl (dk D_X12_restore 37 rfl) ?_
      refine r_goto (pc := 62) hX 32 rfl (dk D_X12_restore 38 rfl) ?_
      refine r_sub (lv' := [(0, 2, v0), (1, 0, v1), (2, 0, (w32 (v2 + 1)))]) [1, 2, 0] rfl ?_
      exact ih v0 v1 (w32 (v2 + 1)) μ4 q_v1 (R32_w _) h
set_option maxRecDepth 100000 in
set_option maxHeartbeats 4000000 in
theorem L_M_restore {E : EX} {l : Launch} {a0 a1 res : Int} {μ μ' : Mem} (q_a1 : R32 a1) (h : M_restore a0 a1 μ = some (res, μ')) : Ok E l 2 yX12_restore (.code yX12_restore cX12_restore 3 (some .int)) 0 0 [(2, a0), (0, a1)] μ (some (0, res)) μ' := by
  refine Ok.of (own := "TollsBackModel") [(0, 2, a0), (1, 0, a1)] (by decide +kernel) rfl (Nat.le_of_ble_eq_true rfl) rfl ?_
  intro X hL hRm hin hX hM
  unfold M_restore at h
  subst hL
  refine r_aloadn (pc := 0) hX 0 rfl (dk D_X12_restore 0 rfl) ?_
  refine r_iconst (pc := 1) hX (dk D_X12_restore 1 rfl) ?_
  obtain ⟨μ1, hμ1, h⟩ := bd_some h
  refine r_putI (pc := 2) hX fl_12_1 rfl rfl (R32_lit rfl) trivial hμ1 (dk D_X12_restore 2 rfl) ?_
  refine r_iloadn (pc := 5) hX 1 rfl (dk D_X12_restore 3 rfl) ?_
  refine r_i2l (pc := 6) hX q_a1 (dk D_X12_restore 4 rfl) ?_
  refine r_lconst (x := 0) (pc := 7) hX (by decide) (dk D_X12_restore 5 rfl) ?_
  refine r_lconst (x := 1) (pc := 8) hX (by decide) (dk D_X12_restore 6 rfl) ?_
  obtain ⟨x2, μ3, hx2, h⟩ := bd2_some h
  refine r_invS0 (As := [(1, a1), (1, 0), (1, 1)]) (pc := 9) hX ml_12_178 (L_M_within (R64_of q_a1) (R64_lit rfl) (R64_lit rfl) hx2) (Rm_of hRm (by decide) ⟨by decide, by decide⟩) (by decide) rfl (Nat.le_of_ble_eq_true rfl) rfl (dk D_X12_restore 7 rfl) (fun qx2 => ?_)
  refine r_if_ne (pc := 12) hX qx2 18 rfl (dk D_X12_restore 8 rfl) (fun hc => ?_) (fun hc => ?_)
  · rw [if_neg hc] at h
    refine r_aloadn (pc := 18) hX 0 rfl (dk D_X12_restore 11 rfl) ?_
    obtain ⟨x4, hx4, h⟩ := bd_some h
    refine r_getR (pc := 19) hX fl_12_17 rfl hx4 (dk D_X12_restore 12 rfl) ?_
    refine r_iloadn (pc := 22) hX 1 rfl (dk D_X12_restore 13 rfl) ?_
    obtain ⟨x5, hx5, h⟩ := bd_some h
    refine r_zald (pc := 23) hX q_a1 hx5 (dk D_X12_restore 14 rfl) (fun qx5 => ?_)
    refine r_if_ne (pc := 24) hX qx5 30 rfl (dk D_X12_restore 15 rfl) (fun hc => ?_) (fun hc => ?_)
    · rw [if_neg hc] at h
      refine r_iconst (pc := 30) hX (dk D_X12_restore 18 rfl) ?_
      refine r_istoren (lv' := [(2, 0, 0), (0, 2, a0), (1, 0, a1)]) (pc := 31) hX (by decide) rfl (dk D_X12_restore 19 rfl) ?_
      refine r_sub (lv' := [(0, 2, a0), (1, 0, a1), (2, 0, 0)]) [1, 2, 0] rfl ?_
      refine L_M_restore_L32 hX hM hRm FU a0 a1 0 μ3 q_a1 (R32_lit rfl) h
    · rw [if_pos hc] at h
      refine r_bipush (pc := 27) hX rfl (dk D_X12_restore 16 rfl) ?_
      cases h
      exact r_ireturn (pc := 29) hX (R32_lit rfl) hM ⟨by decide, by decide⟩ (dk D_X12_restore 17 rfl)
  · rw [if_pos hc] at h
    refine r_bipush (pc := 15) hX rfl (dk D_X12_restore 9 rfl) ?_
    cases h
    exact r_ireturn (pc := 17) hX (R32_lit rfl) hM ⟨by decide, by decide⟩ (dk D_X12_restore 10 rfl)
set_option maxRecDepth 100000 in
set_option maxHeartbeats 4000000 in
theorem L_M_count_L9 {E : EX} {X : CX} {res : Int} {μe : Mem} (hX : Good E X cX12_count 4 "TollsBackModel") (hM : GoodM E X (some .int) (some (0, res)) μe 0 0) (hRm : cR X = rmOf 1 0 0) {k39 : Int → Int → Int → Mem → Option (Int × Mem)} (hk39 : ∀ (u0 u1 u2 : Int) (μ : Mem), R32 u1 → R32 u2 → k39 u0 u1 u2 μ = some (res, μe) → At E X cX12_count 4 "TollsBackModel" (0, 0) 39 [(0, 2, u0), (1, 0, u1), (2, 0, u2)] [] μ) : ∀ (n : Nat) (v0 v1 v2 v3 : Int) (μ : Mem) (q_v1 : R32 v1) (q_v2 : R32 v2) (q_v3 : R32 v3) (h : M_count_L9 k39 n v0 v1 v2 v3 μ = some (res, μe)), At E X cX12_count 4 "TollsBackModel" (0, 0) 9 [(0, 2, v0), (1, 0, v1), (2, 0, v2), (3, 0, v3)] [] μ := by
  intro n
  induction n with
  | zero =>
    intro v0 v1 v2 v3 μ q_v1 q_v2 q_v3 h
    have h : (none : Option (Int × Mem)) = some (res, μe) := h
    cases h
  | succ n ih =>
    intro v0 v1 v2 v3 μ q_v1 q_v2 q_v3 h
    rw [M_count_L9.eq_2] at h
    refine r_iloadn (pc := 9) hX 3 rfl (dk D_X12_count 7 rfl) ?_
    refine r_aloadn (pc := 10) hX 0 rfl (dk D_X12_count 8 rfl) ?_
    obtain ⟨x1, hx1, h⟩ := bd_some h
    refine r_getR (pc := 11) hX fl_12_13 rfl hx1 (dk D_X12_count 9 rfl) ?_
    refine r_bipush (pc := 14) hX rfl (dk D_X12_count 10 rfl) ?_
    obtain ⟨x2, hx2, h⟩ := bd_some h
    refine r_iald (pc := 16) hX (R32_lit rfl) hx2 (dk D_X12_count 11 rfl) (fun qx2 => ?_)
    refine r_icmp_ge (pc := 17) hX q_v3 qx2 39 rfl (dk D_X12_count 12 rfl) (fun hc => ?_) (fun hc => ?_)
    · rw [if_neg hc] at h
      refine r_sub (lv' := [(0, 2, v0), (1, 0, v1), (2, 0, v2)]) [0, 1, 2] rfl ?_
      exact hk39 v0 v1 v2 μ q_v1 q_v2 h
    · rw [if_pos hc] at h
      refine r_iloadn (pc := 20) hX 2 rfl (dk D_X12_count 13 rfl) ?_
      refine r_aloadn (pc := 21) hX 0 rfl (dk D_X12_count 14 rfl) ?_
      obtain ⟨x3, hx3, h⟩ := bd_some h
      refine r_getR (pc := 22) hX fl_12_13 rfl hx3 (dk D_X12_count 15 rfl) ?_
      refine r_sipush (pc := 25) hX rfl (dk D_X12_count 16 rfl) ?_
      refine r_iloadn (pc := 28) hX 3 rfl (dk D_X12_count 17 rfl) ?_
      refine r_iadd (pc := 29) hX (dk D_X12_count 18 rfl) ?_
      obtain ⟨x4, hx4, h⟩ := bd_some h
      refine r_iald (pc := 30) hX (R32_w _) hx4 (dk D_X12_count 19 rfl) (fun qx4 => ?_)
      refine r_iadd (pc := 31) hX (dk D_X12_count 20 rfl) ?_
      obtain ⟨x5, ex5, h⟩ := bd_some h
      replace ex5 := Option.some.inj ex5
      have qx5 : R32 x5 := ex5 ▸ (R32_w _)
      rw [ex5]
      refine r_istoren (lv' := [(2, 0, x5), (0, 2, v0), (1, 0, v1), (3, 0, v3)]) (pc := 32) hX (by decide) rfl (dk D_X12_count 21 rfl) ?_
      refine r_iinc (lv' := [(3, 0, (w32 (v3 + 1))), (2, 0, x5), (0, 2, v0), (1, 0, v1)]) (pc := 33) hX 3 rfl (by decide) rfl (dk D_X12_count 22 rfl) ?_
      refine r_goto (pc := 36) hX 9 rfl (dk D_X12_count 23 rfl) ?_
      refine r_sub (lv' := [(0, 2, v0), (1, 0, v1), (2, 0, x5), (3, 0, (w32 (v3 + 1)))]) [2, 3, 1, 0] rfl ?_
      exact ih v0 v1 x5 (w32 (v3 + 1)) μ q_v1 qx5 (R32_w _) h
set_option maxRecDepth 100000 in
set_option maxHeartbeats 4000000 in
theorem L_M_count {E : EX} {l : Launch} {a0 a1 res : Int} {μ μ' : Mem} (q_a1 : R32 a1) (h : M_count a0 a1 μ = some (res, μ')) : Ok E l 1 yX12_count (.code yX12_count cX12_count 4 (some .int)) 0 0 [(2, a0), (0, a1)] μ (some (0, res)) μ' := by
  refine Ok.of (own := "TollsBackModel") [(0, 2, a0), (1, 0, a1)] (by decide +kernel) rfl (Nat.le_of_ble_eq_true rfl) rfl ?_
  intro X hL hRm hin hX hM
  unfold M_count at h
  subst hL
  refine r_aloadn (pc := 0) hX 0 rfl (dk D_X12_count 0 rfl) ?_
  refine r_iconst (pc := 1) hX (dk D_X12_count 1 rfl) ?_
  obtain ⟨μ1, hμ1, h⟩ := bd_some h
  refine r_putI (pc := 2) hX fl_12_1 rfl rfl (R32_lit rfl) trivial hμ1 (dk D_X12_count 2 rfl) ?_
  refine r_iconst (pc := 5) hX (dk D_X12_count 3 rfl) ?_
  refine r_istoren (lv' := [(2, 0, 0), (0, 2, a0), (1, 0, a1)]) (pc := 6) hX (by decide) rfl (dk D_X12_count 4 rfl) ?_
  refine r_iconst (pc := 7) hX (dk D_X12_count 5 rfl) ?_
  refine r_istoren (lv' := [(3, 0, 0), (2, 0, 0), (0, 2, a0), (1, 0, a1)]) (pc := 8) hX (by decide) rfl (dk D_X12_count 6 rfl) ?_
  refine r_sub (lv' := [(0, 2, a0), (1, 0, a1), (2, 0, 0), (3, 0, 0)]) [2, 3, 1, 0] rfl ?_
  refine L_M_count_L9 hX hM hRm ?_ FU a0 a1 0 0 μ1 q_a1 (R32_lit rfl) (R32_lit rfl) h
  intro x2 x3 x4 μ5 qx3 qx4 h
  refine r_iloadn (pc := 39) hX 1 rfl (dk D_X12_count 24 rfl) ?_
  by_cases hc0 : x3 = 0
  · rw [if_pos hc0] at h
    refine r_table (pc := 40) hX (by rw [hc0]; exact R32_lit rfl) 92 (dk D_X12_count 25 rfl) (by omega) (by omega) (by rw [hc0]; rfl) rfl ?_
    refine r_aloadn (pc := 92) hX 0 rfl (dk D_X12_count 26 rfl) ?_
    obtain ⟨x6, hx6, h⟩ := bd_some h
    refine r_getR (pc := 93) hX fl_12_13 rfl hx6 (dk D_X12_count 27 rfl) ?_
    refine r_iconst (pc := 96) hX (dk D_X12_count 28 rfl) ?_
    obtain ⟨x7, hx7, h⟩ := bd_some h
    refine r_iald (pc := 97) hX (R32_lit rfl) hx7 (dk D_X12_count 29 rfl) (fun qx7 => ?_)
    cases h
    exact r_ireturn (pc := 98) hX qx7 hM ⟨by decide, by decide⟩ (dk D_X12_count 30 rfl)
  · rw [if_neg hc0] at h
    by_cases hc1 : x3 = 1
    · rw [if_pos hc1] at h
      refine r_table (pc := 40) hX (by rw [hc1]; exact R32_lit rfl) 99 (dk D_X12_count 25 rfl) (by omega) (by omega) (by rw [hc1]; rfl) rfl ?_
      refine r_aloadn (pc := 99) hX 0 rfl (dk D_X12_count 31 rfl) ?_
      obtain ⟨x8, hx8, h⟩ := bd_some h
      refine r_getR (pc := 100) hX fl_12_13 rfl hx8 (dk D_X12_count 32 rfl) ?_
      refine r_bipush (pc := 103) hX rfl (dk D_X12_count 33 rfl) ?_
      obtain ⟨x9, hx9, h⟩ := bd_some h
      refine r_iald (pc := 105) hX (R32_lit rfl) hx9 (dk D_X12_count 34 rfl) (fun qx9 => ?_)
      cases h
      exact r_ireturn (pc := 106) hX qx9 hM ⟨by decide, by decide⟩ (dk D_X12_count 35 rfl)
    · rw [if_neg hc1] at h
      by_cases hc2 : x3 = 2
      · rw [if_pos hc2] at h
        refine r_table (pc := 40) hX (by rw [hc2]; exact R32_lit rfl) 107 (dk D_X12_count 25 rfl) (by omega) (by omega) (by rw [hc2]; rfl) rfl ?_
        refine r_aloadn (pc := 107) hX 0 rfl (dk D_X12_count 36 rfl) ?_
        obtain ⟨x10, hx10, h⟩ := bd_some h
        refine r_getR (pc := 108) hX fl_12_13 rfl hx10 (dk D_X12_count 37 rfl) ?_
        refine r_sipush (pc := 111) hX rfl (dk D_X12_count 38 rfl) ?_
        obtain ⟨x11, hx11, h⟩ := bd_some h
        refine r_iald (pc := 114) hX (R32_lit rfl) hx11 (dk D_X12_count 39 rfl) (fun qx11 => ?_)
        cases h
        exact r_ireturn (pc := 115) hX qx11 hM ⟨by decide, by decide⟩ (dk D_X12_count 40 rfl)
      · rw [if_neg hc2] at h
        by_cases hc3 : x3 = 3
        · rw [if_pos hc3] at h
          refine r_table (pc := 40) hX (by rw [hc3]; exact R32_lit rfl) 116 (dk D_X12_count 25 rfl) (by omega) (by omega) (by rw [hc3]; rfl) rfl ?_
          refine r_aloadn (pc := 116) hX 0 rfl (dk D_X12_count 41 rfl) ?_
          obtain ⟨x12, hx12, h⟩ := bd_some h
          refine r_getR (pc := 117) hX fl_12_13 rfl hx12 (dk D_X12_count 42 rfl) ?_
          refine r_iconst (pc := 120) hX (dk D_X12_count 43 rfl) ?_
          obtain ⟨x13, hx13, h⟩ := bd_some h
          refine r_iald (pc := 121) hX (R32_lit rfl) hx13 (dk D_X12_count 44 rfl) (fun qx13 => ?_)
          refine r_if_ne (pc := 122) hX qx13 129 rfl (dk D_X12_count 45 rfl) (fun hc => ?_) (fun hc => ?_)
          · rw [if_neg hc] at h
            refine r_aloadn (pc := 129) hX 0 rfl (dk D_X12_count 48 rfl) ?_
            obtain ⟨x14, hx14, h⟩ := bd_some h
            refine r_getR (pc := 130) hX fl_12_13 rfl hx14 (dk D_X12_count 49 rfl) ?_
            refine r_iconst (pc := 133) hX (dk D_X12_count 50 rfl) ?_
            obtain ⟨x15, hx15, h⟩ := bd_some h
            refine r_iald (pc := 134) hX (R32_lit rfl) hx15 (dk D_X12_count 51 rfl) (fun qx15 => ?_)
            cases h
            exact r_ireturn (pc := 135) hX qx15 hM ⟨by decide, by decide⟩ (dk D_X12_count 52 rfl)
          · rw [if_pos hc] at h
            refine r_iconst (pc := 125) hX (dk D_X12_count 46 rfl) ?_
            refine r_goto (pc := 126) hX 135 rfl (dk D_X12_count 47 rfl) ?_
            cases h
            exact r_ireturn (pc := 135) hX (R32_lit rfl) hM ⟨by decide, by decide⟩ (dk D_X12_count 52 rfl)
        · rw [if_neg hc3] at h
          by_cases hc4 : x3 = 4
          · rw [if_pos hc4] at h
            refine r_table (pc := 40) hX (by rw [hc4]; exact R32_lit rfl) 136 (dk D_X12_count 25 rfl) (by omega) (by omega) (by rw [hc4]; rfl) rfl ?_
            refine r_aloadn (pc := 136) hX 0 rfl (dk D_X12_count 53 rfl) ?_
            obtain ⟨x16, hx16, h⟩ := bd_some h
            refine r_getR (pc := 137) hX fl_12_13 rfl hx16 (dk D_X12_count 54 rfl) ?_
            refine r_iconst (pc := 140) hX (dk D_X12_count 55 rfl) ?_
            obtain ⟨x17, hx17, h⟩ := bd_some h
            refine r_iald (pc := 141) hX (R32_lit rfl) hx17 (dk D_X12_count 56 rfl) (fun qx17 => ?_)
            cases h
            exact r_ireturn (pc := 142) hX qx17 hM ⟨by decide, by decide⟩ (dk D_X12_count 57 rfl)
          · rw [if_neg hc4] at h
            by_cases hc5 : x3 = 5
            · rw [if_pos hc5] at h
              refine r_table (pc := 40) hX (by rw [hc5]; exact R32_lit rfl) 143 (dk D_X12_count 25 rfl) (by omega) (by omega) (by rw [hc5]; rfl) rfl ?_
              refine r_aloadn (pc := 143) hX 0 rfl (dk D_X12_count 58 rfl) ?_
              obtain ⟨x18, hx18, h⟩ := bd_some h
              refine r_getR (pc := 144) hX fl_12_13 rfl hx18 (dk D_X12_count 59 rfl) ?_
              refine r_iconst (pc := 147) hX (dk D_X12_count 60 rfl) ?_
              obtain ⟨x19, hx19, h⟩ := bd_some h
              refine r_iald (pc := 148) hX (R32_lit rfl) hx19 (dk D_X12_count 61 rfl) (fun qx19 => ?_)
              cases h
              exact r_ireturn (pc := 149) hX qx19 hM ⟨by decide, by decide⟩ (dk D_X12_count 62 rfl)
            · rw [if_neg hc5] at h
              by_cases hc6 : x3 = 6
              · rw [if_pos hc6] at h
                refine r_table (pc := 40) hX (by rw [hc6]; exact R32_lit rfl) 150 (dk D_X12_count 25 rfl) (by omega) (by omega) (by rw [hc6]; rfl) rfl ?_
                refine r_iloadn (pc := 150) hX 2 rfl (dk D_X12_count 63 rfl) ?_
                cases h
                exact r_ireturn (pc := 151) hX qx4 hM ⟨by decide, by decide⟩ (dk D_X12_count 64 rfl)
              · rw [if_neg hc6] at h
                by_cases hc7 : x3 = 7
                · rw [if_pos hc7] at h
                  refine r_table (pc := 40) hX (by rw [hc7]; exact R32_lit rfl) 152 (dk D_X12_count 25 rfl) (by omega) (by omega) (by rw [hc7]; rfl) rfl ?_
                  refine r_aloadn (pc := 152) hX 0 rfl (dk D_X12_count 65 rfl) ?_
                  obtain ⟨x20, hx20, h⟩ := bd_some h
                  refine r_getI (pc := 153) hX fl_12_115 rfl rfl hx20 (dk D_X12_count 66 rfl) (fun qx20 => ?_)
                  cases h
                  exact r_ireturn (pc := 156) hX qx20 hM ⟨by decide, by decide⟩ (dk D_X12_count 67 rfl)
                · rw [if_neg hc7] at h
                  by_cases hc8 : x3 = 8
                  · rw [if_pos hc8] at h
                    refine r_table (pc := 40) hX (by rw [hc8]; exact R32_lit rfl) 157 (dk D_X12_count 25 rfl) (by omega) (by omega) (by rw [hc8]; rfl) rfl ?_
                    refine r_aloadn (pc := 157) hX 0 rfl (dk D_X12_count 68 rfl) ?_
                    obtain ⟨x21, hx21, h⟩ := bd_some h
                    refine r_getR (pc := 158) hX fl_12_13 rfl hx21 (dk D_X12_count 69 rfl) ?_
                    refine r_bipush (pc := 161) hX rfl (dk D_X12_count 70 rfl) ?_
                    obtain ⟨x22, hx22, h⟩ := bd_some h
                    refine r_iald (pc := 163) hX (R32_lit rfl) hx22 (dk D_X12_count 71 rfl) (fun qx22 => ?_)
                    cases h
                    exact r_ireturn (pc := 164) hX qx22 hM ⟨by decide, by decide⟩ (dk D_X12_count 72 rfl)
                  · rw [if_neg hc8] at h
                    refine r_tableD (pc := 40) hX qx3 165 (dk D_X12_count 25 rfl) (by omega) rfl ?_
                    refine r_iconst (pc := 165) hX (dk D_X12_count 73 rfl) ?_
                    cases h
                    exact r_ireturn (pc := 166) hX (R32_lit rfl) hM ⟨by decide, by decide⟩ (dk D_X12_count 74 rfl)
