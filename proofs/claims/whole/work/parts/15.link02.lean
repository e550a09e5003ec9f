/-! THE MACHINE DOES AS THE FUNCTIONS SAY, part 2 -/
set_option maxRecDepth 100000 in
set_option maxHeartbeats 4000000 in
theorem L_Tp_init {E : EX} {l : Launch} {a0 res : Int} {μ μ' : Mem}  (h : Tp_init a0 μ = some (res, μ')) : Ok E l 2 yX8_init (.code yX8_init cX8_init 1 none) 6 211 [(2, a0)] μ none μ' := by
  refine Ok.of (own := "TollsBack$Trip") [(0, 2, a0)] (by decide +kernel) rfl (Nat.le_of_ble_eq_true rfl) rfl ?_
  intro X hL hRm hin hX hM
  unfold Tp_init at h
  subst hL
  refine r_aloadn (pc := 0) (cs := (0, 0)) hX 0 rfl (dk D_X8_init 0 rfl) ?_
  obtain ⟨_, hi, h⟩ := bd_some h
  refine r_objI (pc := 1) (cs := (0, 0)) hX (isk_nn hi (by decide)) ml_8_3 (Rm_of hRm (by decide) ⟨by (try dsimp only); omega, by (try dsimp only); omega⟩) (Nat.le_of_ble_eq_true rfl) (dk D_X8_init 1 rfl) ?_
  refine r_aloadn (pc := 4) (cs := (0, 0)) hX 0 rfl (dk D_X8_init 2 rfl) ?_
  refine r_new (pc := 5) (cs := (0, 0)) hX nw_8_9 (by rw [hRm]; exact ⟨by (show _ ≤ (rmOf _ _ _).cells); (simp only [rmOf]); omega, by (show _ ≤ (rmOf _ _ _).slots); (simp only [rmOf]); omega⟩) (dk D_X8_init 3 rfl) ?_
  refine r_dup (pc := 8) (cs := (1, 9)) hX rfl (dk D_X8_init 4 rfl) ?_
  obtain ⟨x1, μ2, hx1, h⟩ := bd2_some h
  refine r_invIN (As := []) (pc := 9) (cs := (1, 9)) hX ml_8_11 (L_Tr_init hx1) nlen_nn (Rm_of hRm (by decide) ⟨by (try dsimp only); omega, by (try dsimp only); omega⟩) (by decide) rfl (Nat.le_of_ble_eq_true rfl) rfl (dk D_X8_init 5 rfl) ?_
  obtain ⟨μ3, hμ3, h⟩ := bd_some h
  refine r_putF (pc := 12) (cs := (4, 129)) hX fl_8_12 (hin rfl) ⟨_, _, _, rfl, rfl⟩ rfl rfl trivial hμ3 (dk D_X8_init 6 rfl) ?_
  refine r_aloadn (pc := 15) (cs := (4, 129)) hX 0 rfl (dk D_X8_init 7 rfl) ?_
  refine r_bipush (pc := 16) (cs := (4, 129)) hX rfl (dk D_X8_init 8 rfl) ?_
  refine r_newI (N := 41) (pc := 18) (cs := (4, 129)) hX ac_int (by decide) (by rw [hRm]; exact ⟨by (show _ ≤ (rmOf _ _ _).cells); (simp only [rmOf]); omega, by (show _ ≤ (rmOf _ _ _).slots); (simp only [rmOf]); omega⟩) (dk D_X8_init 9 rfl) ?_
  obtain ⟨μ4, hμ4, h⟩ := bd_some h
  refine r_putF (pc := 20) (cs := (5, 170)) hX fl_8_18 (hin rfl) ⟨_, _, _, rfl, rfl⟩ rfl rfl trivial hμ4 (dk D_X8_init 10 rfl) ?_
  refine r_aloadn (pc := 23) (cs := (5, 170)) hX 0 rfl (dk D_X8_init 11 rfl) ?_
  refine r_bipush (pc := 24) (cs := (5, 170)) hX rfl (dk D_X8_init 12 rfl) ?_
  refine r_newI (N := 41) (pc := 26) (cs := (5, 170)) hX ac_int (by decide) (by rw [hRm]; exact ⟨by (show _ ≤ (rmOf _ _ _).cells); (simp only [rmOf]); omega, by (show _ ≤ (rmOf _ _ _).slots); (simp only [rmOf]); omega⟩) (dk D_X8_init 13 rfl) ?_
  obtain ⟨μ5, hμ5, h⟩ := bd_some h
  refine r_putF (pc := 28) (cs := (6, 211)) hX fl_8_22 (hin rfl) ⟨_, _, _, rfl, rfl⟩ rfl rfl trivial hμ5 (dk D_X8_init 14 rfl) ?_
  cases h
  exact r_return (pc := 31) hX hM ⟨by (try dsimp only); omega, by (try dsimp only); omega⟩ (dk D_X8_init 15 rfl)
set_option maxRecDepth 100000 in
set_option maxHeartbeats 4000000 in
theorem L_Tp_arrive {E : EX} {l : Launch} {a0 res : Int} {μ μ' : Mem}  (h : Tp_arrive a0 μ = some (res, μ')) : Ok E l 2 yX8_arrive (.code yX8_arrive cX8_arrive 1 none) 0 0 [(2, a0)] μ none μ' := by
  refine Ok.of (own := "TollsBack$Trip") [(0, 2, a0)] (by decide +kernel) rfl (Nat.le_of_ble_eq_true rfl) rfl ?_
  intro X hL hRm hin hX hM
  unfold Tp_arrive at h
  subst hL
  refine r_aloadn (pc := 0) hX 0 rfl (dk D_X8_arrive 0 rfl) ?_
  refine r_dup (pc := 1) hX rfl (dk D_X8_arrive 1 rfl) ?_
  obtain ⟨x1, hx1, h⟩ := bd_some h
  refine r_getI (pc := 2) hX fl_8_36 rfl rfl hx1 (dk D_X8_arrive 2 rfl) (fun qx1 => ?_)
  refine r_iconst (pc := 5) hX (dk D_X8_arrive 3 rfl) ?_
  refine r_iadd (pc := 6) hX (dk D_X8_arrive 4 rfl) ?_
  obtain ⟨μ2, hμ2, h⟩ := bd_some h
  refine r_putI (pc := 7) hX fl_8_36 rfl rfl (R32_w _) trivial hμ2 (dk D_X8_arrive 5 rfl) ?_
  refine r_aloadn (pc := 10) hX 0 rfl (dk D_X8_arrive 6 rfl) ?_
  obtain ⟨x3, hx3, h⟩ := bd_some h
  refine r_getR (pc := 11) hX fl_8_18 rfl hx3 (dk D_X8_arrive 7 rfl) ?_
  refine r_aloadn (pc := 14) hX 0 rfl (dk D_X8_arrive 8 rfl) ?_
  obtain ⟨x4, hx4, h⟩ := bd_some h
  refine r_getI (pc := 15) hX fl_8_36 rfl rfl hx4 (dk D_X8_arrive 9 rfl) (fun qx4 => ?_)
  refine r_aloadn (pc := 18) hX 0 rfl (dk D_X8_arrive 10 rfl) ?_
  obtain ⟨x5, hx5, h⟩ := bd_some h
  refine r_getR (pc := 19) hX fl_8_12 rfl hx5 (dk D_X8_arrive 11 rfl) ?_
  obtain ⟨x6, hx6, h⟩ := bd_some h
  refine r_getI (pc := 22) hX fl_8_42 rfl rfl hx6 (dk D_X8_arrive 12 rfl) (fun qx6 => ?_)
  obtain ⟨μ7, hμ7, h⟩ := bd_some h
  refine r_iast (pc := 25) hX qx4 qx6 hμ7 (dk D_X8_arrive 13 rfl) ?_
  refine r_aloadn (pc := 26) hX 0 rfl (dk D_X8_arrive 14 rfl) ?_
  obtain ⟨x8, hx8, h⟩ := bd_some h
  refine r_getR (pc := 27) hX fl_8_22 rfl hx8 (dk D_X8_arrive 15 rfl) ?_
  refine r_aloadn (pc := 30) hX 0 rfl (dk D_X8_arrive 16 rfl) ?_
  obtain ⟨x9, hx9, h⟩ := bd_some h
  refine r_getI (pc := 31) hX fl_8_36 rfl rfl hx9 (dk D_X8_arrive 17 rfl) (fun qx9 => ?_)
  refine r_aloadn (pc := 34) hX 0 rfl (dk D_X8_arrive 18 rfl) ?_
  obtain ⟨x10, hx10, h⟩ := bd_some h
  refine r_getR (pc := 35) hX fl_8_12 rfl hx10 (dk D_X8_arrive 19 rfl) ?_
  obtain ⟨x11, hx11, h⟩ := bd_some h
  refine r_getI (pc := 38) hX fl_8_44 rfl rfl hx11 (dk D_X8_arrive 20 rfl) (fun qx11 => ?_)
  obtain ⟨μ12, hμ12, h⟩ := bd_some h
  refine r_iast (pc := 41) hX qx9 qx11 hμ12 (dk D_X8_arrive 21 rfl) ?_
  refine r_aloadn (pc := 42) hX 0 rfl (dk D_X8_arrive 22 rfl) ?_
  refine r_aloadn (pc := 43) hX 0 rfl (dk D_X8_arrive 23 rfl) ?_
  obtain ⟨x13, hx13, h⟩ := bd_some h
  refine r_getI (pc := 44) hX fl_8_33 rfl rfl hx13 (dk D_X8_arrive 24 rfl) (fun qx13 => ?_)
  refine r_aloadn (pc := 47) hX 0 rfl (dk D_X8_arrive 25 rfl) ?_
  obtain ⟨x14, hx14, h⟩ := bd_some h
  refine r_getR (pc := 48) hX fl_8_12 rfl hx14 (dk D_X8_arrive 26 rfl) ?_
  obtain ⟨x15, hx15, h⟩ := bd_some h
  refine r_getI (pc := 51) hX fl_8_29 rfl rfl hx15 (dk D_X8_arrive 27 rfl) (fun qx15 => ?_)
  obtain ⟨x16, μ17, hx16, h⟩ := bd2_some h
  refine r_invS0 (As := [(0, x13), (0, x15)]) (pc := 54) hX ml_8_64 (L_J_min qx13 qx15 hx16) (Rm_of hRm (by decide) ⟨by decide, by decide⟩) (by decide) rfl (Nat.le_of_ble_eq_true rfl) rfl (dk D_X8_arrive 28 rfl) (fun qx16 => ?_)
  obtain ⟨μ18, hμ18, h⟩ := bd_some h
  refine r_putI (pc := 57) hX fl_8_33 rfl rfl qx16 trivial hμ18 (dk D_X8_arrive 29 rfl) ?_
  cases h
  exact r_return (pc := 60) hX hM ⟨by decide, by decide⟩ (dk D_X8_arrive 30 rfl)
set_option maxRecDepth 100000 in
set_option maxHeartbeats 4000000 in
theorem L_Tp_follow_L56 {E : EX} {X : CX} {res : Int} {μe : Mem} (hX : Good E X cX8_follow 7 "TollsBack$Trip") (hM : GoodM E X none none μe 0 0) (hRm : cR X = rmOf 6 0 0) : ∀ (n : Nat) (v0 v1 v3 v5 : Int) (μ : Mem) (q_v5 : R32 v5) (h : Tp_follow_L56 n v0 v1 v3 v5 μ = some (res, μe)), At E X cX8_follow 7 "TollsBack$Trip" (0, 0) 56 [(0, 2, v0), (1, 2, v1), (3, 2, v3), (5, 0, v5)] [] μ := by
  intro n
  induction n with
  | zero =>
    intro v0 v1 v3 v5 μ q_v5 h
    have h : (none : Option (Int × Mem)) = some (res, μe) := h
    cases h
  | succ n ih =>
    intro v0 v1 v3 v5 μ q_v5 h
    rw [Tp_follow_L56.eq_2] at h
    refine r_iload (pc := 56) hX 3 rfl (dk D_X8_follow 31 rfl) ?_
    refine r_aloadn (pc := 58) hX 2 rfl (dk D_X8_follow 32 rfl) ?_
    obtain ⟨x1, hx1, h⟩ := bd_some h
    refine r_getI (pc := 59) hX fl_8_46 rfl rfl hx1 (dk D_X8_follow 33 rfl) (fun qx1 => ?_)
    refine r_icmp_ge (pc := 62) hX q_v5 qx1 112 rfl (dk D_X8_follow 34 rfl) (fun hc => ?_) (fun hc => ?_)
    · rw [if_neg hc] at h
      cases h
      exact r_return (pc := 112) hX hM ⟨by decide, by decide⟩ (dk D_X8_follow 56 rfl)
    · rw [if_pos hc] at h
      refine r_aloadn (pc := 65) hX 0 rfl (dk D_X8_follow 35 rfl) ?_
      obtain ⟨x2, hx2, h⟩ := bd_some h
      refine r_getI (pc := 66) hX fl_8_39 rfl rfl hx2 (dk D_X8_follow 36 rfl) (fun qx2 => ?_)
      refine r_if_ne (pc := 69) hX qx2 112 rfl (dk D_X8_follow 37 rfl) (fun hc => ?_) (fun hc => ?_)
      · rw [if_neg hc] at h
        cases h
        exact r_return (pc := 112) hX hM ⟨by decide, by decide⟩ (dk D_X8_follow 56 rfl)
      · rw [if_pos hc] at h
        refine r_aloadn (pc := 72) hX 1 rfl (dk D_X8_follow 38 rfl) ?_
        refine r_aloadn (pc := 73) hX 0 rfl (dk D_X8_follow 39 rfl) ?_
        obtain ⟨x3, hx3, h⟩ := bd_some h
        refine r_getR (pc := 74) hX fl_8_12 rfl hx3 (dk D_X8_follow 40 rfl) ?_
        refine r_aloadn (pc := 77) hX 2 rfl (dk D_X8_follow 41 rfl) ?_
        refine r_iload (pc := 78) hX 3 rfl (dk D_X8_follow 42 rfl) ?_
        obtain ⟨_, hi, h⟩ := bd_some h
        obtain ⟨x4, μ5, hx4, h⟩ := bd2_some h
        refine r_invV0 (As := [(0, v5)]) (pc := 80) hX ml_8_51 (L_Nu_smallAt q_v5 hx4) (isk_u hi) (Rm_of hRm (by decide) ⟨by decide, by decide⟩) (by decide) rfl (Nat.le_of_ble_eq_true rfl) rfl (dk D_X8_follow 43 rfl) (fun qx4 => ?_)
        obtain ⟨_, hi, h⟩ := bd_some h
        obtain ⟨x6, μ7, hx6, h⟩ := bd2_some h
        refine r_invV0 (As := [(2, x3), (0, x4)]) (pc := 83) hX ml_8_55 (L_Wo_step qx4 hx6) (isk_u hi) (Rm_of hRm (by decide) ⟨by decide, by decide⟩) (by decide) rfl (Nat.le_of_ble_eq_true rfl) rfl (dk D_X8_follow 44 rfl) (fun qx6 => ?_)
        refine r_istore (lv' := [(6, 0, x6), (0, 2, v0), (1, 2, v1), (3, 2, v3), (5, 0, v5)]) (pc := 86) hX (by decide) rfl (dk D_X8_follow 45 rfl) ?_
        refine r_iload (pc := 88) hX 0 rfl (dk D_X8_follow 46 rfl) ?_
        refine r_if_ge (pc := 90) hX qx6 102 rfl (dk D_X8_follow 47 rfl) (fun hc => ?_) (fun hc => ?_)
        · rw [if_neg hc] at h
          refine r_aloadn (pc := 102) hX 1 rfl (dk D_X8_follow 52 rfl) ?_
          obtain ⟨_, hi, h⟩ := bd_some h
          obtain ⟨x8, μ9, hx8, h⟩ := bd2_some h
          refine r_invV0 (As := []) (pc := 103) hX ml_8_61 (L_Tp_arrive hx8) (isk_u hi) (Rm_of hRm (by decide) ⟨by decide, by decide⟩) (by decide) rfl (Nat.le_of_ble_eq_true rfl) rfl (dk D_X8_follow 53 rfl) (fun _ => ?_)
          refine r_iinc (lv' := [(5, 0, (w32 (v5 + 1))), (6, 0, x6), (0, 2, v0), (1, 2, v1), (3, 2, v3)]) (pc := 106) hX 4 rfl (by decide) rfl (dk D_X8_follow 54 rfl) ?_
          refine r_goto (pc := 109) hX 56 rfl (dk D_X8_follow 55 rfl) ?_
          refine r_sub (lv' := [(0, 2, v0), (1, 2, v1), (3, 2, v3), (5, 0, (w32 (v5 + 1)))]) [2, 3, 4, 0] rfl ?_
          exact ih v0 v1 v3 (w32 (v5 + 1)) μ9 (R32_w _) h
        · rw [if_pos hc] at h
          refine r_aloadn (pc := 93) hX 1 rfl (dk D_X8_follow 48 rfl) ?_
          refine r_iload (pc := 94) hX 0 rfl (dk D_X8_follow 49 rfl) ?_
          obtain ⟨μ10, hμ10, h⟩ := bd_some h
          refine r_putI (pc := 96) hX fl_8_39 rfl rfl qx6 trivial hμ10 (dk D_X8_follow 50 rfl) ?_
          refine r_goto (pc := 99) hX 106 rfl (dk D_X8_follow 51 rfl) ?_
          refine r_iinc (lv' := [(5, 0, (w32 (v5 + 1))), (6, 0, x6), (0, 2, v0), (1, 2, v1), (3, 2, v3)]) (pc := 106) hX 4 rfl (by decide) rfl (dk D_X8_follow 54 rfl) ?_
          refine r_goto (pc := 109) hX 56 rfl (dk D_X8_follow 55 rfl) ?_
          refine r_sub (lv' := [(0, 2, v0), (1, 2, v1), (3, 2, v3), (5, 0, (w32 (v5 + 1)))]) [2, 3, 4, 0] rfl ?_
          exact ih v0 v1 v3 (w32 (v5 + 1)) μ10 (R32_w _) h
set_option maxRecDepth 100000 in
set_option maxHeartbeats 4000000 in
theorem L_Tp_follow {E : EX} {l : Launch} {a0 a1 a2 a3 a4 res : Int} {μ μ' : Mem} (q_a4 : R32 a4) (h : Tp_follow a0 a1 a2 a3 a4 μ = some (res, μ')) : Ok E l 6 yX8_follow (.code yX8_follow cX8_follow 7 none) 0 0 [(2, a0), (2, a1), (2, a2), (2, a3), (0, a4)] μ none μ' := by
  refine Ok.of (own := "TollsBack$Trip") [(0, 2, a0), (1, 2, a1), (2, 2, a2), (3, 2, a3), (4, 0, a4)] (by decide +kernel) rfl (Nat.le_of_ble_eq_true rfl) rfl ?_
  intro X hL hRm hin hX hM
  unfold Tp_follow at h
  subst hL
  refine r_aloadn (pc := 0) hX 0 rfl (dk D_X8_follow 0 rfl) ?_
  obtain ⟨x1, hx1, h⟩ := bd_some h
  refine r_getR (pc := 1) hX fl_8_12 rfl hx1 (dk D_X8_follow 1 rfl) ?_
  refine r_aloadn (pc := 4) hX 2 rfl (dk D_X8_follow 2 rfl) ?_
  obtain ⟨_, hi, h⟩ := bd_some h
  obtain ⟨x2, μ3, hx2, h⟩ := bd2_some h
  refine r_invV0 (As := [(2, a2)]) (pc := 5) hX ml_8_25 (L_Tr_become hx2) (isk_u hi) (Rm_of hRm (by decide) ⟨by decide, by decide⟩) (by decide) rfl (Nat.le_of_ble_eq_true rfl) rfl (dk D_X8_follow 3 rfl) (fun _ => ?_)
  refine r_aloadn (pc := 8) hX 0 rfl (dk D_X8_follow 4 rfl) ?_
  obtain ⟨x4, hx4, h⟩ := bd_some h
  refine r_getR (pc := 9) hX fl_8_12 rfl hx4 (dk D_X8_follow 5 rfl) ?_
  refine r_iload (pc := 12) hX 4 rfl (dk D_X8_follow 6 rfl) ?_
  obtain ⟨μ5, hμ5, h⟩ := bd_some h
  refine r_putI (pc := 14) hX fl_8_29 rfl rfl q_a4 trivial hμ5 (dk D_X8_follow 7 rfl) ?_
  refine r_aloadn (pc := 17) hX 0 rfl (dk D_X8_follow 8 rfl) ?_
  refine r_iload (pc := 18) hX 4 rfl (dk D_X8_follow 9 rfl) ?_
  obtain ⟨μ6, hμ6, h⟩ := bd_some h
  refine r_putI (pc := 20) hX fl_8_33 rfl rfl q_a4 trivial hμ6 (dk D_X8_follow 10 rfl) ?_
  refine r_aloadn (pc := 23) hX 0 rfl (dk D_X8_follow 11 rfl) ?_
  refine r_iconst (pc := 24) hX (dk D_X8_follow 12 rfl) ?_
  obtain ⟨μ7, hμ7, h⟩ := bd_some h
  refine r_putI (pc := 25) hX fl_8_36 rfl rfl (R32_lit rfl) trivial hμ7 (dk D_X8_follow 13 rfl) ?_
  refine r_aloadn (pc := 28) hX 0 rfl (dk D_X8_follow 14 rfl) ?_
  refine r_iconst (pc := 29) hX (dk D_X8_follow 15 rfl) ?_
  obtain ⟨μ8, hμ8, h⟩ := bd_some h
  refine r_putI (pc := 30) hX fl_8_39 rfl rfl (R32_lit rfl) trivial hμ8 (dk D_X8_follow 16 rfl) ?_
  refine r_aloadn (pc := 33) hX 0 rfl (dk D_X8_follow 17 rfl) ?_
  obtain ⟨x9, hx9, h⟩ := bd_some h
  refine r_getR (pc := 34) hX fl_8_18 rfl hx9 (dk D_X8_follow 18 rfl) ?_
  refine r_iconst (pc := 37) hX (dk D_X8_follow 19 rfl) ?_
  refine r_aloadn (pc := 38) hX 2 rfl (dk D_X8_follow 20 rfl) ?_
  obtain ⟨x10, hx10, h⟩ := bd_some h
  refine r_getI (pc := 39) hX fl_8_42 rfl rfl hx10 (dk D_X8_follow 21 rfl) (fun qx10 => ?_)
  obtain ⟨μ11, hμ11, h⟩ := bd_some h
  refine r_iast (pc := 42) hX (R32_lit rfl) qx10 hμ11 (dk D_X8_follow 22 rfl) ?_
  refine r_aloadn (pc := 43) hX 0 rfl (dk D_X8_follow 23 rfl) ?_
  obtain ⟨x12, hx12, h⟩ := bd_some h
  refine r_getR (pc := 44) hX fl_8_22 rfl hx12 (dk D_X8_follow 24 rfl) ?_
  refine r_iconst (pc := 47) hX (dk D_X8_follow 25 rfl) ?_
  refine r_aloadn (pc := 48) hX 2 rfl (dk D_X8_follow 26 rfl) ?_
  obtain ⟨x13, hx13, h⟩ := bd_some h
  refine r_getI (pc := 49) hX fl_8_44 rfl rfl hx13 (dk D_X8_follow 27 rfl) (fun qx13 => ?_)
  obtain ⟨μ14, hμ14, h⟩ := bd_some h
  refine r_iast (pc := 52) hX (R32_lit rfl) qx13 hμ14 (dk D_X8_follow 28 rfl) ?_
  refine r_iconst (pc := 53) hX (dk D_X8_follow 29 rfl) ?_
  refine r_istore (lv' := [(5, 0, 0), (0, 2, a0), (1, 2, a1), (2, 2, a2), (3, 2, a3), (4, 0, a4)]) (pc := 54) hX (by decide) rfl (dk D_X8_follow 30 rfl) ?_
  refine r_sub (lv' := [(0, 2, a0), (1, 2, a1), (3, 2, a3), (5, 0, 0)]) [1, 2, 4, 0] rfl ?_
  refine L_Tp_follow_L56 hX hM hRm FU a0 a1 a3 0 μ14 (R32_lit rfl) h
set_option maxRecDepth 100000 in
set_option maxHeartbeats 4000000 in
theorem L_Tp_townOn_L25 {E : EX} {X : CX} {res : Int} {μe : Mem} (hX : Good E X cX8_townOn 3 "TollsBack$Trip") (hM : GoodM E X (some .int) (some (0, res)) μe 0 0) (hRm : cR X = rmOf 1 0 0) : ∀ (n : Nat) (v0 v1 v2 : Int) (μ : Mem) (q_v1 : R32 v1) (q_v2 : R32 v2) (h : Tp_townOn_L25 n v0 v1 v2 μ = some (res, μe)), At E X cX8_townOn 3 "TollsBack$Trip" (0, 0) 25 [(0, 2, v0), (1, 0, v1), (2, 0, v2)] [] μ := by
  intro n
  induction n with
  | zero =>
    intro v0 v1 v2 μ q_v1 q_v2 h
    have h : (none : Option (Int × Mem)) = some (res, μe) := h
    cases h
  | succ n ih =>
    intro v0 v1 v2 μ q_v1 q_v2 h
    rw [Tp_townOn_L25.eq_2] at h
    refine r_iloadn (pc := 25) hX 2 rfl (dk D_X8_townOn 15 rfl) ?_
    refine r_aloadn (pc := 26) hX 0 rfl (dk D_X8_townOn 16 rfl) ?_
    obtain ⟨x1, hx1, h⟩ := bd_some h
    refine r_getI (pc := 27) hX fl_8_36 rfl rfl hx1 (dk D_X8_townOn 17 rfl) (fun qx1 => ?_)
    refine r_icmp_ge (pc := 30) hX q_v2 qx1 56 rfl (dk D_X8_townOn 18 rfl) (fun hc => ?_) (fun hc => ?_)
    · rw [if_neg hc] at h
      refine r_iconst (pc := 56) hX (dk D_X8_townOn 32 rfl) ?_
      cases h
      exact r_ireturn (pc := 57) hX (R32_lit rfl) hM ⟨by decide, by decide⟩ (dk D_X8_townOn 33 rfl)
    · rw [if_pos hc] at h
      refine r_aloadn (pc := 33) hX 0 rfl (dk D_X8_townOn 19 rfl) ?_
      obtain ⟨x2, hx2, h⟩ := bd_some h
      refine r_getR (pc := 34) hX fl_8_22 rfl hx2 (dk D_X8_townOn 20 rfl) ?_
      refine r_iloadn (pc := 37) hX 2 rfl (dk D_X8_townOn 21 rfl) ?_
      obtain ⟨x3, hx3, h⟩ := bd_some h
      refine r_iald (pc := 38) hX q_v2 hx3 (dk D_X8_townOn 22 rfl) (fun qx3 => ?_)
      refine r_iloadn (pc := 39) hX 1 rfl (dk D_X8_townOn 23 rfl) ?_
      refine r_icmp_ne (pc := 40) hX qx3 q_v1 50 rfl (dk D_X8_townOn 24 rfl) (fun hc => ?_) (fun hc => ?_)
      · rw [if_neg hc] at h
        refine r_iinc (lv' := [(2, 0, (w32 (v2 + 1))), (0, 2, v0), (1, 0, v1)]) (pc := 50) hX 2 rfl (by decide) rfl (dk D_X8_townOn 30 rfl) ?_
        refine r_goto (pc := 53) hX 25 rfl (dk D_X8_townOn 31 rfl) ?_
        refine r_sub (lv' := [(0, 2, v0), (1, 0, v1), (2, 0, (w32 (v2 + 1)))]) [1, 2, 0] rfl ?_
        exact ih v0 v1 (w32 (v2 + 1)) μ q_v1 (R32_w _) h
      · rw [if_pos hc] at h
        refine r_aloadn (pc := 43) hX 0 rfl (dk D_X8_townOn 25 rfl) ?_
        obtain ⟨x4, hx4, h⟩ := bd_some h
        refine r_getR (pc := 44) hX fl_8_18 rfl hx4 (dk D_X8_townOn 26 rfl) ?_
        refine r_iloadn (pc := 47) hX 2 rfl (dk D_X8_townOn 27 rfl) ?_
        obtain ⟨x5, hx5, h⟩ := bd_some h
        refine r_iald (pc := 48) hX q_v2 hx5 (dk D_X8_townOn 28 rfl) (fun qx5 => ?_)
        cases h
        exact r_ireturn (pc := 49) hX qx5 hM ⟨by decide, by decide⟩ (dk D_X8_townOn 29 rfl)
set_option maxRecDepth 100000 in
set_option maxHeartbeats 4000000 in
theorem L_Tp_townOn {E : EX} {l : Launch} {a0 a1 res : Int} {μ μ' : Mem} (q_a1 : R32 a1) (h : Tp_townOn a0 a1 μ = some (res, μ')) : Ok E l 1 yX8_townOn (.code yX8_townOn cX8_townOn 3 (some .int)) 0 0 [(2, a0), (0, a1)] μ (some (0, res)) μ' := by
  refine Ok.of (own := "TollsBack$Trip") [(0, 2, a0), (1, 0, a1)] (by decide +kernel) rfl (Nat.le_of_ble_eq_true rfl) rfl ?_
  intro X hL hRm hin hX hM
  unfold Tp_townOn at h
  subst hL
  refine r_iloadn (pc := 0) hX 1 rfl (dk D_X8_townOn 0 rfl) ?_
  refine r_aloadn (pc := 1) hX 0 rfl (dk D_X8_townOn 1 rfl) ?_
  obtain ⟨x1, hx1, h⟩ := bd_some h
  refine r_getR (pc := 2) hX fl_8_22 rfl hx1 (dk D_X8_townOn 2 rfl) ?_
  refine r_aloadn (pc := 5) hX 0 rfl (dk D_X8_townOn 3 rfl) ?_
  obtain ⟨x2, hx2, h⟩ := bd_some h
  refine r_getI (pc := 6) hX fl_8_36 rfl rfl hx2 (dk D_X8_townOn 4 rfl) (fun qx2 => ?_)
  obtain ⟨x3, hx3, h⟩ := bd_some h
  refine r_iald (pc := 9) hX qx2 hx3 (dk D_X8_townOn 5 rfl) (fun qx3 => ?_)
  refine r_icmp_lt (pc := 10) hX q_a1 qx3 23 rfl (dk D_X8_townOn 6 rfl) (fun hc => ?_) (fun hc => ?_)
  · rw [if_pos hc] at h
    refine r_iconst (pc := 23) hX (dk D_X8_townOn 13 rfl) ?_
    refine r_istoren (lv' := [(2, 0, 0), (0, 2, a0), (1, 0, a1)]) (pc := 24) hX (by decide) rfl (dk D_X8_townOn 14 rfl) ?_
    refine r_sub (lv' := [(0, 2, a0), (1, 0, a1), (2, 0, 0)]) [1, 2, 0] rfl ?_
    refine L_Tp_townOn_L25 hX hM hRm FU a0 a1 0 μ q_a1 (R32_lit rfl) h
  · rw [if_neg hc] at h
    refine r_aloadn (pc := 13) hX 0 rfl (dk D_X8_townOn 7 rfl) ?_
    obtain ⟨x4, hx4, h⟩ := bd_some h
    refine r_getR (pc := 14) hX fl_8_18 rfl hx4 (dk D_X8_townOn 8 rfl) ?_
    refine r_aloadn (pc := 17) hX 0 rfl (dk D_X8_townOn 9 rfl) ?_
    obtain ⟨x5, hx5, h⟩ := bd_some h
    refine r_getI (pc := 18) hX fl_8_36 rfl rfl hx5 (dk D_X8_townOn 10 rfl) (fun qx5 => ?_)
    obtain ⟨x6, hx6, h⟩ := bd_some h
    refine r_iald (pc := 21) hX qx5 hx6 (dk D_X8_townOn 11 rfl) (fun qx6 => ?_)
    cases h
    exact r_ireturn (pc := 22) hX qx6 hM ⟨by decide, by decide⟩ (dk D_X8_townOn 12 rfl)
set_option maxRecDepth 100000 in
set_option maxHeartbeats 4000000 in
theorem L_Tp_firstMeeting_L2 {E : EX} {X : CX} {res : Int} {μe : Mem} (hX : Good E X cX8_firstMeeting 3 "TollsBack$Trip") (hM : GoodM E X (some .int) (some (0, res)) μe 0 0) (hRm : cR X = rmOf 2 0 0) : ∀ (n : Nat) (v0 v1 v2 : Int) (μ : Mem) (q_v2 : R32 v2) (h : Tp_firstMeeting_L2 n v0 v1 v2 μ = some (res, μe)), At E X cX8_firstMeeting 3 "TollsBack$Trip" (0, 0) 2 [(0, 2, v0), (1, 2, v1), (2, 0, v2)] [] μ := by
  intro n
  induction n with
  | zero =>
    intro v0 v1 v2 μ q_v2 h
    have h : (none : Option (Int × Mem)) = some (res, μe) := h
    cases h
  | succ n ih =>
    intro v0 v1 v2 μ q_v2 h
    rw [Tp_firstMeeting_L2.eq_2] at h
    refine r_iloadn (pc := 2) hX 2 rfl (dk D_X8_firstMeeting 2 rfl) ?_
    refine r_aloadn (pc := 3) hX 0 rfl (dk D_X8_firstMeeting 3 rfl) ?_
    obtain ⟨x1, hx1, h⟩ := bd_some h
    refine r_getI (pc := 4) hX fl_8_36 rfl rfl hx1 (dk D_X8_firstMeeting 4 rfl) (fun qx1 => ?_)
    refine r_icmp_gt (pc := 7) hX q_v2 qx1 42 rfl (dk D_X8_firstMeeting 5 rfl) (fun hc => ?_) (fun hc => ?_)
    · rw [if_pos hc] at h
      refine r_iconst (pc := 42) hX (dk D_X8_firstMeeting 24 rfl) ?_
      cases h
      exact r_ireturn (pc := 43) hX (R32_lit rfl) hM ⟨by decide, by decide⟩ (dk D_X8_firstMeeting 25 rfl)
    · rw [if_neg hc] at h
      refine r_aloadn (pc := 10) hX 1 rfl (dk D_X8_firstMeeting 6 rfl) ?_
      refine r_aloadn (pc := 11) hX 0 rfl (dk D_X8_firstMeeting 7 rfl) ?_
      obtain ⟨x2, hx2, h⟩ := bd_some h
      refine r_getR (pc := 12) hX fl_8_22 rfl hx2 (dk D_X8_firstMeeting 8 rfl) ?_
      refine r_iloadn (pc := 15) hX 2 rfl (dk D_X8_firstMeeting 9 rfl) ?_
      obtain ⟨x3, hx3, h⟩ := bd_some h
      refine r_iald (pc := 16) hX q_v2 hx3 (dk D_X8_firstMeeting 10 rfl) (fun qx3 => ?_)
      obtain ⟨_, hi, h⟩ := bd_some h
      obtain ⟨x4, μ5, hx4, h⟩ := bd2_some h
      refine r_invV0 (As := [(0, x3)]) (pc := 17) hX ml_8_74 (L_Tp_townOn qx3 hx4) (isk_u hi) (Rm_of hRm (by decide) ⟨by decide, by decide⟩) (by decide) rfl (Nat.le_of_ble_eq_true rfl) rfl (dk D_X8_firstMeeting 11 rfl) (fun qx4 => ?_)
      refine r_aloadn (pc := 20) hX 0 rfl (dk D_X8_firstMeeting 12 rfl) ?_
      obtain ⟨x6, hx6, h⟩ := bd_some h
      refine r_getR (pc := 21) hX fl_8_18 rfl hx6 (dk D_X8_firstMeeting 13 rfl) ?_
      refine r_iloadn (pc := 24) hX 2 rfl (dk D_X8_firstMeeting 14 rfl) ?_
      obtain ⟨x7, hx7, h⟩ := bd_some h
      refine r_iald (pc := 25) hX q_v2 hx7 (dk D_X8_firstMeeting 15 rfl) (fun qx7 => ?_)
      refine r_icmp_ne (pc := 26) hX qx4 qx7 36 rfl (dk D_X8_firstMeeting 16 rfl) (fun hc => ?_) (fun hc => ?_)
      · rw [if_neg hc] at h
        refine r_iinc (lv' := [(2, 0, (w32 (v2 + 1))), (0, 2, v0), (1, 2, v1)]) (pc := 36) hX 2 rfl (by decide) rfl (dk D_X8_firstMeeting 22 rfl) ?_
        refine r_goto (pc := 39) hX 2 rfl (dk D_X8_firstMeeting 23 rfl) ?_
        refine r_sub (lv' := [(0, 2, v0), (1, 2, v1), (2, 0, (w32 (v2 + 1)))]) [1, 2, 0] rfl ?_
        exact ih v0 v1 (w32 (v2 + 1)) μ5 (R32_w _) h
      · rw [if_pos hc] at h
        refine r_aloadn (pc := 29) hX 0 rfl (dk D_X8_firstMeeting 17 rfl) ?_
        obtain ⟨x8, hx8, h⟩ := bd_some h
        refine r_getR (pc := 30) hX fl_8_22 rfl hx8 (dk D_X8_firstMeeting 18 rfl) ?_
        refine r_iloadn (pc := 33) hX 2 rfl (dk D_X8_firstMeeting 19 rfl) ?_
        obtain ⟨x9, hx9, h⟩ := bd_some h
        refine r_iald (pc := 34) hX q_v2 hx9 (dk D_X8_firstMeeting 20 rfl) (fun qx9 => ?_)
        cases h
        exact r_ireturn (pc := 35) hX qx9 hM ⟨by decide, by decide⟩ (dk D_X8_firstMeeting 21 rfl)
set_option maxRecDepth 100000 in
set_option maxHeartbeats 4000000 in
theorem L_Tp_firstMeeting {E : EX} {l : Launch} {a0 a1 res : Int} {μ μ' : Mem}  (h : Tp_firstMeeting a0 a1 μ = some (res, μ')) : Ok E l 2 yX8_firstMeeting (.code yX8_firstMeeting cX8_firstMeeting 3 (some .int)) 0 0 [(2, a0), (2, a1)] μ (some (0, res)) μ' := by
  refine Ok.of (own := "TollsBack$Trip") [(0, 2, a0), (1, 2, a1)] (by decide +kernel) rfl (Nat.le_of_ble_eq_true rfl) rfl ?_
  intro X hL hRm hin hX hM
  unfold Tp_firstMeeting at h
  subst hL
  refine r_iconst (pc := 0) hX (dk D_X8_firstMeeting 0 rfl) ?_
  refine r_istoren (lv' := [(2, 0, 0), (0, 2, a0), (1, 2, a1)]) (pc := 1) hX (by decide) rfl (dk D_X8_firstMeeting 1 rfl) ?_
  refine r_sub (lv' := [(0, 2, a0), (1, 2, a1), (2, 0, 0)]) [1, 2, 0] rfl ?_
  refine L_Tp_firstMeeting_L2 hX hM hRm FU a0 a1 0 μ (R32_lit rfl) h
set_option maxRecDepth 100000 in
set_option maxHeartbeats 4000000 in
theorem L_Tp_meets {E : EX} {l : Launch} {a0 a1 res : Int} {μ μ' : Mem}  (h : Tp_meets a0 a1 μ = some (res, μ')) : Ok E l 3 yX8_meets (.code yX8_meets cX8_meets 3 (some .int)) 0 0 [(2, a0), (2, a1)] μ (some (0, res)) μ' := by
  refine Ok.of (own := "TollsBack$Trip") [(0, 2, a0), (1, 2, a1)] (by decide +kernel) rfl (Nat.le_of_ble_eq_true rfl) rfl ?_
  intro X hL hRm hin hX hM
  unfold Tp_meets at h
  subst hL
  refine r_aloadn (pc := 0) hX 0 rfl (dk D_X8_meets 0 rfl) ?_
  refine r_aloadn (pc := 1) hX 1 rfl (dk D_X8_meets 1 rfl) ?_
  obtain ⟨_, hi, h⟩ := bd_some h
  obtain ⟨x1, μ2, hx1, h⟩ := bd2_some h
  refine r_invV0 (As := [(2, a1)]) (pc := 2) hX ml_8_70 (L_Tp_firstMeeting hx1) (isk_u hi) (Rm_of hRm (by decide) ⟨by decide, by decide⟩) (by decide) rfl (Nat.le_of_ble_eq_true rfl) rfl (dk D_X8_meets 2 rfl) (fun qx1 => ?_)
  refine r_istoren (lv' := [(2, 0, x1), (0, 2, a0), (1, 2, a1)]) (pc := 5) hX (by decide) rfl (dk D_X8_meets 3 rfl) ?_
  refine r_iloadn (pc := 6) hX 0 rfl (dk D_X8_meets 4 rfl) ?_
  refine r_iconst (pc := 7) hX (dk D_X8_meets 5 rfl) ?_
  refine r_icmp_eq (pc := 8) hX qx1 (R32_lit rfl) 15 rfl (dk D_X8_meets 6 rfl) (fun hc => ?_) (fun hc => ?_)
  · rw [if_pos hc] at h
    refine r_aloadn (pc := 15) hX 2 rfl (dk D_X8_meets 9 rfl) ?_
    refine r_aloadn (pc := 16) hX 1 rfl (dk D_X8_meets 10 rfl) ?_
    obtain ⟨_, hi, h⟩ := bd_some h
    obtain ⟨x3, μ4, hx3, h⟩ := bd2_some h
    refine r_invV0 (As := [(2, a0)]) (pc := 17) hX ml_8_70 (L_Tp_firstMeeting hx3) (isk_u hi) (Rm_of hRm (by decide) ⟨by decide, by decide⟩) (by decide) rfl (Nat.le_of_ble_eq_true rfl) rfl (dk D_X8_meets 11 rfl) (fun qx3 => ?_)
    cases h
    exact r_ireturn (pc := 20) hX qx3 hM ⟨by decide, by decide⟩ (dk D_X8_meets 12 rfl)
  · rw [if_neg hc] at h
    refine r_iloadn (pc := 11) hX 0 rfl (dk D_X8_meets 7 rfl) ?_
    refine r_goto (pc := 12) hX 20 rfl (dk D_X8_meets 8 rfl) ?_
    cases h
    exact r_ireturn (pc := 20) hX qx1 hM ⟨by decide, by decide⟩ (dk D_X8_meets 12 rfl)
set_option maxRecDepth 100000 in
set_option maxHeartbeats 4000000 in
theorem L_Wy_init {E : EX} {l : Launch} {a0 res : Int} {μ μ' : Mem}  (h : Wy_init a0 μ = some (res, μ')) : Ok E l 1 yX9_init (.code yX9_init cX9_init 1 none) 2 36 [(2, a0)] μ none μ' := by
  refine Ok.of (own := "TollsBack$Ways") [(0, 2, a0)] (by decide +kernel) rfl (Nat.le_of_ble_eq_true rfl) rfl ?_
  intro X hL hRm hin hX hM
  unfold Wy_init at h
  subst hL
  refine r_aloadn (pc := 0) (cs := (0, 0)) hX 0 rfl (dk D_X9_init 0 rfl) ?_
  obtain ⟨_, hi, h⟩ := bd_some h
  refine r_objI (pc := 1) (cs := (0, 0)) hX (isk_nn hi (by decide)) ml_9_5 (Rm_of hRm (by decide) ⟨by (try dsimp only); omega, by (try dsimp only); omega⟩) (Nat.le_of_ble_eq_true rfl) (dk D_X9_init 1 rfl) ?_
  refine r_aloadn (pc := 4) (cs := (0, 0)) hX 0 rfl (dk D_X9_init 2 rfl) ?_
  refine r_bipush (pc := 5) (cs := (0, 0)) hX rfl (dk D_X9_init 3 rfl) ?_
  refine r_newI (N := 12) (pc := 7) (cs := (0, 0)) hX ac_int (by decide) (by rw [hRm]; exact ⟨by (show _ ≤ (rmOf _ _ _).cells); (simp only [rmOf]); omega, by (show _ ≤ (rmOf _ _ _).slots); (simp only [rmOf]); omega⟩) (dk D_X9_init 4 rfl) ?_
  obtain ⟨μ1, hμ1, h⟩ := bd_some h
  refine r_putF (pc := 9) (cs := (1, 12)) hX fl_9_11 (hin rfl) ⟨_, _, _, rfl, rfl⟩ rfl rfl trivial hμ1 (dk D_X9_init 5 rfl) ?_
  refine r_aloadn (pc := 12) (cs := (1, 12)) hX 0 rfl (dk D_X9_init 6 rfl) ?_
  refine r_bipush (pc := 13) (cs := (1, 12)) hX rfl (dk D_X9_init 7 rfl) ?_
  refine r_newI (N := 24) (pc := 15) (cs := (1, 12)) hX ac_int (by decide) (by rw [hRm]; exact ⟨by (show _ ≤ (rmOf _ _ _).cells); (simp only [rmOf]); omega, by (show _ ≤ (rmOf _ _ _).slots); (simp only [rmOf]); omega⟩) (dk D_X9_init 8 rfl) ?_
  obtain ⟨μ2, hμ2, h⟩ := bd_some h
  refine r_putF (pc := 17) (cs := (2, 36)) hX fl_9_17 (hin rfl) ⟨_, _, _, rfl, rfl⟩ rfl rfl trivial hμ2 (dk D_X9_init 9 rfl) ?_
  cases h
  exact r_return (pc := 20) hX hM ⟨by (try dsimp only); omega, by (try dsimp only); omega⟩ (dk D_X9_init 10 rfl)
set_option maxRecDepth 100000 in
set_option maxHeartbeats 4000000 in
theorem L_J_fill_L5 {E : EX} {X : CX} {res : Int} {μe : Mem} (hX : Good E X cJ7_fill_53178 4 "java/util/Arrays") (hM : GoodM E X none none μe 0 0) (hRm : cR X = rmOf 1 0 0) : ∀ (n : Nat) (v0 v1 v2 v3 : Int) (μ : Mem) (q_v1 : R32 v1) (q_v2 : R32 v2) (q_v3 : R32 v3) (h : J_fill_L5 n v0 v1 v2 v3 μ = some (res, μe)), At E X cJ7_fill_53178 4 "java/util/Arrays" (0, 0) 5 [(0, 2, v0), (1, 0, v1), (2, 0, v2), (3, 0, v3)] [] μ := by
  intro n
  induction n with
  | zero =>
    intro v0 v1 v2 v3 μ q_v1 q_v2 q_v3 h
    have h : (none : Option (Int × Mem)) = some (res, μe) := h
    cases h
  | succ n ih =>
    intro v0 v1 v2 v3 μ q_v1 q_v2 q_v3 h
    rw [J_fill_L5.eq_2] at h
    refine r_iloadn (pc := 5) hX 2 rfl (dk D_J7_fill_53178 5 rfl) ?_
    refine r_iloadn (pc := 6) hX 3 rfl (dk D_J7_fill_53178 6 rfl) ?_
    refine r_icmp_ge (pc := 7) hX q_v2 q_v3 20 rfl (dk D_J7_fill_53178 7 rfl) (fun hc => ?_) (fun hc => ?_)
    · rw [if_neg hc] at h
      cases h
      exact r_return (pc := 20) hX hM ⟨by decide, by decide⟩ (dk D_J7_fill_53178 14 rfl)
    · rw [if_pos hc] at h
      refine r_aloadn (pc := 10) hX 0 rfl (dk D_J7_fill_53178 8 rfl) ?_
      refine r_iloadn (pc := 11) hX 2 rfl (dk D_J7_fill_53178 9 rfl) ?_
      refine r_iloadn (pc := 12) hX 1 rfl (dk D_J7_fill_53178 10 rfl) ?_
      obtain ⟨μ1, hμ1, h⟩ := bd_some h
      refine r_iast (pc := 13) hX q_v2 q_v1 hμ1 (dk D_J7_fill_53178 11 rfl) ?_
      refine r_iinc (lv' := [(2, 0, (w32 (v2 + 1))), (0, 2, v0), (1, 0, v1), (3, 0, v3)]) (pc := 14) hX 2 rfl (by decide) rfl (dk D_J7_fill_53178 12 rfl) ?_
      refine r_goto (pc := 17) hX 5 rfl (dk D_J7_fill_53178 13 rfl) ?_
      refine r_sub (lv' := [(0, 2, v0), (1, 0, v1), (2, 0, (w32 (v2 + 1))), (3, 0, v3)]) [1, 2, 0, 3] rfl ?_
      exact ih v0 v1 (w32 (v2 + 1)) v3 μ1 q_v1 (R32_w _) q_v3 h
set_option maxRecDepth 100000 in
set_option maxHeartbeats 4000000 in
theorem L_J_fill {E : EX} {l : Launch} {a0 a1 res : Int} {μ μ' : Mem} (q_a1 : R32 a1) (h : J_fill a0 a1 μ = some (res, μ')) : Ok E l 1 yJ7_fill_53178 (.code yJ7_fill_53178 cJ7_fill_53178 4 none) 0 0 [(2, a0), (0, a1)] μ none μ' := by
  refine Ok.of (own := "java/util/Arrays") [(0, 2, a0), (1, 0, a1)] (by decide +kernel) rfl (Nat.le_of_ble_eq_true rfl) rfl ?_
  intro X hL hRm hin hX hM
  unfold J_fill at h
  subst hL
  refine r_iconst (pc := 0) hX (dk D_J7_fill_53178 0 rfl) ?_
  refine r_istoren (lv' := [(2, 0, 0), (0, 2, a0), (1, 0, a1)]) (pc := 1) hX (by decide) rfl (dk D_J7_fill_53178 1 rfl) ?_
  refine r_aloadn (pc := 2) hX 1 rfl (dk D_J7_fill_53178 2 rfl) ?_
  obtain ⟨x1, hx1, h⟩ := bd_some h
  refine r_alen20 (pc := 3) hX hx1 (dk D_J7_fill_53178 3 rfl) (fun qx1 => ?_)
  refine r_istoren (lv' := [(3, 0, x1), (2, 0, 0), (0, 2, a0), (1, 0, a1)]) (pc := 4) hX (by decide) rfl (dk D_J7_fill_53178 4 rfl) ?_
  refine r_sub (lv' := [(0, 2, a0), (1, 0, a1), (2, 0, 0), (3, 0, x1)]) [2, 3, 1, 0] rfl ?_
  refine L_J_fill_L5 hX hM hRm FU a0 a1 0 x1 μ q_a1 (R32_lit rfl) qx1 h
set_option maxRecDepth 100000 in
set_option maxHeartbeats 4000000 in
theorem L_Wy_startAt {E : EX} {l : Launch} {a0 a1 res : Int} {μ μ' : Mem} (q_a1 : R32 a1) (h : Wy_startAt a0 a1 μ = some (res, μ')) : Ok E l 2 yX9_startAt (.code yX9_startAt cX9_startAt 2 none) 0 0 [(2, a0), (0, a1)] μ none μ' := by
  refine Ok.of (own := "TollsBack$Ways") [(0, 2, a0), (1, 0, a1)] (by decide +kernel) rfl (Nat.le_of_ble_eq_true rfl) rfl ?_
  intro X hL hRm hin hX hM
  unfold Wy_startAt at h
  subst hL
  refine r_aloadn (pc := 0) hX 0 rfl (dk D_X9_startAt 0 rfl) ?_
  obtain ⟨x1, hx1, h⟩ := bd_some h
  refine r_getR (pc := 1) hX fl_9_11 rfl hx1 (dk D_X9_startAt 1 rfl) ?_
  refine r_ldc (pc := 4) hX cn_9_20 (dk D_X9_startAt 2 rfl) ?_
  obtain ⟨x2, μ3, hx2, h⟩ := bd2_some h
  refine r_invS0 (As := [(2, x1), (0, 2147483647)]) (pc := 6) hX ml_9_21 (L_J_fill (R32_lit rfl) hx2) (Rm_of hRm (by decide) ⟨by decide, by decide⟩) (by decide) rfl (Nat.le_of_ble_eq_true rfl) rfl (dk D_X9_startAt 3 rfl) (fun _ => ?_)
  refine r_aloadn (pc := 9) hX 0 rfl (dk D_X9_startAt 4 rfl) ?_
  obtain ⟨x4, hx4, h⟩ := bd_some h
  refine r_getR (pc := 10) hX fl_9_11 rfl hx4 (dk D_X9_startAt 5 rfl) ?_
  refine r_iloadn (pc := 13) hX 1 rfl (dk D_X9_startAt 6 rfl) ?_
  refine r_iconst (pc := 14) hX (dk D_X9_startAt 7 rfl) ?_
  obtain ⟨μ5, hμ5, h⟩ := bd_some h
  refine r_iast (pc := 15) hX q_a1 (R32_lit rfl) hμ5 (dk D_X9_startAt 8 rfl) ?_
  cases h
  exact r_return (pc := 16) hX hM ⟨by decide, by decide⟩ (dk D_X9_startAt 9 rfl)
set_option maxRecDepth 100000 in
set_option maxHeartbeats 4000000 in
theorem L_Wy_improve {E : EX} {l : Launch} {a0 a1 a2 a3 res : Int} {μ μ' : Mem} (q_a1 : R32 a1) (q_a2 : R32 a2) (q_a3 : R32 a3) (h : Wy_improve a0 a1 a2 a3 μ = some (res, μ')) : Ok E l 1 yX9_improve (.code yX9_improve cX9_improve 4 (some .boolean)) 0 0 [(2, a0), (0, a1), (0, a2), (0, a3)] μ (some (0, res)) μ' := by
  refine Ok.of (own := "TollsBack$Ways") [(0, 2, a0), (1, 0, a1), (2, 0, a2), (3, 0, a3)] (by decide +kernel) rfl (Nat.le_of_ble_eq_true rfl) rfl ?_
  intro X hL hRm hin hX hM
  unfold Wy_improve at h
  subst hL
  refine r_aloadn (pc := 0) hX 0 rfl (dk D_X9_improve 0 rfl) ?_
  obtain ⟨x1, hx1, h⟩ := bd_some h
  refine r_getR (pc := 1) hX fl_9_11 rfl hx1 (dk D_X9_improve 1 rfl) ?_
  refine r_iloadn (pc := 4) hX 1 rfl (dk D_X9_improve 2 rfl) ?_
  obtain ⟨x2, hx2, h⟩ := bd_some h
  refine r_iald (pc := 5) hX q_a1 hx2 (dk D_X9_improve 3 rfl) (fun qx2 => ?_)
  refine r_ldc (pc := 6) hX cn_9_20 (dk D_X9_improve 4 rfl) ?_
  refine r_icmp_eq (pc := 8) hX qx2 (R32_lit rfl) 28 rfl (dk D_X9_improve 5 rfl) (fun hc => ?_) (fun hc => ?_)
  · rw [if_pos hc] at h
    refine r_iconst (pc := 28) hX (dk D_X9_improve 17 rfl) ?_
    cases h
    exact r_zreturn (pc := 29) hX (R32_lit rfl) hM (Or.inl rfl) ⟨by decide, by decide⟩ (dk D_X9_improve 18 rfl)
  · rw [if_neg hc] at h
    refine r_aloadn (pc := 11) hX 0 rfl (dk D_X9_improve 6 rfl) ?_
    obtain ⟨x3, hx3, h⟩ := bd_some h
    refine r_getR (pc := 12) hX fl_9_11 rfl hx3 (dk D_X9_improve 7 rfl) ?_
    refine r_iloadn (pc := 15) hX 1 rfl (dk D_X9_improve 8 rfl) ?_
    obtain ⟨x4, hx4, h⟩ := bd_some h
    refine r_iald (pc := 16) hX q_a1 hx4 (dk D_X9_improve 9 rfl) (fun qx4 => ?_)
    refine r_iloadn (pc := 17) hX 3 rfl (dk D_X9_improve 10 rfl) ?_
    refine r_iadd (pc := 18) hX (dk D_X9_improve 11 rfl) ?_
    refine r_aloadn (pc := 19) hX 0 rfl (dk D_X9_improve 12 rfl) ?_
    obtain ⟨x5, hx5, h⟩ := bd_some h
    refine r_getR (pc := 20) hX fl_9_11 rfl hx5 (dk D_X9_improve 13 rfl) ?_
    refine r_iloadn (pc := 23) hX 2 rfl (dk D_X9_improve 14 rfl) ?_
    obtain ⟨x6, hx6, h⟩ := bd_some h
    refine r_iald (pc := 24) hX q_a2 hx6 (dk D_X9_improve 15 rfl) (fun qx6 => ?_)
    refine r_icmp_lt (pc := 25) hX (R32_w _) qx6 30 rfl (dk D_X9_improve 16 rfl) (fun hc => ?_) (fun hc => ?_)
    · rw [if_pos hc] at h
      refine r_aloadn (pc := 30) hX 0 rfl (dk D_X9_improve 19 rfl) ?_
      obtain ⟨x7, hx7, h⟩ := bd_some h
      refine r_getR (pc := 31) hX fl_9_11 rfl hx7 (dk D_X9_improve 20 rfl) ?_
      refine r_iloadn (pc := 34) hX 2 rfl (dk D_X9_improve 21 rfl) ?_
      refine r_aloadn (pc := 35) hX 0 rfl (dk D_X9_improve 22 rfl) ?_
      obtain ⟨x8, hx8, h⟩ := bd_some h
      refine r_getR (pc := 36) hX fl_9_11 rfl hx8 (dk D_X9_improve 23 rfl) ?_
      refine r_iloadn (pc := 39) hX 1 rfl (dk D_X9_improve 24 rfl) ?_
      obtain ⟨x9, hx9, h⟩ := bd_some h
      refine r_iald (pc := 40) hX q_a1 hx9 (dk D_X9_improve 25 rfl) (fun qx9 => ?_)
      refine r_iloadn (pc := 41) hX 3 rfl (dk D_X9_improve 26 rfl) ?_
      refine r_iadd (pc := 42) hX (dk D_X9_improve 27 rfl) ?_
      obtain ⟨μ10, hμ10, h⟩ := bd_some h
      refine r_iast (pc := 43) hX q_a2 (R32_w _) hμ10 (dk D_X9_improve 28 rfl) ?_
      refine r_iconst (pc := 44) hX (dk D_X9_improve 29 rfl) ?_
      cases h
      exact r_zreturn (pc := 45) hX (R32_lit rfl) hM (Or.inr rfl) ⟨by decide, by decide⟩ (dk D_X9_improve 30 rfl)
    · rw [if_neg hc] at h
      refine r_iconst (pc := 28) hX (dk D_X9_improve 17 rfl) ?_
      cases h
      exact r_zreturn (pc := 29) hX (R32_lit rfl) hM (Or.inl rfl) ⟨by decide, by decide⟩ (dk D_X9_improve 18 rfl)
set_option maxRecDepth 100000 in
set_option maxHeartbeats 4000000 in
theorem L_Wy_settle_L24 {E : EX} {X : CX} {res : Int} {μe : Mem} (hX : Good E X cX9_settle 9 "TollsBack$Ways") (hM : GoodM E X none none μe 0 0) (hRm : cR X = rmOf 2 0 0) {k129 : Int → Int → Int → Int → Mem → Option (Int × Mem)} (hk129 : ∀ (u0 u1 u2 u3 : Int) (μ : Mem), R32 u2 → R32 u3 → k129 u0 u1 u2 u3 μ = some (res, μe) → At E X cX9_settle 9 "TollsBack$Ways" (0, 0) 129 [(0, 2, u0), (1, 2, u1), (2, 0, u2), (3, 0, u3)] [] μ) : ∀ (n : Nat) (v0 v1 v2 v3 v4 : Int) (μ : Mem) (q_v2 : R32 v2) (q_v3 : R32 v3) (q_v4 : R32 v4) (h : Wy_settle_L24 k129 n v0 v1 v2 v3 v4 μ = some (res, μe)), At E X cX9_settle 9 "TollsBack$Ways" (0, 0) 24 [(0, 2, v0), (1, 2, v1), (2, 0, v2), (3, 0, v3), (4, 0, v4)] [] μ := by
  intro n
  induction n with
  | zero =>
    intro v0 v1 v2 v3 v4 μ q_v2 q_v3 q_v4 h
    have h : (none : Option (Int × Mem)) = some (res, μe) := h
    cases h
  | succ n ih =>
    intro v0 v1 v2 v3 v4 μ q_v2 q_v3 q_v4 h
    rw [Wy_settle_L24.eq_2] at h
    refine r_iload (pc := 24) hX 4 rfl (dk D_X9_settle 15 rfl) ?_
    refine r_aloadn (pc := 26) hX 1 rfl (dk D_X9_settle 16 rfl) ?_
    obtain ⟨x1, hx1, h⟩ := bd_some h
    refine r_getR (pc := 27) hX fl_9_27 rfl hx1 (dk D_X9_settle 17 rfl) ?_
    obtain ⟨x2, hx2, h⟩ := bd_some h
    refine r_getI (pc := 30) hX fl_9_39 rfl rfl hx2 (dk D_X9_settle 18 rfl) (fun qx2 => ?_)
    refine r_icmp_ge (pc := 33) hX q_v4 qx2 129 rfl (dk D_X9_settle 19 rfl) (fun hc => ?_) (fun hc => ?_)
    · rw [if_neg hc] at h
      refine r_sub (lv' := [(0, 2, v0), (1, 2, v1), (2, 0, v2), (3, 0, v3)]) [0, 1, 2, 3] rfl ?_
      exact hk129 v0 v1 v2 v3 μ q_v2 q_v3 h
    · rw [if_pos hc] at h
      refine r_aloadn (pc := 36) hX 1 rfl (dk D_X9_settle 20 rfl) ?_
      refine r_iload (pc := 37) hX 4 rfl (dk D_X9_settle 21 rfl) ?_
      obtain ⟨_, hi, h⟩ := bd_some h
      obtain ⟨x3, μ4, hx3, h⟩ := bd2_some h
      refine r_invV0 (As := [(0, v4)]) (pc := 39) hX ml_9_42 (L_Wo_isOpen q_v4 hx3) (isk_u hi) (Rm_of hRm (by decide) ⟨by decide, by decide⟩) (by decide) rfl (Nat.le_of_ble_eq_true rfl) rfl (dk D_X9_settle 22 rfl) (fun qx3 => ?_)
      refine r_if_eq (pc := 42) hX qx3 123 rfl (dk D_X9_settle 23 rfl) (fun hc => ?_) (fun hc => ?_)
      · rw [if_pos hc] at h
        refine r_iinc (lv' := [(4, 0, (w32 (v4 + 1))), (0, 2, v0), (1, 2, v1), (2, 0, v2), (3, 0, v3)]) (pc := 123) hX 4 rfl (by decide) rfl (dk D_X9_settle 64 rfl) ?_
        refine r_goto (pc := 126) hX 24 rfl (dk D_X9_settle 65 rfl) ?_
        refine r_sub (lv' := [(0, 2, v0), (1, 2, v1), (2, 0, v2), (3, 0, v3), (4, 0, (w32 (v4 + 1)))]) [1, 2, 3, 4, 0] rfl ?_
        exact ih v0 v1 v2 v3 (w32 (v4 + 1)) μ4 q_v2 q_v3 (R32_w _) h
      · rw [if_neg hc] at h
        refine r_aloadn (pc := 45) hX 1 rfl (dk D_X9_settle 24 rfl) ?_
        obtain ⟨x5, hx5, h⟩ := bd_some h
        refine r_getR (pc := 46) hX fl_9_27 rfl hx5 (dk D_X9_settle 25 rfl) ?_
        obtain ⟨x6, hx6, h⟩ := bd_some h
        refine r_getR (pc := 49) hX fl_9_46 rfl hx6 (dk D_X9_settle 26 rfl) ?_
        refine r_iload (pc := 52) hX 4 rfl (dk D_X9_settle 27 rfl) ?_
        obtain ⟨x7, hx7, h⟩ := bd_some h
        refine r_iald (pc := 54) hX q_v4 hx7 (dk D_X9_settle 28 rfl) (fun qx7 => ?_)
        refine r_istore (lv' := [(5, 0, x7), (0, 2, v0), (1, 2, v1), (2, 0, v2), (3, 0, v3), (4, 0, v4)]) (pc := 55) hX (by decide) rfl (dk D_X9_settle 29 rfl) ?_
        refine r_aloadn (pc := 57) hX 2 rfl (dk D_X9_settle 30 rfl) ?_
        obtain ⟨x8, hx8, h⟩ := bd_some h
        refine r_getR (pc := 58) hX fl_9_27 rfl hx8 (dk D_X9_settle 31 rfl) ?_
        obtain ⟨x9, hx9, h⟩ := bd_some h
        refine r_getR (pc := 61) hX fl_9_49 rfl hx9 (dk D_X9_settle 32 rfl) ?_
        refine r_iload (pc := 64) hX 5 rfl (dk D_X9_settle 33 rfl) ?_
        obtain ⟨x10, hx10, h⟩ := bd_some h
        refine r_iald (pc := 66) hX q_v4 hx10 (dk D_X9_settle 34 rfl) (fun qx10 => ?_)
        refine r_istore (lv' := [(6, 0, x10), (5, 0, x7), (0, 2, v0), (1, 2, v1), (2, 0, v2), (3, 0, v3), (4, 0, v4)]) (pc := 67) hX (by decide) rfl (dk D_X9_settle 35 rfl) ?_
        refine r_aloadn (pc := 69) hX 2 rfl (dk D_X9_settle 36 rfl) ?_
        refine r_iload (pc := 70) hX 1 rfl (dk D_X9_settle 37 rfl) ?_
        refine r_iload (pc := 72) hX 0 rfl (dk D_X9_settle 38 rfl) ?_
        refine r_aloadn (pc := 74) hX 2 rfl (dk D_X9_settle 39 rfl) ?_
        obtain ⟨x11, hx11, h⟩ := bd_some h
        refine r_getR (pc := 75) hX fl_9_17 rfl hx11 (dk D_X9_settle 40 rfl) ?_
        refine r_iload (pc := 78) hX 6 rfl (dk D_X9_settle 41 rfl) ?_
        obtain ⟨x12, hx12, h⟩ := bd_some h
        refine r_iald (pc := 80) hX q_v4 hx12 (dk D_X9_settle 42 rfl) (fun qx12 => ?_)
        obtain ⟨_, hi, h⟩ := bd_some h
        obtain ⟨x13, μ14, hx13, h⟩ := bd2_some h
        refine r_invV0 (As := [(0, x7), (0, x10), (0, x12)]) (pc := 81) hX ml_9_52 (L_Wy_improve qx7 qx10 qx12 hx13) (isk_u hi) (Rm_of hRm (by decide) ⟨by decide, by decide⟩) (by decide) rfl (Nat.le_of_ble_eq_true rfl) rfl (dk D_X9_settle 43 rfl) (fun qx13 => ?_)
        refine r_istore (lv' := [(7, 0, x13), (6, 0, x10), (5, 0, x7), (0, 2, v0), (1, 2, v1), (2, 0, v2), (3, 0, v3), (4, 0, v4)]) (pc := 84) hX (by decide) rfl (dk D_X9_settle 44 rfl) ?_
        refine r_aloadn (pc := 86) hX 3 rfl (dk D_X9_settle 45 rfl) ?_
        refine r_iload (pc := 87) hX 1 rfl (dk D_X9_settle 46 rfl) ?_
        refine r_iload (pc := 89) hX 2 rfl (dk D_X9_settle 47 rfl) ?_
        refine r_aloadn (pc := 91) hX 3 rfl (dk D_X9_settle 48 rfl) ?_
        obtain ⟨x15, hx15, h⟩ := bd_some h
        refine r_getR (pc := 92) hX fl_9_17 rfl hx15 (dk D_X9_settle 49 rfl) ?_
        refine r_iload (pc := 95) hX 7 rfl (dk D_X9_settle 50 rfl) ?_
        obtain ⟨x16, hx16, h⟩ := bd_some h
        refine r_iald (pc := 97) hX q_v4 hx16 (dk D_X9_settle 51 rfl) (fun qx16 => ?_)
        obtain ⟨_, hi, h⟩ := bd_some h
        obtain ⟨x17, μ18, hx17, h⟩ := bd2_some h
        refine r_invV0 (As := [(0, x10), (0, x7), (0, x16)]) (pc := 98) hX ml_9_52 (L_Wy_improve qx10 qx7 qx16 hx17) (isk_u hi) (Rm_of hRm (by decide) ⟨by decide, by decide⟩) (by decide) rfl (Nat.le_of_ble_eq_true rfl) rfl (dk D_X9_settle 52 rfl) (fun qx17 => ?_)
        refine r_istore (lv' := [(8, 0, x17), (7, 0, x13), (6, 0, x10), (5, 0, x7), (0, 2, v0), (1, 2, v1), (2, 0, v2), (3, 0, v3), (4, 0, v4)]) (pc := 101) hX (by decide) rfl (dk D_X9_settle 53 rfl) ?_
        refine r_iloadn (pc := 103) hX 6 rfl (dk D_X9_settle 54 rfl) ?_
        refine r_if_ne (pc := 104) hX q_v2 117 rfl (dk D_X9_settle 55 rfl) (fun hc => ?_) (fun hc => ?_)
        · rw [if_neg hc] at h
          refine r_iconst (pc := 117) hX (dk D_X9_settle 60 rfl) ?_
          refine r_goto (pc := 118) hX 122 rfl (dk D_X9_settle 61 rfl) ?_
          refine r_istoren (lv' := [(2, 0, 1), (8, 0, x17), (7, 0, x13), (6, 0, x10), (5, 0, x7), (0, 2, v0), (1, 2, v1), (3, 0, v3), (4, 0, v4)]) (pc := 122) hX (by decide) rfl (dk D_X9_settle 63 rfl) ?_
          refine r_iinc (lv' := [(4, 0, (w32 (v4 + 1))), (2, 0, 1), (8, 0, x17), (7, 0, x13), (6, 0, x10), (5, 0, x7), (0, 2, v0), (1, 2, v1), (3, 0, v3)]) (pc := 123) hX 8 rfl (by decide) rfl (dk D_X9_settle 64 rfl) ?_
          refine r_goto (pc := 126) hX 24 rfl (dk D_X9_settle 65 rfl) ?_
          refine r_sub (lv' := [(0, 2, v0), (1, 2, v1), (2, 0, 1), (3, 0, v3), (4, 0, (w32 (v4 + 1)))]) [6, 7, 1, 8, 0] rfl ?_
          exact ih v0 v1 1 v3 (w32 (v4 + 1)) μ18 (R32_lit rfl) q_v3 (R32_w _) h
        · rw [if_pos hc] at h
          refine r_iload (pc := 107) hX 1 rfl (dk D_X9_settle 56 rfl) ?_
          refine r_if_ne (pc := 109) hX qx13 117 rfl (dk D_X9_settle 57 rfl) (fun hc => ?_) (fun hc => ?_)
          · rw [if_neg hc] at h
            refine r_iconst (pc := 117) hX (dk D_X9_settle 60 rfl) ?_
            refine r_goto (pc := 118) hX 122 rfl (dk D_X9_settle 61 rfl) ?_
            refine r_istoren (lv' := [(2, 0, 1), (8, 0, x17), (7, 0, x13), (6, 0, x10), (5, 0, x7), (0, 2, v0), (1, 2, v1), (3, 0, v3), (4, 0, v4)]) (pc := 122) hX (by decide) rfl (dk D_X9_settle 63 rfl) ?_
            refine r_iinc (lv' := [(4, 0, (w32 (v4 + 1))), (2, 0, 1), (8, 0, x17), (7, 0, x13), (6, 0, x10), (5, 0, x7), (0, 2, v0), (1, 2, v1), (3, 0, v3)]) (pc := 123) hX 8 rfl (by decide) rfl (dk D_X9_settle 64 rfl) ?_
            refine r_goto (pc := 126) hX 24 rfl (dk D_X9_settle 65 rfl) ?_
            refine r_sub (lv' := [(0, 2, v0), (1, 2, v1), (2, 0, 1), (3, 0, v3), (4, 0, (w32 (v4 + 1)))]) [6, 7, 1, 8, 0] rfl ?_
            exact ih v0 v1 1 v3 (w32 (v4 + 1)) μ18 (R32_lit rfl) q_v3 (R32_w _) h
          · rw [if_pos hc] at h
            refine r_iload (pc := 112) hX 0 rfl (dk D_X9_settle 58 rfl) ?_
            refine r_if_eq (pc := 114) hX qx17 121 rfl (dk D_X9_settle 59 rfl) (fun hc => ?_) (fun hc => ?_)
            · rw [if_pos hc] at h
              refine r_iconst (pc := 121) hX (dk D_X9_settle 62 rfl) ?_
              refine r_istoren (lv' := [(2, 0, 0), (8, 0, x17), (7, 0, x13), (6, 0, x10), (5, 0, x7), (0, 2, v0), (1, 2, v1), (3, 0, v3), (4, 0, v4)]) (pc := 122) hX (by decide) rfl (dk D_X9_settle 63 rfl) ?_
              refine r_iinc (lv' := [(4, 0, (w32 (v4 + 1))), (2, 0, 0), (8, 0, x17), (7, 0, x13), (6, 0, x10), (5, 0, x7), (0, 2, v0), (1, 2, v1), (3, 0, v3)]) (pc := 123) hX 8 rfl (by decide) rfl (dk D_X9_settle 64 rfl) ?_
              refine r_goto (pc := 126) hX 24 rfl (dk D_X9_settle 65 rfl) ?_
              refine r_sub (lv' := [(0, 2, v0), (1, 2, v1), (2, 0, 0), (3, 0, v3), (4, 0, (w32 (v4 + 1)))]) [6, 7, 1, 8, 0] rfl ?_
              exact ih v0 v1 0 v3 (w32 (v4 + 1)) μ18 (R32_lit rfl) q_v3 (R32_w _) h
            · rw [if_neg hc] at h
              refine r_iconst (pc := 117) hX (dk D_X9_settle 60 rfl) ?_
              refine r_goto (pc := 118) hX 122 rfl (dk D_X9_settle 61 rfl) ?_
              refine r_istoren (lv' := [(2, 0, 1), (8, 0, x17), (7, 0, x13), (6, 0, x10), (5, 0, x7), (0, 2, v0), (1, 2, v1), (3, 0, v3), (4, 0, v4)]) (pc := 122) hX (by decide) rfl (dk D_X9_settle 63 rfl) ?_
              refine r_iinc (lv' := [(4, 0, (w32 (v4 + 1))), (2, 0, 1), (8, 0, x17), (7, 0, x13), (6, 0, x10), (5, 0, x7), (0, 2, v0), (1, 2, v1), (3, 0, v3)]) (pc := 123) hX 8 rfl (by decide) rfl (dk D_X9_settle 64 rfl) ?_
              refine r_goto (pc := 126) hX 24 rfl (dk D_X9_settle 65 rfl) ?_
              refine r_sub (lv' := [(0, 2, v0), (1, 2, v1), (2, 0, 1), (3, 0, v3), (4, 0, (w32 (v4 + 1)))]) [6, 7, 1, 8, 0] rfl ?_
              exact ih v0 v1 1 v3 (w32 (v4 + 1)) μ18 (R32_lit rfl) q_v3 (R32_w _) h
set_option maxRecDepth 100000 in
set_option maxHeartbeats 4000000 in
theorem L_Wy_settle_L4 {E : EX} {X : CX} {res : Int} {μe : Mem} (hX : Good E X cX9_settle 9 "TollsBack$Ways") (hM : GoodM E X none none μe 0 0) (hRm : cR X = rmOf 2 0 0) : ∀ (n : Nat) (v0 v1 v2 v3 : Int) (μ : Mem) (q_v2 : R32 v2) (q_v3 : R32 v3) (h : Wy_settle_L4 n v0 v1 v2 v3 μ = some (res, μe)), At E X cX9_settle 9 "TollsBack$Ways" (0, 0) 4 [(0, 2, v0), (1, 2, v1), (2, 0, v2), (3, 0, v3)] [] μ := by
  intro n
  induction n with
  | zero =>
    intro v0 v1 v2 v3 μ q_v2 q_v3 h
    have h : (none : Option (Int × Mem)) = some (res, μe) := h
    cases h
  | succ n ih =>
    intro v0 v1 v2 v3 μ q_v2 q_v3 h
    rw [Wy_settle_L4.eq_2] at h
    refine r_iloadn (pc := 4) hX 3 rfl (dk D_X9_settle 4 rfl) ?_
    refine r_aloadn (pc := 5) hX 1 rfl (dk D_X9_settle 5 rfl) ?_
    obtain ⟨x1, hx1, h⟩ := bd_some h
    refine r_getR (pc := 6) hX fl_9_27 rfl hx1 (dk D_X9_settle 6 rfl) ?_
    obtain ⟨x2, hx2, h⟩ := bd_some h
    refine r_getI (pc := 9) hX fl_9_33 rfl rfl hx2 (dk D_X9_settle 7 rfl) (fun qx2 => ?_)
    refine r_icmp_ge (pc := 12) hX q_v3 qx2 135 rfl (dk D_X9_settle 8 rfl) (fun hc => ?_) (fun hc => ?_)
    · rw [if_neg hc] at h
      cases h
      exact r_return (pc := 135) hX hM ⟨by decide, by decide⟩ (dk D_X9_settle 68 rfl)
    · rw [if_pos hc] at h
      refine r_iloadn (pc := 15) hX 2 rfl (dk D_X9_settle 9 rfl) ?_
      refine r_if_eq (pc := 16) hX q_v2 135 rfl (dk D_X9_settle 10 rfl) (fun hc => ?_) (fun hc => ?_)
      · rw [if_pos hc] at h
        cases h
        exact r_return (pc := 135) hX hM ⟨by decide, by decide⟩ (dk D_X9_settle 68 rfl)
      · rw [if_neg hc] at h
        refine r_iconst (pc := 19) hX (dk D_X9_settle 11 rfl) ?_
        refine r_istoren (lv' := [(2, 0, 0), (0, 2, v0), (1, 2, v1), (3, 0, v3)]) (pc := 20) hX (by decide) rfl (dk D_X9_settle 12 rfl) ?_
        refine r_iconst (pc := 21) hX (dk D_X9_settle 13 rfl) ?_
        refine r_istore (lv' := [(4, 0, 0), (2, 0, 0), (0, 2, v0), (1, 2, v1), (3, 0, v3)]) (pc := 22) hX (by decide) rfl (dk D_X9_settle 14 rfl) ?_
        refine r_sub (lv' := [(0, 2, v0), (1, 2, v1), (2, 0, 0), (3, 0, v3), (4, 0, 0)]) [2, 3, 1, 4, 0] rfl ?_
        refine L_Wy_settle_L24 hX hM hRm ?_ FU v0 v1 0 v3 0 μ (R32_lit rfl) q_v3 (R32_lit rfl) h
        intro x3 x4 x5 x6 μ7 qx5 qx6 h
        refine r_iinc (lv' := [(3, 0, (w32 (x6 + 1))), (0, 2, x3), (1, 2, x4), (2, 0, x5)]) (pc := 129) hX 3 rfl (by decide) rfl (dk D_X9_settle 66 rfl) ?_
        refine r_goto (pc := 132) hX 4 rfl (dk D_X9_settle 67 rfl) ?_
        refine r_sub (lv' := [(0, 2, x3), (1, 2, x4), (2, 0, x5), (3, 0, (w32 (x6 + 1)))]) [1, 2, 3, 0] rfl ?_
        exact ih x3 x4 x5 (w32 (x6 + 1)) μ7 qx5 (R32_w _) h
set_option maxRecDepth 100000 in
set_option maxHeartbeats 4000000 in
theorem L_Wy_settle {E : EX} {l : Launch} {a0 a1 res : Int} {μ μ' : Mem}  (h : Wy_settle a0 a1 μ = some (res, μ')) : Ok E l 2 yX9_settle (.code yX9_settle cX9_settle 9 none) 0 0 [(2, a0), (2, a1)] μ none μ' := by
  refine Ok.of (own := "TollsBack$Ways") [(0, 2, a0), (1, 2, a1)] (by decide +kernel) rfl (Nat.le_of_ble_eq_true rfl) rfl ?_
  intro X hL hRm hin hX hM
  unfold Wy_settle at h
  subst hL
  refine r_iconst (pc := 0) hX (dk D_X9_settle 0 rfl) ?_
  refine r_istoren (lv' := [(2, 0, 1), (0, 2, a0), (1, 2, a1)]) (pc := 1) hX (by decide) rfl (dk D_X9_settle 1 rfl) ?_
  refine r_iconst (pc := 2) hX (dk D_X9_settle 2 rfl) ?_
  refine r_istoren (lv' := [(3, 0, 0), (2, 0, 1), (0, 2, a0), (1, 2, a1)]) (pc := 3) hX (by decide) rfl (dk D_X9_settle 3 rfl) ?_
  refine r_sub (lv' := [(0, 2, a0), (1, 2, a1), (2, 0, 1), (3, 0, 0)]) [2, 3, 1, 0] rfl ?_
  refine L_Wy_settle_L4 hX hM hRm FU a0 a1 1 0 μ (R32_lit rfl) (R32_lit rfl) h
set_option maxRecDepth 100000 in
set_option maxHeartbeats 4000000 in
theorem L_Wy_homeCost_L9 {E : EX} {X : CX} {res : Int} {μe : Mem} (hX : Good E X cX9_homeCost 8 "TollsBack$Ways") (hM : GoodM E X (some .int) (some (0, res)) μe 0 0) (hRm : cR X = rmOf 4 0 0) {k48 : Int → Int → Int → Int → Int → Mem → Option (Int × Mem)} (hk48 : ∀ (u0 u1 u2 u3 u4 : Int) (μ : Mem), k48 u0 u1 u2 u3 u4 μ = some (res, μe) → At E X cX9_homeCost 8 "TollsBack$Ways" (0, 0) 48 [(0, 2, u0), (1, 2, u1), (2, 2, u2), (3, 2, u3), (4, 2, u4)] [] μ) : ∀ (n : Nat) (v0 v1 v2 v3 v4 v5 : Int) (μ : Mem) (q_v5 : R32 v5) (h : Wy_homeCost_L9 k48 n v0 v1 v2 v3 v4 v5 μ = some (res, μe)), At E X cX9_homeCost 8 "TollsBack$Ways" (0, 0) 9 [(0, 2, v0), (1, 2, v1), (2, 2, v2), (3, 2, v3), (4, 2, v4), (5, 0, v5)] [] μ := by
  intro n
  induction n with
  | zero =>
    intro v0 v1 v2 v3 v4 v5 μ q_v5 h
    have h : (none : Option (Int × Mem)) = some (res, μe) := h
    cases h
  | succ n ih =>
    intro v0 v1 v2 v3 v4 v5 μ q_v5 h
    rw [Wy_homeCost_L9.eq_2] at h
    refine r_iload (pc := 9) hX 5 rfl (dk D_X9_homeCost 5 rfl) ?_
    refine r_aload (pc := 11) hX 4 rfl (dk D_X9_homeCost 6 rfl) ?_
    obtain ⟨x1, hx1, h⟩ := bd_some h
    refine r_getI (pc := 13) hX fl_9_39 rfl rfl hx1 (dk D_X9_homeCost 7 rfl) (fun qx1 => ?_)
    refine r_icmp_ge (pc := 16) hX q_v5 qx1 48 rfl (dk D_X9_homeCost 8 rfl) (fun hc => ?_) (fun hc => ?_)
    · rw [if_neg hc] at h
      refine r_sub (lv' := [(0, 2, v0), (1, 2, v1), (2, 2, v2), (3, 2, v3), (4, 2, v4)]) [0, 1, 2, 3, 4] rfl ?_
      exact hk48 v0 v1 v2 v3 v4 μ h
    · rw [if_pos hc] at h
      refine r_aloadn (pc := 19) hX 0 rfl (dk D_X9_homeCost 9 rfl) ?_
      obtain ⟨x2, hx2, h⟩ := bd_some h
      refine r_getR (pc := 20) hX fl_9_17 rfl hx2 (dk D_X9_homeCost 10 rfl) ?_
      refine r_iload (pc := 23) hX 5 rfl (dk D_X9_homeCost 11 rfl) ?_
      refine r_aload (pc := 25) hX 4 rfl (dk D_X9_homeCost 12 rfl) ?_
      refine r_iload (pc := 27) hX 5 rfl (dk D_X9_homeCost 13 rfl) ?_
      refine r_aloadn (pc := 29) hX 2 rfl (dk D_X9_homeCost 14 rfl) ?_
      obtain ⟨x3, hx3, h⟩ := bd_some h
      refine r_getI (pc := 30) hX fl_9_56 rfl rfl hx3 (dk D_X9_homeCost 15 rfl) (fun qx3 => ?_)
      obtain ⟨_, hi, h⟩ := bd_some h
      obtain ⟨x4, μ5, hx4, h⟩ := bd2_some h
      refine r_invV0 (As := [(0, v5), (0, x3)]) (pc := 33) hX ml_9_61 (L_Kg_tollOn q_v5 qx3 hx4) (isk_u hi) (Rm_of hRm (by decide) ⟨by decide, by decide⟩) (by decide) rfl (Nat.le_of_ble_eq_true rfl) rfl (dk D_X9_homeCost 16 rfl) (fun qx4 => ?_)
      refine r_bipush (pc := 36) hX rfl (dk D_X9_homeCost 17 rfl) ?_
      refine r_ishl (pc := 38) hX (dk D_X9_homeCost 18 rfl) ?_
      refine r_iconst (pc := 39) hX (dk D_X9_homeCost 19 rfl) ?_
      refine r_iadd (pc := 40) hX (dk D_X9_homeCost 20 rfl) ?_
      obtain ⟨μ6, hμ6, h⟩ := bd_some h
      refine r_iast (pc := 41) hX q_v5 (R32_w _) hμ6 (dk D_X9_homeCost 21 rfl) ?_
      refine r_iinc (lv' := [(5, 0, (w32 (v5 + 1))), (0, 2, v0), (1, 2, v1), (2, 2, v2), (3, 2, v3), (4, 2, v4)]) (pc := 42) hX 5 rfl (by decide) rfl (dk D_X9_homeCost 22 rfl) ?_
      refine r_goto (pc := 45) hX 9 rfl (dk D_X9_homeCost 23 rfl) ?_
      refine r_sub (lv' := [(0, 2, v0), (1, 2, v1), (2, 2, v2), (3, 2, v3), (4, 2, v4), (5, 0, (w32 (v5 + 1)))]) [1, 2, 3, 4, 5, 0] rfl ?_
      exact ih v0 v1 v2 v3 v4 (w32 (v5 + 1)) μ6 (R32_w _) h
set_option maxRecDepth 100000 in
set_option maxHeartbeats 4000000 in
theorem L_Wy_homeCost_L69 {E : EX} {X : CX} {res : Int} {μe : Mem} (hX : Good E X cX9_homeCost 8 "TollsBack$Ways") (hM : GoodM E X (some .int) (some (0, res)) μe 0 0) (hRm : cR X = rmOf 4 0 0) {k147 : Int → Int → Mem → Option (Int × Mem)} (hk147 : ∀ (u0 u1 : Int) (μ : Mem), k147 u0 u1 μ = some (res, μe) → At E X cX9_homeCost 8 "TollsBack$Ways" (0, 0) 147 [(0, 2, u0), (4, 2, u1)] [] μ) : ∀ (n : Nat) (v0 v1 v2 v3 v4 v5 : Int) (μ : Mem) (q_v5 : R32 v5) (h : Wy_homeCost_L69 k147 n v0 v1 v2 v3 v4 v5 μ = some (res, μe)), At E X cX9_homeCost 8 "TollsBack$Ways" (0, 0) 69 [(0, 2, v0), (1, 2, v1), (2, 2, v2), (3, 2, v3), (4, 2, v4), (5, 0, v5)] [] μ := by
  intro n
  induction n with
  | zero =>
    intro v0 v1 v2 v3 v4 v5 μ q_v5 h
    have h : (none : Option (Int × Mem)) = some (res, μe) := h
    cases h
  | succ n ih =>
    intro v0 v1 v2 v3 v4 v5 μ q_v5 h
    rw [Wy_homeCost_L69.eq_2] at h
    refine r_iload (pc := 69) hX 5 rfl (dk D_X9_homeCost 36 rfl) ?_
    refine r_if_lt (pc := 71) hX q_v5 147 rfl (dk D_X9_homeCost 37 rfl) (fun hc => ?_) (fun hc => ?_)
    · rw [if_pos hc] at h
      refine r_sub (lv' := [(0, 2, v0), (4, 2, v4)]) [0, 4] rfl ?_
      exact hk147 v0 v4 μ h
    · rw [if_neg hc] at h
      refine r_aloadn (pc := 74) hX 3 rfl (dk D_X9_homeCost 38 rfl) ?_
      obtain ⟨x1, hx1, h⟩ := bd_some h
      refine r_getR (pc := 75) hX fl_9_79 rfl hx1 (dk D_X9_homeCost 39 rfl) ?_
      refine r_iload (pc := 78) hX 5 rfl (dk D_X9_homeCost 40 rfl) ?_
      obtain ⟨x2, hx2, h⟩ := bd_some h
      refine r_iald (pc := 80) hX q_v5 hx2 (dk D_X9_homeCost 41 rfl) (fun qx2 => ?_)
      refine r_istore (lv' := [(6, 0, x2), (0, 2, v0), (1, 2, v1), (2, 2, v2), (3, 2, v3), (4, 2, v4), (5, 0, v5)]) (pc := 81) hX (by decide) rfl (dk D_X9_homeCost 42 rfl) ?_
      refine r_aload (pc := 83) hX 5 rfl (dk D_X9_homeCost 43 rfl) ?_
      refine r_aloadn (pc := 85) hX 4 rfl (dk D_X9_homeCost 44 rfl) ?_
      refine r_iload (pc := 86) hX 6 rfl (dk D_X9_homeCost 45 rfl) ?_
      refine r_aloadn (pc := 88) hX 3 rfl (dk D_X9_homeCost 46 rfl) ?_
      obtain ⟨x3, hx3, h⟩ := bd_some h
      refine r_getI (pc := 89) hX fl_9_56 rfl rfl hx3 (dk D_X9_homeCost 47 rfl) (fun qx3 => ?_)
      obtain ⟨_, hi, h⟩ := bd_some h
      obtain ⟨x4, μ5, hx4, h⟩ := bd2_some h
      refine r_invV0 (As := [(2, v3), (0, v5), (0, x3)]) (pc := 92) hX ml_9_82 (L_Kg_worthOn q_v5 qx3 hx4) (isk_u hi) (Rm_of hRm (by decide) ⟨by decide, by decide⟩) (by decide) rfl (Nat.le_of_ble_eq_true rfl) rfl (dk D_X9_homeCost 48 rfl) (fun qx4 => ?_)
      refine r_istore (lv' := [(7, 0, x4), (6, 0, x2), (0, 2, v0), (1, 2, v1), (2, 2, v2), (3, 2, v3), (4, 2, v4), (5, 0, v5)]) (pc := 95) hX (by decide) rfl (dk D_X9_homeCost 49 rfl) ?_
      refine r_aloadn (pc := 97) hX 3 rfl (dk D_X9_homeCost 50 rfl) ?_
      refine r_iload (pc := 98) hX 1 rfl (dk D_X9_homeCost 51 rfl) ?_
      refine r_iconst (pc := 100) hX (dk D_X9_homeCost 52 rfl) ?_
      refine r_ishr (pc := 101) hX (dk D_X9_homeCost 53 rfl) ?_
      obtain ⟨_, hi, h⟩ := bd_some h
      obtain ⟨x6, μ7, hx6, h⟩ := bd2_some h
      refine r_invV0 (As := [(0, (shr32 x2 1))]) (pc := 102) hX ml_9_42 (L_Wo_isOpen (R32_t _) hx6) (isk_u hi) (Rm_of hRm (by decide) ⟨by decide, by decide⟩) (by decide) rfl (Nat.le_of_ble_eq_true rfl) rfl (dk D_X9_homeCost 54 rfl) (fun qx6 => ?_)
      refine r_if_eq (pc := 105) hX qx6 141 rfl (dk D_X9_homeCost 55 rfl) (fun hc => ?_) (fun hc => ?_)
      · rw [if_pos hc] at h
        refine r_iinc (lv' := [(5, 0, (w32 (v5 + (-1)))), (7, 0, x4), (6, 0, x2), (0, 2, v0), (1, 2, v1), (2, 2, v2), (3, 2, v3), (4, 2, v4)]) (pc := 141) hX 7 rfl (by decide) rfl (dk D_X9_homeCost 73 rfl) ?_
        refine r_goto (pc := 144) hX 69 rfl (dk D_X9_homeCost 74 rfl) ?_
        refine r_sub (lv' := [(0, 2, v0), (1, 2, v1), (2, 2, v2), (3, 2, v3), (4, 2, v4), (5, 0, (w32 (v5 + (-1))))]) [3, 4, 5, 6, 7, 0] rfl ?_
        exact ih v0 v1 v2 v3 v4 (w32 (v5 + (-1))) μ7 (R32_w _) h
      · rw [if_neg hc] at h
        refine r_aloadn (pc := 108) hX 2 rfl (dk D_X9_homeCost 56 rfl) ?_
        refine r_aload (pc := 109) hX 6 rfl (dk D_X9_homeCost 57 rfl) ?_
        refine r_iload (pc := 111) hX 1 rfl (dk D_X9_homeCost 58 rfl) ?_
        obtain ⟨_, hi, h⟩ := bd_some h
        obtain ⟨x8, μ9, hx8, h⟩ := bd2_some h
        refine r_invV0 (As := [(0, x2)]) (pc := 113) hX ml_9_86 (L_Kg_endOf qx2 hx8) (isk_u hi) (Rm_of hRm (by decide) ⟨by decide, by decide⟩) (by decide) rfl (Nat.le_of_ble_eq_true rfl) rfl (dk D_X9_homeCost 59 rfl) (fun qx8 => ?_)
        refine r_aload (pc := 116) hX 6 rfl (dk D_X9_homeCost 60 rfl) ?_
        refine r_iload (pc := 118) hX 1 rfl (dk D_X9_homeCost 61 rfl) ?_
        obtain ⟨_, hi, h⟩ := bd_some h
        obtain ⟨x10, μ11, hx10, h⟩ := bd2_some h
        refine r_invV0 (As := [(0, x2)]) (pc := 120) hX ml_9_90 (L_Kg_startOf qx2 hx10) (isk_u hi) (Rm_of hRm (by decide) ⟨by decide, by decide⟩) (by decide) rfl (Nat.le_of_ble_eq_true rfl) rfl (dk D_X9_homeCost 62 rfl) (fun qx10 => ?_)
        refine r_iconst (pc := 123) hX (dk D_X9_homeCost 63 rfl) ?_
        refine r_iload (pc := 124) hX 0 rfl (dk D_X9_homeCost 64 rfl) ?_
        refine r_bipush (pc := 126) hX rfl (dk D_X9_homeCost 65 rfl) ?_
        refine r_ishl (pc := 128) hX (dk D_X9_homeCost 66 rfl) ?_
        refine r_isub (pc := 129) hX (dk D_X9_homeCost 67 rfl) ?_
        obtain ⟨_, hi, h⟩ := bd_some h
        obtain ⟨x12, μ13, hx12, h⟩ := bd2_some h
        refine r_invV0 (As := [(0, x8), (0, x10), (0, (w32 (1 - (shl32 x4 10))))]) (pc := 130) hX ml_9_52 (L_Wy_improve qx8 qx10 (R32_w _) hx12) (isk_u hi) (Rm_of hRm (by decide) ⟨by decide, by decide⟩) (by decide) rfl (Nat.le_of_ble_eq_true rfl) rfl (dk D_X9_homeCost 68 rfl) (fun qx12 => ?_)
        refine r_if_eq (pc := 133) hX qx12 141 rfl (dk D_X9_homeCost 69 rfl) (fun hc => ?_) (fun hc => ?_)
        · rw [if_pos hc] at h
          refine r_iinc (lv' := [(5, 0, (w32 (v5 + (-1)))), (7, 0, x4), (6, 0, x2), (0, 2, v0), (1, 2, v1), (2, 2, v2), (3, 2, v3), (4, 2, v4)]) (pc := 141) hX 7 rfl (by decide) rfl (dk D_X9_homeCost 73 rfl) ?_
          refine r_goto (pc := 144) hX 69 rfl (dk D_X9_homeCost 74 rfl) ?_
          refine r_sub (lv' := [(0, 2, v0), (1, 2, v1), (2, 2, v2), (3, 2, v3), (4, 2, v4), (5, 0, (w32 (v5 + (-1))))]) [3, 4, 5, 6, 7, 0] rfl ?_
          exact ih v0 v1 v2 v3 v4 (w32 (v5 + (-1))) μ13 (R32_w _) h
        · rw [if_neg hc] at h
          refine r_aloadn (pc := 136) hX 2 rfl (dk D_X9_homeCost 70 rfl) ?_
          refine r_aloadn (pc := 137) hX 3 rfl (dk D_X9_homeCost 71 rfl) ?_
          obtain ⟨_, hi, h⟩ := bd_some h
          obtain ⟨x14, μ15, hx14, h⟩ := bd2_some h
          refine r_invV0 (As := [(2, v1)]) (pc := 138) hX ml_9_72 (L_Wy_settle hx14) (isk_u hi) (Rm_of hRm (by decide) ⟨by decide, by decide⟩) (by decide) rfl (Nat.le_of_ble_eq_true rfl) rfl (dk D_X9_homeCost 72 rfl) (fun _ => ?_)
          refine r_iinc (lv' := [(5, 0, (w32 (v5 + (-1)))), (7, 0, x4), (6, 0, x2), (0, 2, v0), (1, 2, v1), (2, 2, v2), (3, 2, v3), (4, 2, v4)]) (pc := 141) hX 7 rfl (by decide) rfl (dk D_X9_homeCost 73 rfl) ?_
          refine r_goto (pc := 144) hX 69 rfl (dk D_X9_homeCost 74 rfl) ?_
          refine r_sub (lv' := [(0, 2, v0), (1, 2, v1), (2, 2, v2), (3, 2, v3), (4, 2, v4), (5, 0, (w32 (v5 + (-1))))]) [3, 4, 5, 6, 7, 0] rfl ?_
          exact ih v0 v1 v2 v3 v4 (w32 (v5 + (-1))) μ15 (R32_w _) h
set_option maxRecDepth 100000 in
set_option maxHeartbeats 4000000 in
theorem L_Wy_homeCost {E : EX} {l : Launch} {a0 a1 a2 a3 res : Int} {μ μ' : Mem}  (h : Wy_homeCost a0 a1 a2 a3 μ = some (res, μ')) : Ok E l 4 yX9_homeCost (.code yX9_homeCost cX9_homeCost 8 (some .int)) 0 0 [(2, a0), (2, a1), (2, a2), (2, a3)] μ (some (0, res)) μ' := by
  refine Ok.of (own := "TollsBack$Ways") [(0, 2, a0), (1, 2, a1), (2, 2, a2), (3, 2, a3)] (by decide +kernel) rfl (Nat.le_of_ble_eq_true rfl) rfl ?_
  intro X hL hRm hin hX hM
  unfold Wy_homeCost at h
  subst hL
  refine r_aloadn (pc := 0) hX 1 rfl (dk D_X9_homeCost 0 rfl) ?_
  obtain ⟨x1, hx1, h⟩ := bd_some h
  refine r_getR (pc := 1) hX fl_9_27 rfl hx1 (dk D_X9_homeCost 1 rfl) ?_
  refine r_astore (lv' := [(4, 2, x1), (0, 2, a0), (1, 2, a1), (2, 2, a2), (3, 2, a3)]) (pc := 4) hX (by decide) rfl (dk D_X9_homeCost 2 rfl) ?_
  refine r_iconst (pc := 6) hX (dk D_X9_homeCost 3 rfl) ?_
  refine r_istore (lv' := [(5, 0, 0), (4, 2, x1), (0, 2, a0), (1, 2, a1), (2, 2, a2), (3, 2, a3)]) (pc := 7) hX (by decide) rfl (dk D_X9_homeCost 4 rfl) ?_
  refine r_sub (lv' := [(0, 2, a0), (1, 2, a1), (2, 2, a2), (3, 2, a3), (4, 2, x1), (5, 0, 0)]) [2, 3, 4, 5, 1, 0] rfl ?_
  refine L_Wy_homeCost_L9 hX hM hRm ?_ FU a0 a1 a2 a3 x1 0 μ (R32_lit rfl) h
  intro x2 x3 x4 x5 x6 μ7  h
  refine r_aloadn (pc := 48) hX 0 rfl (dk D_X9_homeCost 24 rfl) ?_
  refine r_aloadn (pc := 49) hX 2 rfl (dk D_X9_homeCost 25 rfl) ?_
  obtain ⟨x8, hx8, h⟩ := bd_some h
  refine r_getI (pc := 50) hX fl_9_65 rfl rfl hx8 (dk D_X9_homeCost 26 rfl) (fun qx8 => ?_)
  obtain ⟨_, hi, h⟩ := bd_some h
  obtain ⟨x9, μ10, hx9, h⟩ := bd2_some h
  refine r_invV0 (As := [(0, x8)]) (pc := 53) hX ml_9_68 (L_Wy_startAt qx8 hx9) (isk_u hi) (Rm_of hRm (by decide) ⟨by decide, by decide⟩) (by decide) rfl (Nat.le_of_ble_eq_true rfl) rfl (dk D_X9_homeCost 27 rfl) (fun _ => ?_)
  refine r_aloadn (pc := 56) hX 0 rfl (dk D_X9_homeCost 28 rfl) ?_
  refine r_aloadn (pc := 57) hX 1 rfl (dk D_X9_homeCost 29 rfl) ?_
  obtain ⟨_, hi, h⟩ := bd_some h
  obtain ⟨x11, μ12, hx11, h⟩ := bd2_some h
  refine r_invV0 (As := [(2, x3)]) (pc := 58) hX ml_9_72 (L_Wy_settle hx11) (isk_u hi) (Rm_of hRm (by decide) ⟨by decide, by decide⟩) (by decide) rfl (Nat.le_of_ble_eq_true rfl) rfl (dk D_X9_homeCost 30 rfl) (fun _ => ?_)
  refine r_aloadn (pc := 61) hX 3 rfl (dk D_X9_homeCost 31 rfl) ?_
  obtain ⟨x13, hx13, h⟩ := bd_some h
  refine r_getI (pc := 62) hX fl_9_76 rfl rfl hx13 (dk D_X9_homeCost 32 rfl) (fun qx13 => ?_)
  refine r_iconst (pc := 65) hX (dk D_X9_homeCost 33 rfl) ?_
  refine r_isub (pc := 66) hX (dk D_X9_homeCost 34 rfl) ?_
  obtain ⟨x14, ex14, h⟩ := bd_some h
  replace ex14 := Option.some.inj ex14
  have qx14 : R32 x14 := ex14 ▸ (R32_w _)
  rw [ex14]
  refine r_istore (lv' := [(5, 0, x14), (0, 2, x2), (1, 2, x3), (2, 2, x4), (3, 2, x5), (4, 2, x6)]) (pc := 67) hX (by decide) rfl (dk D_X9_homeCost 35 rfl) ?_
  refine r_sub (lv' := [(0, 2, x2), (1, 2, x3), (2, 2, x4), (3, 2, x5), (4, 2, x6), (5, 0, x14)]) [1, 2, 3, 4, 5, 0] rfl ?_
  refine L_Wy_homeCost_L69 hX hM hRm ?_ FU x2 x3 x4 x5 x6 x14 μ12 qx14 h
  intro x15 x16 μ17  h
  refine r_aloadn (pc := 147) hX 0 rfl (dk D_X9_homeCost 75 rfl) ?_
  obtain ⟨x18, hx18, h⟩ := bd_some h
  refine r_getR (pc := 148) hX fl_9_11 rfl hx18 (dk D_X9_homeCost 76 rfl) ?_
  refine r_aload (pc := 151) hX 1 rfl (dk D_X9_homeCost 77 rfl) ?_
  obtain ⟨x19, hx19, h⟩ := bd_some h
  refine r_getI (pc := 153) hX fl_9_93 rfl rfl hx19 (dk D_X9_homeCost 78 rfl) (fun qx19 => ?_)
  obtain ⟨x20, hx20, h⟩ := bd_some h
  refine r_iald (pc := 156) hX qx19 hx20 (dk D_X9_homeCost 79 rfl) (fun qx20 => ?_)
  refine r_ldc (pc := 157) hX cn_9_20 (dk D_X9_homeCost 80 rfl) ?_
  refine r_icmp_ne (pc := 159) hX qx20 (R32_lit rfl) 167 rfl (dk D_X9_homeCost 81 rfl) (fun hc => ?_) (fun hc => ?_)
  · rw [if_neg hc] at h
    refine r_aloadn (pc := 167) hX 0 rfl (dk D_X9_homeCost 84 rfl) ?_
    obtain ⟨x21, hx21, h⟩ := bd_some h
    refine r_getR (pc := 168) hX fl_9_11 rfl hx21 (dk D_X9_homeCost 85 rfl) ?_
    refine r_aload (pc := 171) hX 1 rfl (dk D_X9_homeCost 86 rfl) ?_
    obtain ⟨x22, hx22, h⟩ := bd_some h
    refine r_getI (pc := 173) hX fl_9_93 rfl rfl hx22 (dk D_X9_homeCost 87 rfl) (fun qx22 => ?_)
    obtain ⟨x23, hx23, h⟩ := bd_some h
    refine r_iald (pc := 176) hX qx22 hx23 (dk D_X9_homeCost 88 rfl) (fun qx23 => ?_)
    refine r_bipush (pc := 177) hX rfl (dk D_X9_homeCost 89 rfl) ?_
    refine r_ishr (pc := 179) hX (dk D_X9_homeCost 90 rfl) ?_
    cases h
    exact r_ireturn (pc := 180) hX (R32_t _) hM ⟨by decide, by decide⟩ (dk D_X9_homeCost 91 rfl)
  · rw [if_pos hc] at h
    refine r_ldc (pc := 162) hX cn_9_96 (dk D_X9_homeCost 82 rfl) ?_
    refine r_goto (pc := 164) hX 180 rfl (dk D_X9_homeCost 83 rfl) ?_
    cases h
    exact r_ireturn (pc := 180) hX (R32_lit rfl) hM ⟨by decide, by decide⟩ (dk D_X9_homeCost 91 rfl)
set_option maxRecDepth 100000 in
set_option maxHeartbeats 4000000 in
theorem L_Wy_homeRoads {E : EX} {l : Launch} {a0 a1 res : Int} {μ μ' : Mem}  (h : Wy_homeRoads a0 a1 μ = some (res, μ')) : Ok E l 1 yX9_homeRoads (.code yX9_homeRoads cX9_homeRoads 2 (some .int)) 0 0 [(2, a0), (2, a1)] μ (some (0, res)) μ' := by
  refine Ok.of (own := "TollsBack$Ways") [(0, 2, a0), (1, 2, a1)] (by decide +kernel) rfl (Nat.le_of_ble_eq_true rfl) rfl ?_
  intro X hL hRm hin hX hM
  unfold Wy_homeRoads at h
  subst hL
  refine r_aloadn (pc := 0) hX 0 rfl (dk D_X9_homeRoads 0 rfl) ?_
  obtain ⟨x1, hx1, h⟩ := bd_some h
  refine r_getR (pc := 1) hX fl_9_11 rfl hx1 (dk D_X9_homeRoads 1 rfl) ?_
  refine r_aloadn (pc := 4) hX 1 rfl (dk D_X9_homeRoads 2 rfl) ?_
  obtain ⟨x2, hx2, h⟩ := bd_some h
  refine r_getR (pc := 5) hX fl_9_27 rfl hx2 (dk D_X9_homeRoads 3 rfl) ?_
  obtain ⟨x3, hx3, h⟩ := bd_some h
  refine r_getI (pc := 8) hX fl_9_93 rfl rfl hx3 (dk D_X9_homeRoads 4 rfl) (fun qx3 => ?_)
  obtain ⟨x4, hx4, h⟩ := bd_some h
  refine r_iald (pc := 11) hX qx3 hx4 (dk D_X9_homeRoads 5 rfl) (fun qx4 => ?_)
  refine r_sipush (pc := 12) hX rfl (dk D_X9_homeRoads 6 rfl) ?_
  refine r_iand (pc := 15) hX (dk D_X9_homeRoads 7 rfl) ?_
  cases h
  exact r_ireturn (pc := 16) hX (R32_t _) hM ⟨by decide, by decide⟩ (dk D_X9_homeRoads 8 rfl)
set_option maxRecDepth 100000 in
set_option maxHeartbeats 4000000 in
theorem L_Wy_seekLanes_L9 {E : EX} {X : CX} {res : Int} {μe : Mem} (hX : Good E X cX9_seekLanes 6 "TollsBack$Ways") (hM : GoodM E X none none μe 0 0) (hRm : cR X = rmOf 4 0 0) {k56 : Int → Int → Int → Mem → Option (Int × Mem)} (hk56 : ∀ (u0 u1 u2 : Int) (μ : Mem), R32 u2 → k56 u0 u1 u2 μ = some (res, μe) → At E X cX9_seekLanes 6 "TollsBack$Ways" (0, 0) 56 [(0, 2, u0), (1, 2, u1), (2, 0, u2)] [] μ) : ∀ (n : Nat) (v0 v1 v2 v3 v4 v5 : Int) (μ : Mem) (q_v2 : R32 v2) (q_v3 : R32 v3) (q_v5 : R32 v5) (h : Wy_seekLanes_L9 k56 n v0 v1 v2 v3 v4 v5 μ = some (res, μe)), At E X cX9_seekLanes 6 "TollsBack$Ways" (0, 0) 9 [(0, 2, v0), (1, 2, v1), (2, 0, v2), (3, 0, v3), (4, 2, v4), (5, 0, v5)] [] μ := by
  intro n
  induction n with
  | zero =>
    intro v0 v1 v2 v3 v4 v5 μ q_v2 q_v3 q_v5 h
    have h : (none : Option (Int × Mem)) = some (res, μe) := h
    cases h
  | succ n ih =>
    intro v0 v1 v2 v3 v4 v5 μ q_v2 q_v3 q_v5 h
    rw [Wy_seekLanes_L9.eq_2] at h
    refine r_iload (pc := 9) hX 5 rfl (dk D_X9_seekLanes 5 rfl) ?_
    refine r_aload (pc := 11) hX 4 rfl (dk D_X9_seekLanes 6 rfl) ?_
    obtain ⟨x1, hx1, h⟩ := bd_some h
    refine r_getI (pc := 13) hX fl_9_39 rfl rfl hx1 (dk D_X9_seekLanes 7 rfl) (fun qx1 => ?_)
    refine r_icmp_ge (pc := 16) hX q_v5 qx1 56 rfl (dk D_X9_seekLanes 8 rfl) (fun hc => ?_) (fun hc => ?_)
    · rw [if_neg hc] at h
      refine r_sub (lv' := [(0, 2, v0), (1, 2, v1), (2, 0, v2)]) [0, 1, 2] rfl ?_
      exact hk56 v0 v1 v2 μ q_v2 h
    · rw [if_pos hc] at h
      refine r_aloadn (pc := 19) hX 0 rfl (dk D_X9_seekLanes 9 rfl) ?_
      obtain ⟨x2, hx2, h⟩ := bd_some h
      refine r_getR (pc := 20) hX fl_9_17 rfl hx2 (dk D_X9_seekLanes 10 rfl) ?_
      refine r_iload (pc := 23) hX 5 rfl (dk D_X9_seekLanes 11 rfl) ?_
      refine r_aload (pc := 25) hX 4 rfl (dk D_X9_seekLanes 12 rfl) ?_
      refine r_iload (pc := 27) hX 5 rfl (dk D_X9_seekLanes 13 rfl) ?_
      refine r_iloadn (pc := 29) hX 3 rfl (dk D_X9_seekLanes 14 rfl) ?_
      obtain ⟨_, hi, h⟩ := bd_some h
      obtain ⟨x3, μ4, hx3, h⟩ := bd2_some h
      refine r_invV0 (As := [(0, v5), (0, v3)]) (pc := 30) hX ml_9_61 (L_Kg_tollOn q_v5 q_v3 hx3) (isk_u hi) (Rm_of hRm (by decide) ⟨by decide, by decide⟩) (by decide) rfl (Nat.le_of_ble_eq_true rfl) rfl (dk D_X9_seekLanes 15 rfl) (fun qx3 => ?_)
      refine r_bipush (pc := 33) hX rfl (dk D_X9_seekLanes 16 rfl) ?_
      refine r_ishl (pc := 35) hX (dk D_X9_seekLanes 17 rfl) ?_
      refine r_aload (pc := 36) hX 4 rfl (dk D_X9_seekLanes 18 rfl) ?_
      obtain ⟨x5, hx5, h⟩ := bd_some h
      refine r_getR (pc := 38) hX fl_9_97 rfl hx5 (dk D_X9_seekLanes 19 rfl) ?_
      refine r_iload (pc := 41) hX 5 rfl (dk D_X9_seekLanes 20 rfl) ?_
      obtain ⟨x6, hx6, h⟩ := bd_some h
      refine r_iald (pc := 43) hX q_v5 hx6 (dk D_X9_seekLanes 21 rfl) (fun qx6 => ?_)
      refine r_iconst (pc := 44) hX (dk D_X9_seekLanes 22 rfl) ?_
      refine r_ishl (pc := 45) hX (dk D_X9_seekLanes 23 rfl) ?_
      refine r_iadd (pc := 46) hX (dk D_X9_seekLanes 24 rfl) ?_
      refine r_iconst (pc := 47) hX (dk D_X9_seekLanes 25 rfl) ?_
      refine r_iadd (pc := 48) hX (dk D_X9_seekLanes 26 rfl) ?_
      obtain ⟨μ7, hμ7, h⟩ := bd_some h
      refine r_iast (pc := 49) hX q_v5 (R32_w _) hμ7 (dk D_X9_seekLanes 27 rfl) ?_
      refine r_iinc (lv' := [(5, 0, (w32 (v5 + 1))), (0, 2, v0), (1, 2, v1), (2, 0, v2), (3, 0, v3), (4, 2, v4)]) (pc := 50) hX 5 rfl (by decide) rfl (dk D_X9_seekLanes 28 rfl) ?_
      refine r_goto (pc := 53) hX 9 rfl (dk D_X9_seekLanes 29 rfl) ?_
      refine r_sub (lv' := [(0, 2, v0), (1, 2, v1), (2, 0, v2), (3, 0, v3), (4, 2, v4), (5, 0, (w32 (v5 + 1)))]) [1, 2, 3, 4, 5, 0] rfl ?_
      exact ih v0 v1 v2 v3 v4 (w32 (v5 + 1)) μ7 q_v2 q_v3 (R32_w _) h
set_option maxRecDepth 100000 in
set_option maxHeartbeats 4000000 in
theorem L_Wy_seekLanes {E : EX} {l : Launch} {a0 a1 a2 a3 res : Int} {μ μ' : Mem} (q_a2 : R32 a2) (q_a3 : R32 a3) (h : Wy_seekLanes a0 a1 a2 a3 μ = some (res, μ')) : Ok E l 4 yX9_seekLanes (.code yX9_seekLanes cX9_seekLanes 6 none) 0 0 [(2, a0), (2, a1), (0, a2), (0, a3)] μ none μ' := by
  refine Ok.of (own := "TollsBack$Ways") [(0, 2, a0), (1, 2, a1), (2, 0, a2), (3, 0, a3)] (by decide +kernel) rfl (Nat.le_of_ble_eq_true rfl) rfl ?_
  intro X hL hRm hin hX hM
  unfold Wy_seekLanes at h
  subst hL
  refine r_aloadn (pc := 0) hX 1 rfl (dk D_X9_seekLanes 0 rfl) ?_
  obtain ⟨x1, hx1, h⟩ := bd_some h
  refine r_getR (pc := 1) hX fl_9_27 rfl hx1 (dk D_X9_seekLanes 1 rfl) ?_
  refine r_astore (lv' := [(4, 2, x1), (0, 2, a0), (1, 2, a1), (2, 0, a2), (3, 0, a3)]) (pc := 4) hX (by decide) rfl (dk D_X9_seekLanes 2 rfl) ?_
  refine r_iconst (pc := 6) hX (dk D_X9_seekLanes 3 rfl) ?_
  refine r_istore (lv' := [(5, 0, 0), (4, 2, x1), (0, 2, a0), (1, 2, a1), (2, 0, a2), (3, 0, a3)]) (pc := 7) hX (by decide) rfl (dk D_X9_seekLanes 4 rfl) ?_
  refine r_sub (lv' := [(0, 2, a0), (1, 2, a1), (2, 0, a2), (3, 0, a3), (4, 2, x1), (5, 0, 0)]) [2, 3, 4, 5, 1, 0] rfl ?_
  refine L_Wy_seekLanes_L9 hX hM hRm ?_ FU a0 a1 a2 a3 x1 0 μ q_a2 q_a3 (R32_lit rfl) h
  intro x2 x3 x4 μ5 qx4 h
  refine r_aloadn (pc := 56) hX 0 rfl (dk D_X9_seekLanes 30 rfl) ?_
  refine r_iloadn (pc := 57) hX 2 rfl (dk D_X9_seekLanes 31 rfl) ?_
  obtain ⟨_, hi, h⟩ := bd_some h
  obtain ⟨x6, μ7, hx6, h⟩ := bd2_some h
  refine r_invV0 (As := [(0, x4)]) (pc := 58) hX ml_9_68 (L_Wy_startAt qx4 hx6) (isk_u hi) (Rm_of hRm (by decide) ⟨by decide, by decide⟩) (by decide) rfl (Nat.le_of_ble_eq_true rfl) rfl (dk D_X9_seekLanes 32 rfl) (fun _ => ?_)
  refine r_aloadn (pc := 61) hX 0 rfl (dk D_X9_seekLanes 33 rfl) ?_
  refine r_aloadn (pc := 62) hX 1 rfl (dk D_X9_seekLanes 34 rfl) ?_
  obtain ⟨_, hi, h⟩ := bd_some h
  obtain ⟨x8, μ9, hx8, h⟩ := bd2_some h
  refine r_invV0 (As := [(2, x3)]) (pc := 63) hX ml_9_72 (L_Wy_settle hx8) (isk_u hi) (Rm_of hRm (by decide) ⟨by decide, by decide⟩) (by decide) rfl (Nat.le_of_ble_eq_true rfl) rfl (dk D_X9_seekLanes 35 rfl) (fun _ => ?_)
  cases h
  exact r_return (pc := 66) hX hM ⟨by decide, by decide⟩ (dk D_X9_seekLanes 36 rfl)
set_option maxRecDepth 100000 in
set_option maxHeartbeats 4000000 in
theorem L_Wy_laneTolls {E : EX} {l : Launch} {a0 a1 res : Int} {μ μ' : Mem} (q_a1 : R32 a1) (h : Wy_laneTolls a0 a1 μ = some (res, μ')) : Ok E l 1 yX9_laneTolls (.code yX9_laneTolls cX9_laneTolls 2 (some .int)) 0 0 [(2, a0), (0, a1)] μ (some (0, res)) μ' := by
  refine Ok.of (own := "TollsBack$Ways") [(0, 2, a0), (1, 0, a1)] (by decide +kernel) rfl (Nat.le_of_ble_eq_true rfl) rfl ?_
  intro X hL hRm hin hX hM
  unfold Wy_laneTolls at h
  subst hL
  refine r_aloadn (pc := 0) hX 0 rfl (dk D_X9_laneTolls 0 rfl) ?_
  obtain ⟨x1, hx1, h⟩ := bd_some h
  refine r_getR (pc := 1) hX fl_9_11 rfl hx1 (dk D_X9_laneTolls 1 rfl) ?_
  refine r_iloadn (pc := 4) hX 1 rfl (dk D_X9_laneTolls 2 rfl) ?_
  obtain ⟨x2, hx2, h⟩ := bd_some h
  refine r_iald (pc := 5) hX q_a1 hx2 (dk D_X9_laneTolls 3 rfl) (fun qx2 => ?_)
  refine r_bipush (pc := 6) hX rfl (dk D_X9_laneTolls 4 rfl) ?_
  refine r_ishr (pc := 8) hX (dk D_X9_laneTolls 5 rfl) ?_
  cases h
  exact r_ireturn (pc := 9) hX (R32_t _) hM ⟨by decide, by decide⟩ (dk D_X9_laneTolls 6 rfl)
set_option maxRecDepth 100000 in
set_option maxHeartbeats 4000000 in
theorem L_Wy_laneDays {E : EX} {l : Launch} {a0 a1 res : Int} {μ μ' : Mem} (q_a1 : R32 a1) (h : Wy_laneDays a0 a1 μ = some (res, μ')) : Ok E l 1 yX9_laneDays (.code yX9_laneDays cX9_laneDays 2 (some .int)) 0 0 [(2, a0), (0, a1)] μ (some (0, res)) μ' := by
  refine Ok.of (own := "TollsBack$Ways") [(0, 2, a0), (1, 0, a1)] (by decide +kernel) rfl (Nat.le_of_ble_eq_true rfl) rfl ?_
  intro X hL hRm hin hX hM
  unfold Wy_laneDays at h
  subst hL
  refine r_aloadn (pc := 0) hX 0 rfl (dk D_X9_laneDays 0 rfl) ?_
  obtain ⟨x1, hx1, h⟩ := bd_some h
  refine r_getR (pc := 1) hX fl_9_11 rfl hx1 (dk D_X9_laneDays 1 rfl) ?_
  refine r_iloadn (pc := 4) hX 1 rfl (dk D_X9_laneDays 2 rfl) ?_
  obtain ⟨x2, hx2, h⟩ := bd_some h
  refine r_iald (pc := 5) hX q_a1 hx2 (dk D_X9_laneDays 3 rfl) (fun qx2 => ?_)
  refine r_iconst (pc := 6) hX (dk D_X9_laneDays 4 rfl) ?_
  refine r_ishr (pc := 7) hX (dk D_X9_laneDays 5 rfl) ?_
  refine r_sipush (pc := 8) hX rfl (dk D_X9_laneDays 6 rfl) ?_
  refine r_iand (pc := 11) hX (dk D_X9_laneDays 7 rfl) ?_
  cases h
  exact r_ireturn (pc := 12) hX (R32_t _) hM ⟨by decide, by decide⟩ (dk D_X9_laneDays 8 rfl)
set_option maxRecDepth 100000 in
set_option maxHeartbeats 4000000 in
theorem L_Wy_laneRoads {E : EX} {l : Launch} {a0 a1 res : Int} {μ μ' : Mem} (q_a1 : R32 a1) (h : Wy_laneRoads a0 a1 μ = some (res, μ')) : Ok E l 1 yX9_laneRoads (.code yX9_laneRoads cX9_laneRoads 2 (some .int)) 0 0 [(2, a0), (0, a1)] μ (some (0, res)) μ' := by
  refine Ok.of (own := "TollsBack$Ways") [(0, 2, a0), (1, 0, a1)] (by decide +kernel) rfl (Nat.le_of_ble_eq_true rfl) rfl ?_
  intro X hL hRm hin hX hM
  unfold Wy_laneRoads at h
  subst hL
  refine r_aloadn (pc := 0) hX 0 rfl (dk D_X9_laneRoads 0 rfl) ?_
  obtain ⟨x1, hx1, h⟩ := bd_some h
  refine r_getR (pc := 1) hX fl_9_11 rfl hx1 (dk D_X9_laneRoads 1 rfl) ?_
  refine r_iloadn (pc := 4) hX 1 rfl (dk D_X9_laneRoads 2 rfl) ?_
  obtain ⟨x2, hx2, h⟩ := bd_some h
  refine r_iald (pc := 5) hX q_a1 hx2 (dk D_X9_laneRoads 3 rfl) (fun qx2 => ?_)
  refine r_bipush (pc := 6) hX rfl (dk D_X9_laneRoads 4 rfl) ?_
  refine r_iand (pc := 8) hX (dk D_X9_laneRoads 5 rfl) ?_
  cases h
  exact r_ireturn (pc := 9) hX (R32_t _) hM ⟨by decide, by decide⟩ (dk D_X9_laneRoads 6 rfl)
set_option maxRecDepth 100000 in
set_option maxHeartbeats 4000000 in
theorem L_Wy_firstLaneRoad_L2 {E : EX} {X : CX} {res : Int} {μe : Mem} (hX : Good E X cX9_firstLaneRoad 5 "TollsBack$Ways") (hM : GoodM E X (some .int) (some (0, res)) μe 0 0) (hRm : cR X = rmOf 2 0 0) : ∀ (n : Nat) (v0 v1 v2 v3 : Int) (μ : Mem) (q_v2 : R32 v2) (q_v3 : R32 v3) (h : Wy_firstLaneRoad_L2 n v0 v1 v2 v3 μ = some (res, μe)), At E X cX9_firstLaneRoad 5 "TollsBack$Ways" (0, 0) 2 [(0, 2, v0), (1, 2, v1), (2, 0, v2), (3, 0, v3)] [] μ := by
  intro n
  induction n with
  | zero =>
    intro v0 v1 v2 v3 μ q_v2 q_v3 h
    have h : (none : Option (Int × Mem)) = some (res, μe) := h
    cases h
  | succ n ih =>
    intro v0 v1 v2 v3 μ q_v2 q_v3 h
    rw [Wy_firstLaneRoad_L2.eq_2] at h
    refine r_iloadn (pc := 2) hX 3 rfl (dk D_X9_firstLaneRoad 2 rfl) ?_
    refine r_aloadn (pc := 3) hX 1 rfl (dk D_X9_firstLaneRoad 3 rfl) ?_
    obtain ⟨x1, hx1, h⟩ := bd_some h
    refine r_getR (pc := 4) hX fl_9_27 rfl hx1 (dk D_X9_firstLaneRoad 4 rfl) ?_
    obtain ⟨x2, hx2, h⟩ := bd_some h
    refine r_getI (pc := 7) hX fl_9_39 rfl rfl hx2 (dk D_X9_firstLaneRoad 5 rfl) (fun qx2 => ?_)
    refine r_icmp_ge (pc := 10) hX q_v3 qx2 87 rfl (dk D_X9_firstLaneRoad 6 rfl) (fun hc => ?_) (fun hc => ?_)
    · rw [if_neg hc] at h
      refine r_iconst (pc := 87) hX (dk D_X9_firstLaneRoad 47 rfl) ?_
      cases h
      exact r_ireturn (pc := 88) hX (R32_lit rfl) hM ⟨by decide, by decide⟩ (dk D_X9_firstLaneRoad 48 rfl)
    · rw [if_pos hc] at h
      refine r_aloadn (pc := 13) hX 1 rfl (dk D_X9_firstLaneRoad 7 rfl) ?_
      refine r_iloadn (pc := 14) hX 3 rfl (dk D_X9_firstLaneRoad 8 rfl) ?_
      obtain ⟨_, hi, h⟩ := bd_some h
      obtain ⟨x3, μ4, hx3, h⟩ := bd2_some h
      refine r_invV0 (As := [(0, v3)]) (pc := 15) hX ml_9_42 (L_Wo_isOpen q_v3 hx3) (isk_u hi) (Rm_of hRm (by decide) ⟨by decide, by decide⟩) (by decide) rfl (Nat.le_of_ble_eq_true rfl) rfl (dk D_X9_firstLaneRoad 9 rfl) (fun qx3 => ?_)
      refine r_if_eq (pc := 18) hX qx3 81 rfl (dk D_X9_firstLaneRoad 10 rfl) (fun hc => ?_) (fun hc => ?_)
      · rw [if_pos hc] at h
        refine r_iinc (lv' := [(3, 0, (w32 (v3 + 1))), (0, 2, v0), (1, 2, v1), (2, 0, v2)]) (pc := 81) hX 3 rfl (by decide) rfl (dk D_X9_firstLaneRoad 45 rfl) ?_
        refine r_goto (pc := 84) hX 2 rfl (dk D_X9_firstLaneRoad 46 rfl) ?_
        refine r_sub (lv' := [(0, 2, v0), (1, 2, v1), (2, 0, v2), (3, 0, (w32 (v3 + 1)))]) [1, 2, 3, 0] rfl ?_
        exact ih v0 v1 v2 (w32 (v3 + 1)) μ4 q_v2 (R32_w _) h
      · rw [if_neg hc] at h
        refine r_aloadn (pc := 21) hX 1 rfl (dk D_X9_firstLaneRoad 11 rfl) ?_
        obtain ⟨x5, hx5, h⟩ := bd_some h
        refine r_getR (pc := 22) hX fl_9_27 rfl hx5 (dk D_X9_firstLaneRoad 12 rfl) ?_
        refine r_iloadn (pc := 25) hX 3 rfl (dk D_X9_firstLaneRoad 13 rfl) ?_
        refine r_iloadn (pc := 26) hX 2 rfl (dk D_X9_firstLaneRoad 14 rfl) ?_
        obtain ⟨_, hi, h⟩ := bd_some h
        obtain ⟨x6, μ7, hx6, h⟩ := bd2_some h
        refine r_invV0 (As := [(0, v3), (0, v2)]) (pc := 27) hX ml_9_107 (L_Kg_leadsFrom q_v3 q_v2 hx6) (isk_u hi) (Rm_of hRm (by decide) ⟨by decide, by decide⟩) (by decide) rfl (Nat.le_of_ble_eq_true rfl) rfl (dk D_X9_firstLaneRoad 15 rfl) (fun qx6 => ?_)
        refine r_if_eq (pc := 30) hX qx6 81 rfl (dk D_X9_firstLaneRoad 16 rfl) (fun hc => ?_) (fun hc => ?_)
        · rw [if_pos hc] at h
          refine r_iinc (lv' := [(3, 0, (w32 (v3 + 1))), (0, 2, v0), (1, 2, v1), (2, 0, v2)]) (pc := 81) hX 3 rfl (by decide) rfl (dk D_X9_firstLaneRoad 45 rfl) ?_
          refine r_goto (pc := 84) hX 2 rfl (dk D_X9_firstLaneRoad 46 rfl) ?_
          refine r_sub (lv' := [(0, 2, v0), (1, 2, v1), (2, 0, v2), (3, 0, (w32 (v3 + 1)))]) [1, 2, 3, 0] rfl ?_
          exact ih v0 v1 v2 (w32 (v3 + 1)) μ7 q_v2 (R32_w _) h
        · rw [if_neg hc] at h
          refine r_aloadn (pc := 33) hX 1 rfl (dk D_X9_firstLaneRoad 17 rfl) ?_
          obtain ⟨x8, hx8, h⟩ := bd_some h
          refine r_getR (pc := 34) hX fl_9_27 rfl hx8 (dk D_X9_firstLaneRoad 18 rfl) ?_
          refine r_iloadn (pc := 37) hX 3 rfl (dk D_X9_firstLaneRoad 19 rfl) ?_
          refine r_iloadn (pc := 38) hX 2 rfl (dk D_X9_firstLaneRoad 20 rfl) ?_
          obtain ⟨_, hi, h⟩ := bd_some h
          obtain ⟨x9, μ10, hx9, h⟩ := bd2_some h
          refine r_invV0 (As := [(0, v3), (0, v2)]) (pc := 39) hX ml_9_104 (L_Kg_across q_v3 q_v2 hx9) (isk_u hi) (Rm_of hRm (by decide) ⟨by decide, by decide⟩) (by decide) rfl (Nat.le_of_ble_eq_true rfl) rfl (dk D_X9_firstLaneRoad 21 rfl) (fun qx9 => ?_)
          refine r_istore (lv' := [(4, 0, x9), (0, 2, v0), (1, 2, v1), (2, 0, v2), (3, 0, v3)]) (pc := 42) hX (by decide) rfl (dk D_X9_firstLaneRoad 22 rfl) ?_
          refine r_aloadn (pc := 44) hX 1 rfl (dk D_X9_firstLaneRoad 23 rfl) ?_
          obtain ⟨x11, hx11, h⟩ := bd_some h
          refine r_getR (pc := 45) hX fl_9_11 rfl hx11 (dk D_X9_firstLaneRoad 24 rfl) ?_
          refine r_iload (pc := 48) hX 0 rfl (dk D_X9_firstLaneRoad 25 rfl) ?_
          obtain ⟨x12, hx12, h⟩ := bd_some h
          refine r_iald (pc := 50) hX qx9 hx12 (dk D_X9_firstLaneRoad 26 rfl) (fun qx12 => ?_)
          refine r_ldc (pc := 51) hX cn_9_20 (dk D_X9_firstLaneRoad 27 rfl) ?_
          refine r_icmp_eq (pc := 53) hX qx12 (R32_lit rfl) 81 rfl (dk D_X9_firstLaneRoad 28 rfl) (fun hc => ?_) (fun hc => ?_)
          · rw [if_pos hc] at h
            refine r_iinc (lv' := [(3, 0, (w32 (v3 + 1))), (4, 0, x9), (0, 2, v0), (1, 2, v1), (2, 0, v2)]) (pc := 81) hX 4 rfl (by decide) rfl (dk D_X9_firstLaneRoad 45 rfl) ?_
            refine r_goto (pc := 84) hX 2 rfl (dk D_X9_firstLaneRoad 46 rfl) ?_
            refine r_sub (lv' := [(0, 2, v0), (1, 2, v1), (2, 0, v2), (3, 0, (w32 (v3 + 1)))]) [2, 3, 4, 0] rfl ?_
            exact ih v0 v1 v2 (w32 (v3 + 1)) μ10 q_v2 (R32_w _) h
          · rw [if_neg hc] at h
            refine r_aloadn (pc := 56) hX 1 rfl (dk D_X9_firstLaneRoad 29 rfl) ?_
            obtain ⟨x13, hx13, h⟩ := bd_some h
            refine r_getR (pc := 57) hX fl_9_11 rfl hx13 (dk D_X9_firstLaneRoad 30 rfl) ?_
            refine r_iload (pc := 60) hX 0 rfl (dk D_X9_firstLaneRoad 31 rfl) ?_
            obtain ⟨x14, hx14, h⟩ := bd_some h
            refine r_iald (pc := 62) hX qx9 hx14 (dk D_X9_firstLaneRoad 32 rfl) (fun qx14 => ?_)
            refine r_aloadn (pc := 63) hX 1 rfl (dk D_X9_firstLaneRoad 33 rfl) ?_
            obtain ⟨x15, hx15, h⟩ := bd_some h
            refine r_getR (pc := 64) hX fl_9_17 rfl hx15 (dk D_X9_firstLaneRoad 34 rfl) ?_
            refine r_iloadn (pc := 67) hX 4 rfl (dk D_X9_firstLaneRoad 35 rfl) ?_
            obtain ⟨x16, hx16, h⟩ := bd_some h
            refine r_iald (pc := 68) hX q_v3 hx16 (dk D_X9_firstLaneRoad 36 rfl) (fun qx16 => ?_)
            refine r_iadd (pc := 69) hX (dk D_X9_firstLaneRoad 37 rfl) ?_
            refine r_aloadn (pc := 70) hX 1 rfl (dk D_X9_firstLaneRoad 38 rfl) ?_
            obtain ⟨x17, hx17, h⟩ := bd_some h
            refine r_getR (pc := 71) hX fl_9_11 rfl hx17 (dk D_X9_firstLaneRoad 39 rfl) ?_
            refine r_iloadn (pc := 74) hX 3 rfl (dk D_X9_firstLaneRoad 40 rfl) ?_
            obtain ⟨x18, hx18, h⟩ := bd_some h
            refine r_iald (pc := 75) hX q_v2 hx18 (dk D_X9_firstLaneRoad 41 rfl) (fun qx18 => ?_)
            refine r_icmp_ne (pc := 76) hX (R32_w _) qx18 81 rfl (dk D_X9_firstLaneRoad 42 rfl) (fun hc => ?_) (fun hc => ?_)
            · rw [if_neg hc] at h
              refine r_iinc (lv' := [(3, 0, (w32 (v3 + 1))), (4, 0, x9), (0, 2, v0), (1, 2, v1), (2, 0, v2)]) (pc := 81) hX 4 rfl (by decide) rfl (dk D_X9_firstLaneRoad 45 rfl) ?_
              refine r_goto (pc := 84) hX 2 rfl (dk D_X9_firstLaneRoad 46 rfl) ?_
              refine r_sub (lv' := [(0, 2, v0), (1, 2, v1), (2, 0, v2), (3, 0, (w32 (v3 + 1)))]) [2, 3, 4, 0] rfl ?_
              exact ih v0 v1 v2 (w32 (v3 + 1)) μ10 q_v2 (R32_w _) h
            · rw [if_pos hc] at h
              refine r_iloadn (pc := 79) hX 4 rfl (dk D_X9_firstLaneRoad 43 rfl) ?_
              cases h
              exact r_ireturn (pc := 80) hX q_v3 hM ⟨by decide, by decide⟩ (dk D_X9_firstLaneRoad 44 rfl)
set_option maxRecDepth 100000 in
set_option maxHeartbeats 4000000 in
theorem L_Wy_firstLaneRoad {E : EX} {l : Launch} {a0 a1 a2 res : Int} {μ μ' : Mem} (q_a2 : R32 a2) (h : Wy_firstLaneRoad a0 a1 a2 μ = some (res, μ')) : Ok E l 2 yX9_firstLaneRoad (.code yX9_firstLaneRoad cX9_firstLaneRoad 5 (some .int)) 0 0 [(2, a0), (2, a1), (0, a2)] μ (some (0, res)) μ' := by
  refine Ok.of (own := "TollsBack$Ways") [(0, 2, a0), (1, 2, a1), (2, 0, a2)] (by decide +kernel) rfl (Nat.le_of_ble_eq_true rfl) rfl ?_
  intro X hL hRm hin hX hM
  unfold Wy_firstLaneRoad at h
  subst hL
  refine r_iconst (pc := 0) hX (dk D_X9_firstLaneRoad 0 rfl) ?_
  refine r_istoren (lv' := [(3, 0, 0), (0, 2, a0), (1, 2, a1), (2, 0, a2)]) (pc := 1) hX (by decide) rfl (dk D_X9_firstLaneRoad 1 rfl) ?_
  refine r_sub (lv' := [(0, 2, a0), (1, 2, a1), (2, 0, a2), (3, 0, 0)]) [1, 2, 3, 0] rfl ?_
  refine L_Wy_firstLaneRoad_L2 hX hM hRm FU a0 a1 a2 0 μ q_a2 (R32_lit rfl) h
set_option maxRecDepth 100000 in
set_option maxHeartbeats 4000000 in
theorem L_Wy_laneRoad_L9 {E : EX} {X : CX} {res : Int} {μe : Mem} (hX : Good E X cX9_laneRoad 7 "TollsBack$Ways") (hM : GoodM E X (some .int) (some (0, res)) μe 0 0) (hRm : cR X = rmOf 3 0 0) : ∀ (n : Nat) (v0 v1 v3 v4 v5 v6 : Int) (μ : Mem) (q_v3 : R32 v3) (q_v4 : R32 v4) (q_v5 : R32 v5) (q_v6 : R32 v6) (h : Wy_laneRoad_L9 n v0 v1 v3 v4 v5 v6 μ = some (res, μe)), At E X cX9_laneRoad 7 "TollsBack$Ways" (0, 0) 9 [(0, 2, v0), (1, 2, v1), (3, 0, v3), (4, 0, v4), (5, 0, v5), (6, 0, v6)] [] μ := by
  intro n
  induction n with
  | zero =>
    intro v0 v1 v3 v4 v5 v6 μ q_v3 q_v4 q_v5 q_v6 h
    have h : (none : Option (Int × Mem)) = some (res, μe) := h
    cases h
  | succ n ih =>
    intro v0 v1 v3 v4 v5 v6 μ q_v3 q_v4 q_v5 q_v6 h
    rw [Wy_laneRoad_L9.eq_2] at h
    refine r_iload (pc := 9) hX 5 rfl (dk D_X9_laneRoad 6 rfl) ?_
    refine r_iloadn (pc := 11) hX 2 rfl (dk D_X9_laneRoad 7 rfl) ?_
    refine r_icmp_gt (pc := 12) hX q_v6 q_v3 51 rfl (dk D_X9_laneRoad 8 rfl) (fun hc => ?_) (fun hc => ?_)
    · rw [if_pos hc] at h
      refine r_iload (pc := 51) hX 4 rfl (dk D_X9_laneRoad 27 rfl) ?_
      cases h
      exact r_ireturn (pc := 53) hX q_v5 hM ⟨by decide, by decide⟩ (dk D_X9_laneRoad 28 rfl)
    · rw [if_neg hc] at h
      refine r_aloadn (pc := 15) hX 0 rfl (dk D_X9_laneRoad 9 rfl) ?_
      refine r_aloadn (pc := 16) hX 1 rfl (dk D_X9_laneRoad 10 rfl) ?_
      refine r_iload (pc := 17) hX 3 rfl (dk D_X9_laneRoad 11 rfl) ?_
      obtain ⟨_, hi, h⟩ := bd_some h
      obtain ⟨x1, μ2, hx1, h⟩ := bd2_some h
      refine r_invV0 (As := [(2, v1), (0, v4)]) (pc := 19) hX ml_9_100 (L_Wy_firstLaneRoad q_v4 hx1) (isk_u hi) (Rm_of hRm (by decide) ⟨by decide, by decide⟩) (by decide) rfl (Nat.le_of_ble_eq_true rfl) rfl (dk D_X9_laneRoad 12 rfl) (fun qx1 => ?_)
      refine r_istore (lv' := [(5, 0, x1), (0, 2, v0), (1, 2, v1), (3, 0, v3), (4, 0, v4), (6, 0, v6)]) (pc := 22) hX (by decide) rfl (dk D_X9_laneRoad 13 rfl) ?_
      refine r_iload (pc := 24) hX 0 rfl (dk D_X9_laneRoad 14 rfl) ?_
      refine r_iconst (pc := 26) hX (dk D_X9_laneRoad 15 rfl) ?_
      refine r_icmp_ne (pc := 27) hX qx1 (R32_lit rfl) 32 rfl (dk D_X9_laneRoad 16 rfl) (fun hc => ?_) (fun hc => ?_)
      · rw [if_neg hc] at h
        refine r_aloadn (pc := 32) hX 2 rfl (dk D_X9_laneRoad 19 rfl) ?_
        obtain ⟨x3, hx3, h⟩ := bd_some h
        refine r_getR (pc := 33) hX fl_9_27 rfl hx3 (dk D_X9_laneRoad 20 rfl) ?_
        refine r_iload (pc := 36) hX 0 rfl (dk D_X9_laneRoad 21 rfl) ?_
        refine r_iload (pc := 38) hX 4 rfl (dk D_X9_laneRoad 22 rfl) ?_
        obtain ⟨_, hi, h⟩ := bd_some h
        obtain ⟨x4, μ5, hx4, h⟩ := bd2_some h
        refine r_invV0 (As := [(0, x1), (0, v4)]) (pc := 40) hX ml_9_104 (L_Kg_across qx1 q_v4 hx4) (isk_u hi) (Rm_of hRm (by decide) ⟨by decide, by decide⟩) (by decide) rfl (Nat.le_of_ble_eq_true rfl) rfl (dk D_X9_laneRoad 23 rfl) (fun qx4 => ?_)
        refine r_istore (lv' := [(4, 0, x4), (5, 0, x1), (0, 2, v0), (1, 2, v1), (3, 0, v3), (6, 0, v6)]) (pc := 43) hX (by decide) rfl (dk D_X9_laneRoad 24 rfl) ?_
        refine r_iinc (lv' := [(6, 0, (w32 (v6 + 1))), (4, 0, x4), (5, 0, x1), (0, 2, v0), (1, 2, v1), (3, 0, v3)]) (pc := 45) hX 5 rfl (by decide) rfl (dk D_X9_laneRoad 25 rfl) ?_
        refine r_goto (pc := 48) hX 9 rfl (dk D_X9_laneRoad 26 rfl) ?_
        refine r_sub (lv' := [(0, 2, v0), (1, 2, v1), (3, 0, v3), (4, 0, x4), (5, 0, x1), (6, 0, (w32 (v6 + 1)))]) [3, 4, 5, 1, 2, 0] rfl ?_
        exact ih v0 v1 v3 x4 x1 (w32 (v6 + 1)) μ5 q_v3 qx4 qx1 (R32_w _) h
      · rw [if_pos hc] at h
        refine r_iconst (pc := 30) hX (dk D_X9_laneRoad 17 rfl) ?_
        cases h
        exact r_ireturn (pc := 31) hX (R32_lit rfl) hM ⟨by decide, by decide⟩ (dk D_X9_laneRoad 18 rfl)
set_option maxRecDepth 100000 in
set_option maxHeartbeats 4000000 in
theorem L_Wy_laneRoad {E : EX} {l : Launch} {a0 a1 a2 a3 res : Int} {μ μ' : Mem} (q_a2 : R32 a2) (q_a3 : R32 a3) (h : Wy_laneRoad a0 a1 a2 a3 μ = some (res, μ')) : Ok E l 3 yX9_laneRoad (.code yX9_laneRoad cX9_laneRoad 7 (some .int)) 0 0 [(2, a0), (2, a1), (0, a2), (0, a3)] μ (some (0, res)) μ' := by
  refine Ok.of (own := "TollsBack$Ways") [(0, 2, a0), (1, 2, a1), (2, 0, a2), (3, 0, a3)] (by decide +kernel) rfl (Nat.le_of_ble_eq_true rfl) rfl ?_
  intro X hL hRm hin hX hM
  unfold Wy_laneRoad at h
  subst hL
  refine r_iloadn (pc := 0) hX 2 rfl (dk D_X9_laneRoad 0 rfl) ?_
  refine r_istore (lv' := [(4, 0, a2), (0, 2, a0), (1, 2, a1), (2, 0, a2), (3, 0, a3)]) (pc := 1) hX (by decide) rfl (dk D_X9_laneRoad 1 rfl) ?_
  refine r_iconst (pc := 3) hX (dk D_X9_laneRoad 2 rfl) ?_
  refine r_istore (lv' := [(5, 0, (-1)), (4, 0, a2), (0, 2, a0), (1, 2, a1), (2, 0, a2), (3, 0, a3)]) (pc := 4) hX (by decide) rfl (dk D_X9_laneRoad 3 rfl) ?_
  refine r_iconst (pc := 6) hX (dk D_X9_laneRoad 4 rfl) ?_
  refine r_istore (lv' := [(6, 0, 0), (5, 0, (-1)), (4, 0, a2), (0, 2, a0), (1, 2, a1), (2, 0, a2), (3, 0, a3)]) (pc := 7) hX (by decide) rfl (dk D_X9_laneRoad 5 rfl) ?_
  refine r_sub (lv' := [(0, 2, a0), (1, 2, a1), (3, 0, a3), (4, 0, a2), (5, 0, (-1)), (6, 0, 0)]) [3, 4, 6, 2, 1, 0] rfl ?_
  refine L_Wy_laneRoad_L9 hX hM hRm FU a0 a1 a3 a2 (-1) 0 μ q_a3 q_a2 (R32_lit rfl) (R32_lit rfl) h
set_option maxRecDepth 100000 in
set_option maxHeartbeats 4000000 in
theorem L_Wo_init_L35 {E : EX} {X : CX} {res : Int} {μe : Mem} (hX : Good E X cX10_init 2 "TollsBack$World") (hM : GoodM E X none none μe 36 1762) (hRm : cR X = rmOf 3 36 1762) : ∀ (n : Nat) (v0 v1 : Int) (μ : Mem) (c0 s0 : Nat) (hcs : c0 + n * 4 ≤ 36 ∧ s0 + n * 129 ≤ 1762) (q_v1 : R32 v1) (h : Wo_init_L35 n v0 v1 μ = some (res, μe)), At E X cX10_init 2 "TollsBack$World" (c0, s0) 35 [(0, 2, v0), (1, 0, v1)] [] μ := by
  intro n
  induction n with
  | zero =>
    intro v0 v1 μ c0 s0 hcs q_v1 h
    have h : (none : Option (Int × Mem)) = some (res, μe) := h
    cases h
  | succ n ih =>
    intro v0 v1 μ c0 s0 hcs q_v1 h
    rw [Wo_init_L35.eq_2] at h
    refine r_iloadn (pc := 35) (cs := (c0, s0)) hX 1 rfl (dk D_X10_init 17 rfl) ?_
    refine r_bipush (pc := 36) (cs := (c0, s0)) hX rfl (dk D_X10_init 18 rfl) ?_
    refine r_icmp_ge (pc := 38) (cs := (c0, s0)) hX q_v1 (R32_lit rfl) 60 rfl (dk D_X10_init 19 rfl) (fun hc => ?_) (fun hc => ?_)
    · rw [if_neg hc] at h
      cases h
      exact r_return (pc := 60) hX hM ⟨by (try dsimp only); omega, by (try dsimp only); omega⟩ (dk D_X10_init 29 rfl)
    · rw [if_pos hc] at h
      refine r_aloadn (pc := 41) (cs := (c0, s0)) hX 0 rfl (dk D_X10_init 20 rfl) ?_
      obtain ⟨x1, hx1, h⟩ := bd_some h
      refine r_getR (pc := 42) (cs := (c0, s0)) hX fl_10_20 rfl hx1 (dk D_X10_init 21 rfl) ?_
      refine r_iloadn (pc := 45) (cs := (c0, s0)) hX 1 rfl (dk D_X10_init 22 rfl) ?_
      refine r_new (pc := 46) (cs := (c0, s0)) hX nw_10_18 (by rw [hRm]; exact ⟨by (show _ ≤ (rmOf _ _ _).cells); (simp only [rmOf]); omega, by (show _ ≤ (rmOf _ _ _).slots); (simp only [rmOf]); omega⟩) (dk D_X10_init 23 rfl) ?_
      refine r_dup (pc := 49) (cs := (c0 + 1, s0 + 9)) hX rfl (dk D_X10_init 24 rfl) ?_
      obtain ⟨x2, μ3, hx2, h⟩ := bd2_some h
      refine r_invIN (As := []) (pc := 50) (cs := (c0 + 1, s0 + 9)) hX ml_10_28 (L_Tr_init hx2) nlen_nn (Rm_of hRm (by decide) ⟨by (try dsimp only); omega, by (try dsimp only); omega⟩) (by decide) rfl (Nat.le_of_ble_eq_true rfl) rfl (dk D_X10_init 25 rfl) ?_
      obtain ⟨_, hi, h⟩ := bd_some h
      obtain ⟨μ4, hμ4, h⟩ := bd_some h
      refine r_aast24 (pc := 53) (cs := (c0 + 4, s0 + 129)) hX q_v1 (isk_u hi) hμ4 (dk D_X10_init 26 rfl) ?_
      refine r_iinc (lv' := [(1, 0, (w32 (v1 + 1))), (0, 2, v0)]) (pc := 54) (cs := (c0 + 4, s0 + 129)) hX 1 rfl (by decide) rfl (dk D_X10_init 27 rfl) ?_
      refine r_goto (pc := 57) (cs := (c0 + 4, s0 + 129)) hX 35 rfl (dk D_X10_init 28 rfl) ?_
      refine r_sub (lv' := [(0, 2, v0), (1, 0, (w32 (v1 + 1)))]) [1, 0] rfl ?_
      exact ih v0 (w32 (v1 + 1)) μ4 (c0 + 4) (s0 + 129) (by omega) (R32_w _) h
set_option maxRecDepth 100000 in
set_option maxHeartbeats 4000000 in
theorem L_Wo_init {E : EX} {l : Launch} {a0 res : Int} {μ μ' : Mem}  (h : Wo_init a0 μ = some (res, μ')) : Ok E l 3 yX10_init (.code yX10_init cX10_init 2 none) 36 1762 [(2, a0)] μ none μ' := by
  refine Ok.of (own := "TollsBack$World") [(0, 2, a0)] (by decide +kernel) rfl (Nat.le_of_ble_eq_true rfl) rfl ?_
  intro X hL hRm hin hX hM
  unfold Wo_init at h
  subst hL
  refine r_aloadn (pc := 0) (cs := (0, 0)) hX 0 rfl (dk D_X10_init 0 rfl) ?_
  obtain ⟨_, hi, h⟩ := bd_some h
  refine r_objI (pc := 1) (cs := (0, 0)) hX (isk_nn hi (by decide)) ml_10_3 (Rm_of hRm (by decide) ⟨by (try dsimp only); omega, by (try dsimp only); omega⟩) (Nat.le_of_ble_eq_true rfl) (dk D_X10_init 1 rfl) ?_
  refine r_aloadn (pc := 4) (cs := (0, 0)) hX 0 rfl (dk D_X10_init 2 rfl) ?_
  refine r_new (pc := 5) (cs := (0, 0)) hX nw_10_9 (by rw [hRm]; exact ⟨by (show _ ≤ (rmOf _ _ _).cells); (simp only [rmOf]); omega, by (show _ ≤ (rmOf _ _ _).slots); (simp only [rmOf]); omega⟩) (dk D_X10_init 3 rfl) ?_
  refine r_dup (pc := 8) (cs := (1, 13)) hX rfl (dk D_X10_init 4 rfl) ?_
  obtain ⟨x1, μ2, hx1, h⟩ := bd2_some h
  refine r_invI (As := []) (pc := 9) (cs := (1, 13)) hX ml_10_11 (L_Kg_init hx1) nlen_nn (Rm_of hRm (by decide) ⟨by (try dsimp only); omega, by (try dsimp only); omega⟩) (by decide) rfl (Nat.le_of_ble_eq_true rfl) rfl (dk D_X10_init 5 rfl) ?_
  obtain ⟨μ3, hμ3, h⟩ := bd_some h
  refine r_putF (pc := 12) (cs := (6, 133)) hX fl_10_12 (hin rfl) ⟨_, _, _, rfl, rfl⟩ rfl rfl trivial hμ3 (dk D_X10_init 6 rfl) ?_
  refine r_aloadn (pc := 15) (cs := (6, 133)) hX 0 rfl (dk D_X10_init 7 rfl) ?_
  refine r_bipush (pc := 16) (cs := (6, 133)) hX rfl (dk D_X10_init 8 rfl) ?_
  refine r_newQ (N := 6) (ci := 24) (t0 := 4) (pc := 18) (cs := (6, 133)) hX wd_227 (by decide) (by decide) rfl (by decide) (by rw [hRm]; exact ⟨by (show _ ≤ (rmOf _ _ _).cells); (simp only [rmOf]); omega, by (show _ ≤ (rmOf _ _ _).slots); (simp only [rmOf]); omega⟩) (dk D_X10_init 9 rfl) ?_
  obtain ⟨μ4, hμ4, h⟩ := bd_some h
  refine r_putF (pc := 21) (cs := (7, 139)) hX fl_10_20 (hin rfl) ⟨_, _, _, rfl, rfl⟩ rfl rfl trivial hμ4 (dk D_X10_init 10 rfl) ?_
  refine r_aloadn (pc := 24) (cs := (7, 139)) hX 0 rfl (dk D_X10_init 11 rfl) ?_
  refine r_sipush (pc := 25) (cs := (7, 139)) hX rfl (dk D_X10_init 12 rfl) ?_
  refine r_newI (N := 720) (pc := 28) (cs := (7, 139)) hX ac_int (by decide) (by rw [hRm]; exact ⟨by (show _ ≤ (rmOf _ _ _).cells); (simp only [rmOf]); omega, by (show _ ≤ (rmOf _ _ _).slots); (simp only [rmOf]); omega⟩) (dk D_X10_init 13 rfl) ?_
  obtain ⟨μ5, hμ5, h⟩ := bd_some h
  refine r_putF (pc := 30) (cs := (8, 859)) hX fl_10_24 (hin rfl) ⟨_, _, _, rfl, rfl⟩ rfl rfl trivial hμ5 (dk D_X10_init 14 rfl) ?_
  refine r_iconst (pc := 33) (cs := (8, 859)) hX (dk D_X10_init 15 rfl) ?_
  refine r_istoren (lv' := [(1, 0, 0), (0, 2, a0)]) (pc := 34) (cs := (8, 859)) hX (by decide) rfl (dk D_X10_init 16 rfl) ?_
  refine r_sub (lv' := [(0, 2, a0), (1, 0, 0)]) [1, 0] rfl ?_
  refine L_Wo_init_L35 hX hM hRm 7 a0 0 μ5 8 859 (by omega) (R32_lit rfl) h
set_option maxRecDepth 100000 in
set_option maxHeartbeats 4000000 in
theorem L_Wo_begin {E : EX} {l : Launch} {a0 a1 res : Int} {μ μ' : Mem}  (h : Wo_begin a0 a1 μ = some (res, μ')) : Ok E l 2 yX10_begin (.code yX10_begin cX10_begin 2 none) 0 0 [(2, a0), (2, a1)] μ none μ' := by
  refine Ok.of (own := "TollsBack$World") [(0, 2, a0), (1, 2, a1)] (by decide +kernel) rfl (Nat.le_of_ble_eq_true rfl) rfl ?_
  intro X hL hRm hin hX hM
  unfold Wo_begin at h
  subst hL
  refine r_aloadn (pc := 0) hX 0 rfl (dk D_X10_begin 0 rfl) ?_
  obtain ⟨x1, hx1, h⟩ := bd_some h
  refine r_getR (pc := 1) hX fl_10_12 rfl hx1 (dk D_X10_begin 1 rfl) ?_
  refine r_aloadn (pc := 4) hX 1 rfl (dk D_X10_begin 2 rfl) ?_
  obtain ⟨_, hi, h⟩ := bd_some h
  obtain ⟨x2, μ3, hx2, h⟩ := bd2_some h
  refine r_invV0 (As := [(2, a1)]) (pc := 5) hX ml_10_29 (L_Kg_become hx2) (isk_u hi) (Rm_of hRm (by decide) ⟨by decide, by decide⟩) (by decide) rfl (Nat.le_of_ble_eq_true rfl) rfl (dk D_X10_begin 3 rfl) (fun _ => ?_)
  refine r_aloadn (pc := 8) hX 0 rfl (dk D_X10_begin 4 rfl) ?_
  refine r_iconst (pc := 9) hX (dk D_X10_begin 5 rfl) ?_
  obtain ⟨μ4, hμ4, h⟩ := bd_some h
  refine r_putI (pc := 10) hX fl_10_33 rfl rfl (R32_lit rfl) trivial hμ4 (dk D_X10_begin 6 rfl) ?_
  refine r_aloadn (pc := 13) hX 0 rfl (dk D_X10_begin 7 rfl) ?_
  refine r_iconst (pc := 14) hX (dk D_X10_begin 8 rfl) ?_
  obtain ⟨μ5, hμ5, h⟩ := bd_some h
  refine r_putI (pc := 15) hX fl_10_37 rfl rfl (R32_lit rfl) trivial hμ5 (dk D_X10_begin 9 rfl) ?_
  refine r_aloadn (pc := 18) hX 0 rfl (dk D_X10_begin 10 rfl) ?_
  refine r_iconst (pc := 19) hX (dk D_X10_begin 11 rfl) ?_
  obtain ⟨μ6, hμ6, h⟩ := bd_some h
  refine r_putI (pc := 20) hX fl_10_40 rfl rfl (R32_lit rfl) trivial hμ6 (dk D_X10_begin 12 rfl) ?_
  refine r_aloadn (pc := 23) hX 0 rfl (dk D_X10_begin 13 rfl) ?_
  obtain ⟨x7, hx7, h⟩ := bd_some h
  refine r_getR (pc := 24) hX fl_10_24 rfl hx7 (dk D_X10_begin 14 rfl) ?_
  refine r_iconst (pc := 27) hX (dk D_X10_begin 15 rfl) ?_
  obtain ⟨x8, μ9, hx8, h⟩ := bd2_some h
  refine r_invS0 (As := [(2, x7), (0, 0)]) (pc := 28) hX ml_10_43 (L_J_fill (R32_lit rfl) hx8) (Rm_of hRm (by decide) ⟨by decide, by decide⟩) (by decide) rfl (Nat.le_of_ble_eq_true rfl) rfl (dk D_X10_begin 16 rfl) (fun _ => ?_)
  cases h
  exact r_return (pc := 31) hX hM ⟨by decide, by decide⟩ (dk D_X10_begin 17 rfl)
set_option maxRecDepth 100000 in
set_option maxHeartbeats 4000000 in
theorem L_Wo_become_L53 {E : EX} {X : CX} {res : Int} {μe : Mem} (hX : Good E X cX10_become 3 "TollsBack$World") (hM : GoodM E X none none μe 0 0) (hRm : cR X = rmOf 2 0 0) : ∀ (n : Nat) (v0 v1 v2 : Int) (μ : Mem) (q_v2 : R32 v2) (h : Wo_become_L53 n v0 v1 v2 μ = some (res, μe)), At E X cX10_become 3 "TollsBack$World" (0, 0) 53 [(0, 2, v0), (1, 2, v1), (2, 0, v2)] [] μ := by
  intro n
  induction n with
  | zero =>
    intro v0 v1 v2 μ q_v2 h
    have h : (none : Option (Int × Mem)) = some (res, μe) := h
    cases h
  | succ n ih =>
    intro v0 v1 v2 μ q_v2 h
    rw [Wo_become_L53.eq_2] at h
    refine r_iloadn (pc := 53) hX 2 rfl (dk D_X10_become 27 rfl) ?_
    refine r_aloadn (pc := 54) hX 0 rfl (dk D_X10_become 28 rfl) ?_
    obtain ⟨x1, hx1, h⟩ := bd_some h
    refine r_getI (pc := 55) hX fl_10_33 rfl rfl hx1 (dk D_X10_become 29 rfl) (fun qx1 => ?_)
    refine r_icmp_ge (pc := 58) hX q_v2 qx1 82 rfl (dk D_X10_become 30 rfl) (fun hc => ?_) (fun hc => ?_)
    · rw [if_neg hc] at h
      cases h
      exact r_return (pc := 82) hX hM ⟨by decide, by decide⟩ (dk D_X10_become 42 rfl)
    · rw [if_pos hc] at h
      refine r_aloadn (pc := 61) hX 0 rfl (dk D_X10_become 31 rfl) ?_
      obtain ⟨x2, hx2, h⟩ := bd_some h
      refine r_getR (pc := 62) hX fl_10_20 rfl hx2 (dk D_X10_become 32 rfl) ?_
      refine r_iloadn (pc := 65) hX 2 rfl (dk D_X10_become 33 rfl) ?_
      obtain ⟨x3, hx3, h⟩ := bd_some h
      refine r_aald24 (pc := 66) hX q_v2 hx3 (dk D_X10_become 34 rfl) ?_
      refine r_aloadn (pc := 67) hX 1 rfl (dk D_X10_become 35 rfl) ?_
      obtain ⟨x4, hx4, h⟩ := bd_some h
      refine r_getR (pc := 68) hX fl_10_20 rfl hx4 (dk D_X10_become 36 rfl) ?_
      refine r_iloadn (pc := 71) hX 2 rfl (dk D_X10_become 37 rfl) ?_
      obtain ⟨x5, hx5, h⟩ := bd_some h
      refine r_aald24 (pc := 72) hX q_v2 hx5 (dk D_X10_become 38 rfl) ?_
      obtain ⟨_, hi, h⟩ := bd_some h
      obtain ⟨x6, μ7, hx6, h⟩ := bd2_some h
      refine r_invV0 (As := [(2, x5)]) (pc := 73) hX ml_10_55 (L_Tr_become hx6) (isk_u hi) (Rm_of hRm (by decide) ⟨by decide, by decide⟩) (by decide) rfl (Nat.le_of_ble_eq_true rfl) rfl (dk D_X10_become 39 rfl) (fun _ => ?_)
      refine r_iinc (lv' := [(2, 0, (w32 (v2 + 1))), (0, 2, v0), (1, 2, v1)]) (pc := 76) hX 2 rfl (by decide) rfl (dk D_X10_become 40 rfl) ?_
      refine r_goto (pc := 79) hX 53 rfl (dk D_X10_become 41 rfl) ?_
      refine r_sub (lv' := [(0, 2, v0), (1, 2, v1), (2, 0, (w32 (v2 + 1)))]) [1, 2, 0] rfl ?_
      exact ih v0 v1 (w32 (v2 + 1)) μ7 (R32_w _) h
set_option maxRecDepth 100000 in
set_option maxHeartbeats 4000000 in
theorem L_Wo_become {E : EX} {l : Launch} {a0 a1 res : Int} {μ μ' : Mem}  (h : Wo_become a0 a1 μ = some (res, μ')) : Ok E l 2 yX10_become (.code yX10_become cX10_become 3 none) 0 0 [(2, a0), (2, a1)] μ none μ' := by
  refine Ok.of (own := "TollsBack$World") [(0, 2, a0), (1, 2, a1)] (by decide +kernel) rfl (Nat.le_of_ble_eq_true rfl) rfl ?_
  intro X hL hRm hin hX hM
  unfold Wo_become at h
  subst hL
  refine r_aloadn (pc := 0) hX 0 rfl (dk D_X10_become 0 rfl) ?_
  obtain ⟨x1, hx1, h⟩ := bd_some h
  refine r_getR (pc := 1) hX fl_10_12 rfl hx1 (dk D_X10_become 1 rfl) ?_
  refine r_aloadn (pc := 4) hX 1 rfl (dk D_X10_become 2 rfl) ?_
  obtain ⟨x2, hx2, h⟩ := bd_some h
  refine r_getR (pc := 5) hX fl_10_12 rfl hx2 (dk D_X10_become 3 rfl) ?_
  obtain ⟨_, hi, h⟩ := bd_some h
  obtain ⟨x3, μ4, hx3, h⟩ := bd2_some h
  refine r_invV0 (As := [(2, x2)]) (pc := 8) hX ml_10_29 (L_Kg_become hx3) (isk_u hi) (Rm_of hRm (by decide) ⟨by decide, by decide⟩) (by decide) rfl (Nat.le_of_ble_eq_true rfl) rfl (dk D_X10_become 4 rfl) (fun _ => ?_)
  refine r_aloadn (pc := 11) hX 0 rfl (dk D_X10_become 5 rfl) ?_
  refine r_aloadn (pc := 12) hX 1 rfl (dk D_X10_become 6 rfl) ?_
  obtain ⟨x5, hx5, h⟩ := bd_some h
  refine r_getI (pc := 13) hX fl_10_33 rfl rfl hx5 (dk D_X10_become 7 rfl) (fun qx5 => ?_)
  obtain ⟨μ6, hμ6, h⟩ := bd_some h
  refine r_putI (pc := 16) hX fl_10_33 rfl rfl qx5 trivial hμ6 (dk D_X10_become 8 rfl) ?_
  refine r_aloadn (pc := 19) hX 0 rfl (dk D_X10_become 9 rfl) ?_
  refine r_aloadn (pc := 20) hX 1 rfl (dk D_X10_become 10 rfl) ?_
  obtain ⟨x7, hx7, h⟩ := bd_some h
  refine r_getI (pc := 21) hX fl_10_37 rfl rfl hx7 (dk D_X10_become 11 rfl) (fun qx7 => ?_)
  obtain ⟨μ8, hμ8, h⟩ := bd_some h
  refine r_putI (pc := 24) hX fl_10_37 rfl rfl qx7 trivial hμ8 (dk D_X10_become 12 rfl) ?_
  refine r_aloadn (pc := 27) hX 0 rfl (dk D_X10_become 13 rfl) ?_
  refine r_aloadn (pc := 28) hX 1 rfl (dk D_X10_become 14 rfl) ?_
  obtain ⟨x9, hx9, h⟩ := bd_some h
  refine r_getI (pc := 29) hX fl_10_40 rfl rfl hx9 (dk D_X10_become 15 rfl) (fun qx9 => ?_)
  obtain ⟨μ10, hμ10, h⟩ := bd_some h
  refine r_putI (pc := 32) hX fl_10_40 rfl rfl qx9 trivial hμ10 (dk D_X10_become 16 rfl) ?_
  refine r_aloadn (pc := 35) hX 1 rfl (dk D_X10_become 17 rfl) ?_
  obtain ⟨x11, hx11, h⟩ := bd_some h
  refine r_getR (pc := 36) hX fl_10_24 rfl hx11 (dk D_X10_become 18 rfl) ?_
  refine r_iconst (pc := 39) hX (dk D_X10_become 19 rfl) ?_
  refine r_aloadn (pc := 40) hX 0 rfl (dk D_X10_become 20 rfl) ?_
  obtain ⟨x12, hx12, h⟩ := bd_some h
  refine r_getR (pc := 41) hX fl_10_24 rfl hx12 (dk D_X10_become 21 rfl) ?_
  refine r_iconst (pc := 44) hX (dk D_X10_become 22 rfl) ?_
  refine r_sipush (pc := 45) hX rfl (dk D_X10_become 23 rfl) ?_
  obtain ⟨μ13, hμ13, h⟩ := bd_some h
  refine r_copyi (pc := 48) hX ml_10_49 (R32_lit rfl) (R32_lit rfl) (R32_lit rfl) (by rw [hRm]; exact ⟨by decide, by decide⟩) (Nat.le_of_ble_eq_true rfl) hμ13 (dk D_X10_become 24 rfl) ?_
  refine r_iconst (pc := 51) hX (dk D_X10_become 25 rfl) ?_
  refine r_istoren (lv' := [(2, 0, 0), (0, 2, a0), (1, 2, a1)]) (pc := 52) hX (by decide) rfl (dk D_X10_become 26 rfl) ?_
  refine r_sub (lv' := [(0, 2, a0), (1, 2, a1), (2, 0, 0)]) [1, 2, 0] rfl ?_
  refine L_Wo_become_L53 hX hM hRm FU a0 a1 0 μ13 (R32_lit rfl) h
set_option maxRecDepth 100000 in
set_option maxHeartbeats 4000000 in
theorem L_Wo_hasTraveller {E : EX} {l : Launch} {a0 a1 res : Int} {μ μ' : Mem} (q_a1 : R32 a1) (h : Wo_hasTraveller a0 a1 μ = some (res, μ')) : Ok E l 1 yX10_hasTraveller (.code yX10_hasTraveller cX10_hasTraveller 2 (some .boolean)) 0 0 [(2, a0), (0, a1)] μ (some (0, res)) μ' := by
  refine Ok.of (own := "TollsBack$World") [(0, 2, a0), (1, 0, a1)] (by decide +kernel) rfl (Nat.le_of_ble_eq_true rfl) rfl ?_
  intro X hL hRm hin hX hM
  unfold Wo_hasTraveller at h
  subst hL
  refine r_iloadn (pc := 0) hX 1 rfl (dk D_X10_hasTraveller 0 rfl) ?_
  refine r_if_lt (pc := 1) hX q_a1 16 rfl (dk D_X10_hasTraveller 1 rfl) (fun hc => ?_) (fun hc => ?_)
  · rw [if_pos hc] at h
    refine r_iconst (pc := 16) hX (dk D_X10_hasTraveller 8 rfl) ?_
    cases h
    exact r_zreturn (pc := 17) hX (R32_lit rfl) hM (Or.inl rfl) ⟨by decide, by decide⟩ (dk D_X10_hasTraveller 9 rfl)
  · rw [if_neg hc] at h
    refine r_iloadn (pc := 4) hX 1 rfl (dk D_X10_hasTraveller 2 rfl) ?_
    refine r_aloadn (pc := 5) hX 0 rfl (dk D_X10_hasTraveller 3 rfl) ?_
    obtain ⟨x1, hx1, h⟩ := bd_some h
    refine r_getI (pc := 6) hX fl_10_33 rfl rfl hx1 (dk D_X10_hasTraveller 4 rfl) (fun qx1 => ?_)
    refine r_icmp_ge (pc := 9) hX q_a1 qx1 16 rfl (dk D_X10_hasTraveller 5 rfl) (fun hc => ?_) (fun hc => ?_)
    · rw [if_neg hc] at h
      refine r_iconst (pc := 16) hX (dk D_X10_hasTraveller 8 rfl) ?_
      cases h
      exact r_zreturn (pc := 17) hX (R32_lit rfl) hM (Or.inl rfl) ⟨by decide, by decide⟩ (dk D_X10_hasTraveller 9 rfl)
    · rw [if_pos hc] at h
      refine r_iconst (pc := 12) hX (dk D_X10_hasTraveller 6 rfl) ?_
      refine r_goto (pc := 13) hX 17 rfl (dk D_X10_hasTraveller 7 rfl) ?_
      cases h
      exact r_zreturn (pc := 17) hX (R32_lit rfl) hM (Or.inr rfl) ⟨by decide, by decide⟩ (dk D_X10_hasTraveller 9 rfl)
set_option maxRecDepth 100000 in
set_option maxHeartbeats 4000000 in
theorem L_Wo_hasPair {E : EX} {l : Launch} {a0 a1 a2 res : Int} {μ μ' : Mem} (q_a1 : R32 a1) (q_a2 : R32 a2) (h : Wo_hasPair a0 a1 a2 μ = some (res, μ')) : Ok E l 2 yX10_hasPair (.code yX10_hasPair cX10_hasPair 3 (some .boolean)) 0 0 [(2, a0), (0, a1), (0, a2)] μ (some (0, res)) μ' := by
  refine Ok.of (own := "TollsBack$World") [(0, 2, a0), (1, 0, a1), (2, 0, a2)] (by decide +kernel) rfl (Nat.le_of_ble_eq_true rfl) rfl ?_
  intro X hL hRm hin hX hM
  unfold Wo_hasPair at h
  subst hL
  refine r_aloadn (pc := 0) hX 0 rfl (dk D_X10_hasPair 0 rfl) ?_
  refine r_iloadn (pc := 1) hX 1 rfl (dk D_X10_hasPair 1 rfl) ?_
  obtain ⟨_, hi, h⟩ := bd_some h
  obtain ⟨x1, μ2, hx1, h⟩ := bd2_some h
  refine r_invV0 (As := [(0, a1)]) (pc := 2) hX ml_10_58 (L_Wo_hasTraveller q_a1 hx1) (isk_u hi) (Rm_of hRm (by decide) ⟨by decide, by decide⟩) (by decide) rfl (Nat.le_of_ble_eq_true rfl) rfl (dk D_X10_hasPair 2 rfl) (fun qx1 => ?_)
  refine r_if_eq (pc := 5) hX qx1 25 rfl (dk D_X10_hasPair 3 rfl) (fun hc => ?_) (fun hc => ?_)
  · rw [if_pos hc] at h
    refine r_iconst (pc := 25) hX (dk D_X10_hasPair 13 rfl) ?_
    cases h
    exact r_zreturn (pc := 26) hX (R32_lit rfl) hM (Or.inl rfl) ⟨by decide, by decide⟩ (dk D_X10_hasPair 14 rfl)
  · rw [if_neg hc] at h
    refine r_aloadn (pc := 8) hX 0 rfl (dk D_X10_hasPair 4 rfl) ?_
    refine r_iloadn (pc := 9) hX 2 rfl (dk D_X10_hasPair 5 rfl) ?_
    obtain ⟨_, hi, h⟩ := bd_some h
    obtain ⟨x3, μ4, hx3, h⟩ := bd2_some h
    refine r_invV0 (As := [(0, a2)]) (pc := 10) hX ml_10_58 (L_Wo_hasTraveller q_a2 hx3) (isk_u hi) (Rm_of hRm (by decide) ⟨by decide, by decide⟩) (by decide) rfl (Nat.le_of_ble_eq_true rfl) rfl (dk D_X10_hasPair 6 rfl) (fun qx3 => ?_)
    refine r_if_eq (pc := 13) hX qx3 25 rfl (dk D_X10_hasPair 7 rfl) (fun hc => ?_) (fun hc => ?_)
    · rw [if_pos hc] at h
      refine r_iconst (pc := 25) hX (dk D_X10_hasPair 13 rfl) ?_
      cases h
      exact r_zreturn (pc := 26) hX (R32_lit rfl) hM (Or.inl rfl) ⟨by decide, by decide⟩ (dk D_X10_hasPair 14 rfl)
    · rw [if_neg hc] at h
      refine r_iloadn (pc := 16) hX 1 rfl (dk D_X10_hasPair 8 rfl) ?_
      refine r_iloadn (pc := 17) hX 2 rfl (dk D_X10_hasPair 9 rfl) ?_
      refine r_icmp_eq (pc := 18) hX q_a1 q_a2 25 rfl (dk D_X10_hasPair 10 rfl) (fun hc => ?_) (fun hc => ?_)
      · rw [if_pos hc] at h
        refine r_iconst (pc := 25) hX (dk D_X10_hasPair 13 rfl) ?_
        cases h
        exact r_zreturn (pc := 26) hX (R32_lit rfl) hM (Or.inl rfl) ⟨by decide, by decide⟩ (dk D_X10_hasPair 14 rfl)
      · rw [if_neg hc] at h
        refine r_iconst (pc := 21) hX (dk D_X10_hasPair 11 rfl) ?_
        refine r_goto (pc := 22) hX 26 rfl (dk D_X10_hasPair 12 rfl) ?_
        cases h
        exact r_zreturn (pc := 26) hX (R32_lit rfl) hM (Or.inr rfl) ⟨by decide, by decide⟩ (dk D_X10_hasPair 14 rfl)
set_option maxRecDepth 100000 in
set_option maxHeartbeats 4000000 in
theorem L_Wo_welcome {E : EX} {l : Launch} {a0 a1 res : Int} {μ μ' : Mem} (q_a1 : R32 a1) (h : Wo_welcome a0 a1 μ = some (res, μ')) : Ok E l 2 yX10_welcome (.code yX10_welcome cX10_welcome 2 (some .int)) 0 0 [(2, a0), (0, a1)] μ (some (0, res)) μ' := by
  refine Ok.of (own := "TollsBack$World") [(0, 2, a0), (1, 0, a1)] (by decide +kernel) rfl (Nat.le_of_ble_eq_true rfl) rfl ?_
  intro X hL hRm hin hX hM
  unfold Wo_welcome at h
  subst hL
  refine r_aloadn (pc := 0) hX 0 rfl (dk D_X10_welcome 0 rfl) ?_
  obtain ⟨x1, hx1, h⟩ := bd_some h
  refine r_getI (pc := 1) hX fl_10_33 rfl rfl hx1 (dk D_X10_welcome 1 rfl) (fun qx1 => ?_)
  refine r_bipush (pc := 4) hX rfl (dk D_X10_welcome 2 rfl) ?_
  refine r_icmp_lt (pc := 6) hX qx1 (R32_lit rfl) 12 rfl (dk D_X10_welcome 3 rfl) (fun hc => ?_) (fun hc => ?_)
  · rw [if_pos hc] at h
    refine r_aloadn (pc := 12) hX 0 rfl (dk D_X10_welcome 6 rfl) ?_
    obtain ⟨x2, hx2, h⟩ := bd_some h
    refine r_getR (pc := 13) hX fl_10_20 rfl hx2 (dk D_X10_welcome 7 rfl) ?_
    refine r_aloadn (pc := 16) hX 0 rfl (dk D_X10_welcome 8 rfl) ?_
    obtain ⟨x3, hx3, h⟩ := bd_some h
    refine r_getI (pc := 17) hX fl_10_33 rfl rfl hx3 (dk D_X10_welcome 9 rfl) (fun qx3 => ?_)
    obtain ⟨x4, hx4, h⟩ := bd_some h
    refine r_aald24 (pc := 20) hX qx3 hx4 (dk D_X10_welcome 10 rfl) ?_
    refine r_aloadn (pc := 21) hX 0 rfl (dk D_X10_welcome 11 rfl) ?_
    obtain ⟨x5, hx5, h⟩ := bd_some h
    refine r_getR (pc := 22) hX fl_10_12 rfl hx5 (dk D_X10_welcome 12 rfl) ?_
    obtain ⟨x6, hx6, h⟩ := bd_some h
    refine r_getI (pc := 25) hX fl_10_62 rfl rfl hx6 (dk D_X10_welcome 13 rfl) (fun qx6 => ?_)
    refine r_iloadn (pc := 28) hX 1 rfl (dk D_X10_welcome 14 rfl) ?_
    obtain ⟨_, hi, h⟩ := bd_some h
    obtain ⟨x7, μ8, hx7, h⟩ := bd2_some h
    refine r_invV0 (As := [(0, x6), (0, a1)]) (pc := 29) hX ml_10_65 (L_Tr_begin qx6 q_a1 hx7) (isk_u hi) (Rm_of hRm (by decide) ⟨by decide, by decide⟩) (by decide) rfl (Nat.le_of_ble_eq_true rfl) rfl (dk D_X10_welcome 15 rfl) (fun _ => ?_)
    refine r_aloadn (pc := 32) hX 0 rfl (dk D_X10_welcome 16 rfl) ?_
    refine r_dup (pc := 33) hX rfl (dk D_X10_welcome 17 rfl) ?_
    obtain ⟨x9, hx9, h⟩ := bd_some h
    refine r_getI (pc := 34) hX fl_10_33 rfl rfl hx9 (dk D_X10_welcome 18 rfl) (fun qx9 => ?_)
    refine r_iconst (pc := 37) hX (dk D_X10_welcome 19 rfl) ?_
    refine r_iadd (pc := 38) hX (dk D_X10_welcome 20 rfl) ?_
    obtain ⟨μ10, hμ10, h⟩ := bd_some h
    refine r_putI (pc := 39) hX fl_10_33 rfl rfl (R32_w _) trivial hμ10 (dk D_X10_welcome 21 rfl) ?_
    refine r_aloadn (pc := 42) hX 0 rfl (dk D_X10_welcome 22 rfl) ?_
    obtain ⟨x11, hx11, h⟩ := bd_some h
    refine r_getI (pc := 43) hX fl_10_33 rfl rfl hx11 (dk D_X10_welcome 23 rfl) (fun qx11 => ?_)
    refine r_iconst (pc := 46) hX (dk D_X10_welcome 24 rfl) ?_
    refine r_isub (pc := 47) hX (dk D_X10_welcome 25 rfl) ?_
    cases h
    exact r_ireturn (pc := 48) hX (R32_w _) hM ⟨by decide, by decide⟩ (dk D_X10_welcome 26 rfl)
  · rw [if_neg hc] at h
    refine r_bipush (pc := 9) hX rfl (dk D_X10_welcome 4 rfl) ?_
    cases h
    exact r_ireturn (pc := 11) hX (R32_lit rfl) hM ⟨by decide, by decide⟩ (dk D_X10_welcome 5 rfl)
set_option maxRecDepth 100000 in
set_option maxHeartbeats 4000000 in
theorem L_Wo_shut {E : EX} {l : Launch} {a0 a1 a2 res : Int} {μ μ' : Mem} (q_a1 : R32 a1) (q_a2 : R32 a2) (h : Wo_shut a0 a1 a2 μ = some (res, μ')) : Ok E l 1 yX10_shut (.code yX10_shut cX10_shut 3 none) 0 0 [(2, a0), (0, a1), (0, a2)] μ none μ' := by
  refine Ok.of (own := "TollsBack$World") [(0, 2, a0), (1, 0, a1), (2, 0, a2)] (by decide +kernel) rfl (Nat.le_of_ble_eq_true rfl) rfl ?_
  intro X hL hRm hin hX hM
  unfold Wo_shut at h
  subst hL
  refine r_aloadn (pc := 0) hX 0 rfl (dk D_X10_shut 0 rfl) ?_
  refine r_iloadn (pc := 1) hX 2 rfl (dk D_X10_shut 1 rfl) ?_
  obtain ⟨y1, hb, h⟩ := bd_some h
  have hj : R32 y1 → At E X cX10_shut 3 "TollsBack$World" (0, 0) 26 [] [(0, y1), (2, a0)] μ := by
    intro qy1
    clear hb
    obtain ⟨μ4, hμ4, h⟩ := bd_some h
    refine r_putI (pc := 26) hX fl_10_37 rfl rfl qy1 trivial hμ4 (dk D_X10_shut 18 rfl) ?_
    cases h
    exact r_return (pc := 29) hX hM ⟨by decide, by decide⟩ (dk D_X10_shut 19 rfl)
  clear h
  have h := hb
  clear hb
  refine r_if_eq (pc := 2) hX q_a2 16 rfl (dk D_X10_shut 2 rfl) (fun hc => ?_) (fun hc => ?_)
  · rw [if_pos hc] at h
    refine r_aloadn (pc := 16) hX 0 rfl (dk D_X10_shut 10 rfl) ?_
    obtain ⟨x2, hx2, h⟩ := bd_some h
    refine r_getI (pc := 17) hX fl_10_37 rfl rfl hx2 (dk D_X10_shut 11 rfl) (fun qx2 => ?_)
    refine r_iconst (pc := 20) hX (dk D_X10_shut 12 rfl) ?_
    refine r_iloadn (pc := 21) hX 1 rfl (dk D_X10_shut 13 rfl) ?_
    refine r_ishl (pc := 22) hX (dk D_X10_shut 14 rfl) ?_
    refine r_iconst (pc := 23) hX (dk D_X10_shut 15 rfl) ?_
    refine r_ixor (pc := 24) hX (dk D_X10_shut 16 rfl) ?_
    refine r_iand (pc := 25) hX (dk D_X10_shut 17 rfl) ?_
    replace h := Option.some.inj h
    subst y1
    refine r_sub (lv' := []) [] rfl ?_
    exact hj (R32_t _)
  · rw [if_neg hc] at h
    refine r_aloadn (pc := 5) hX 0 rfl (dk D_X10_shut 3 rfl) ?_
    obtain ⟨x3, hx3, h⟩ := bd_some h
    refine r_getI (pc := 6) hX fl_10_37 rfl rfl hx3 (dk D_X10_shut 4 rfl) (fun qx3 => ?_)
    refine r_iconst (pc := 9) hX (dk D_X10_shut 5 rfl) ?_
    refine r_iloadn (pc := 10) hX 1 rfl (dk D_X10_shut 6 rfl) ?_
    refine r_ishl (pc := 11) hX (dk D_X10_shut 7 rfl) ?_
    refine r_ior (pc := 12) hX (dk D_X10_shut 8 rfl) ?_
    refine r_goto (pc := 13) hX 26 rfl (dk D_X10_shut 9 rfl) ?_
    replace h := Option.some.inj h
    subst y1
    refine r_sub (lv' := []) [] rfl ?_
    exact hj (R32_t _)
set_option maxRecDepth 100000 in
set_option maxHeartbeats 4000000 in
theorem L_Wo_openRoads {E : EX} {l : Launch} {a0 res : Int} {μ μ' : Mem}  (h : Wo_openRoads a0 μ = some (res, μ')) : Ok E l 1 yX10_openRoads (.code yX10_openRoads cX10_openRoads 1 (some .int)) 0 0 [(2, a0)] μ (some (0, res)) μ' := by
  refine Ok.of (own := "TollsBack$World") [(0, 2, a0)] (by decide +kernel) rfl (Nat.le_of_ble_eq_true rfl) rfl ?_
  intro X hL hRm hin hX hM
  unfold Wo_openRoads at h
  subst hL
  refine r_iconst (pc := 0) hX (dk D_X10_openRoads 0 rfl) ?_
  refine r_aloadn (pc := 1) hX 0 rfl (dk D_X10_openRoads 1 rfl) ?_
  obtain ⟨x1, hx1, h⟩ := bd_some h
  refine r_getR (pc := 2) hX fl_10_12 rfl hx1 (dk D_X10_openRoads 2 rfl) ?_
  obtain ⟨x2, hx2, h⟩ := bd_some h
  refine r_getI (pc := 5) hX fl_10_69 rfl rfl hx2 (dk D_X10_openRoads 3 rfl) (fun qx2 => ?_)
  refine r_ishl (pc := 8) hX (dk D_X10_openRoads 4 rfl) ?_
  refine r_iconst (pc := 9) hX (dk D_X10_openRoads 5 rfl) ?_
  refine r_isub (pc := 10) hX (dk D_X10_openRoads 6 rfl) ?_
  refine r_aloadn (pc := 11) hX 0 rfl (dk D_X10_openRoads 7 rfl) ?_
  obtain ⟨x3, hx3, h⟩ := bd_some h
  refine r_getI (pc := 12) hX fl_10_37 rfl rfl hx3 (dk D_X10_openRoads 8 rfl) (fun qx3 => ?_)
  refine r_iconst (pc := 15) hX (dk D_X10_openRoads 9 rfl) ?_
  refine r_ixor (pc := 16) hX (dk D_X10_openRoads 10 rfl) ?_
  refine r_iand (pc := 17) hX (dk D_X10_openRoads 11 rfl) ?_
  cases h
  exact r_ireturn (pc := 18) hX (R32_t _) hM ⟨by decide, by decide⟩ (dk D_X10_openRoads 12 rfl)
set_option maxRecDepth 100000 in
set_option maxHeartbeats 4000000 in
theorem L_Wo_reachable_L26 {E : EX} {X : CX} {res : Int} {μe : Mem} (hX : Good E X cX10_reachable 6 "TollsBack$World") (hM : GoodM E X (some .int) (some (0, res)) μe 0 0) (hRm : cR X = rmOf 1 0 0) {k92 : Int → Int → Int → Int → Mem → Option (Int × Mem)} (hk92 : ∀ (u0 u1 u2 u3 : Int) (μ : Mem), R32 u1 → R32 u2 → R32 u3 → k92 u0 u1 u2 u3 μ = some (res, μe) → At E X cX10_reachable 6 "TollsBack$World" (0, 0) 92 [(0, 2, u0), (1, 0, u1), (2, 0, u2), (3, 0, u3)] [] μ) : ∀ (n : Nat) (v0 v1 v2 v3 v4 : Int) (μ : Mem) (q_v1 : R32 v1) (q_v2 : R32 v2) (q_v3 : R32 v3) (q_v4 : R32 v4) (h : Wo_reachable_L26 k92 n v0 v1 v2 v3 v4 μ = some (res, μe)), At E X cX10_reachable 6 "TollsBack$World" (0, 0) 26 [(0, 2, v0), (1, 0, v1), (2, 0, v2), (3, 0, v3), (4, 0, v4)] [] μ := by
  intro n
  induction n with
  | zero =>
    intro v0 v1 v2 v3 v4 μ q_v1 q_v2 q_v3 q_v4 h
    have h : (none : Option (Int × Mem)) = some (res, μe) := h
    cases h
  | succ n ih =>
    intro v0 v1 v2 v3 v4 μ q_v1 q_v2 q_v3 q_v4 h
    rw [Wo_reachable_L26.eq_2] at h
    refine r_iload (pc := 26) hX 4 rfl (dk D_X10_reachable 15 rfl) ?_
    refine r_aloadn (pc := 28) hX 0 rfl (dk D_X10_reachable 16 rfl) ?_
    obtain ⟨x1, hx1, h⟩ := bd_some h
    refine r_getR (pc := 29) hX fl_10_12 rfl hx1 (dk D_X10_reachable 17 rfl) ?_
    obtain ⟨x2, hx2, h⟩ := bd_some h
    refine r_getI (pc := 32) hX fl_10_69 rfl rfl hx2 (dk D_X10_reachable 18 rfl) (fun qx2 => ?_)
    refine r_icmp_ge (pc := 35) hX q_v4 qx2 92 rfl (dk D_X10_reachable 19 rfl) (fun hc => ?_) (fun hc => ?_)
    · rw [if_neg hc] at h
      refine r_sub (lv' := [(0, 2, v0), (1, 0, v1), (2, 0, v2), (3, 0, v3)]) [0, 1, 2, 3] rfl ?_
      exact hk92 v0 v1 v2 v3 μ q_v1 q_v2 q_v3 h
    · rw [if_pos hc] at h
      refine r_iconst (pc := 38) hX (dk D_X10_reachable 20 rfl) ?_
      refine r_aloadn (pc := 39) hX 0 rfl (dk D_X10_reachable 21 rfl) ?_
      obtain ⟨x3, hx3, h⟩ := bd_some h
      refine r_getR (pc := 40) hX fl_10_12 rfl hx3 (dk D_X10_reachable 22 rfl) ?_
      obtain ⟨x4, hx4, h⟩ := bd_some h
      refine r_getR (pc := 43) hX fl_10_82 rfl hx4 (dk D_X10_reachable 23 rfl) ?_
      refine r_iload (pc := 46) hX 4 rfl (dk D_X10_reachable 24 rfl) ?_
      obtain ⟨x5, hx5, h⟩ := bd_some h
      refine r_iald (pc := 48) hX q_v4 hx5 (dk D_X10_reachable 25 rfl) (fun qx5 => ?_)
      refine r_ishl (pc := 49) hX (dk D_X10_reachable 26 rfl) ?_
      refine r_iconst (pc := 50) hX (dk D_X10_reachable 27 rfl) ?_
      refine r_aloadn (pc := 51) hX 0 rfl (dk D_X10_reachable 28 rfl) ?_
      obtain ⟨x6, hx6, h⟩ := bd_some h
      refine r_getR (pc := 52) hX fl_10_12 rfl hx6 (dk D_X10_reachable 29 rfl) ?_
      obtain ⟨x7, hx7, h⟩ := bd_some h
      refine r_getR (pc := 55) hX fl_10_85 rfl hx7 (dk D_X10_reachable 30 rfl) ?_
      refine r_iload (pc := 58) hX 4 rfl (dk D_X10_reachable 31 rfl) ?_
      obtain ⟨x8, hx8, h⟩ := bd_some h
      refine r_iald (pc := 60) hX q_v4 hx8 (dk D_X10_reachable 32 rfl) (fun qx8 => ?_)
      refine r_ishl (pc := 61) hX (dk D_X10_reachable 33 rfl) ?_
      refine r_ior (pc := 62) hX (dk D_X10_reachable 34 rfl) ?_
      obtain ⟨x9, ex9, h⟩ := bd_some h
      replace ex9 := Option.some.inj ex9
      have qx9 : R32 x9 := ex9 ▸ (R32_t _)
      rw [ex9]
      refine r_istore (lv' := [(5, 0, x9), (0, 2, v0), (1, 0, v1), (2, 0, v2), (3, 0, v3), (4, 0, v4)]) (pc := 63) hX (by decide) rfl (dk D_X10_reachable 35 rfl) ?_
      refine r_iloadn (pc := 65) hX 2 rfl (dk D_X10_reachable 36 rfl) ?_
      refine r_iload (pc := 66) hX 5 rfl (dk D_X10_reachable 37 rfl) ?_
      refine r_ishr (pc := 68) hX (dk D_X10_reachable 38 rfl) ?_
      refine r_iconst (pc := 69) hX (dk D_X10_reachable 39 rfl) ?_
      refine r_iand (pc := 70) hX (dk D_X10_reachable 40 rfl) ?_
      refine r_if_eq (pc := 71) hX (R32_t _) 86 rfl (dk D_X10_reachable 41 rfl) (fun hc => ?_) (fun hc => ?_)
      · rw [if_pos hc] at h
        refine r_iinc (lv' := [(4, 0, (w32 (v4 + 1))), (5, 0, x9), (0, 2, v0), (1, 0, v1), (2, 0, v2), (3, 0, v3)]) (pc := 86) hX 5 rfl (by decide) rfl (dk D_X10_reachable 50 rfl) ?_
        refine r_goto (pc := 89) hX 26 rfl (dk D_X10_reachable 51 rfl) ?_
        refine r_sub (lv' := [(0, 2, v0), (1, 0, v1), (2, 0, v2), (3, 0, v3), (4, 0, (w32 (v4 + 1)))]) [2, 3, 4, 5, 0] rfl ?_
        exact ih v0 v1 v2 v3 (w32 (v4 + 1)) μ q_v1 q_v2 q_v3 (R32_w _) h
      · rw [if_neg hc] at h
        refine r_iloadn (pc := 74) hX 3 rfl (dk D_X10_reachable 42 rfl) ?_
        refine r_iload (pc := 75) hX 0 rfl (dk D_X10_reachable 43 rfl) ?_
        refine r_iand (pc := 77) hX (dk D_X10_reachable 44 rfl) ?_
        refine r_if_eq (pc := 78) hX (R32_t _) 86 rfl (dk D_X10_reachable 45 rfl) (fun hc => ?_) (fun hc => ?_)
        · rw [if_pos hc] at h
          refine r_iinc (lv' := [(4, 0, (w32 (v4 + 1))), (5, 0, x9), (0, 2, v0), (1, 0, v1), (2, 0, v2), (3, 0, v3)]) (pc := 86) hX 5 rfl (by decide) rfl (dk D_X10_reachable 50 rfl) ?_
          refine r_goto (pc := 89) hX 26 rfl (dk D_X10_reachable 51 rfl) ?_
          refine r_sub (lv' := [(0, 2, v0), (1, 0, v1), (2, 0, v2), (3, 0, v3), (4, 0, (w32 (v4 + 1)))]) [2, 3, 4, 5, 0] rfl ?_
          exact ih v0 v1 v2 v3 (w32 (v4 + 1)) μ q_v1 q_v2 q_v3 (R32_w _) h
        · rw [if_neg hc] at h
          refine r_iloadn (pc := 81) hX 3 rfl (dk D_X10_reachable 46 rfl) ?_
          refine r_iload (pc := 82) hX 0 rfl (dk D_X10_reachable 47 rfl) ?_
          refine r_ior (pc := 84) hX (dk D_X10_reachable 48 rfl) ?_
          obtain ⟨x10, ex10, h⟩ := bd_some h
          replace ex10 := Option.some.inj ex10
          have qx10 : R32 x10 := ex10 ▸ (R32_t _)
          rw [ex10]
          refine r_istoren (lv' := [(2, 0, x10), (5, 0, x9), (0, 2, v0), (1, 0, v1), (3, 0, v3), (4, 0, v4)]) (pc := 85) hX (by decide) rfl (dk D_X10_reachable 49 rfl) ?_
          refine r_iinc (lv' := [(4, 0, (w32 (v4 + 1))), (2, 0, x10), (5, 0, x9), (0, 2, v0), (1, 0, v1), (3, 0, v3)]) (pc := 86) hX 5 rfl (by decide) rfl (dk D_X10_reachable 50 rfl) ?_
          refine r_goto (pc := 89) hX 26 rfl (dk D_X10_reachable 51 rfl) ?_
          refine r_sub (lv' := [(0, 2, v0), (1, 0, v1), (2, 0, x10), (3, 0, v3), (4, 0, (w32 (v4 + 1)))]) [3, 4, 1, 5, 0] rfl ?_
          exact ih v0 v1 x10 v3 (w32 (v4 + 1)) μ q_v1 qx10 q_v3 (R32_w _) h
set_option maxRecDepth 100000 in
set_option maxHeartbeats 4000000 in
theorem L_Wo_reachable_L12 {E : EX} {X : CX} {res : Int} {μe : Mem} (hX : Good E X cX10_reachable 6 "TollsBack$World") (hM : GoodM E X (some .int) (some (0, res)) μe 0 0) (hRm : cR X = rmOf 1 0 0) : ∀ (n : Nat) (v0 v1 v2 v3 : Int) (μ : Mem) (q_v1 : R32 v1) (q_v2 : R32 v2) (q_v3 : R32 v3) (h : Wo_reachable_L12 n v0 v1 v2 v3 μ = some (res, μe)), At E X cX10_reachable 6 "TollsBack$World" (0, 0) 12 [(0, 2, v0), (1, 0, v1), (2, 0, v2), (3, 0, v3)] [] μ := by
  intro n
  induction n with
  | zero =>
    intro v0 v1 v2 v3 μ q_v1 q_v2 q_v3 h
    have h : (none : Option (Int × Mem)) = some (res, μe) := h
    cases h
  | succ n ih =>
    intro v0 v1 v2 v3 μ q_v1 q_v2 q_v3 h
    rw [Wo_reachable_L12.eq_2] at h
    refine r_iloadn (pc := 12) hX 3 rfl (dk D_X10_reachable 8 rfl) ?_
    refine r_aloadn (pc := 13) hX 0 rfl (dk D_X10_reachable 9 rfl) ?_
    obtain ⟨x1, hx1, h⟩ := bd_some h
    refine r_getR (pc := 14) hX fl_10_12 rfl hx1 (dk D_X10_reachable 10 rfl) ?_
    obtain ⟨x2, hx2, h⟩ := bd_some h
    refine r_getI (pc := 17) hX fl_10_79 rfl rfl hx2 (dk D_X10_reachable 11 rfl) (fun qx2 => ?_)
    refine r_icmp_ge (pc := 20) hX q_v3 qx2 98 rfl (dk D_X10_reachable 12 rfl) (fun hc => ?_) (fun hc => ?_)
    · rw [if_neg hc] at h
      refine r_iloadn (pc := 98) hX 2 rfl (dk D_X10_reachable 54 rfl) ?_
      cases h
      exact r_ireturn (pc := 99) hX q_v2 hM ⟨by decide, by decide⟩ (dk D_X10_reachable 55 rfl)
    · rw [if_pos hc] at h
      refine r_iconst (pc := 23) hX (dk D_X10_reachable 13 rfl) ?_
      refine r_istore (lv' := [(4, 0, 0), (0, 2, v0), (1, 0, v1), (2, 0, v2), (3, 0, v3)]) (pc := 24) hX (by decide) rfl (dk D_X10_reachable 14 rfl) ?_
      refine r_sub (lv' := [(0, 2, v0), (1, 0, v1), (2, 0, v2), (3, 0, v3), (4, 0, 0)]) [1, 2, 3, 4, 0] rfl ?_
      refine L_Wo_reachable_L26 hX hM hRm ?_ FU v0 v1 v2 v3 0 μ q_v1 q_v2 q_v3 (R32_lit rfl) h
      intro x3 x4 x5 x6 μ7 qx4 qx5 qx6 h
      refine r_iinc (lv' := [(3, 0, (w32 (x6 + 1))), (0, 2, x3), (1, 0, x4), (2, 0, x5)]) (pc := 92) hX 3 rfl (by decide) rfl (dk D_X10_reachable 52 rfl) ?_
      refine r_goto (pc := 95) hX 12 rfl (dk D_X10_reachable 53 rfl) ?_
      refine r_sub (lv' := [(0, 2, x3), (1, 0, x4), (2, 0, x5), (3, 0, (w32 (x6 + 1)))]) [1, 2, 3, 0] rfl ?_
      exact ih x3 x4 x5 (w32 (x6 + 1)) μ7 qx4 qx5 (R32_w _) h
set_option maxRecDepth 100000 in
set_option maxHeartbeats 4000000 in
theorem L_Wo_reachable {E : EX} {l : Launch} {a0 a1 res : Int} {μ μ' : Mem} (q_a1 : R32 a1) (h : Wo_reachable a0 a1 μ = some (res, μ')) : Ok E l 1 yX10_reachable (.code yX10_reachable cX10_reachable 6 (some .int)) 0 0 [(2, a0), (0, a1)] μ (some (0, res)) μ' := by
  refine Ok.of (own := "TollsBack$World") [(0, 2, a0), (1, 0, a1)] (by decide +kernel) rfl (Nat.le_of_ble_eq_true rfl) rfl ?_
  intro X hL hRm hin hX hM
  unfold Wo_reachable at h
  subst hL
  refine r_iconst (pc := 0) hX (dk D_X10_reachable 0 rfl) ?_
  refine r_aloadn (pc := 1) hX 0 rfl (dk D_X10_reachable 1 rfl) ?_
  obtain ⟨x1, hx1, h⟩ := bd_some h
  refine r_getR (pc := 2) hX fl_10_12 rfl hx1 (dk D_X10_reachable 2 rfl) ?_
  obtain ⟨x2, hx2, h⟩ := bd_some h
  refine r_getI (pc := 5) hX fl_10_62 rfl rfl hx2 (dk D_X10_reachable 3 rfl) (fun qx2 => ?_)
  refine r_ishl (pc := 8) hX (dk D_X10_reachable 4 rfl) ?_
  obtain ⟨x3, ex3, h⟩ := bd_some h
  replace ex3 := Option.some.inj ex3
  have qx3 : R32 x3 := ex3 ▸ (R32_t _)
  rw [ex3]
  refine r_istoren (lv' := [(2, 0, x3), (0, 2, a0), (1, 0, a1)]) (pc := 9) hX (by decide) rfl (dk D_X10_reachable 5 rfl) ?_
  refine r_iconst (pc := 10) hX (dk D_X10_reachable 6 rfl) ?_
  refine r_istoren (lv' := [(3, 0, 1), (2, 0, x3), (0, 2, a0), (1, 0, a1)]) (pc := 11) hX (by decide) rfl (dk D_X10_reachable 7 rfl) ?_
  refine r_sub (lv' := [(0, 2, a0), (1, 0, a1), (2, 0, x3), (3, 0, 1)]) [2, 3, 1, 0] rfl ?_
  refine L_Wo_reachable_L12 hX hM hRm FU a0 a1 x3 1 μ q_a1 qx3 (R32_lit rfl) h
set_option maxRecDepth 100000 in
set_option maxHeartbeats 4000000 in
theorem L_Wo_enter {E : EX} {l : Launch} {a0 a1 a2 res : Int} {μ μ' : Mem} (q_a1 : R32 a1) (q_a2 : R32 a2) (h : Wo_enter a0 a1 a2 μ = some (res, μ')) : Ok E l 1 yX10_enter (.code yX10_enter cX10_enter 3 none) 0 0 [(2, a0), (0, a1), (0, a2)] μ none μ' := by
  refine Ok.of (own := "TollsBack$World") [(0, 2, a0), (1, 0, a1), (2, 0, a2)] (by decide +kernel) rfl (Nat.le_of_ble_eq_true rfl) rfl ?_
  intro X hL hRm hin hX hM
  unfold Wo_enter at h
  subst hL
  refine r_aloadn (pc := 0) hX 0 rfl (dk D_X10_enter 0 rfl) ?_
  refine r_dup (pc := 1) hX rfl (dk D_X10_enter 1 rfl) ?_
  obtain ⟨x1, hx1, h⟩ := bd_some h
  refine r_getI (pc := 2) hX fl_10_40 rfl rfl hx1 (dk D_X10_enter 2 rfl) (fun qx1 => ?_)
  refine r_iloadn (pc := 5) hX 2 rfl (dk D_X10_enter 3 rfl) ?_
  refine r_iadd (pc := 6) hX (dk D_X10_enter 4 rfl) ?_
  obtain ⟨μ2, hμ2, h⟩ := bd_some h
  refine r_putI (pc := 7) hX fl_10_40 rfl rfl (R32_w _) trivial hμ2 (dk D_X10_enter 5 rfl) ?_
  refine r_iloadn (pc := 10) hX 1 rfl (dk D_X10_enter 6 rfl) ?_
  refine r_if_lt (pc := 11) hX q_a1 31 rfl (dk D_X10_enter 7 rfl) (fun hc => ?_) (fun hc => ?_)
  · rw [if_pos hc] at h
    cases h
    exact r_return (pc := 31) hX hM ⟨by decide, by decide⟩ (dk D_X10_enter 19 rfl)
  · rw [if_neg hc] at h
    refine r_iloadn (pc := 14) hX 1 rfl (dk D_X10_enter 8 rfl) ?_
    refine r_sipush (pc := 15) hX rfl (dk D_X10_enter 9 rfl) ?_
    refine r_icmp_ge (pc := 18) hX q_a1 (R32_lit rfl) 31 rfl (dk D_X10_enter 10 rfl) (fun hc => ?_) (fun hc => ?_)
    · rw [if_neg hc] at h
      cases h
      exact r_return (pc := 31) hX hM ⟨by decide, by decide⟩ (dk D_X10_enter 19 rfl)
    · rw [if_pos hc] at h
      refine r_aloadn (pc := 21) hX 0 rfl (dk D_X10_enter 11 rfl) ?_
      obtain ⟨x3, hx3, h⟩ := bd_some h
      refine r_getR (pc := 22) hX fl_10_24 rfl hx3 (dk D_X10_enter 12 rfl) ?_
      refine r_iloadn (pc := 25) hX 1 rfl (dk D_X10_enter 13 rfl) ?_
      refine r_dup2 (pc := 26) hX rfl rfl (dk D_X10_enter 14 rfl) ?_
      obtain ⟨x4, hx4, h⟩ := bd_some h
      refine r_iald (pc := 27) hX q_a1 hx4 (dk D_X10_enter 15 rfl) (fun qx4 => ?_)
      refine r_iloadn (pc := 28) hX 2 rfl (dk D_X10_enter 16 rfl) ?_
      refine r_iadd (pc := 29) hX (dk D_X10_enter 17 rfl) ?_
      obtain ⟨μ5, hμ5, h⟩ := bd_some h
      refine r_iast (pc := 30) hX q_a1 (R32_w _) hμ5 (dk D_X10_enter 18 rfl) ?_
      cases h
      exact r_return (pc := 31) hX hM ⟨by decide, by decide⟩ (dk D_X10_enter 19 rfl)
set_option maxRecDepth 100000 in
set_option maxHeartbeats 4000000 in
theorem L_Wo_move {E : EX} {l : Launch} {a0 a1 a2 res : Int} {μ μ' : Mem} (q_a2 : R32 a2) (h : Wo_move a0 a1 a2 μ = some (res, μ')) : Ok E l 6 yX10_move (.code yX10_move cX10_move 5 (some .int)) 0 0 [(2, a0), (2, a1), (0, a2)] μ (some (0, res)) μ' := by
  refine Ok.of (own := "TollsBack$World") [(0, 2, a0), (1, 2, a1), (2, 0, a2)] (by decide +kernel) rfl (Nat.le_of_ble_eq_true rfl) rfl ?_
  intro X hL hRm hin hX hM
  unfold Wo_move at h
  subst hL
  refine r_aloadn (pc := 0) hX 1 rfl (dk D_X10_move 0 rfl) ?_
  obtain ⟨x1, hx1, h⟩ := bd_some h
  refine r_getI (pc := 1) hX fl_10_88 rfl rfl hx1 (dk D_X10_move 1 rfl) (fun qx1 => ?_)
  refine r_istoren (lv' := [(3, 0, x1), (0, 2, a0), (1, 2, a1), (2, 0, a2)]) (pc := 4) hX (by decide) rfl (dk D_X10_move 2 rfl) ?_
  refine r_aloadn (pc := 5) hX 1 rfl (dk D_X10_move 3 rfl) ?_
  refine r_aloadn (pc := 6) hX 2 rfl (dk D_X10_move 4 rfl) ?_
  refine r_iloadn (pc := 7) hX 3 rfl (dk D_X10_move 5 rfl) ?_
  obtain ⟨_, hi, h⟩ := bd_some h
  obtain ⟨x2, μ3, hx2, h⟩ := bd2_some h
  refine r_invV0 (As := [(2, a1), (0, a2)]) (pc := 8) hX ml_10_91 (L_Wo_step q_a2 hx2) (isk_u hi) (Rm_of hRm (by decide) ⟨by decide, by decide⟩) (by decide) rfl (Nat.le_of_ble_eq_true rfl) rfl (dk D_X10_move 6 rfl) (fun qx2 => ?_)
  refine r_istore (lv' := [(4, 0, x2), (3, 0, x1), (0, 2, a0), (1, 2, a1), (2, 0, a2)]) (pc := 11) hX (by decide) rfl (dk D_X10_move 7 rfl) ?_
  refine r_iload (pc := 13) hX 0 rfl (dk D_X10_move 8 rfl) ?_
  refine r_sipush (pc := 15) hX rfl (dk D_X10_move 9 rfl) ?_
  refine r_icmp_lt (pc := 18) hX qx2 (R32_lit rfl) 35 rfl (dk D_X10_move 10 rfl) (fun hc => ?_) (fun hc => ?_)
  · rw [if_pos hc] at h
    refine r_iload (pc := 35) hX 0 rfl (dk D_X10_move 18 rfl) ?_
    refine r_if_le (pc := 37) hX qx2 47 rfl (dk D_X10_move 19 rfl) (fun hc => ?_) (fun hc => ?_)
    · rw [if_neg hc] at h
      refine r_iload (pc := 47) hX 0 rfl (dk D_X10_move 24 rfl) ?_
      cases h
      exact r_ireturn (pc := 49) hX qx2 hM ⟨by decide, by decide⟩ (dk D_X10_move 25 rfl)
    · rw [if_pos hc] at h
      refine r_aloadn (pc := 40) hX 2 rfl (dk D_X10_move 20 rfl) ?_
      refine r_iloadn (pc := 41) hX 1 rfl (dk D_X10_move 21 rfl) ?_
      refine r_iload (pc := 42) hX 0 rfl (dk D_X10_move 22 rfl) ?_
      obtain ⟨_, hi, h⟩ := bd_some h
      obtain ⟨x4, μ5, hx4, h⟩ := bd2_some h
      refine r_invV0 (As := [(0, x1), (0, x2)]) (pc := 44) hX ml_10_95 (L_Wo_enter qx1 qx2 hx4) (isk_u hi) (Rm_of hRm (by decide) ⟨by decide, by decide⟩) (by decide) rfl (Nat.le_of_ble_eq_true rfl) rfl (dk D_X10_move 23 rfl) (fun _ => ?_)
      refine r_iload (pc := 47) hX 0 rfl (dk D_X10_move 24 rfl) ?_
      cases h
      exact r_ireturn (pc := 49) hX qx2 hM ⟨by decide, by decide⟩ (dk D_X10_move 25 rfl)
  · rw [if_neg hc] at h
    refine r_aloadn (pc := 21) hX 2 rfl (dk D_X10_move 11 rfl) ?_
    refine r_iloadn (pc := 22) hX 1 rfl (dk D_X10_move 12 rfl) ?_
    refine r_sipush (pc := 23) hX rfl (dk D_X10_move 13 rfl) ?_
    refine r_iload (pc := 26) hX 0 rfl (dk D_X10_move 14 rfl) ?_
    refine r_isub (pc := 28) hX (dk D_X10_move 15 rfl) ?_
    obtain ⟨_, hi, h⟩ := bd_some h
    obtain ⟨x6, μ7, hx6, h⟩ := bd2_some h
    refine r_invV0 (As := [(0, x1), (0, (w32 (1000 - x2)))]) (pc := 29) hX ml_10_95 (L_Wo_enter qx1 (R32_w _) hx6) (isk_u hi) (Rm_of hRm (by decide) ⟨by decide, by decide⟩) (by decide) rfl (Nat.le_of_ble_eq_true rfl) rfl (dk D_X10_move 16 rfl) (fun _ => ?_)
    refine r_goto (pc := 32) hX 47 rfl (dk D_X10_move 17 rfl) ?_
    refine r_iload (pc := 47) hX 0 rfl (dk D_X10_move 24 rfl) ?_
    cases h
    exact r_ireturn (pc := 49) hX qx2 hM ⟨by decide, by decide⟩ (dk D_X10_move 25 rfl)
set_option maxRecDepth 100000 in
set_option maxHeartbeats 4000000 in
theorem L_Wo_allSlips_L4 {E : EX} {X : CX} {res : Int} {μe : Mem} (hX : Good E X cX10_allSlips 3 "TollsBack$World") (hM : GoodM E X (some .int) (some (0, res)) μe 0 0) (hRm : cR X = rmOf 1 0 0) : ∀ (n : Nat) (v0 v1 v2 : Int) (μ : Mem) (q_v1 : R32 v1) (q_v2 : R32 v2) (h : Wo_allSlips_L4 n v0 v1 v2 μ = some (res, μe)), At E X cX10_allSlips 3 "TollsBack$World" (0, 0) 4 [(0, 2, v0), (1, 0, v1), (2, 0, v2)] [] μ := by
  intro n
  induction n with
  | zero =>
    intro v0 v1 v2 μ q_v1 q_v2 h
    have h : (none : Option (Int × Mem)) = some (res, μe) := h
    cases h
  | succ n ih =>
    intro v0 v1 v2 μ q_v1 q_v2 h
    rw [Wo_allSlips_L4.eq_2] at h
    refine r_iloadn (pc := 4) hX 2 rfl (dk D_X10_allSlips 4 rfl) ?_
    refine r_aloadn (pc := 5) hX 0 rfl (dk D_X10_allSlips 5 rfl) ?_
    obtain ⟨x1, hx1, h⟩ := bd_some h
    refine r_getI (pc := 6) hX fl_10_33 rfl rfl hx1 (dk D_X10_allSlips 6 rfl) (fun qx1 => ?_)
    refine r_icmp_ge (pc := 9) hX q_v2 qx1 30 rfl (dk D_X10_allSlips 7 rfl) (fun hc => ?_) (fun hc => ?_)
    · rw [if_neg hc] at h
      refine r_iloadn (pc := 30) hX 1 rfl (dk D_X10_allSlips 18 rfl) ?_
      cases h
      exact r_ireturn (pc := 31) hX q_v1 hM ⟨by decide, by decide⟩ (dk D_X10_allSlips 19 rfl)
    · rw [if_pos hc] at h
      refine r_iloadn (pc := 12) hX 1 rfl (dk D_X10_allSlips 8 rfl) ?_
      refine r_aloadn (pc := 13) hX 0 rfl (dk D_X10_allSlips 9 rfl) ?_
      obtain ⟨x2, hx2, h⟩ := bd_some h
      refine r_getR (pc := 14) hX fl_10_20 rfl hx2 (dk D_X10_allSlips 10 rfl) ?_
      refine r_iloadn (pc := 17) hX 2 rfl (dk D_X10_allSlips 11 rfl) ?_
      obtain ⟨x3, hx3, h⟩ := bd_some h
      refine r_aald24 (pc := 18) hX q_v2 hx3 (dk D_X10_allSlips 12 rfl) ?_
      obtain ⟨x4, hx4, h⟩ := bd_some h
      refine r_getI (pc := 19) hX fl_10_108 rfl rfl hx4 (dk D_X10_allSlips 13 rfl) (fun qx4 => ?_)
      refine r_iadd (pc := 22) hX (dk D_X10_allSlips 14 rfl) ?_
      obtain ⟨x5, ex5, h⟩ := bd_some h
      replace ex5 := Option.some.inj ex5
      have qx5 : R32 x5 := ex5 ▸ (R32_w _)
      rw [ex5]
      refine r_istoren (lv' := [(1, 0, x5), (0, 2, v0), (2, 0, v2)]) (pc := 23) hX (by decide) rfl (dk D_X10_allSlips 15 rfl) ?_
      refine r_iinc (lv' := [(2, 0, (w32 (v2 + 1))), (1, 0, x5), (0, 2, v0)]) (pc := 24) hX 2 rfl (by decide) rfl (dk D_X10_allSlips 16 rfl) ?_
      refine r_goto (pc := 27) hX 4 rfl (dk D_X10_allSlips 17 rfl) ?_
      refine r_sub (lv' := [(0, 2, v0), (1, 0, x5), (2, 0, (w32 (v2 + 1)))]) [2, 1, 0] rfl ?_
      exact ih v0 x5 (w32 (v2 + 1)) μ qx5 (R32_w _) h
set_option maxRecDepth 100000 in
set_option maxHeartbeats 4000000 in
theorem L_Wo_allSlips {E : EX} {l : Launch} {a0 res : Int} {μ μ' : Mem}  (h : Wo_allSlips a0 μ = some (res, μ')) : Ok E l 1 yX10_allSlips (.code yX10_allSlips cX10_allSlips 3 (some .int)) 0 0 [(2, a0)] μ (some (0, res)) μ' := by
  refine Ok.of (own := "TollsBack$World") [(0, 2, a0)] (by decide +kernel) rfl (Nat.le_of_ble_eq_true rfl) rfl ?_
  intro X hL hRm hin hX hM
  unfold Wo_allSlips at h
  subst hL
  refine r_iconst (pc := 0) hX (dk D_X10_allSlips 0 rfl) ?_
  refine r_istoren (lv' := [(1, 0, 0), (0, 2, a0)]) (pc := 1) hX (by decide) rfl (dk D_X10_allSlips 1 rfl) ?_
  refine r_iconst (pc := 2) hX (dk D_X10_allSlips 2 rfl) ?_
  refine r_istoren (lv' := [(2, 0, 0), (1, 0, 0), (0, 2, a0)]) (pc := 3) hX (by decide) rfl (dk D_X10_allSlips 3 rfl) ?_
  refine r_sub (lv' := [(0, 2, a0), (1, 0, 0), (2, 0, 0)]) [2, 1, 0] rfl ?_
  refine L_Wo_allSlips_L4 hX hM hRm FU a0 0 0 μ (R32_lit rfl) (R32_lit rfl) h
set_option maxRecDepth 100000 in
set_option maxHeartbeats 4000000 in
theorem L_Wo_lateSlips_L22 {E : EX} {X : CX} {res : Int} {μe : Mem} (hX : Good E X cX10_lateSlips 5 "TollsBack$World") (hM : GoodM E X (some .int) (some (0, res)) μe 0 0) (hRm : cR X = rmOf 2 0 0) {k62 : Int → Int → Int → Mem → Option (Int × Mem)} (hk62 : ∀ (u0 u1 u2 : Int) (μ : Mem), R32 u1 → R32 u2 → k62 u0 u1 u2 μ = some (res, μe) → At E X cX10_lateSlips 5 "TollsBack$World" (0, 0) 62 [(0, 2, u0), (1, 0, u1), (2, 0, u2)] [] μ) : ∀ (n : Nat) (v0 v1 v2 v3 v4 : Int) (μ : Mem) (q_v1 : R32 v1) (q_v2 : R32 v2) (q_v4 : R32 v4) (h : Wo_lateSlips_L22 k62 n v0 v1 v2 v3 v4 μ = some (res, μe)), At E X cX10_lateSlips 5 "TollsBack$World" (0, 0) 22 [(0, 2, v0), (1, 0, v1), (2, 0, v2), (3, 2, v3), (4, 0, v4)] [] μ := by
  intro n
  induction n with
  | zero =>
    intro v0 v1 v2 v3 v4 μ q_v1 q_v2 q_v4 h
    have h : (none : Option (Int × Mem)) = some (res, μe) := h
    cases h
  | succ n ih =>
    intro v0 v1 v2 v3 v4 μ q_v1 q_v2 q_v4 h
    rw [Wo_lateSlips_L22.eq_2] at h
    refine r_iload (pc := 22) hX 4 rfl (dk D_X10_lateSlips 15 rfl) ?_
    refine r_aloadn (pc := 24) hX 3 rfl (dk D_X10_lateSlips 16 rfl) ?_
    obtain ⟨x1, hx1, h⟩ := bd_some h
    refine r_getI (pc := 25) hX fl_10_108 rfl rfl hx1 (dk D_X10_lateSlips 17 rfl) (fun qx1 => ?_)
    refine r_icmp_ge (pc := 28) hX q_v4 qx1 62 rfl (dk D_X10_lateSlips 18 rfl) (fun hc => ?_) (fun hc => ?_)
    · rw [if_neg hc] at h
      refine r_sub (lv' := [(0, 2, v0), (1, 0, v1), (2, 0, v2)]) [0, 1, 2] rfl ?_
      exact hk62 v0 v1 v2 μ q_v1 q_v2 h
    · rw [if_pos hc] at h
      refine r_iloadn (pc := 31) hX 1 rfl (dk D_X10_lateSlips 19 rfl) ?_
      refine r_aloadn (pc := 32) hX 0 rfl (dk D_X10_lateSlips 20 rfl) ?_
      obtain ⟨x2, hx2, h⟩ := bd_some h
      refine r_getR (pc := 33) hX fl_10_12 rfl hx2 (dk D_X10_lateSlips 21 rfl) ?_
      refine r_aloadn (pc := 36) hX 3 rfl (dk D_X10_lateSlips 22 rfl) ?_
      refine r_iload (pc := 37) hX 4 rfl (dk D_X10_lateSlips 23 rfl) ?_
      refine r_aloadn (pc := 39) hX 3 rfl (dk D_X10_lateSlips 24 rfl) ?_
      obtain ⟨x3, hx3, h⟩ := bd_some h
      refine r_getI (pc := 40) hX fl_10_88 rfl rfl hx3 (dk D_X10_lateSlips 25 rfl) (fun qx3 => ?_)
      obtain ⟨_, hi, h⟩ := bd_some h
      obtain ⟨x4, μ5, hx4, h⟩ := bd2_some h
      refine r_invV0 (As := [(2, v3), (0, v4), (0, x3)]) (pc := 43) hX ml_10_148 (L_Kg_isLate q_v4 qx3 hx4) (isk_u hi) (Rm_of hRm (by decide) ⟨by decide, by decide⟩) (by decide) rfl (Nat.le_of_ble_eq_true rfl) rfl (dk D_X10_lateSlips 26 rfl) (fun qx4 => ?_)
      refine r_if_eq (pc := 46) hX qx4 53 rfl (dk D_X10_lateSlips 27 rfl) (fun hc => ?_) (fun hc => ?_)
      · rw [if_pos hc] at h
        refine r_iconst (pc := 53) hX (dk D_X10_lateSlips 30 rfl) ?_
        refine r_iadd (pc := 54) hX (dk D_X10_lateSlips 31 rfl) ?_
        obtain ⟨x6, ex6, h⟩ := bd_some h
        replace ex6 := Option.some.inj ex6
        have qx6 : R32 x6 := ex6 ▸ (R32_w _)
        rw [ex6]
        refine r_istoren (lv' := [(1, 0, x6), (0, 2, v0), (2, 0, v2), (3, 2, v3), (4, 0, v4)]) (pc := 55) hX (by decide) rfl (dk D_X10_lateSlips 32 rfl) ?_
        refine r_iinc (lv' := [(4, 0, (w32 (v4 + 1))), (1, 0, x6), (0, 2, v0), (2, 0, v2), (3, 2, v3)]) (pc := 56) hX 4 rfl (by decide) rfl (dk D_X10_lateSlips 33 rfl) ?_
        refine r_goto (pc := 59) hX 22 rfl (dk D_X10_lateSlips 34 rfl) ?_
        refine r_sub (lv' := [(0, 2, v0), (1, 0, x6), (2, 0, v2), (3, 2, v3), (4, 0, (w32 (v4 + 1)))]) [2, 1, 3, 4, 0] rfl ?_
        exact ih v0 x6 v2 v3 (w32 (v4 + 1)) μ5 qx6 q_v2 (R32_w _) h
      · rw [if_neg hc] at h
        refine r_iconst (pc := 49) hX (dk D_X10_lateSlips 28 rfl) ?_
        refine r_goto (pc := 50) hX 54 rfl (dk D_X10_lateSlips 29 rfl) ?_
        refine r_iadd (pc := 54) hX (dk D_X10_lateSlips 31 rfl) ?_
        obtain ⟨x7, ex7, h⟩ := bd_some h
        replace ex7 := Option.some.inj ex7
        have qx7 : R32 x7 := ex7 ▸ (R32_w _)
        rw [ex7]
        refine r_istoren (lv' := [(1, 0, x7), (0, 2, v0), (2, 0, v2), (3, 2, v3), (4, 0, v4)]) (pc := 55) hX (by decide) rfl (dk D_X10_lateSlips 32 rfl) ?_
        refine r_iinc (lv' := [(4, 0, (w32 (v4 + 1))), (1, 0, x7), (0, 2, v0), (2, 0, v2), (3, 2, v3)]) (pc := 56) hX 4 rfl (by decide) rfl (dk D_X10_lateSlips 33 rfl) ?_
        refine r_goto (pc := 59) hX 22 rfl (dk D_X10_lateSlips 34 rfl) ?_
        refine r_sub (lv' := [(0, 2, v0), (1, 0, x7), (2, 0, v2), (3, 2, v3), (4, 0, (w32 (v4 + 1)))]) [2, 1, 3, 4, 0] rfl ?_
        exact ih v0 x7 v2 v3 (w32 (v4 + 1)) μ5 qx7 q_v2 (R32_w _) h
set_option maxRecDepth 100000 in
set_option maxHeartbeats 4000000 in
theorem L_Wo_lateSlips_L4 {E : EX} {X : CX} {res : Int} {μe : Mem} (hX : Good E X cX10_lateSlips 5 "TollsBack$World") (hM : GoodM E X (some .int) (some (0, res)) μe 0 0) (hRm : cR X = rmOf 2 0 0) : ∀ (n : Nat) (v0 v1 v2 : Int) (μ : Mem) (q_v1 : R32 v1) (q_v2 : R32 v2) (h : Wo_lateSlips_L4 n v0 v1 v2 μ = some (res, μe)), At E X cX10_lateSlips 5 "TollsBack$World" (0, 0) 4 [(0, 2, v0), (1, 0, v1), (2, 0, v2)] [] μ := by
  intro n
  induction n with
  | zero =>
    intro v0 v1 v2 μ q_v1 q_v2 h
    have h : (none : Option (Int × Mem)) = some (res, μe) := h
    cases h
  | succ n ih =>
    intro v0 v1 v2 μ q_v1 q_v2 h
    rw [Wo_lateSlips_L4.eq_2] at h
    refine r_iloadn (pc := 4) hX 2 rfl (dk D_X10_lateSlips 4 rfl) ?_
    refine r_aloadn (pc := 5) hX 0 rfl (dk D_X10_lateSlips 5 rfl) ?_
    obtain ⟨x1, hx1, h⟩ := bd_some h
    refine r_getI (pc := 6) hX fl_10_33 rfl rfl hx1 (dk D_X10_lateSlips 6 rfl) (fun qx1 => ?_)
    refine r_icmp_ge (pc := 9) hX q_v2 qx1 68 rfl (dk D_X10_lateSlips 7 rfl) (fun hc => ?_) (fun hc => ?_)
    · rw [if_neg hc] at h
      refine r_iloadn (pc := 68) hX 1 rfl (dk D_X10_lateSlips 37 rfl) ?_
      cases h
      exact r_ireturn (pc := 69) hX q_v1 hM ⟨by decide, by decide⟩ (dk D_X10_lateSlips 38 rfl)
    · rw [if_pos hc] at h
      refine r_aloadn (pc := 12) hX 0 rfl (dk D_X10_lateSlips 8 rfl) ?_
      obtain ⟨x2, hx2, h⟩ := bd_some h
      refine r_getR (pc := 13) hX fl_10_20 rfl hx2 (dk D_X10_lateSlips 9 rfl) ?_
      refine r_iloadn (pc := 16) hX 2 rfl (dk D_X10_lateSlips 10 rfl) ?_
      obtain ⟨x3, hx3, h⟩ := bd_some h
      refine r_aald24 (pc := 17) hX q_v2 hx3 (dk D_X10_lateSlips 11 rfl) ?_
      refine r_astoren (lv' := [(3, 2, x3), (0, 2, v0), (1, 0, v1), (2, 0, v2)]) (pc := 18) hX (by decide) rfl (dk D_X10_lateSlips 12 rfl) ?_
      refine r_iconst (pc := 19) hX (dk D_X10_lateSlips 13 rfl) ?_
      refine r_istore (lv' := [(4, 0, 0), (3, 2, x3), (0, 2, v0), (1, 0, v1), (2, 0, v2)]) (pc := 20) hX (by decide) rfl (dk D_X10_lateSlips 14 rfl) ?_
      refine r_sub (lv' := [(0, 2, v0), (1, 0, v1), (2, 0, v2), (3, 2, x3), (4, 0, 0)]) [2, 3, 4, 1, 0] rfl ?_
      refine L_Wo_lateSlips_L22 hX hM hRm ?_ FU v0 v1 v2 x3 0 μ q_v1 q_v2 (R32_lit rfl) h
      intro x4 x5 x6 μ7 qx5 qx6 h
      refine r_iinc (lv' := [(2, 0, (w32 (x6 + 1))), (0, 2, x4), (1, 0, x5)]) (pc := 62) hX 2 rfl (by decide) rfl (dk D_X10_lateSlips 35 rfl) ?_
      refine r_goto (pc := 65) hX 4 rfl (dk D_X10_lateSlips 36 rfl) ?_
      refine r_sub (lv' := [(0, 2, x4), (1, 0, x5), (2, 0, (w32 (x6 + 1)))]) [1, 2, 0] rfl ?_
      exact ih x4 x5 (w32 (x6 + 1)) μ7 qx5 (R32_w _) h
set_option maxRecDepth 100000 in
set_option maxHeartbeats 4000000 in
theorem L_Wo_lateSlips {E : EX} {l : Launch} {a0 res : Int} {μ μ' : Mem}  (h : Wo_lateSlips a0 μ = some (res, μ')) : Ok E l 2 yX10_lateSlips (.code yX10_lateSlips cX10_lateSlips 5 (some .int)) 0 0 [(2, a0)] μ (some (0, res)) μ' := by
  refine Ok.of (own := "TollsBack$World") [(0, 2, a0)] (by decide +kernel) rfl (Nat.le_of_ble_eq_true rfl) rfl ?_
  intro X hL hRm hin hX hM
  unfold Wo_lateSlips at h
  subst hL
  refine r_iconst (pc := 0) hX (dk D_X10_lateSlips 0 rfl) ?_
  refine r_istoren (lv' := [(1, 0, 0), (0, 2, a0)]) (pc := 1) hX (by decide) rfl (dk D_X10_lateSlips 1 rfl) ?_
  refine r_iconst (pc := 2) hX (dk D_X10_lateSlips 2 rfl) ?_
  refine r_istoren (lv' := [(2, 0, 0), (1, 0, 0), (0, 2, a0)]) (pc := 3) hX (by decide) rfl (dk D_X10_lateSlips 3 rfl) ?_
  refine r_sub (lv' := [(0, 2, a0), (1, 0, 0), (2, 0, 0)]) [2, 1, 0] rfl ?_
  refine L_Wo_lateSlips_L4 hX hM hRm FU a0 0 0 μ (R32_lit rfl) (R32_lit rfl) h
set_option maxRecDepth 100000 in
set_option maxHeartbeats 4000000 in
theorem L_Wo_debtOn_L15 {E : EX} {X : CX} {res : Int} {μe : Mem} (hX : Good E X cX10_debtOn 5 "TollsBack$World") (hM : GoodM E X (some .int) (some (0, res)) μe 0 0) (hRm : cR X = rmOf 3 0 0) {k54 : Int → Int → Int → Int → Mem → Option (Int × Mem)} (hk54 : ∀ (u0 u1 u2 u3 : Int) (μ : Mem), R32 u1 → R32 u2 → R32 u3 → k54 u0 u1 u2 u3 μ = some (res, μe) → At E X cX10_debtOn 5 "TollsBack$World" (0, 0) 54 [(0, 2, u0), (1, 0, u1), (2, 0, u2), (3, 0, u3)] [] μ) : ∀ (n : Nat) (v0 v1 v2 v3 v4 : Int) (μ : Mem) (q_v1 : R32 v1) (q_v2 : R32 v2) (q_v3 : R32 v3) (q_v4 : R32 v4) (h : Wo_debtOn_L15 k54 n v0 v1 v2 v3 v4 μ = some (res, μe)), At E X cX10_debtOn 5 "TollsBack$World" (0, 0) 15 [(0, 2, v0), (1, 0, v1), (2, 0, v2), (3, 0, v3), (4, 0, v4)] [] μ := by
  intro n
  induction n with
  | zero =>
    intro v0 v1 v2 v3 v4 μ q_v1 q_v2 q_v3 q_v4 h
    have h : (none : Option (Int × Mem)) = some (res, μe) := h
    cases h
  | succ n ih =>
    intro v0 v1 v2 v3 v4 μ q_v1 q_v2 q_v3 q_v4 h
    rw [Wo_debtOn_L15.eq_2] at h
    refine r_iload (pc := 15) hX 4 rfl (dk D_X10_debtOn 10 rfl) ?_
    refine r_aloadn (pc := 17) hX 0 rfl (dk D_X10_debtOn 11 rfl) ?_
    obtain ⟨x1, hx1, h⟩ := bd_some h
    refine r_getR (pc := 18) hX fl_10_20 rfl hx1 (dk D_X10_debtOn 12 rfl) ?_
    refine r_iloadn (pc := 21) hX 3 rfl (dk D_X10_debtOn 13 rfl) ?_
    obtain ⟨x2, hx2, h⟩ := bd_some h
    refine r_aald24 (pc := 22) hX q_v3 hx2 (dk D_X10_debtOn 14 rfl) ?_
    obtain ⟨x3, hx3, h⟩ := bd_some h
    refine r_getI (pc := 23) hX fl_10_108 rfl rfl hx3 (dk D_X10_debtOn 15 rfl) (fun qx3 => ?_)
    refine r_icmp_ge (pc := 26) hX q_v4 qx3 54 rfl (dk D_X10_debtOn 16 rfl) (fun hc => ?_) (fun hc => ?_)
    · rw [if_neg hc] at h
      refine r_sub (lv' := [(0, 2, v0), (1, 0, v1), (2, 0, v2), (3, 0, v3)]) [0, 1, 2, 3] rfl ?_
      exact hk54 v0 v1 v2 v3 μ q_v1 q_v2 q_v3 h
    · rw [if_pos hc] at h
      refine r_iloadn (pc := 29) hX 2 rfl (dk D_X10_debtOn 17 rfl) ?_
      refine r_aloadn (pc := 30) hX 0 rfl (dk D_X10_debtOn 18 rfl) ?_
      obtain ⟨x4, hx4, h⟩ := bd_some h
      refine r_getR (pc := 31) hX fl_10_12 rfl hx4 (dk D_X10_debtOn 19 rfl) ?_
      refine r_aloadn (pc := 34) hX 0 rfl (dk D_X10_debtOn 20 rfl) ?_
      obtain ⟨x5, hx5, h⟩ := bd_some h
      refine r_getR (pc := 35) hX fl_10_20 rfl hx5 (dk D_X10_debtOn 21 rfl) ?_
      refine r_iloadn (pc := 38) hX 3 rfl (dk D_X10_debtOn 22 rfl) ?_
      obtain ⟨x6, hx6, h⟩ := bd_some h
      refine r_aald24 (pc := 39) hX q_v3 hx6 (dk D_X10_debtOn 23 rfl) ?_
      refine r_iload (pc := 40) hX 4 rfl (dk D_X10_debtOn 24 rfl) ?_
      refine r_iloadn (pc := 42) hX 1 rfl (dk D_X10_debtOn 25 rfl) ?_
      obtain ⟨_, hi, h⟩ := bd_some h
      obtain ⟨x7, μ8, hx7, h⟩ := bd2_some h
      refine r_invV0 (As := [(2, x6), (0, v4), (0, v1)]) (pc := 43) hX ml_10_128 (L_Kg_worthOn q_v4 q_v1 hx7) (isk_u hi) (Rm_of hRm (by decide) ⟨by decide, by decide⟩) (by decide) rfl (Nat.le_of_ble_eq_true rfl) rfl (dk D_X10_debtOn 26 rfl) (fun qx7 => ?_)
      refine r_iadd (pc := 46) hX (dk D_X10_debtOn 27 rfl) ?_
      obtain ⟨x9, ex9, h⟩ := bd_some h
      replace ex9 := Option.some.inj ex9
      have qx9 : R32 x9 := ex9 ▸ (R32_w _)
      rw [ex9]
      refine r_istoren (lv' := [(2, 0, x9), (0, 2, v0), (1, 0, v1), (3, 0, v3), (4, 0, v4)]) (pc := 47) hX (by decide) rfl (dk D_X10_debtOn 28 rfl) ?_
      refine r_iinc (lv' := [(4, 0, (w32 (v4 + 1))), (2, 0, x9), (0, 2, v0), (1, 0, v1), (3, 0, v3)]) (pc := 48) hX 4 rfl (by decide) rfl (dk D_X10_debtOn 29 rfl) ?_
      refine r_goto (pc := 51) hX 15 rfl (dk D_X10_debtOn 30 rfl) ?_
      refine r_sub (lv' := [(0, 2, v0), (1, 0, v1), (2, 0, x9), (3, 0, v3), (4, 0, (w32 (v4 + 1)))]) [2, 3, 1, 4, 0] rfl ?_
      exact ih v0 v1 x9 v3 (w32 (v4 + 1)) μ8 q_v1 qx9 q_v3 (R32_w _) h
set_option maxRecDepth 100000 in
set_option maxHeartbeats 4000000 in
theorem L_Wo_debtOn_L4 {E : EX} {X : CX} {res : Int} {μe : Mem} (hX : Good E X cX10_debtOn 5 "TollsBack$World") (hM : GoodM E X (some .int) (some (0, res)) μe 0 0) (hRm : cR X = rmOf 3 0 0) : ∀ (n : Nat) (v0 v1 v2 v3 : Int) (μ : Mem) (q_v1 : R32 v1) (q_v2 : R32 v2) (q_v3 : R32 v3) (h : Wo_debtOn_L4 n v0 v1 v2 v3 μ = some (res, μe)), At E X cX10_debtOn 5 "TollsBack$World" (0, 0) 4 [(0, 2, v0), (1, 0, v1), (2, 0, v2), (3, 0, v3)] [] μ := by
  intro n
  induction n with
  | zero =>
    intro v0 v1 v2 v3 μ q_v1 q_v2 q_v3 h
    have h : (none : Option (Int × Mem)) = some (res, μe) := h
    cases h
  | succ n ih =>
    intro v0 v1 v2 v3 μ q_v1 q_v2 q_v3 h
    rw [Wo_debtOn_L4.eq_2] at h
    refine r_iloadn (pc := 4) hX 3 rfl (dk D_X10_debtOn 4 rfl) ?_
    refine r_aloadn (pc := 5) hX 0 rfl (dk D_X10_debtOn 5 rfl) ?_
    obtain ⟨x1, hx1, h⟩ := bd_some h
    refine r_getI (pc := 6) hX fl_10_33 rfl rfl hx1 (dk D_X10_debtOn 6 rfl) (fun qx1 => ?_)
    refine r_icmp_ge (pc := 9) hX q_v3 qx1 60 rfl (dk D_X10_debtOn 7 rfl) (fun hc => ?_) (fun hc => ?_)
    · rw [if_neg hc] at h
      refine r_iloadn (pc := 60) hX 2 rfl (dk D_X10_debtOn 33 rfl) ?_
      cases h
      exact r_ireturn (pc := 61) hX q_v2 hM ⟨by decide, by decide⟩ (dk D_X10_debtOn 34 rfl)
    · rw [if_pos hc] at h
      refine r_iconst (pc := 12) hX (dk D_X10_debtOn 8 rfl) ?_
      refine r_istore (lv' := [(4, 0, 0), (0, 2, v0), (1, 0, v1), (2, 0, v2), (3, 0, v3)]) (pc := 13) hX (by decide) rfl (dk D_X10_debtOn 9 rfl) ?_
      refine r_sub (lv' := [(0, 2, v0), (1, 0, v1), (2, 0, v2), (3, 0, v3), (4, 0, 0)]) [1, 2, 3, 4, 0] rfl ?_
      refine L_Wo_debtOn_L15 hX hM hRm ?_ FU v0 v1 v2 v3 0 μ q_v1 q_v2 q_v3 (R32_lit rfl) h
      intro x2 x3 x4 x5 μ6 qx3 qx4 qx5 h
      refine r_iinc (lv' := [(3, 0, (w32 (x5 + 1))), (0, 2, x2), (1, 0, x3), (2, 0, x4)]) (pc := 54) hX 3 rfl (by decide) rfl (dk D_X10_debtOn 31 rfl) ?_
      refine r_goto (pc := 57) hX 4 rfl (dk D_X10_debtOn 32 rfl) ?_
      refine r_sub (lv' := [(0, 2, x2), (1, 0, x3), (2, 0, x4), (3, 0, (w32 (x5 + 1)))]) [1, 2, 3, 0] rfl ?_
      exact ih x2 x3 x4 (w32 (x5 + 1)) μ6 qx3 qx4 (R32_w _) h
set_option maxRecDepth 100000 in
set_option maxHeartbeats 4000000 in
theorem L_Wo_debtOn {E : EX} {l : Launch} {a0 a1 res : Int} {μ μ' : Mem} (q_a1 : R32 a1) (h : Wo_debtOn a0 a1 μ = some (res, μ')) : Ok E l 3 yX10_debtOn (.code yX10_debtOn cX10_debtOn 5 (some .int)) 0 0 [(2, a0), (0, a1)] μ (some (0, res)) μ' := by
  refine Ok.of (own := "TollsBack$World") [(0, 2, a0), (1, 0, a1)] (by decide +kernel) rfl (Nat.le_of_ble_eq_true rfl) rfl ?_
  intro X hL hRm hin hX hM
  unfold Wo_debtOn at h
  subst hL
  refine r_iconst (pc := 0) hX (dk D_X10_debtOn 0 rfl) ?_
  refine r_istoren (lv' := [(2, 0, 0), (0, 2, a0), (1, 0, a1)]) (pc := 1) hX (by decide) rfl (dk D_X10_debtOn 1 rfl) ?_
  refine r_iconst (pc := 2) hX (dk D_X10_debtOn 2 rfl) ?_
  refine r_istoren (lv' := [(3, 0, 0), (2, 0, 0), (0, 2, a0), (1, 0, a1)]) (pc := 3) hX (by decide) rfl (dk D_X10_debtOn 3 rfl) ?_
  refine r_sub (lv' := [(0, 2, a0), (1, 0, a1), (2, 0, 0), (3, 0, 0)]) [2, 3, 1, 0] rfl ?_
  refine L_Wo_debtOn_L4 hX hM hRm FU a0 a1 0 0 μ q_a1 (R32_lit rfl) (R32_lit rfl) h
set_option maxRecDepth 100000 in
set_option maxHeartbeats 4000000 in
theorem L_Wo_firstSlipDay_L22 {E : EX} {X : CX} {res : Int} {μe : Mem} (hX : Good E X cX10_firstSlipDay 5 "TollsBack$World") (hM : GoodM E X (some .int) (some (0, res)) μe 0 0) (hRm : cR X = rmOf 2 0 0) {k64 : Int → Int → Int → Mem → Option (Int × Mem)} (hk64 : ∀ (u0 u1 u2 : Int) (μ : Mem), R32 u1 → R32 u2 → k64 u0 u1 u2 μ = some (res, μe) → At E X cX10_firstSlipDay 5 "TollsBack$World" (0, 0) 64 [(0, 2, u0), (1, 0, u1), (2, 0, u2)] [] μ) : ∀ (n : Nat) (v0 v1 v2 v3 v4 : Int) (μ : Mem) (q_v1 : R32 v1) (q_v2 : R32 v2) (q_v4 : R32 v4) (h : Wo_firstSlipDay_L22 k64 n v0 v1 v2 v3 v4 μ = some (res, μe)), At E X cX10_firstSlipDay 5 "TollsBack$World" (0, 0) 22 [(0, 2, v0), (1, 0, v1), (2, 0, v2), (3, 2, v3), (4, 0, v4)] [] μ := by
  intro n
  induction n with
  | zero =>
    intro v0 v1 v2 v3 v4 μ q_v1 q_v2 q_v4 h
    have h : (none : Option (Int × Mem)) = some (res, μe) := h
    cases h
  | succ n ih =>
    intro v0 v1 v2 v3 v4 μ q_v1 q_v2 q_v4 h
    rw [Wo_firstSlipDay_L22.eq_2] at h
    refine r_iload (pc := 22) hX 4 rfl (dk D_X10_firstSlipDay 15 rfl) ?_
    refine r_aloadn (pc := 24) hX 3 rfl (dk D_X10_firstSlipDay 16 rfl) ?_
    obtain ⟨x1, hx1, h⟩ := bd_some h
    refine r_getI (pc := 25) hX fl_10_108 rfl rfl hx1 (dk D_X10_firstSlipDay 17 rfl) (fun qx1 => ?_)
    refine r_icmp_ge (pc := 28) hX q_v4 qx1 64 rfl (dk D_X10_firstSlipDay 18 rfl) (fun hc => ?_) (fun hc => ?_)
    · rw [if_neg hc] at h
      refine r_sub (lv' := [(0, 2, v0), (1, 0, v1), (2, 0, v2)]) [0, 1, 2] rfl ?_
      exact hk64 v0 v1 v2 μ q_v1 q_v2 h
    · rw [if_pos hc] at h
      refine r_iloadn (pc := 31) hX 1 rfl (dk D_X10_firstSlipDay 19 rfl) ?_
      refine r_iconst (pc := 32) hX (dk D_X10_firstSlipDay 20 rfl) ?_
      refine r_icmp_ne (pc := 33) hX q_v1 (R32_lit rfl) 46 rfl (dk D_X10_firstSlipDay 21 rfl) (fun hc => ?_) (fun hc => ?_)
      · rw [if_neg hc] at h
        refine r_iloadn (pc := 46) hX 1 rfl (dk D_X10_firstSlipDay 27 rfl) ?_
        refine r_aloadn (pc := 47) hX 3 rfl (dk D_X10_firstSlipDay 28 rfl) ?_
        obtain ⟨x2, hx2, h⟩ := bd_some h
        refine r_getR (pc := 48) hX fl_10_152 rfl hx2 (dk D_X10_firstSlipDay 29 rfl) ?_
        refine r_iload (pc := 51) hX 4 rfl (dk D_X10_firstSlipDay 30 rfl) ?_
        obtain ⟨x3, hx3, h⟩ := bd_some h
        refine r_iald (pc := 53) hX q_v4 hx3 (dk D_X10_firstSlipDay 31 rfl) (fun qx3 => ?_)
        obtain ⟨x4, μ5, hx4, h⟩ := bd2_some h
        refine r_invS0 (As := [(0, v1), (0, x3)]) (pc := 54) hX ml_10_155 (L_J_min q_v1 qx3 hx4) (Rm_of hRm (by decide) ⟨by decide, by decide⟩) (by decide) rfl (Nat.le_of_ble_eq_true rfl) rfl (dk D_X10_firstSlipDay 32 rfl) (fun qx4 => ?_)
        refine r_istoren (lv' := [(1, 0, x4), (0, 2, v0), (2, 0, v2), (3, 2, v3), (4, 0, v4)]) (pc := 57) hX (by decide) rfl (dk D_X10_firstSlipDay 33 rfl) ?_
        refine r_iinc (lv' := [(4, 0, (w32 (v4 + 1))), (1, 0, x4), (0, 2, v0), (2, 0, v2), (3, 2, v3)]) (pc := 58) hX 4 rfl (by decide) rfl (dk D_X10_firstSlipDay 34 rfl) ?_
        refine r_goto (pc := 61) hX 22 rfl (dk D_X10_firstSlipDay 35 rfl) ?_
        refine r_sub (lv' := [(0, 2, v0), (1, 0, x4), (2, 0, v2), (3, 2, v3), (4, 0, (w32 (v4 + 1)))]) [2, 1, 3, 4, 0] rfl ?_
        exact ih v0 x4 v2 v3 (w32 (v4 + 1)) μ5 qx4 q_v2 (R32_w _) h
      · rw [if_pos hc] at h
        refine r_aloadn (pc := 36) hX 3 rfl (dk D_X10_firstSlipDay 22 rfl) ?_
        obtain ⟨x6, hx6, h⟩ := bd_some h
        refine r_getR (pc := 37) hX fl_10_152 rfl hx6 (dk D_X10_firstSlipDay 23 rfl) ?_
        refine r_iload (pc := 40) hX 4 rfl (dk D_X10_firstSlipDay 24 rfl) ?_
        obtain ⟨x7, hx7, h⟩ := bd_some h
        refine r_iald (pc := 42) hX q_v4 hx7 (dk D_X10_firstSlipDay 25 rfl) (fun qx7 => ?_)
        refine r_goto (pc := 43) hX 57 rfl (dk D_X10_firstSlipDay 26 rfl) ?_
        refine r_istoren (lv' := [(1, 0, x7), (0, 2, v0), (2, 0, v2), (3, 2, v3), (4, 0, v4)]) (pc := 57) hX (by decide) rfl (dk D_X10_firstSlipDay 33 rfl) ?_
        refine r_iinc (lv' := [(4, 0, (w32 (v4 + 1))), (1, 0, x7), (0, 2, v0), (2, 0, v2), (3, 2, v3)]) (pc := 58) hX 4 rfl (by decide) rfl (dk D_X10_firstSlipDay 34 rfl) ?_
        refine r_goto (pc := 61) hX 22 rfl (dk D_X10_firstSlipDay 35 rfl) ?_
        refine r_sub (lv' := [(0, 2, v0), (1, 0, x7), (2, 0, v2), (3, 2, v3), (4, 0, (w32 (v4 + 1)))]) [2, 1, 3, 4, 0] rfl ?_
        exact ih v0 x7 v2 v3 (w32 (v4 + 1)) μ qx7 q_v2 (R32_w _) h
set_option maxRecDepth 100000 in
set_option maxHeartbeats 4000000 in
theorem L_Wo_firstSlipDay_L4 {E : EX} {X : CX} {res : Int} {μe : Mem} (hX : Good E X cX10_firstSlipDay 5 "TollsBack$World") (hM : GoodM E X (some .int) (some (0, res)) μe 0 0) (hRm : cR X = rmOf 2 0 0) : ∀ (n : Nat) (v0 v1 v2 : Int) (μ : Mem) (q_v1 : R32 v1) (q_v2 : R32 v2) (h : Wo_firstSlipDay_L4 n v0 v1 v2 μ = some (res, μe)), At E X cX10_firstSlipDay 5 "TollsBack$World" (0, 0) 4 [(0, 2, v0), (1, 0, v1), (2, 0, v2)] [] μ := by
  intro n
  induction n with
  | zero =>
    intro v0 v1 v2 μ q_v1 q_v2 h
    have h : (none : Option (Int × Mem)) = some (res, μe) := h
    cases h
  | succ n ih =>
    intro v0 v1 v2 μ q_v1 q_v2 h
    rw [Wo_firstSlipDay_L4.eq_2] at h
    refine r_iloadn (pc := 4) hX 2 rfl (dk D_X10_firstSlipDay 4 rfl) ?_
    refine r_aloadn (pc := 5) hX 0 rfl (dk D_X10_firstSlipDay 5 rfl) ?_
    obtain ⟨x1, hx1, h⟩ := bd_some h
    refine r_getI (pc := 6) hX fl_10_33 rfl rfl hx1 (dk D_X10_firstSlipDay 6 rfl) (fun qx1 => ?_)
    refine r_icmp_ge (pc := 9) hX q_v2 qx1 70 rfl (dk D_X10_firstSlipDay 7 rfl) (fun hc => ?_) (fun hc => ?_)
    · rw [if_neg hc] at h
      refine r_iloadn (pc := 70) hX 1 rfl (dk D_X10_firstSlipDay 38 rfl) ?_
      cases h
      exact r_ireturn (pc := 71) hX q_v1 hM ⟨by decide, by decide⟩ (dk D_X10_firstSlipDay 39 rfl)
    · rw [if_pos hc] at h
      refine r_aloadn (pc := 12) hX 0 rfl (dk D_X10_firstSlipDay 8 rfl) ?_
      obtain ⟨x2, hx2, h⟩ := bd_some h
      refine r_getR (pc := 13) hX fl_10_20 rfl hx2 (dk D_X10_firstSlipDay 9 rfl) ?_
      refine r_iloadn (pc := 16) hX 2 rfl (dk D_X10_firstSlipDay 10 rfl) ?_
      obtain ⟨x3, hx3, h⟩ := bd_some h
      refine r_aald24 (pc := 17) hX q_v2 hx3 (dk D_X10_firstSlipDay 11 rfl) ?_
      refine r_astoren (lv' := [(3, 2, x3), (0, 2, v0), (1, 0, v1), (2, 0, v2)]) (pc := 18) hX (by decide) rfl (dk D_X10_firstSlipDay 12 rfl) ?_
      refine r_iconst (pc := 19) hX (dk D_X10_firstSlipDay 13 rfl) ?_
      refine r_istore (lv' := [(4, 0, 0), (3, 2, x3), (0, 2, v0), (1, 0, v1), (2, 0, v2)]) (pc := 20) hX (by decide) rfl (dk D_X10_firstSlipDay 14 rfl) ?_
      refine r_sub (lv' := [(0, 2, v0), (1, 0, v1), (2, 0, v2), (3, 2, x3), (4, 0, 0)]) [2, 3, 4, 1, 0] rfl ?_
      refine L_Wo_firstSlipDay_L22 hX hM hRm ?_ FU v0 v1 v2 x3 0 μ q_v1 q_v2 (R32_lit rfl) h
      intro x4 x5 x6 μ7 qx5 qx6 h
      refine r_iinc (lv' := [(2, 0, (w32 (x6 + 1))), (0, 2, x4), (1, 0, x5)]) (pc := 64) hX 2 rfl (by decide) rfl (dk D_X10_firstSlipDay 36 rfl) ?_
      refine r_goto (pc := 67) hX 4 rfl (dk D_X10_firstSlipDay 37 rfl) ?_
      refine r_sub (lv' := [(0, 2, x4), (1, 0, x5), (2, 0, (w32 (x6 + 1)))]) [1, 2, 0] rfl ?_
      exact ih x4 x5 (w32 (x6 + 1)) μ7 qx5 (R32_w _) h
set_option maxRecDepth 100000 in
set_option maxHeartbeats 4000000 in
theorem L_Wo_firstSlipDay {E : EX} {l : Launch} {a0 res : Int} {μ μ' : Mem}  (h : Wo_firstSlipDay a0 μ = some (res, μ')) : Ok E l 2 yX10_firstSlipDay (.code yX10_firstSlipDay cX10_firstSlipDay 5 (some .int)) 0 0 [(2, a0)] μ (some (0, res)) μ' := by
  refine Ok.of (own := "TollsBack$World") [(0, 2, a0)] (by decide +kernel) rfl (Nat.le_of_ble_eq_true rfl) rfl ?_
  intro X hL hRm hin hX hM
  unfold Wo_firstSlipDay at h
  subst hL
  refine r_iconst (pc := 0) hX (dk D_X10_firstSlipDay 0 rfl) ?_
  refine r_istoren (lv' := [(1, 0, (-1)), (0, 2, a0)]) (pc := 1) hX (by decide) rfl (dk D_X10_firstSlipDay 1 rfl) ?_
  refine r_iconst (pc := 2) hX (dk D_X10_firstSlipDay 2 rfl) ?_
  refine r_istoren (lv' := [(2, 0, 0), (1, 0, (-1)), (0, 2, a0)]) (pc := 3) hX (by decide) rfl (dk D_X10_firstSlipDay 3 rfl) ?_
  refine r_sub (lv' := [(0, 2, a0), (1, 0, (-1)), (2, 0, 0)]) [2, 1, 0] rfl ?_
  refine L_Wo_firstSlipDay_L4 hX hM hRm FU a0 (-1) 0 μ (R32_lit rfl) (R32_lit rfl) h
set_option maxRecDepth 100000 in
set_option maxHeartbeats 4000000 in
theorem L_T_init_L156 {E : EX} {X : CX} {res : Int} {μe : Mem} (hX : Good E X cX11_init 2 "TollsBack") (hM : GoodM E X none none μe 106 6339) (hRm : cR X = rmOf 4 106 6339) : ∀ (n : Nat) (v0 v1 : Int) (μ : Mem) (c0 s0 : Nat) (hcs : c0 + n * 2 ≤ 106 ∧ s0 + n * 44 ≤ 6339) (q_v1 : R32 v1) (h : T_init_L156 n v0 v1 μ = some (res, μe)), At E X cX11_init 2 "TollsBack" (c0, s0) 156 [(0, 2, v0), (1, 0, v1)] [] μ := by
  intro n
  induction n with
  | zero =>
    intro v0 v1 μ c0 s0 hcs q_v1 h
    have h : (none : Option (Int × Mem)) = some (res, μe) := h
    cases h
  | succ n ih =>
    intro v0 v1 μ c0 s0 hcs q_v1 h
    rw [T_init_L156.eq_2] at h
    refine r_iloadn (pc := 156) (cs := (c0, s0)) hX 1 rfl (dk D_X11_init 75 rfl) ?_
    refine r_iconst (pc := 157) (cs := (c0, s0)) hX (dk D_X11_init 76 rfl) ?_
    refine r_icmp_ge (pc := 158) (cs := (c0, s0)) hX q_v1 (R32_lit rfl) 180 rfl (dk D_X11_init 77 rfl) (fun hc => ?_) (fun hc => ?_)
    · rw [if_neg hc] at h
      cases h
      exact r_return (pc := 180) hX hM ⟨by (try dsimp only); omega, by (try dsimp only); omega⟩ (dk D_X11_init 87 rfl)
    · rw [if_pos hc] at h
      refine r_aloadn (pc := 161) (cs := (c0, s0)) hX 0 rfl (dk D_X11_init 78 rfl) ?_
      obtain ⟨x1, hx1, h⟩ := bd_some h
      refine r_getR (pc := 162) (cs := (c0, s0)) hX fl_11_36 rfl hx1 (dk D_X11_init 79 rfl) ?_
      refine r_iloadn (pc := 165) (cs := (c0, s0)) hX 1 rfl (dk D_X11_init 80 rfl) ?_
      refine r_new (pc := 166) (cs := (c0, s0)) hX nw_11_34 (by rw [hRm]; exact ⟨by (show _ ≤ (rmOf _ _ _).cells); (simp only [rmOf]); omega, by (show _ ≤ (rmOf _ _ _).slots); (simp only [rmOf]); omega⟩) (dk D_X11_init 81 rfl) ?_
      refine r_dup (pc := 169) (cs := (c0 + 1, s0 + 4)) hX rfl (dk D_X11_init 82 rfl) ?_
      obtain ⟨x2, μ3, hx2, h⟩ := bd2_some h
      refine r_invIN (As := []) (pc := 170) (cs := (c0 + 1, s0 + 4)) hX ml_11_99 (L_Nu_init hx2) nlen_nn (Rm_of hRm (by decide) ⟨by (try dsimp only); omega, by (try dsimp only); omega⟩) (by decide) rfl (Nat.le_of_ble_eq_true rfl) rfl (dk D_X11_init 83 rfl) ?_
      obtain ⟨_, hi, h⟩ := bd_some h
      obtain ⟨μ4, hμ4, h⟩ := bd_some h
      refine r_aast26 (pc := 173) (cs := (c0 + 2, s0 + 44)) hX q_v1 (isk_u hi) hμ4 (dk D_X11_init 84 rfl) ?_
      refine r_iinc (lv' := [(1, 0, (w32 (v1 + 1))), (0, 2, v0)]) (pc := 174) (cs := (c0 + 2, s0 + 44)) hX 1 rfl (by decide) rfl (dk D_X11_init 85 rfl) ?_
      refine r_goto (pc := 177) (cs := (c0 + 2, s0 + 44)) hX 156 rfl (dk D_X11_init 86 rfl) ?_
      refine r_sub (lv' := [(0, 2, v0), (1, 0, (w32 (v1 + 1)))]) [1, 0] rfl ?_
      exact ih v0 (w32 (v1 + 1)) μ4 (c0 + 2) (s0 + 44) (by omega) (R32_w _) h
set_option maxRecDepth 100000 in
set_option maxHeartbeats 4000000 in
theorem L_T_init {E : EX} {l : Launch} {a0 res : Int} {μ μ' : Mem}  (h : T_init a0 μ = some (res, μ')) : Ok E l 4 yX11_init (.code yX11_init cX11_init 2 none) 106 6339 [(2, a0)] μ none μ' := by
  refine Ok.of (own := "TollsBack") [(0, 2, a0)] (by decide +kernel) rfl (Nat.le_of_ble_eq_true rfl) rfl ?_
  intro X hL hRm hin hX hM
  unfold T_init at h
  subst hL
  refine r_aloadn (pc := 0) (cs := (0, 0)) hX 0 rfl (dk D_X11_init 0 rfl) ?_
  obtain ⟨_, hi, h⟩ := bd_some h
  refine r_objI (pc := 1) (cs := (0, 0)) hX (isk_nn hi (by decide)) ml_11_1 (Rm_of hRm (by decide) ⟨by (try dsimp only); omega, by (try dsimp only); omega⟩) (Nat.le_of_ble_eq_true rfl) (dk D_X11_init 1 rfl) ?_
  refine r_aloadn (pc := 4) (cs := (0, 0)) hX 0 rfl (dk D_X11_init 2 rfl) ?_
  refine r_sipush (pc := 5) (cs := (0, 0)) hX rfl (dk D_X11_init 3 rfl) ?_
  refine r_newB (N := 700) (pc := 8) (cs := (0, 0)) hX ac_byte (by decide) (by rw [hRm]; exact ⟨by (show _ ≤ (rmOf _ _ _).cells); (simp only [rmOf]); omega, by (show _ ≤ (rmOf _ _ _).slots); (simp only [rmOf]); omega⟩) (dk D_X11_init 4 rfl) ?_
  obtain ⟨μ1, hμ1, h⟩ := bd_some h
  refine r_putF (pc := 10) (cs := (1, 700)) hX fl_11_9 (hin rfl) ⟨_, _, _, rfl, rfl⟩ rfl rfl trivial hμ1 (dk D_X11_init 5 rfl) ?_
  refine r_aloadn (pc := 13) (cs := (1, 700)) hX 0 rfl (dk D_X11_init 6 rfl) ?_
  refine r_iconst (pc := 14) (cs := (1, 700)) hX (dk D_X11_init 7 rfl) ?_
  obtain ⟨μ2, hμ2, h⟩ := bd_some h
  refine r_putI (pc := 15) (cs := (1, 700)) hX fl_11_13 rfl rfl (R32_lit rfl) trivial hμ2 (dk D_X11_init 8 rfl) ?_
  refine r_aloadn (pc := 18) (cs := (1, 700)) hX 0 rfl (dk D_X11_init 9 rfl) ?_
  refine r_iconst (pc := 19) (cs := (1, 700)) hX (dk D_X11_init 10 rfl) ?_
  obtain ⟨μ3, hμ3, h⟩ := bd_some h
  refine r_putI (pc := 20) (cs := (1, 700)) hX fl_11_17 rfl rfl (R32_lit rfl) trivial hμ3 (dk D_X11_init 11 rfl) ?_
  refine r_aloadn (pc := 23) (cs := (1, 700)) hX 0 rfl (dk D_X11_init 12 rfl) ?_
  refine r_iconst (pc := 24) (cs := (1, 700)) hX (dk D_X11_init 13 rfl) ?_
  obtain ⟨μ4, hμ4, h⟩ := bd_some h
  refine r_putI (pc := 25) (cs := (1, 700)) hX fl_11_20 rfl rfl (R32_lit rfl) trivial hμ4 (dk D_X11_init 14 rfl) ?_
  refine r_aloadn (pc := 28) (cs := (1, 700)) hX 0 rfl (dk D_X11_init 15 rfl) ?_
  refine r_new (pc := 29) (cs := (1, 700)) hX nw_11_23 (by rw [hRm]; exact ⟨by (show _ ≤ (rmOf _ _ _).cells); (simp only [rmOf]); omega, by (show _ ≤ (rmOf _ _ _).slots); (simp only [rmOf]); omega⟩) (dk D_X11_init 16 rfl) ?_
  refine r_dup (pc := 32) (cs := (2, 706)) hX rfl (dk D_X11_init 17 rfl) ?_
  obtain ⟨x5, μ6, hx5, h⟩ := bd2_some h
  refine r_invI (As := []) (pc := 33) (cs := (2, 706)) hX ml_11_25 (L_Wo_init hx5) nlen_nn (Rm_of hRm (by decide) ⟨by (try dsimp only); omega, by (try dsimp only); omega⟩) (by decide) rfl (Nat.le_of_ble_eq_true rfl) rfl (dk D_X11_init 18 rfl) ?_
  obtain ⟨μ7, hμ7, h⟩ := bd_some h
  refine r_putF (pc := 36) (cs := (38, 2468)) hX fl_11_26 (hin rfl) ⟨_, _, _, rfl, rfl⟩ rfl rfl trivial hμ7 (dk D_X11_init 19 rfl) ?_
  refine r_aloadn (pc := 39) (cs := (38, 2468)) hX 0 rfl (dk D_X11_init 20 rfl) ?_
  refine r_iconst (pc := 40) (cs := (38, 2468)) hX (dk D_X11_init 21 rfl) ?_
  refine r_newQ (N := 2) (ci := 25) (t0 := 5) (pc := 41) (cs := (38, 2468)) hX wd_120 (by decide) (by decide) rfl (by decide) (by rw [hRm]; exact ⟨by (show _ ≤ (rmOf _ _ _).cells); (simp only [rmOf]); omega, by (show _ ≤ (rmOf _ _ _).slots); (simp only [rmOf]); omega⟩) (dk D_X11_init 22 rfl) ?_
  obtain ⟨μ8, hμ8, h⟩ := bd_some h
  refine r_putF (pc := 44) (cs := (39, 2470)) hX fl_11_30 (hin rfl) ⟨_, _, _, rfl, rfl⟩ rfl rfl trivial hμ8 (dk D_X11_init 23 rfl) ?_
  refine r_aloadn (pc := 47) (cs := (39, 2470)) hX 0 rfl (dk D_X11_init 24 rfl) ?_
  refine r_iconst (pc := 48) (cs := (39, 2470)) hX (dk D_X11_init 25 rfl) ?_
  refine r_newQ (N := 4) (ci := 26) (t0 := 6) (pc := 49) (cs := (39, 2470)) hX wd_326 (by decide) (by decide) rfl (by decide) (by rw [hRm]; exact ⟨by (show _ ≤ (rmOf _ _ _).cells); (simp only [rmOf]); omega, by (show _ ≤ (rmOf _ _ _).slots); (simp only [rmOf]); omega⟩) (dk D_X11_init 26 rfl) ?_
  obtain ⟨μ9, hμ9, h⟩ := bd_some h
  refine r_putF (pc := 52) (cs := (40, 2474)) hX fl_11_36 (hin rfl) ⟨_, _, _, rfl, rfl⟩ rfl rfl trivial hμ9 (dk D_X11_init 27 rfl) ?_
  refine r_aloadn (pc := 55) (cs := (40, 2474)) hX 0 rfl (dk D_X11_init 28 rfl) ?_
  refine r_new (pc := 56) (cs := (40, 2474)) hX nw_11_40 (by rw [hRm]; exact ⟨by (show _ ≤ (rmOf _ _ _).cells); (simp only [rmOf]); omega, by (show _ ≤ (rmOf _ _ _).slots); (simp only [rmOf]); omega⟩) (dk D_X11_init 29 rfl) ?_
  refine r_dup (pc := 59) (cs := (41, 2483)) hX rfl (dk D_X11_init 30 rfl) ?_
  obtain ⟨x10, μ11, hx10, h⟩ := bd2_some h
  refine r_invIN (As := []) (pc := 60) (cs := (41, 2483)) hX ml_11_42 (L_Rd_init hx10) nlen_nn (Rm_of hRm (by decide) ⟨by (try dsimp only); omega, by (try dsimp only); omega⟩) (by decide) rfl (Nat.le_of_ble_eq_true rfl) rfl (dk D_X11_init 31 rfl) ?_
  obtain ⟨μ12, hμ12, h⟩ := bd_some h
  refine r_putF (pc := 63) (cs := (48, 2616)) hX fl_11_43 (hin rfl) ⟨_, _, _, rfl, rfl⟩ rfl rfl trivial hμ12 (dk D_X11_init 32 rfl) ?_
  refine r_aloadn (pc := 66) (cs := (48, 2616)) hX 0 rfl (dk D_X11_init 33 rfl) ?_
  refine r_new (pc := 67) (cs := (48, 2616)) hX nw_11_47 (by rw [hRm]; exact ⟨by (show _ ≤ (rmOf _ _ _).cells); (simp only [rmOf]); omega, by (show _ ≤ (rmOf _ _ _).slots); (simp only [rmOf]); omega⟩) (dk D_X11_init 34 rfl) ?_
  refine r_dup (pc := 70) (cs := (49, 2625)) hX rfl (dk D_X11_init 35 rfl) ?_
  obtain ⟨x13, μ14, hx13, h⟩ := bd2_some h
  refine r_invIN (As := []) (pc := 71) (cs := (49, 2625)) hX ml_11_49 (L_Tr_init hx13) nlen_nn (Rm_of hRm (by decide) ⟨by (try dsimp only); omega, by (try dsimp only); omega⟩) (by decide) rfl (Nat.le_of_ble_eq_true rfl) rfl (dk D_X11_init 36 rfl) ?_
  obtain ⟨μ15, hμ15, h⟩ := bd_some h
  refine r_putF (pc := 74) (cs := (52, 2745)) hX fl_11_50 (hin rfl) ⟨_, _, _, rfl, rfl⟩ rfl rfl trivial hμ15 (dk D_X11_init 37 rfl) ?_
  refine r_aloadn (pc := 77) (cs := (52, 2745)) hX 0 rfl (dk D_X11_init 38 rfl) ?_
  refine r_new (pc := 78) (cs := (52, 2745)) hX nw_11_54 (by rw [hRm]; exact ⟨by (show _ ≤ (rmOf _ _ _).cells); (simp only [rmOf]); omega, by (show _ ≤ (rmOf _ _ _).slots); (simp only [rmOf]); omega⟩) (dk D_X11_init 39 rfl) ?_
  refine r_dup (pc := 81) (cs := (53, 2751)) hX rfl (dk D_X11_init 40 rfl) ?_
  obtain ⟨x16, μ17, hx16, h⟩ := bd2_some h
  refine r_invIN (As := []) (pc := 82) (cs := (53, 2751)) hX ml_11_56 (L_Tp_init hx16) nlen_nn (Rm_of hRm (by decide) ⟨by (try dsimp only); omega, by (try dsimp only); omega⟩) (by decide) rfl (Nat.le_of_ble_eq_true rfl) rfl (dk D_X11_init 41 rfl) ?_
  obtain ⟨μ18, hμ18, h⟩ := bd_some h
  refine r_putF (pc := 85) (cs := (59, 2962)) hX fl_11_57 (hin rfl) ⟨_, _, _, rfl, rfl⟩ rfl rfl trivial hμ18 (dk D_X11_init 42 rfl) ?_
  refine r_aloadn (pc := 88) (cs := (59, 2962)) hX 0 rfl (dk D_X11_init 43 rfl) ?_
  refine r_new (pc := 89) (cs := (59, 2962)) hX nw_11_54 (by rw [hRm]; exact ⟨by (show _ ≤ (rmOf _ _ _).cells); (simp only [rmOf]); omega, by (show _ ≤ (rmOf _ _ _).slots); (simp only [rmOf]); omega⟩) (dk D_X11_init 44 rfl) ?_
  refine r_dup (pc := 92) (cs := (60, 2968)) hX rfl (dk D_X11_init 45 rfl) ?_
  obtain ⟨x19, μ20, hx19, h⟩ := bd2_some h
  refine r_invIN (As := []) (pc := 93) (cs := (60, 2968)) hX ml_11_56 (L_Tp_init hx19) nlen_nn (Rm_of hRm (by decide) ⟨by (try dsimp only); omega, by (try dsimp only); omega⟩) (by decide) rfl (Nat.le_of_ble_eq_true rfl) rfl (dk D_X11_init 46 rfl) ?_
  obtain ⟨μ21, hμ21, h⟩ := bd_some h
  refine r_putF (pc := 96) (cs := (66, 3179)) hX fl_11_61 (hin rfl) ⟨_, _, _, rfl, rfl⟩ rfl rfl trivial hμ21 (dk D_X11_init 47 rfl) ?_
  refine r_aloadn (pc := 99) (cs := (66, 3179)) hX 0 rfl (dk D_X11_init 48 rfl) ?_
  refine r_new (pc := 100) (cs := (66, 3179)) hX nw_11_64 (by rw [hRm]; exact ⟨by (show _ ≤ (rmOf _ _ _).cells); (simp only [rmOf]); omega, by (show _ ≤ (rmOf _ _ _).slots); (simp only [rmOf]); omega⟩) (dk D_X11_init 49 rfl) ?_
  refine r_dup (pc := 103) (cs := (67, 3183)) hX rfl (dk D_X11_init 50 rfl) ?_
  obtain ⟨x22, μ23, hx22, h⟩ := bd2_some h
  refine r_invIN (As := []) (pc := 104) (cs := (67, 3183)) hX ml_11_66 (L_Re_init hx22) nlen_nn (Rm_of hRm (by decide) ⟨by (try dsimp only); omega, by (try dsimp only); omega⟩) (by decide) rfl (Nat.le_of_ble_eq_true rfl) rfl (dk D_X11_init 51 rfl) ?_
  obtain ⟨μ24, hμ24, h⟩ := bd_some h
  refine r_putF (pc := 107) (cs := (67, 3183)) hX fl_11_67 (hin rfl) ⟨_, _, _, rfl, rfl⟩ rfl rfl trivial hμ24 (dk D_X11_init 52 rfl) ?_
  refine r_aloadn (pc := 110) (cs := (67, 3183)) hX 0 rfl (dk D_X11_init 53 rfl) ?_
  refine r_new (pc := 111) (cs := (67, 3183)) hX nw_11_71 (by rw [hRm]; exact ⟨by (show _ ≤ (rmOf _ _ _).cells); (simp only [rmOf]); omega, by (show _ ≤ (rmOf _ _ _).slots); (simp only [rmOf]); omega⟩) (dk D_X11_init 54 rfl) ?_
  refine r_dup (pc := 114) (cs := (68, 3185)) hX rfl (dk D_X11_init 55 rfl) ?_
  obtain ⟨x25, μ26, hx25, h⟩ := bd2_some h
  refine r_invIN (As := []) (pc := 115) (cs := (68, 3185)) hX ml_11_73 (L_Wy_init hx25) nlen_nn (Rm_of hRm (by decide) ⟨by (try dsimp only); omega, by (try dsimp only); omega⟩) (by decide) rfl (Nat.le_of_ble_eq_true rfl) rfl (dk D_X11_init 56 rfl) ?_
  obtain ⟨μ27, hμ27, h⟩ := bd_some h
  refine r_putF (pc := 118) (cs := (70, 3221)) hX fl_11_74 (hin rfl) ⟨_, _, _, rfl, rfl⟩ rfl rfl trivial hμ27 (dk D_X11_init 57 rfl) ?_
  refine r_aloadn (pc := 121) (cs := (70, 3221)) hX 0 rfl (dk D_X11_init 58 rfl) ?_
  refine r_new (pc := 122) (cs := (70, 3221)) hX nw_11_78 (by rw [hRm]; exact ⟨by (show _ ≤ (rmOf _ _ _).cells); (simp only [rmOf]); omega, by (show _ ≤ (rmOf _ _ _).slots); (simp only [rmOf]); omega⟩) (dk D_X11_init 59 rfl) ?_
  refine r_dup (pc := 125) (cs := (71, 3231)) hX rfl (dk D_X11_init 60 rfl) ?_
  obtain ⟨x28, μ29, hx28, h⟩ := bd2_some h
  refine r_invIN (As := []) (pc := 126) (cs := (71, 3231)) hX ml_11_80 (L_To_init hx28) nlen_nn (Rm_of hRm (by decide) ⟨by (try dsimp only); omega, by (try dsimp only); omega⟩) (by decide) rfl (Nat.le_of_ble_eq_true rfl) rfl (dk D_X11_init 61 rfl) ?_
  obtain ⟨μ30, hμ30, h⟩ := bd_some h
  refine r_putF (pc := 129) (cs := (87, 3452)) hX fl_11_81 (hin rfl) ⟨_, _, _, rfl, rfl⟩ rfl rfl trivial hμ30 (dk D_X11_init 62 rfl) ?_
  refine r_aloadn (pc := 132) (cs := (87, 3452)) hX 0 rfl (dk D_X11_init 63 rfl) ?_
  refine r_new (pc := 133) (cs := (87, 3452)) hX nw_11_85 (by rw [hRm]; exact ⟨by (show _ ≤ (rmOf _ _ _).cells); (simp only [rmOf]); omega, by (show _ ≤ (rmOf _ _ _).slots); (simp only [rmOf]); omega⟩) (dk D_X11_init 64 rfl) ?_
  refine r_dup (pc := 136) (cs := (88, 3460)) hX rfl (dk D_X11_init 65 rfl) ?_
  obtain ⟨x31, μ32, hx31, h⟩ := bd2_some h
  refine r_invIN (As := []) (pc := 137) (cs := (88, 3460)) hX ml_11_87 (L_Ct_init hx31) nlen_nn (Rm_of hRm (by decide) ⟨by (try dsimp only); omega, by (try dsimp only); omega⟩) (by decide) rfl (Nat.le_of_ble_eq_true rfl) rfl (dk D_X11_init 66 rfl) ?_
  obtain ⟨μ33, hμ33, h⟩ := bd_some h
  refine r_putF (pc := 140) (cs := (93, 6081)) hX fl_11_88 (hin rfl) ⟨_, _, _, rfl, rfl⟩ rfl rfl trivial hμ33 (dk D_X11_init 67 rfl) ?_
  refine r_aloadn (pc := 143) (cs := (93, 6081)) hX 0 rfl (dk D_X11_init 68 rfl) ?_
  refine r_new (pc := 144) (cs := (93, 6081)) hX nw_11_92 (by rw [hRm]; exact ⟨by (show _ ≤ (rmOf _ _ _).cells); (simp only [rmOf]); omega, by (show _ ≤ (rmOf _ _ _).slots); (simp only [rmOf]); omega⟩) (dk D_X11_init 69 rfl) ?_
  refine r_dup (pc := 147) (cs := (94, 6083)) hX rfl (dk D_X11_init 70 rfl) ?_
  obtain ⟨x34, μ35, hx34, h⟩ := bd2_some h
  refine r_invIN (As := []) (pc := 148) (cs := (94, 6083)) hX ml_11_94 (L_Te_init hx34) nlen_nn (Rm_of hRm (by decide) ⟨by (try dsimp only); omega, by (try dsimp only); omega⟩) (by decide) rfl (Nat.le_of_ble_eq_true rfl) rfl (dk D_X11_init 71 rfl) ?_
  obtain ⟨μ36, hμ36, h⟩ := bd_some h
  refine r_putF (pc := 151) (cs := (96, 6119)) hX fl_11_95 (hin rfl) ⟨_, _, _, rfl, rfl⟩ rfl rfl trivial hμ36 (dk D_X11_init 72 rfl) ?_
  refine r_iconst (pc := 154) (cs := (96, 6119)) hX (dk D_X11_init 73 rfl) ?_
  refine r_istoren (lv' := [(1, 0, 0), (0, 2, a0)]) (pc := 155) (cs := (96, 6119)) hX (by decide) rfl (dk D_X11_init 74 rfl) ?_
  refine r_sub (lv' := [(0, 2, a0), (1, 0, 0)]) [1, 0] rfl ?_
  refine L_T_init_L156 hX hM hRm 5 a0 0 μ36 96 6119 (by omega) (R32_lit rfl) h
set_option maxRecDepth 100000 in
set_option maxHeartbeats 4000000 in
theorem L_T_tapeInt_L3 {E : EX} {X : CX} {res : Int} {μe : Mem} (hX : Good E X cX11_tapeInt 3 "TollsBack") (hM : GoodM E X none none μe 0 0) (hRm : cR X = rmOf 1 0 0) : ∀ (n : Nat) (v0 v1 v2 : Int) (μ : Mem) (q_v1 : R32 v1) (q_v2 : R32 v2) (h : T_tapeInt_L3 n v0 v1 v2 μ = some (res, μe)), At E X cX11_tapeInt 3 "TollsBack" (0, 0) 3 [(0, 2, v0), (1, 0, v1), (2, 0, v2)] [] μ := by
  intro n
  induction n with
  | zero =>
    intro v0 v1 v2 μ q_v1 q_v2 h
    have h : (none : Option (Int × Mem)) = some (res, μe) := h
    cases h
  | succ n ih =>
    intro v0 v1 v2 μ q_v1 q_v2 h
    rw [T_tapeInt_L3.eq_2] at h
    refine r_iloadn (pc := 3) hX 2 rfl (dk D_X11_tapeInt 2 rfl) ?_
    refine r_if_lt (pc := 4) hX q_v2 46 rfl (dk D_X11_tapeInt 3 rfl) (fun hc => ?_) (fun hc => ?_)
    · rw [if_pos hc] at h
      cases h
      exact r_return (pc := 46) hX hM ⟨by decide, by decide⟩ (dk D_X11_tapeInt 25 rfl)
    · rw [if_neg hc] at h
      refine r_aloadn (pc := 7) hX 0 rfl (dk D_X11_tapeInt 4 rfl) ?_
      obtain ⟨x1, hx1, h⟩ := bd_some h
      refine r_getI (pc := 8) hX fl_11_13 rfl rfl hx1 (dk D_X11_tapeInt 5 rfl) (fun qx1 => ?_)
      refine r_sipush (pc := 11) hX rfl (dk D_X11_tapeInt 6 rfl) ?_
      refine r_icmp_ge (pc := 14) hX qx1 (R32_lit rfl) 46 rfl (dk D_X11_tapeInt 7 rfl) (fun hc => ?_) (fun hc => ?_)
      · rw [if_neg hc] at h
        cases h
        exact r_return (pc := 46) hX hM ⟨by decide, by decide⟩ (dk D_X11_tapeInt 25 rfl)
      · rw [if_pos hc] at h
        refine r_aloadn (pc := 17) hX 0 rfl (dk D_X11_tapeInt 8 rfl) ?_
        obtain ⟨x2, hx2, h⟩ := bd_some h
        refine r_getR (pc := 18) hX fl_11_9 rfl hx2 (dk D_X11_tapeInt 9 rfl) ?_
        refine r_aloadn (pc := 21) hX 0 rfl (dk D_X11_tapeInt 10 rfl) ?_
        obtain ⟨x3, hx3, h⟩ := bd_some h
        refine r_getI (pc := 22) hX fl_11_13 rfl rfl hx3 (dk D_X11_tapeInt 11 rfl) (fun qx3 => ?_)
        refine r_iloadn (pc := 25) hX 1 rfl (dk D_X11_tapeInt 12 rfl) ?_
        refine r_iloadn (pc := 26) hX 2 rfl (dk D_X11_tapeInt 13 rfl) ?_
        refine r_iushr (pc := 27) hX (dk D_X11_tapeInt 14 rfl) ?_
        refine r_i2b (pc := 28) hX (dk D_X11_tapeInt 15 rfl) ?_
        obtain ⟨_, hz, h⟩ := bd_some h
        obtain ⟨μ4, hμ4, h⟩ := bd_some h
        refine r_bast (pc := 29) hX qx3 (R32_t _) (okb_some hz) hμ4 (dk D_X11_tapeInt 16 rfl) ?_
        refine r_aloadn (pc := 30) hX 0 rfl (dk D_X11_tapeInt 17 rfl) ?_
        refine r_dup (pc := 31) hX rfl (dk D_X11_tapeInt 18 rfl) ?_
        obtain ⟨x5, hx5, h⟩ := bd_some h
        refine r_getI (pc := 32) hX fl_11_13 rfl rfl hx5 (dk D_X11_tapeInt 19 rfl) (fun qx5 => ?_)
        refine r_iconst (pc := 35) hX (dk D_X11_tapeInt 20 rfl) ?_
        refine r_iadd (pc := 36) hX (dk D_X11_tapeInt 21 rfl) ?_
        obtain ⟨μ6, hμ6, h⟩ := bd_some h
        refine r_putI (pc := 37) hX fl_11_13 rfl rfl (R32_w _) trivial hμ6 (dk D_X11_tapeInt 22 rfl) ?_
        refine r_iinc (lv' := [(2, 0, (w32 (v2 + (-8)))), (0, 2, v0), (1, 0, v1)]) (pc := 40) hX 2 rfl (by decide) rfl (dk D_X11_tapeInt 23 rfl) ?_
        refine r_goto (pc := 43) hX 3 rfl (dk D_X11_tapeInt 24 rfl) ?_
        refine r_sub (lv' := [(0, 2, v0), (1, 0, v1), (2, 0, (w32 (v2 + (-8))))]) [1, 2, 0] rfl ?_
        exact ih v0 v1 (w32 (v2 + (-8))) μ6 q_v1 (R32_w _) h
set_option maxRecDepth 100000 in
set_option maxHeartbeats 4000000 in
theorem L_T_tapeInt {E : EX} {l : Launch} {a0 a1 res : Int} {μ μ' : Mem} (q_a1 : R32 a1) (h : T_tapeInt a0 a1 μ = some (res, μ')) : Ok E l 1 yX11_tapeInt (.code yX11_tapeInt cX11_tapeInt 3 none) 0 0 [(2, a0), (0, a1)] μ none μ' := by
  refine Ok.of (own := "TollsBack") [(0, 2, a0), (1, 0, a1)] (by decide +kernel) rfl (Nat.le_of_ble_eq_true rfl) rfl ?_
  intro X hL hRm hin hX hM
  unfold T_tapeInt at h
  subst hL
  refine r_bipush (pc := 0) hX rfl (dk D_X11_tapeInt 0 rfl) ?_
  refine r_istoren (lv' := [(2, 0, 24), (0, 2, a0), (1, 0, a1)]) (pc := 2) hX (by decide) rfl (dk D_X11_tapeInt 1 rfl) ?_
  refine r_sub (lv' := [(0, 2, a0), (1, 0, a1), (2, 0, 24)]) [1, 2, 0] rfl ?_
  refine L_T_tapeInt_L3 hX hM hRm FU a0 a1 24 μ q_a1 (R32_lit rfl) h
set_option maxRecDepth 100000 in
set_option maxHeartbeats 4000000 in
theorem L_T_feed {E : EX} {l : Launch} {a0 a1 a2 a3 a4 a5 res : Int} {μ μ' : Mem} (q_a1 : R32 a1) (q_a2 : R32 a2) (q_a3 : R32 a3) (q_a4 : R32 a4) (q_a5 : R32 a5) (h : T_feed a0 a1 a2 a3 a4 a5 μ = some (res, μ')) : Ok E l 2 yX11_feed (.code yX11_feed cX11_feed 6 (some .int)) 0 0 [(2, a0), (0, a1), (0, a2), (0, a3), (0, a4), (0, a5)] μ (some (0, res)) μ' := by
  refine Ok.of (own := "TollsBack") [(0, 2, a0), (1, 0, a1), (2, 0, a2), (3, 0, a3), (4, 0, a4), (5, 0, a5)] (by decide +kernel) rfl (Nat.le_of_ble_eq_true rfl) rfl ?_
  intro X hL hRm hin hX hM
  unfold T_feed at h
  subst hL
  refine r_aloadn (pc := 0) hX 0 rfl (dk D_X11_feed 0 rfl) ?_
  obtain ⟨x1, hx1, h⟩ := bd_some h
  refine r_getI (pc := 1) hX fl_11_13 rfl rfl hx1 (dk D_X11_feed 1 rfl) (fun qx1 => ?_)
  refine r_bipush (pc := 4) hX rfl (dk D_X11_feed 2 rfl) ?_
  refine r_iadd (pc := 6) hX (dk D_X11_feed 3 rfl) ?_
  refine r_sipush (pc := 7) hX rfl (dk D_X11_feed 4 rfl) ?_
  refine r_icmp_le (pc := 10) hX (R32_w _) (R32_lit rfl) 16 rfl (dk D_X11_feed 5 rfl) (fun hc => ?_) (fun hc => ?_)
  · rw [if_neg hc] at h
    refine r_aloadn (pc := 16) hX 0 rfl (dk D_X11_feed 8 rfl) ?_
    refine r_iloadn (pc := 17) hX 1 rfl (dk D_X11_feed 9 rfl) ?_
    obtain ⟨_, hi, h⟩ := bd_some h
    obtain ⟨x2, μ3, hx2, h⟩ := bd2_some h
    refine r_invV0 (As := [(0, a1)]) (pc := 18) hX ml_11_100 (L_T_tapeInt q_a1 hx2) (isk_u hi) (Rm_of hRm (by decide) ⟨by decide, by decide⟩) (by decide) rfl (Nat.le_of_ble_eq_true rfl) rfl (dk D_X11_feed 10 rfl) (fun _ => ?_)
    refine r_aloadn (pc := 21) hX 0 rfl (dk D_X11_feed 11 rfl) ?_
    refine r_iloadn (pc := 22) hX 2 rfl (dk D_X11_feed 12 rfl) ?_
    obtain ⟨_, hi, h⟩ := bd_some h
    obtain ⟨x4, μ5, hx4, h⟩ := bd2_some h
    refine r_invV0 (As := [(0, a2)]) (pc := 23) hX ml_11_100 (L_T_tapeInt q_a2 hx4) (isk_u hi) (Rm_of hRm (by decide) ⟨by decide, by decide⟩) (by decide) rfl (Nat.le_of_ble_eq_true rfl) rfl (dk D_X11_feed 13 rfl) (fun _ => ?_)
    refine r_aloadn (pc := 26) hX 0 rfl (dk D_X11_feed 14 rfl) ?_
    refine r_iloadn (pc := 27) hX 3 rfl (dk D_X11_feed 15 rfl) ?_
    obtain ⟨_, hi, h⟩ := bd_some h
    obtain ⟨x6, μ7, hx6, h⟩ := bd2_some h
    refine r_invV0 (As := [(0, a3)]) (pc := 28) hX ml_11_100 (L_T_tapeInt q_a3 hx6) (isk_u hi) (Rm_of hRm (by decide) ⟨by decide, by decide⟩) (by decide) rfl (Nat.le_of_ble_eq_true rfl) rfl (dk D_X11_feed 16 rfl) (fun _ => ?_)
    refine r_aloadn (pc := 31) hX 0 rfl (dk D_X11_feed 17 rfl) ?_
    refine r_iload (pc := 32) hX 4 rfl (dk D_X11_feed 18 rfl) ?_
    obtain ⟨_, hi, h⟩ := bd_some h
    obtain ⟨x8, μ9, hx8, h⟩ := bd2_some h
    refine r_invV0 (As := [(0, a4)]) (pc := 34) hX ml_11_100 (L_T_tapeInt q_a4 hx8) (isk_u hi) (Rm_of hRm (by decide) ⟨by decide, by decide⟩) (by decide) rfl (Nat.le_of_ble_eq_true rfl) rfl (dk D_X11_feed 19 rfl) (fun _ => ?_)
    refine r_aloadn (pc := 37) hX 0 rfl (dk D_X11_feed 20 rfl) ?_
    refine r_iload (pc := 38) hX 5 rfl (dk D_X11_feed 21 rfl) ?_
    obtain ⟨_, hi, h⟩ := bd_some h
    obtain ⟨x10, μ11, hx10, h⟩ := bd2_some h
    refine r_invV0 (As := [(0, a5)]) (pc := 40) hX ml_11_100 (L_T_tapeInt q_a5 hx10) (isk_u hi) (Rm_of hRm (by decide) ⟨by decide, by decide⟩) (by decide) rfl (Nat.le_of_ble_eq_true rfl) rfl (dk D_X11_feed 22 rfl) (fun _ => ?_)
    refine r_aloadn (pc := 43) hX 0 rfl (dk D_X11_feed 23 rfl) ?_
    obtain ⟨x12, hx12, h⟩ := bd_some h
    refine r_getI (pc := 44) hX fl_11_13 rfl rfl hx12 (dk D_X11_feed 24 rfl) (fun qx12 => ?_)
    cases h
    exact r_ireturn (pc := 47) hX qx12 hM ⟨by decide, by decide⟩ (dk D_X11_feed 25 rfl)
  · rw [if_pos hc] at h
    refine r_bipush (pc := 13) hX rfl (dk D_X11_feed 6 rfl) ?_
    cases h
    exact r_ireturn (pc := 15) hX (R32_lit rfl) hM ⟨by decide, by decide⟩ (dk D_X11_feed 7 rfl)
set_option maxRecDepth 100000 in
set_option maxHeartbeats 4000000 in
theorem L_T_kingdom {E : EX} {l : Launch} {a0 a1 res : Int} {μ μ' : Mem} (q_a1 : R32 a1) (h : T_kingdom a0 a1 μ = some (res, μ')) : Ok E l 10 yX11_kingdom (.code yX11_kingdom cX11_kingdom 2 (some .int)) 0 0 [(2, a0), (0, a1)] μ (some (0, res)) μ' := by
  refine Ok.of (own := "TollsBack") [(0, 2, a0), (1, 0, a1)] (by decide +kernel) rfl (Nat.le_of_ble_eq_true rfl) rfl ?_
  intro X hL hRm hin hX hM
  unfold T_kingdom at h
  subst hL
  refine r_iloadn (pc := 0) hX 1 rfl (dk D_X11_kingdom 0 rfl) ?_
  refine r_if_lt (pc := 1) hX q_a1 12 rfl (dk D_X11_kingdom 1 rfl) (fun hc => ?_) (fun hc => ?_)
  · rw [if_pos hc] at h
    refine r_bipush (pc := 12) hX rfl (dk D_X11_kingdom 6 rfl) ?_
    cases h
    exact r_ireturn (pc := 14) hX (R32_lit rfl) hM ⟨by decide, by decide⟩ (dk D_X11_kingdom 7 rfl)
  · rw [if_neg hc] at h
    refine r_iloadn (pc := 4) hX 1 rfl (dk D_X11_kingdom 2 rfl) ?_
    refine r_aloadn (pc := 5) hX 0 rfl (dk D_X11_kingdom 3 rfl) ?_
    obtain ⟨x1, hx1, h⟩ := bd_some h
    refine r_getI (pc := 6) hX fl_11_13 rfl rfl hx1 (dk D_X11_kingdom 4 rfl) (fun qx1 => ?_)
    refine r_icmp_le (pc := 9) hX q_a1 qx1 15 rfl (dk D_X11_kingdom 5 rfl) (fun hc => ?_) (fun hc => ?_)
    · rw [if_neg hc] at h
      refine r_aloadn (pc := 15) hX 0 rfl (dk D_X11_kingdom 8 rfl) ?_
      obtain ⟨x2, hx2, h⟩ := bd_some h
      refine r_getR (pc := 16) hX fl_11_43 rfl hx2 (dk D_X11_kingdom 9 rfl) ?_
      refine r_aloadn (pc := 19) hX 0 rfl (dk D_X11_kingdom 10 rfl) ?_
      obtain ⟨x3, hx3, h⟩ := bd_some h
      refine r_getR (pc := 20) hX fl_11_9 rfl hx3 (dk D_X11_kingdom 11 rfl) ?_
      refine r_iloadn (pc := 23) hX 1 rfl (dk D_X11_kingdom 12 rfl) ?_
      obtain ⟨_, hi, h⟩ := bd_some h
      obtain ⟨x4, μ5, hx4, h⟩ := bd2_some h
      refine r_invV0 (As := [(2, x3), (0, a1)]) (pc := 24) hX ml_11_104 (L_Rd_read q_a1 hx4) (isk_u hi) (Rm_of hRm (by decide) ⟨by decide, by decide⟩) (by decide) rfl (Nat.le_of_ble_eq_true rfl) rfl (dk D_X11_kingdom 13 rfl) (fun _ => ?_)
      refine r_aloadn (pc := 27) hX 0 rfl (dk D_X11_kingdom 14 rfl) ?_
      refine r_iconst (pc := 28) hX (dk D_X11_kingdom 15 rfl) ?_
      obtain ⟨μ6, hμ6, h⟩ := bd_some h
      refine r_putI (pc := 29) hX fl_11_13 rfl rfl (R32_lit rfl) trivial hμ6 (dk D_X11_kingdom 16 rfl) ?_
      refine r_aloadn (pc := 32) hX 0 rfl (dk D_X11_kingdom 17 rfl) ?_
      refine r_aloadn (pc := 33) hX 0 rfl (dk D_X11_kingdom 18 rfl) ?_
      obtain ⟨x7, hx7, h⟩ := bd_some h
      refine r_getR (pc := 34) hX fl_11_43 rfl hx7 (dk D_X11_kingdom 19 rfl) ?_
      obtain ⟨x8, hx8, h⟩ := bd_some h
      refine r_getI (pc := 37) hX fl_11_108 rfl rfl hx8 (dk D_X11_kingdom 20 rfl) (fun qx8 => ?_)
      obtain ⟨μ9, hμ9, h⟩ := bd_some h
      refine r_putI (pc := 40) hX fl_11_17 rfl rfl qx8 trivial hμ9 (dk D_X11_kingdom 21 rfl) ?_
      refine r_aloadn (pc := 43) hX 0 rfl (dk D_X11_kingdom 22 rfl) ?_
      refine r_aloadn (pc := 44) hX 0 rfl (dk D_X11_kingdom 23 rfl) ?_
      obtain ⟨x10, hx10, h⟩ := bd_some h
      refine r_getR (pc := 45) hX fl_11_43 rfl hx10 (dk D_X11_kingdom 24 rfl) ?_
      obtain ⟨x11, hx11, h⟩ := bd_some h
      refine r_getI (pc := 48) hX fl_11_109 rfl rfl hx11 (dk D_X11_kingdom 25 rfl) (fun qx11 => ?_)
      obtain ⟨μ12, hμ12, h⟩ := bd_some h
      refine r_putI (pc := 51) hX fl_11_20 rfl rfl qx11 trivial hμ12 (dk D_X11_kingdom 26 rfl) ?_
      refine r_aloadn (pc := 54) hX 0 rfl (dk D_X11_kingdom 27 rfl) ?_
      obtain ⟨x13, hx13, h⟩ := bd_some h
      refine r_getI (pc := 55) hX fl_11_17 rfl rfl hx13 (dk D_X11_kingdom 28 rfl) (fun qx13 => ?_)
      refine r_if_eq (pc := 58) hX qx13 69 rfl (dk D_X11_kingdom 29 rfl) (fun hc => ?_) (fun hc => ?_)
      · rw [if_pos hc] at h
        refine r_aloadn (pc := 69) hX 0 rfl (dk D_X11_kingdom 35 rfl) ?_
        obtain ⟨x14, hx14, h⟩ := bd_some h
        refine r_getR (pc := 70) hX fl_11_26 rfl hx14 (dk D_X11_kingdom 36 rfl) ?_
        refine r_aloadn (pc := 73) hX 0 rfl (dk D_X11_kingdom 37 rfl) ?_
        obtain ⟨x15, hx15, h⟩ := bd_some h
        refine r_getR (pc := 74) hX fl_11_43 rfl hx15 (dk D_X11_kingdom 38 rfl) ?_
        obtain ⟨x16, hx16, h⟩ := bd_some h
        refine r_getR (pc := 77) hX fl_11_110 rfl hx16 (dk D_X11_kingdom 39 rfl) ?_
        obtain ⟨_, hi, h⟩ := bd_some h
        obtain ⟨x17, μ18, hx17, h⟩ := bd2_some h
        refine r_invV0 (As := [(2, x16)]) (pc := 80) hX ml_11_114 (L_Wo_begin hx17) (isk_u hi) (Rm_of hRm (by decide) ⟨by decide, by decide⟩) (by decide) rfl (Nat.le_of_ble_eq_true rfl) rfl (dk D_X11_kingdom 40 rfl) (fun _ => ?_)
        refine r_aloadn (pc := 83) hX 0 rfl (dk D_X11_kingdom 41 rfl) ?_
        obtain ⟨x19, hx19, h⟩ := bd_some h
        refine r_getR (pc := 84) hX fl_11_26 rfl hx19 (dk D_X11_kingdom 42 rfl) ?_
        obtain ⟨x20, hx20, h⟩ := bd_some h
        refine r_getR (pc := 87) hX fl_11_118 rfl hx20 (dk D_X11_kingdom 43 rfl) ?_
        obtain ⟨x21, hx21, h⟩ := bd_some h
        refine r_getI (pc := 90) hX fl_11_121 rfl rfl hx21 (dk D_X11_kingdom 44 rfl) (fun qx21 => ?_)
        cases h
        exact r_ireturn (pc := 93) hX qx21 hM ⟨by decide, by decide⟩ (dk D_X11_kingdom 45 rfl)
      · rw [if_neg hc] at h
        refine r_bipush (pc := 61) hX rfl (dk D_X11_kingdom 30 rfl) ?_
        refine r_aloadn (pc := 63) hX 0 rfl (dk D_X11_kingdom 31 rfl) ?_
        obtain ⟨x22, hx22, h⟩ := bd_some h
        refine r_getI (pc := 64) hX fl_11_17 rfl rfl hx22 (dk D_X11_kingdom 32 rfl) (fun qx22 => ?_)
        refine r_isub (pc := 67) hX (dk D_X11_kingdom 33 rfl) ?_
        cases h
        exact r_ireturn (pc := 68) hX (R32_w _) hM ⟨by decide, by decide⟩ (dk D_X11_kingdom 34 rfl)
    · rw [if_pos hc] at h
      refine r_bipush (pc := 12) hX rfl (dk D_X11_kingdom 6 rfl) ?_
      cases h
      exact r_ireturn (pc := 14) hX (R32_lit rfl) hM ⟨by decide, by decide⟩ (dk D_X11_kingdom 7 rfl)
set_option maxRecDepth 100000 in
set_option maxHeartbeats 4000000 in
theorem L_T_fault {E : EX} {l : Launch} {a0 a1 res : Int} {μ μ' : Mem} (q_a1 : R32 a1) (h : T_fault a0 a1 μ = some (res, μ')) : Ok E l 1 yX11_fault (.code yX11_fault cX11_fault 2 (some .int)) 0 0 [(2, a0), (0, a1)] μ (some (0, res)) μ' := by
  refine Ok.of (own := "TollsBack") [(0, 2, a0), (1, 0, a1)] (by decide +kernel) rfl (Nat.le_of_ble_eq_true rfl) rfl ?_
  intro X hL hRm hin hX hM
  unfold T_fault at h
  subst hL
  refine r_iloadn (pc := 0) hX 1 rfl (dk D_X11_fault 0 rfl) ?_
  by_cases hc0 : a1 = 0
  · rw [if_pos hc0] at h
    refine r_lookup (off := 27) (pc := 1) hX q_a1 28 (dk D_X11_fault 1 rfl) rfl (by rw [hc0] <;> rfl) rfl ?_
    refine r_aloadn (pc := 28) hX 0 rfl (dk D_X11_fault 2 rfl) ?_
    obtain ⟨x1, hx1, h⟩ := bd_some h
    refine r_getI (pc := 29) hX fl_11_17 rfl rfl hx1 (dk D_X11_fault 3 rfl) (fun qx1 => ?_)
    cases h
    exact r_ireturn (pc := 32) hX qx1 hM ⟨by decide, by decide⟩ (dk D_X11_fault 4 rfl)
  · rw [if_neg hc0] at h
    by_cases hc1 : a1 = 1
    · rw [if_pos hc1] at h
      refine r_lookup (off := 32) (pc := 1) hX q_a1 33 (dk D_X11_fault 1 rfl) rfl (by rw [hc1] <;> rfl) rfl ?_
      refine r_aloadn (pc := 33) hX 0 rfl (dk D_X11_fault 5 rfl) ?_
      obtain ⟨x2, hx2, h⟩ := bd_some h
      refine r_getI (pc := 34) hX fl_11_20 rfl rfl hx2 (dk D_X11_fault 6 rfl) (fun qx2 => ?_)
      cases h
      exact r_ireturn (pc := 37) hX qx2 hM ⟨by decide, by decide⟩ (dk D_X11_fault 7 rfl)
    · rw [if_neg hc1] at h
      refine r_lookup (off := 37) (pc := 1) hX q_a1 38 (dk D_X11_fault 1 rfl) rfl (by simp [Op.lookupswitch.offset, hc0, Ne.symm hc0, hc1, Ne.symm hc1]) rfl ?_
      refine r_iconst (pc := 38) hX (dk D_X11_fault 8 rfl) ?_
      cases h
      exact r_ireturn (pc := 39) hX (R32_lit rfl) hM ⟨by decide, by decide⟩ (dk D_X11_fault 9 rfl)
set_option maxRecDepth 100000 in
set_option maxHeartbeats 4000000 in
theorem L_T_road {E : EX} {l : Launch} {a0 a1 a2 res : Int} {μ μ' : Mem} (q_a1 : R32 a1) (q_a2 : R32 a2) (h : T_road a0 a1 a2 μ = some (res, μ')) : Ok E l 2 yX11_road (.code yX11_road cX11_road 4 (some .int)) 0 0 [(2, a0), (0, a1), (0, a2)] μ (some (0, res)) μ' := by
  refine Ok.of (own := "TollsBack") [(0, 2, a0), (1, 0, a1), (2, 0, a2)] (by decide +kernel) rfl (Nat.le_of_ble_eq_true rfl) rfl ?_
  intro X hL hRm hin hX hM
  unfold T_road at h
  subst hL
  refine r_aloadn (pc := 0) hX 0 rfl (dk D_X11_road 0 rfl) ?_
  obtain ⟨x1, hx1, h⟩ := bd_some h
  refine r_getR (pc := 1) hX fl_11_26 rfl hx1 (dk D_X11_road 1 rfl) ?_
  obtain ⟨x2, hx2, h⟩ := bd_some h
  refine r_getR (pc := 4) hX fl_11_118 rfl hx2 (dk D_X11_road 2 rfl) ?_
  refine r_astoren (lv' := [(3, 2, x2), (0, 2, a0), (1, 0, a1), (2, 0, a2)]) (pc := 7) hX (by decide) rfl (dk D_X11_road 3 rfl) ?_
  refine r_aloadn (pc := 8) hX 0 rfl (dk D_X11_road 4 rfl) ?_
  refine r_iloadn (pc := 9) hX 2 rfl (dk D_X11_road 5 rfl) ?_
  obtain ⟨_, hi, h⟩ := bd_some h
  obtain ⟨x3, μ4, hx3, h⟩ := bd2_some h
  refine r_invV0 (As := [(0, a1)]) (pc := 10) hX ml_11_126 (L_Kg_hasRoad q_a1 hx3) (isk_u hi) (Rm_of hRm (by decide) ⟨by decide, by decide⟩) (by decide) rfl (Nat.le_of_ble_eq_true rfl) rfl (dk D_X11_road 6 rfl) (fun qx3 => ?_)
  refine r_if_ne (pc := 13) hX qx3 19 rfl (dk D_X11_road 7 rfl) (fun hc => ?_) (fun hc => ?_)
  · rw [if_neg hc] at h
    refine r_iloadn (pc := 19) hX 3 rfl (dk D_X11_road 10 rfl) ?_
    by_cases hc0 : a2 = 0
    · rw [if_pos hc0] at h
      refine r_table (pc := 20) hX (by rw [hc0]; exact R32_lit rfl) 60 (dk D_X11_road 11 rfl) (by omega) (by omega) (by rw [hc0]; rfl) rfl ?_
      refine r_aloadn (pc := 60) hX 0 rfl (dk D_X11_road 12 rfl) ?_
      obtain ⟨x5, hx5, h⟩ := bd_some h
      refine r_getR (pc := 61) hX fl_11_130 rfl hx5 (dk D_X11_road 13 rfl) ?_
      refine r_iloadn (pc := 64) hX 2 rfl (dk D_X11_road 14 rfl) ?_
      obtain ⟨x6, hx6, h⟩ := bd_some h
      refine r_iald (pc := 65) hX q_a1 hx6 (dk D_X11_road 15 rfl) (fun qx6 => ?_)
      cases h
      exact r_ireturn (pc := 66) hX qx6 hM ⟨by decide, by decide⟩ (dk D_X11_road 16 rfl)
    · rw [if_neg hc0] at h
      by_cases hc1 : a2 = 1
      · rw [if_pos hc1] at h
        refine r_table (pc := 20) hX (by rw [hc1]; exact R32_lit rfl) 67 (dk D_X11_road 11 rfl) (by omega) (by omega) (by rw [hc1]; rfl) rfl ?_
        refine r_aloadn (pc := 67) hX 0 rfl (dk D_X11_road 17 rfl) ?_
        obtain ⟨x7, hx7, h⟩ := bd_some h
        refine r_getR (pc := 68) hX fl_11_134 rfl hx7 (dk D_X11_road 18 rfl) ?_
        refine r_iloadn (pc := 71) hX 2 rfl (dk D_X11_road 19 rfl) ?_
        obtain ⟨x8, hx8, h⟩ := bd_some h
        refine r_iald (pc := 72) hX q_a1 hx8 (dk D_X11_road 20 rfl) (fun qx8 => ?_)
        cases h
        exact r_ireturn (pc := 73) hX qx8 hM ⟨by decide, by decide⟩ (dk D_X11_road 21 rfl)
      · rw [if_neg hc1] at h
        by_cases hc2 : a2 = 2
        · rw [if_pos hc2] at h
          refine r_table (pc := 20) hX (by rw [hc2]; exact R32_lit rfl) 74 (dk D_X11_road 11 rfl) (by omega) (by omega) (by rw [hc2]; rfl) rfl ?_
          refine r_aloadn (pc := 74) hX 0 rfl (dk D_X11_road 22 rfl) ?_
          obtain ⟨x9, hx9, h⟩ := bd_some h
          refine r_getR (pc := 75) hX fl_11_137 rfl hx9 (dk D_X11_road 23 rfl) ?_
          refine r_iloadn (pc := 78) hX 2 rfl (dk D_X11_road 24 rfl) ?_
          obtain ⟨x10, hx10, h⟩ := bd_some h
          refine r_iald (pc := 79) hX q_a1 hx10 (dk D_X11_road 25 rfl) (fun qx10 => ?_)
          cases h
          exact r_ireturn (pc := 80) hX qx10 hM ⟨by decide, by decide⟩ (dk D_X11_road 26 rfl)
        · rw [if_neg hc2] at h
          by_cases hc3 : a2 = 3
          · rw [if_pos hc3] at h
            refine r_table (pc := 20) hX (by rw [hc3]; exact R32_lit rfl) 81 (dk D_X11_road 11 rfl) (by omega) (by omega) (by rw [hc3]; rfl) rfl ?_
            refine r_aloadn (pc := 81) hX 0 rfl (dk D_X11_road 27 rfl) ?_
            obtain ⟨x11, hx11, h⟩ := bd_some h
            refine r_getR (pc := 82) hX fl_11_140 rfl hx11 (dk D_X11_road 28 rfl) ?_
            refine r_iloadn (pc := 85) hX 2 rfl (dk D_X11_road 29 rfl) ?_
            obtain ⟨x12, hx12, h⟩ := bd_some h
            refine r_iald (pc := 86) hX q_a1 hx12 (dk D_X11_road 30 rfl) (fun qx12 => ?_)
            cases h
            exact r_ireturn (pc := 87) hX qx12 hM ⟨by decide, by decide⟩ (dk D_X11_road 31 rfl)
          · rw [if_neg hc3] at h
            by_cases hc4 : a2 = 4
            · rw [if_pos hc4] at h
              refine r_table (pc := 20) hX (by rw [hc4]; exact R32_lit rfl) 88 (dk D_X11_road 11 rfl) (by omega) (by omega) (by rw [hc4]; rfl) rfl ?_
              refine r_aloadn (pc := 88) hX 0 rfl (dk D_X11_road 32 rfl) ?_
              obtain ⟨x13, hx13, h⟩ := bd_some h
              refine r_getR (pc := 89) hX fl_11_143 rfl hx13 (dk D_X11_road 33 rfl) ?_
              refine r_iloadn (pc := 92) hX 2 rfl (dk D_X11_road 34 rfl) ?_
              obtain ⟨x14, hx14, h⟩ := bd_some h
              refine r_iald (pc := 93) hX q_a1 hx14 (dk D_X11_road 35 rfl) (fun qx14 => ?_)
              cases h
              exact r_ireturn (pc := 94) hX qx14 hM ⟨by decide, by decide⟩ (dk D_X11_road 36 rfl)
            · rw [if_neg hc4] at h
              by_cases hc5 : a2 = 5
              · rw [if_pos hc5] at h
                refine r_table (pc := 20) hX (by rw [hc5]; exact R32_lit rfl) 95 (dk D_X11_road 11 rfl) (by omega) (by omega) (by rw [hc5]; rfl) rfl ?_
                refine r_aloadn (pc := 95) hX 1 rfl (dk D_X11_road 37 rfl) ?_
                obtain ⟨x15, hx15, h⟩ := bd_some h
                refine r_getR (pc := 96) hX fl_11_26 rfl hx15 (dk D_X11_road 38 rfl) ?_
                refine r_iloadn (pc := 99) hX 2 rfl (dk D_X11_road 39 rfl) ?_
                obtain ⟨_, hi, h⟩ := bd_some h
                obtain ⟨x16, μ17, hx16, h⟩ := bd2_some h
                refine r_invV0 (As := [(0, a1)]) (pc := 100) hX ml_11_146 (L_Wo_isOpen q_a1 hx16) (isk_u hi) (Rm_of hRm (by decide) ⟨by decide, by decide⟩) (by decide) rfl (Nat.le_of_ble_eq_true rfl) rfl (dk D_X11_road 40 rfl) (fun qx16 => ?_)
                refine r_if_eq (pc := 103) hX qx16 110 rfl (dk D_X11_road 41 rfl) (fun hc => ?_) (fun hc => ?_)
                · rw [if_pos hc] at h
                  refine r_iconst (pc := 110) hX (dk D_X11_road 44 rfl) ?_
                  cases h
                  exact r_ireturn (pc := 111) hX (R32_lit rfl) hM ⟨by decide, by decide⟩ (dk D_X11_road 45 rfl)
                · rw [if_neg hc] at h
                  refine r_iconst (pc := 106) hX (dk D_X11_road 42 rfl) ?_
                  refine r_goto (pc := 107) hX 111 rfl (dk D_X11_road 43 rfl) ?_
                  cases h
                  exact r_ireturn (pc := 111) hX (R32_lit rfl) hM ⟨by decide, by decide⟩ (dk D_X11_road 45 rfl)
              · rw [if_neg hc5] at h
                refine r_tableD (pc := 20) hX q_a2 112 (dk D_X11_road 11 rfl) (by omega) rfl ?_
                refine r_bipush (pc := 112) hX rfl (dk D_X11_road 46 rfl) ?_
                cases h
                exact r_ireturn (pc := 114) hX (R32_lit rfl) hM ⟨by decide, by decide⟩ (dk D_X11_road 47 rfl)
  · rw [if_pos hc] at h
    refine r_bipush (pc := 16) hX rfl (dk D_X11_road 8 rfl) ?_
    cases h
    exact r_ireturn (pc := 18) hX (R32_lit rfl) hM ⟨by decide, by decide⟩ (dk D_X11_road 9 rfl)
set_option maxRecDepth 100000 in
set_option maxHeartbeats 4000000 in
theorem L_T_from {E : EX} {l : Launch} {a0 a1 res : Int} {μ μ' : Mem} (q_a1 : R32 a1) (h : T_from a0 a1 μ = some (res, μ')) : Ok E l 3 yX11_from (.code yX11_from cX11_from 2 (some .int)) 0 0 [(2, a0), (0, a1)] μ (some (0, res)) μ' := by
  refine Ok.of (own := "TollsBack") [(0, 2, a0), (1, 0, a1)] (by decide +kernel) rfl (Nat.le_of_ble_eq_true rfl) rfl ?_
  intro X hL hRm hin hX hM
  unfold T_from at h
  subst hL
  refine r_aloadn (pc := 0) hX 0 rfl (dk D_X11_from 0 rfl) ?_
  obtain ⟨x1, hx1, h⟩ := bd_some h
  refine r_getR (pc := 1) hX fl_11_26 rfl hx1 (dk D_X11_from 1 rfl) ?_
  obtain ⟨x2, hx2, h⟩ := bd_some h
  refine r_getR (pc := 4) hX fl_11_118 rfl hx2 (dk D_X11_from 2 rfl) ?_
  refine r_iloadn (pc := 7) hX 1 rfl (dk D_X11_from 3 rfl) ?_
  obtain ⟨_, hi, h⟩ := bd_some h
  obtain ⟨x3, μ4, hx3, h⟩ := bd2_some h
  refine r_invV0 (As := [(0, a1)]) (pc := 8) hX ml_11_149 (L_Kg_hasTown q_a1 hx3) (isk_u hi) (Rm_of hRm (by decide) ⟨by decide, by decide⟩) (by decide) rfl (Nat.le_of_ble_eq_true rfl) rfl (dk D_X11_from 4 rfl) (fun qx3 => ?_)
  refine r_if_eq (pc := 11) hX qx3 25 rfl (dk D_X11_from 5 rfl) (fun hc => ?_) (fun hc => ?_)
  · rw [if_pos hc] at h
    refine r_bipush (pc := 25) hX rfl (dk D_X11_from 11 rfl) ?_
    cases h
    exact r_ireturn (pc := 27) hX (R32_lit rfl) hM ⟨by decide, by decide⟩ (dk D_X11_from 12 rfl)
  · rw [if_neg hc] at h
    refine r_aloadn (pc := 14) hX 0 rfl (dk D_X11_from 6 rfl) ?_
    obtain ⟨x5, hx5, h⟩ := bd_some h
    refine r_getR (pc := 15) hX fl_11_26 rfl hx5 (dk D_X11_from 7 rfl) ?_
    refine r_iloadn (pc := 18) hX 1 rfl (dk D_X11_from 8 rfl) ?_
    obtain ⟨_, hi, h⟩ := bd_some h
    obtain ⟨x6, μ7, hx6, h⟩ := bd2_some h
    refine r_invV0 (As := [(0, a1)]) (pc := 19) hX ml_11_152 (L_Wo_openRoadsAt q_a1 hx6) (isk_u hi) (Rm_of hRm (by decide) ⟨by decide, by decide⟩) (by decide) rfl (Nat.le_of_ble_eq_true rfl) rfl (dk D_X11_from 9 rfl) (fun qx6 => ?_)
    refine r_goto (pc := 22) hX 27 rfl (dk D_X11_from 10 rfl) ?_
    cases h
    exact r_ireturn (pc := 27) hX qx6 hM ⟨by decide, by decide⟩ (dk D_X11_from 12 rfl)
set_option maxRecDepth 100000 in
set_option maxHeartbeats 4000000 in
theorem L_T_close {E : EX} {l : Launch} {a0 a1 a2 res : Int} {μ μ' : Mem} (q_a1 : R32 a1) (q_a2 : R32 a2) (h : T_close a0 a1 a2 μ = some (res, μ')) : Ok E l 2 yX11_close (.code yX11_close cX11_close 4 (some .int)) 0 0 [(2, a0), (0, a1), (0, a2)] μ (some (0, res)) μ' := by
  refine Ok.of (own := "TollsBack") [(0, 2, a0), (1, 0, a1), (2, 0, a2)] (by decide +kernel) rfl (Nat.le_of_ble_eq_true rfl) rfl ?_
  intro X hL hRm hin hX hM
  unfold T_close at h
  subst hL
  refine r_aloadn (pc := 0) hX 0 rfl (dk D_X11_close 0 rfl) ?_
  obtain ⟨x1, hx1, h⟩ := bd_some h
  refine r_getR (pc := 1) hX fl_11_26 rfl hx1 (dk D_X11_close 1 rfl) ?_
  obtain ⟨x2, hx2, h⟩ := bd_some h
  refine r_getR (pc := 4) hX fl_11_118 rfl hx2 (dk D_X11_close 2 rfl) ?_
  refine r_iloadn (pc := 7) hX 1 rfl (dk D_X11_close 3 rfl) ?_
  obtain ⟨_, hi, h⟩ := bd_some h
  obtain ⟨x3, μ4, hx3, h⟩ := bd2_some h
  refine r_invV0 (As := [(0, a1)]) (pc := 8) hX ml_11_126 (L_Kg_hasRoad q_a1 hx3) (isk_u hi) (Rm_of hRm (by decide) ⟨by decide, by decide⟩) (by decide) rfl (Nat.le_of_ble_eq_true rfl) rfl (dk D_X11_close 4 rfl) (fun qx3 => ?_)
  refine r_if_ne (pc := 11) hX qx3 17 rfl (dk D_X11_close 5 rfl) (fun hc => ?_) (fun hc => ?_)
  · rw [if_neg hc] at h
    refine r_aloadn (pc := 17) hX 0 rfl (dk D_X11_close 8 rfl) ?_
    obtain ⟨x5, hx5, h⟩ := bd_some h
    refine r_getR (pc := 18) hX fl_11_26 rfl hx5 (dk D_X11_close 9 rfl) ?_
    refine r_iloadn (pc := 21) hX 1 rfl (dk D_X11_close 10 rfl) ?_
    obtain ⟨_, hi, h⟩ := bd_some h
    obtain ⟨x6, μ7, hx6, h⟩ := bd2_some h
    refine r_invV0 (As := [(0, a1)]) (pc := 22) hX ml_11_146 (L_Wo_isOpen q_a1 hx6) (isk_u hi) (Rm_of hRm (by decide) ⟨by decide, by decide⟩) (by decide) rfl (Nat.le_of_ble_eq_true rfl) rfl (dk D_X11_close 11 rfl) (fun qx6 => ?_)
    obtain ⟨y8, hb, h⟩ := bd_some h
    have hj : R32 y8 → At E X cX11_close 4 "TollsBack" (0, 0) 33 [(0, 2, a0), (1, 0, a1), (2, 0, a2)] [(0, y8)] μ7 := by
      intro qy8
      clear hb
      refine r_istoren (lv' := [(3, 0, y8), (0, 2, a0), (1, 0, a1), (2, 0, a2)]) (pc := 33) hX (by decide) rfl (dk D_X11_close 16 rfl) ?_
      refine r_aloadn (pc := 34) hX 1 rfl (dk D_X11_close 17 rfl) ?_
      obtain ⟨x9, hx9, h⟩ := bd_some h
      refine r_getR (pc := 35) hX fl_11_26 rfl hx9 (dk D_X11_close 18 rfl) ?_
      refine r_iloadn (pc := 38) hX 2 rfl (dk D_X11_close 19 rfl) ?_
      refine r_iloadn (pc := 39) hX 3 rfl (dk D_X11_close 20 rfl) ?_
      obtain ⟨_, hi, h⟩ := bd_some h
      obtain ⟨x10, μ11, hx10, h⟩ := bd2_some h
      refine r_invV0 (As := [(0, a1), (0, a2)]) (pc := 40) hX ml_11_156 (L_Wo_shut q_a1 q_a2 hx10) (isk_u hi) (Rm_of hRm (by decide) ⟨by decide, by decide⟩) (by decide) rfl (Nat.le_of_ble_eq_true rfl) rfl (dk D_X11_close 21 rfl) (fun _ => ?_)
      refine r_iloadn (pc := 43) hX 0 rfl (dk D_X11_close 22 rfl) ?_
      cases h
      exact r_ireturn (pc := 44) hX qy8 hM ⟨by decide, by decide⟩ (dk D_X11_close 23 rfl)
    clear h
    have h := hb
    clear hb
    refine r_if_eq (pc := 25) hX qx6 32 rfl (dk D_X11_close 12 rfl) (fun hc => ?_) (fun hc => ?_)
    · rw [if_pos hc] at h
      refine r_iconst (pc := 32) hX (dk D_X11_close 15 rfl) ?_
      replace h := Option.some.inj h
      subst y8
      exact hj (R32_lit rfl)
    · rw [if_neg hc] at h
      refine r_iconst (pc := 28) hX (dk D_X11_close 13 rfl) ?_
      refine r_goto (pc := 29) hX 33 rfl (dk D_X11_close 14 rfl) ?_
      replace h := Option.some.inj h
      subst y8
      exact hj (R32_lit rfl)
  · rw [if_pos hc] at h
    refine r_bipush (pc := 14) hX rfl (dk D_X11_close 6 rfl) ?_
    cases h
    exact r_ireturn (pc := 16) hX (R32_lit rfl) hM ⟨by decide, by decide⟩ (dk D_X11_close 7 rfl)
set_option maxRecDepth 100000 in
set_option maxHeartbeats 4000000 in
theorem L_T_when_L52 {E : EX} {X : CX} {res : Int} {μe : Mem} (hX : Good E X cX11_when 6 "TollsBack") (hM : GoodM E X (some .int) (some (0, res)) μe 0 0) (hRm : cR X = rmOf 4 0 0) : ∀ (n : Nat) (v1 v2 v3 v4 v5 : Int) (μ : Mem) (q_v1 : R32 v1) (q_v2 : R32 v2) (q_v4 : R32 v4) (q_v5 : R32 v5) (h : T_when_L52 n v1 v2 v3 v4 v5 μ = some (res, μe)), At E X cX11_when 6 "TollsBack" (0, 0) 52 [(1, 0, v1), (2, 0, v2), (3, 2, v3), (4, 0, v4), (5, 0, v5)] [] μ := by
  intro n
  induction n with
  | zero =>
    intro v1 v2 v3 v4 v5 μ q_v1 q_v2 q_v4 q_v5 h
    have h : (none : Option (Int × Mem)) = some (res, μe) := h
    cases h
  | succ n ih =>
    intro v1 v2 v3 v4 v5 μ q_v1 q_v2 q_v4 q_v5 h
    rw [T_when_L52.eq_2] at h
    refine r_iload (pc := 52) hX 4 rfl (dk D_X11_when 29 rfl) ?_
    refine r_iloadn (pc := 54) hX 1 rfl (dk D_X11_when 30 rfl) ?_
    refine r_sipush (pc := 55) hX rfl (dk D_X11_when 31 rfl) ?_
    refine r_iadd (pc := 58) hX (dk D_X11_when 32 rfl) ?_
    refine r_icmp_ge (pc := 59) hX q_v5 (R32_w _) 83 rfl (dk D_X11_when 33 rfl) (fun hc => ?_) (fun hc => ?_)
    · rw [if_neg hc] at h
      refine r_iloadn (pc := 83) hX 1 rfl (dk D_X11_when 44 rfl) ?_
      cases h
      exact r_ireturn (pc := 84) hX q_v2 hM ⟨by decide, by decide⟩ (dk D_X11_when 45 rfl)
    · rw [if_pos hc] at h
      refine r_aloadn (pc := 62) hX 2 rfl (dk D_X11_when 34 rfl) ?_
      refine r_iloadn (pc := 63) hX 0 rfl (dk D_X11_when 35 rfl) ?_
      refine r_iload (pc := 64) hX 4 rfl (dk D_X11_when 36 rfl) ?_
      obtain ⟨_, hi, h⟩ := bd_some h
      obtain ⟨x1, μ2, hx1, h⟩ := bd2_some h
      refine r_invV0 (As := [(0, v1), (0, v5)]) (pc := 66) hX ml_11_167 (L_Kg_tollOn q_v1 q_v5 hx1) (isk_u hi) (Rm_of hRm (by decide) ⟨by decide, by decide⟩) (by decide) rfl (Nat.le_of_ble_eq_true rfl) rfl (dk D_X11_when 37 rfl) (fun qx1 => ?_)
      refine r_iload (pc := 69) hX 3 rfl (dk D_X11_when 38 rfl) ?_
      refine r_icmp_ne (pc := 71) hX qx1 q_v4 77 rfl (dk D_X11_when 39 rfl) (fun hc => ?_) (fun hc => ?_)
      · rw [if_neg hc] at h
        refine r_iinc (lv' := [(5, 0, (w32 (v5 + 1))), (1, 0, v1), (2, 0, v2), (3, 2, v3), (4, 0, v4)]) (pc := 77) hX 4 rfl (by decide) rfl (dk D_X11_when 42 rfl) ?_
        refine r_goto (pc := 80) hX 52 rfl (dk D_X11_when 43 rfl) ?_
        refine r_sub (lv' := [(1, 0, v1), (2, 0, v2), (3, 2, v3), (4, 0, v4), (5, 0, (w32 (v5 + 1)))]) [1, 2, 3, 4, 0] rfl ?_
        exact ih v1 v2 v3 v4 (w32 (v5 + 1)) μ2 q_v1 q_v2 q_v4 (R32_w _) h
      · rw [if_pos hc] at h
        refine r_iload (pc := 74) hX 4 rfl (dk D_X11_when 40 rfl) ?_
        cases h
        exact r_ireturn (pc := 76) hX q_v5 hM ⟨by decide, by decide⟩ (dk D_X11_when 41 rfl)
set_option maxRecDepth 100000 in
set_option maxHeartbeats 4000000 in
theorem L_T_when {E : EX} {l : Launch} {a0 a1 a2 res : Int} {μ μ' : Mem} (q_a1 : R32 a1) (q_a2 : R32 a2) (h : T_when a0 a1 a2 μ = some (res, μ')) : Ok E l 4 yX11_when (.code yX11_when cX11_when 6 (some .int)) 0 0 [(2, a0), (0, a1), (0, a2)] μ (some (0, res)) μ' := by
  refine Ok.of (own := "TollsBack") [(0, 2, a0), (1, 0, a1), (2, 0, a2)] (by decide +kernel) rfl (Nat.le_of_ble_eq_true rfl) rfl ?_
  intro X hL hRm hin hX hM
  unfold T_when at h
  subst hL
  refine r_aloadn (pc := 0) hX 0 rfl (dk D_X11_when 0 rfl) ?_
  obtain ⟨x1, hx1, h⟩ := bd_some h
  refine r_getR (pc := 1) hX fl_11_26 rfl hx1 (dk D_X11_when 1 rfl) ?_
  obtain ⟨x2, hx2, h⟩ := bd_some h
  refine r_getR (pc := 4) hX fl_11_118 rfl hx2 (dk D_X11_when 2 rfl) ?_
  refine r_astoren (lv' := [(3, 2, x2), (0, 2, a0), (1, 0, a1), (2, 0, a2)]) (pc := 7) hX (by decide) rfl (dk D_X11_when 3 rfl) ?_
  refine r_aloadn (pc := 8) hX 0 rfl (dk D_X11_when 4 rfl) ?_
  refine r_iloadn (pc := 9) hX 2 rfl (dk D_X11_when 5 rfl) ?_
  obtain ⟨_, hi, h⟩ := bd_some h
  obtain ⟨x3, μ4, hx3, h⟩ := bd2_some h
  refine r_invV0 (As := [(0, a1)]) (pc := 10) hX ml_11_126 (L_Kg_hasRoad q_a1 hx3) (isk_u hi) (Rm_of hRm (by decide) ⟨by decide, by decide⟩) (by decide) rfl (Nat.le_of_ble_eq_true rfl) rfl (dk D_X11_when 6 rfl) (fun qx3 => ?_)
  refine r_if_ne (pc := 13) hX qx3 19 rfl (dk D_X11_when 7 rfl) (fun hc => ?_) (fun hc => ?_)
  · rw [if_neg hc] at h
    refine r_iloadn (pc := 19) hX 3 rfl (dk D_X11_when 10 rfl) ?_
    refine r_if_lt (pc := 20) hX q_a2 29 rfl (dk D_X11_when 11 rfl) (fun hc => ?_) (fun hc => ?_)
    · rw [if_pos hc] at h
      refine r_bipush (pc := 29) hX rfl (dk D_X11_when 15 rfl) ?_
      cases h
      exact r_ireturn (pc := 31) hX (R32_lit rfl) hM ⟨by decide, by decide⟩ (dk D_X11_when 16 rfl)
    · rw [if_neg hc] at h
      refine r_iloadn (pc := 23) hX 3 rfl (dk D_X11_when 12 rfl) ?_
      refine r_ldc (pc := 24) hX cn_11_160 (dk D_X11_when 13 rfl) ?_
      refine r_icmp_le (pc := 26) hX q_a2 (R32_lit rfl) 32 rfl (dk D_X11_when 14 rfl) (fun hc => ?_) (fun hc => ?_)
      · rw [if_neg hc] at h
        refine r_aloadn (pc := 32) hX 0 rfl (dk D_X11_when 17 rfl) ?_
        obtain ⟨x5, hx5, h⟩ := bd_some h
        refine r_getR (pc := 33) hX fl_11_137 rfl hx5 (dk D_X11_when 18 rfl) ?_
        refine r_iloadn (pc := 36) hX 2 rfl (dk D_X11_when 19 rfl) ?_
        obtain ⟨x6, hx6, h⟩ := bd_some h
        refine r_iald (pc := 37) hX q_a1 hx6 (dk D_X11_when 20 rfl) (fun qx6 => ?_)
        refine r_aloadn (pc := 38) hX 0 rfl (dk D_X11_when 21 rfl) ?_
        obtain ⟨x7, hx7, h⟩ := bd_some h
        refine r_getR (pc := 39) hX fl_11_140 rfl hx7 (dk D_X11_when 22 rfl) ?_
        refine r_iloadn (pc := 42) hX 2 rfl (dk D_X11_when 23 rfl) ?_
        obtain ⟨x8, hx8, h⟩ := bd_some h
        refine r_iald (pc := 43) hX q_a1 hx8 (dk D_X11_when 24 rfl) (fun qx8 => ?_)
        obtain ⟨x9, μ10, hx9, h⟩ := bd2_some h
        refine r_invS0 (As := [(0, x6), (0, x8)]) (pc := 44) hX ml_11_161 (L_J_min qx6 qx8 hx9) (Rm_of hRm (by decide) ⟨by decide, by decide⟩) (by decide) rfl (Nat.le_of_ble_eq_true rfl) rfl (dk D_X11_when 25 rfl) (fun qx9 => ?_)
        refine r_istore (lv' := [(4, 0, x9), (3, 2, x2), (0, 2, a0), (1, 0, a1), (2, 0, a2)]) (pc := 47) hX (by decide) rfl (dk D_X11_when 26 rfl) ?_
        refine r_iloadn (pc := 49) hX 4 rfl (dk D_X11_when 27 rfl) ?_
        refine r_istore (lv' := [(5, 0, a2), (4, 0, x9), (3, 2, x2), (0, 2, a0), (1, 0, a1), (2, 0, a2)]) (pc := 50) hX (by decide) rfl (dk D_X11_when 28 rfl) ?_
        refine r_sub (lv' := [(1, 0, a1), (2, 0, a2), (3, 2, x2), (4, 0, x9), (5, 0, a2)]) [4, 5, 2, 1, 0] rfl ?_
        refine L_T_when_L52 hX hM hRm FU a1 a2 x2 x9 a2 μ10 q_a1 q_a2 qx9 q_a2 h
      · rw [if_pos hc] at h
        refine r_bipush (pc := 29) hX rfl (dk D_X11_when 15 rfl) ?_
        cases h
        exact r_ireturn (pc := 31) hX (R32_lit rfl) hM ⟨by decide, by decide⟩ (dk D_X11_when 16 rfl)
  · rw [if_pos hc] at h
    refine r_bipush (pc := 16) hX rfl (dk D_X11_when 8 rfl) ?_
    cases h
    exact r_ireturn (pc := 18) hX (R32_lit rfl) hM ⟨by decide, by decide⟩ (dk D_X11_when 9 rfl)
set_option maxRecDepth 100000 in
set_option maxHeartbeats 4000000 in
theorem L_T_summer {E : EX} {l : Launch} {a0 a1 res : Int} {μ μ' : Mem} (q_a1 : R32 a1) (h : T_summer a0 a1 μ = some (res, μ')) : Ok E l 3 yX11_summer (.code yX11_summer cX11_summer 2 (some .int)) 0 0 [(2, a0), (0, a1)] μ (some (0, res)) μ' := by
  refine Ok.of (own := "TollsBack") [(0, 2, a0), (1, 0, a1)] (by decide +kernel) rfl (Nat.le_of_ble_eq_true rfl) rfl ?_
  intro X hL hRm hin hX hM
  unfold T_summer at h
  subst hL
  refine r_iloadn (pc := 0) hX 1 rfl (dk D_X11_summer 0 rfl) ?_
  refine r_if_ge (pc := 1) hX q_a1 7 rfl (dk D_X11_summer 1 rfl) (fun hc => ?_) (fun hc => ?_)
  · rw [if_neg hc] at h
    refine r_aloadn (pc := 7) hX 0 rfl (dk D_X11_summer 4 rfl) ?_
    obtain ⟨x1, hx1, h⟩ := bd_some h
    refine r_getR (pc := 8) hX fl_11_26 rfl hx1 (dk D_X11_summer 5 rfl) ?_
    obtain ⟨x2, hx2, h⟩ := bd_some h
    refine r_getR (pc := 11) hX fl_11_118 rfl hx2 (dk D_X11_summer 6 rfl) ?_
    refine r_iloadn (pc := 14) hX 1 rfl (dk D_X11_summer 7 rfl) ?_
    obtain ⟨_, hi, h⟩ := bd_some h
    obtain ⟨x3, μ4, hx3, h⟩ := bd2_some h
    refine r_invV0 (As := [(0, a1)]) (pc := 15) hX ml_11_170 (L_Kg_isSummer q_a1 hx3) (isk_u hi) (Rm_of hRm (by decide) ⟨by decide, by decide⟩) (by decide) rfl (Nat.le_of_ble_eq_true rfl) rfl (dk D_X11_summer 8 rfl) (fun qx3 => ?_)
    refine r_if_eq (pc := 18) hX qx3 25 rfl (dk D_X11_summer 9 rfl) (fun hc => ?_) (fun hc => ?_)
    · rw [if_pos hc] at h
      refine r_iconst (pc := 25) hX (dk D_X11_summer 12 rfl) ?_
      cases h
      exact r_ireturn (pc := 26) hX (R32_lit rfl) hM ⟨by decide, by decide⟩ (dk D_X11_summer 13 rfl)
    · rw [if_neg hc] at h
      refine r_iconst (pc := 21) hX (dk D_X11_summer 10 rfl) ?_
      refine r_goto (pc := 22) hX 26 rfl (dk D_X11_summer 11 rfl) ?_
      cases h
      exact r_ireturn (pc := 26) hX (R32_lit rfl) hM ⟨by decide, by decide⟩ (dk D_X11_summer 13 rfl)
  · rw [if_pos hc] at h
    refine r_bipush (pc := 4) hX rfl (dk D_X11_summer 2 rfl) ?_
    cases h
    exact r_ireturn (pc := 6) hX (R32_lit rfl) hM ⟨by decide, by decide⟩ (dk D_X11_summer 3 rfl)
set_option maxRecDepth 100000 in
set_option maxHeartbeats 4000000 in
theorem L_T_comes {E : EX} {l : Launch} {a0 a1 res : Int} {μ μ' : Mem} (q_a1 : R32 a1) (h : T_comes a0 a1 μ = some (res, μ')) : Ok E l 3 yX11_comes (.code yX11_comes cX11_comes 2 (some .int)) 0 0 [(2, a0), (0, a1)] μ (some (0, res)) μ' := by
  refine Ok.of (own := "TollsBack") [(0, 2, a0), (1, 0, a1)] (by decide +kernel) rfl (Nat.le_of_ble_eq_true rfl) rfl ?_
  intro X hL hRm hin hX hM
  unfold T_comes at h
  subst hL
  refine r_aloadn (pc := 0) hX 0 rfl (dk D_X11_comes 0 rfl) ?_
  obtain ⟨x1, hx1, h⟩ := bd_some h
  refine r_getR (pc := 1) hX fl_11_26 rfl hx1 (dk D_X11_comes 1 rfl) ?_
  obtain ⟨x2, hx2, h⟩ := bd_some h
  refine r_getI (pc := 4) hX fl_11_173 rfl rfl hx2 (dk D_X11_comes 2 rfl) (fun qx2 => ?_)
  refine r_bipush (pc := 7) hX rfl (dk D_X11_comes 3 rfl) ?_
  refine r_icmp_ge (pc := 9) hX qx2 (R32_lit rfl) 25 rfl (dk D_X11_comes 4 rfl) (fun hc => ?_) (fun hc => ?_)
  · rw [if_neg hc] at h
    refine r_bipush (pc := 25) hX rfl (dk D_X11_comes 10 rfl) ?_
    cases h
    exact r_ireturn (pc := 27) hX (R32_lit rfl) hM ⟨by decide, by decide⟩ (dk D_X11_comes 11 rfl)
  · rw [if_pos hc] at h
    refine r_aloadn (pc := 12) hX 0 rfl (dk D_X11_comes 5 rfl) ?_
    obtain ⟨x3, hx3, h⟩ := bd_some h
    refine r_getR (pc := 13) hX fl_11_26 rfl hx3 (dk D_X11_comes 6 rfl) ?_
    obtain ⟨x4, hx4, h⟩ := bd_some h
    refine r_getR (pc := 16) hX fl_11_118 rfl hx4 (dk D_X11_comes 7 rfl) ?_
    obtain ⟨x5, hx5, h⟩ := bd_some h
    refine r_getI (pc := 19) hX fl_11_176 rfl rfl hx5 (dk D_X11_comes 8 rfl) (fun qx5 => ?_)
    refine r_if_ne (pc := 22) hX qx5 28 rfl (dk D_X11_comes 9 rfl) (fun hc => ?_) (fun hc => ?_)
    · rw [if_neg hc] at h
      refine r_iloadn (pc := 28) hX 1 rfl (dk D_X11_comes 12 rfl) ?_
      refine r_if_lt (pc := 29) hX q_a1 38 rfl (dk D_X11_comes 13 rfl) (fun hc => ?_) (fun hc => ?_)
      · rw [if_pos hc] at h
        refine r_bipush (pc := 38) hX rfl (dk D_X11_comes 17 rfl) ?_
        cases h
        exact r_ireturn (pc := 40) hX (R32_lit rfl) hM ⟨by decide, by decide⟩ (dk D_X11_comes 18 rfl)
      · rw [if_neg hc] at h
        refine r_iloadn (pc := 32) hX 1 rfl (dk D_X11_comes 14 rfl) ?_
        refine r_ldc (pc := 33) hX cn_11_179 (dk D_X11_comes 15 rfl) ?_
        refine r_icmp_le (pc := 35) hX q_a1 (R32_lit rfl) 41 rfl (dk D_X11_comes 16 rfl) (fun hc => ?_) (fun hc => ?_)
        · rw [if_neg hc] at h
          refine r_aloadn (pc := 41) hX 0 rfl (dk D_X11_comes 19 rfl) ?_
          obtain ⟨x6, hx6, h⟩ := bd_some h
          refine r_getR (pc := 42) hX fl_11_26 rfl hx6 (dk D_X11_comes 20 rfl) ?_
          refine r_iloadn (pc := 45) hX 1 rfl (dk D_X11_comes 21 rfl) ?_
          obtain ⟨_, hi, h⟩ := bd_some h
          obtain ⟨x7, μ8, hx7, h⟩ := bd2_some h
          refine r_invV0 (As := [(0, a1)]) (pc := 46) hX ml_11_180 (L_Wo_welcome q_a1 hx7) (isk_u hi) (Rm_of hRm (by decide) ⟨by decide, by decide⟩) (by decide) rfl (Nat.le_of_ble_eq_true rfl) rfl (dk D_X11_comes 22 rfl) (fun qx7 => ?_)
          cases h
          exact r_ireturn (pc := 49) hX qx7 hM ⟨by decide, by decide⟩ (dk D_X11_comes 23 rfl)
        · rw [if_pos hc] at h
          refine r_bipush (pc := 38) hX rfl (dk D_X11_comes 17 rfl) ?_
          cases h
          exact r_ireturn (pc := 40) hX (R32_lit rfl) hM ⟨by decide, by decide⟩ (dk D_X11_comes 18 rfl)
    · rw [if_pos hc] at h
      refine r_bipush (pc := 25) hX rfl (dk D_X11_comes 10 rfl) ?_
      cases h
      exact r_ireturn (pc := 27) hX (R32_lit rfl) hM ⟨by decide, by decide⟩ (dk D_X11_comes 11 rfl)
set_option maxRecDepth 100000 in
set_option maxHeartbeats 4000000 in
theorem L_T_of {E : EX} {l : Launch} {a0 a1 a2 res : Int} {μ μ' : Mem} (q_a1 : R32 a1) (q_a2 : R32 a2) (h : T_of a0 a1 a2 μ = some (res, μ')) : Ok E l 2 yX11_of (.code yX11_of cX11_of 4 (some .int)) 0 0 [(2, a0), (0, a1), (0, a2)] μ (some (0, res)) μ' := by
  refine Ok.of (own := "TollsBack") [(0, 2, a0), (1, 0, a1), (2, 0, a2)] (by decide +kernel) rfl (Nat.le_of_ble_eq_true rfl) rfl ?_
  intro X hL hRm hin hX hM
  unfold T_of at h
  subst hL
  refine r_aloadn (pc := 0) hX 0 rfl (dk D_X11_of 0 rfl) ?_
  obtain ⟨x1, hx1, h⟩ := bd_some h
  refine r_getR (pc := 1) hX fl_11_26 rfl hx1 (dk D_X11_of 1 rfl) ?_
  refine r_iloadn (pc := 4) hX 1 rfl (dk D_X11_of 2 rfl) ?_
  obtain ⟨_, hi, h⟩ := bd_some h
  obtain ⟨x2, μ3, hx2, h⟩ := bd2_some h
  refine r_invV0 (As := [(0, a1)]) (pc := 5) hX ml_11_183 (L_Wo_hasTraveller q_a1 hx2) (isk_u hi) (Rm_of hRm (by decide) ⟨by decide, by decide⟩) (by decide) rfl (Nat.le_of_ble_eq_true rfl) rfl (dk D_X11_of 3 rfl) (fun qx2 => ?_)
  refine r_if_ne (pc := 8) hX qx2 14 rfl (dk D_X11_of 4 rfl) (fun hc => ?_) (fun hc => ?_)
  · rw [if_neg hc] at h
    refine r_aloadn (pc := 14) hX 0 rfl (dk D_X11_of 7 rfl) ?_
    obtain ⟨x4, hx4, h⟩ := bd_some h
    refine r_getR (pc := 15) hX fl_11_26 rfl hx4 (dk D_X11_of 8 rfl) ?_
    obtain ⟨x5, hx5, h⟩ := bd_some h
    refine r_getR (pc := 18) hX fl_11_186 rfl hx5 (dk D_X11_of 9 rfl) ?_
    refine r_iloadn (pc := 21) hX 1 rfl (dk D_X11_of 10 rfl) ?_
    obtain ⟨x6, hx6, h⟩ := bd_some h
    refine r_aald24 (pc := 22) hX q_a1 hx6 (dk D_X11_of 11 rfl) ?_
    refine r_astoren (lv' := [(3, 2, x6), (0, 2, a0), (1, 0, a1), (2, 0, a2)]) (pc := 23) hX (by decide) rfl (dk D_X11_of 12 rfl) ?_
    refine r_iloadn (pc := 24) hX 3 rfl (dk D_X11_of 13 rfl) ?_
    by_cases hc0 : a2 = 0
    · rw [if_pos hc0] at h
      refine r_table (pc := 25) hX (by rw [hc0]; exact R32_lit rfl) 64 (dk D_X11_of 14 rfl) (by omega) (by omega) (by rw [hc0]; rfl) rfl ?_
      refine r_aloadn (pc := 64) hX 0 rfl (dk D_X11_of 15 rfl) ?_
      obtain ⟨x7, hx7, h⟩ := bd_some h
      refine r_getI (pc := 65) hX fl_11_190 rfl rfl hx7 (dk D_X11_of 16 rfl) (fun qx7 => ?_)
      cases h
      exact r_ireturn (pc := 68) hX qx7 hM ⟨by decide, by decide⟩ (dk D_X11_of 17 rfl)
    · rw [if_neg hc0] at h
      by_cases hc1 : a2 = 1
      · rw [if_pos hc1] at h
        refine r_table (pc := 25) hX (by rw [hc1]; exact R32_lit rfl) 69 (dk D_X11_of 14 rfl) (by omega) (by omega) (by rw [hc1]; rfl) rfl ?_
        refine r_aloadn (pc := 69) hX 0 rfl (dk D_X11_of 18 rfl) ?_
        obtain ⟨x8, hx8, h⟩ := bd_some h
        refine r_getI (pc := 70) hX fl_11_193 rfl rfl hx8 (dk D_X11_of 19 rfl) (fun qx8 => ?_)
        cases h
        exact r_ireturn (pc := 73) hX qx8 hM ⟨by decide, by decide⟩ (dk D_X11_of 20 rfl)
      · rw [if_neg hc1] at h
        by_cases hc2 : a2 = 2
        · rw [if_pos hc2] at h
          refine r_table (pc := 25) hX (by rw [hc2]; exact R32_lit rfl) 74 (dk D_X11_of 14 rfl) (by omega) (by omega) (by rw [hc2]; rfl) rfl ?_
          refine r_aloadn (pc := 74) hX 0 rfl (dk D_X11_of 21 rfl) ?_
          obtain ⟨x9, hx9, h⟩ := bd_some h
          refine r_getI (pc := 75) hX fl_11_196 rfl rfl hx9 (dk D_X11_of 22 rfl) (fun qx9 => ?_)
          cases h
          exact r_ireturn (pc := 78) hX qx9 hM ⟨by decide, by decide⟩ (dk D_X11_of 23 rfl)
        · rw [if_neg hc2] at h
          by_cases hc3 : a2 = 3
          · rw [if_pos hc3] at h
            refine r_table (pc := 25) hX (by rw [hc3]; exact R32_lit rfl) 79 (dk D_X11_of 14 rfl) (by omega) (by omega) (by rw [hc3]; rfl) rfl ?_
            refine r_aloadn (pc := 79) hX 0 rfl (dk D_X11_of 24 rfl) ?_
            obtain ⟨x10, hx10, h⟩ := bd_some h
            refine r_getI (pc := 80) hX fl_11_199 rfl rfl hx10 (dk D_X11_of 25 rfl) (fun qx10 => ?_)
            cases h
            exact r_ireturn (pc := 83) hX qx10 hM ⟨by decide, by decide⟩ (dk D_X11_of 26 rfl)
          · rw [if_neg hc3] at h
            by_cases hc4 : a2 = 4
            · rw [if_pos hc4] at h
              refine r_table (pc := 25) hX (by rw [hc4]; exact R32_lit rfl) 84 (dk D_X11_of 14 rfl) (by omega) (by omega) (by rw [hc4]; rfl) rfl ?_
              refine r_aloadn (pc := 84) hX 0 rfl (dk D_X11_of 27 rfl) ?_
              obtain ⟨x11, hx11, h⟩ := bd_some h
              refine r_getI (pc := 85) hX fl_11_202 rfl rfl hx11 (dk D_X11_of 28 rfl) (fun qx11 => ?_)
              cases h
              exact r_ireturn (pc := 88) hX qx11 hM ⟨by decide, by decide⟩ (dk D_X11_of 29 rfl)
            · rw [if_neg hc4] at h
              by_cases hc5 : a2 = 5
              · rw [if_pos hc5] at h
                refine r_table (pc := 25) hX (by rw [hc5]; exact R32_lit rfl) 89 (dk D_X11_of 14 rfl) (by omega) (by omega) (by rw [hc5]; rfl) rfl ?_
                refine r_aloadn (pc := 89) hX 0 rfl (dk D_X11_of 30 rfl) ?_
                obtain ⟨x12, hx12, h⟩ := bd_some h
                refine r_getI (pc := 90) hX fl_11_205 rfl rfl hx12 (dk D_X11_of 31 rfl) (fun qx12 => ?_)
                cases h
                exact r_ireturn (pc := 93) hX qx12 hM ⟨by decide, by decide⟩ (dk D_X11_of 32 rfl)
              · rw [if_neg hc5] at h
                refine r_tableD (pc := 25) hX q_a2 94 (dk D_X11_of 14 rfl) (by omega) rfl ?_
                refine r_bipush (pc := 94) hX rfl (dk D_X11_of 33 rfl) ?_
                cases h
                exact r_ireturn (pc := 96) hX (R32_lit rfl) hM ⟨by decide, by decide⟩ (dk D_X11_of 34 rfl)
  · rw [if_pos hc] at h
    refine r_bipush (pc := 11) hX rfl (dk D_X11_of 5 rfl) ?_
    cases h
    exact r_ireturn (pc := 13) hX (R32_lit rfl) hM ⟨by decide, by decide⟩ (dk D_X11_of 6 rfl)
set_option maxRecDepth 100000 in
set_option maxHeartbeats 4000000 in
theorem L_T_slip {E : EX} {l : Launch} {a0 a1 a2 a3 res : Int} {μ μ' : Mem} (q_a1 : R32 a1) (q_a2 : R32 a2) (q_a3 : R32 a3) (h : T_slip a0 a1 a2 a3 μ = some (res, μ')) : Ok E l 3 yX11_slip (.code yX11_slip cX11_slip 5 (some .int)) 0 0 [(2, a0), (0, a1), (0, a2), (0, a3)] μ (some (0, res)) μ' := by
  refine Ok.of (own := "TollsBack") [(0, 2, a0), (1, 0, a1), (2, 0, a2), (3, 0, a3)] (by decide +kernel) rfl (Nat.le_of_ble_eq_true rfl) rfl ?_
  intro X hL hRm hin hX hM
  unfold T_slip at h
  subst hL
  refine r_aloadn (pc := 0) hX 0 rfl (dk D_X11_slip 0 rfl) ?_
  obtain ⟨x1, hx1, h⟩ := bd_some h
  refine r_getR (pc := 1) hX fl_11_26 rfl hx1 (dk D_X11_slip 1 rfl) ?_
  refine r_iloadn (pc := 4) hX 1 rfl (dk D_X11_slip 2 rfl) ?_
  obtain ⟨_, hi, h⟩ := bd_some h
  obtain ⟨x2, μ3, hx2, h⟩ := bd2_some h
  refine r_invV0 (As := [(0, a1)]) (pc := 5) hX ml_11_183 (L_Wo_hasTraveller q_a1 hx2) (isk_u hi) (Rm_of hRm (by decide) ⟨by decide, by decide⟩) (by decide) rfl (Nat.le_of_ble_eq_true rfl) rfl (dk D_X11_slip 3 rfl) (fun qx2 => ?_)
  refine r_if_eq (pc := 8) hX qx2 20 rfl (dk D_X11_slip 4 rfl) (fun hc => ?_) (fun hc => ?_)
  · rw [if_pos hc] at h
    refine r_bipush (pc := 20) hX rfl (dk D_X11_slip 10 rfl) ?_
    cases h
    exact r_ireturn (pc := 22) hX (R32_lit rfl) hM ⟨by decide, by decide⟩ (dk D_X11_slip 11 rfl)
  · rw [if_neg hc] at h
    refine r_iloadn (pc := 11) hX 3 rfl (dk D_X11_slip 5 rfl) ?_
    refine r_if_lt (pc := 12) hX q_a3 20 rfl (dk D_X11_slip 6 rfl) (fun hc => ?_) (fun hc => ?_)
    · rw [if_pos hc] at h
      refine r_bipush (pc := 20) hX rfl (dk D_X11_slip 10 rfl) ?_
      cases h
      exact r_ireturn (pc := 22) hX (R32_lit rfl) hM ⟨by decide, by decide⟩ (dk D_X11_slip 11 rfl)
    · rw [if_neg hc] at h
      refine r_iloadn (pc := 15) hX 3 rfl (dk D_X11_slip 7 rfl) ?_
      refine r_iconst (pc := 16) hX (dk D_X11_slip 8 rfl) ?_
      refine r_icmp_le (pc := 17) hX q_a3 (R32_lit rfl) 23 rfl (dk D_X11_slip 9 rfl) (fun hc => ?_) (fun hc => ?_)
      · rw [if_neg hc] at h
        refine r_aloadn (pc := 23) hX 0 rfl (dk D_X11_slip 12 rfl) ?_
        obtain ⟨x4, hx4, h⟩ := bd_some h
        refine r_getR (pc := 24) hX fl_11_26 rfl hx4 (dk D_X11_slip 13 rfl) ?_
        obtain ⟨x5, hx5, h⟩ := bd_some h
        refine r_getR (pc := 27) hX fl_11_186 rfl hx5 (dk D_X11_slip 14 rfl) ?_
        refine r_iloadn (pc := 30) hX 1 rfl (dk D_X11_slip 15 rfl) ?_
        obtain ⟨x6, hx6, h⟩ := bd_some h
        refine r_aald24 (pc := 31) hX q_a1 hx6 (dk D_X11_slip 16 rfl) ?_
        refine r_astore (lv' := [(4, 2, x6), (0, 2, a0), (1, 0, a1), (2, 0, a2), (3, 0, a3)]) (pc := 32) hX (by decide) rfl (dk D_X11_slip 17 rfl) ?_
        refine r_iloadn (pc := 34) hX 3 rfl (dk D_X11_slip 18 rfl) ?_
        refine r_if_lt (pc := 35) hX q_a2 47 rfl (dk D_X11_slip 19 rfl) (fun hc => ?_) (fun hc => ?_)
        · rw [if_pos hc] at h
          refine r_bipush (pc := 47) hX rfl (dk D_X11_slip 24 rfl) ?_
          cases h
          exact r_ireturn (pc := 49) hX (R32_lit rfl) hM ⟨by decide, by decide⟩ (dk D_X11_slip 25 rfl)
        · rw [if_neg hc] at h
          refine r_iloadn (pc := 38) hX 3 rfl (dk D_X11_slip 20 rfl) ?_
          refine r_aload (pc := 39) hX 0 rfl (dk D_X11_slip 21 rfl) ?_
          obtain ⟨x7, hx7, h⟩ := bd_some h
          refine r_getI (pc := 41) hX fl_11_199 rfl rfl hx7 (dk D_X11_slip 22 rfl) (fun qx7 => ?_)
          refine r_icmp_lt (pc := 44) hX q_a2 qx7 50 rfl (dk D_X11_slip 23 rfl) (fun hc => ?_) (fun hc => ?_)
          · rw [if_pos hc] at h
            refine r_iloadn (pc := 50) hX 4 rfl (dk D_X11_slip 26 rfl) ?_
            by_cases hc0 : a3 = 0
            · rw [if_pos hc0] at h
              refine r_table (pc := 51) hX (by rw [hc0]; exact R32_lit rfl) 84 (dk D_X11_slip 27 rfl) (by omega) (by omega) (by rw [hc0]; rfl) rfl ?_
              refine r_aload (pc := 84) hX 0 rfl (dk D_X11_slip 28 rfl) ?_
              obtain ⟨x8, hx8, h⟩ := bd_some h
              refine r_getR (pc := 86) hX fl_11_208 rfl hx8 (dk D_X11_slip 29 rfl) ?_
              refine r_iloadn (pc := 89) hX 3 rfl (dk D_X11_slip 30 rfl) ?_
              obtain ⟨x9, hx9, h⟩ := bd_some h
              refine r_iald (pc := 90) hX q_a2 hx9 (dk D_X11_slip 31 rfl) (fun qx9 => ?_)
              refine r_iconst (pc := 91) hX (dk D_X11_slip 32 rfl) ?_
              refine r_ishr (pc := 92) hX (dk D_X11_slip 33 rfl) ?_
              cases h
              exact r_ireturn (pc := 93) hX (R32_t _) hM ⟨by decide, by decide⟩ (dk D_X11_slip 34 rfl)
            · rw [if_neg hc0] at h
              by_cases hc1 : a3 = 1
              · rw [if_pos hc1] at h
                refine r_table (pc := 51) hX (by rw [hc1]; exact R32_lit rfl) 94 (dk D_X11_slip 27 rfl) (by omega) (by omega) (by rw [hc1]; rfl) rfl ?_
                refine r_aloadn (pc := 94) hX 1 rfl (dk D_X11_slip 35 rfl) ?_
                obtain ⟨x10, hx10, h⟩ := bd_some h
                refine r_getR (pc := 95) hX fl_11_26 rfl hx10 (dk D_X11_slip 36 rfl) ?_
                obtain ⟨x11, hx11, h⟩ := bd_some h
                refine r_getR (pc := 98) hX fl_11_118 rfl hx11 (dk D_X11_slip 37 rfl) ?_
                refine r_aload (pc := 101) hX 0 rfl (dk D_X11_slip 38 rfl) ?_
                obtain ⟨x12, hx12, h⟩ := bd_some h
                refine r_getR (pc := 103) hX fl_11_208 rfl hx12 (dk D_X11_slip 39 rfl) ?_
                refine r_iloadn (pc := 106) hX 3 rfl (dk D_X11_slip 40 rfl) ?_
                obtain ⟨x13, hx13, h⟩ := bd_some h
                refine r_iald (pc := 107) hX q_a2 hx13 (dk D_X11_slip 41 rfl) (fun qx13 => ?_)
                obtain ⟨_, hi, h⟩ := bd_some h
                obtain ⟨x14, μ15, hx14, h⟩ := bd2_some h
                refine r_invV0 (As := [(0, x13)]) (pc := 108) hX ml_11_211 (L_Kg_startOf qx13 hx14) (isk_u hi) (Rm_of hRm (by decide) ⟨by decide, by decide⟩) (by decide) rfl (Nat.le_of_ble_eq_true rfl) rfl (dk D_X11_slip 42 rfl) (fun qx14 => ?_)
                cases h
                exact r_ireturn (pc := 111) hX qx14 hM ⟨by decide, by decide⟩ (dk D_X11_slip 43 rfl)
              · rw [if_neg hc1] at h
                by_cases hc2 : a3 = 2
                · rw [if_pos hc2] at h
                  refine r_table (pc := 51) hX (by rw [hc2]; exact R32_lit rfl) 112 (dk D_X11_slip 27 rfl) (by omega) (by omega) (by rw [hc2]; rfl) rfl ?_
                  refine r_aloadn (pc := 112) hX 1 rfl (dk D_X11_slip 44 rfl) ?_
                  obtain ⟨x16, hx16, h⟩ := bd_some h
                  refine r_getR (pc := 113) hX fl_11_26 rfl hx16 (dk D_X11_slip 45 rfl) ?_
                  obtain ⟨x17, hx17, h⟩ := bd_some h
                  refine r_getR (pc := 116) hX fl_11_118 rfl hx17 (dk D_X11_slip 46 rfl) ?_
                  refine r_aload (pc := 119) hX 0 rfl (dk D_X11_slip 47 rfl) ?_
                  obtain ⟨x18, hx18, h⟩ := bd_some h
                  refine r_getR (pc := 121) hX fl_11_208 rfl hx18 (dk D_X11_slip 48 rfl) ?_
                  refine r_iloadn (pc := 124) hX 3 rfl (dk D_X11_slip 49 rfl) ?_
                  obtain ⟨x19, hx19, h⟩ := bd_some h
                  refine r_iald (pc := 125) hX q_a2 hx19 (dk D_X11_slip 50 rfl) (fun qx19 => ?_)
                  obtain ⟨_, hi, h⟩ := bd_some h
                  obtain ⟨x20, μ21, hx20, h⟩ := bd2_some h
                  refine r_invV0 (As := [(0, x19)]) (pc := 126) hX ml_11_214 (L_Kg_endOf qx19 hx20) (isk_u hi) (Rm_of hRm (by decide) ⟨by decide, by decide⟩) (by decide) rfl (Nat.le_of_ble_eq_true rfl) rfl (dk D_X11_slip 51 rfl) (fun qx20 => ?_)
                  cases h
                  exact r_ireturn (pc := 129) hX qx20 hM ⟨by decide, by decide⟩ (dk D_X11_slip 52 rfl)
                · rw [if_neg hc2] at h
                  by_cases hc3 : a3 = 3
                  · rw [if_pos hc3] at h
                    refine r_table (pc := 51) hX (by rw [hc3]; exact R32_lit rfl) 130 (dk D_X11_slip 27 rfl) (by omega) (by omega) (by rw [hc3]; rfl) rfl ?_
                    refine r_aload (pc := 130) hX 0 rfl (dk D_X11_slip 53 rfl) ?_
                    obtain ⟨x22, hx22, h⟩ := bd_some h
                    refine r_getR (pc := 132) hX fl_11_217 rfl hx22 (dk D_X11_slip 54 rfl) ?_
                    refine r_iloadn (pc := 135) hX 3 rfl (dk D_X11_slip 55 rfl) ?_
                    obtain ⟨x23, hx23, h⟩ := bd_some h
                    refine r_iald (pc := 136) hX q_a2 hx23 (dk D_X11_slip 56 rfl) (fun qx23 => ?_)
                    cases h
                    exact r_ireturn (pc := 137) hX qx23 hM ⟨by decide, by decide⟩ (dk D_X11_slip 57 rfl)
                  · rw [if_neg hc3] at h
                    by_cases hc4 : a3 = 4
                    · rw [if_pos hc4] at h
                      refine r_table (pc := 51) hX (by rw [hc4]; exact R32_lit rfl) 138 (dk D_X11_slip 27 rfl) (by omega) (by omega) (by rw [hc4]; rfl) rfl ?_
                      refine r_aload (pc := 138) hX 0 rfl (dk D_X11_slip 58 rfl) ?_
                      obtain ⟨x24, hx24, h⟩ := bd_some h
                      refine r_getR (pc := 140) hX fl_11_220 rfl hx24 (dk D_X11_slip 59 rfl) ?_
                      refine r_iloadn (pc := 143) hX 3 rfl (dk D_X11_slip 60 rfl) ?_
                      obtain ⟨x25, hx25, h⟩ := bd_some h
                      refine r_iald (pc := 144) hX q_a2 hx25 (dk D_X11_slip 61 rfl) (fun qx25 => ?_)
                      cases h
                      exact r_ireturn (pc := 145) hX qx25 hM ⟨by decide, by decide⟩ (dk D_X11_slip 62 rfl)
                    · rw [if_neg hc4] at h
                      refine r_tableD (pc := 51) hX q_a3 146 (dk D_X11_slip 27 rfl) (by omega) rfl ?_
                      refine r_aloadn (pc := 146) hX 1 rfl (dk D_X11_slip 63 rfl) ?_
                      obtain ⟨x26, hx26, h⟩ := bd_some h
                      refine r_getR (pc := 147) hX fl_11_26 rfl hx26 (dk D_X11_slip 64 rfl) ?_
                      obtain ⟨x27, hx27, h⟩ := bd_some h
                      refine r_getR (pc := 150) hX fl_11_118 rfl hx27 (dk D_X11_slip 65 rfl) ?_
                      refine r_aload (pc := 153) hX 0 rfl (dk D_X11_slip 66 rfl) ?_
                      refine r_iloadn (pc := 155) hX 3 rfl (dk D_X11_slip 67 rfl) ?_
                      refine r_aload (pc := 156) hX 0 rfl (dk D_X11_slip 68 rfl) ?_
                      obtain ⟨x28, hx28, h⟩ := bd_some h
                      refine r_getI (pc := 158) hX fl_11_193 rfl rfl hx28 (dk D_X11_slip 69 rfl) (fun qx28 => ?_)
                      obtain ⟨_, hi, h⟩ := bd_some h
                      obtain ⟨x29, μ30, hx29, h⟩ := bd2_some h
                      refine r_invV0 (As := [(2, x6), (0, a2), (0, x28)]) (pc := 161) hX ml_11_223 (L_Kg_worthOn q_a2 qx28 hx29) (isk_u hi) (Rm_of hRm (by decide) ⟨by decide, by decide⟩) (by decide) rfl (Nat.le_of_ble_eq_true rfl) rfl (dk D_X11_slip 70 rfl) (fun qx29 => ?_)
                      cases h
                      exact r_ireturn (pc := 164) hX qx29 hM ⟨by decide, by decide⟩ (dk D_X11_slip 71 rfl)
          · rw [if_neg hc] at h
            refine r_bipush (pc := 47) hX rfl (dk D_X11_slip 24 rfl) ?_
            cases h
            exact r_ireturn (pc := 49) hX (R32_lit rfl) hM ⟨by decide, by decide⟩ (dk D_X11_slip 25 rfl)
      · rw [if_pos hc] at h
        refine r_bipush (pc := 20) hX rfl (dk D_X11_slip 10 rfl) ?_
        cases h
        exact r_ireturn (pc := 22) hX (R32_lit rfl) hM ⟨by decide, by decide⟩ (dk D_X11_slip 11 rfl)
set_option maxRecDepth 100000 in
set_option maxHeartbeats 4000000 in
theorem L_T_go {E : EX} {l : Launch} {a0 a1 a2 res : Int} {μ μ' : Mem} (q_a1 : R32 a1) (q_a2 : R32 a2) (h : T_go a0 a1 a2 μ = some (res, μ')) : Ok E l 7 yX11_go (.code yX11_go cX11_go 3 (some .int)) 0 0 [(2, a0), (0, a1), (0, a2)] μ (some (0, res)) μ' := by
  refine Ok.of (own := "TollsBack") [(0, 2, a0), (1, 0, a1), (2, 0, a2)] (by decide +kernel) rfl (Nat.le_of_ble_eq_true rfl) rfl ?_
  intro X hL hRm hin hX hM
  unfold T_go at h
  subst hL
  refine r_aloadn (pc := 0) hX 0 rfl (dk D_X11_go 0 rfl) ?_
  obtain ⟨x1, hx1, h⟩ := bd_some h
  refine r_getR (pc := 1) hX fl_11_26 rfl hx1 (dk D_X11_go 1 rfl) ?_
  refine r_iloadn (pc := 4) hX 1 rfl (dk D_X11_go 2 rfl) ?_
  obtain ⟨_, hi, h⟩ := bd_some h
  obtain ⟨x2, μ3, hx2, h⟩ := bd2_some h
  refine r_invV0 (As := [(0, a1)]) (pc := 5) hX ml_11_183 (L_Wo_hasTraveller q_a1 hx2) (isk_u hi) (Rm_of hRm (by decide) ⟨by decide, by decide⟩) (by decide) rfl (Nat.le_of_ble_eq_true rfl) rfl (dk D_X11_go 3 rfl) (fun qx2 => ?_)
  refine r_if_eq (pc := 8) hX qx2 25 rfl (dk D_X11_go 4 rfl) (fun hc => ?_) (fun hc => ?_)
  · rw [if_pos hc] at h
    refine r_bipush (pc := 25) hX rfl (dk D_X11_go 11 rfl) ?_
    cases h
    exact r_ireturn (pc := 27) hX (R32_lit rfl) hM ⟨by decide, by decide⟩ (dk D_X11_go 12 rfl)
  · rw [if_neg hc] at h
    refine r_aloadn (pc := 11) hX 0 rfl (dk D_X11_go 5 rfl) ?_
    obtain ⟨x4, hx4, h⟩ := bd_some h
    refine r_getR (pc := 12) hX fl_11_26 rfl hx4 (dk D_X11_go 6 rfl) ?_
    obtain ⟨x5, hx5, h⟩ := bd_some h
    refine r_getR (pc := 15) hX fl_11_118 rfl hx5 (dk D_X11_go 7 rfl) ?_
    refine r_iloadn (pc := 18) hX 2 rfl (dk D_X11_go 8 rfl) ?_
    obtain ⟨_, hi, h⟩ := bd_some h
    obtain ⟨x6, μ7, hx6, h⟩ := bd2_some h
    refine r_invV0 (As := [(0, a2)]) (pc := 19) hX ml_11_126 (L_Kg_hasRoad q_a2 hx6) (isk_u hi) (Rm_of hRm (by decide) ⟨by decide, by decide⟩) (by decide) rfl (Nat.le_of_ble_eq_true rfl) rfl (dk D_X11_go 9 rfl) (fun qx6 => ?_)
    refine r_if_ne (pc := 22) hX qx6 28 rfl (dk D_X11_go 10 rfl) (fun hc => ?_) (fun hc => ?_)
    · rw [if_neg hc] at h
      refine r_aloadn (pc := 28) hX 0 rfl (dk D_X11_go 13 rfl) ?_
      obtain ⟨x8, hx8, h⟩ := bd_some h
      refine r_getR (pc := 29) hX fl_11_26 rfl hx8 (dk D_X11_go 14 rfl) ?_
      refine r_aloadn (pc := 32) hX 0 rfl (dk D_X11_go 15 rfl) ?_
      obtain ⟨x9, hx9, h⟩ := bd_some h
      refine r_getR (pc := 33) hX fl_11_26 rfl hx9 (dk D_X11_go 16 rfl) ?_
      obtain ⟨x10, hx10, h⟩ := bd_some h
      refine r_getR (pc := 36) hX fl_11_186 rfl hx10 (dk D_X11_go 17 rfl) ?_
      refine r_iloadn (pc := 39) hX 1 rfl (dk D_X11_go 18 rfl) ?_
      obtain ⟨x11, hx11, h⟩ := bd_some h
      refine r_aald24 (pc := 40) hX q_a1 hx11 (dk D_X11_go 19 rfl) ?_
      refine r_iloadn (pc := 41) hX 2 rfl (dk D_X11_go 20 rfl) ?_
      obtain ⟨_, hi, h⟩ := bd_some h
      obtain ⟨x12, μ13, hx12, h⟩ := bd2_some h
      refine r_invV0 (As := [(2, x11), (0, a2)]) (pc := 42) hX ml_11_227 (L_Wo_move q_a2 hx12) (isk_u hi) (Rm_of hRm (by decide) ⟨by decide, by decide⟩) (by decide) rfl (Nat.le_of_ble_eq_true rfl) rfl (dk D_X11_go 21 rfl) (fun qx12 => ?_)
      cases h
      exact r_ireturn (pc := 45) hX qx12 hM ⟨by decide, by decide⟩ (dk D_X11_go 22 rfl)
    · rw [if_pos hc] at h
      refine r_bipush (pc := 25) hX rfl (dk D_X11_go 11 rfl) ?_
      cases h
      exact r_ireturn (pc := 27) hX (R32_lit rfl) hM ⟨by decide, by decide⟩ (dk D_X11_go 12 rfl)
set_option maxRecDepth 100000 in
set_option maxHeartbeats 4000000 in
theorem L_T_toss {E : EX} {l : Launch} {a0 a1 res : Int} {μ μ' : Mem} (q_a1 : R32 a1) (h : T_toss a0 a1 μ = some (res, μ')) : Ok E l 2 yX11_toss (.code yX11_toss cX11_toss 3 (some .int)) 0 0 [(2, a0), (0, a1)] μ (some (0, res)) μ' := by
  refine Ok.of (own := "TollsBack") [(0, 2, a0), (1, 0, a1)] (by decide +kernel) rfl (Nat.le_of_ble_eq_true rfl) rfl ?_
  intro X hL hRm hin hX hM
  unfold T_toss at h
  subst hL
  refine r_aloadn (pc := 0) hX 0 rfl (dk D_X11_toss 0 rfl) ?_
  obtain ⟨x1, hx1, h⟩ := bd_some h
  refine r_getR (pc := 1) hX fl_11_26 rfl hx1 (dk D_X11_toss 1 rfl) ?_
  refine r_iloadn (pc := 4) hX 1 rfl (dk D_X11_toss 2 rfl) ?_
  obtain ⟨_, hi, h⟩ := bd_some h
  obtain ⟨x2, μ3, hx2, h⟩ := bd2_some h
  refine r_invV0 (As := [(0, a1)]) (pc := 5) hX ml_11_183 (L_Wo_hasTraveller q_a1 hx2) (isk_u hi) (Rm_of hRm (by decide) ⟨by decide, by decide⟩) (by decide) rfl (Nat.le_of_ble_eq_true rfl) rfl (dk D_X11_toss 3 rfl) (fun qx2 => ?_)
  refine r_if_ne (pc := 8) hX qx2 14 rfl (dk D_X11_toss 4 rfl) (fun hc => ?_) (fun hc => ?_)
  · rw [if_neg hc] at h
    refine r_aloadn (pc := 14) hX 0 rfl (dk D_X11_toss 7 rfl) ?_
    obtain ⟨x4, hx4, h⟩ := bd_some h
    refine r_getR (pc := 15) hX fl_11_26 rfl hx4 (dk D_X11_toss 8 rfl) ?_
    obtain ⟨x5, hx5, h⟩ := bd_some h
    refine r_getR (pc := 18) hX fl_11_186 rfl hx5 (dk D_X11_toss 9 rfl) ?_
    refine r_iloadn (pc := 21) hX 1 rfl (dk D_X11_toss 10 rfl) ?_
    obtain ⟨x6, hx6, h⟩ := bd_some h
    refine r_aald24 (pc := 22) hX q_a1 hx6 (dk D_X11_toss 11 rfl) ?_
    refine r_astoren (lv' := [(2, 2, x6), (0, 2, a0), (1, 0, a1)]) (pc := 23) hX (by decide) rfl (dk D_X11_toss 12 rfl) ?_
    refine r_aloadn (pc := 24) hX 0 rfl (dk D_X11_toss 13 rfl) ?_
    obtain ⟨x7, hx7, h⟩ := bd_some h
    refine r_getI (pc := 25) hX fl_11_199 rfl rfl hx7 (dk D_X11_toss 14 rfl) (fun qx7 => ?_)
    refine r_if_ne (pc := 28) hX qx7 34 rfl (dk D_X11_toss 15 rfl) (fun hc => ?_) (fun hc => ?_)
    · rw [if_neg hc] at h
      refine r_aloadn (pc := 34) hX 0 rfl (dk D_X11_toss 18 rfl) ?_
      refine r_dup (pc := 35) hX rfl (dk D_X11_toss 19 rfl) ?_
      obtain ⟨x8, hx8, h⟩ := bd_some h
      refine r_getI (pc := 36) hX fl_11_199 rfl rfl hx8 (dk D_X11_toss 20 rfl) (fun qx8 => ?_)
      refine r_iconst (pc := 39) hX (dk D_X11_toss 21 rfl) ?_
      refine r_isub (pc := 40) hX (dk D_X11_toss 22 rfl) ?_
      obtain ⟨μ9, hμ9, h⟩ := bd_some h
      refine r_putI (pc := 41) hX fl_11_199 rfl rfl (R32_w _) trivial hμ9 (dk D_X11_toss 23 rfl) ?_
      refine r_aloadn (pc := 44) hX 0 rfl (dk D_X11_toss 24 rfl) ?_
      obtain ⟨x10, hx10, h⟩ := bd_some h
      refine r_getR (pc := 45) hX fl_11_220 rfl hx10 (dk D_X11_toss 25 rfl) ?_
      refine r_aloadn (pc := 48) hX 0 rfl (dk D_X11_toss 26 rfl) ?_
      obtain ⟨x11, hx11, h⟩ := bd_some h
      refine r_getI (pc := 49) hX fl_11_199 rfl rfl hx11 (dk D_X11_toss 27 rfl) (fun qx11 => ?_)
      obtain ⟨x12, hx12, h⟩ := bd_some h
      refine r_iald (pc := 52) hX qx11 hx12 (dk D_X11_toss 28 rfl) (fun qx12 => ?_)
      cases h
      exact r_ireturn (pc := 53) hX qx12 hM ⟨by decide, by decide⟩ (dk D_X11_toss 29 rfl)
    · rw [if_pos hc] at h
      refine r_bipush (pc := 31) hX rfl (dk D_X11_toss 16 rfl) ?_
      cases h
      exact r_ireturn (pc := 33) hX (R32_lit rfl) hM ⟨by decide, by decide⟩ (dk D_X11_toss 17 rfl)
  · rw [if_pos hc] at h
    refine r_bipush (pc := 11) hX rfl (dk D_X11_toss 5 rfl) ?_
    cases h
    exact r_ireturn (pc := 13) hX (R32_lit rfl) hM ⟨by decide, by decide⟩ (dk D_X11_toss 6 rfl)
set_option maxRecDepth 100000 in
set_option maxHeartbeats 4000000 in
theorem L_T_rest {E : EX} {l : Launch} {a0 a1 a2 res : Int} {μ μ' : Mem} (q_a1 : R32 a1) (q_a2 : R32 a2) (h : T_rest a0 a1 a2 μ = some (res, μ')) : Ok E l 2 yX11_rest (.code yX11_rest cX11_rest 4 (some .int)) 0 0 [(2, a0), (0, a1), (0, a2)] μ (some (0, res)) μ' := by
  refine Ok.of (own := "TollsBack") [(0, 2, a0), (1, 0, a1), (2, 0, a2)] (by decide +kernel) rfl (Nat.le_of_ble_eq_true rfl) rfl ?_
  intro X hL hRm hin hX hM
  unfold T_rest at h
  subst hL
  refine r_aloadn (pc := 0) hX 0 rfl (dk D_X11_rest 0 rfl) ?_
  obtain ⟨x1, hx1, h⟩ := bd_some h
  refine r_getR (pc := 1) hX fl_11_26 rfl hx1 (dk D_X11_rest 1 rfl) ?_
  refine r_iloadn (pc := 4) hX 1 rfl (dk D_X11_rest 2 rfl) ?_
  obtain ⟨_, hi, h⟩ := bd_some h
  obtain ⟨x2, μ3, hx2, h⟩ := bd2_some h
  refine r_invV0 (As := [(0, a1)]) (pc := 5) hX ml_11_183 (L_Wo_hasTraveller q_a1 hx2) (isk_u hi) (Rm_of hRm (by decide) ⟨by decide, by decide⟩) (by decide) rfl (Nat.le_of_ble_eq_true rfl) rfl (dk D_X11_rest 3 rfl) (fun qx2 => ?_)
  refine r_if_ne (pc := 8) hX qx2 14 rfl (dk D_X11_rest 4 rfl) (fun hc => ?_) (fun hc => ?_)
  · rw [if_neg hc] at h
    refine r_iloadn (pc := 14) hX 2 rfl (dk D_X11_rest 7 rfl) ?_
    refine r_if_lt (pc := 15) hX q_a2 25 rfl (dk D_X11_rest 8 rfl) (fun hc => ?_) (fun hc => ?_)
    · rw [if_pos hc] at h
      refine r_bipush (pc := 25) hX rfl (dk D_X11_rest 12 rfl) ?_
      cases h
      exact r_ireturn (pc := 27) hX (R32_lit rfl) hM ⟨by decide, by decide⟩ (dk D_X11_rest 13 rfl)
    · rw [if_neg hc] at h
      refine r_iloadn (pc := 18) hX 2 rfl (dk D_X11_rest 9 rfl) ?_
      refine r_sipush (pc := 19) hX rfl (dk D_X11_rest 10 rfl) ?_
      refine r_icmp_le (pc := 22) hX q_a2 (R32_lit rfl) 28 rfl (dk D_X11_rest 11 rfl) (fun hc => ?_) (fun hc => ?_)
      · rw [if_neg hc] at h
        refine r_aloadn (pc := 28) hX 0 rfl (dk D_X11_rest 14 rfl) ?_
        obtain ⟨x4, hx4, h⟩ := bd_some h
        refine r_getR (pc := 29) hX fl_11_26 rfl hx4 (dk D_X11_rest 15 rfl) ?_
        obtain ⟨x5, hx5, h⟩ := bd_some h
        refine r_getR (pc := 32) hX fl_11_186 rfl hx5 (dk D_X11_rest 16 rfl) ?_
        refine r_iloadn (pc := 35) hX 1 rfl (dk D_X11_rest 17 rfl) ?_
        obtain ⟨x6, hx6, h⟩ := bd_some h
        refine r_aald24 (pc := 36) hX q_a1 hx6 (dk D_X11_rest 18 rfl) ?_
        refine r_astoren (lv' := [(3, 2, x6), (0, 2, a0), (1, 0, a1), (2, 0, a2)]) (pc := 37) hX (by decide) rfl (dk D_X11_rest 19 rfl) ?_
        refine r_aloadn (pc := 38) hX 0 rfl (dk D_X11_rest 20 rfl) ?_
        obtain ⟨x7, hx7, h⟩ := bd_some h
        refine r_getI (pc := 39) hX fl_11_193 rfl rfl hx7 (dk D_X11_rest 21 rfl) (fun qx7 => ?_)
        refine r_iloadn (pc := 42) hX 3 rfl (dk D_X11_rest 22 rfl) ?_
        refine r_iadd (pc := 43) hX (dk D_X11_rest 23 rfl) ?_
        refine r_ldc (pc := 44) hX cn_11_160 (dk D_X11_rest 24 rfl) ?_
        refine r_icmp_le (pc := 46) hX (R32_w _) (R32_lit rfl) 52 rfl (dk D_X11_rest 25 rfl) (fun hc => ?_) (fun hc => ?_)
        · rw [if_neg hc] at h
          refine r_aloadn (pc := 52) hX 0 rfl (dk D_X11_rest 28 rfl) ?_
          refine r_dup (pc := 53) hX rfl (dk D_X11_rest 29 rfl) ?_
          obtain ⟨x8, hx8, h⟩ := bd_some h
          refine r_getI (pc := 54) hX fl_11_193 rfl rfl hx8 (dk D_X11_rest 30 rfl) (fun qx8 => ?_)
          refine r_iloadn (pc := 57) hX 3 rfl (dk D_X11_rest 31 rfl) ?_
          refine r_iadd (pc := 58) hX (dk D_X11_rest 32 rfl) ?_
          obtain ⟨μ9, hμ9, h⟩ := bd_some h
          refine r_putI (pc := 59) hX fl_11_193 rfl rfl (R32_w _) trivial hμ9 (dk D_X11_rest 33 rfl) ?_
          refine r_aloadn (pc := 62) hX 0 rfl (dk D_X11_rest 34 rfl) ?_
          obtain ⟨x10, hx10, h⟩ := bd_some h
          refine r_getI (pc := 63) hX fl_11_193 rfl rfl hx10 (dk D_X11_rest 35 rfl) (fun qx10 => ?_)
          cases h
          exact r_ireturn (pc := 66) hX qx10 hM ⟨by decide, by decide⟩ (dk D_X11_rest 36 rfl)
        · rw [if_pos hc] at h
          refine r_bipush (pc := 49) hX rfl (dk D_X11_rest 26 rfl) ?_
          cases h
          exact r_ireturn (pc := 51) hX (R32_lit rfl) hM ⟨by decide, by decide⟩ (dk D_X11_rest 27 rfl)
      · rw [if_pos hc] at h
        refine r_bipush (pc := 25) hX rfl (dk D_X11_rest 12 rfl) ?_
        cases h
        exact r_ireturn (pc := 27) hX (R32_lit rfl) hM ⟨by decide, by decide⟩ (dk D_X11_rest 13 rfl)
  · rw [if_pos hc] at h
    refine r_bipush (pc := 11) hX rfl (dk D_X11_rest 5 rfl) ?_
    cases h
    exact r_ireturn (pc := 13) hX (R32_lit rfl) hM ⟨by decide, by decide⟩ (dk D_X11_rest 6 rfl)
set_option maxRecDepth 100000 in
set_option maxHeartbeats 4000000 in
theorem L_T_give {E : EX} {l : Launch} {a0 a1 a2 a3 res : Int} {μ μ' : Mem} (q_a1 : R32 a1) (q_a2 : R32 a2) (q_a3 : R32 a3) (h : T_give a0 a1 a2 a3 μ = some (res, μ')) : Ok E l 3 yX11_give (.code yX11_give cX11_give 6 (some .int)) 0 0 [(2, a0), (0, a1), (0, a2), (0, a3)] μ (some (0, res)) μ' := by
  refine Ok.of (own := "TollsBack") [(0, 2, a0), (1, 0, a1), (2, 0, a2), (3, 0, a3)] (by decide +kernel) rfl (Nat.le_of_ble_eq_true rfl) rfl ?_
  intro X hL hRm hin hX hM
  unfold T_give at h
  subst hL
  refine r_aloadn (pc := 0) hX 0 rfl (dk D_X11_give 0 rfl) ?_
  obtain ⟨x1, hx1, h⟩ := bd_some h
  refine r_getR (pc := 1) hX fl_11_26 rfl hx1 (dk D_X11_give 1 rfl) ?_
  refine r_iloadn (pc := 4) hX 1 rfl (dk D_X11_give 2 rfl) ?_
  refine r_iloadn (pc := 5) hX 2 rfl (dk D_X11_give 3 rfl) ?_
  obtain ⟨_, hi, h⟩ := bd_some h
  obtain ⟨x2, μ3, hx2, h⟩ := bd2_some h
  refine r_invV0 (As := [(0, a1), (0, a2)]) (pc := 6) hX ml_11_231 (L_Wo_hasPair q_a1 q_a2 hx2) (isk_u hi) (Rm_of hRm (by decide) ⟨by decide, by decide⟩) (by decide) rfl (Nat.le_of_ble_eq_true rfl) rfl (dk D_X11_give 4 rfl) (fun qx2 => ?_)
  refine r_if_ne (pc := 9) hX qx2 15 rfl (dk D_X11_give 5 rfl) (fun hc => ?_) (fun hc => ?_)
  · rw [if_neg hc] at h
    refine r_aloadn (pc := 15) hX 0 rfl (dk D_X11_give 8 rfl) ?_
    obtain ⟨x4, hx4, h⟩ := bd_some h
    refine r_getR (pc := 16) hX fl_11_26 rfl hx4 (dk D_X11_give 9 rfl) ?_
    obtain ⟨x5, hx5, h⟩ := bd_some h
    refine r_getR (pc := 19) hX fl_11_186 rfl hx5 (dk D_X11_give 10 rfl) ?_
    refine r_iloadn (pc := 22) hX 1 rfl (dk D_X11_give 11 rfl) ?_
    obtain ⟨x6, hx6, h⟩ := bd_some h
    refine r_aald24 (pc := 23) hX q_a1 hx6 (dk D_X11_give 12 rfl) ?_
    refine r_astore (lv' := [(4, 2, x6), (0, 2, a0), (1, 0, a1), (2, 0, a2), (3, 0, a3)]) (pc := 24) hX (by decide) rfl (dk D_X11_give 13 rfl) ?_
    refine r_aloadn (pc := 26) hX 1 rfl (dk D_X11_give 14 rfl) ?_
    obtain ⟨x7, hx7, h⟩ := bd_some h
    refine r_getR (pc := 27) hX fl_11_26 rfl hx7 (dk D_X11_give 15 rfl) ?_
    obtain ⟨x8, hx8, h⟩ := bd_some h
    refine r_getR (pc := 30) hX fl_11_186 rfl hx8 (dk D_X11_give 16 rfl) ?_
    refine r_iloadn (pc := 33) hX 3 rfl (dk D_X11_give 17 rfl) ?_
    obtain ⟨x9, hx9, h⟩ := bd_some h
    refine r_aald24 (pc := 34) hX q_a2 hx9 (dk D_X11_give 18 rfl) ?_
    refine r_astore (lv' := [(5, 2, x9), (4, 2, x6), (0, 2, a0), (1, 0, a1), (2, 0, a2), (3, 0, a3)]) (pc := 35) hX (by decide) rfl (dk D_X11_give 19 rfl) ?_
    refine r_aload (pc := 37) hX 1 rfl (dk D_X11_give 20 rfl) ?_
    obtain ⟨x10, hx10, h⟩ := bd_some h
    refine r_getI (pc := 39) hX fl_11_190 rfl rfl hx10 (dk D_X11_give 21 rfl) (fun qx10 => ?_)
    refine r_aload (pc := 42) hX 0 rfl (dk D_X11_give 22 rfl) ?_
    obtain ⟨x11, hx11, h⟩ := bd_some h
    refine r_getI (pc := 44) hX fl_11_190 rfl rfl hx11 (dk D_X11_give 23 rfl) (fun qx11 => ?_)
    refine r_icmp_ne (pc := 47) hX qx10 qx11 58 rfl (dk D_X11_give 24 rfl) (fun hc => ?_) (fun hc => ?_)
    · rw [if_neg hc] at h
      refine r_bipush (pc := 58) hX rfl (dk D_X11_give 28 rfl) ?_
      cases h
      exact r_ireturn (pc := 60) hX (R32_lit rfl) hM ⟨by decide, by decide⟩ (dk D_X11_give 29 rfl)
    · rw [if_pos hc] at h
      refine r_aload (pc := 50) hX 1 rfl (dk D_X11_give 25 rfl) ?_
      obtain ⟨x12, hx12, h⟩ := bd_some h
      refine r_getI (pc := 52) hX fl_11_199 rfl rfl hx12 (dk D_X11_give 26 rfl) (fun qx12 => ?_)
      refine r_if_ne (pc := 55) hX qx12 61 rfl (dk D_X11_give 27 rfl) (fun hc => ?_) (fun hc => ?_)
      · rw [if_neg hc] at h
        refine r_iloadn (pc := 61) hX 5 rfl (dk D_X11_give 30 rfl) ?_
        refine r_if_lt (pc := 62) hX q_a3 74 rfl (dk D_X11_give 31 rfl) (fun hc => ?_) (fun hc => ?_)
        · rw [if_pos hc] at h
          refine r_bipush (pc := 74) hX rfl (dk D_X11_give 36 rfl) ?_
          cases h
          exact r_ireturn (pc := 76) hX (R32_lit rfl) hM ⟨by decide, by decide⟩ (dk D_X11_give 37 rfl)
        · rw [if_neg hc] at h
          refine r_iloadn (pc := 65) hX 5 rfl (dk D_X11_give 32 rfl) ?_
          refine r_aload (pc := 66) hX 0 rfl (dk D_X11_give 33 rfl) ?_
          obtain ⟨x13, hx13, h⟩ := bd_some h
          refine r_getI (pc := 68) hX fl_11_196 rfl rfl hx13 (dk D_X11_give 34 rfl) (fun qx13 => ?_)
          refine r_icmp_le (pc := 71) hX q_a3 qx13 77 rfl (dk D_X11_give 35 rfl) (fun hc => ?_) (fun hc => ?_)
          · rw [if_neg hc] at h
            refine r_aload (pc := 77) hX 0 rfl (dk D_X11_give 38 rfl) ?_
            obtain ⟨x14, hx14, h⟩ := bd_some h
            refine r_getI (pc := 79) hX fl_11_199 rfl rfl hx14 (dk D_X11_give 39 rfl) (fun qx14 => ?_)
            refine r_bipush (pc := 82) hX rfl (dk D_X11_give 40 rfl) ?_
            refine r_icmp_lt (pc := 84) hX qx14 (R32_lit rfl) 90 rfl (dk D_X11_give 41 rfl) (fun hc => ?_) (fun hc => ?_)
            · rw [if_pos hc] at h
              refine r_aload (pc := 90) hX 0 rfl (dk D_X11_give 44 rfl) ?_
              refine r_aload (pc := 92) hX 1 rfl (dk D_X11_give 45 rfl) ?_
              obtain ⟨_, hi, h⟩ := bd_some h
              obtain ⟨x15, μ16, hx15, h⟩ := bd2_some h
              refine r_invV0 (As := [(2, x6)]) (pc := 94) hX ml_11_235 (L_Tr_takeTopOf hx15) (isk_u hi) (Rm_of hRm (by decide) ⟨by decide, by decide⟩) (by decide) rfl (Nat.le_of_ble_eq_true rfl) rfl (dk D_X11_give 46 rfl) (fun _ => ?_)
              refine r_aload (pc := 97) hX 1 rfl (dk D_X11_give 47 rfl) ?_
              refine r_dup (pc := 99) hX rfl (dk D_X11_give 48 rfl) ?_
              obtain ⟨x17, hx17, h⟩ := bd_some h
              refine r_getI (pc := 100) hX fl_11_199 rfl rfl hx17 (dk D_X11_give 49 rfl) (fun qx17 => ?_)
              refine r_iconst (pc := 103) hX (dk D_X11_give 50 rfl) ?_
              refine r_isub (pc := 104) hX (dk D_X11_give 51 rfl) ?_
              obtain ⟨μ18, hμ18, h⟩ := bd_some h
              refine r_putI (pc := 105) hX fl_11_199 rfl rfl (R32_w _) trivial hμ18 (dk D_X11_give 52 rfl) ?_
              refine r_aload (pc := 108) hX 1 rfl (dk D_X11_give 53 rfl) ?_
              refine r_dup (pc := 110) hX rfl (dk D_X11_give 54 rfl) ?_
              obtain ⟨x19, hx19, h⟩ := bd_some h
              refine r_getI (pc := 111) hX fl_11_196 rfl rfl hx19 (dk D_X11_give 55 rfl) (fun qx19 => ?_)
              refine r_iloadn (pc := 114) hX 5 rfl (dk D_X11_give 56 rfl) ?_
              refine r_iadd (pc := 115) hX (dk D_X11_give 57 rfl) ?_
              obtain ⟨μ20, hμ20, h⟩ := bd_some h
              refine r_putI (pc := 116) hX fl_11_196 rfl rfl (R32_w _) trivial hμ20 (dk D_X11_give 58 rfl) ?_
              refine r_aload (pc := 119) hX 0 rfl (dk D_X11_give 59 rfl) ?_
              refine r_dup (pc := 121) hX rfl (dk D_X11_give 60 rfl) ?_
              obtain ⟨x21, hx21, h⟩ := bd_some h
              refine r_getI (pc := 122) hX fl_11_196 rfl rfl hx21 (dk D_X11_give 61 rfl) (fun qx21 => ?_)
              refine r_iloadn (pc := 125) hX 5 rfl (dk D_X11_give 62 rfl) ?_
              refine r_isub (pc := 126) hX (dk D_X11_give 63 rfl) ?_
              obtain ⟨μ22, hμ22, h⟩ := bd_some h
              refine r_putI (pc := 127) hX fl_11_196 rfl rfl (R32_w _) trivial hμ22 (dk D_X11_give 64 rfl) ?_
              refine r_aload (pc := 130) hX 0 rfl (dk D_X11_give 65 rfl) ?_
              obtain ⟨x23, hx23, h⟩ := bd_some h
              refine r_getI (pc := 132) hX fl_11_199 rfl rfl hx23 (dk D_X11_give 66 rfl) (fun qx23 => ?_)
              cases h
              exact r_ireturn (pc := 135) hX qx23 hM ⟨by decide, by decide⟩ (dk D_X11_give 67 rfl)
            · rw [if_neg hc] at h
              refine r_bipush (pc := 87) hX rfl (dk D_X11_give 42 rfl) ?_
              cases h
              exact r_ireturn (pc := 89) hX (R32_lit rfl) hM ⟨by decide, by decide⟩ (dk D_X11_give 43 rfl)
          · rw [if_pos hc] at h
            refine r_bipush (pc := 74) hX rfl (dk D_X11_give 36 rfl) ?_
            cases h
            exact r_ireturn (pc := 76) hX (R32_lit rfl) hM ⟨by decide, by decide⟩ (dk D_X11_give 37 rfl)
      · rw [if_pos hc] at h
        refine r_bipush (pc := 58) hX rfl (dk D_X11_give 28 rfl) ?_
        cases h
        exact r_ireturn (pc := 60) hX (R32_lit rfl) hM ⟨by decide, by decide⟩ (dk D_X11_give 29 rfl)
  · rw [if_pos hc] at h
    refine r_bipush (pc := 12) hX rfl (dk D_X11_give 6 rfl) ?_
    cases h
    exact r_ireturn (pc := 14) hX (R32_lit rfl) hM ⟨by decide, by decide⟩ (dk D_X11_give 7 rfl)
set_option maxRecDepth 100000 in
set_option maxHeartbeats 4000000 in
theorem L_T_change {E : EX} {l : Launch} {a0 a1 a2 res : Int} {μ μ' : Mem} (q_a1 : R32 a1) (q_a2 : R32 a2) (h : T_change a0 a1 a2 μ = some (res, μ')) : Ok E l 3 yX11_change (.code yX11_change cX11_change 4 (some .int)) 0 0 [(2, a0), (0, a1), (0, a2)] μ (some (0, res)) μ' := by
  refine Ok.of (own := "TollsBack") [(0, 2, a0), (1, 0, a1), (2, 0, a2)] (by decide +kernel) rfl (Nat.le_of_ble_eq_true rfl) rfl ?_
  intro X hL hRm hin hX hM
  unfold T_change at h
  subst hL
  refine r_aloadn (pc := 0) hX 0 rfl (dk D_X11_change 0 rfl) ?_
  obtain ⟨x1, hx1, h⟩ := bd_some h
  refine r_getR (pc := 1) hX fl_11_26 rfl hx1 (dk D_X11_change 1 rfl) ?_
  refine r_iloadn (pc := 4) hX 1 rfl (dk D_X11_change 2 rfl) ?_
  refine r_iloadn (pc := 5) hX 2 rfl (dk D_X11_change 3 rfl) ?_
  obtain ⟨_, hi, h⟩ := bd_some h
  obtain ⟨x2, μ3, hx2, h⟩ := bd2_some h
  refine r_invV0 (As := [(0, a1), (0, a2)]) (pc := 6) hX ml_11_231 (L_Wo_hasPair q_a1 q_a2 hx2) (isk_u hi) (Rm_of hRm (by decide) ⟨by decide, by decide⟩) (by decide) rfl (Nat.le_of_ble_eq_true rfl) rfl (dk D_X11_change 4 rfl) (fun qx2 => ?_)
  refine r_if_ne (pc := 9) hX qx2 15 rfl (dk D_X11_change 5 rfl) (fun hc => ?_) (fun hc => ?_)
  · rw [if_neg hc] at h
    refine r_aloadn (pc := 15) hX 0 rfl (dk D_X11_change 8 rfl) ?_
    obtain ⟨x4, hx4, h⟩ := bd_some h
    refine r_getR (pc := 16) hX fl_11_26 rfl hx4 (dk D_X11_change 9 rfl) ?_
    obtain ⟨x5, hx5, h⟩ := bd_some h
    refine r_getR (pc := 19) hX fl_11_186 rfl hx5 (dk D_X11_change 10 rfl) ?_
    refine r_iloadn (pc := 22) hX 1 rfl (dk D_X11_change 11 rfl) ?_
    obtain ⟨x6, hx6, h⟩ := bd_some h
    refine r_aald24 (pc := 23) hX q_a1 hx6 (dk D_X11_change 12 rfl) ?_
    refine r_astoren (lv' := [(3, 2, x6), (0, 2, a0), (1, 0, a1), (2, 0, a2)]) (pc := 24) hX (by decide) rfl (dk D_X11_change 13 rfl) ?_
    refine r_aloadn (pc := 25) hX 0 rfl (dk D_X11_change 14 rfl) ?_
    obtain ⟨x7, hx7, h⟩ := bd_some h
    refine r_getI (pc := 26) hX fl_11_190 rfl rfl hx7 (dk D_X11_change 15 rfl) (fun qx7 => ?_)
    refine r_aloadn (pc := 29) hX 1 rfl (dk D_X11_change 16 rfl) ?_
    obtain ⟨x8, hx8, h⟩ := bd_some h
    refine r_getR (pc := 30) hX fl_11_26 rfl hx8 (dk D_X11_change 17 rfl) ?_
    obtain ⟨x9, hx9, h⟩ := bd_some h
    refine r_getR (pc := 33) hX fl_11_186 rfl hx9 (dk D_X11_change 18 rfl) ?_
    refine r_iloadn (pc := 36) hX 3 rfl (dk D_X11_change 19 rfl) ?_
    obtain ⟨x10, hx10, h⟩ := bd_some h
    refine r_aald24 (pc := 37) hX q_a2 hx10 (dk D_X11_change 20 rfl) ?_
    obtain ⟨x11, hx11, h⟩ := bd_some h
    refine r_getI (pc := 38) hX fl_11_190 rfl rfl hx11 (dk D_X11_change 21 rfl) (fun qx11 => ?_)
    refine r_icmp_eq (pc := 41) hX qx7 qx11 47 rfl (dk D_X11_change 22 rfl) (fun hc => ?_) (fun hc => ?_)
    · rw [if_pos hc] at h
      refine r_aloadn (pc := 47) hX 0 rfl (dk D_X11_change 25 rfl) ?_
      refine r_aloadn (pc := 48) hX 1 rfl (dk D_X11_change 26 rfl) ?_
      obtain ⟨x12, hx12, h⟩ := bd_some h
      refine r_getR (pc := 49) hX fl_11_26 rfl hx12 (dk D_X11_change 27 rfl) ?_
      obtain ⟨x13, hx13, h⟩ := bd_some h
      refine r_getR (pc := 52) hX fl_11_186 rfl hx13 (dk D_X11_change 28 rfl) ?_
      refine r_iloadn (pc := 55) hX 3 rfl (dk D_X11_change 29 rfl) ?_
      obtain ⟨x14, hx14, h⟩ := bd_some h
      refine r_aald24 (pc := 56) hX q_a2 hx14 (dk D_X11_change 30 rfl) ?_
      obtain ⟨_, hi, h⟩ := bd_some h
      obtain ⟨x15, μ16, hx15, h⟩ := bd2_some h
      refine r_invV0 (As := [(2, x14)]) (pc := 57) hX ml_11_239 (L_Tr_swapSlips hx15) (isk_u hi) (Rm_of hRm (by decide) ⟨by decide, by decide⟩) (by decide) rfl (Nat.le_of_ble_eq_true rfl) rfl (dk D_X11_change 31 rfl) (fun _ => ?_)
      refine r_aloadn (pc := 60) hX 0 rfl (dk D_X11_change 32 rfl) ?_
      obtain ⟨x17, hx17, h⟩ := bd_some h
      refine r_getI (pc := 61) hX fl_11_199 rfl rfl hx17 (dk D_X11_change 33 rfl) (fun qx17 => ?_)
      cases h
      exact r_ireturn (pc := 64) hX qx17 hM ⟨by decide, by decide⟩ (dk D_X11_change 34 rfl)
    · rw [if_neg hc] at h
      refine r_bipush (pc := 44) hX rfl (dk D_X11_change 23 rfl) ?_
      cases h
      exact r_ireturn (pc := 46) hX (R32_lit rfl) hM ⟨by decide, by decide⟩ (dk D_X11_change 24 rfl)
  · rw [if_pos hc] at h
    refine r_bipush (pc := 12) hX rfl (dk D_X11_change 6 rfl) ?_
    cases h
    exact r_ireturn (pc := 14) hX (R32_lit rfl) hM ⟨by decide, by decide⟩ (dk D_X11_change 7 rfl)
set_option maxRecDepth 100000 in
set_option maxHeartbeats 4000000 in
theorem L_T_isRow {E : EX} {l : Launch} {a0 res : Int} {μ μ' : Mem} (q_a0 : R32 a0) (h : T_isRow a0 μ = some (res, μ')) : Ok E l 1 yX11_isRow (.code yX11_isRow cX11_isRow 1 (some .boolean)) 0 0 [(0, a0)] μ (some (0, res)) μ' := by
  refine Ok.of (own := "TollsBack") [(0, 0, a0)] (by decide +kernel) rfl (Nat.le_of_ble_eq_true rfl) rfl ?_
  intro X hL hRm hin hX hM
  unfold T_isRow at h
  subst hL
  refine r_iloadn (pc := 0) hX 0 rfl (dk D_X11_isRow 0 rfl) ?_
  refine r_if_lt (pc := 1) hX q_a0 13 rfl (dk D_X11_isRow 1 rfl) (fun hc => ?_) (fun hc => ?_)
  · rw [if_pos hc] at h
    refine r_iconst (pc := 13) hX (dk D_X11_isRow 7 rfl) ?_
    cases h
    exact r_zreturn (pc := 14) hX (R32_lit rfl) hM (Or.inl rfl) ⟨by decide, by decide⟩ (dk D_X11_isRow 8 rfl)
  · rw [if_neg hc] at h
    refine r_iloadn (pc := 4) hX 0 rfl (dk D_X11_isRow 2 rfl) ?_
    refine r_iconst (pc := 5) hX (dk D_X11_isRow 3 rfl) ?_
    refine r_icmp_ge (pc := 6) hX q_a0 (R32_lit rfl) 13 rfl (dk D_X11_isRow 4 rfl) (fun hc => ?_) (fun hc => ?_)
    · rw [if_neg hc] at h
      refine r_iconst (pc := 13) hX (dk D_X11_isRow 7 rfl) ?_
      cases h
      exact r_zreturn (pc := 14) hX (R32_lit rfl) hM (Or.inl rfl) ⟨by decide, by decide⟩ (dk D_X11_isRow 8 rfl)
    · rw [if_pos hc] at h
      refine r_iconst (pc := 9) hX (dk D_X11_isRow 5 rfl) ?_
      refine r_goto (pc := 10) hX 14 rfl (dk D_X11_isRow 6 rfl) ?_
      cases h
      exact r_zreturn (pc := 14) hX (R32_lit rfl) hM (Or.inr rfl) ⟨by decide, by decide⟩ (dk D_X11_isRow 8 rfl)
set_option maxRecDepth 100000 in
set_option maxHeartbeats 4000000 in
theorem L_T_judge {E : EX} {l : Launch} {a0 a1 a2 a3 res : Int} {μ μ' : Mem} (q_a1 : R32 a1) (q_a2 : R32 a2) (q_a3 : R32 a3) (h : T_judge a0 a1 a2 a3 μ = some (res, μ')) : Ok E l 7 yX11_judge (.code yX11_judge cX11_judge 5 (some .int)) 0 0 [(2, a0), (0, a1), (0, a2), (0, a3)] μ (some (0, res)) μ' := by
  refine Ok.of (own := "TollsBack") [(0, 2, a0), (1, 0, a1), (2, 0, a2), (3, 0, a3)] (by decide +kernel) rfl (Nat.le_of_ble_eq_true rfl) rfl ?_
  intro X hL hRm hin hX hM
  unfold T_judge at h
  subst hL
  refine r_aloadn (pc := 0) hX 0 rfl (dk D_X11_judge 0 rfl) ?_
  obtain ⟨x1, hx1, h⟩ := bd_some h
  refine r_getR (pc := 1) hX fl_11_26 rfl hx1 (dk D_X11_judge 1 rfl) ?_
  refine r_iloadn (pc := 4) hX 1 rfl (dk D_X11_judge 2 rfl) ?_
  obtain ⟨_, hi, h⟩ := bd_some h
  obtain ⟨x2, μ3, hx2, h⟩ := bd2_some h
  refine r_invV0 (As := [(0, a1)]) (pc := 5) hX ml_11_183 (L_Wo_hasTraveller q_a1 hx2) (isk_u hi) (Rm_of hRm (by decide) ⟨by decide, by decide⟩) (by decide) rfl (Nat.le_of_ble_eq_true rfl) rfl (dk D_X11_judge 3 rfl) (fun qx2 => ?_)
  refine r_if_eq (pc := 8) hX qx2 28 rfl (dk D_X11_judge 4 rfl) (fun hc => ?_) (fun hc => ?_)
  · rw [if_pos hc] at h
    refine r_bipush (pc := 28) hX rfl (dk D_X11_judge 13 rfl) ?_
    cases h
    exact r_ireturn (pc := 30) hX (R32_lit rfl) hM ⟨by decide, by decide⟩ (dk D_X11_judge 14 rfl)
  · rw [if_neg hc] at h
    refine r_iloadn (pc := 11) hX 2 rfl (dk D_X11_judge 5 rfl) ?_
    obtain ⟨x4, μ5, hx4, h⟩ := bd2_some h
    refine r_invS0 (As := [(0, a2)]) (pc := 12) hX ml_11_242 (L_T_isRow q_a2 hx4) (Rm_of hRm (by decide) ⟨by decide, by decide⟩) (by decide) rfl (Nat.le_of_ble_eq_true rfl) rfl (dk D_X11_judge 6 rfl) (fun qx4 => ?_)
    refine r_if_eq (pc := 15) hX qx4 28 rfl (dk D_X11_judge 7 rfl) (fun hc => ?_) (fun hc => ?_)
    · rw [if_pos hc] at h
      refine r_bipush (pc := 28) hX rfl (dk D_X11_judge 13 rfl) ?_
      cases h
      exact r_ireturn (pc := 30) hX (R32_lit rfl) hM ⟨by decide, by decide⟩ (dk D_X11_judge 14 rfl)
    · rw [if_neg hc] at h
      refine r_iloadn (pc := 18) hX 3 rfl (dk D_X11_judge 8 rfl) ?_
      refine r_if_lt (pc := 19) hX q_a3 28 rfl (dk D_X11_judge 9 rfl) (fun hc => ?_) (fun hc => ?_)
      · rw [if_pos hc] at h
        refine r_bipush (pc := 28) hX rfl (dk D_X11_judge 13 rfl) ?_
        cases h
        exact r_ireturn (pc := 30) hX (R32_lit rfl) hM ⟨by decide, by decide⟩ (dk D_X11_judge 14 rfl)
      · rw [if_neg hc] at h
        refine r_iloadn (pc := 22) hX 3 rfl (dk D_X11_judge 10 rfl) ?_
        refine r_bipush (pc := 23) hX rfl (dk D_X11_judge 11 rfl) ?_
        refine r_icmp_le (pc := 25) hX q_a3 (R32_lit rfl) 31 rfl (dk D_X11_judge 12 rfl) (fun hc => ?_) (fun hc => ?_)
        · rw [if_neg hc] at h
          refine r_aloadn (pc := 31) hX 0 rfl (dk D_X11_judge 15 rfl) ?_
          obtain ⟨x6, hx6, h⟩ := bd_some h
          refine r_getR (pc := 32) hX fl_11_36 rfl hx6 (dk D_X11_judge 16 rfl) ?_
          refine r_iloadn (pc := 35) hX 2 rfl (dk D_X11_judge 17 rfl) ?_
          obtain ⟨x7, hx7, h⟩ := bd_some h
          refine r_aald26 (pc := 36) hX q_a2 hx7 (dk D_X11_judge 18 rfl) ?_
          obtain ⟨x8, hx8, h⟩ := bd_some h
          refine r_getI (pc := 37) hX fl_11_245 rfl rfl hx8 (dk D_X11_judge 19 rfl) (fun qx8 => ?_)
          refine r_if_eq (pc := 40) hX qx8 46 rfl (dk D_X11_judge 20 rfl) (fun hc => ?_) (fun hc => ?_)
          · rw [if_pos hc] at h
            refine r_aloadn (pc := 46) hX 0 rfl (dk D_X11_judge 23 rfl) ?_
            obtain ⟨x9, hx9, h⟩ := bd_some h
            refine r_getR (pc := 47) hX fl_11_26 rfl hx9 (dk D_X11_judge 24 rfl) ?_
            obtain ⟨x10, hx10, h⟩ := bd_some h
            refine r_getR (pc := 50) hX fl_11_186 rfl hx10 (dk D_X11_judge 25 rfl) ?_
            refine r_iloadn (pc := 53) hX 1 rfl (dk D_X11_judge 26 rfl) ?_
            obtain ⟨x11, hx11, h⟩ := bd_some h
            refine r_aald24 (pc := 54) hX q_a1 hx11 (dk D_X11_judge 27 rfl) ?_
            refine r_astore (lv' := [(4, 2, x11), (0, 2, a0), (1, 0, a1), (2, 0, a2), (3, 0, a3)]) (pc := 55) hX (by decide) rfl (dk D_X11_judge 28 rfl) ?_
            refine r_aloadn (pc := 57) hX 1 rfl (dk D_X11_judge 29 rfl) ?_
            obtain ⟨x12, hx12, h⟩ := bd_some h
            refine r_getR (pc := 58) hX fl_11_57 rfl hx12 (dk D_X11_judge 30 rfl) ?_
            refine r_aloadn (pc := 61) hX 1 rfl (dk D_X11_judge 31 rfl) ?_
            obtain ⟨x13, hx13, h⟩ := bd_some h
            refine r_getR (pc := 62) hX fl_11_26 rfl hx13 (dk D_X11_judge 32 rfl) ?_
            refine r_aload (pc := 65) hX 0 rfl (dk D_X11_judge 33 rfl) ?_
            refine r_aloadn (pc := 67) hX 1 rfl (dk D_X11_judge 34 rfl) ?_
            obtain ⟨x14, hx14, h⟩ := bd_some h
            refine r_getR (pc := 68) hX fl_11_36 rfl hx14 (dk D_X11_judge 35 rfl) ?_
            refine r_iloadn (pc := 71) hX 3 rfl (dk D_X11_judge 36 rfl) ?_
            obtain ⟨x15, hx15, h⟩ := bd_some h
            refine r_aald26 (pc := 72) hX q_a2 hx15 (dk D_X11_judge 37 rfl) ?_
            refine r_aload (pc := 73) hX 0 rfl (dk D_X11_judge 38 rfl) ?_
            obtain ⟨x16, hx16, h⟩ := bd_some h
            refine r_getI (pc := 75) hX fl_11_196 rfl rfl hx16 (dk D_X11_judge 39 rfl) (fun qx16 => ?_)
            obtain ⟨_, hi, h⟩ := bd_some h
            obtain ⟨x17, μ18, hx17, h⟩ := bd2_some h
            refine r_invV0 (As := [(2, x13), (2, x11), (2, x15), (0, x16)]) (pc := 78) hX ml_11_249 (L_Tp_follow qx16 hx17) (isk_u hi) (Rm_of hRm (by decide) ⟨by decide, by decide⟩) (by decide) rfl (Nat.le_of_ble_eq_true rfl) rfl (dk D_X11_judge 40 rfl) (fun _ => ?_)
            refine r_iloadn (pc := 81) hX 4 rfl (dk D_X11_judge 41 rfl) ?_
            by_cases hc0 : a3 = 0
            · rw [if_pos hc0] at h
              refine r_table (pc := 82) hX (by rw [hc0]; exact R32_lit rfl) 120 (dk D_X11_judge 42 rfl) (by omega) (by omega) (by rw [hc0]; rfl) rfl ?_
              refine r_aloadn (pc := 120) hX 1 rfl (dk D_X11_judge 43 rfl) ?_
              obtain ⟨x19, hx19, h⟩ := bd_some h
              refine r_getR (pc := 121) hX fl_11_57 rfl hx19 (dk D_X11_judge 44 rfl) ?_
              obtain ⟨x20, hx20, h⟩ := bd_some h
              refine r_getI (pc := 124) hX fl_11_253 rfl rfl hx20 (dk D_X11_judge 45 rfl) (fun qx20 => ?_)
              refine r_if_ne (pc := 127) hX qx20 134 rfl (dk D_X11_judge 46 rfl) (fun hc => ?_) (fun hc => ?_)
              · rw [if_neg hc] at h
                refine r_aloadn (pc := 134) hX 1 rfl (dk D_X11_judge 49 rfl) ?_
                obtain ⟨x21, hx21, h⟩ := bd_some h
                refine r_getR (pc := 135) hX fl_11_57 rfl hx21 (dk D_X11_judge 50 rfl) ?_
                obtain ⟨x22, hx22, h⟩ := bd_some h
                refine r_getI (pc := 138) hX fl_11_256 rfl rfl hx22 (dk D_X11_judge 51 rfl) (fun qx22 => ?_)
                cases h
                exact r_ireturn (pc := 141) hX qx22 hM ⟨by decide, by decide⟩ (dk D_X11_judge 52 rfl)
              · rw [if_pos hc] at h
                refine r_iconst (pc := 130) hX (dk D_X11_judge 47 rfl) ?_
                refine r_goto (pc := 131) hX 141 rfl (dk D_X11_judge 48 rfl) ?_
                cases h
                exact r_ireturn (pc := 141) hX (R32_lit rfl) hM ⟨by decide, by decide⟩ (dk D_X11_judge 52 rfl)
            · rw [if_neg hc0] at h
              by_cases hc1 : a3 = 1
              · rw [if_pos hc1] at h
                refine r_table (pc := 82) hX (by rw [hc1]; exact R32_lit rfl) 142 (dk D_X11_judge 42 rfl) (by omega) (by omega) (by rw [hc1]; rfl) rfl ?_
                refine r_aloadn (pc := 142) hX 1 rfl (dk D_X11_judge 53 rfl) ?_
                obtain ⟨x23, hx23, h⟩ := bd_some h
                refine r_getR (pc := 143) hX fl_11_57 rfl hx23 (dk D_X11_judge 54 rfl) ?_
                obtain ⟨x24, hx24, h⟩ := bd_some h
                refine r_getI (pc := 146) hX fl_11_253 rfl rfl hx24 (dk D_X11_judge 55 rfl) (fun qx24 => ?_)
                cases h
                exact r_ireturn (pc := 149) hX qx24 hM ⟨by decide, by decide⟩ (dk D_X11_judge 56 rfl)
              · rw [if_neg hc1] at h
                by_cases hc2 : a3 = 2
                · rw [if_pos hc2] at h
                  refine r_table (pc := 82) hX (by rw [hc2]; exact R32_lit rfl) 150 (dk D_X11_judge 42 rfl) (by omega) (by omega) (by rw [hc2]; rfl) rfl ?_
                  refine r_aloadn (pc := 150) hX 1 rfl (dk D_X11_judge 57 rfl) ?_
                  obtain ⟨x25, hx25, h⟩ := bd_some h
                  refine r_getR (pc := 151) hX fl_11_57 rfl hx25 (dk D_X11_judge 58 rfl) ?_
                  obtain ⟨x26, hx26, h⟩ := bd_some h
                  refine r_getR (pc := 154) hX fl_11_259 rfl hx26 (dk D_X11_judge 59 rfl) ?_
                  obtain ⟨x27, hx27, h⟩ := bd_some h
                  refine r_getI (pc := 157) hX fl_11_202 rfl rfl hx27 (dk D_X11_judge 60 rfl) (fun qx27 => ?_)
                  refine r_aload (pc := 160) hX 0 rfl (dk D_X11_judge 61 rfl) ?_
                  obtain ⟨x28, hx28, h⟩ := bd_some h
                  refine r_getI (pc := 162) hX fl_11_202 rfl rfl hx28 (dk D_X11_judge 62 rfl) (fun qx28 => ?_)
                  refine r_isub (pc := 165) hX (dk D_X11_judge 63 rfl) ?_
                  cases h
                  exact r_ireturn (pc := 166) hX (R32_w _) hM ⟨by decide, by decide⟩ (dk D_X11_judge 64 rfl)
                · rw [if_neg hc2] at h
                  by_cases hc3 : a3 = 3
                  · rw [if_pos hc3] at h
                    refine r_table (pc := 82) hX (by rw [hc3]; exact R32_lit rfl) 167 (dk D_X11_judge 42 rfl) (by omega) (by omega) (by rw [hc3]; rfl) rfl ?_
                    refine r_aloadn (pc := 167) hX 1 rfl (dk D_X11_judge 65 rfl) ?_
                    obtain ⟨x29, hx29, h⟩ := bd_some h
                    refine r_getR (pc := 168) hX fl_11_57 rfl hx29 (dk D_X11_judge 66 rfl) ?_
                    obtain ⟨x30, hx30, h⟩ := bd_some h
                    refine r_getR (pc := 171) hX fl_11_259 rfl hx30 (dk D_X11_judge 67 rfl) ?_
                    obtain ⟨x31, hx31, h⟩ := bd_some h
                    refine r_getI (pc := 174) hX fl_11_205 rfl rfl hx31 (dk D_X11_judge 68 rfl) (fun qx31 => ?_)
                    refine r_aload (pc := 177) hX 0 rfl (dk D_X11_judge 69 rfl) ?_
                    obtain ⟨x32, hx32, h⟩ := bd_some h
                    refine r_getI (pc := 179) hX fl_11_205 rfl rfl hx32 (dk D_X11_judge 70 rfl) (fun qx32 => ?_)
                    refine r_isub (pc := 182) hX (dk D_X11_judge 71 rfl) ?_
                    cases h
                    exact r_ireturn (pc := 183) hX (R32_w _) hM ⟨by decide, by decide⟩ (dk D_X11_judge 72 rfl)
                  · rw [if_neg hc3] at h
                    by_cases hc4 : a3 = 4
                    · rw [if_pos hc4] at h
                      refine r_table (pc := 82) hX (by rw [hc4]; exact R32_lit rfl) 184 (dk D_X11_judge 42 rfl) (by omega) (by omega) (by rw [hc4]; rfl) rfl ?_
                      refine r_aloadn (pc := 184) hX 1 rfl (dk D_X11_judge 73 rfl) ?_
                      obtain ⟨x33, hx33, h⟩ := bd_some h
                      refine r_getR (pc := 185) hX fl_11_57 rfl hx33 (dk D_X11_judge 74 rfl) ?_
                      obtain ⟨x34, hx34, h⟩ := bd_some h
                      refine r_getR (pc := 188) hX fl_11_259 rfl hx34 (dk D_X11_judge 75 rfl) ?_
                      obtain ⟨x35, hx35, h⟩ := bd_some h
                      refine r_getI (pc := 191) hX fl_11_199 rfl rfl hx35 (dk D_X11_judge 76 rfl) (fun qx35 => ?_)
                      cases h
                      exact r_ireturn (pc := 194) hX qx35 hM ⟨by decide, by decide⟩ (dk D_X11_judge 77 rfl)
                    · rw [if_neg hc4] at h
                      by_cases hc5 : a3 = 5
                      · rw [if_pos hc5] at h
                        refine r_table (pc := 82) hX (by rw [hc5]; exact R32_lit rfl) 195 (dk D_X11_judge 42 rfl) (by omega) (by omega) (by rw [hc5]; rfl) rfl ?_
                        refine r_aloadn (pc := 195) hX 1 rfl (dk D_X11_judge 78 rfl) ?_
                        obtain ⟨x36, hx36, h⟩ := bd_some h
                        refine r_getR (pc := 196) hX fl_11_57 rfl hx36 (dk D_X11_judge 79 rfl) ?_
                        obtain ⟨x37, hx37, h⟩ := bd_some h
                        refine r_getR (pc := 199) hX fl_11_259 rfl hx37 (dk D_X11_judge 80 rfl) ?_
                        obtain ⟨x38, hx38, h⟩ := bd_some h
                        refine r_getI (pc := 202) hX fl_11_190 rfl rfl hx38 (dk D_X11_judge 81 rfl) (fun qx38 => ?_)
                        cases h
                        exact r_ireturn (pc := 205) hX qx38 hM ⟨by decide, by decide⟩ (dk D_X11_judge 82 rfl)
                      · rw [if_neg hc5] at h
                        refine r_tableD (pc := 82) hX q_a3 206 (dk D_X11_judge 42 rfl) (by omega) rfl ?_
                        refine r_aloadn (pc := 206) hX 1 rfl (dk D_X11_judge 83 rfl) ?_
                        obtain ⟨x39, hx39, h⟩ := bd_some h
                        refine r_getR (pc := 207) hX fl_11_57 rfl hx39 (dk D_X11_judge 84 rfl) ?_
                        obtain ⟨x40, hx40, h⟩ := bd_some h
                        refine r_getR (pc := 210) hX fl_11_259 rfl hx40 (dk D_X11_judge 85 rfl) ?_
                        obtain ⟨x41, hx41, h⟩ := bd_some h
                        refine r_getI (pc := 213) hX fl_11_193 rfl rfl hx41 (dk D_X11_judge 86 rfl) (fun qx41 => ?_)
                        cases h
                        exact r_ireturn (pc := 216) hX qx41 hM ⟨by decide, by decide⟩ (dk D_X11_judge 87 rfl)
          · rw [if_neg hc] at h
            refine r_bipush (pc := 43) hX rfl (dk D_X11_judge 21 rfl) ?_
            cases h
            exact r_ireturn (pc := 45) hX (R32_lit rfl) hM ⟨by decide, by decide⟩ (dk D_X11_judge 22 rfl)
        · rw [if_pos hc] at h
          refine r_bipush (pc := 28) hX rfl (dk D_X11_judge 13 rfl) ?_
          cases h
          exact r_ireturn (pc := 30) hX (R32_lit rfl) hM ⟨by decide, by decide⟩ (dk D_X11_judge 14 rfl)
set_option maxRecDepth 100000 in
set_option maxHeartbeats 4000000 in
theorem L_T_perform_L46 {E : EX} {X : CX} {res : Int} {μe : Mem} (hX : Good E X cX11_perform 5 "TollsBack") (hM : GoodM E X (some .int) (some (0, res)) μe 0 0) (hRm : cR X = rmOf 7 0 0) : ∀ (n : Nat) (v0 v1 v3 v4 : Int) (μ : Mem) (q_v1 : R32 v1) (q_v4 : R32 v4) (h : T_perform_L46 n v0 v1 v3 v4 μ = some (res, μe)), At E X cX11_perform 5 "TollsBack" (0, 0) 46 [(0, 2, v0), (1, 0, v1), (3, 2, v3), (4, 0, v4)] [] μ := by
  intro n
  induction n with
  | zero =>
    intro v0 v1 v3 v4 μ q_v1 q_v4 h
    have h : (none : Option (Int × Mem)) = some (res, μe) := h
    cases h
  | succ n ih =>
    intro v0 v1 v3 v4 μ q_v1 q_v4 h
    rw [T_perform_L46.eq_2] at h
    refine r_iload (pc := 46) hX 3 rfl (dk D_X11_perform 25 rfl) ?_
    refine r_aloadn (pc := 48) hX 2 rfl (dk D_X11_perform 26 rfl) ?_
    obtain ⟨x1, hx1, h⟩ := bd_some h
    refine r_getI (pc := 49) hX fl_11_262 rfl rfl hx1 (dk D_X11_perform 27 rfl) (fun qx1 => ?_)
    refine r_icmp_ge (pc := 52) hX q_v4 qx1 86 rfl (dk D_X11_perform 28 rfl) (fun hc => ?_) (fun hc => ?_)
    · rw [if_neg hc] at h
      refine r_iload (pc := 86) hX 3 rfl (dk D_X11_perform 43 rfl) ?_
      cases h
      exact r_ireturn (pc := 88) hX q_v4 hM ⟨by decide, by decide⟩ (dk D_X11_perform 44 rfl)
    · rw [if_pos hc] at h
      refine r_aloadn (pc := 55) hX 0 rfl (dk D_X11_perform 29 rfl) ?_
      obtain ⟨x2, hx2, h⟩ := bd_some h
      refine r_getR (pc := 56) hX fl_11_26 rfl hx2 (dk D_X11_perform 30 rfl) ?_
      refine r_aloadn (pc := 59) hX 0 rfl (dk D_X11_perform 31 rfl) ?_
      obtain ⟨x3, hx3, h⟩ := bd_some h
      refine r_getR (pc := 60) hX fl_11_26 rfl hx3 (dk D_X11_perform 32 rfl) ?_
      obtain ⟨x4, hx4, h⟩ := bd_some h
      refine r_getR (pc := 63) hX fl_11_186 rfl hx4 (dk D_X11_perform 33 rfl) ?_
      refine r_iloadn (pc := 66) hX 1 rfl (dk D_X11_perform 34 rfl) ?_
      obtain ⟨x5, hx5, h⟩ := bd_some h
      refine r_aald24 (pc := 67) hX q_v1 hx5 (dk D_X11_perform 35 rfl) ?_
      refine r_aloadn (pc := 68) hX 2 rfl (dk D_X11_perform 36 rfl) ?_
      refine r_iload (pc := 69) hX 3 rfl (dk D_X11_perform 37 rfl) ?_
      obtain ⟨_, hi, h⟩ := bd_some h
      obtain ⟨x6, μ7, hx6, h⟩ := bd2_some h
      refine r_invV0 (As := [(0, v4)]) (pc := 71) hX ml_11_265 (L_Nu_smallAt q_v4 hx6) (isk_u hi) (Rm_of hRm (by decide) ⟨by decide, by decide⟩) (by decide) rfl (Nat.le_of_ble_eq_true rfl) rfl (dk D_X11_perform 38 rfl) (fun qx6 => ?_)
      obtain ⟨_, hi, h⟩ := bd_some h
      obtain ⟨x8, μ9, hx8, h⟩ := bd2_some h
      refine r_invV0 (As := [(2, x5), (0, x6)]) (pc := 74) hX ml_11_227 (L_Wo_move qx6 hx8) (isk_u hi) (Rm_of hRm (by decide) ⟨by decide, by decide⟩) (by decide) rfl (Nat.le_of_ble_eq_true rfl) rfl (dk D_X11_perform 39 rfl) (fun qx8 => ?_)
      refine r_if_lt (pc := 77) hX qx8 86 rfl (dk D_X11_perform 40 rfl) (fun hc => ?_) (fun hc => ?_)
      · rw [if_pos hc] at h
        refine r_iload (pc := 86) hX 3 rfl (dk D_X11_perform 43 rfl) ?_
        cases h
        exact r_ireturn (pc := 88) hX q_v4 hM ⟨by decide, by decide⟩ (dk D_X11_perform 44 rfl)
      · rw [if_neg hc] at h
        refine r_iinc (lv' := [(4, 0, (w32 (v4 + 1))), (0, 2, v0), (1, 0, v1), (3, 2, v3)]) (pc := 80) hX 3 rfl (by decide) rfl (dk D_X11_perform 41 rfl) ?_
        refine r_goto (pc := 83) hX 46 rfl (dk D_X11_perform 42 rfl) ?_
        refine r_sub (lv' := [(0, 2, v0), (1, 0, v1), (3, 2, v3), (4, 0, (w32 (v4 + 1)))]) [1, 2, 3, 0] rfl ?_
        exact ih v0 v1 v3 (w32 (v4 + 1)) μ9 q_v1 (R32_w _) h
set_option maxRecDepth 100000 in
set_option maxHeartbeats 4000000 in
theorem L_T_perform {E : EX} {l : Launch} {a0 a1 a2 res : Int} {μ μ' : Mem} (q_a1 : R32 a1) (q_a2 : R32 a2) (h : T_perform a0 a1 a2 μ = some (res, μ')) : Ok E l 7 yX11_perform (.code yX11_perform cX11_perform 5 (some .int)) 0 0 [(2, a0), (0, a1), (0, a2)] μ (some (0, res)) μ' := by
  refine Ok.of (own := "TollsBack") [(0, 2, a0), (1, 0, a1), (2, 0, a2)] (by decide +kernel) rfl (Nat.le_of_ble_eq_true rfl) rfl ?_
  intro X hL hRm hin hX hM
  unfold T_perform at h
  subst hL
  refine r_aloadn (pc := 0) hX 0 rfl (dk D_X11_perform 0 rfl) ?_
  obtain ⟨x1, hx1, h⟩ := bd_some h
  refine r_getR (pc := 1) hX fl_11_26 rfl hx1 (dk D_X11_perform 1 rfl) ?_
  refine r_iloadn (pc := 4) hX 1 rfl (dk D_X11_perform 2 rfl) ?_
  obtain ⟨_, hi, h⟩ := bd_some h
  obtain ⟨x2, μ3, hx2, h⟩ := bd2_some h
  refine r_invV0 (As := [(0, a1)]) (pc := 5) hX ml_11_183 (L_Wo_hasTraveller q_a1 hx2) (isk_u hi) (Rm_of hRm (by decide) ⟨by decide, by decide⟩) (by decide) rfl (Nat.le_of_ble_eq_true rfl) rfl (dk D_X11_perform 3 rfl) (fun qx2 => ?_)
  refine r_if_eq (pc := 8) hX qx2 18 rfl (dk D_X11_perform 4 rfl) (fun hc => ?_) (fun hc => ?_)
  · rw [if_pos hc] at h
    refine r_bipush (pc := 18) hX rfl (dk D_X11_perform 8 rfl) ?_
    cases h
    exact r_ireturn (pc := 20) hX (R32_lit rfl) hM ⟨by decide, by decide⟩ (dk D_X11_perform 9 rfl)
  · rw [if_neg hc] at h
    refine r_iloadn (pc := 11) hX 2 rfl (dk D_X11_perform 5 rfl) ?_
    obtain ⟨x4, μ5, hx4, h⟩ := bd2_some h
    refine r_invS0 (As := [(0, a2)]) (pc := 12) hX ml_11_242 (L_T_isRow q_a2 hx4) (Rm_of hRm (by decide) ⟨by decide, by decide⟩) (by decide) rfl (Nat.le_of_ble_eq_true rfl) rfl (dk D_X11_perform 6 rfl) (fun qx4 => ?_)
    refine r_if_ne (pc := 15) hX qx4 21 rfl (dk D_X11_perform 7 rfl) (fun hc => ?_) (fun hc => ?_)
    · rw [if_neg hc] at h
      refine r_aloadn (pc := 21) hX 0 rfl (dk D_X11_perform 10 rfl) ?_
      obtain ⟨x6, hx6, h⟩ := bd_some h
      refine r_getR (pc := 22) hX fl_11_36 rfl hx6 (dk D_X11_perform 11 rfl) ?_
      refine r_iloadn (pc := 25) hX 2 rfl (dk D_X11_perform 12 rfl) ?_
      obtain ⟨x7, hx7, h⟩ := bd_some h
      refine r_aald26 (pc := 26) hX q_a2 hx7 (dk D_X11_perform 13 rfl) ?_
      obtain ⟨x8, hx8, h⟩ := bd_some h
      refine r_getI (pc := 27) hX fl_11_245 rfl rfl hx8 (dk D_X11_perform 14 rfl) (fun qx8 => ?_)
      refine r_if_eq (pc := 30) hX qx8 36 rfl (dk D_X11_perform 15 rfl) (fun hc => ?_) (fun hc => ?_)
      · rw [if_pos hc] at h
        refine r_aloadn (pc := 36) hX 0 rfl (dk D_X11_perform 18 rfl) ?_
        obtain ⟨x9, hx9, h⟩ := bd_some h
        refine r_getR (pc := 37) hX fl_11_36 rfl hx9 (dk D_X11_perform 19 rfl) ?_
        refine r_iloadn (pc := 40) hX 2 rfl (dk D_X11_perform 20 rfl) ?_
        obtain ⟨x10, hx10, h⟩ := bd_some h
        refine r_aald26 (pc := 41) hX q_a2 hx10 (dk D_X11_perform 21 rfl) ?_
        refine r_astoren (lv' := [(3, 2, x10), (0, 2, a0), (1, 0, a1), (2, 0, a2)]) (pc := 42) hX (by decide) rfl (dk D_X11_perform 22 rfl) ?_
        refine r_iconst (pc := 43) hX (dk D_X11_perform 23 rfl) ?_
        refine r_istore (lv' := [(4, 0, 0), (3, 2, x10), (0, 2, a0), (1, 0, a1), (2, 0, a2)]) (pc := 44) hX (by decide) rfl (dk D_X11_perform 24 rfl) ?_
        refine r_sub (lv' := [(0, 2, a0), (1, 0, a1), (3, 2, x10), (4, 0, 0)]) [2, 3, 1, 0] rfl ?_
        refine L_T_perform_L46 hX hM hRm FU a0 a1 x10 0 μ5 q_a1 (R32_lit rfl) h
      · rw [if_neg hc] at h
        refine r_bipush (pc := 33) hX rfl (dk D_X11_perform 16 rfl) ?_
        cases h
        exact r_ireturn (pc := 35) hX (R32_lit rfl) hM ⟨by decide, by decide⟩ (dk D_X11_perform 17 rfl)
    · rw [if_pos hc] at h
      refine r_bipush (pc := 18) hX rfl (dk D_X11_perform 8 rfl) ?_
      cases h
      exact r_ireturn (pc := 20) hX (R32_lit rfl) hM ⟨by decide, by decide⟩ (dk D_X11_perform 9 rfl)
set_option maxRecDepth 100000 in
set_option maxHeartbeats 4000000 in
theorem L_T_treasury {E : EX} {l : Launch} {a0 a1 res : Int} {μ μ' : Mem} (q_a1 : R32 a1) (h : T_treasury a0 a1 μ = some (res, μ')) : Ok E l 3 yX11_treasury (.code yX11_treasury cX11_treasury 2 (some .int)) 0 0 [(2, a0), (0, a1)] μ (some (0, res)) μ' := by
  refine Ok.of (own := "TollsBack") [(0, 2, a0), (1, 0, a1)] (by decide +kernel) rfl (Nat.le_of_ble_eq_true rfl) rfl ?_
  intro X hL hRm hin hX hM
  unfold T_treasury at h
  subst hL
  refine r_iloadn (pc := 0) hX 1 rfl (dk D_X11_treasury 0 rfl) ?_
  by_cases hc0 : a1 = 0
  · rw [if_pos hc0] at h
    refine r_table (pc := 1) hX (by rw [hc0]; exact R32_lit rfl) 28 (dk D_X11_treasury 1 rfl) (by omega) (by omega) (by rw [hc0]; rfl) rfl ?_
    refine r_aloadn (pc := 28) hX 0 rfl (dk D_X11_treasury 2 rfl) ?_
    obtain ⟨x1, hx1, h⟩ := bd_some h
    refine r_getR (pc := 29) hX fl_11_26 rfl hx1 (dk D_X11_treasury 3 rfl) ?_
    obtain ⟨x2, hx2, h⟩ := bd_some h
    refine r_getI (pc := 32) hX fl_11_268 rfl rfl hx2 (dk D_X11_treasury 4 rfl) (fun qx2 => ?_)
    cases h
    exact r_ireturn (pc := 35) hX qx2 hM ⟨by decide, by decide⟩ (dk D_X11_treasury 5 rfl)
  · rw [if_neg hc0] at h
    by_cases hc1 : a1 = 1
    · rw [if_pos hc1] at h
      refine r_table (pc := 1) hX (by rw [hc1]; exact R32_lit rfl) 36 (dk D_X11_treasury 1 rfl) (by omega) (by omega) (by rw [hc1]; rfl) rfl ?_
      refine r_aloadn (pc := 36) hX 0 rfl (dk D_X11_treasury 6 rfl) ?_
      obtain ⟨x3, hx3, h⟩ := bd_some h
      refine r_getR (pc := 37) hX fl_11_26 rfl hx3 (dk D_X11_treasury 7 rfl) ?_
      obtain ⟨_, hi, h⟩ := bd_some h
      obtain ⟨x4, μ5, hx4, h⟩ := bd2_some h
      refine r_invV0 (As := []) (pc := 40) hX ml_11_271 (L_Wo_allSlips hx4) (isk_u hi) (Rm_of hRm (by decide) ⟨by decide, by decide⟩) (by decide) rfl (Nat.le_of_ble_eq_true rfl) rfl (dk D_X11_treasury 8 rfl) (fun qx4 => ?_)
      cases h
      exact r_ireturn (pc := 43) hX qx4 hM ⟨by decide, by decide⟩ (dk D_X11_treasury 9 rfl)
    · rw [if_neg hc1] at h
      by_cases hc2 : a1 = 2
      · rw [if_pos hc2] at h
        refine r_table (pc := 1) hX (by rw [hc2]; exact R32_lit rfl) 44 (dk D_X11_treasury 1 rfl) (by omega) (by omega) (by rw [hc2]; rfl) rfl ?_
        refine r_aloadn (pc := 44) hX 0 rfl (dk D_X11_treasury 10 rfl) ?_
        obtain ⟨x6, hx6, h⟩ := bd_some h
        refine r_getR (pc := 45) hX fl_11_26 rfl hx6 (dk D_X11_treasury 11 rfl) ?_
        obtain ⟨_, hi, h⟩ := bd_some h
        obtain ⟨x7, μ8, hx7, h⟩ := bd2_some h
        refine r_invV0 (As := []) (pc := 48) hX ml_11_275 (L_Wo_lateSlips hx7) (isk_u hi) (Rm_of hRm (by decide) ⟨by decide, by decide⟩) (by decide) rfl (Nat.le_of_ble_eq_true rfl) rfl (dk D_X11_treasury 12 rfl) (fun qx7 => ?_)
        cases h
        exact r_ireturn (pc := 51) hX qx7 hM ⟨by decide, by decide⟩ (dk D_X11_treasury 13 rfl)
      · rw [if_neg hc2] at h
        refine r_tableD (pc := 1) hX q_a1 52 (dk D_X11_treasury 1 rfl) (by omega) rfl ?_
        refine r_iconst (pc := 52) hX (dk D_X11_treasury 14 rfl) ?_
        cases h
        exact r_ireturn (pc := 53) hX (R32_lit rfl) hM ⟨by decide, by decide⟩ (dk D_X11_treasury 15 rfl)
set_option maxRecDepth 100000 in
set_option maxHeartbeats 4000000 in
theorem L_T_owes {E : EX} {l : Launch} {a0 a1 res : Int} {μ μ' : Mem} (q_a1 : R32 a1) (h : T_owes a0 a1 μ = some (res, μ')) : Ok E l 4 yX11_owes (.code yX11_owes cX11_owes 2 (some .int)) 0 0 [(2, a0), (0, a1)] μ (some (0, res)) μ' := by
  refine Ok.of (own := "TollsBack") [(0, 2, a0), (1, 0, a1)] (by decide +kernel) rfl (Nat.le_of_ble_eq_true rfl) rfl ?_
  intro X hL hRm hin hX hM
  unfold T_owes at h
  subst hL
  refine r_iloadn (pc := 0) hX 1 rfl (dk D_X11_owes 0 rfl) ?_
  refine r_if_ge (pc := 1) hX q_a1 9 rfl (dk D_X11_owes 1 rfl) (fun hc => ?_) (fun hc => ?_)
  · rw [if_neg hc] at h
    refine r_aloadn (pc := 9) hX 0 rfl (dk D_X11_owes 4 rfl) ?_
    obtain ⟨x1, hx1, h⟩ := bd_some h
    refine r_getR (pc := 10) hX fl_11_26 rfl hx1 (dk D_X11_owes 5 rfl) ?_
    refine r_iloadn (pc := 13) hX 1 rfl (dk D_X11_owes 6 rfl) ?_
    obtain ⟨_, hi, h⟩ := bd_some h
    obtain ⟨x2, μ3, hx2, h⟩ := bd2_some h
    refine r_invV0 (As := [(0, a1)]) (pc := 14) hX ml_11_278 (L_Wo_debtOn q_a1 hx2) (isk_u hi) (Rm_of hRm (by decide) ⟨by decide, by decide⟩) (by decide) rfl (Nat.le_of_ble_eq_true rfl) rfl (dk D_X11_owes 7 rfl) (fun qx2 => ?_)
    cases h
    exact r_ireturn (pc := 17) hX qx2 hM ⟨by decide, by decide⟩ (dk D_X11_owes 8 rfl)
  · rw [if_pos hc] at h
    refine r_bipush (pc := 4) hX rfl (dk D_X11_owes 2 rfl) ?_
    refine r_goto (pc := 6) hX 17 rfl (dk D_X11_owes 3 rfl) ?_
    cases h
    exact r_ireturn (pc := 17) hX (R32_lit rfl) hM ⟨by decide, by decide⟩ (dk D_X11_owes 8 rfl)
set_option maxRecDepth 100000 in
set_option maxHeartbeats 4000000 in
theorem L_T_lapse {E : EX} {l : Launch} {a0 res : Int} {μ μ' : Mem}  (h : T_lapse a0 μ = some (res, μ')) : Ok E l 3 yX11_lapse (.code yX11_lapse cX11_lapse 2 (some .int)) 0 0 [(2, a0)] μ (some (0, res)) μ' := by
  refine Ok.of (own := "TollsBack") [(0, 2, a0)] (by decide +kernel) rfl (Nat.le_of_ble_eq_true rfl) rfl ?_
  intro X hL hRm hin hX hM
  unfold T_lapse at h
  subst hL
  refine r_aloadn (pc := 0) hX 0 rfl (dk D_X11_lapse 0 rfl) ?_
  obtain ⟨x1, hx1, h⟩ := bd_some h
  refine r_getR (pc := 1) hX fl_11_26 rfl hx1 (dk D_X11_lapse 1 rfl) ?_
  obtain ⟨_, hi, h⟩ := bd_some h
  obtain ⟨x2, μ3, hx2, h⟩ := bd2_some h
  refine r_invV0 (As := []) (pc := 4) hX ml_11_281 (L_Wo_firstSlipDay hx2) (isk_u hi) (Rm_of hRm (by decide) ⟨by decide, by decide⟩) (by decide) rfl (Nat.le_of_ble_eq_true rfl) rfl (dk D_X11_lapse 2 rfl) (fun qx2 => ?_)
  refine r_istoren (lv' := [(1, 0, x2), (0, 2, a0)]) (pc := 7) hX (by decide) rfl (dk D_X11_lapse 3 rfl) ?_
  refine r_iloadn (pc := 8) hX 0 rfl (dk D_X11_lapse 4 rfl) ?_
  refine r_iconst (pc := 9) hX (dk D_X11_lapse 5 rfl) ?_
  refine r_icmp_ne (pc := 10) hX qx2 (R32_lit rfl) 17 rfl (dk D_X11_lapse 6 rfl) (fun hc => ?_) (fun hc => ?_)
  · rw [if_neg hc] at h
    refine r_iloadn (pc := 17) hX 0 rfl (dk D_X11_lapse 9 rfl) ?_
    refine r_aloadn (pc := 18) hX 1 rfl (dk D_X11_lapse 10 rfl) ?_
    obtain ⟨x4, hx4, h⟩ := bd_some h
    refine r_getR (pc := 19) hX fl_11_26 rfl hx4 (dk D_X11_lapse 11 rfl) ?_
    obtain ⟨x5, hx5, h⟩ := bd_some h
    refine r_getR (pc := 22) hX fl_11_118 rfl hx5 (dk D_X11_lapse 12 rfl) ?_
    obtain ⟨x6, hx6, h⟩ := bd_some h
    refine r_getI (pc := 25) hX fl_11_284 rfl rfl hx6 (dk D_X11_lapse 13 rfl) (fun qx6 => ?_)
    refine r_iadd (pc := 28) hX (dk D_X11_lapse 14 rfl) ?_
    refine r_iconst (pc := 29) hX (dk D_X11_lapse 15 rfl) ?_
    refine r_iadd (pc := 30) hX (dk D_X11_lapse 16 rfl) ?_
    cases h
    exact r_ireturn (pc := 31) hX (R32_w _) hM ⟨by decide, by decide⟩ (dk D_X11_lapse 17 rfl)
  · rw [if_pos hc] at h
    refine r_iconst (pc := 13) hX (dk D_X11_lapse 7 rfl) ?_
    refine r_goto (pc := 14) hX 31 rfl (dk D_X11_lapse 8 rfl) ?_
    cases h
    exact r_ireturn (pc := 31) hX (R32_lit rfl) hM ⟨by decide, by decide⟩ (dk D_X11_lapse 17 rfl)
set_option maxRecDepth 100000 in
set_option maxHeartbeats 4000000 in
theorem L_T_blocked_L31 {E : EX} {X : CX} {res : Int} {μe : Mem} (hX : Good E X cX11_blocked 4 "TollsBack") (hM : GoodM E X (some .int) (some (0, res)) μe 0 0) (hRm : cR X = rmOf 2 0 0) : ∀ (n : Nat) (v0 v2 v3 : Int) (μ : Mem) (q_v3 : R32 v3) (h : T_blocked_L31 n v0 v2 v3 μ = some (res, μe)), At E X cX11_blocked 4 "TollsBack" (0, 0) 31 [(0, 2, v0), (2, 2, v2), (3, 0, v3)] [] μ := by
  intro n
  induction n with
  | zero =>
    intro v0 v2 v3 μ q_v3 h
    have h : (none : Option (Int × Mem)) = some (res, μe) := h
    cases h
  | succ n ih =>
    intro v0 v2 v3 μ q_v3 h
    rw [T_blocked_L31.eq_2] at h
    refine r_iloadn (pc := 31) hX 2 rfl (dk D_X11_blocked 18 rfl) ?_
    refine r_if_lt (pc := 32) hX q_v3 63 rfl (dk D_X11_blocked 19 rfl) (fun hc => ?_) (fun hc => ?_)
    · rw [if_pos hc] at h
      refine r_iconst (pc := 63) hX (dk D_X11_blocked 36 rfl) ?_
      cases h
      exact r_ireturn (pc := 64) hX (R32_lit rfl) hM ⟨by decide, by decide⟩ (dk D_X11_blocked 37 rfl)
    · rw [if_neg hc] at h
      refine r_aloadn (pc := 35) hX 0 rfl (dk D_X11_blocked 20 rfl) ?_
      obtain ⟨x1, hx1, h⟩ := bd_some h
      refine r_getR (pc := 36) hX fl_11_26 rfl hx1 (dk D_X11_blocked 21 rfl) ?_
      refine r_aloadn (pc := 39) hX 1 rfl (dk D_X11_blocked 22 rfl) ?_
      obtain ⟨x2, hx2, h⟩ := bd_some h
      refine r_getR (pc := 40) hX fl_11_208 rfl hx2 (dk D_X11_blocked 23 rfl) ?_
      refine r_iloadn (pc := 43) hX 2 rfl (dk D_X11_blocked 24 rfl) ?_
      obtain ⟨x3, hx3, h⟩ := bd_some h
      refine r_iald (pc := 44) hX q_v3 hx3 (dk D_X11_blocked 25 rfl) (fun qx3 => ?_)
      refine r_iconst (pc := 45) hX (dk D_X11_blocked 26 rfl) ?_
      refine r_ishr (pc := 46) hX (dk D_X11_blocked 27 rfl) ?_
      obtain ⟨_, hi, h⟩ := bd_some h
      obtain ⟨x4, μ5, hx4, h⟩ := bd2_some h
      refine r_invV0 (As := [(0, (shr32 x3 1))]) (pc := 47) hX ml_11_146 (L_Wo_isOpen (R32_t _) hx4) (isk_u hi) (Rm_of hRm (by decide) ⟨by decide, by decide⟩) (by decide) rfl (Nat.le_of_ble_eq_true rfl) rfl (dk D_X11_blocked 28 rfl) (fun qx4 => ?_)
      refine r_if_ne (pc := 50) hX qx4 57 rfl (dk D_X11_blocked 29 rfl) (fun hc => ?_) (fun hc => ?_)
      · rw [if_neg hc] at h
        refine r_iinc (lv' := [(3, 0, (w32 (v3 + (-1)))), (0, 2, v0), (2, 2, v2)]) (pc := 57) hX 2 rfl (by decide) rfl (dk D_X11_blocked 34 rfl) ?_
        refine r_goto (pc := 60) hX 31 rfl (dk D_X11_blocked 35 rfl) ?_
        refine r_sub (lv' := [(0, 2, v0), (2, 2, v2), (3, 0, (w32 (v3 + (-1))))]) [1, 2, 0] rfl ?_
        exact ih v0 v2 (w32 (v3 + (-1))) μ5 (R32_w _) h
      · rw [if_pos hc] at h
        refine r_iloadn (pc := 53) hX 2 rfl (dk D_X11_blocked 30 rfl) ?_
        refine r_iconst (pc := 54) hX (dk D_X11_blocked 31 rfl) ?_
        refine r_iadd (pc := 55) hX (dk D_X11_blocked 32 rfl) ?_
        cases h
        exact r_ireturn (pc := 56) hX (R32_w _) hM ⟨by decide, by decide⟩ (dk D_X11_blocked 33 rfl)
set_option maxRecDepth 100000 in
set_option maxHeartbeats 4000000 in
theorem L_T_blocked {E : EX} {l : Launch} {a0 a1 res : Int} {μ μ' : Mem} (q_a1 : R32 a1) (h : T_blocked a0 a1 μ = some (res, μ')) : Ok E l 2 yX11_blocked (.code yX11_blocked cX11_blocked 4 (some .int)) 0 0 [(2, a0), (0, a1)] μ (some (0, res)) μ' := by
  refine Ok.of (own := "TollsBack") [(0, 2, a0), (1, 0, a1)] (by decide +kernel) rfl (Nat.le_of_ble_eq_true rfl) rfl ?_
  intro X hL hRm hin hX hM
  unfold T_blocked at h
  subst hL
  refine r_aloadn (pc := 0) hX 0 rfl (dk D_X11_blocked 0 rfl) ?_
  obtain ⟨x1, hx1, h⟩ := bd_some h
  refine r_getR (pc := 1) hX fl_11_26 rfl hx1 (dk D_X11_blocked 1 rfl) ?_
  refine r_iloadn (pc := 4) hX 1 rfl (dk D_X11_blocked 2 rfl) ?_
  obtain ⟨_, hi, h⟩ := bd_some h
  obtain ⟨x2, μ3, hx2, h⟩ := bd2_some h
  refine r_invV0 (As := [(0, a1)]) (pc := 5) hX ml_11_183 (L_Wo_hasTraveller q_a1 hx2) (isk_u hi) (Rm_of hRm (by decide) ⟨by decide, by decide⟩) (by decide) rfl (Nat.le_of_ble_eq_true rfl) rfl (dk D_X11_blocked 3 rfl) (fun qx2 => ?_)
  refine r_if_ne (pc := 8) hX qx2 14 rfl (dk D_X11_blocked 4 rfl) (fun hc => ?_) (fun hc => ?_)
  · rw [if_neg hc] at h
    refine r_aloadn (pc := 14) hX 0 rfl (dk D_X11_blocked 7 rfl) ?_
    obtain ⟨x4, hx4, h⟩ := bd_some h
    refine r_getR (pc := 15) hX fl_11_26 rfl hx4 (dk D_X11_blocked 8 rfl) ?_
    obtain ⟨x5, hx5, h⟩ := bd_some h
    refine r_getR (pc := 18) hX fl_11_186 rfl hx5 (dk D_X11_blocked 9 rfl) ?_
    refine r_iloadn (pc := 21) hX 1 rfl (dk D_X11_blocked 10 rfl) ?_
    obtain ⟨x6, hx6, h⟩ := bd_some h
    refine r_aald24 (pc := 22) hX q_a1 hx6 (dk D_X11_blocked 11 rfl) ?_
    refine r_astoren (lv' := [(2, 2, x6), (0, 2, a0), (1, 0, a1)]) (pc := 23) hX (by decide) rfl (dk D_X11_blocked 12 rfl) ?_
    refine r_aloadn (pc := 24) hX 0 rfl (dk D_X11_blocked 13 rfl) ?_
    obtain ⟨x7, hx7, h⟩ := bd_some h
    refine r_getI (pc := 25) hX fl_11_199 rfl rfl hx7 (dk D_X11_blocked 14 rfl) (fun qx7 => ?_)
    refine r_iconst (pc := 28) hX (dk D_X11_blocked 15 rfl) ?_
    refine r_isub (pc := 29) hX (dk D_X11_blocked 16 rfl) ?_
    obtain ⟨x8, ex8, h⟩ := bd_some h
    replace ex8 := Option.some.inj ex8
    have qx8 : R32 x8 := ex8 ▸ (R32_w _)
    rw [ex8]
    refine r_istoren (lv' := [(3, 0, x8), (2, 2, x6), (0, 2, a0), (1, 0, a1)]) (pc := 30) hX (by decide) rfl (dk D_X11_blocked 17 rfl) ?_
    refine r_sub (lv' := [(0, 2, a0), (2, 2, x6), (3, 0, x8)]) [2, 1, 0] rfl ?_
    refine L_T_blocked_L31 hX hM hRm FU a0 x6 x8 μ3 qx8 h
  · rw [if_pos hc] at h
    refine r_bipush (pc := 11) hX rfl (dk D_X11_blocked 5 rfl) ?_
    cases h
    exact r_ireturn (pc := 13) hX (R32_lit rfl) hM ⟨by decide, by decide⟩ (dk D_X11_blocked 6 rfl)
set_option maxRecDepth 100000 in
set_option maxHeartbeats 4000000 in
theorem L_T_homeward {E : EX} {l : Launch} {a0 a1 a2 res : Int} {μ μ' : Mem} (q_a1 : R32 a1) (q_a2 : R32 a2) (h : T_homeward a0 a1 a2 μ = some (res, μ')) : Ok E l 4 yX11_homeward (.code yX11_homeward cX11_homeward 3 (some .int)) 0 0 [(2, a0), (0, a1), (0, a2)] μ (some (0, res)) μ' := by
  refine Ok.of (own := "TollsBack") [(0, 2, a0), (1, 0, a1), (2, 0, a2)] (by decide +kernel) rfl (Nat.le_of_ble_eq_true rfl) rfl ?_
  intro X hL hRm hin hX hM
  unfold T_homeward at h
  subst hL
  refine r_aloadn (pc := 0) hX 0 rfl (dk D_X11_homeward 0 rfl) ?_
  obtain ⟨x1, hx1, h⟩ := bd_some h
  refine r_getR (pc := 1) hX fl_11_26 rfl hx1 (dk D_X11_homeward 1 rfl) ?_
  refine r_iloadn (pc := 4) hX 1 rfl (dk D_X11_homeward 2 rfl) ?_
  obtain ⟨_, hi, h⟩ := bd_some h
  obtain ⟨x2, μ3, hx2, h⟩ := bd2_some h
  refine r_invV0 (As := [(0, a1)]) (pc := 5) hX ml_11_183 (L_Wo_hasTraveller q_a1 hx2) (isk_u hi) (Rm_of hRm (by decide) ⟨by decide, by decide⟩) (by decide) rfl (Nat.le_of_ble_eq_true rfl) rfl (dk D_X11_homeward 3 rfl) (fun qx2 => ?_)
  refine r_if_eq (pc := 8) hX qx2 20 rfl (dk D_X11_homeward 4 rfl) (fun hc => ?_) (fun hc => ?_)
  · rw [if_pos hc] at h
    refine r_bipush (pc := 20) hX rfl (dk D_X11_homeward 10 rfl) ?_
    cases h
    exact r_ireturn (pc := 22) hX (R32_lit rfl) hM ⟨by decide, by decide⟩ (dk D_X11_homeward 11 rfl)
  · rw [if_neg hc] at h
    refine r_iloadn (pc := 11) hX 2 rfl (dk D_X11_homeward 5 rfl) ?_
    refine r_if_lt (pc := 12) hX q_a2 20 rfl (dk D_X11_homeward 6 rfl) (fun hc => ?_) (fun hc => ?_)
    · rw [if_pos hc] at h
      refine r_bipush (pc := 20) hX rfl (dk D_X11_homeward 10 rfl) ?_
      cases h
      exact r_ireturn (pc := 22) hX (R32_lit rfl) hM ⟨by decide, by decide⟩ (dk D_X11_homeward 11 rfl)
    · rw [if_neg hc] at h
      refine r_iloadn (pc := 15) hX 2 rfl (dk D_X11_homeward 7 rfl) ?_
      refine r_iconst (pc := 16) hX (dk D_X11_homeward 8 rfl) ?_
      refine r_icmp_le (pc := 17) hX q_a2 (R32_lit rfl) 23 rfl (dk D_X11_homeward 9 rfl) (fun hc => ?_) (fun hc => ?_)
      · rw [if_neg hc] at h
        refine r_aloadn (pc := 23) hX 0 rfl (dk D_X11_homeward 12 rfl) ?_
        obtain ⟨x4, hx4, h⟩ := bd_some h
        refine r_getR (pc := 24) hX fl_11_67 rfl hx4 (dk D_X11_homeward 13 rfl) ?_
        refine r_aloadn (pc := 27) hX 0 rfl (dk D_X11_homeward 14 rfl) ?_
        obtain ⟨x5, hx5, h⟩ := bd_some h
        refine r_getR (pc := 28) hX fl_11_26 rfl hx5 (dk D_X11_homeward 15 rfl) ?_
        refine r_aloadn (pc := 31) hX 0 rfl (dk D_X11_homeward 16 rfl) ?_
        obtain ⟨x6, hx6, h⟩ := bd_some h
        refine r_getR (pc := 32) hX fl_11_26 rfl hx6 (dk D_X11_homeward 17 rfl) ?_
        obtain ⟨x7, hx7, h⟩ := bd_some h
        refine r_getR (pc := 35) hX fl_11_186 rfl hx7 (dk D_X11_homeward 18 rfl) ?_
        refine r_iloadn (pc := 38) hX 1 rfl (dk D_X11_homeward 19 rfl) ?_
        obtain ⟨x8, hx8, h⟩ := bd_some h
        refine r_aald24 (pc := 39) hX q_a1 hx8 (dk D_X11_homeward 20 rfl) ?_
        obtain ⟨_, hi, h⟩ := bd_some h
        obtain ⟨x9, μ10, hx9, h⟩ := bd2_some h
        refine r_invV0 (As := [(2, x5), (2, x8)]) (pc := 40) hX ml_11_287 (L_Re_follow hx9) (isk_u hi) (Rm_of hRm (by decide) ⟨by decide, by decide⟩) (by decide) rfl (Nat.le_of_ble_eq_true rfl) rfl (dk D_X11_homeward 21 rfl) (fun qx9 => ?_)
        refine r_if_ne (pc := 43) hX qx9 48 rfl (dk D_X11_homeward 22 rfl) (fun hc => ?_) (fun hc => ?_)
        · rw [if_neg hc] at h
          refine r_iloadn (pc := 48) hX 2 rfl (dk D_X11_homeward 25 rfl) ?_
          by_cases hc0 : a2 = 0
          · rw [if_pos hc0] at h
            refine r_lookup (off := 27) (pc := 49) hX q_a2 76 (dk D_X11_homeward 26 rfl) rfl (by rw [hc0] <;> rfl) rfl ?_
            refine r_aloadn (pc := 76) hX 0 rfl (dk D_X11_homeward 27 rfl) ?_
            obtain ⟨x11, hx11, h⟩ := bd_some h
            refine r_getR (pc := 77) hX fl_11_67 rfl hx11 (dk D_X11_homeward 28 rfl) ?_
            obtain ⟨x12, hx12, h⟩ := bd_some h
            refine r_getI (pc := 80) hX fl_11_290 rfl rfl hx12 (dk D_X11_homeward 29 rfl) (fun qx12 => ?_)
            cases h
            exact r_ireturn (pc := 83) hX qx12 hM ⟨by decide, by decide⟩ (dk D_X11_homeward 30 rfl)
          · rw [if_neg hc0] at h
            by_cases hc1 : a2 = 1
            · rw [if_pos hc1] at h
              refine r_lookup (off := 35) (pc := 49) hX q_a2 84 (dk D_X11_homeward 26 rfl) rfl (by rw [hc1] <;> rfl) rfl ?_
              refine r_aloadn (pc := 84) hX 0 rfl (dk D_X11_homeward 31 rfl) ?_
              obtain ⟨x13, hx13, h⟩ := bd_some h
              refine r_getR (pc := 85) hX fl_11_67 rfl hx13 (dk D_X11_homeward 32 rfl) ?_
              obtain ⟨x14, hx14, h⟩ := bd_some h
              refine r_getI (pc := 88) hX fl_11_293 rfl rfl hx14 (dk D_X11_homeward 33 rfl) (fun qx14 => ?_)
              cases h
              exact r_ireturn (pc := 91) hX qx14 hM ⟨by decide, by decide⟩ (dk D_X11_homeward 34 rfl)
            · rw [if_neg hc1] at h
              refine r_lookup (off := 43) (pc := 49) hX q_a2 92 (dk D_X11_homeward 26 rfl) rfl (by simp [Op.lookupswitch.offset, hc0, Ne.symm hc0, hc1, Ne.symm hc1]) rfl ?_
              refine r_aloadn (pc := 92) hX 0 rfl (dk D_X11_homeward 35 rfl) ?_
              obtain ⟨x15, hx15, h⟩ := bd_some h
              refine r_getR (pc := 93) hX fl_11_67 rfl hx15 (dk D_X11_homeward 36 rfl) ?_
              obtain ⟨x16, hx16, h⟩ := bd_some h
              refine r_getI (pc := 96) hX fl_11_295 rfl rfl hx16 (dk D_X11_homeward 37 rfl) (fun qx16 => ?_)
              cases h
              exact r_ireturn (pc := 99) hX qx16 hM ⟨by decide, by decide⟩ (dk D_X11_homeward 38 rfl)
        · rw [if_pos hc] at h
          refine r_iconst (pc := 46) hX (dk D_X11_homeward 23 rfl) ?_
          cases h
          exact r_ireturn (pc := 47) hX (R32_lit rfl) hM ⟨by decide, by decide⟩ (dk D_X11_homeward 24 rfl)
      · rw [if_pos hc] at h
        refine r_bipush (pc := 20) hX rfl (dk D_X11_homeward 10 rfl) ?_
        cases h
        exact r_ireturn (pc := 22) hX (R32_lit rfl) hM ⟨by decide, by decide⟩ (dk D_X11_homeward 11 rfl)
set_option maxRecDepth 100000 in
set_option maxHeartbeats 4000000 in
theorem L_T_safe {E : EX} {l : Launch} {a0 a1 res : Int} {μ μ' : Mem} (q_a1 : R32 a1) (h : T_safe a0 a1 μ = some (res, μ')) : Ok E l 4 yX11_safe (.code yX11_safe cX11_safe 3 (some .int)) 0 0 [(2, a0), (0, a1)] μ (some (0, res)) μ' := by
  refine Ok.of (own := "TollsBack") [(0, 2, a0), (1, 0, a1)] (by decide +kernel) rfl (Nat.le_of_ble_eq_true rfl) rfl ?_
  intro X hL hRm hin hX hM
  unfold T_safe at h
  subst hL
  refine r_aloadn (pc := 0) hX 0 rfl (dk D_X11_safe 0 rfl) ?_
  obtain ⟨x1, hx1, h⟩ := bd_some h
  refine r_getR (pc := 1) hX fl_11_26 rfl hx1 (dk D_X11_safe 1 rfl) ?_
  refine r_iloadn (pc := 4) hX 1 rfl (dk D_X11_safe 2 rfl) ?_
  obtain ⟨_, hi, h⟩ := bd_some h
  obtain ⟨x2, μ3, hx2, h⟩ := bd2_some h
  refine r_invV0 (As := [(0, a1)]) (pc := 5) hX ml_11_183 (L_Wo_hasTraveller q_a1 hx2) (isk_u hi) (Rm_of hRm (by decide) ⟨by decide, by decide⟩) (by decide) rfl (Nat.le_of_ble_eq_true rfl) rfl (dk D_X11_safe 3 rfl) (fun qx2 => ?_)
  refine r_if_ne (pc := 8) hX qx2 14 rfl (dk D_X11_safe 4 rfl) (fun hc => ?_) (fun hc => ?_)
  · rw [if_neg hc] at h
    refine r_aloadn (pc := 14) hX 0 rfl (dk D_X11_safe 7 rfl) ?_
    obtain ⟨x4, hx4, h⟩ := bd_some h
    refine r_getR (pc := 15) hX fl_11_26 rfl hx4 (dk D_X11_safe 8 rfl) ?_
    obtain ⟨x5, hx5, h⟩ := bd_some h
    refine r_getR (pc := 18) hX fl_11_186 rfl hx5 (dk D_X11_safe 9 rfl) ?_
    refine r_iloadn (pc := 21) hX 1 rfl (dk D_X11_safe 10 rfl) ?_
    obtain ⟨x6, hx6, h⟩ := bd_some h
    refine r_aald24 (pc := 22) hX q_a1 hx6 (dk D_X11_safe 11 rfl) ?_
    refine r_astoren (lv' := [(2, 2, x6), (0, 2, a0), (1, 0, a1)]) (pc := 23) hX (by decide) rfl (dk D_X11_safe 12 rfl) ?_
    refine r_aloadn (pc := 24) hX 0 rfl (dk D_X11_safe 13 rfl) ?_
    obtain ⟨x7, hx7, h⟩ := bd_some h
    refine r_getI (pc := 25) hX fl_11_199 rfl rfl hx7 (dk D_X11_safe 14 rfl) (fun qx7 => ?_)
    refine r_if_eq (pc := 28) hX qx7 60 rfl (dk D_X11_safe 15 rfl) (fun hc => ?_) (fun hc => ?_)
    · rw [if_pos hc] at h
      refine r_iconst (pc := 60) hX (dk D_X11_safe 29 rfl) ?_
      cases h
      exact r_ireturn (pc := 61) hX (R32_lit rfl) hM ⟨by decide, by decide⟩ (dk D_X11_safe 30 rfl)
    · rw [if_neg hc] at h
      refine r_aloadn (pc := 31) hX 1 rfl (dk D_X11_safe 16 rfl) ?_
      obtain ⟨x8, hx8, h⟩ := bd_some h
      refine r_getR (pc := 32) hX fl_11_67 rfl hx8 (dk D_X11_safe 17 rfl) ?_
      refine r_aloadn (pc := 35) hX 1 rfl (dk D_X11_safe 18 rfl) ?_
      obtain ⟨x9, hx9, h⟩ := bd_some h
      refine r_getR (pc := 36) hX fl_11_26 rfl hx9 (dk D_X11_safe 19 rfl) ?_
      refine r_aloadn (pc := 39) hX 0 rfl (dk D_X11_safe 20 rfl) ?_
      obtain ⟨_, hi, h⟩ := bd_some h
      obtain ⟨x10, μ11, hx10, h⟩ := bd2_some h
      refine r_invV0 (As := [(2, x9), (2, x6)]) (pc := 40) hX ml_11_287 (L_Re_follow hx10) (isk_u hi) (Rm_of hRm (by decide) ⟨by decide, by decide⟩) (by decide) rfl (Nat.le_of_ble_eq_true rfl) rfl (dk D_X11_safe 21 rfl) (fun qx10 => ?_)
      refine r_if_eq (pc := 43) hX qx10 60 rfl (dk D_X11_safe 22 rfl) (fun hc => ?_) (fun hc => ?_)
      · rw [if_pos hc] at h
        refine r_iconst (pc := 60) hX (dk D_X11_safe 29 rfl) ?_
        cases h
        exact r_ireturn (pc := 61) hX (R32_lit rfl) hM ⟨by decide, by decide⟩ (dk D_X11_safe 30 rfl)
      · rw [if_neg hc] at h
        refine r_aloadn (pc := 46) hX 0 rfl (dk D_X11_safe 23 rfl) ?_
        obtain ⟨x12, hx12, h⟩ := bd_some h
        refine r_getI (pc := 47) hX fl_11_193 rfl rfl hx12 (dk D_X11_safe 24 rfl) (fun qx12 => ?_)
        refine r_aloadn (pc := 50) hX 1 rfl (dk D_X11_safe 25 rfl) ?_
        obtain ⟨x13, hx13, h⟩ := bd_some h
        refine r_getR (pc := 51) hX fl_11_67 rfl hx13 (dk D_X11_safe 26 rfl) ?_
        obtain ⟨x14, hx14, h⟩ := bd_some h
        refine r_getI (pc := 54) hX fl_11_298 rfl rfl hx14 (dk D_X11_safe 27 rfl) (fun qx14 => ?_)
        refine r_icmp_le (pc := 57) hX qx12 qx14 62 rfl (dk D_X11_safe 28 rfl) (fun hc => ?_) (fun hc => ?_)
        · rw [if_neg hc] at h
          refine r_aloadn (pc := 62) hX 1 rfl (dk D_X11_safe 31 rfl) ?_
          obtain ⟨x15, hx15, h⟩ := bd_some h
          refine r_getR (pc := 63) hX fl_11_67 rfl hx15 (dk D_X11_safe 32 rfl) ?_
          obtain ⟨x16, hx16, h⟩ := bd_some h
          refine r_getI (pc := 66) hX fl_11_298 rfl rfl hx16 (dk D_X11_safe 33 rfl) (fun qx16 => ?_)
          cases h
          exact r_ireturn (pc := 69) hX qx16 hM ⟨by decide, by decide⟩ (dk D_X11_safe 34 rfl)
        · rw [if_pos hc] at h
          refine r_iconst (pc := 60) hX (dk D_X11_safe 29 rfl) ?_
          cases h
          exact r_ireturn (pc := 61) hX (R32_lit rfl) hM ⟨by decide, by decide⟩ (dk D_X11_safe 30 rfl)
  · rw [if_pos hc] at h
    refine r_bipush (pc := 11) hX rfl (dk D_X11_safe 5 rfl) ?_
    cases h
    exact r_ireturn (pc := 13) hX (R32_lit rfl) hM ⟨by decide, by decide⟩ (dk D_X11_safe 6 rfl)
set_option maxRecDepth 100000 in
set_option maxHeartbeats 4000000 in
theorem L_T_needs {E : EX} {l : Launch} {a0 a1 a2 res : Int} {μ μ' : Mem} (q_a1 : R32 a1) (q_a2 : R32 a2) (h : T_needs a0 a1 a2 μ = some (res, μ')) : Ok E l 7 yX11_needs (.code yX11_needs cX11_needs 3 (some .int)) 0 0 [(2, a0), (0, a1), (0, a2)] μ (some (0, res)) μ' := by
  refine Ok.of (own := "TollsBack") [(0, 2, a0), (1, 0, a1), (2, 0, a2)] (by decide +kernel) rfl (Nat.le_of_ble_eq_true rfl) rfl ?_
  intro X hL hRm hin hX hM
  unfold T_needs at h
  subst hL
  refine r_aloadn (pc := 0) hX 0 rfl (dk D_X11_needs 0 rfl) ?_
  obtain ⟨x1, hx1, h⟩ := bd_some h
  refine r_getR (pc := 1) hX fl_11_26 rfl hx1 (dk D_X11_needs 1 rfl) ?_
  refine r_iloadn (pc := 4) hX 1 rfl (dk D_X11_needs 2 rfl) ?_
  obtain ⟨_, hi, h⟩ := bd_some h
  obtain ⟨x2, μ3, hx2, h⟩ := bd2_some h
  refine r_invV0 (As := [(0, a1)]) (pc := 5) hX ml_11_183 (L_Wo_hasTraveller q_a1 hx2) (isk_u hi) (Rm_of hRm (by decide) ⟨by decide, by decide⟩) (by decide) rfl (Nat.le_of_ble_eq_true rfl) rfl (dk D_X11_needs 3 rfl) (fun qx2 => ?_)
  refine r_if_eq (pc := 8) hX qx2 18 rfl (dk D_X11_needs 4 rfl) (fun hc => ?_) (fun hc => ?_)
  · rw [if_pos hc] at h
    refine r_bipush (pc := 18) hX rfl (dk D_X11_needs 8 rfl) ?_
    cases h
    exact r_ireturn (pc := 20) hX (R32_lit rfl) hM ⟨by decide, by decide⟩ (dk D_X11_needs 9 rfl)
  · rw [if_neg hc] at h
    refine r_iloadn (pc := 11) hX 2 rfl (dk D_X11_needs 5 rfl) ?_
    obtain ⟨x4, μ5, hx4, h⟩ := bd2_some h
    refine r_invS0 (As := [(0, a2)]) (pc := 12) hX ml_11_242 (L_T_isRow q_a2 hx4) (Rm_of hRm (by decide) ⟨by decide, by decide⟩) (by decide) rfl (Nat.le_of_ble_eq_true rfl) rfl (dk D_X11_needs 6 rfl) (fun qx4 => ?_)
    refine r_if_ne (pc := 15) hX qx4 21 rfl (dk D_X11_needs 7 rfl) (fun hc => ?_) (fun hc => ?_)
    · rw [if_neg hc] at h
      refine r_aloadn (pc := 21) hX 0 rfl (dk D_X11_needs 10 rfl) ?_
      obtain ⟨x6, hx6, h⟩ := bd_some h
      refine r_getR (pc := 22) hX fl_11_36 rfl hx6 (dk D_X11_needs 11 rfl) ?_
      refine r_iloadn (pc := 25) hX 2 rfl (dk D_X11_needs 12 rfl) ?_
      obtain ⟨x7, hx7, h⟩ := bd_some h
      refine r_aald26 (pc := 26) hX q_a2 hx7 (dk D_X11_needs 13 rfl) ?_
      obtain ⟨x8, hx8, h⟩ := bd_some h
      refine r_getI (pc := 27) hX fl_11_245 rfl rfl hx8 (dk D_X11_needs 14 rfl) (fun qx8 => ?_)
      refine r_if_eq (pc := 30) hX qx8 36 rfl (dk D_X11_needs 15 rfl) (fun hc => ?_) (fun hc => ?_)
      · rw [if_pos hc] at h
        refine r_aloadn (pc := 36) hX 0 rfl (dk D_X11_needs 18 rfl) ?_
        obtain ⟨x9, hx9, h⟩ := bd_some h
        refine r_getR (pc := 37) hX fl_11_57 rfl hx9 (dk D_X11_needs 19 rfl) ?_
        refine r_aloadn (pc := 40) hX 0 rfl (dk D_X11_needs 20 rfl) ?_
        obtain ⟨x10, hx10, h⟩ := bd_some h
        refine r_getR (pc := 41) hX fl_11_26 rfl hx10 (dk D_X11_needs 21 rfl) ?_
        refine r_aloadn (pc := 44) hX 0 rfl (dk D_X11_needs 22 rfl) ?_
        obtain ⟨x11, hx11, h⟩ := bd_some h
        refine r_getR (pc := 45) hX fl_11_26 rfl hx11 (dk D_X11_needs 23 rfl) ?_
        obtain ⟨x12, hx12, h⟩ := bd_some h
        refine r_getR (pc := 48) hX fl_11_186 rfl hx12 (dk D_X11_needs 24 rfl) ?_
        refine r_iloadn (pc := 51) hX 1 rfl (dk D_X11_needs 25 rfl) ?_
        obtain ⟨x13, hx13, h⟩ := bd_some h
        refine r_aald24 (pc := 52) hX q_a1 hx13 (dk D_X11_needs 26 rfl) ?_
        refine r_aloadn (pc := 53) hX 0 rfl (dk D_X11_needs 27 rfl) ?_
        obtain ⟨x14, hx14, h⟩ := bd_some h
        refine r_getR (pc := 54) hX fl_11_36 rfl hx14 (dk D_X11_needs 28 rfl) ?_
        refine r_iloadn (pc := 57) hX 2 rfl (dk D_X11_needs 29 rfl) ?_
        obtain ⟨x15, hx15, h⟩ := bd_some h
        refine r_aald26 (pc := 58) hX q_a2 hx15 (dk D_X11_needs 30 rfl) ?_
        refine r_ldcw (pc := 59) hX cn_11_301 (dk D_X11_needs 31 rfl) ?_
        obtain ⟨_, hi, h⟩ := bd_some h
        obtain ⟨x16, μ17, hx16, h⟩ := bd2_some h
        refine r_invV0 (As := [(2, x10), (2, x13), (2, x15), (0, 1000000000)]) (pc := 62) hX ml_11_249 (L_Tp_follow (R32_lit rfl) hx16) (isk_u hi) (Rm_of hRm (by decide) ⟨by decide, by decide⟩) (by decide) rfl (Nat.le_of_ble_eq_true rfl) rfl (dk D_X11_needs 32 rfl) (fun _ => ?_)
        refine r_aloadn (pc := 65) hX 0 rfl (dk D_X11_needs 33 rfl) ?_
        obtain ⟨x18, hx18, h⟩ := bd_some h
        refine r_getR (pc := 66) hX fl_11_57 rfl hx18 (dk D_X11_needs 34 rfl) ?_
        obtain ⟨x19, hx19, h⟩ := bd_some h
        refine r_getI (pc := 69) hX fl_11_253 rfl rfl hx19 (dk D_X11_needs 35 rfl) (fun qx19 => ?_)
        refine r_if_ne (pc := 72) hX qx19 89 rfl (dk D_X11_needs 36 rfl) (fun hc => ?_) (fun hc => ?_)
        · rw [if_neg hc] at h
          refine r_iconst (pc := 89) hX (dk D_X11_needs 43 rfl) ?_
          cases h
          exact r_ireturn (pc := 90) hX (R32_lit rfl) hM ⟨by decide, by decide⟩ (dk D_X11_needs 44 rfl)
        · rw [if_pos hc] at h
          refine r_ldcw (pc := 75) hX cn_11_301 (dk D_X11_needs 37 rfl) ?_
          refine r_aloadn (pc := 78) hX 0 rfl (dk D_X11_needs 38 rfl) ?_
          obtain ⟨x20, hx20, h⟩ := bd_some h
          refine r_getR (pc := 79) hX fl_11_57 rfl hx20 (dk D_X11_needs 39 rfl) ?_
          obtain ⟨x21, hx21, h⟩ := bd_some h
          refine r_getI (pc := 82) hX fl_11_302 rfl rfl hx21 (dk D_X11_needs 40 rfl) (fun qx21 => ?_)
          refine r_isub (pc := 85) hX (dk D_X11_needs 41 rfl) ?_
          refine r_goto (pc := 86) hX 90 rfl (dk D_X11_needs 42 rfl) ?_
          cases h
          exact r_ireturn (pc := 90) hX (R32_w _) hM ⟨by decide, by decide⟩ (dk D_X11_needs 44 rfl)
      · rw [if_neg hc] at h
        refine r_bipush (pc := 33) hX rfl (dk D_X11_needs 16 rfl) ?_
        cases h
        exact r_ireturn (pc := 35) hX (R32_lit rfl) hM ⟨by decide, by decide⟩ (dk D_X11_needs 17 rfl)
    · rw [if_pos hc] at h
      refine r_bipush (pc := 18) hX rfl (dk D_X11_needs 8 rfl) ?_
      cases h
      exact r_ireturn (pc := 20) hX (R32_lit rfl) hM ⟨by decide, by decide⟩ (dk D_X11_needs 9 rfl)
set_option maxRecDepth 100000 in
set_option maxHeartbeats 4000000 in
theorem L_T_lessBy {E : EX} {l : Launch} {a0 a1 res : Int} {μ μ' : Mem} (q_a0 : R32 a0) (q_a1 : R32 a1) (h : T_lessBy a0 a1 μ = some (res, μ')) : Ok E l 1 yX11_lessBy (.code yX11_lessBy cX11_lessBy 2 (some .int)) 0 0 [(0, a0), (0, a1)] μ (some (0, res)) μ' := by
  refine Ok.of (own := "TollsBack") [(0, 0, a0), (1, 0, a1)] (by decide +kernel) rfl (Nat.le_of_ble_eq_true rfl) rfl ?_
  intro X hL hRm hin hX hM
  unfold T_lessBy at h
  subst hL
  refine r_iloadn (pc := 0) hX 0 rfl (dk D_X11_lessBy 0 rfl) ?_
  refine r_ldcw (pc := 1) hX cn_11_315 (dk D_X11_lessBy 1 rfl) ?_
  refine r_icmp_eq (pc := 4) hX q_a0 (R32_lit rfl) 14 rfl (dk D_X11_lessBy 2 rfl) (fun hc => ?_) (fun hc => ?_)
  · rw [if_pos hc] at h
    refine r_ldcw (pc := 14) hX cn_11_315 (dk D_X11_lessBy 6 rfl) ?_
    refine r_goto (pc := 17) hX 23 rfl (dk D_X11_lessBy 7 rfl) ?_
    cases h
    exact r_ireturn (pc := 23) hX (R32_lit rfl) hM ⟨by decide, by decide⟩ (dk D_X11_lessBy 11 rfl)
  · rw [if_neg hc] at h
    refine r_iloadn (pc := 7) hX 1 rfl (dk D_X11_lessBy 3 rfl) ?_
    refine r_ldcw (pc := 8) hX cn_11_315 (dk D_X11_lessBy 4 rfl) ?_
    refine r_icmp_ne (pc := 11) hX q_a1 (R32_lit rfl) 20 rfl (dk D_X11_lessBy 5 rfl) (fun hc => ?_) (fun hc => ?_)
    · rw [if_neg hc] at h
      refine r_iloadn (pc := 20) hX 0 rfl (dk D_X11_lessBy 8 rfl) ?_
      refine r_iloadn (pc := 21) hX 1 rfl (dk D_X11_lessBy 9 rfl) ?_
      refine r_isub (pc := 22) hX (dk D_X11_lessBy 10 rfl) ?_
      cases h
      exact r_ireturn (pc := 23) hX (R32_w _) hM ⟨by decide, by decide⟩ (dk D_X11_lessBy 11 rfl)
    · rw [if_pos hc] at h
      refine r_ldcw (pc := 14) hX cn_11_315 (dk D_X11_lessBy 6 rfl) ?_
      refine r_goto (pc := 17) hX 23 rfl (dk D_X11_lessBy 7 rfl) ?_
      cases h
      exact r_ireturn (pc := 23) hX (R32_lit rfl) hM ⟨by decide, by decide⟩ (dk D_X11_lessBy 11 rfl)
set_option maxRecDepth 100000 in
set_option maxHeartbeats 4000000 in
theorem L_T_gainOf {E : EX} {l : Launch} {a0 a1 a2 res : Int} {μ μ' : Mem} (q_a1 : R32 a1) (q_a2 : R32 a2) (h : T_gainOf a0 a1 a2 μ = some (res, μ')) : Ok E l 5 yX11_gainOf (.code yX11_gainOf cX11_gainOf 4 (some .int)) 0 0 [(2, a0), (0, a1), (0, a2)] μ (some (0, res)) μ' := by
  refine Ok.of (own := "TollsBack") [(0, 2, a0), (1, 0, a1), (2, 0, a2)] (by decide +kernel) rfl (Nat.le_of_ble_eq_true rfl) rfl ?_
  intro X hL hRm hin hX hM
  unfold T_gainOf at h
  subst hL
  refine r_aloadn (pc := 0) hX 0 rfl (dk D_X11_gainOf 0 rfl) ?_
  obtain ⟨x1, hx1, h⟩ := bd_some h
  refine r_getR (pc := 1) hX fl_11_26 rfl hx1 (dk D_X11_gainOf 1 rfl) ?_
  obtain ⟨x2, hx2, h⟩ := bd_some h
  refine r_getR (pc := 4) hX fl_11_186 rfl hx2 (dk D_X11_gainOf 2 rfl) ?_
  refine r_iloadn (pc := 7) hX 1 rfl (dk D_X11_gainOf 3 rfl) ?_
  obtain ⟨x3, hx3, h⟩ := bd_some h
  refine r_aald24 (pc := 8) hX q_a1 hx3 (dk D_X11_gainOf 4 rfl) ?_
  refine r_astoren (lv' := [(3, 2, x3), (0, 2, a0), (1, 0, a1), (2, 0, a2)]) (pc := 9) hX (by decide) rfl (dk D_X11_gainOf 5 rfl) ?_
  refine r_aloadn (pc := 10) hX 1 rfl (dk D_X11_gainOf 6 rfl) ?_
  obtain ⟨x4, hx4, h⟩ := bd_some h
  refine r_getR (pc := 11) hX fl_11_74 rfl hx4 (dk D_X11_gainOf 7 rfl) ?_
  refine r_aloadn (pc := 14) hX 1 rfl (dk D_X11_gainOf 8 rfl) ?_
  obtain ⟨x5, hx5, h⟩ := bd_some h
  refine r_getR (pc := 15) hX fl_11_26 rfl hx5 (dk D_X11_gainOf 9 rfl) ?_
  refine r_aloadn (pc := 18) hX 0 rfl (dk D_X11_gainOf 10 rfl) ?_
  refine r_aloadn (pc := 19) hX 0 rfl (dk D_X11_gainOf 11 rfl) ?_
  obtain ⟨_, hi, h⟩ := bd_some h
  obtain ⟨x6, μ7, hx6, h⟩ := bd2_some h
  refine r_invV0 (As := [(2, x5), (2, x3), (2, x3)]) (pc := 20) hX ml_11_308 (L_Wy_homeCost hx6) (isk_u hi) (Rm_of hRm (by decide) ⟨by decide, by decide⟩) (by decide) rfl (Nat.le_of_ble_eq_true rfl) rfl (dk D_X11_gainOf 12 rfl) (fun qx6 => ?_)
  refine r_aloadn (pc := 23) hX 1 rfl (dk D_X11_gainOf 13 rfl) ?_
  obtain ⟨x8, hx8, h⟩ := bd_some h
  refine r_getR (pc := 24) hX fl_11_74 rfl hx8 (dk D_X11_gainOf 14 rfl) ?_
  refine r_aloadn (pc := 27) hX 1 rfl (dk D_X11_gainOf 15 rfl) ?_
  obtain ⟨x9, hx9, h⟩ := bd_some h
  refine r_getR (pc := 28) hX fl_11_26 rfl hx9 (dk D_X11_gainOf 16 rfl) ?_
  refine r_aloadn (pc := 31) hX 0 rfl (dk D_X11_gainOf 17 rfl) ?_
  refine r_aloadn (pc := 32) hX 1 rfl (dk D_X11_gainOf 18 rfl) ?_
  obtain ⟨x10, hx10, h⟩ := bd_some h
  refine r_getR (pc := 33) hX fl_11_26 rfl hx10 (dk D_X11_gainOf 19 rfl) ?_
  obtain ⟨x11, hx11, h⟩ := bd_some h
  refine r_getR (pc := 36) hX fl_11_186 rfl hx11 (dk D_X11_gainOf 20 rfl) ?_
  refine r_iloadn (pc := 39) hX 3 rfl (dk D_X11_gainOf 21 rfl) ?_
  obtain ⟨x12, hx12, h⟩ := bd_some h
  refine r_aald24 (pc := 40) hX q_a2 hx12 (dk D_X11_gainOf 22 rfl) ?_
  obtain ⟨_, hi, h⟩ := bd_some h
  obtain ⟨x13, μ14, hx13, h⟩ := bd2_some h
  refine r_invV0 (As := [(2, x9), (2, x3), (2, x12)]) (pc := 41) hX ml_11_308 (L_Wy_homeCost hx13) (isk_u hi) (Rm_of hRm (by decide) ⟨by decide, by decide⟩) (by decide) rfl (Nat.le_of_ble_eq_true rfl) rfl (dk D_X11_gainOf 23 rfl) (fun qx13 => ?_)
  obtain ⟨x15, μ16, hx15, h⟩ := bd2_some h
  refine r_invS0 (As := [(0, x6), (0, x13)]) (pc := 44) hX ml_11_312 (L_T_lessBy qx6 qx13 hx15) (Rm_of hRm (by decide) ⟨by decide, by decide⟩) (by decide) rfl (Nat.le_of_ble_eq_true rfl) rfl (dk D_X11_gainOf 24 rfl) (fun qx15 => ?_)
  cases h
  exact r_ireturn (pc := 47) hX qx15 hM ⟨by decide, by decide⟩ (dk D_X11_gainOf 25 rfl)
set_option maxRecDepth 100000 in
set_option maxHeartbeats 4000000 in
theorem L_T_partner_L21 {E : EX} {X : CX} {res : Int} {μe : Mem} (hX : Good E X cX11_partner 7 "TollsBack") (hM : GoodM E X (some .int) (some (0, res)) μe 0 0) (hRm : cR X = rmOf 6 0 0) : ∀ (n : Nat) (v0 v1 v2 v3 v4 : Int) (μ : Mem) (q_v1 : R32 v1) (q_v2 : R32 v2) (q_v3 : R32 v3) (q_v4 : R32 v4) (h : T_partner_L21 n v0 v1 v2 v3 v4 μ = some (res, μe)), At E X cX11_partner 7 "TollsBack" (0, 0) 21 [(0, 2, v0), (1, 0, v1), (2, 0, v2), (3, 0, v3), (4, 0, v4)] [] μ := by
  intro n
  induction n with
  | zero =>
    intro v0 v1 v2 v3 v4 μ q_v1 q_v2 q_v3 q_v4 h
    have h : (none : Option (Int × Mem)) = some (res, μe) := h
    cases h
  | succ n ih =>
    intro v0 v1 v2 v3 v4 μ q_v1 q_v2 q_v3 q_v4 h
    rw [T_partner_L21.eq_2] at h
    refine r_iload (pc := 21) hX 4 rfl (dk D_X11_partner 13 rfl) ?_
    refine r_aloadn (pc := 23) hX 0 rfl (dk D_X11_partner 14 rfl) ?_
    obtain ⟨x1, hx1, h⟩ := bd_some h
    refine r_getR (pc := 24) hX fl_11_26 rfl hx1 (dk D_X11_partner 15 rfl) ?_
    obtain ⟨x2, hx2, h⟩ := bd_some h
    refine r_getI (pc := 27) hX fl_11_173 rfl rfl hx2 (dk D_X11_partner 16 rfl) (fun qx2 => ?_)
    refine r_icmp_ge (pc := 30) hX q_v4 qx2 122 rfl (dk D_X11_partner 17 rfl) (fun hc => ?_) (fun hc => ?_)
    · rw [if_neg hc] at h
      refine r_iloadn (pc := 122) hX 2 rfl (dk D_X11_partner 62 rfl) ?_
      cases h
      exact r_ireturn (pc := 123) hX q_v2 hM ⟨by decide, by decide⟩ (dk D_X11_partner 63 rfl)
    · rw [if_pos hc] at h
      refine r_iload (pc := 33) hX 4 rfl (dk D_X11_partner 18 rfl) ?_
      refine r_iloadn (pc := 35) hX 1 rfl (dk D_X11_partner 19 rfl) ?_
      refine r_icmp_eq (pc := 36) hX q_v4 q_v1 116 rfl (dk D_X11_partner 20 rfl) (fun hc => ?_) (fun hc => ?_)
      · rw [if_pos hc] at h
        refine r_iinc (lv' := [(4, 0, (w32 (v4 + 1))), (0, 2, v0), (1, 0, v1), (2, 0, v2), (3, 0, v3)]) (pc := 116) hX 4 rfl (by decide) rfl (dk D_X11_partner 60 rfl) ?_
        refine r_goto (pc := 119) hX 21 rfl (dk D_X11_partner 61 rfl) ?_
        refine r_sub (lv' := [(0, 2, v0), (1, 0, v1), (2, 0, v2), (3, 0, v3), (4, 0, (w32 (v4 + 1)))]) [1, 2, 3, 4, 0] rfl ?_
        exact ih v0 v1 v2 v3 (w32 (v4 + 1)) μ q_v1 q_v2 q_v3 (R32_w _) h
      · rw [if_neg hc] at h
        refine r_aloadn (pc := 39) hX 0 rfl (dk D_X11_partner 21 rfl) ?_
        obtain ⟨x3, hx3, h⟩ := bd_some h
        refine r_getR (pc := 40) hX fl_11_26 rfl hx3 (dk D_X11_partner 22 rfl) ?_
        obtain ⟨x4, hx4, h⟩ := bd_some h
        refine r_getR (pc := 43) hX fl_11_186 rfl hx4 (dk D_X11_partner 23 rfl) ?_
        refine r_iload (pc := 46) hX 4 rfl (dk D_X11_partner 24 rfl) ?_
        obtain ⟨x5, hx5, h⟩ := bd_some h
        refine r_aald24 (pc := 48) hX q_v4 hx5 (dk D_X11_partner 25 rfl) ?_
        obtain ⟨x6, hx6, h⟩ := bd_some h
        refine r_getI (pc := 49) hX fl_11_190 rfl rfl hx6 (dk D_X11_partner 26 rfl) (fun qx6 => ?_)
        refine r_aloadn (pc := 52) hX 0 rfl (dk D_X11_partner 27 rfl) ?_
        obtain ⟨x7, hx7, h⟩ := bd_some h
        refine r_getR (pc := 53) hX fl_11_26 rfl hx7 (dk D_X11_partner 28 rfl) ?_
        obtain ⟨x8, hx8, h⟩ := bd_some h
        refine r_getR (pc := 56) hX fl_11_186 rfl hx8 (dk D_X11_partner 29 rfl) ?_
        refine r_iloadn (pc := 59) hX 1 rfl (dk D_X11_partner 30 rfl) ?_
        obtain ⟨x9, hx9, h⟩ := bd_some h
        refine r_aald24 (pc := 60) hX q_v1 hx9 (dk D_X11_partner 31 rfl) ?_
        obtain ⟨x10, hx10, h⟩ := bd_some h
        refine r_getI (pc := 61) hX fl_11_190 rfl rfl hx10 (dk D_X11_partner 32 rfl) (fun qx10 => ?_)
        refine r_icmp_eq (pc := 64) hX qx6 qx10 70 rfl (dk D_X11_partner 33 rfl) (fun hc => ?_) (fun hc => ?_)
        · rw [if_pos hc] at h
          refine r_aloadn (pc := 70) hX 0 rfl (dk D_X11_partner 35 rfl) ?_
          refine r_iloadn (pc := 71) hX 1 rfl (dk D_X11_partner 36 rfl) ?_
          refine r_iload (pc := 72) hX 4 rfl (dk D_X11_partner 37 rfl) ?_
          obtain ⟨_, hi, h⟩ := bd_some h
          obtain ⟨x11, μ12, hx11, h⟩ := bd2_some h
          refine r_invV0 (As := [(0, v1), (0, v4)]) (pc := 74) hX ml_11_305 (L_T_gainOf q_v1 q_v4 hx11) (isk_u hi) (Rm_of hRm (by decide) ⟨by decide, by decide⟩) (by decide) rfl (Nat.le_of_ble_eq_true rfl) rfl (dk D_X11_partner 38 rfl) (fun qx11 => ?_)
          refine r_istore (lv' := [(5, 0, x11), (0, 2, v0), (1, 0, v1), (2, 0, v2), (3, 0, v3), (4, 0, v4)]) (pc := 77) hX (by decide) rfl (dk D_X11_partner 39 rfl) ?_
          refine r_aloadn (pc := 79) hX 1 rfl (dk D_X11_partner 40 rfl) ?_
          refine r_iload (pc := 80) hX 5 rfl (dk D_X11_partner 41 rfl) ?_
          refine r_iloadn (pc := 82) hX 2 rfl (dk D_X11_partner 42 rfl) ?_
          obtain ⟨_, hi, h⟩ := bd_some h
          obtain ⟨x13, μ14, hx13, h⟩ := bd2_some h
          refine r_invV0 (As := [(0, v4), (0, v1)]) (pc := 83) hX ml_11_305 (L_T_gainOf q_v4 q_v1 hx13) (isk_u hi) (Rm_of hRm (by decide) ⟨by decide, by decide⟩) (by decide) rfl (Nat.le_of_ble_eq_true rfl) rfl (dk D_X11_partner 43 rfl) (fun qx13 => ?_)
          refine r_istore (lv' := [(6, 0, x13), (5, 0, x11), (0, 2, v0), (1, 0, v1), (2, 0, v2), (3, 0, v3), (4, 0, v4)]) (pc := 86) hX (by decide) rfl (dk D_X11_partner 44 rfl) ?_
          refine r_iload (pc := 88) hX 1 rfl (dk D_X11_partner 45 rfl) ?_
          refine r_if_lt (pc := 90) hX qx11 116 rfl (dk D_X11_partner 46 rfl) (fun hc => ?_) (fun hc => ?_)
          · rw [if_pos hc] at h
            refine r_iinc (lv' := [(4, 0, (w32 (v4 + 1))), (6, 0, x13), (5, 0, x11), (0, 2, v0), (1, 0, v1), (2, 0, v2), (3, 0, v3)]) (pc := 116) hX 6 rfl (by decide) rfl (dk D_X11_partner 60 rfl) ?_
            refine r_goto (pc := 119) hX 21 rfl (dk D_X11_partner 61 rfl) ?_
            refine r_sub (lv' := [(0, 2, v0), (1, 0, v1), (2, 0, v2), (3, 0, v3), (4, 0, (w32 (v4 + 1)))]) [3, 4, 5, 6, 0] rfl ?_
            exact ih v0 v1 v2 v3 (w32 (v4 + 1)) μ14 q_v1 q_v2 q_v3 (R32_w _) h
          · rw [if_neg hc] at h
            refine r_iload (pc := 93) hX 0 rfl (dk D_X11_partner 47 rfl) ?_
            refine r_if_lt (pc := 95) hX qx13 116 rfl (dk D_X11_partner 48 rfl) (fun hc => ?_) (fun hc => ?_)
            · rw [if_pos hc] at h
              refine r_iinc (lv' := [(4, 0, (w32 (v4 + 1))), (6, 0, x13), (5, 0, x11), (0, 2, v0), (1, 0, v1), (2, 0, v2), (3, 0, v3)]) (pc := 116) hX 6 rfl (by decide) rfl (dk D_X11_partner 60 rfl) ?_
              refine r_goto (pc := 119) hX 21 rfl (dk D_X11_partner 61 rfl) ?_
              refine r_sub (lv' := [(0, 2, v0), (1, 0, v1), (2, 0, v2), (3, 0, v3), (4, 0, (w32 (v4 + 1)))]) [3, 4, 5, 6, 0] rfl ?_
              exact ih v0 v1 v2 v3 (w32 (v4 + 1)) μ14 q_v1 q_v2 q_v3 (R32_w _) h
            · rw [if_neg hc] at h
              refine r_iload (pc := 98) hX 1 rfl (dk D_X11_partner 49 rfl) ?_
              refine r_iload (pc := 100) hX 0 rfl (dk D_X11_partner 50 rfl) ?_
              refine r_iadd (pc := 102) hX (dk D_X11_partner 51 rfl) ?_
              refine r_iloadn (pc := 103) hX 5 rfl (dk D_X11_partner 52 rfl) ?_
              refine r_icmp_le (pc := 104) hX (R32_w _) q_v3 116 rfl (dk D_X11_partner 53 rfl) (fun hc => ?_) (fun hc => ?_)
              · rw [if_neg hc] at h
                refine r_iinc (lv' := [(4, 0, (w32 (v4 + 1))), (6, 0, x13), (5, 0, x11), (0, 2, v0), (1, 0, v1), (2, 0, v2), (3, 0, v3)]) (pc := 116) hX 6 rfl (by decide) rfl (dk D_X11_partner 60 rfl) ?_
                refine r_goto (pc := 119) hX 21 rfl (dk D_X11_partner 61 rfl) ?_
                refine r_sub (lv' := [(0, 2, v0), (1, 0, v1), (2, 0, v2), (3, 0, v3), (4, 0, (w32 (v4 + 1)))]) [3, 4, 5, 6, 0] rfl ?_
                exact ih v0 v1 v2 v3 (w32 (v4 + 1)) μ14 q_v1 q_v2 q_v3 (R32_w _) h
              · rw [if_pos hc] at h
                refine r_iload (pc := 107) hX 6 rfl (dk D_X11_partner 54 rfl) ?_
                refine r_istoren (lv' := [(2, 0, v4), (6, 0, x13), (5, 0, x11), (0, 2, v0), (1, 0, v1), (3, 0, v3), (4, 0, v4)]) (pc := 109) hX (by decide) rfl (dk D_X11_partner 55 rfl) ?_
                refine r_iload (pc := 110) hX 2 rfl (dk D_X11_partner 56 rfl) ?_
                refine r_iload (pc := 112) hX 1 rfl (dk D_X11_partner 57 rfl) ?_
                refine r_iadd (pc := 114) hX (dk D_X11_partner 58 rfl) ?_
                obtain ⟨x15, ex15, h⟩ := bd_some h
                replace ex15 := Option.some.inj ex15
                have qx15 : R32 x15 := ex15 ▸ (R32_w _)
                rw [ex15]
                refine r_istoren (lv' := [(3, 0, x15), (2, 0, v4), (6, 0, x13), (5, 0, x11), (0, 2, v0), (1, 0, v1), (4, 0, v4)]) (pc := 115) hX (by decide) rfl (dk D_X11_partner 59 rfl) ?_
                refine r_iinc (lv' := [(4, 0, (w32 (v4 + 1))), (3, 0, x15), (2, 0, v4), (6, 0, x13), (5, 0, x11), (0, 2, v0), (1, 0, v1)]) (pc := 116) hX 6 rfl (by decide) rfl (dk D_X11_partner 60 rfl) ?_
                refine r_goto (pc := 119) hX 21 rfl (dk D_X11_partner 61 rfl) ?_
                refine r_sub (lv' := [(0, 2, v0), (1, 0, v1), (2, 0, v4), (3, 0, x15), (4, 0, (w32 (v4 + 1)))]) [5, 6, 2, 1, 0] rfl ?_
                exact ih v0 v1 v4 x15 (w32 (v4 + 1)) μ14 q_v1 q_v4 qx15 (R32_w _) h
        · rw [if_neg hc] at h
          refine r_goto (pc := 67) hX 116 rfl (dk D_X11_partner 34 rfl) ?_
          refine r_iinc (lv' := [(4, 0, (w32 (v4 + 1))), (0, 2, v0), (1, 0, v1), (2, 0, v2), (3, 0, v3)]) (pc := 116) hX 4 rfl (by decide) rfl (dk D_X11_partner 60 rfl) ?_
          refine r_goto (pc := 119) hX 21 rfl (dk D_X11_partner 61 rfl) ?_
          refine r_sub (lv' := [(0, 2, v0), (1, 0, v1), (2, 0, v2), (3, 0, v3), (4, 0, (w32 (v4 + 1)))]) [1, 2, 3, 4, 0] rfl ?_
          exact ih v0 v1 v2 v3 (w32 (v4 + 1)) μ q_v1 q_v2 q_v3 (R32_w _) h
set_option maxRecDepth 100000 in
set_option maxHeartbeats 4000000 in
theorem L_T_partner {E : EX} {l : Launch} {a0 a1 res : Int} {μ μ' : Mem} (q_a1 : R32 a1) (h : T_partner a0 a1 μ = some (res, μ')) : Ok E l 6 yX11_partner (.code yX11_partner cX11_partner 7 (some .int)) 0 0 [(2, a0), (0, a1)] μ (some (0, res)) μ' := by
  refine Ok.of (own := "TollsBack") [(0, 2, a0), (1, 0, a1)] (by decide +kernel) rfl (Nat.le_of_ble_eq_true rfl) rfl ?_
  intro X hL hRm hin hX hM
  unfold T_partner at h
  subst hL
  refine r_aloadn (pc := 0) hX 0 rfl (dk D_X11_partner 0 rfl) ?_
  obtain ⟨x1, hx1, h⟩ := bd_some h
  refine r_getR (pc := 1) hX fl_11_26 rfl hx1 (dk D_X11_partner 1 rfl) ?_
  refine r_iloadn (pc := 4) hX 1 rfl (dk D_X11_partner 2 rfl) ?_
  obtain ⟨_, hi, h⟩ := bd_some h
  obtain ⟨x2, μ3, hx2, h⟩ := bd2_some h
  refine r_invV0 (As := [(0, a1)]) (pc := 5) hX ml_11_183 (L_Wo_hasTraveller q_a1 hx2) (isk_u hi) (Rm_of hRm (by decide) ⟨by decide, by decide⟩) (by decide) rfl (Nat.le_of_ble_eq_true rfl) rfl (dk D_X11_partner 3 rfl) (fun qx2 => ?_)
  refine r_if_ne (pc := 8) hX qx2 14 rfl (dk D_X11_partner 4 rfl) (fun hc => ?_) (fun hc => ?_)
  · rw [if_neg hc] at h
    refine r_iconst (pc := 14) hX (dk D_X11_partner 7 rfl) ?_
    refine r_istoren (lv' := [(2, 0, (-1)), (0, 2, a0), (1, 0, a1)]) (pc := 15) hX (by decide) rfl (dk D_X11_partner 8 rfl) ?_
    refine r_iconst (pc := 16) hX (dk D_X11_partner 9 rfl) ?_
    refine r_istoren (lv' := [(3, 0, 0), (2, 0, (-1)), (0, 2, a0), (1, 0, a1)]) (pc := 17) hX (by decide) rfl (dk D_X11_partner 10 rfl) ?_
    refine r_iconst (pc := 18) hX (dk D_X11_partner 11 rfl) ?_
    refine r_istore (lv' := [(4, 0, 0), (3, 0, 0), (2, 0, (-1)), (0, 2, a0), (1, 0, a1)]) (pc := 19) hX (by decide) rfl (dk D_X11_partner 12 rfl) ?_
    refine r_sub (lv' := [(0, 2, a0), (1, 0, a1), (2, 0, (-1)), (3, 0, 0), (4, 0, 0)]) [3, 4, 2, 1, 0] rfl ?_
    refine L_T_partner_L21 hX hM hRm FU a0 a1 (-1) 0 0 μ3 q_a1 (R32_lit rfl) (R32_lit rfl) (R32_lit rfl) h
  · rw [if_pos hc] at h
    refine r_bipush (pc := 11) hX rfl (dk D_X11_partner 5 rfl) ?_
    cases h
    exact r_ireturn (pc := 13) hX (R32_lit rfl) hM ⟨by decide, by decide⟩ (dk D_X11_partner 6 rfl)
set_option maxRecDepth 100000 in
set_option maxHeartbeats 4000000 in
theorem L_T_cheapest {E : EX} {l : Launch} {a0 a1 a2 res : Int} {μ μ' : Mem} (q_a1 : R32 a1) (q_a2 : R32 a2) (h : T_cheapest a0 a1 a2 μ = some (res, μ')) : Ok E l 5 yX11_cheapest (.code yX11_cheapest cX11_cheapest 5 (some .int)) 0 0 [(2, a0), (0, a1), (0, a2)] μ (some (0, res)) μ' := by
  refine Ok.of (own := "TollsBack") [(0, 2, a0), (1, 0, a1), (2, 0, a2)] (by decide +kernel) rfl (Nat.le_of_ble_eq_true rfl) rfl ?_
  intro X hL hRm hin hX hM
  unfold T_cheapest at h
  subst hL
  refine r_aloadn (pc := 0) hX 0 rfl (dk D_X11_cheapest 0 rfl) ?_
  obtain ⟨x1, hx1, h⟩ := bd_some h
  refine r_getR (pc := 1) hX fl_11_26 rfl hx1 (dk D_X11_cheapest 1 rfl) ?_
  refine r_iloadn (pc := 4) hX 1 rfl (dk D_X11_cheapest 2 rfl) ?_
  obtain ⟨_, hi, h⟩ := bd_some h
  obtain ⟨x2, μ3, hx2, h⟩ := bd2_some h
  refine r_invV0 (As := [(0, a1)]) (pc := 5) hX ml_11_183 (L_Wo_hasTraveller q_a1 hx2) (isk_u hi) (Rm_of hRm (by decide) ⟨by decide, by decide⟩) (by decide) rfl (Nat.le_of_ble_eq_true rfl) rfl (dk D_X11_cheapest 3 rfl) (fun qx2 => ?_)
  refine r_if_eq (pc := 8) hX qx2 20 rfl (dk D_X11_cheapest 4 rfl) (fun hc => ?_) (fun hc => ?_)
  · rw [if_pos hc] at h
    refine r_bipush (pc := 20) hX rfl (dk D_X11_cheapest 10 rfl) ?_
    cases h
    exact r_ireturn (pc := 22) hX (R32_lit rfl) hM ⟨by decide, by decide⟩ (dk D_X11_cheapest 11 rfl)
  · rw [if_neg hc] at h
    refine r_iloadn (pc := 11) hX 2 rfl (dk D_X11_cheapest 5 rfl) ?_
    refine r_if_lt (pc := 12) hX q_a2 20 rfl (dk D_X11_cheapest 6 rfl) (fun hc => ?_) (fun hc => ?_)
    · rw [if_pos hc] at h
      refine r_bipush (pc := 20) hX rfl (dk D_X11_cheapest 10 rfl) ?_
      cases h
      exact r_ireturn (pc := 22) hX (R32_lit rfl) hM ⟨by decide, by decide⟩ (dk D_X11_cheapest 11 rfl)
    · rw [if_neg hc] at h
      refine r_iloadn (pc := 15) hX 2 rfl (dk D_X11_cheapest 7 rfl) ?_
      refine r_iconst (pc := 16) hX (dk D_X11_cheapest 8 rfl) ?_
      refine r_icmp_le (pc := 17) hX q_a2 (R32_lit rfl) 23 rfl (dk D_X11_cheapest 9 rfl) (fun hc => ?_) (fun hc => ?_)
      · rw [if_neg hc] at h
        refine r_aloadn (pc := 23) hX 0 rfl (dk D_X11_cheapest 12 rfl) ?_
        obtain ⟨x4, hx4, h⟩ := bd_some h
        refine r_getR (pc := 24) hX fl_11_26 rfl hx4 (dk D_X11_cheapest 13 rfl) ?_
        obtain ⟨x5, hx5, h⟩ := bd_some h
        refine r_getR (pc := 27) hX fl_11_186 rfl hx5 (dk D_X11_cheapest 14 rfl) ?_
        refine r_iloadn (pc := 30) hX 1 rfl (dk D_X11_cheapest 15 rfl) ?_
        obtain ⟨x6, hx6, h⟩ := bd_some h
        refine r_aald24 (pc := 31) hX q_a1 hx6 (dk D_X11_cheapest 16 rfl) ?_
        refine r_astoren (lv' := [(3, 2, x6), (0, 2, a0), (1, 0, a1), (2, 0, a2)]) (pc := 32) hX (by decide) rfl (dk D_X11_cheapest 17 rfl) ?_
        refine r_aloadn (pc := 33) hX 1 rfl (dk D_X11_cheapest 18 rfl) ?_
        obtain ⟨x7, hx7, h⟩ := bd_some h
        refine r_getR (pc := 34) hX fl_11_74 rfl hx7 (dk D_X11_cheapest 19 rfl) ?_
        refine r_aloadn (pc := 37) hX 1 rfl (dk D_X11_cheapest 20 rfl) ?_
        obtain ⟨x8, hx8, h⟩ := bd_some h
        refine r_getR (pc := 38) hX fl_11_26 rfl hx8 (dk D_X11_cheapest 21 rfl) ?_
        refine r_aloadn (pc := 41) hX 0 rfl (dk D_X11_cheapest 22 rfl) ?_
        refine r_aloadn (pc := 42) hX 0 rfl (dk D_X11_cheapest 23 rfl) ?_
        obtain ⟨_, hi, h⟩ := bd_some h
        obtain ⟨x9, μ10, hx9, h⟩ := bd2_some h
        refine r_invV0 (As := [(2, x8), (2, x6), (2, x6)]) (pc := 43) hX ml_11_308 (L_Wy_homeCost hx9) (isk_u hi) (Rm_of hRm (by decide) ⟨by decide, by decide⟩) (by decide) rfl (Nat.le_of_ble_eq_true rfl) rfl (dk D_X11_cheapest 24 rfl) (fun qx9 => ?_)
        refine r_istore (lv' := [(4, 0, x9), (3, 2, x6), (0, 2, a0), (1, 0, a1), (2, 0, a2)]) (pc := 46) hX (by decide) rfl (dk D_X11_cheapest 25 rfl) ?_
        refine r_iloadn (pc := 48) hX 4 rfl (dk D_X11_cheapest 26 rfl) ?_
        refine r_if_ne (pc := 49) hX q_a2 55 rfl (dk D_X11_cheapest 27 rfl) (fun hc => ?_) (fun hc => ?_)
        · rw [if_neg hc] at h
          refine r_iload (pc := 55) hX 0 rfl (dk D_X11_cheapest 30 rfl) ?_
          refine r_ldcw (pc := 57) hX cn_11_315 (dk D_X11_cheapest 31 rfl) ?_
          refine r_icmp_ne (pc := 60) hX qx9 (R32_lit rfl) 67 rfl (dk D_X11_cheapest 32 rfl) (fun hc => ?_) (fun hc => ?_)
          · rw [if_neg hc] at h
            refine r_aloadn (pc := 67) hX 2 rfl (dk D_X11_cheapest 35 rfl) ?_
            obtain ⟨x11, hx11, h⟩ := bd_some h
            refine r_getR (pc := 68) hX fl_11_74 rfl hx11 (dk D_X11_cheapest 36 rfl) ?_
            refine r_aloadn (pc := 71) hX 2 rfl (dk D_X11_cheapest 37 rfl) ?_
            obtain ⟨x12, hx12, h⟩ := bd_some h
            refine r_getR (pc := 72) hX fl_11_26 rfl hx12 (dk D_X11_cheapest 38 rfl) ?_
            obtain ⟨_, hi, h⟩ := bd_some h
            obtain ⟨x13, μ14, hx13, h⟩ := bd2_some h
            refine r_invV0 (As := [(2, x12)]) (pc := 75) hX ml_11_316 (L_Wy_homeRoads hx13) (isk_u hi) (Rm_of hRm (by decide) ⟨by decide, by decide⟩) (by decide) rfl (Nat.le_of_ble_eq_true rfl) rfl (dk D_X11_cheapest 39 rfl) (fun qx13 => ?_)
            cases h
            exact r_ireturn (pc := 78) hX qx13 hM ⟨by decide, by decide⟩ (dk D_X11_cheapest 40 rfl)
          · rw [if_pos hc] at h
            refine r_iconst (pc := 63) hX (dk D_X11_cheapest 33 rfl) ?_
            refine r_goto (pc := 64) hX 78 rfl (dk D_X11_cheapest 34 rfl) ?_
            cases h
            exact r_ireturn (pc := 78) hX (R32_lit rfl) hM ⟨by decide, by decide⟩ (dk D_X11_cheapest 40 rfl)
        · rw [if_pos hc] at h
          refine r_iload (pc := 52) hX 0 rfl (dk D_X11_cheapest 28 rfl) ?_
          cases h
          exact r_ireturn (pc := 54) hX qx9 hM ⟨by decide, by decide⟩ (dk D_X11_cheapest 29 rfl)
      · rw [if_pos hc] at h
        refine r_bipush (pc := 20) hX rfl (dk D_X11_cheapest 10 rfl) ?_
        cases h
        exact r_ireturn (pc := 22) hX (R32_lit rfl) hM ⟨by decide, by decide⟩ (dk D_X11_cheapest 11 rfl)
set_option maxRecDepth 100000 in
set_option maxHeartbeats 4000000 in
theorem L_T_price {E : EX} {l : Launch} {a0 a1 a2 res : Int} {μ μ' : Mem} (q_a1 : R32 a1) (q_a2 : R32 a2) (h : T_price a0 a1 a2 μ = some (res, μ')) : Ok E l 5 yX11_price (.code yX11_price cX11_price 5 (some .int)) 0 0 [(2, a0), (0, a1), (0, a2)] μ (some (0, res)) μ' := by
  refine Ok.of (own := "TollsBack") [(0, 2, a0), (1, 0, a1), (2, 0, a2)] (by decide +kernel) rfl (Nat.le_of_ble_eq_true rfl) rfl ?_
  intro X hL hRm hin hX hM
  unfold T_price at h
  subst hL
  refine r_aloadn (pc := 0) hX 0 rfl (dk D_X11_price 0 rfl) ?_
  obtain ⟨x1, hx1, h⟩ := bd_some h
  refine r_getR (pc := 1) hX fl_11_26 rfl hx1 (dk D_X11_price 1 rfl) ?_
  refine r_iloadn (pc := 4) hX 1 rfl (dk D_X11_price 2 rfl) ?_
  refine r_iloadn (pc := 5) hX 2 rfl (dk D_X11_price 3 rfl) ?_
  obtain ⟨_, hi, h⟩ := bd_some h
  obtain ⟨x2, μ3, hx2, h⟩ := bd2_some h
  refine r_invV0 (As := [(0, a1), (0, a2)]) (pc := 6) hX ml_11_231 (L_Wo_hasPair q_a1 q_a2 hx2) (isk_u hi) (Rm_of hRm (by decide) ⟨by decide, by decide⟩) (by decide) rfl (Nat.le_of_ble_eq_true rfl) rfl (dk D_X11_price 4 rfl) (fun qx2 => ?_)
  refine r_if_ne (pc := 9) hX qx2 15 rfl (dk D_X11_price 5 rfl) (fun hc => ?_) (fun hc => ?_)
  · rw [if_neg hc] at h
    refine r_aloadn (pc := 15) hX 0 rfl (dk D_X11_price 8 rfl) ?_
    obtain ⟨x4, hx4, h⟩ := bd_some h
    refine r_getR (pc := 16) hX fl_11_26 rfl hx4 (dk D_X11_price 9 rfl) ?_
    obtain ⟨x5, hx5, h⟩ := bd_some h
    refine r_getR (pc := 19) hX fl_11_186 rfl hx5 (dk D_X11_price 10 rfl) ?_
    refine r_iloadn (pc := 22) hX 1 rfl (dk D_X11_price 11 rfl) ?_
    obtain ⟨x6, hx6, h⟩ := bd_some h
    refine r_aald24 (pc := 23) hX q_a1 hx6 (dk D_X11_price 12 rfl) ?_
    refine r_astoren (lv' := [(3, 2, x6), (0, 2, a0), (1, 0, a1), (2, 0, a2)]) (pc := 24) hX (by decide) rfl (dk D_X11_price 13 rfl) ?_
    refine r_aloadn (pc := 25) hX 1 rfl (dk D_X11_price 14 rfl) ?_
    obtain ⟨x7, hx7, h⟩ := bd_some h
    refine r_getR (pc := 26) hX fl_11_26 rfl hx7 (dk D_X11_price 15 rfl) ?_
    obtain ⟨x8, hx8, h⟩ := bd_some h
    refine r_getR (pc := 29) hX fl_11_186 rfl hx8 (dk D_X11_price 16 rfl) ?_
    refine r_iloadn (pc := 32) hX 3 rfl (dk D_X11_price 17 rfl) ?_
    obtain ⟨x9, hx9, h⟩ := bd_some h
    refine r_aald24 (pc := 33) hX q_a2 hx9 (dk D_X11_price 18 rfl) ?_
    refine r_astore (lv' := [(4, 2, x9), (3, 2, x6), (0, 2, a0), (1, 0, a1), (2, 0, a2)]) (pc := 34) hX (by decide) rfl (dk D_X11_price 19 rfl) ?_
    refine r_aloadn (pc := 36) hX 1 rfl (dk D_X11_price 20 rfl) ?_
    obtain ⟨x10, hx10, h⟩ := bd_some h
    refine r_getI (pc := 37) hX fl_11_199 rfl rfl hx10 (dk D_X11_price 21 rfl) (fun qx10 => ?_)
    refine r_if_ne (pc := 40) hX qx10 46 rfl (dk D_X11_price 22 rfl) (fun hc => ?_) (fun hc => ?_)
    · rw [if_neg hc] at h
      refine r_aload (pc := 46) hX 0 rfl (dk D_X11_price 25 rfl) ?_
      obtain ⟨x11, hx11, h⟩ := bd_some h
      refine r_getI (pc := 48) hX fl_11_199 rfl rfl hx11 (dk D_X11_price 26 rfl) (fun qx11 => ?_)
      refine r_bipush (pc := 51) hX rfl (dk D_X11_price 27 rfl) ?_
      refine r_icmp_lt (pc := 53) hX qx11 (R32_lit rfl) 59 rfl (dk D_X11_price 28 rfl) (fun hc => ?_) (fun hc => ?_)
      · rw [if_pos hc] at h
        refine r_aloadn (pc := 59) hX 2 rfl (dk D_X11_price 31 rfl) ?_
        obtain ⟨x12, hx12, h⟩ := bd_some h
        refine r_getR (pc := 60) hX fl_11_50 rfl hx12 (dk D_X11_price 32 rfl) ?_
        refine r_aload (pc := 63) hX 0 rfl (dk D_X11_price 33 rfl) ?_
        obtain ⟨_, hi, h⟩ := bd_some h
        obtain ⟨x13, μ14, hx13, h⟩ := bd2_some h
        refine r_invV0 (As := [(2, x9)]) (pc := 65) hX ml_11_320 (L_Tr_become hx13) (isk_u hi) (Rm_of hRm (by decide) ⟨by decide, by decide⟩) (by decide) rfl (Nat.le_of_ble_eq_true rfl) rfl (dk D_X11_price 34 rfl) (fun _ => ?_)
        refine r_aloadn (pc := 68) hX 2 rfl (dk D_X11_price 35 rfl) ?_
        obtain ⟨x15, hx15, h⟩ := bd_some h
        refine r_getR (pc := 69) hX fl_11_50 rfl hx15 (dk D_X11_price 36 rfl) ?_
        refine r_aloadn (pc := 72) hX 1 rfl (dk D_X11_price 37 rfl) ?_
        obtain ⟨_, hi, h⟩ := bd_some h
        obtain ⟨x16, μ17, hx16, h⟩ := bd2_some h
        refine r_invV0 (As := [(2, x6)]) (pc := 73) hX ml_11_235 (L_Tr_takeTopOf hx16) (isk_u hi) (Rm_of hRm (by decide) ⟨by decide, by decide⟩) (by decide) rfl (Nat.le_of_ble_eq_true rfl) rfl (dk D_X11_price 38 rfl) (fun _ => ?_)
        refine r_aloadn (pc := 76) hX 2 rfl (dk D_X11_price 39 rfl) ?_
        obtain ⟨x18, hx18, h⟩ := bd_some h
        refine r_getR (pc := 77) hX fl_11_74 rfl hx18 (dk D_X11_price 40 rfl) ?_
        refine r_aloadn (pc := 80) hX 2 rfl (dk D_X11_price 41 rfl) ?_
        obtain ⟨x19, hx19, h⟩ := bd_some h
        refine r_getR (pc := 81) hX fl_11_26 rfl hx19 (dk D_X11_price 42 rfl) ?_
        refine r_aload (pc := 84) hX 0 rfl (dk D_X11_price 43 rfl) ?_
        refine r_aload (pc := 86) hX 0 rfl (dk D_X11_price 44 rfl) ?_
        obtain ⟨_, hi, h⟩ := bd_some h
        obtain ⟨x20, μ21, hx20, h⟩ := bd2_some h
        refine r_invV0 (As := [(2, x19), (2, x9), (2, x9)]) (pc := 88) hX ml_11_308 (L_Wy_homeCost hx20) (isk_u hi) (Rm_of hRm (by decide) ⟨by decide, by decide⟩) (by decide) rfl (Nat.le_of_ble_eq_true rfl) rfl (dk D_X11_price 45 rfl) (fun qx20 => ?_)
        refine r_aloadn (pc := 91) hX 2 rfl (dk D_X11_price 46 rfl) ?_
        obtain ⟨x22, hx22, h⟩ := bd_some h
        refine r_getR (pc := 92) hX fl_11_74 rfl hx22 (dk D_X11_price 47 rfl) ?_
        refine r_aloadn (pc := 95) hX 2 rfl (dk D_X11_price 48 rfl) ?_
        obtain ⟨x23, hx23, h⟩ := bd_some h
        refine r_getR (pc := 96) hX fl_11_26 rfl hx23 (dk D_X11_price 49 rfl) ?_
        refine r_aload (pc := 99) hX 0 rfl (dk D_X11_price 50 rfl) ?_
        refine r_aloadn (pc := 101) hX 2 rfl (dk D_X11_price 51 rfl) ?_
        obtain ⟨x24, hx24, h⟩ := bd_some h
        refine r_getR (pc := 102) hX fl_11_50 rfl hx24 (dk D_X11_price 52 rfl) ?_
        obtain ⟨_, hi, h⟩ := bd_some h
        obtain ⟨x25, μ26, hx25, h⟩ := bd2_some h
        refine r_invV0 (As := [(2, x23), (2, x9), (2, x24)]) (pc := 105) hX ml_11_308 (L_Wy_homeCost hx25) (isk_u hi) (Rm_of hRm (by decide) ⟨by decide, by decide⟩) (by decide) rfl (Nat.le_of_ble_eq_true rfl) rfl (dk D_X11_price 53 rfl) (fun qx25 => ?_)
        obtain ⟨x27, μ28, hx27, h⟩ := bd2_some h
        refine r_invS0 (As := [(0, x20), (0, x25)]) (pc := 108) hX ml_11_312 (L_T_lessBy qx20 qx25 hx27) (Rm_of hRm (by decide) ⟨by decide, by decide⟩) (by decide) rfl (Nat.le_of_ble_eq_true rfl) rfl (dk D_X11_price 54 rfl) (fun qx27 => ?_)
        cases h
        exact r_ireturn (pc := 111) hX qx27 hM ⟨by decide, by decide⟩ (dk D_X11_price 55 rfl)
      · rw [if_neg hc] at h
        refine r_bipush (pc := 56) hX rfl (dk D_X11_price 29 rfl) ?_
        cases h
        exact r_ireturn (pc := 58) hX (R32_lit rfl) hM ⟨by decide, by decide⟩ (dk D_X11_price 30 rfl)
    · rw [if_pos hc] at h
      refine r_bipush (pc := 43) hX rfl (dk D_X11_price 23 rfl) ?_
      cases h
      exact r_ireturn (pc := 45) hX (R32_lit rfl) hM ⟨by decide, by decide⟩ (dk D_X11_price 24 rfl)
  · rw [if_pos hc] at h
    refine r_bipush (pc := 12) hX rfl (dk D_X11_price 6 rfl) ?_
    cases h
    exact r_ireturn (pc := 14) hX (R32_lit rfl) hM ⟨by decide, by decide⟩ (dk D_X11_price 7 rfl)
set_option maxRecDepth 100000 in
set_option maxHeartbeats 4000000 in
theorem L_T_gain {E : EX} {l : Launch} {a0 a1 a2 a3 res : Int} {μ μ' : Mem} (q_a1 : R32 a1) (q_a2 : R32 a2) (q_a3 : R32 a3) (h : T_gain a0 a1 a2 a3 μ = some (res, μ')) : Ok E l 6 yX11_gain (.code yX11_gain cX11_gain 4 (some .int)) 0 0 [(2, a0), (0, a1), (0, a2), (0, a3)] μ (some (0, res)) μ' := by
  refine Ok.of (own := "TollsBack") [(0, 2, a0), (1, 0, a1), (2, 0, a2), (3, 0, a3)] (by decide +kernel) rfl (Nat.le_of_ble_eq_true rfl) rfl ?_
  intro X hL hRm hin hX hM
  unfold T_gain at h
  subst hL
  refine r_aloadn (pc := 0) hX 0 rfl (dk D_X11_gain 0 rfl) ?_
  obtain ⟨x1, hx1, h⟩ := bd_some h
  refine r_getR (pc := 1) hX fl_11_26 rfl hx1 (dk D_X11_gain 1 rfl) ?_
  refine r_iloadn (pc := 4) hX 1 rfl (dk D_X11_gain 2 rfl) ?_
  refine r_iloadn (pc := 5) hX 2 rfl (dk D_X11_gain 3 rfl) ?_
  obtain ⟨_, hi, h⟩ := bd_some h
  obtain ⟨x2, μ3, hx2, h⟩ := bd2_some h
  refine r_invV0 (As := [(0, a1), (0, a2)]) (pc := 6) hX ml_11_231 (L_Wo_hasPair q_a1 q_a2 hx2) (isk_u hi) (Rm_of hRm (by decide) ⟨by decide, by decide⟩) (by decide) rfl (Nat.le_of_ble_eq_true rfl) rfl (dk D_X11_gain 4 rfl) (fun qx2 => ?_)
  refine r_if_eq (pc := 9) hX qx2 21 rfl (dk D_X11_gain 5 rfl) (fun hc => ?_) (fun hc => ?_)
  · rw [if_pos hc] at h
    refine r_bipush (pc := 21) hX rfl (dk D_X11_gain 11 rfl) ?_
    cases h
    exact r_ireturn (pc := 23) hX (R32_lit rfl) hM ⟨by decide, by decide⟩ (dk D_X11_gain 12 rfl)
  · rw [if_neg hc] at h
    refine r_iloadn (pc := 12) hX 3 rfl (dk D_X11_gain 6 rfl) ?_
    refine r_if_lt (pc := 13) hX q_a3 21 rfl (dk D_X11_gain 7 rfl) (fun hc => ?_) (fun hc => ?_)
    · rw [if_pos hc] at h
      refine r_bipush (pc := 21) hX rfl (dk D_X11_gain 11 rfl) ?_
      cases h
      exact r_ireturn (pc := 23) hX (R32_lit rfl) hM ⟨by decide, by decide⟩ (dk D_X11_gain 12 rfl)
    · rw [if_neg hc] at h
      refine r_iloadn (pc := 16) hX 3 rfl (dk D_X11_gain 8 rfl) ?_
      refine r_iconst (pc := 17) hX (dk D_X11_gain 9 rfl) ?_
      refine r_icmp_le (pc := 18) hX q_a3 (R32_lit rfl) 24 rfl (dk D_X11_gain 10 rfl) (fun hc => ?_) (fun hc => ?_)
      · rw [if_neg hc] at h
        refine r_iloadn (pc := 24) hX 3 rfl (dk D_X11_gain 13 rfl) ?_
        refine r_if_ne (pc := 25) hX q_a3 37 rfl (dk D_X11_gain 14 rfl) (fun hc => ?_) (fun hc => ?_)
        · rw [if_neg hc] at h
          refine r_aloadn (pc := 37) hX 0 rfl (dk D_X11_gain 20 rfl) ?_
          refine r_iloadn (pc := 38) hX 2 rfl (dk D_X11_gain 21 rfl) ?_
          refine r_iloadn (pc := 39) hX 1 rfl (dk D_X11_gain 22 rfl) ?_
          obtain ⟨_, hi, h⟩ := bd_some h
          obtain ⟨x4, μ5, hx4, h⟩ := bd2_some h
          refine r_invV0 (As := [(0, a2), (0, a1)]) (pc := 40) hX ml_11_305 (L_T_gainOf q_a2 q_a1 hx4) (isk_u hi) (Rm_of hRm (by decide) ⟨by decide, by decide⟩) (by decide) rfl (Nat.le_of_ble_eq_true rfl) rfl (dk D_X11_gain 23 rfl) (fun qx4 => ?_)
          cases h
          exact r_ireturn (pc := 43) hX qx4 hM ⟨by decide, by decide⟩ (dk D_X11_gain 24 rfl)
        · rw [if_pos hc] at h
          refine r_aloadn (pc := 28) hX 0 rfl (dk D_X11_gain 15 rfl) ?_
          refine r_iloadn (pc := 29) hX 1 rfl (dk D_X11_gain 16 rfl) ?_
          refine r_iloadn (pc := 30) hX 2 rfl (dk D_X11_gain 17 rfl) ?_
          obtain ⟨_, hi, h⟩ := bd_some h
          obtain ⟨x6, μ7, hx6, h⟩ := bd2_some h
          refine r_invV0 (As := [(0, a1), (0, a2)]) (pc := 31) hX ml_11_305 (L_T_gainOf q_a1 q_a2 hx6) (isk_u hi) (Rm_of hRm (by decide) ⟨by decide, by decide⟩) (by decide) rfl (Nat.le_of_ble_eq_true rfl) rfl (dk D_X11_gain 18 rfl) (fun qx6 => ?_)
          refine r_goto (pc := 34) hX 43 rfl (dk D_X11_gain 19 rfl) ?_
          cases h
          exact r_ireturn (pc := 43) hX qx6 hM ⟨by decide, by decide⟩ (dk D_X11_gain 24 rfl)
      · rw [if_pos hc] at h
        refine r_bipush (pc := 21) hX rfl (dk D_X11_gain 11 rfl) ?_
        cases h
        exact r_ireturn (pc := 23) hX (R32_lit rfl) hM ⟨by decide, by decide⟩ (dk D_X11_gain 12 rfl)
set_option maxRecDepth 100000 in
set_option maxHeartbeats 4000000 in
theorem L_T_isRoadPlace {E : EX} {l : Launch} {a0 a1 res : Int} {μ μ' : Mem} (q_a0 : R32 a0) (q_a1 : R32 a1) (h : T_isRoadPlace a0 a1 μ = some (res, μ')) : Ok E l 1 yX11_isRoadPlace (.code yX11_isRoadPlace cX11_isRoadPlace 2 (some .boolean)) 0 0 [(0, a0), (0, a1)] μ (some (0, res)) μ' := by
  refine Ok.of (own := "TollsBack") [(0, 0, a0), (1, 0, a1)] (by decide +kernel) rfl (Nat.le_of_ble_eq_true rfl) rfl ?_
  intro X hL hRm hin hX hM
  unfold T_isRoadPlace at h
  subst hL
  refine r_iloadn (pc := 0) hX 0 rfl (dk D_X11_isRoadPlace 0 rfl) ?_
  refine r_bipush (pc := 1) hX rfl (dk D_X11_isRoadPlace 1 rfl) ?_
  refine r_icmp_lt (pc := 3) hX q_a0 (R32_lit rfl) 18 rfl (dk D_X11_isRoadPlace 2 rfl) (fun hc => ?_) (fun hc => ?_)
  · rw [if_pos hc] at h
    refine r_iconst (pc := 18) hX (dk D_X11_isRoadPlace 10 rfl) ?_
    cases h
    exact r_zreturn (pc := 19) hX (R32_lit rfl) hM (Or.inl rfl) ⟨by decide, by decide⟩ (dk D_X11_isRoadPlace 11 rfl)
  · rw [if_neg hc] at h
    refine r_iloadn (pc := 6) hX 0 rfl (dk D_X11_isRoadPlace 3 rfl) ?_
    refine r_bipush (pc := 7) hX rfl (dk D_X11_isRoadPlace 4 rfl) ?_
    refine r_iloadn (pc := 9) hX 1 rfl (dk D_X11_isRoadPlace 5 rfl) ?_
    refine r_iadd (pc := 10) hX (dk D_X11_isRoadPlace 6 rfl) ?_
    refine r_icmp_ge (pc := 11) hX q_a0 (R32_w _) 18 rfl (dk D_X11_isRoadPlace 7 rfl) (fun hc => ?_) (fun hc => ?_)
    · rw [if_neg hc] at h
      refine r_iconst (pc := 18) hX (dk D_X11_isRoadPlace 10 rfl) ?_
      cases h
      exact r_zreturn (pc := 19) hX (R32_lit rfl) hM (Or.inl rfl) ⟨by decide, by decide⟩ (dk D_X11_isRoadPlace 11 rfl)
    · rw [if_pos hc] at h
      refine r_iconst (pc := 14) hX (dk D_X11_isRoadPlace 8 rfl) ?_
      refine r_goto (pc := 15) hX 19 rfl (dk D_X11_isRoadPlace 9 rfl) ?_
      cases h
      exact r_zreturn (pc := 19) hX (R32_lit rfl) hM (Or.inr rfl) ⟨by decide, by decide⟩ (dk D_X11_isRoadPlace 11 rfl)
set_option maxRecDepth 100000 in
set_option maxHeartbeats 4000000 in
theorem L_T_through {E : EX} {l : Launch} {a0 a1 a2 a3 a4 res : Int} {μ μ' : Mem} (q_a1 : R32 a1) (q_a2 : R32 a2) (q_a3 : R32 a3) (q_a4 : R32 a4) (h : T_through a0 a1 a2 a3 a4 μ = some (res, μ')) : Ok E l 20 yX11_through (.code yX11_through cX11_through 6 (some .int)) 0 0 [(2, a0), (0, a1), (0, a2), (0, a3), (0, a4)] μ (some (0, res)) μ' := by
  refine Ok.of (own := "TollsBack") [(0, 2, a0), (1, 0, a1), (2, 0, a2), (3, 0, a3), (4, 0, a4)] (by decide +kernel) rfl (Nat.le_of_ble_eq_true rfl) rfl ?_
  intro X hL hRm hin hX hM
  unfold T_through at h
  subst hL
  refine r_iload (pc := 0) hX 4 rfl (dk D_X11_through 0 rfl) ?_
  obtain ⟨y1, μ2, hb, h⟩ := bd2_some h
  have hj : R32 y1 → At E X cX11_through 6 "TollsBack" (0, 0) 26 [(0, 2, a0), (1, 0, a1), (2, 0, a2), (3, 0, a3), (4, 0, a4)] [(0, y1)] μ2 := by
    intro qy1
    clear hb
    refine r_istore (lv' := [(5, 0, y1), (0, 2, a0), (1, 0, a1), (2, 0, a2), (3, 0, a3), (4, 0, a4)]) (pc := 26) hX (by decide) rfl (dk D_X11_through 12 rfl) ?_
    refine r_aloadn (pc := 28) hX 1 rfl (dk D_X11_through 13 rfl) ?_
    obtain ⟨x5, hx5, h⟩ := bd_some h
    refine r_getR (pc := 29) hX fl_11_26 rfl hx5 (dk D_X11_through 14 rfl) ?_
    refine r_iloadn (pc := 32) hX 2 rfl (dk D_X11_through 15 rfl) ?_
    obtain ⟨_, hi, h⟩ := bd_some h
    obtain ⟨x6, μ7, hx6, h⟩ := bd2_some h
    refine r_invV0 (As := [(0, a1)]) (pc := 33) hX ml_11_183 (L_Wo_hasTraveller q_a1 hx6) (isk_u hi) (Rm_of hRm (by decide) ⟨by decide, by decide⟩) (by decide) rfl (Nat.le_of_ble_eq_true rfl) rfl (dk D_X11_through 16 rfl) (fun qx6 => ?_)
    refine r_if_eq (pc := 36) hX qx6 44 rfl (dk D_X11_through 17 rfl) (fun hc => ?_) (fun hc => ?_)
    · rw [if_pos hc] at h
      refine r_bipush (pc := 44) hX rfl (dk D_X11_through 20 rfl) ?_
      cases h
      exact r_ireturn (pc := 46) hX (R32_lit rfl) hM ⟨by decide, by decide⟩ (dk D_X11_through 21 rfl)
    · rw [if_neg hc] at h
      refine r_iload (pc := 39) hX 0 rfl (dk D_X11_through 18 rfl) ?_
      refine r_if_ne (pc := 41) hX qy1 47 rfl (dk D_X11_through 19 rfl) (fun hc => ?_) (fun hc => ?_)
      · rw [if_neg hc] at h
        refine r_aloadn (pc := 47) hX 1 rfl (dk D_X11_through 22 rfl) ?_
        obtain ⟨x8, hx8, h⟩ := bd_some h
        refine r_getR (pc := 48) hX fl_11_26 rfl hx8 (dk D_X11_through 23 rfl) ?_
        obtain ⟨x9, hx9, h⟩ := bd_some h
        refine r_getR (pc := 51) hX fl_11_118 rfl hx9 (dk D_X11_through 24 rfl) ?_
        refine r_iloadn (pc := 54) hX 3 rfl (dk D_X11_through 25 rfl) ?_
        obtain ⟨_, hi, h⟩ := bd_some h
        obtain ⟨x10, μ11, hx10, h⟩ := bd2_some h
        refine r_invV0 (As := [(0, a2)]) (pc := 55) hX ml_11_326 (L_Kg_hasTowns q_a2 hx10) (isk_u hi) (Rm_of hRm (by decide) ⟨by decide, by decide⟩) (by decide) rfl (Nat.le_of_ble_eq_true rfl) rfl (dk D_X11_through 26 rfl) (fun qx10 => ?_)
        refine r_if_eq (pc := 58) hX qx10 71 rfl (dk D_X11_through 27 rfl) (fun hc => ?_) (fun hc => ?_)
        · rw [if_pos hc] at h
          refine r_bipush (pc := 71) hX rfl (dk D_X11_through 33 rfl) ?_
          cases h
          exact r_ireturn (pc := 73) hX (R32_lit rfl) hM ⟨by decide, by decide⟩ (dk D_X11_through 34 rfl)
        · rw [if_neg hc] at h
          refine r_iloadn (pc := 61) hX 4 rfl (dk D_X11_through 28 rfl) ?_
          refine r_if_lt (pc := 62) hX q_a3 71 rfl (dk D_X11_through 29 rfl) (fun hc => ?_) (fun hc => ?_)
          · rw [if_pos hc] at h
            refine r_bipush (pc := 71) hX rfl (dk D_X11_through 33 rfl) ?_
            cases h
            exact r_ireturn (pc := 73) hX (R32_lit rfl) hM ⟨by decide, by decide⟩ (dk D_X11_through 34 rfl)
          · rw [if_neg hc] at h
            refine r_iloadn (pc := 65) hX 4 rfl (dk D_X11_through 30 rfl) ?_
            refine r_bipush (pc := 66) hX rfl (dk D_X11_through 31 rfl) ?_
            refine r_icmp_le (pc := 68) hX q_a3 (R32_lit rfl) 74 rfl (dk D_X11_through 32 rfl) (fun hc => ?_) (fun hc => ?_)
            · rw [if_neg hc] at h
              refine r_aloadn (pc := 74) hX 1 rfl (dk D_X11_through 35 rfl) ?_
              obtain ⟨x12, hx12, h⟩ := bd_some h
              refine r_getR (pc := 75) hX fl_11_81 rfl hx12 (dk D_X11_through 36 rfl) ?_
              refine r_aloadn (pc := 78) hX 1 rfl (dk D_X11_through 37 rfl) ?_
              obtain ⟨x13, hx13, h⟩ := bd_some h
              refine r_getR (pc := 79) hX fl_11_26 rfl hx13 (dk D_X11_through 38 rfl) ?_
              refine r_aloadn (pc := 82) hX 1 rfl (dk D_X11_through 39 rfl) ?_
              obtain ⟨x14, hx14, h⟩ := bd_some h
              refine r_getR (pc := 83) hX fl_11_26 rfl hx14 (dk D_X11_through 40 rfl) ?_
              obtain ⟨x15, hx15, h⟩ := bd_some h
              refine r_getR (pc := 86) hX fl_11_186 rfl hx15 (dk D_X11_through 41 rfl) ?_
              refine r_iloadn (pc := 89) hX 2 rfl (dk D_X11_through 42 rfl) ?_
              obtain ⟨x16, hx16, h⟩ := bd_some h
              refine r_aald24 (pc := 90) hX q_a1 hx16 (dk D_X11_through 43 rfl) ?_
              refine r_iloadn (pc := 91) hX 3 rfl (dk D_X11_through 44 rfl) ?_
              refine r_iloadn (pc := 92) hX 4 rfl (dk D_X11_through 45 rfl) ?_
              obtain ⟨_, hi, h⟩ := bd_some h
              obtain ⟨x17, μ18, hx17, h⟩ := bd2_some h
              refine r_invV0 (As := [(2, x13), (2, x16), (0, a2), (0, a3)]) (pc := 93) hX ml_11_329 (L_To_seek q_a2 q_a3 hx17) (isk_u hi) (Rm_of hRm (by decide) ⟨by decide, by decide⟩) (by decide) rfl (Nat.le_of_ble_eq_true rfl) rfl (dk D_X11_through 46 rfl) (fun _ => ?_)
              refine r_aloadn (pc := 96) hX 1 rfl (dk D_X11_through 47 rfl) ?_
              obtain ⟨x19, hx19, h⟩ := bd_some h
              refine r_getR (pc := 97) hX fl_11_81 rfl hx19 (dk D_X11_through 48 rfl) ?_
              obtain ⟨x20, hx20, h⟩ := bd_some h
              refine r_getI (pc := 100) hX fl_11_333 rfl rfl hx20 (dk D_X11_through 49 rfl) (fun qx20 => ?_)
              refine r_ldcw (pc := 103) hX cn_11_336 (dk D_X11_through 50 rfl) ?_
              refine r_icmp_le (pc := 106) hX qx20 (R32_lit rfl) 112 rfl (dk D_X11_through 51 rfl) (fun hc => ?_) (fun hc => ?_)
              · rw [if_neg hc] at h
                refine r_aloadn (pc := 112) hX 1 rfl (dk D_X11_through 54 rfl) ?_
                obtain ⟨x21, hx21, h⟩ := bd_some h
                refine r_getR (pc := 113) hX fl_11_81 rfl hx21 (dk D_X11_through 55 rfl) ?_
                obtain ⟨x22, hx22, h⟩ := bd_some h
                refine r_getI (pc := 116) hX fl_11_337 rfl rfl hx22 (dk D_X11_through 56 rfl) (fun qx22 => ?_)
                refine r_iconst (pc := 119) hX (dk D_X11_through 57 rfl) ?_
                refine r_icmp_ne (pc := 120) hX qx22 (R32_lit rfl) 136 rfl (dk D_X11_through 58 rfl) (fun hc => ?_) (fun hc => ?_)
                · rw [if_neg hc] at h
                  refine r_iload (pc := 136) hX 5 rfl (dk D_X11_through 65 rfl) ?_
                  by_cases hc0 : a4 = 0
                  · rw [if_pos hc0] at h
                    refine r_lookup (off := 26) (pc := 138) hX q_a4 164 (dk D_X11_through 66 rfl) rfl (by rw [hc0] <;> rfl) rfl ?_
                    refine r_aloadn (pc := 164) hX 1 rfl (dk D_X11_through 67 rfl) ?_
                    obtain ⟨x23, hx23, h⟩ := bd_some h
                    refine r_getR (pc := 165) hX fl_11_81 rfl hx23 (dk D_X11_through 68 rfl) ?_
                    obtain ⟨x24, hx24, h⟩ := bd_some h
                    refine r_getI (pc := 168) hX fl_11_340 rfl rfl hx24 (dk D_X11_through 69 rfl) (fun qx24 => ?_)
                    refine r_aloadn (pc := 171) hX 1 rfl (dk D_X11_through 70 rfl) ?_
                    obtain ⟨x25, hx25, h⟩ := bd_some h
                    refine r_getR (pc := 172) hX fl_11_26 rfl hx25 (dk D_X11_through 71 rfl) ?_
                    obtain ⟨x26, hx26, h⟩ := bd_some h
                    refine r_getR (pc := 175) hX fl_11_186 rfl hx26 (dk D_X11_through 72 rfl) ?_
                    refine r_iloadn (pc := 178) hX 2 rfl (dk D_X11_through 73 rfl) ?_
                    obtain ⟨x27, hx27, h⟩ := bd_some h
                    refine r_aald24 (pc := 179) hX q_a1 hx27 (dk D_X11_through 74 rfl) ?_
                    obtain ⟨x28, hx28, h⟩ := bd_some h
                    refine r_getI (pc := 180) hX fl_11_196 rfl rfl hx28 (dk D_X11_through 75 rfl) (fun qx28 => ?_)
                    refine r_isub (pc := 183) hX (dk D_X11_through 76 rfl) ?_
                    cases h
                    exact r_ireturn (pc := 184) hX (R32_w _) hM ⟨by decide, by decide⟩ (dk D_X11_through 77 rfl)
                  · rw [if_neg hc0] at h
                    by_cases hc1 : a4 = 1
                    · rw [if_pos hc1] at h
                      refine r_lookup (off := 47) (pc := 138) hX q_a4 185 (dk D_X11_through 66 rfl) rfl (by rw [hc1] <;> rfl) rfl ?_
                      refine r_aloadn (pc := 185) hX 1 rfl (dk D_X11_through 78 rfl) ?_
                      obtain ⟨x29, hx29, h⟩ := bd_some h
                      refine r_getR (pc := 186) hX fl_11_81 rfl hx29 (dk D_X11_through 79 rfl) ?_
                      obtain ⟨x30, hx30, h⟩ := bd_some h
                      refine r_getI (pc := 189) hX fl_11_337 rfl rfl hx30 (dk D_X11_through 80 rfl) (fun qx30 => ?_)
                      cases h
                      exact r_ireturn (pc := 192) hX qx30 hM ⟨by decide, by decide⟩ (dk D_X11_through 81 rfl)
                    · rw [if_neg hc1] at h
                      refine r_lookup (off := 55) (pc := 138) hX q_a4 193 (dk D_X11_through 66 rfl) rfl (by simp [Op.lookupswitch.offset, hc0, Ne.symm hc0, hc1, Ne.symm hc1]) rfl ?_
                      refine r_iload (pc := 193) hX 5 rfl (dk D_X11_through 82 rfl) ?_
                      refine r_bipush (pc := 195) hX rfl (dk D_X11_through 83 rfl) ?_
                      refine r_isub (pc := 197) hX (dk D_X11_through 84 rfl) ?_
                      refine r_aloadn (pc := 198) hX 1 rfl (dk D_X11_through 85 rfl) ?_
                      obtain ⟨x31, hx31, h⟩ := bd_some h
                      refine r_getR (pc := 199) hX fl_11_81 rfl hx31 (dk D_X11_through 86 rfl) ?_
                      obtain ⟨x32, hx32, h⟩ := bd_some h
                      refine r_getI (pc := 202) hX fl_11_337 rfl rfl hx32 (dk D_X11_through 87 rfl) (fun qx32 => ?_)
                      refine r_icmp_ge (pc := 205) hX (R32_w _) qx32 224 rfl (dk D_X11_through 88 rfl) (fun hc => ?_) (fun hc => ?_)
                      · rw [if_neg hc] at h
                        refine r_iconst (pc := 224) hX (dk D_X11_through 97 rfl) ?_
                        cases h
                        exact r_ireturn (pc := 225) hX (R32_lit rfl) hM ⟨by decide, by decide⟩ (dk D_X11_through 98 rfl)
                      · rw [if_pos hc] at h
                        refine r_aloadn (pc := 208) hX 1 rfl (dk D_X11_through 89 rfl) ?_
                        obtain ⟨x33, hx33, h⟩ := bd_some h
                        refine r_getR (pc := 209) hX fl_11_81 rfl hx33 (dk D_X11_through 90 rfl) ?_
                        obtain ⟨x34, hx34, h⟩ := bd_some h
                        refine r_getR (pc := 212) hX fl_11_341 rfl hx34 (dk D_X11_through 91 rfl) ?_
                        refine r_iload (pc := 215) hX 5 rfl (dk D_X11_through 92 rfl) ?_
                        refine r_bipush (pc := 217) hX rfl (dk D_X11_through 93 rfl) ?_
                        refine r_isub (pc := 219) hX (dk D_X11_through 94 rfl) ?_
                        obtain ⟨x35, hx35, h⟩ := bd_some h
                        refine r_iald (pc := 220) hX (R32_w _) hx35 (dk D_X11_through 95 rfl) (fun qx35 => ?_)
                        refine r_goto (pc := 221) hX 225 rfl (dk D_X11_through 96 rfl) ?_
                        cases h
                        exact r_ireturn (pc := 225) hX qx35 hM ⟨by decide, by decide⟩ (dk D_X11_through 98 rfl)
                · rw [if_pos hc] at h
                  refine r_iload (pc := 123) hX 5 rfl (dk D_X11_through 59 rfl) ?_
                  refine r_if_ne (pc := 125) hX q_a4 134 rfl (dk D_X11_through 60 rfl) (fun hc => ?_) (fun hc => ?_)
                  · rw [if_neg hc] at h
                    refine r_iconst (pc := 134) hX (dk D_X11_through 63 rfl) ?_
                    cases h
                    exact r_ireturn (pc := 135) hX (R32_lit rfl) hM ⟨by decide, by decide⟩ (dk D_X11_through 64 rfl)
                  · rw [if_pos hc] at h
                    refine r_ldcw (pc := 128) hX cn_11_315 (dk D_X11_through 61 rfl) ?_
                    refine r_goto (pc := 131) hX 135 rfl (dk D_X11_through 62 rfl) ?_
                    cases h
                    exact r_ireturn (pc := 135) hX (R32_lit rfl) hM ⟨by decide, by decide⟩ (dk D_X11_through 64 rfl)
              · rw [if_pos hc] at h
                refine r_bipush (pc := 109) hX rfl (dk D_X11_through 52 rfl) ?_
                cases h
                exact r_ireturn (pc := 111) hX (R32_lit rfl) hM ⟨by decide, by decide⟩ (dk D_X11_through 53 rfl)
            · rw [if_pos hc] at h
              refine r_bipush (pc := 71) hX rfl (dk D_X11_through 33 rfl) ?_
              cases h
              exact r_ireturn (pc := 73) hX (R32_lit rfl) hM ⟨by decide, by decide⟩ (dk D_X11_through 34 rfl)
      · rw [if_pos hc] at h
        refine r_bipush (pc := 44) hX rfl (dk D_X11_through 20 rfl) ?_
        cases h
        exact r_ireturn (pc := 46) hX (R32_lit rfl) hM ⟨by decide, by decide⟩ (dk D_X11_through 21 rfl)
  clear h
  have h := hb
  clear hb
  refine r_if_eq (pc := 2) hX q_a4 21 rfl (dk D_X11_through 1 rfl) (fun hc => ?_) (fun hc => ?_)
  · rw [if_pos hc] at h
    refine r_iconst (pc := 21) hX (dk D_X11_through 9 rfl) ?_
    refine r_goto (pc := 22) hX 26 rfl (dk D_X11_through 10 rfl) ?_
    replace h := Option.some.inj h
    obtain ⟨h_0, h⟩ := Prod.mk.inj h
    subst y1
    subst μ2
    exact hj (R32_lit rfl)
  · rw [if_neg hc] at h
    refine r_iload (pc := 5) hX 4 rfl (dk D_X11_through 2 rfl) ?_
    refine r_iconst (pc := 7) hX (dk D_X11_through 3 rfl) ?_
    refine r_icmp_eq (pc := 8) hX q_a4 (R32_lit rfl) 21 rfl (dk D_X11_through 4 rfl) (fun hc => ?_) (fun hc => ?_)
    · rw [if_pos hc] at h
      refine r_iconst (pc := 21) hX (dk D_X11_through 9 rfl) ?_
      refine r_goto (pc := 22) hX 26 rfl (dk D_X11_through 10 rfl) ?_
      replace h := Option.some.inj h
      obtain ⟨h_0, h⟩ := Prod.mk.inj h
      subst y1
      subst μ2
      exact hj (R32_lit rfl)
    · rw [if_neg hc] at h
      refine r_iload (pc := 11) hX 4 rfl (dk D_X11_through 5 rfl) ?_
      refine r_bipush (pc := 13) hX rfl (dk D_X11_through 6 rfl) ?_
      obtain ⟨x3, μ4, hx3, h⟩ := bd2_some h
      refine r_invS0 (As := [(0, a4), (0, 8)]) (pc := 15) hX ml_11_323 (L_T_isRoadPlace q_a4 (R32_lit rfl) hx3) (Rm_of hRm (by decide) ⟨by decide, by decide⟩) (by decide) rfl (Nat.le_of_ble_eq_true rfl) rfl (dk D_X11_through 7 rfl) (fun qx3 => ?_)
      refine r_if_eq (pc := 18) hX qx3 25 rfl (dk D_X11_through 8 rfl) (fun hc => ?_) (fun hc => ?_)
      · rw [if_pos hc] at h
        refine r_iconst (pc := 25) hX (dk D_X11_through 11 rfl) ?_
        replace h := Option.some.inj h
        obtain ⟨h_0, h⟩ := Prod.mk.inj h
        subst y1
        subst μ2
        exact hj (R32_lit rfl)
      · rw [if_neg hc] at h
        refine r_iconst (pc := 21) hX (dk D_X11_through 9 rfl) ?_
        refine r_goto (pc := 22) hX 26 rfl (dk D_X11_through 10 rfl) ?_
        replace h := Option.some.inj h
        obtain ⟨h_0, h⟩ := Prod.mk.inj h
        subst y1
        subst μ2
        exact hj (R32_lit rfl)
set_option maxRecDepth 100000 in
set_option maxHeartbeats 4000000 in
theorem L_T_forgedPlace_J65 {E : EX} {X : CX} {res : Int} {μe : Mem} (hX : Good E X cX11_forgedPlace 6 "TollsBack") (hM : GoodM E X (some .int) (some (0, res)) μe 0 0) (hRm : cR X = rmOf 3 0 0) {k16 : Int → Int → Int → Int → Int → Mem → Option (Int × Mem)} (hk16 : ∀ (u0 u1 u2 u3 u4 : Int) (μ : Mem), R32 u2 → R32 u3 → R32 u4 → k16 u0 u1 u2 u3 u4 μ = some (res, μe) → At E X cX11_forgedPlace 6 "TollsBack" (0, 0) 16 [(0, 2, u0), (1, 2, u1), (2, 0, u2), (3, 0, u3), (4, 0, u4)] [] μ) {v0 v1 v4 v5 : Int} {μ : Mem} (q_v4 : R32 v4) (q_v5 : R32 v5) (h : T_forgedPlace_J65 k16 v0 v1 v4 v5 μ = some (res, μe)) : At E X cX11_forgedPlace 6 "TollsBack" (0, 0) 65 [(0, 2, v0), (1, 2, v1), (4, 0, v4), (5, 0, v5)] [] μ := by
  unfold T_forgedPlace_J65 at h
  refine r_aloadn (pc := 65) hX 0 rfl (dk D_X11_forgedPlace 34 rfl) ?_
  obtain ⟨x1, hx1, h⟩ := bd_some h
  refine r_getR (pc := 66) hX fl_11_26 rfl hx1 (dk D_X11_forgedPlace 35 rfl) ?_
  obtain ⟨x2, hx2, h⟩ := bd_some h
  refine r_getR (pc := 69) hX fl_11_118 rfl hx2 (dk D_X11_forgedPlace 36 rfl) ?_
  refine r_iload (pc := 72) hX 3 rfl (dk D_X11_forgedPlace 37 rfl) ?_
  obtain ⟨_, hi, h⟩ := bd_some h
  obtain ⟨x3, μ4, hx3, h⟩ := bd2_some h
  refine r_invV0 (As := [(0, v5)]) (pc := 74) hX ml_11_214 (L_Kg_endOf q_v5 hx3) (isk_u hi) (Rm_of hRm (by decide) ⟨by decide, by decide⟩) (by decide) rfl (Nat.le_of_ble_eq_true rfl) rfl (dk D_X11_forgedPlace 38 rfl) (fun qx3 => ?_)
  refine r_istoren (lv' := [(2, 0, x3), (0, 2, v0), (1, 2, v1), (4, 0, v4), (5, 0, v5)]) (pc := 77) hX (by decide) rfl (dk D_X11_forgedPlace 39 rfl) ?_
  refine r_iload (pc := 78) hX 4 rfl (dk D_X11_forgedPlace 40 rfl) ?_
  refine r_istoren (lv' := [(3, 0, v5), (2, 0, x3), (0, 2, v0), (1, 2, v1), (4, 0, v4), (5, 0, v5)]) (pc := 80) hX (by decide) rfl (dk D_X11_forgedPlace 41 rfl) ?_
  refine r_iinc (lv' := [(4, 0, (w32 (v4 + 1))), (3, 0, v5), (2, 0, x3), (0, 2, v0), (1, 2, v1), (5, 0, v5)]) (pc := 81) hX 4 rfl (by decide) rfl (dk D_X11_forgedPlace 42 rfl) ?_
  refine r_goto (pc := 84) hX 16 rfl (dk D_X11_forgedPlace 43 rfl) ?_
  refine r_sub (lv' := [(0, 2, v0), (1, 2, v1), (2, 0, x3), (3, 0, v5), (4, 0, (w32 (v4 + 1)))]) [3, 4, 2, 1, 0] rfl ?_
  exact hk16 v0 v1 x3 v5 (w32 (v4 + 1)) μ4 qx3 q_v5 (R32_w _) h
set_option maxRecDepth 100000 in
set_option maxHeartbeats 4000000 in
theorem L_T_forgedPlace_L16 {E : EX} {X : CX} {res : Int} {μe : Mem} (hX : Good E X cX11_forgedPlace 6 "TollsBack") (hM : GoodM E X (some .int) (some (0, res)) μe 0 0) (hRm : cR X = rmOf 3 0 0) : ∀ (n : Nat) (v0 v1 v2 v3 v4 : Int) (μ : Mem) (q_v2 : R32 v2) (q_v3 : R32 v3) (q_v4 : R32 v4) (h : T_forgedPlace_L16 n v0 v1 v2 v3 v4 μ = some (res, μe)), At E X cX11_forgedPlace 6 "TollsBack" (0, 0) 16 [(0, 2, v0), (1, 2, v1), (2, 0, v2), (3, 0, v3), (4, 0, v4)] [] μ := by
  intro n
  induction n with
  | zero =>
    intro v0 v1 v2 v3 v4 μ q_v2 q_v3 q_v4 h
    have h : (none : Option (Int × Mem)) = some (res, μe) := h
    cases h
  | succ n ih =>
    intro v0 v1 v2 v3 v4 μ q_v2 q_v3 q_v4 h
    rw [T_forgedPlace_L16.eq_2] at h
    refine r_iload (pc := 16) hX 4 rfl (dk D_X11_forgedPlace 9 rfl) ?_
    refine r_aloadn (pc := 18) hX 1 rfl (dk D_X11_forgedPlace 10 rfl) ?_
    obtain ⟨x1, hx1, h⟩ := bd_some h
    refine r_getI (pc := 19) hX fl_11_262 rfl rfl hx1 (dk D_X11_forgedPlace 11 rfl) (fun qx1 => ?_)
    refine r_icmp_ge (pc := 22) hX q_v4 qx1 87 rfl (dk D_X11_forgedPlace 12 rfl) (fun hc => ?_) (fun hc => ?_)
    · rw [if_neg hc] at h
      refine r_iconst (pc := 87) hX (dk D_X11_forgedPlace 44 rfl) ?_
      cases h
      exact r_ireturn (pc := 88) hX (R32_lit rfl) hM ⟨by decide, by decide⟩ (dk D_X11_forgedPlace 45 rfl)
    · rw [if_pos hc] at h
      refine r_aloadn (pc := 25) hX 1 rfl (dk D_X11_forgedPlace 13 rfl) ?_
      refine r_iload (pc := 26) hX 4 rfl (dk D_X11_forgedPlace 14 rfl) ?_
      obtain ⟨_, hi, h⟩ := bd_some h
      obtain ⟨x2, μ3, hx2, h⟩ := bd2_some h
      refine r_invV0 (As := [(0, v4)]) (pc := 28) hX ml_11_265 (L_Nu_smallAt q_v4 hx2) (isk_u hi) (Rm_of hRm (by decide) ⟨by decide, by decide⟩) (by decide) rfl (Nat.le_of_ble_eq_true rfl) rfl (dk D_X11_forgedPlace 15 rfl) (fun qx2 => ?_)
      refine r_istore (lv' := [(5, 0, x2), (0, 2, v0), (1, 2, v1), (2, 0, v2), (3, 0, v3), (4, 0, v4)]) (pc := 31) hX (by decide) rfl (dk D_X11_forgedPlace 16 rfl) ?_
      refine r_aloadn (pc := 33) hX 1 rfl (dk D_X11_forgedPlace 17 rfl) ?_
      obtain ⟨x4, hx4, h⟩ := bd_some h
      refine r_getR (pc := 34) hX fl_11_26 rfl hx4 (dk D_X11_forgedPlace 18 rfl) ?_
      obtain ⟨x5, hx5, h⟩ := bd_some h
      refine r_getR (pc := 37) hX fl_11_118 rfl hx5 (dk D_X11_forgedPlace 19 rfl) ?_
      refine r_iload (pc := 40) hX 0 rfl (dk D_X11_forgedPlace 20 rfl) ?_
      obtain ⟨_, hi, h⟩ := bd_some h
      obtain ⟨x6, μ7, hx6, h⟩ := bd2_some h
      refine r_invV0 (As := [(0, x2)]) (pc := 42) hX ml_11_211 (L_Kg_startOf qx2 hx6) (isk_u hi) (Rm_of hRm (by decide) ⟨by decide, by decide⟩) (by decide) rfl (Nat.le_of_ble_eq_true rfl) rfl (dk D_X11_forgedPlace 21 rfl) (fun qx6 => ?_)
      refine r_iloadn (pc := 45) hX 3 rfl (dk D_X11_forgedPlace 22 rfl) ?_
      refine r_icmp_ne (pc := 46) hX qx6 q_v2 62 rfl (dk D_X11_forgedPlace 23 rfl) (fun hc => ?_) (fun hc => ?_)
      · rw [if_neg hc] at h
        refine r_iload (pc := 62) hX 5 rfl (dk D_X11_forgedPlace 32 rfl) ?_
        cases h
        exact r_ireturn (pc := 64) hX q_v4 hM ⟨by decide, by decide⟩ (dk D_X11_forgedPlace 33 rfl)
      · rw [if_pos hc] at h
        refine r_iloadn (pc := 49) hX 4 rfl (dk D_X11_forgedPlace 24 rfl) ?_
        refine r_iconst (pc := 50) hX (dk D_X11_forgedPlace 25 rfl) ?_
        refine r_icmp_eq (pc := 51) hX q_v3 (R32_lit rfl) 65 rfl (dk D_X11_forgedPlace 26 rfl) (fun hc => ?_) (fun hc => ?_)
        · rw [if_pos hc] at h
          refine r_sub (lv' := [(0, 2, v0), (1, 2, v1), (4, 0, v4), (5, 0, x2)]) [1, 2, 5, 0] rfl ?_
          refine L_T_forgedPlace_J65 hX hM hRm (fun u0 u1 u2 u3 u4 μ qu2 qu3 qu4 h => ih u0 u1 u2 u3 u4 μ qu2 qu3 qu4 h) q_v4 qx2 h
        · rw [if_neg hc] at h
          refine r_iload (pc := 54) hX 0 rfl (dk D_X11_forgedPlace 27 rfl) ?_
          refine r_iloadn (pc := 56) hX 4 rfl (dk D_X11_forgedPlace 28 rfl) ?_
          refine r_iconst (pc := 57) hX (dk D_X11_forgedPlace 29 rfl) ?_
          refine r_ixor (pc := 58) hX (dk D_X11_forgedPlace 30 rfl) ?_
          refine r_icmp_ne (pc := 59) hX qx2 (R32_t _) 65 rfl (dk D_X11_forgedPlace 31 rfl) (fun hc => ?_) (fun hc => ?_)
          · rw [if_neg hc] at h
            refine r_sub (lv' := [(0, 2, v0), (1, 2, v1), (4, 0, v4), (5, 0, x2)]) [1, 2, 5, 0] rfl ?_
            refine L_T_forgedPlace_J65 hX hM hRm (fun u0 u1 u2 u3 u4 μ qu2 qu3 qu4 h => ih u0 u1 u2 u3 u4 μ qu2 qu3 qu4 h) q_v4 qx2 h
          · rw [if_pos hc] at h
            refine r_iload (pc := 62) hX 5 rfl (dk D_X11_forgedPlace 32 rfl) ?_
            cases h
            exact r_ireturn (pc := 64) hX q_v4 hM ⟨by decide, by decide⟩ (dk D_X11_forgedPlace 33 rfl)
set_option maxRecDepth 100000 in
set_option maxHeartbeats 4000000 in
theorem L_T_forgedPlace {E : EX} {l : Launch} {a0 a1 res : Int} {μ μ' : Mem}  (h : T_forgedPlace a0 a1 μ = some (res, μ')) : Ok E l 3 yX11_forgedPlace (.code yX11_forgedPlace cX11_forgedPlace 6 (some .int)) 0 0 [(2, a0), (2, a1)] μ (some (0, res)) μ' := by
  refine Ok.of (own := "TollsBack") [(0, 2, a0), (1, 2, a1)] (by decide +kernel) rfl (Nat.le_of_ble_eq_true rfl) rfl ?_
  intro X hL hRm hin hX hM
  unfold T_forgedPlace at h
  subst hL
  refine r_aloadn (pc := 0) hX 0 rfl (dk D_X11_forgedPlace 0 rfl) ?_
  obtain ⟨x1, hx1, h⟩ := bd_some h
  refine r_getR (pc := 1) hX fl_11_26 rfl hx1 (dk D_X11_forgedPlace 1 rfl) ?_
  obtain ⟨x2, hx2, h⟩ := bd_some h
  refine r_getR (pc := 4) hX fl_11_118 rfl hx2 (dk D_X11_forgedPlace 2 rfl) ?_
  obtain ⟨x3, hx3, h⟩ := bd_some h
  refine r_getI (pc := 7) hX fl_11_359 rfl rfl hx3 (dk D_X11_forgedPlace 3 rfl) (fun qx3 => ?_)
  refine r_istoren (lv' := [(2, 0, x3), (0, 2, a0), (1, 2, a1)]) (pc := 10) hX (by decide) rfl (dk D_X11_forgedPlace 4 rfl) ?_
  refine r_iconst (pc := 11) hX (dk D_X11_forgedPlace 5 rfl) ?_
  refine r_istoren (lv' := [(3, 0, (-1)), (2, 0, x3), (0, 2, a0), (1, 2, a1)]) (pc := 12) hX (by decide) rfl (dk D_X11_forgedPlace 6 rfl) ?_
  refine r_iconst (pc := 13) hX (dk D_X11_forgedPlace 7 rfl) ?_
  refine r_istore (lv' := [(4, 0, 0), (3, 0, (-1)), (2, 0, x3), (0, 2, a0), (1, 2, a1)]) (pc := 14) hX (by decide) rfl (dk D_X11_forgedPlace 8 rfl) ?_
  refine r_sub (lv' := [(0, 2, a0), (1, 2, a1), (2, 0, x3), (3, 0, (-1)), (4, 0, 0)]) [3, 4, 2, 1, 0] rfl ?_
  refine L_T_forgedPlace_L16 hX hM hRm FU a0 a1 x3 (-1) 0 μ qx3 (R32_lit rfl) (R32_lit rfl) h
set_option maxRecDepth 100000 in
set_option maxHeartbeats 4000000 in
theorem L_T_slipsRefusal_L43 {E : EX} {X : CX} {res : Int} {μe : Mem} (hX : Good E X cX11_slipsRefusal 4 "TollsBack") (hM : GoodM E X (some .int) (some (0, res)) μe 0 0) (hRm : cR X = rmOf 2 0 0) : ∀ (n : Nat) (v0 v1 v2 : Int) (μ : Mem) (q_v1 : R32 v1) (q_v2 : R32 v2) (h : T_slipsRefusal_L43 n v0 v1 v2 μ = some (res, μe)), At E X cX11_slipsRefusal 4 "TollsBack" (0, 0) 43 [(0, 2, v0), (1, 0, v1), (2, 0, v2)] [] μ := by
  intro n
  induction n with
  | zero =>
    intro v0 v1 v2 μ q_v1 q_v2 h
    have h : (none : Option (Int × Mem)) = some (res, μe) := h
    cases h
  | succ n ih =>
    intro v0 v1 v2 μ q_v1 q_v2 h
    rw [T_slipsRefusal_L43.eq_2] at h
    refine r_iloadn (pc := 43) hX 2 rfl (dk D_X11_slipsRefusal 22 rfl) ?_
    refine r_aloadn (pc := 44) hX 0 rfl (dk D_X11_slipsRefusal 23 rfl) ?_
    obtain ⟨x1, hx1, h⟩ := bd_some h
    refine r_getR (pc := 45) hX fl_11_36 rfl hx1 (dk D_X11_slipsRefusal 24 rfl) ?_
    refine r_iloadn (pc := 48) hX 1 rfl (dk D_X11_slipsRefusal 25 rfl) ?_
    obtain ⟨x2, hx2, h⟩ := bd_some h
    refine r_aald26 (pc := 49) hX q_v1 hx2 (dk D_X11_slipsRefusal 26 rfl) ?_
    obtain ⟨x3, hx3, h⟩ := bd_some h
    refine r_getI (pc := 50) hX fl_11_262 rfl rfl hx3 (dk D_X11_slipsRefusal 27 rfl) (fun qx3 => ?_)
    refine r_icmp_ge (pc := 53) hX q_v2 qx3 96 rfl (dk D_X11_slipsRefusal 28 rfl) (fun hc => ?_) (fun hc => ?_)
    · rw [if_neg hc] at h
      refine r_iconst (pc := 96) hX (dk D_X11_slipsRefusal 50 rfl) ?_
      cases h
      exact r_ireturn (pc := 97) hX (R32_lit rfl) hM ⟨by decide, by decide⟩ (dk D_X11_slipsRefusal 51 rfl)
    · rw [if_pos hc] at h
      refine r_aloadn (pc := 56) hX 0 rfl (dk D_X11_slipsRefusal 29 rfl) ?_
      obtain ⟨x4, hx4, h⟩ := bd_some h
      refine r_getR (pc := 57) hX fl_11_36 rfl hx4 (dk D_X11_slipsRefusal 30 rfl) ?_
      refine r_iloadn (pc := 60) hX 1 rfl (dk D_X11_slipsRefusal 31 rfl) ?_
      obtain ⟨x5, hx5, h⟩ := bd_some h
      refine r_aald26 (pc := 61) hX q_v1 hx5 (dk D_X11_slipsRefusal 32 rfl) ?_
      refine r_iloadn (pc := 62) hX 2 rfl (dk D_X11_slipsRefusal 33 rfl) ?_
      obtain ⟨_, hi, h⟩ := bd_some h
      obtain ⟨x6, μ7, hx6, h⟩ := bd2_some h
      refine r_invV0 (As := [(0, v2)]) (pc := 63) hX ml_11_265 (L_Nu_smallAt q_v2 hx6) (isk_u hi) (Rm_of hRm (by decide) ⟨by decide, by decide⟩) (by decide) rfl (Nat.le_of_ble_eq_true rfl) rfl (dk D_X11_slipsRefusal 34 rfl) (fun qx6 => ?_)
      refine r_istoren (lv' := [(3, 0, x6), (0, 2, v0), (1, 0, v1), (2, 0, v2)]) (pc := 66) hX (by decide) rfl (dk D_X11_slipsRefusal 35 rfl) ?_
      refine r_iloadn (pc := 67) hX 0 rfl (dk D_X11_slipsRefusal 36 rfl) ?_
      refine r_if_lt (pc := 68) hX qx6 87 rfl (dk D_X11_slipsRefusal 37 rfl) (fun hc => ?_) (fun hc => ?_)
      · rw [if_pos hc] at h
        refine r_bipush (pc := 87) hX rfl (dk D_X11_slipsRefusal 46 rfl) ?_
        cases h
        exact r_ireturn (pc := 89) hX (R32_lit rfl) hM ⟨by decide, by decide⟩ (dk D_X11_slipsRefusal 47 rfl)
      · rw [if_neg hc] at h
        refine r_aloadn (pc := 71) hX 1 rfl (dk D_X11_slipsRefusal 38 rfl) ?_
        obtain ⟨x8, hx8, h⟩ := bd_some h
        refine r_getR (pc := 72) hX fl_11_26 rfl hx8 (dk D_X11_slipsRefusal 39 rfl) ?_
        obtain ⟨x9, hx9, h⟩ := bd_some h
        refine r_getR (pc := 75) hX fl_11_118 rfl hx9 (dk D_X11_slipsRefusal 40 rfl) ?_
        refine r_iloadn (pc := 78) hX 0 rfl (dk D_X11_slipsRefusal 41 rfl) ?_
        refine r_iconst (pc := 79) hX (dk D_X11_slipsRefusal 42 rfl) ?_
        refine r_ishr (pc := 80) hX (dk D_X11_slipsRefusal 43 rfl) ?_
        obtain ⟨_, hi, h⟩ := bd_some h
        obtain ⟨x10, μ11, hx10, h⟩ := bd2_some h
        refine r_invV0 (As := [(0, (shr32 x6 1))]) (pc := 81) hX ml_11_126 (L_Kg_hasRoad (R32_t _) hx10) (isk_u hi) (Rm_of hRm (by decide) ⟨by decide, by decide⟩) (by decide) rfl (Nat.le_of_ble_eq_true rfl) rfl (dk D_X11_slipsRefusal 44 rfl) (fun qx10 => ?_)
        refine r_if_ne (pc := 84) hX qx10 90 rfl (dk D_X11_slipsRefusal 45 rfl) (fun hc => ?_) (fun hc => ?_)
        · rw [if_neg hc] at h
          refine r_iinc (lv' := [(2, 0, (w32 (v2 + 1))), (3, 0, x6), (0, 2, v0), (1, 0, v1)]) (pc := 90) hX 3 rfl (by decide) rfl (dk D_X11_slipsRefusal 48 rfl) ?_
          refine r_goto (pc := 93) hX 43 rfl (dk D_X11_slipsRefusal 49 rfl) ?_
          refine r_sub (lv' := [(0, 2, v0), (1, 0, v1), (2, 0, (w32 (v2 + 1)))]) [2, 3, 0] rfl ?_
          exact ih v0 v1 (w32 (v2 + 1)) μ11 q_v1 (R32_w _) h
        · rw [if_pos hc] at h
          refine r_bipush (pc := 87) hX rfl (dk D_X11_slipsRefusal 46 rfl) ?_
          cases h
          exact r_ireturn (pc := 89) hX (R32_lit rfl) hM ⟨by decide, by decide⟩ (dk D_X11_slipsRefusal 47 rfl)
set_option maxRecDepth 100000 in
set_option maxHeartbeats 4000000 in
theorem L_T_slipsRefusal {E : EX} {l : Launch} {a0 a1 res : Int} {μ μ' : Mem} (q_a1 : R32 a1) (h : T_slipsRefusal a0 a1 μ = some (res, μ')) : Ok E l 2 yX11_slipsRefusal (.code yX11_slipsRefusal cX11_slipsRefusal 4 (some .int)) 0 0 [(2, a0), (0, a1)] μ (some (0, res)) μ' := by
  refine Ok.of (own := "TollsBack") [(0, 2, a0), (1, 0, a1)] (by decide +kernel) rfl (Nat.le_of_ble_eq_true rfl) rfl ?_
  intro X hL hRm hin hX hM
  unfold T_slipsRefusal at h
  subst hL
  refine r_iloadn (pc := 0) hX 1 rfl (dk D_X11_slipsRefusal 0 rfl) ?_
  obtain ⟨x1, μ2, hx1, h⟩ := bd2_some h
  refine r_invS0 (As := [(0, a1)]) (pc := 1) hX ml_11_242 (L_T_isRow q_a1 hx1) (Rm_of hRm (by decide) ⟨by decide, by decide⟩) (by decide) rfl (Nat.le_of_ble_eq_true rfl) rfl (dk D_X11_slipsRefusal 1 rfl) (fun qx1 => ?_)
  refine r_if_ne (pc := 4) hX qx1 10 rfl (dk D_X11_slipsRefusal 2 rfl) (fun hc => ?_) (fun hc => ?_)
  · rw [if_neg hc] at h
    refine r_aloadn (pc := 10) hX 0 rfl (dk D_X11_slipsRefusal 5 rfl) ?_
    obtain ⟨x3, hx3, h⟩ := bd_some h
    refine r_getR (pc := 11) hX fl_11_26 rfl hx3 (dk D_X11_slipsRefusal 6 rfl) ?_
    obtain ⟨x4, hx4, h⟩ := bd_some h
    refine r_getR (pc := 14) hX fl_11_118 rfl hx4 (dk D_X11_slipsRefusal 7 rfl) ?_
    obtain ⟨x5, hx5, h⟩ := bd_some h
    refine r_getI (pc := 17) hX fl_11_176 rfl rfl hx5 (dk D_X11_slipsRefusal 8 rfl) (fun qx5 => ?_)
    refine r_if_ne (pc := 20) hX qx5 26 rfl (dk D_X11_slipsRefusal 9 rfl) (fun hc => ?_) (fun hc => ?_)
    · rw [if_neg hc] at h
      refine r_aloadn (pc := 26) hX 0 rfl (dk D_X11_slipsRefusal 12 rfl) ?_
      obtain ⟨x6, hx6, h⟩ := bd_some h
      refine r_getR (pc := 27) hX fl_11_36 rfl hx6 (dk D_X11_slipsRefusal 13 rfl) ?_
      refine r_iloadn (pc := 30) hX 1 rfl (dk D_X11_slipsRefusal 14 rfl) ?_
      obtain ⟨x7, hx7, h⟩ := bd_some h
      refine r_aald26 (pc := 31) hX q_a1 hx7 (dk D_X11_slipsRefusal 15 rfl) ?_
      obtain ⟨x8, hx8, h⟩ := bd_some h
      refine r_getI (pc := 32) hX fl_11_245 rfl rfl hx8 (dk D_X11_slipsRefusal 16 rfl) (fun qx8 => ?_)
      refine r_if_eq (pc := 35) hX qx8 41 rfl (dk D_X11_slipsRefusal 17 rfl) (fun hc => ?_) (fun hc => ?_)
      · rw [if_pos hc] at h
        refine r_iconst (pc := 41) hX (dk D_X11_slipsRefusal 20 rfl) ?_
        refine r_istoren (lv' := [(2, 0, 0), (0, 2, a0), (1, 0, a1)]) (pc := 42) hX (by decide) rfl (dk D_X11_slipsRefusal 21 rfl) ?_
        refine r_sub (lv' := [(0, 2, a0), (1, 0, a1), (2, 0, 0)]) [1, 2, 0] rfl ?_
        refine L_T_slipsRefusal_L43 hX hM hRm FU a0 a1 0 μ2 q_a1 (R32_lit rfl) h
      · rw [if_neg hc] at h
        refine r_bipush (pc := 38) hX rfl (dk D_X11_slipsRefusal 18 rfl) ?_
        cases h
        exact r_ireturn (pc := 40) hX (R32_lit rfl) hM ⟨by decide, by decide⟩ (dk D_X11_slipsRefusal 19 rfl)
    · rw [if_pos hc] at h
      refine r_bipush (pc := 23) hX rfl (dk D_X11_slipsRefusal 10 rfl) ?_
      cases h
      exact r_ireturn (pc := 25) hX (R32_lit rfl) hM ⟨by decide, by decide⟩ (dk D_X11_slipsRefusal 11 rfl)
  · rw [if_pos hc] at h
    refine r_bipush (pc := 7) hX rfl (dk D_X11_slipsRefusal 3 rfl) ?_
    cases h
    exact r_ireturn (pc := 9) hX (R32_lit rfl) hM ⟨by decide, by decide⟩ (dk D_X11_slipsRefusal 4 rfl)
set_option maxRecDepth 100000 in
set_option maxHeartbeats 4000000 in
theorem L_T_journeys {E : EX} {l : Launch} {a0 a1 a2 res : Int} {μ μ' : Mem} (q_a1 : R32 a1) (q_a2 : R32 a2) (h : T_journeys a0 a1 a2 μ = some (res, μ')) : Ok E l 6 yX11_journeys (.code yX11_journeys cX11_journeys 4 (some .int)) 0 0 [(2, a0), (0, a1), (0, a2)] μ (some (0, res)) μ' := by
  refine Ok.of (own := "TollsBack") [(0, 2, a0), (1, 0, a1), (2, 0, a2)] (by decide +kernel) rfl (Nat.le_of_ble_eq_true rfl) rfl ?_
  intro X hL hRm hin hX hM
  unfold T_journeys at h
  subst hL
  refine r_aloadn (pc := 0) hX 0 rfl (dk D_X11_journeys 0 rfl) ?_
  refine r_iloadn (pc := 1) hX 1 rfl (dk D_X11_journeys 1 rfl) ?_
  obtain ⟨_, hi, h⟩ := bd_some h
  obtain ⟨x1, μ2, hx1, h⟩ := bd2_some h
  refine r_invV0 (As := [(0, a1)]) (pc := 2) hX ml_11_344 (L_T_slipsRefusal q_a1 hx1) (isk_u hi) (Rm_of hRm (by decide) ⟨by decide, by decide⟩) (by decide) rfl (Nat.le_of_ble_eq_true rfl) rfl (dk D_X11_journeys 2 rfl) (fun qx1 => ?_)
  refine r_istoren (lv' := [(3, 0, x1), (0, 2, a0), (1, 0, a1), (2, 0, a2)]) (pc := 5) hX (by decide) rfl (dk D_X11_journeys 3 rfl) ?_
  refine r_iloadn (pc := 6) hX 0 rfl (dk D_X11_journeys 4 rfl) ?_
  refine r_if_eq (pc := 7) hX qx1 12 rfl (dk D_X11_journeys 5 rfl) (fun hc => ?_) (fun hc => ?_)
  · rw [if_pos hc] at h
    refine r_iloadn (pc := 12) hX 3 rfl (dk D_X11_journeys 8 rfl) ?_
    refine r_if_lt (pc := 13) hX q_a2 22 rfl (dk D_X11_journeys 9 rfl) (fun hc => ?_) (fun hc => ?_)
    · rw [if_pos hc] at h
      refine r_bipush (pc := 22) hX rfl (dk D_X11_journeys 13 rfl) ?_
      cases h
      exact r_ireturn (pc := 24) hX (R32_lit rfl) hM ⟨by decide, by decide⟩ (dk D_X11_journeys 14 rfl)
    · rw [if_neg hc] at h
      refine r_iloadn (pc := 16) hX 3 rfl (dk D_X11_journeys 10 rfl) ?_
      refine r_bipush (pc := 17) hX rfl (dk D_X11_journeys 11 rfl) ?_
      refine r_icmp_le (pc := 19) hX q_a2 (R32_lit rfl) 25 rfl (dk D_X11_journeys 12 rfl) (fun hc => ?_) (fun hc => ?_)
      · rw [if_neg hc] at h
        refine r_aloadn (pc := 25) hX 1 rfl (dk D_X11_journeys 15 rfl) ?_
        refine r_aloadn (pc := 26) hX 1 rfl (dk D_X11_journeys 16 rfl) ?_
        obtain ⟨x3, hx3, h⟩ := bd_some h
        refine r_getR (pc := 27) hX fl_11_36 rfl hx3 (dk D_X11_journeys 17 rfl) ?_
        refine r_iloadn (pc := 30) hX 2 rfl (dk D_X11_journeys 18 rfl) ?_
        obtain ⟨x4, hx4, h⟩ := bd_some h
        refine r_aald26 (pc := 31) hX q_a1 hx4 (dk D_X11_journeys 19 rfl) ?_
        obtain ⟨_, hi, h⟩ := bd_some h
        obtain ⟨x5, μ6, hx5, h⟩ := bd2_some h
        refine r_invV0 (As := [(2, x4)]) (pc := 32) hX ml_11_347 (L_T_forgedPlace hx5) (isk_u hi) (Rm_of hRm (by decide) ⟨by decide, by decide⟩) (by decide) rfl (Nat.le_of_ble_eq_true rfl) rfl (dk D_X11_journeys 20 rfl) (fun qx5 => ?_)
        refine r_iconst (pc := 35) hX (dk D_X11_journeys 21 rfl) ?_
        refine r_icmp_eq (pc := 36) hX qx5 (R32_lit rfl) 41 rfl (dk D_X11_journeys 22 rfl) (fun hc => ?_) (fun hc => ?_)
        · rw [if_pos hc] at h
          refine r_aloadn (pc := 41) hX 1 rfl (dk D_X11_journeys 25 rfl) ?_
          obtain ⟨x7, hx7, h⟩ := bd_some h
          refine r_getR (pc := 42) hX fl_11_88 rfl hx7 (dk D_X11_journeys 26 rfl) ?_
          refine r_aloadn (pc := 45) hX 1 rfl (dk D_X11_journeys 27 rfl) ?_
          obtain ⟨x8, hx8, h⟩ := bd_some h
          refine r_getR (pc := 46) hX fl_11_26 rfl hx8 (dk D_X11_journeys 28 rfl) ?_
          refine r_aloadn (pc := 49) hX 1 rfl (dk D_X11_journeys 29 rfl) ?_
          obtain ⟨x9, hx9, h⟩ := bd_some h
          refine r_getR (pc := 50) hX fl_11_36 rfl hx9 (dk D_X11_journeys 30 rfl) ?_
          refine r_iloadn (pc := 53) hX 2 rfl (dk D_X11_journeys 31 rfl) ?_
          obtain ⟨x10, hx10, h⟩ := bd_some h
          refine r_aald26 (pc := 54) hX q_a1 hx10 (dk D_X11_journeys 32 rfl) ?_
          refine r_iloadn (pc := 55) hX 3 rfl (dk D_X11_journeys 33 rfl) ?_
          obtain ⟨_, hi, h⟩ := bd_some h
          obtain ⟨x11, μ12, hx11, h⟩ := bd2_some h
          refine r_invV0 (As := [(2, x8), (2, x10), (0, a2)]) (pc := 56) hX ml_11_351 (L_Ct_countAll q_a2 hx11) (isk_u hi) (Rm_of hRm (by decide) ⟨by decide, by decide⟩) (by decide) rfl (Nat.le_of_ble_eq_true rfl) rfl (dk D_X11_journeys 34 rfl) (fun qx11 => ?_)
          cases h
          exact r_ireturn (pc := 59) hX qx11 hM ⟨by decide, by decide⟩ (dk D_X11_journeys 35 rfl)
        · rw [if_neg hc] at h
          refine r_iconst (pc := 39) hX (dk D_X11_journeys 23 rfl) ?_
          cases h
          exact r_ireturn (pc := 40) hX (R32_lit rfl) hM ⟨by decide, by decide⟩ (dk D_X11_journeys 24 rfl)
      · rw [if_pos hc] at h
        refine r_bipush (pc := 22) hX rfl (dk D_X11_journeys 13 rfl) ?_
        cases h
        exact r_ireturn (pc := 24) hX (R32_lit rfl) hM ⟨by decide, by decide⟩ (dk D_X11_journeys 14 rfl)
  · rw [if_neg hc] at h
    refine r_iloadn (pc := 10) hX 0 rfl (dk D_X11_journeys 6 rfl) ?_
    cases h
    exact r_ireturn (pc := 11) hX qx1 hM ⟨by decide, by decide⟩ (dk D_X11_journeys 7 rfl)
set_option maxRecDepth 100000 in
set_option maxHeartbeats 4000000 in
theorem L_T_forged {E : EX} {l : Launch} {a0 a1 res : Int} {μ μ' : Mem} (q_a1 : R32 a1) (h : T_forged a0 a1 μ = some (res, μ')) : Ok E l 4 yX11_forged (.code yX11_forged cX11_forged 3 (some .int)) 0 0 [(2, a0), (0, a1)] μ (some (0, res)) μ' := by
  refine Ok.of (own := "TollsBack") [(0, 2, a0), (1, 0, a1)] (by decide +kernel) rfl (Nat.le_of_ble_eq_true rfl) rfl ?_
  intro X hL hRm hin hX hM
  unfold T_forged at h
  subst hL
  refine r_aloadn (pc := 0) hX 0 rfl (dk D_X11_forged 0 rfl) ?_
  refine r_iloadn (pc := 1) hX 1 rfl (dk D_X11_forged 1 rfl) ?_
  obtain ⟨_, hi, h⟩ := bd_some h
  obtain ⟨x1, μ2, hx1, h⟩ := bd2_some h
  refine r_invV0 (As := [(0, a1)]) (pc := 2) hX ml_11_344 (L_T_slipsRefusal q_a1 hx1) (isk_u hi) (Rm_of hRm (by decide) ⟨by decide, by decide⟩) (by decide) rfl (Nat.le_of_ble_eq_true rfl) rfl (dk D_X11_forged 2 rfl) (fun qx1 => ?_)
  refine r_istoren (lv' := [(2, 0, x1), (0, 2, a0), (1, 0, a1)]) (pc := 5) hX (by decide) rfl (dk D_X11_forged 3 rfl) ?_
  refine r_iloadn (pc := 6) hX 0 rfl (dk D_X11_forged 4 rfl) ?_
  refine r_if_eq (pc := 7) hX qx1 14 rfl (dk D_X11_forged 5 rfl) (fun hc => ?_) (fun hc => ?_)
  · rw [if_pos hc] at h
    refine r_aloadn (pc := 14) hX 1 rfl (dk D_X11_forged 8 rfl) ?_
    refine r_aloadn (pc := 15) hX 1 rfl (dk D_X11_forged 9 rfl) ?_
    obtain ⟨x3, hx3, h⟩ := bd_some h
    refine r_getR (pc := 16) hX fl_11_36 rfl hx3 (dk D_X11_forged 10 rfl) ?_
    refine r_iloadn (pc := 19) hX 2 rfl (dk D_X11_forged 11 rfl) ?_
    obtain ⟨x4, hx4, h⟩ := bd_some h
    refine r_aald26 (pc := 20) hX q_a1 hx4 (dk D_X11_forged 12 rfl) ?_
    obtain ⟨_, hi, h⟩ := bd_some h
    obtain ⟨x5, μ6, hx5, h⟩ := bd2_some h
    refine r_invV0 (As := [(2, x4)]) (pc := 21) hX ml_11_347 (L_T_forgedPlace hx5) (isk_u hi) (Rm_of hRm (by decide) ⟨by decide, by decide⟩) (by decide) rfl (Nat.le_of_ble_eq_true rfl) rfl (dk D_X11_forged 13 rfl) (fun qx5 => ?_)
    cases h
    exact r_ireturn (pc := 24) hX qx5 hM ⟨by decide, by decide⟩ (dk D_X11_forged 14 rfl)
  · rw [if_neg hc] at h
    refine r_iloadn (pc := 10) hX 0 rfl (dk D_X11_forged 6 rfl) ?_
    refine r_goto (pc := 11) hX 24 rfl (dk D_X11_forged 7 rfl) ?_
    cases h
    exact r_ireturn (pc := 24) hX qx1 hM ⟨by decide, by decide⟩ (dk D_X11_forged 14 rfl)
set_option maxRecDepth 100000 in
set_option maxHeartbeats 4000000 in
theorem L_T_journey {E : EX} {l : Launch} {a0 a1 a2 a3 a4 res : Int} {μ μ' : Mem} (q_a1 : R32 a1) (q_a2 : R32 a2) (q_a3 : R32 a3) (q_a4 : R32 a4) (h : T_journey a0 a1 a2 a3 a4 μ = some (res, μ')) : Ok E l 6 yX11_journey (.code yX11_journey cX11_journey 6 (some .int)) 0 0 [(2, a0), (0, a1), (0, a2), (0, a3), (0, a4)] μ (some (0, res)) μ' := by
  refine Ok.of (own := "TollsBack") [(0, 2, a0), (1, 0, a1), (2, 0, a2), (3, 0, a3), (4, 0, a4)] (by decide +kernel) rfl (Nat.le_of_ble_eq_true rfl) rfl ?_
  intro X hL hRm hin hX hM
  unfold T_journey at h
  subst hL
  refine r_aloadn (pc := 0) hX 0 rfl (dk D_X11_journey 0 rfl) ?_
  refine r_iloadn (pc := 1) hX 1 rfl (dk D_X11_journey 1 rfl) ?_
  obtain ⟨_, hi, h⟩ := bd_some h
  obtain ⟨x1, μ2, hx1, h⟩ := bd2_some h
  refine r_invV0 (As := [(0, a1)]) (pc := 2) hX ml_11_344 (L_T_slipsRefusal q_a1 hx1) (isk_u hi) (Rm_of hRm (by decide) ⟨by decide, by decide⟩) (by decide) rfl (Nat.le_of_ble_eq_true rfl) rfl (dk D_X11_journey 2 rfl) (fun qx1 => ?_)
  refine r_istore (lv' := [(5, 0, x1), (0, 2, a0), (1, 0, a1), (2, 0, a2), (3, 0, a3), (4, 0, a4)]) (pc := 5) hX (by decide) rfl (dk D_X11_journey 3 rfl) ?_
  refine r_iload (pc := 7) hX 0 rfl (dk D_X11_journey 4 rfl) ?_
  refine r_if_eq (pc := 9) hX qx1 15 rfl (dk D_X11_journey 5 rfl) (fun hc => ?_) (fun hc => ?_)
  · rw [if_pos hc] at h
    refine r_iloadn (pc := 15) hX 3 rfl (dk D_X11_journey 8 rfl) ?_
    refine r_if_lt (pc := 16) hX q_a2 29 rfl (dk D_X11_journey 9 rfl) (fun hc => ?_) (fun hc => ?_)
    · rw [if_pos hc] at h
      refine r_bipush (pc := 29) hX rfl (dk D_X11_journey 15 rfl) ?_
      cases h
      exact r_ireturn (pc := 31) hX (R32_lit rfl) hM ⟨by decide, by decide⟩ (dk D_X11_journey 16 rfl)
    · rw [if_neg hc] at h
      refine r_iloadn (pc := 19) hX 3 rfl (dk D_X11_journey 10 rfl) ?_
      refine r_bipush (pc := 20) hX rfl (dk D_X11_journey 11 rfl) ?_
      refine r_icmp_gt (pc := 22) hX q_a2 (R32_lit rfl) 29 rfl (dk D_X11_journey 12 rfl) (fun hc => ?_) (fun hc => ?_)
      · rw [if_pos hc] at h
        refine r_bipush (pc := 29) hX rfl (dk D_X11_journey 15 rfl) ?_
        cases h
        exact r_ireturn (pc := 31) hX (R32_lit rfl) hM ⟨by decide, by decide⟩ (dk D_X11_journey 16 rfl)
      · rw [if_neg hc] at h
        refine r_iloadn (pc := 25) hX 4 rfl (dk D_X11_journey 13 rfl) ?_
        refine r_if_ge (pc := 26) hX q_a3 32 rfl (dk D_X11_journey 14 rfl) (fun hc => ?_) (fun hc => ?_)
        · rw [if_neg hc] at h
          refine r_iload (pc := 32) hX 5 rfl (dk D_X11_journey 17 rfl) ?_
          refine r_if_lt (pc := 34) hX q_a4 57 rfl (dk D_X11_journey 18 rfl) (fun hc => ?_) (fun hc => ?_)
          · rw [if_pos hc] at h
            refine r_iconst (pc := 57) hX (dk D_X11_journey 30 rfl) ?_
            cases h
            exact r_ireturn (pc := 58) hX (R32_lit rfl) hM ⟨by decide, by decide⟩ (dk D_X11_journey 31 rfl)
          · rw [if_neg hc] at h
            refine r_iload (pc := 37) hX 5 rfl (dk D_X11_journey 19 rfl) ?_
            refine r_iloadn (pc := 39) hX 3 rfl (dk D_X11_journey 20 rfl) ?_
            refine r_icmp_ge (pc := 40) hX q_a4 q_a2 57 rfl (dk D_X11_journey 21 rfl) (fun hc => ?_) (fun hc => ?_)
            · rw [if_neg hc] at h
              refine r_iconst (pc := 57) hX (dk D_X11_journey 30 rfl) ?_
              cases h
              exact r_ireturn (pc := 58) hX (R32_lit rfl) hM ⟨by decide, by decide⟩ (dk D_X11_journey 31 rfl)
            · rw [if_pos hc] at h
              refine r_aloadn (pc := 43) hX 1 rfl (dk D_X11_journey 22 rfl) ?_
              refine r_aloadn (pc := 44) hX 1 rfl (dk D_X11_journey 23 rfl) ?_
              obtain ⟨x3, hx3, h⟩ := bd_some h
              refine r_getR (pc := 45) hX fl_11_36 rfl hx3 (dk D_X11_journey 24 rfl) ?_
              refine r_iloadn (pc := 48) hX 2 rfl (dk D_X11_journey 25 rfl) ?_
              obtain ⟨x4, hx4, h⟩ := bd_some h
              refine r_aald26 (pc := 49) hX q_a1 hx4 (dk D_X11_journey 26 rfl) ?_
              obtain ⟨_, hi, h⟩ := bd_some h
              obtain ⟨x5, μ6, hx5, h⟩ := bd2_some h
              refine r_invV0 (As := [(2, x4)]) (pc := 50) hX ml_11_347 (L_T_forgedPlace hx5) (isk_u hi) (Rm_of hRm (by decide) ⟨by decide, by decide⟩) (by decide) rfl (Nat.le_of_ble_eq_true rfl) rfl (dk D_X11_journey 27 rfl) (fun qx5 => ?_)
              refine r_iconst (pc := 53) hX (dk D_X11_journey 28 rfl) ?_
              refine r_icmp_eq (pc := 54) hX qx5 (R32_lit rfl) 59 rfl (dk D_X11_journey 29 rfl) (fun hc => ?_) (fun hc => ?_)
              · rw [if_pos hc] at h
                refine r_aloadn (pc := 59) hX 1 rfl (dk D_X11_journey 32 rfl) ?_
                obtain ⟨x7, hx7, h⟩ := bd_some h
                refine r_getR (pc := 60) hX fl_11_88 rfl hx7 (dk D_X11_journey 33 rfl) ?_
                refine r_aloadn (pc := 63) hX 1 rfl (dk D_X11_journey 34 rfl) ?_
                obtain ⟨x8, hx8, h⟩ := bd_some h
                refine r_getR (pc := 64) hX fl_11_26 rfl hx8 (dk D_X11_journey 35 rfl) ?_
                refine r_aloadn (pc := 67) hX 1 rfl (dk D_X11_journey 36 rfl) ?_
                obtain ⟨x9, hx9, h⟩ := bd_some h
                refine r_getR (pc := 68) hX fl_11_36 rfl hx9 (dk D_X11_journey 37 rfl) ?_
                refine r_iloadn (pc := 71) hX 2 rfl (dk D_X11_journey 38 rfl) ?_
                obtain ⟨x10, hx10, h⟩ := bd_some h
                refine r_aald26 (pc := 72) hX q_a1 hx10 (dk D_X11_journey 39 rfl) ?_
                refine r_iloadn (pc := 73) hX 3 rfl (dk D_X11_journey 40 rfl) ?_
                refine r_iloadn (pc := 74) hX 4 rfl (dk D_X11_journey 41 rfl) ?_
                refine r_iload (pc := 75) hX 5 rfl (dk D_X11_journey 42 rfl) ?_
                obtain ⟨_, hi, h⟩ := bd_some h
                obtain ⟨x11, μ12, hx11, h⟩ := bd2_some h
                refine r_invV0 (As := [(2, x8), (2, x10), (0, a2), (0, a3), (0, a4)]) (pc := 77) hX ml_11_355 (L_Ct_roadOf q_a2 q_a3 q_a4 hx11) (isk_u hi) (Rm_of hRm (by decide) ⟨by decide, by decide⟩) (by decide) rfl (Nat.le_of_ble_eq_true rfl) rfl (dk D_X11_journey 43 rfl) (fun qx11 => ?_)
                cases h
                exact r_ireturn (pc := 80) hX qx11 hM ⟨by decide, by decide⟩ (dk D_X11_journey 44 rfl)
              · rw [if_neg hc] at h
                refine r_iconst (pc := 57) hX (dk D_X11_journey 30 rfl) ?_
                cases h
                exact r_ireturn (pc := 58) hX (R32_lit rfl) hM ⟨by decide, by decide⟩ (dk D_X11_journey 31 rfl)
        · rw [if_pos hc] at h
          refine r_bipush (pc := 29) hX rfl (dk D_X11_journey 15 rfl) ?_
          cases h
          exact r_ireturn (pc := 31) hX (R32_lit rfl) hM ⟨by decide, by decide⟩ (dk D_X11_journey 16 rfl)
  · rw [if_neg hc] at h
    refine r_iload (pc := 12) hX 0 rfl (dk D_X11_journey 6 rfl) ?_
    cases h
    exact r_ireturn (pc := 14) hX qx1 hM ⟨by decide, by decide⟩ (dk D_X11_journey 7 rfl)
set_option maxRecDepth 100000 in
set_option maxHeartbeats 4000000 in
theorem L_T_lane_J11 {E : EX} {X : CX} {res : Int} {μe : Mem} (hX : Good E X cX11_lane 6 "TollsBack") (hM : GoodM E X (some .int) (some (0, res)) μe 0 0) (hRm : cR X = rmOf 5 0 0) {k21 : Int → Int → Int → Int → Int → Mem → Option (Int × Mem)} {k26 : Int → Int → Int → Int → Int → Int → Mem → Option (Int × Mem)} (hk21 : ∀ (u0 u1 u2 u3 u4 : Int) (μ : Mem), R32 u1 → R32 u2 → R32 u3 → R32 u4 → k21 u0 u1 u2 u3 u4 μ = some (res, μe) → At E X cX11_lane 6 "TollsBack" (0, 0) 21 [(0, 2, u0), (1, 0, u1), (2, 0, u2), (3, 0, u3), (4, 0, u4)] [] μ) (hk26 : ∀ (u0 u1 u2 u3 u4 u5 : Int) (μ : Mem), R32 u1 → R32 u2 → R32 u3 → R32 u4 → R32 u5 → k26 u0 u1 u2 u3 u4 u5 μ = some (res, μe) → At E X cX11_lane 6 "TollsBack" (0, 0) 26 [(0, 2, u0), (1, 0, u1), (2, 0, u2), (3, 0, u3), (4, 0, u4)] [(0, u5)] μ) {v0 v1 v2 v3 v4 : Int} {μ : Mem} (q_v1 : R32 v1) (q_v2 : R32 v2) (q_v3 : R32 v3) (q_v4 : R32 v4) (h : T_lane_J11 k21 k26 v0 v1 v2 v3 v4 μ = some (res, μe)) : At E X cX11_lane 6 "TollsBack" (0, 0) 11 [(0, 2, v0), (1, 0, v1), (2, 0, v2), (3, 0, v3), (4, 0, v4)] [] μ := by
  unfold T_lane_J11 at h
  refine r_iload (pc := 11) hX 4 rfl (dk D_X11_lane 5 rfl) ?_
  refine r_bipush (pc := 13) hX rfl (dk D_X11_lane 6 rfl) ?_
  obtain ⟨x1, μ2, hx1, h⟩ := bd2_some h
  refine r_invS0 (As := [(0, v4), (0, 11)]) (pc := 15) hX ml_11_323 (L_T_isRoadPlace q_v4 (R32_lit rfl) hx1) (Rm_of hRm (by decide) ⟨by decide, by decide⟩) (by decide) rfl (Nat.le_of_ble_eq_true rfl) rfl (dk D_X11_lane 7 rfl) (fun qx1 => ?_)
  refine r_if_eq (pc := 18) hX qx1 25 rfl (dk D_X11_lane 8 rfl) (fun hc => ?_) (fun hc => ?_)
  · rw [if_pos hc] at h
    refine r_iconst (pc := 25) hX (dk D_X11_lane 11 rfl) ?_
    exact hk26 v0 v1 v2 v3 v4 0 μ2 q_v1 q_v2 q_v3 q_v4 (R32_lit rfl) h
  · rw [if_neg hc] at h
    exact hk21 v0 v1 v2 v3 v4 μ2 q_v1 q_v2 q_v3 q_v4 h
set_option maxRecDepth 100000 in
set_option maxHeartbeats 4000000 in
theorem L_T_lane_J26 {E : EX} {X : CX} {res : Int} {μe : Mem} (hX : Good E X cX11_lane 6 "TollsBack") (hM : GoodM E X (some .int) (some (0, res)) μe 0 0) (hRm : cR X = rmOf 5 0 0) {v0 v1 v2 v3 v4 s0 : Int} {μ : Mem} (q_v1 : R32 v1) (q_v2 : R32 v2) (q_v3 : R32 v3) (q_v4 : R32 v4) (q_s0 : R32 s0) (h : T_lane_J26 v0 v1 v2 v3 v4 s0 μ = some (res, μe)) : At E X cX11_lane 6 "TollsBack" (0, 0) 26 [(0, 2, v0), (1, 0, v1), (2, 0, v2), (3, 0, v3), (4, 0, v4)] [(0, s0)] μ := by
  unfold T_lane_J26 at h
  refine r_istore (lv' := [(5, 0, s0), (0, 2, v0), (1, 0, v1), (2, 0, v2), (3, 0, v3), (4, 0, v4)]) (pc := 26) hX (by decide) rfl (dk D_X11_lane 12 rfl) ?_
  refine r_aloadn (pc := 28) hX 1 rfl (dk D_X11_lane 13 rfl) ?_
  obtain ⟨x1, hx1, h⟩ := bd_some h
  refine r_getR (pc := 29) hX fl_11_26 rfl hx1 (dk D_X11_lane 14 rfl) ?_
  obtain ⟨x2, hx2, h⟩ := bd_some h
  refine r_getR (pc := 32) hX fl_11_118 rfl hx2 (dk D_X11_lane 15 rfl) ?_
  refine r_iloadn (pc := 35) hX 2 rfl (dk D_X11_lane 16 rfl) ?_
  obtain ⟨_, hi, h⟩ := bd_some h
  obtain ⟨x3, μ4, hx3, h⟩ := bd2_some h
  refine r_invV0 (As := [(0, v1)]) (pc := 36) hX ml_11_149 (L_Kg_hasTown q_v1 hx3) (isk_u hi) (Rm_of hRm (by decide) ⟨by decide, by decide⟩) (by decide) rfl (Nat.le_of_ble_eq_true rfl) rfl (dk D_X11_lane 17 rfl) (fun qx3 => ?_)
  refine r_if_eq (pc := 39) hX qx3 61 rfl (dk D_X11_lane 18 rfl) (fun hc => ?_) (fun hc => ?_)
  · rw [if_pos hc] at h
    refine r_bipush (pc := 61) hX rfl (dk D_X11_lane 27 rfl) ?_
    cases h
    exact r_ireturn (pc := 63) hX (R32_lit rfl) hM ⟨by decide, by decide⟩ (dk D_X11_lane 28 rfl)
  · rw [if_neg hc] at h
    refine r_aloadn (pc := 42) hX 1 rfl (dk D_X11_lane 19 rfl) ?_
    obtain ⟨x5, hx5, h⟩ := bd_some h
    refine r_getR (pc := 43) hX fl_11_26 rfl hx5 (dk D_X11_lane 20 rfl) ?_
    obtain ⟨x6, hx6, h⟩ := bd_some h
    refine r_getR (pc := 46) hX fl_11_118 rfl hx6 (dk D_X11_lane 21 rfl) ?_
    refine r_iloadn (pc := 49) hX 3 rfl (dk D_X11_lane 22 rfl) ?_
    obtain ⟨_, hi, h⟩ := bd_some h
    obtain ⟨x7, μ8, hx7, h⟩ := bd2_some h
    refine r_invV0 (As := [(0, v2)]) (pc := 50) hX ml_11_149 (L_Kg_hasTown q_v2 hx7) (isk_u hi) (Rm_of hRm (by decide) ⟨by decide, by decide⟩) (by decide) rfl (Nat.le_of_ble_eq_true rfl) rfl (dk D_X11_lane 23 rfl) (fun qx7 => ?_)
    refine r_if_eq (pc := 53) hX qx7 61 rfl (dk D_X11_lane 24 rfl) (fun hc => ?_) (fun hc => ?_)
    · rw [if_pos hc] at h
      refine r_bipush (pc := 61) hX rfl (dk D_X11_lane 27 rfl) ?_
      cases h
      exact r_ireturn (pc := 63) hX (R32_lit rfl) hM ⟨by decide, by decide⟩ (dk D_X11_lane 28 rfl)
    · rw [if_neg hc] at h
      refine r_iload (pc := 56) hX 0 rfl (dk D_X11_lane 25 rfl) ?_
      refine r_if_ne (pc := 58) hX q_s0 64 rfl (dk D_X11_lane 26 rfl) (fun hc => ?_) (fun hc => ?_)
      · rw [if_neg hc] at h
        refine r_iloadn (pc := 64) hX 4 rfl (dk D_X11_lane 29 rfl) ?_
        refine r_if_ge (pc := 65) hX q_v3 71 rfl (dk D_X11_lane 30 rfl) (fun hc => ?_) (fun hc => ?_)
        · rw [if_neg hc] at h
          refine r_aloadn (pc := 71) hX 1 rfl (dk D_X11_lane 33 rfl) ?_
          obtain ⟨x9, hx9, h⟩ := bd_some h
          refine r_getR (pc := 72) hX fl_11_74 rfl hx9 (dk D_X11_lane 34 rfl) ?_
          refine r_aloadn (pc := 75) hX 1 rfl (dk D_X11_lane 35 rfl) ?_
          obtain ⟨x10, hx10, h⟩ := bd_some h
          refine r_getR (pc := 76) hX fl_11_26 rfl hx10 (dk D_X11_lane 36 rfl) ?_
          refine r_iloadn (pc := 79) hX 3 rfl (dk D_X11_lane 37 rfl) ?_
          refine r_iloadn (pc := 80) hX 4 rfl (dk D_X11_lane 38 rfl) ?_
          obtain ⟨_, hi, h⟩ := bd_some h
          obtain ⟨x11, μ12, hx11, h⟩ := bd2_some h
          refine r_invV0 (As := [(2, x10), (0, v2), (0, v3)]) (pc := 81) hX ml_11_362 (L_Wy_seekLanes q_v2 q_v3 hx11) (isk_u hi) (Rm_of hRm (by decide) ⟨by decide, by decide⟩) (by decide) rfl (Nat.le_of_ble_eq_true rfl) rfl (dk D_X11_lane 39 rfl) (fun _ => ?_)
          refine r_aloadn (pc := 84) hX 1 rfl (dk D_X11_lane 40 rfl) ?_
          obtain ⟨x13, hx13, h⟩ := bd_some h
          refine r_getR (pc := 85) hX fl_11_74 rfl hx13 (dk D_X11_lane 41 rfl) ?_
          obtain ⟨x14, hx14, h⟩ := bd_some h
          refine r_getR (pc := 88) hX fl_11_366 rfl hx14 (dk D_X11_lane 42 rfl) ?_
          refine r_iloadn (pc := 91) hX 2 rfl (dk D_X11_lane 43 rfl) ?_
          obtain ⟨x15, hx15, h⟩ := bd_some h
          refine r_iald (pc := 92) hX q_v1 hx15 (dk D_X11_lane 44 rfl) (fun qx15 => ?_)
          refine r_ldcw (pc := 93) hX cn_11_369 (dk D_X11_lane 45 rfl) ?_
          refine r_icmp_ne (pc := 96) hX qx15 (R32_lit rfl) 101 rfl (dk D_X11_lane 46 rfl) (fun hc => ?_) (fun hc => ?_)
          · rw [if_neg hc] at h
            refine r_iload (pc := 101) hX 5 rfl (dk D_X11_lane 49 rfl) ?_
            by_cases hc0 : v4 = 0
            · rw [if_pos hc0] at h
              refine r_table (pc := 103) hX (by rw [hc0]; exact R32_lit rfl) 128 (dk D_X11_lane 50 rfl) (by omega) (by omega) (by rw [hc0]; rfl) rfl ?_
              refine r_aloadn (pc := 128) hX 1 rfl (dk D_X11_lane 51 rfl) ?_
              obtain ⟨x16, hx16, h⟩ := bd_some h
              refine r_getR (pc := 129) hX fl_11_74 rfl hx16 (dk D_X11_lane 52 rfl) ?_
              refine r_iloadn (pc := 132) hX 2 rfl (dk D_X11_lane 53 rfl) ?_
              obtain ⟨_, hi, h⟩ := bd_some h
              obtain ⟨x17, μ18, hx17, h⟩ := bd2_some h
              refine r_invV0 (As := [(0, v1)]) (pc := 133) hX ml_11_370 (L_Wy_laneTolls q_v1 hx17) (isk_u hi) (Rm_of hRm (by decide) ⟨by decide, by decide⟩) (by decide) rfl (Nat.le_of_ble_eq_true rfl) rfl (dk D_X11_lane 54 rfl) (fun qx17 => ?_)
              cases h
              exact r_ireturn (pc := 136) hX qx17 hM ⟨by decide, by decide⟩ (dk D_X11_lane 55 rfl)
            · rw [if_neg hc0] at h
              by_cases hc1 : v4 = 1
              · rw [if_pos hc1] at h
                refine r_table (pc := 103) hX (by rw [hc1]; exact R32_lit rfl) 137 (dk D_X11_lane 50 rfl) (by omega) (by omega) (by rw [hc1]; rfl) rfl ?_
                refine r_aloadn (pc := 137) hX 1 rfl (dk D_X11_lane 56 rfl) ?_
                obtain ⟨x19, hx19, h⟩ := bd_some h
                refine r_getR (pc := 138) hX fl_11_74 rfl hx19 (dk D_X11_lane 57 rfl) ?_
                refine r_iloadn (pc := 141) hX 2 rfl (dk D_X11_lane 58 rfl) ?_
                obtain ⟨_, hi, h⟩ := bd_some h
                obtain ⟨x20, μ21, hx20, h⟩ := bd2_some h
                refine r_invV0 (As := [(0, v1)]) (pc := 142) hX ml_11_373 (L_Wy_laneDays q_v1 hx20) (isk_u hi) (Rm_of hRm (by decide) ⟨by decide, by decide⟩) (by decide) rfl (Nat.le_of_ble_eq_true rfl) rfl (dk D_X11_lane 59 rfl) (fun qx20 => ?_)
                cases h
                exact r_ireturn (pc := 145) hX qx20 hM ⟨by decide, by decide⟩ (dk D_X11_lane 60 rfl)
              · rw [if_neg hc1] at h
                by_cases hc2 : v4 = 2
                · rw [if_pos hc2] at h
                  refine r_table (pc := 103) hX (by rw [hc2]; exact R32_lit rfl) 146 (dk D_X11_lane 50 rfl) (by omega) (by omega) (by rw [hc2]; rfl) rfl ?_
                  refine r_aloadn (pc := 146) hX 1 rfl (dk D_X11_lane 61 rfl) ?_
                  obtain ⟨x22, hx22, h⟩ := bd_some h
                  refine r_getR (pc := 147) hX fl_11_74 rfl hx22 (dk D_X11_lane 62 rfl) ?_
                  refine r_iloadn (pc := 150) hX 2 rfl (dk D_X11_lane 63 rfl) ?_
                  obtain ⟨_, hi, h⟩ := bd_some h
                  obtain ⟨x23, μ24, hx23, h⟩ := bd2_some h
                  refine r_invV0 (As := [(0, v1)]) (pc := 151) hX ml_11_376 (L_Wy_laneRoads q_v1 hx23) (isk_u hi) (Rm_of hRm (by decide) ⟨by decide, by decide⟩) (by decide) rfl (Nat.le_of_ble_eq_true rfl) rfl (dk D_X11_lane 64 rfl) (fun qx23 => ?_)
                  cases h
                  exact r_ireturn (pc := 154) hX qx23 hM ⟨by decide, by decide⟩ (dk D_X11_lane 65 rfl)
                · rw [if_neg hc2] at h
                  refine r_tableD (pc := 103) hX q_v4 155 (dk D_X11_lane 50 rfl) (by omega) rfl ?_
                  refine r_aloadn (pc := 155) hX 1 rfl (dk D_X11_lane 66 rfl) ?_
                  obtain ⟨x25, hx25, h⟩ := bd_some h
                  refine r_getR (pc := 156) hX fl_11_74 rfl hx25 (dk D_X11_lane 67 rfl) ?_
                  refine r_aloadn (pc := 159) hX 1 rfl (dk D_X11_lane 68 rfl) ?_
                  obtain ⟨x26, hx26, h⟩ := bd_some h
                  refine r_getR (pc := 160) hX fl_11_26 rfl hx26 (dk D_X11_lane 69 rfl) ?_
                  refine r_iloadn (pc := 163) hX 2 rfl (dk D_X11_lane 70 rfl) ?_
                  refine r_iload (pc := 164) hX 5 rfl (dk D_X11_lane 71 rfl) ?_
                  refine r_bipush (pc := 166) hX rfl (dk D_X11_lane 72 rfl) ?_
                  refine r_isub (pc := 168) hX (dk D_X11_lane 73 rfl) ?_
                  obtain ⟨_, hi, h⟩ := bd_some h
                  obtain ⟨x27, μ28, hx27, h⟩ := bd2_some h
                  refine r_invV0 (As := [(2, x26), (0, v1), (0, (w32 (v4 - 10)))]) (pc := 169) hX ml_11_379 (L_Wy_laneRoad q_v1 (R32_w _) hx27) (isk_u hi) (Rm_of hRm (by decide) ⟨by decide, by decide⟩) (by decide) rfl (Nat.le_of_ble_eq_true rfl) rfl (dk D_X11_lane 74 rfl) (fun qx27 => ?_)
                  cases h
                  exact r_ireturn (pc := 172) hX qx27 hM ⟨by decide, by decide⟩ (dk D_X11_lane 75 rfl)
          · rw [if_pos hc] at h
            refine r_iconst (pc := 99) hX (dk D_X11_lane 47 rfl) ?_
            cases h
            exact r_ireturn (pc := 100) hX (R32_lit rfl) hM ⟨by decide, by decide⟩ (dk D_X11_lane 48 rfl)
        · rw [if_pos hc] at h
          refine r_bipush (pc := 68) hX rfl (dk D_X11_lane 31 rfl) ?_
          cases h
          exact r_ireturn (pc := 70) hX (R32_lit rfl) hM ⟨by decide, by decide⟩ (dk D_X11_lane 32 rfl)
      · rw [if_pos hc] at h
        refine r_bipush (pc := 61) hX rfl (dk D_X11_lane 27 rfl) ?_
        cases h
        exact r_ireturn (pc := 63) hX (R32_lit rfl) hM ⟨by decide, by decide⟩ (dk D_X11_lane 28 rfl)
