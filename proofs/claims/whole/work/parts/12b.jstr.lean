/-! String.length and String.charAt -/
def dl_J0_coder_7d493 : List (Nat × Instr × Nat) := [(0, .getstatic 38, 3), (3, .ifCond .eq 10, 3), (6, .aload_n 0, 1), (7, .getfield 15, 3), (10, .goto 4, 3), (13, .iconst 1, 1), (14, .ireturn, 1)]
set_option maxRecDepth 100000 in
theorem D_J0_coder_7d493 : dl_J0_coder_7d493.all (fun q => decide (decode cJ0_coder_7d493 q.1 = .ok (q.2.1, q.2.2))) = true := by decide +kernel
def dl_J0_length_8abf5 : List (Nat × Instr × Nat) := [(0, .aload_n 0, 1), (1, .getfield 9, 3), (4, .arraylength, 1), (5, .aload_n 0, 1), (6, .invokevirtual 335, 3), (9, .ishr, 1), (10, .ireturn, 1)]
set_option maxRecDepth 100000 in
theorem D_J0_length_8abf5 : dl_J0_length_8abf5.all (fun q => decide (decode cJ0_length_8abf5 q.1 = .ok (q.2.1, q.2.2))) = true := by decide +kernel
def dl_J0_isLatin1_aae02 : List (Nat × Instr × Nat) := [(0, .getstatic 38, 3), (3, .ifCond .eq 14, 3), (6, .aload_n 0, 1), (7, .getfield 15, 3), (10, .ifCond .ne 7, 3), (13, .iconst 1, 1), (14, .goto 4, 3), (17, .iconst 0, 1), (18, .ireturn, 1)]
set_option maxRecDepth 100000 in
theorem D_J0_isLatin1_aae02 : dl_J0_isLatin1_aae02.all (fun q => decide (decode cJ0_isLatin1_aae02 q.1 = .ok (q.2.1, q.2.2))) = true := by decide +kernel
def dl_J0_checkIndex_df160 : List (Nat × Instr × Nat) := [(0, .iload_n 0, 1), (1, .iload_n 1, 1), (2, .getstatic 1053, 3), (5, .invokestatic 1059, 3), (8, .pop, 1), (9, .return_, 1)]
set_option maxRecDepth 100000 in
theorem D_J0_checkIndex_df160 : dl_J0_checkIndex_df160.all (fun q => decide (decode cJ0_checkIndex_df160 q.1 = .ok (q.2.1, q.2.2))) = true := by decide +kernel
def dl_J3_checkIndex_8e157 : List (Nat × Instr × Nat) := [(0, .iload_n 0, 1), (1, .ifCond .lt 8, 3), (4, .iload_n 0, 1), (5, .iload_n 1, 1), (6, .if_icmp .lt 10, 3), (9, .aload_n 2, 1), (10, .iload_n 0, 1), (11, .iload_n 1, 1), (12, .invokestatic 95, 3), (15, .athrow, 1), (16, .iload_n 0, 1), (17, .ireturn, 1)]
set_option maxRecDepth 100000 in
theorem D_J3_checkIndex_8e157 : dl_J3_checkIndex_8e157.all (fun q => decide (decode cJ3_checkIndex_8e157 q.1 = .ok (q.2.1, q.2.2))) = true := by decide +kernel
def dl_J1_charAt_3b067 : List (Nat × Instr × Nat) := [(0, .iload_n 1, 1), (1, .aload_n 0, 1), (2, .arraylength, 1), (3, .invokestatic 9, 3), (6, .aload_n 0, 1), (7, .iload_n 1, 1), (8, .baload, 1), (9, .sipush 255, 3), (12, .iand, 1), (13, .i2c, 1), (14, .ireturn, 1)]
set_option maxRecDepth 100000 in
theorem D_J1_charAt_3b067 : dl_J1_charAt_3b067.all (fun q => decide (decode cJ1_charAt_3b067 q.1 = .ok (q.2.1, q.2.2))) = true := by decide +kernel
def dl_J0_charAt_5068e : List (Nat × Instr × Nat) := [(0, .aload_n 0, 1), (1, .invokevirtual 492, 3), (4, .ifCond .eq 12, 3), (7, .aload_n 0, 1), (8, .getfield 9, 3), (11, .iload_n 1, 1), (12, .invokestatic 495, 3), (15, .ireturn, 1), (16, .aload_n 0, 1), (17, .getfield 9, 3), (20, .iload_n 1, 1), (21, .invokestatic 498, 3), (24, .ireturn, 1)]
set_option maxRecDepth 100000 in
theorem D_J0_charAt_5068e : dl_J0_charAt_5068e.all (fun q => decide (decode cJ0_charAt_5068e q.1 = .ok (q.2.1, q.2.2))) = true := by decide +kernel
def J_len (a : Int) (μ : Mem) : Option (Int × Mem) := if a ≤ -2 ∧ -12 < a then some ((lenT.getD (-2 - a).toNat 0 : Int), μ) else none
def J_chr (a i : Int) (μ : Mem) : Option (Int × Mem) := if a ≤ -2 ∧ -12 < a ∧ 0 ≤ i ∧ i < (lenT.getD (-2 - a).toNat 0 : Int) then some (chT (-2 - a).toNat i, μ) else none
theorem tl_shr : ∀ i, i < 10 → shr32 (lenT.getD i 0 : Int) 0 = (lenT.getD i 0 : Int) := by decide +kernel
theorem tl_R : ∀ i, i < 10 → (decide (-2147483648 ≤ (lenT.getD i 0 : Int)) && decide ((lenT.getD i 0 : Int) < 2147483648)) = true := by decide +kernel
theorem tc_n : ∀ i, i < 10 → ∀ j, j < lenT.getD i 0 → w16u (and32 (chT i (j : Int)) 255) = chT i (j : Int) ∧ 0 ≤ chT i (j : Int) ∧ chT i (j : Int) < 128 := by decide +kernel
theorem R32_ch (i : Nat) (j : Int) : R32 (chT i j) := R32_t _
section JST
variable {E : EX} {l : Launch} {μ : Mem}
theorem O_coder {i : Nat} (hi : i < 10) : Ok E l 1 yJ0_coder_7d493 (.code yJ0_coder_7d493 cJ0_coder_7d493 1 (some .byte)) 0 0 [(2, -2 - (i : Int))] μ (some (0, 0)) μ := by
  refine Ok.of (own := "java/lang/String") [(0, 2, -2 - (i : Int))] (by decide) rfl (Nat.le_of_ble_eq_true rfl) rfl ?_
  intro X hL hRm hin hX hM
  refine r_gets (pc := 0) hX rfl fl_S_38 (dk D_J0_coder_7d493 0 rfl) ?_
  refine r_if_eq (pc := 3) hX (R32_lit rfl) 13 rfl (dk D_J0_coder_7d493 1 rfl) (fun hc => absurd hc (by decide)) (fun _ => ?_)
  refine r_aloadn (pc := 6) hX 0 rfl (dk D_J0_coder_7d493 2 rfl) ?_
  refine r_strCoder (pc := 7) hX hi fl_S_15 (dk D_J0_coder_7d493 3 rfl) ?_
  refine r_goto (pc := 10) hX 14 rfl (dk D_J0_coder_7d493 4 rfl) ?_
  exact r_creturn (pc := 14) hX (R32_lit rfl) hM rfl ⟨by decide, by decide⟩ (dk D_J0_coder_7d493 6 rfl)
theorem O_length {i : Nat} (hi : i < 10) : Ok E l 2 yJ0_length_8abf5 (.code yJ0_length_8abf5 cJ0_length_8abf5 1 (some .int)) 0 0 [(2, -2 - (i : Int))] μ (some (0, (lenT.getD i 0 : Int))) μ := by
  refine Ok.of (own := "java/lang/String") [(0, 2, -2 - (i : Int))] (by decide) rfl (Nat.le_of_ble_eq_true rfl) rfl ?_
  intro X hL hRm hin hX hM
  subst hL
  refine r_aloadn (pc := 0) hX 0 rfl (dk D_J0_length_8abf5 0 rfl) ?_
  refine r_strVal (pc := 1) hX hi fl_S_9 (dk D_J0_length_8abf5 1 rfl) ?_
  refine r_strLen (pc := 4) hX hi (dk D_J0_length_8abf5 2 rfl) ?_
  refine r_aloadn (pc := 5) hX 0 rfl (dk D_J0_length_8abf5 3 rfl) ?_
  refine r_invStr (As := []) (pc := 6) hX hi ml_S_335 (O_coder hi) (Rm_of hRm (by decide) ⟨by decide, by decide⟩) (by decide) rfl (Nat.le_of_ble_eq_true rfl) rfl (dk D_J0_length_8abf5 4 rfl) (fun _ => ?_)
  refine r_ishr (pc := 9) hX (dk D_J0_length_8abf5 5 rfl) ?_
  rw [tl_shr i hi]
  exact r_ireturn (pc := 10) hX (R32_lit (tl_R i hi)) hM ⟨by decide, by decide⟩ (dk D_J0_length_8abf5 6 rfl)
theorem O_isLatin1 {i : Nat} (hi : i < 10) : Ok E l 1 yJ0_isLatin1_aae02 (.code yJ0_isLatin1_aae02 cJ0_isLatin1_aae02 1 (some .boolean)) 0 0 [(2, -2 - (i : Int))] μ (some (0, 1)) μ := by
  refine Ok.of (own := "java/lang/String") [(0, 2, -2 - (i : Int))] (by decide) rfl (Nat.le_of_ble_eq_true rfl) rfl ?_
  intro X hL hRm hin hX hM
  refine r_gets (pc := 0) hX rfl fl_S_38 (dk D_J0_isLatin1_aae02 0 rfl) ?_
  refine r_if_eq (pc := 3) hX (R32_lit rfl) 17 rfl (dk D_J0_isLatin1_aae02 1 rfl) (fun hc => absurd hc (by decide)) (fun _ => ?_)
  refine r_aloadn (pc := 6) hX 0 rfl (dk D_J0_isLatin1_aae02 2 rfl) ?_
  refine r_strCoder (pc := 7) hX hi fl_S_15 (dk D_J0_isLatin1_aae02 3 rfl) ?_
  refine r_if_ne (pc := 10) hX (R32_lit rfl) 17 rfl (dk D_J0_isLatin1_aae02 4 rfl) (fun hc => absurd rfl hc) (fun _ => ?_)
  refine r_iconst (pc := 13) hX (dk D_J0_isLatin1_aae02 5 rfl) ?_
  refine r_goto (pc := 14) hX 18 rfl (dk D_J0_isLatin1_aae02 6 rfl) ?_
  exact r_zreturn (pc := 18) hX (R32_lit rfl) hM (Or.inr rfl) ⟨by decide, by decide⟩ (dk D_J0_isLatin1_aae02 8 rfl)
theorem O_pcheck {j n z : Int} (qj : R32 j) (qn : R32 n) (h0 : 0 ≤ j) (h1 : j < n) : Ok E l 1 yJ3_checkIndex_8e157 (.code yJ3_checkIndex_8e157 cJ3_checkIndex_8e157 3 (some .int)) 0 0 [(0, j), (0, n), (2, z)] μ (some (0, j)) μ := by
  refine Ok.of (own := "jdk/internal/util/Preconditions") [(0, 0, j), (1, 0, n), (2, 2, z)] (by decide) rfl (Nat.le_of_ble_eq_true rfl) rfl ?_
  intro X hL hRm hin hX hM
  refine r_iloadn (pc := 0) hX 0 rfl (dk D_J3_checkIndex_8e157 0 rfl) ?_
  refine r_if_lt (pc := 1) hX qj 9 rfl (dk D_J3_checkIndex_8e157 1 rfl) (fun hc => absurd hc (by omega)) (fun _ => ?_)
  refine r_iloadn (pc := 4) hX 0 rfl (dk D_J3_checkIndex_8e157 2 rfl) ?_
  refine r_iloadn (pc := 5) hX 1 rfl (dk D_J3_checkIndex_8e157 3 rfl) ?_
  refine r_icmp_lt (pc := 6) hX qj qn 16 rfl (dk D_J3_checkIndex_8e157 4 rfl) (fun _ => ?_) (fun hc => absurd h1 hc)
  refine r_iloadn (pc := 16) hX 0 rfl (dk D_J3_checkIndex_8e157 10 rfl) ?_
  exact r_ireturn (pc := 17) hX qj hM ⟨by decide, by decide⟩ (dk D_J3_checkIndex_8e157 11 rfl)
theorem O_scheck {j n : Int} (qj : R32 j) (qn : R32 n) (h0 : 0 ≤ j) (h1 : j < n) : Ok E l 2 yJ0_checkIndex_df160 (.code yJ0_checkIndex_df160 cJ0_checkIndex_df160 2 none) 0 0 [(0, j), (0, n)] μ none μ := by
  refine Ok.of (own := "java/lang/String") [(0, 0, j), (1, 0, n)] (by decide) rfl (Nat.le_of_ble_eq_true rfl) rfl ?_
  intro X hL hRm hin hX hM
  subst hL
  refine r_iloadn (pc := 0) hX 0 rfl (dk D_J0_checkIndex_df160 0 rfl) ?_
  refine r_iloadn (pc := 1) hX 1 rfl (dk D_J0_checkIndex_df160 1 rfl) ?_
  refine r_getsF (pc := 2) hX rfl fl_S_1053 (dk D_J0_checkIndex_df160 2 rfl) (fun z => ?_)
  refine r_invS0 (As := [(0, j), (0, n), (2, z)]) (pc := 5) hX ml_S_1059 (O_pcheck qj qn h0 h1) (Rm_of hRm (by decide) ⟨by decide, by decide⟩) (by decide) rfl (Nat.le_of_ble_eq_true rfl) rfl (dk D_J0_checkIndex_df160 3 rfl) (fun _ => ?_)
  refine r_pop (pc := 8) hX rfl (dk D_J0_checkIndex_df160 4 rfl) ?_
  exact r_return (pc := 9) hX hM ⟨by decide, by decide⟩ (dk D_J0_checkIndex_df160 5 rfl)
theorem nar_c {i : Nat} {j : Int} (hi : i < 10) (h0 : 0 ≤ j) (h1 : j < (lenT.getD i 0 : Int)) : w16u (and32 (chT i j) 255) = chT i j ∧ narrow .char (.int (Int32.ofInt (chT i j))) = .int (Int32.ofInt (chT i j)) := by
  obtain ⟨k, rfl⟩ : ∃ k : Nat, j = k := ⟨j.toNat, by omega⟩
  have h := tc_n i hi k (by omega)
  refine ⟨h.1, ?_⟩
  have e : ∀ x : Int, 0 ≤ x → x < 128 → narrow .char (.int (Int32.ofInt x)) = .int (Int32.ofInt x) := by
    intro x hx0 hx1
    obtain ⟨m, rfl⟩ : ∃ m : Nat, x = m := ⟨x.toNat, by omega⟩
    have : ∀ m, m < 128 → narrow .char (.int (Int32.ofInt ((m : Nat) : Int))) = .int (Int32.ofInt ((m : Nat) : Int)) := by decide +kernel
    exact this m (by omega)
  exact e _ h.2.1 h.2.2
theorem O_lat1 {i : Nat} {j : Int} (hi : i < 10) (qj : R32 j) (h0 : 0 ≤ j) (h1 : j < (lenT.getD i 0 : Int)) : Ok E l 3 yJ1_charAt_3b067 (.code yJ1_charAt_3b067 cJ1_charAt_3b067 2 (some .char)) 0 0 [(2, -2 - ((50 + i : Nat) : Int)), (0, j)] μ (some (0, chT i j)) μ := by
  refine Ok.of (own := "java/lang/StringLatin1") [(0, 2, -2 - ((50 + i : Nat) : Int)), (1, 0, j)] (by decide) rfl (Nat.le_of_ble_eq_true rfl) rfl ?_
  intro X hL hRm hin hX hM
  subst hL
  refine r_iloadn (pc := 0) hX 1 rfl (dk D_J1_charAt_3b067 0 rfl) ?_
  refine r_aloadn (pc := 1) hX 0 rfl (dk D_J1_charAt_3b067 1 rfl) ?_
  refine r_strLen (pc := 2) hX hi (dk D_J1_charAt_3b067 2 rfl) ?_
  refine r_invS0 (As := [(0, j), (0, (lenT.getD i 0 : Int))]) (pc := 3) hX ml_SL_9 (O_scheck qj (R32_lit (tl_R i hi)) h0 h1) (Rm_of hRm (by decide) ⟨by decide, by decide⟩) (by decide) rfl (Nat.le_of_ble_eq_true rfl) rfl (dk D_J1_charAt_3b067 3 rfl) (fun _ => ?_)
  refine r_aloadn (pc := 6) hX 0 rfl (dk D_J1_charAt_3b067 4 rfl) ?_
  refine r_iloadn (pc := 7) hX 1 rfl (dk D_J1_charAt_3b067 5 rfl) ?_
  refine r_strB (pc := 8) hX hi qj h0 h1 (dk D_J1_charAt_3b067 6 rfl) ?_
  refine r_sipush (pc := 9) hX rfl (dk D_J1_charAt_3b067 7 rfl) ?_
  refine r_iand (pc := 12) hX (dk D_J1_charAt_3b067 8 rfl) ?_
  refine r_i2c (pc := 13) hX (dk D_J1_charAt_3b067 9 rfl) ?_
  rw [(nar_c hi h0 h1).1]
  exact r_creturn (pc := 14) hX (R32_ch _ _) hM (nar_c hi h0 h1).2 ⟨by decide, by decide⟩ (dk D_J1_charAt_3b067 10 rfl)
theorem O_charAt {i : Nat} {j : Int} (hi : i < 10) (qj : R32 j) (h0 : 0 ≤ j) (h1 : j < (lenT.getD i 0 : Int)) : Ok E l 4 yJ0_charAt_5068e (.code yJ0_charAt_5068e cJ0_charAt_5068e 2 (some .char)) 0 0 [(2, -2 - (i : Int)), (0, j)] μ (some (0, chT i j)) μ := by
  refine Ok.of (own := "java/lang/String") [(0, 2, -2 - (i : Int)), (1, 0, j)] (by decide) rfl (Nat.le_of_ble_eq_true rfl) rfl ?_
  intro X hL hRm hin hX hM
  subst hL
  refine r_aloadn (pc := 0) hX 0 rfl (dk D_J0_charAt_5068e 0 rfl) ?_
  refine r_invStr (As := []) (pc := 1) hX hi ml_S_492 (O_isLatin1 hi) (Rm_of hRm (by decide) ⟨by decide, by decide⟩) (by decide) rfl (Nat.le_of_ble_eq_true rfl) rfl (dk D_J0_charAt_5068e 1 rfl) (fun _ => ?_)
  refine r_if_eq (pc := 4) hX (R32_lit rfl) 16 rfl (dk D_J0_charAt_5068e 2 rfl) (fun hc => absurd hc (by decide)) (fun _ => ?_)
  refine r_aloadn (pc := 7) hX 0 rfl (dk D_J0_charAt_5068e 3 rfl) ?_
  refine r_strVal (pc := 8) hX hi fl_S_9 (dk D_J0_charAt_5068e 4 rfl) ?_
  refine r_iloadn (pc := 11) hX 1 rfl (dk D_J0_charAt_5068e 5 rfl) ?_
  refine r_invS0 (As := [(2, -2 - ((50 + i : Nat) : Int)), (0, j)]) (pc := 12) hX ml_S_495 (O_lat1 hi qj h0 h1) (Rm_of hRm (by decide) ⟨by decide, by decide⟩) (by decide) rfl (Nat.le_of_ble_eq_true rfl) rfl (dk D_J0_charAt_5068e 6 rfl) (fun _ => ?_)
  exact r_creturn (pc := 15) hX (R32_ch _ _) hM (nar_c hi h0 h1).2 ⟨by decide, by decide⟩ (dk D_J0_charAt_5068e 7 rfl)
end JST
section JSA
variable {E : EX} {X : CX} {cc : ByteArray} {nL : Nat} {own : String} {cs : Nat × Nat} {pc : Nat} {lv : List LV} {st : List TV} {μ μ' : Mem} {idx : Nat}
theorem Rm_le {d d' : Nat} (h : Rm X d 0 0 cs) (hd : d' ≤ d) : Rm X d' 0 0 cs := ⟨by have := h.1; omega, by have := h.2.1; omega, h.2.2.1, h.2.2.2⟩
theorem r_J_len (hX : Good E X cc nL own) {a x : Int} (hm : MStr own idx yJ0_length_8abf5 (.code yJ0_length_8abf5 cJ0_length_8abf5 1 (some .int)) 0) (h : J_len a μ = some (x, μ')) (hrm : Rm X 4 0 0 cs) (hw8 : wd st ≤ 8) (dg : decode cc pc = .ok (.invokevirtual idx, 3)) (k : R32 x → At E X cc nL own cs (pc + 3) lv ((0, x) :: st) μ') : At E X cc nL own cs pc lv ((2, a) :: st) μ := by
  unfold J_len at h
  split at h
  · rename_i hc
    cases h
    obtain ⟨i, rfl⟩ : ∃ i : Nat, a = -2 - (i : Int) := ⟨(-2 - a).toNat, by omega⟩
    have hi : i < 10 := by omega
    rw [show (-2 - (-2 - (i : Int))).toNat = i by omega] at k
    exact r_invStr (As := []) hX hi hm (O_length hi) (Rm_le hrm (by decide)) (by decide) rfl hw8 rfl dg k
  · cases h
theorem r_J_chr (hX : Good E X cc nL own) {a j x : Int} (hm : MStr own idx yJ0_charAt_5068e (.code yJ0_charAt_5068e cJ0_charAt_5068e 2 (some .char)) 1) (qj : R32 j) (h : J_chr a j μ = some (x, μ')) (hrm : Rm X 4 0 0 cs) (hw8 : wd st ≤ 8) (dg : decode cc pc = .ok (.invokevirtual idx, 3)) (k : R32 x → At E X cc nL own cs (pc + 3) lv ((0, x) :: st) μ') : At E X cc nL own cs pc lv ((0, j) :: (2, a) :: st) μ := by
  unfold J_chr at h
  split at h
  · rename_i hc
    cases h
    obtain ⟨i, rfl⟩ : ∃ i : Nat, a = -2 - (i : Int) := ⟨(-2 - a).toNat, by omega⟩
    have hi : i < 10 := by omega
    rw [show (-2 - (-2 - (i : Int))).toNat = i by omega] at k hc
    exact r_invStr (As := [(0, j)]) hX hi hm (O_charAt hi qj hc.2.2.1 hc.2.2.2) hrm (by decide) rfl hw8 rfl dg k
  · cases h
end JSA
