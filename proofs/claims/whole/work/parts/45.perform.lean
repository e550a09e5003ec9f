/-! PURE: perform, fair -/
section PERF
variable {sh : List (Nat × Nat)} {V V' V1 V2 V2' : Int → Int → Int} {r t m s c i j d k x a b y D D' f p w bk v tb q : Int} {S S' R : Int → Int} {n : Nat} {ρ : Nat → Int}
/-- a call that changes the world -/
def RC (sh : List (Nat × Nat)) (V V2 : Int → Int → Int) (S : Int → Int) (D' : Int) (o1 o2 : Option (Int × Mem)) : Prop := ∃ y V1 V2' S', o1 = some (y, (sh, V1)) ∧ o2 = some (y, (sh, setR V2' 102 S')) ∧ CW V1 S' ∧ SOk S' D' ∧ TP V1 ∧ Pt V1 ∧ WF V V1 ∧ FM V2 V2' ∧ PK S S' 40000
theorem RC_same (X : Cx sh V S D) (hD : D ≤ D') (y : Int) : RC sh V V2 S D' (some (y, (sh, V))) (some (y, (sh, setR (upV V2 101 0 0) 102 S))) := ⟨y, V, _, S, rfl, rfl, X.2.2.1, SOk_mono X.2.2.2.1 hD, X.2.2.2.2.1, X.2.1, fun _ _ _ => rfl, FM0, PK_refl (by decide)⟩
theorem Wo_move_x (X : Cx sh V S D) (h0 : 0 ≤ i) (h1 : i < S 152) : ∃ V', Wo_move 2 (11 + 4 * i) v (sh, V) = some (if rfW S i v = 0 then sAns S i v else rfW S i v, (sh, if rfW S i v = 0 then V' else V)) ∧ (rfW S i v = 0 → (CW V' (goS S i v) ∧ SOk (goS S i v) (D + 90)) ∧ TP V' ∧ WF V V' ∧ Pt V') := by
  obtain ⟨H, P, C, O, T, hD⟩ := id X
  have W := WI_x X h0 h1
  have TR := TrAt_of H T (C.2.2.2.1 i h0 h1) h0 W.2.2.2
  refine ⟨cMove V (11 + 4 * i) (V (11 + 4 * i) 6) (V (11 + 4 * i) 7) (V (11 + 4 * i) 8) S i v, ?_, fun hr => ?_⟩
  · by_cases q : 0 ≤ v ∧ v < S 7
    · have : rfW S i v = sRefuse S i v := by unfold rfW; rw [if_pos q]
      rw [this]
      exact Wo_move_eq H P C.1 C.2.1 O.1 TR hD W.2.1 q.1 q.2
    · have : rfW S i v = -2 := by unfold rfW; rw [if_neg q]
      unfold Wo_move
      rw [bt1 X h0 h1, bi2 X, Wo_step_x H P C.1 C.2.1 TR hD W, bd2_mk, this]
      rfl
  · obtain ⟨hv, h⟩ := rfW_0 hr
    obtain ⟨g1, g2, g3⟩ := CW_go H C O T h0 h1 hv.1 hv.2 h rfl rfl rfl rfl
    exact ⟨g1, g2, g3, Pt_cMove H TR P⟩
theorem Cx_go (X : Cx sh V S D) (hD : D + 90 < 1900000000) (h : (CW V' S' ∧ SOk S' (D + 90)) ∧ TP V' ∧ WF V V' ∧ Pt V') : Cx sh V' S' (D + 90) := ⟨X.1, h.2.2.2, h.1.1, h.1.2, h.2.1, hD⟩
theorem goS_152 (X : Cx sh V S D) (h0 : 0 ≤ i) (h1 : i < S 152) (hr : rfW S i v = 0) : goS S i v 152 = S 152 := by
  have W := WI_x X h0 h1
  exact goS_fr h0 W.2.2.2 W.2.1 (rfW_0 hr).2 (XS_low (by decide))
theorem goS_7 (X : Cx sh V S D) (h0 : 0 ≤ i) (h1 : i < S 152) (hr : rfW S i v = 0) : goS S i v 7 = S 7 := by
  have W := WI_x X h0 h1
  exact goS_fr h0 W.2.2.2 W.2.1 (rfW_0 hr).2 (XS_low (by decide))
theorem WF_trans (h : WF V V') (h' : WF V' V2) : WF V V2 := fun a j q => (h' a j q).trans (h a j q)
theorem perf_L (h0 : 0 ≤ i) (g0 : 0 ≤ w) (g1 : w < 4) {N : Nat} (hN : N ≤ 40) : ∀ (n z : Nat) (V : Int → Int → Int) (S : Int → Int) (D : Int), z ≤ N → N - z < n → Cx sh V S D → i < S 152 → D < 1800000000 + 90 * z → V (93 + 2 * w) 1 = N → (∀ k : Nat, k < N → V (94 + 2 * w) k = ρ k) → ∃ V', T_perform_L46 n 0 i (93 + 2 * w) z (sh, V) = some (((wnt (fun j => rfW (trS (fun k => ρ (k + z)) 1 S i (j - z)) i (ρ j)) (N - z) z : Nat) : Int), (sh, V')) ∧ CW V' (trS (fun k => ρ (k + z)) 1 S i (wnt (fun j => rfW (trS (fun k => ρ (k + z)) 1 S i (j - z)) i (ρ j)) (N - z) z - z)) ∧ SOk (trS (fun k => ρ (k + z)) 1 S i (wnt (fun j => rfW (trS (fun k => ρ (k + z)) 1 S i (j - z)) i (ρ j)) (N - z) z - z)) (D + 90 * (N - z : Nat)) ∧ TP V' ∧ Pt V' ∧ WF V V' ∧ PK S (trS (fun k => ρ (k + z)) 1 S i (wnt (fun j => rfW (trS (fun k => ρ (k + z)) 1 S i (j - z)) i (ρ j)) (N - z) z - z)) (999 * (N - z : Nat)) := by
  intro n
  induction n with
  | zero => intro z _ _ _ _ h; omega
  | succ n ih =>
    intro z V S D hz hn X hi hD hw hρ
    have H := X.1
    have P := X.2.1
    obtain ⟨r1, r2, r3, r4, r5, r6, r7⟩ := Cx_rng X
    rw [T_perform_L46, bnf H g0 g1, hw]
    by_cases h : (z : Int) < (N : Int)
    · have eN : N - z = (N - z - 1) + 1 := by omega
      obtain ⟨V', m1, m2⟩ := Wo_move_x (v := sm (ρ z)) X h0 hi
      rw [if_pos h, b04 X, b04 X, b21 X, b9 X h0 hi, bni H g0 g1, Nu_smallAt_b H P g0 g1 (by omega) (by omega), hρ z (by omega), bi2 X, m1, bd2_mk, eN, wnt, Nat.sub_self, trS, rfW_sm r4]
      rw [rfW_sm r4] at m2
      by_cases q : rfW S i (ρ z) = 0
      · have hA := sAns_nn (WI_x X h0 hi) q
        rw [sm_eq q r4] at m2
        have m2 := m2 q
        have X' := Cx_go X (by omega) m2
        obtain ⟨V'', i1, i2, i3, i4, i5, i6, i7⟩ := ih (z + 1) V' (goS S i (ρ z)) (D + 90) (by omega) (by omega) X' (by rw [goS_152 X h0 hi q]; exact hi) (by omega) (by rw [m2.2.2.1 _ _ (by omega)]; exact hw) (fun k hk => by rw [m2.2.2.1 _ _ (by omega)]; exact hρ k hk)
        rw [if_pos q, if_pos q, if_pos q, sm_eq q r4, if_neg (by omega), w32_id (by omega) (by omega)]
        have et : ∀ j, trS (fun k => ρ (k + z)) 1 S i (j + 1) = trS (fun k => ρ (k + (z + 1))) 1 (goS S i (ρ z)) i j := by
          intro j
          induction j with
          | zero => rw [trS, trS, trS]; unfold stp; rw [if_neg (by decide), Nat.zero_add]
          | succ j ihj => rw [trS, ihj, trS, show j + 1 + z = j + (z + 1) by omega]
        have hsp := wnt_spec (w := fun j => rfW (trS (fun k => ρ (k + (z + 1))) 1 (goS S i (ρ z)) i (j - (z + 1))) i (ρ j)) (N - (z + 1)) (z + 1)
        have ew : wnt (fun j => rfW (trS (fun k => ρ (k + z)) 1 S i (j - z)) i (ρ j)) (N - z - 1) (z + 1) = wnt (fun j => rfW (trS (fun k => ρ (k + (z + 1))) 1 (goS S i (ρ z)) i (j - (z + 1))) i (ρ j)) (N - (z + 1)) (z + 1) := by
          rw [show N - z - 1 = N - (z + 1) by omega]
          refine wnt_congr _ _ (fun k hk _ _ => ?_)
          rw [show k - z = (k - (z + 1)) + 1 by omega, et]
        rw [ew]
        generalize hW : wnt (fun j => rfW (trS (fun k => ρ (k + (z + 1))) 1 (goS S i (ρ z)) i (j - (z + 1))) i (ρ j)) (N - (z + 1)) (z + 1) = K at *
        rw [show K - z = (K - (z + 1)) + 1 by omega, et]
        refine ⟨V'', i1, i2, ?_, i4, i5, WF_trans m2.2.2.1 i6, ?_⟩
        · rw [show D + 90 * ((N - z - 1 + 1 : Nat) : Int) = D + 90 + 90 * ((N - (z + 1) : Nat) : Int) by omega]; exact i3
        · have := PK_trans (PK_go (WI_x X h0 hi) r6 hi q) i7 (by omega)
          rw [show 999 * ((N - z - 1 + 1 : Nat) : Int) = 999 + 999 * ((N - (z + 1) : Nat) : Int) by omega]; exact this
      · have hneg := rfW_neg q
        rw [if_neg q, if_neg q, if_neg q, if_pos hneg, Nat.sub_self, trS]
        exact ⟨V, rfl, X.2.2.1, SOk_mono X.2.2.2.1 (by omega), X.2.2.2.2.1, P, fun _ _ _ => rfl, PK_refl (by omega)⟩
    · have : z = N := by omega
      subst this
      rw [if_neg h, Nat.sub_self, wnt, Nat.sub_self, trS]
      exact ⟨V, rfl, X.2.2.1, SOk_mono X.2.2.2.1 (by omega), X.2.2.2.2.1, P, fun _ _ _ => rfl, PK_refl (by omega)⟩
theorem rc_perform (X : Cx sh V S D) (PM' : PM V2) (hR : RW V V2) (hbk : V2 101 15 = 1) (hD : D < 1800000000) : RC sh V V2 S (D + 3600) (T_perform 0 i w (sh, V)) (M_perform 101 i w (sh, setR V2 102 S)) := by
  have P1 := PM0 PM'
  have H := X.1
  have P := X.2.1
  obtain ⟨r1, r2, r3, r4, r5, r6, r7⟩ := Cx_rng X
  unfold T_perform M_perform
  rw [bp101 H, b04 X, bi2 X, x_hasTr X, bi101 H, M_isOne_b H P1 r5 r6]
  by_cases h : 0 ≤ i ∧ i < S 152
  · rw [B_t h, if_neg (c := (1 : Int) = 0) (by decide), if_neg (c := (1 : Int) = 0) (by decide), T_isRow_b, M_within_b]
    by_cases g : 0 ≤ w ∧ w < 4
    · rw [B_t g, B_t (by omega : 0 ≤ w ∧ w ≤ 3), if_neg (c := (1 : Int) = 0) (by decide), if_neg (c := (1 : Int) = 0) (by decide), b06 X, b36w H P g.1 g.2, bnf H g.1 g.2, bg101 H, q_101_49 P1, ml128 H g.1 g.2, up_row (by decide)]
      rcases rw_row hR g.1 g.2 with ⟨e1, e2⟩ | ⟨e1, e2, N, hN, e3, e4, e5⟩
      · rw [e1, e2, if_neg (by decide), if_pos rfl]; exact RC_same X (by omega) _
      · generalize hρ : (fun z : Nat => V2 130 (40 * w + z)) = ρ at e5
        rw [e2, if_pos (c := (0 : Int) = 0) rfl, if_neg (c := V2 128 w = -1) e1, b06 X, b36w H P g.1 g.2, bi101 H]
        obtain ⟨V', z1, z2, z3, z4, z5, z6, z7⟩ := perf_L (ρ := ρ) h.1 g.1 g.2 hN FU 0 V S D (by omega) (by show _ < 1000000; omega) X h.2 (by omega) e3 e5
        have eA := goesAll_eq (ρ := ρ) (N := N) H P1 (WI_x X h.1 h.2) g.1 g.2 hN hD (by rw [up_row (by decide)]; exact e4) (fun k hk => by rw [up_row (by decide), ← hρ])
        rw [up_col (by decide), hbk] at eA
        rw [eA, bd2_mk]
        refine ⟨_, V', _, _, z1, rfl, z2, SOk_mono z3 (by omega), z4, z5, z6, FM_up FM0 M17, PK_mono z7 (by omega) (by omega)⟩
    · rw [B_f g, B_f (by omega), if_pos (c := (0 : Int) = 0) rfl, if_pos (c := (0 : Int) = 0) rfl]; exact RC_same X (by omega) _
  · rw [B_f h, if_pos (c := (0 : Int) = 0) rfl, if_pos (c := (0 : Int) = 0) rfl]; exact RC_same X (by omega) _
/-! fair -/
def opN (S : Int → Int) (t : Int) : Nat → Nat
  | 0 => 0
  | r + 1 => opN S t r + if S (128 + r) = 0 ∧ (S (8 + r) = t ∨ S (32 + r) = t) then 1 else 0
theorem opM_bit : ∀ (n r : Nat), (opM S t n).testBit r = decide (r < n ∧ S (128 + r) = 0 ∧ (S (8 + r) = t ∨ S (32 + r) = t)) := by
  intro n
  induction n with
  | zero => intro r; simp [opM]
  | succ n ih =>
    intro r
    rw [opM]
    have hl := opM_lt (S := S) (t := t) n
    by_cases q : S (128 + (n : Int)) = 0 ∧ (S (8 + (n : Int)) = t ∨ S (32 + (n : Int)) = t)
    · rw [if_pos q, Nat.add_comm]
      by_cases e : r = n
      · subst e
        rw [Nat.testBit_two_pow_add_eq, ih]
        simp [q]
      · by_cases l : r < n
        · rw [Nat.testBit_two_pow_add_gt l, ih]
          simp only [l, true_and, show r < n + 1 from by omega]
        · have h1 : 2 ^ n + opM S t n < 2 ^ r := by
            have : 2 ^ (n + 1) ≤ 2 ^ r := Nat.pow_le_pow_right (by decide) (by omega)
            rw [Nat.pow_succ] at this; omega
          rw [Nat.testBit_lt_two_pow h1]
          simp; omega
    · rw [if_neg q, ih]
      by_cases e : r = n
      · subst e; simp [q]
      · simp only [show (r < n + 1) ↔ (r < n) from by omega]
theorem bit_tb (m r : Nat) : m / 2 ^ r % 2 = if m.testBit r = true then 1 else 0 := by
  rw [Nat.testBit_eq_decide_div_mod_eq]
  have : m / 2 ^ r % 2 = 0 ∨ m / 2 ^ r % 2 = 1 := by omega
  rcases this with q | q <;> rw [q] <;> rfl
theorem pc_opM (n : Nat) : ∀ r : Nat, pc (opM S t n) r = opN S t (min r n) := by
  intro r
  induction r with
  | zero => simp [pc, opN]
  | succ r ih =>
    rw [pc, ih, bit_tb, opM_bit]
    by_cases h : r < n
    · rw [show min r n = r by omega, show min (r + 1) n = r + 1 by omega, opN]
      by_cases q : S (128 + (r : Int)) = 0 ∧ (S (8 + (r : Int)) = t ∨ S (32 + (r : Int)) = t)
      · simp [h, q]
      · simp [h, q]
    · rw [show min r n = n by omega, show min (r + 1) n = n by omega]
      simp [h]
theorem ushr16_rng : 0 ≤ ushr32 x 16 ∧ ushr32 x 16 < 65536 := by
  have hc : ((Int32.ofInt (16 : Int)).toUInt32 &&& Int32.toUInt32 31).toNat % 32 = 16 := by decide +kernel
  have e : ((Int32.ofInt x).toUInt32 >>> ((Int32.ofInt (16 : Int)).toUInt32 &&& Int32.toUInt32 31)).toNat < 65536 := by
    rw [UInt32.toNat_shiftRight, hc, Nat.shiftRight_eq_div_pow]
    have := (Int32.ofInt x).toUInt32.toNat_lt
    omega
  unfold ushr32
  generalize (Int32.ofInt x).toUInt32 >>> ((Int32.ofInt (16 : Int)).toUInt32 &&& Int32.toUInt32 31) = u at e ⊢
  have e2 : u.toInt32.toInt = ((u.toNat : Nat) : Int) := by
    show u.toBitVec.toInt = _
    rw [BitVec.toInt_eq_toNat_of_lt (by show 2 * u.toNat < 2 ^ 32; omega)]
    rfl
  rw [e2]; omega
theorem fairN (H : Sh sh) (P : PM V) (h3 : 0 ≤ S 7) (h4 : S 7 ≤ 24) (h0 : 0 ≤ i) (h1 : i < 6) {kk : Int → Int → Int → Int → Int → Int → Mem → Option (Int × Mem)} {u1 u2 u3 : Int} : ∀ (n z : Nat), (z : Int) ≤ S 7 → (S 7).toNat - z < n → M_fair_L49 kk n 101 i u1 u2 u3 (opN S (S (153 + i)) z : Nat) z (sh, setR V 102 S) = kk 101 i u1 u2 u3 (opN S (S (153 + i)) (S 7).toNat : Nat) (sh, setR V 102 S) := by
  intro n
  induction n with
  | zero => intro z _ h; omega
  | succ n ih =>
    intro z hz hn
    have hl : ∀ z, opN S (S (153 + i)) z ≤ z := fun z => by
      induction z with
      | zero => simp [opN]
      | succ z ihz => rw [opN]; split <;> omega
    have hlz := hl z
    rw [M_fair_L49]
    by_cases h : (z : Int) < S 7
    · have hi := ih (z + 1) (by omega) (by omega)
      rw [opN] at hi
      have g0 : 0 ≤ (z : Int) := by omega
      by_cases q : S (128 + z) = 0
      · by_cases q' : S (8 + z) = S (153 + i) ∨ S (32 + z) = S (153 + i)
        · rw [if_pos ⟨q, q'⟩, Int.natCast_add] at hi
          simp (disch := first | assumption | omega | (simp (disch := first | omega | decide) only [w32_id, upS_eq, upS_ne, PM_row, PM_fld]; first | assumption | omega)) only [Int.reduceEq, Int.reduceLT, Int.reduceLE, Int.reduceAdd, Int.reduceSub, Int.reduceNeg, Int.reduceMul, ↓bd_mk, ↓bd2_mk, ↓bg101, ↓bp101, ↓bi101, ↓bl102, ↓bs102, ↓blp, ↓bsp, ↓bdiv, ↓brem, ↓bokz, ↓M_slipAt_b, ↓M_within_b, ↓reduceIte, upS_eq, upS_ne, w32_id, w64_id, if_some2, B_0, B_1, okz_B, ite_not, h, q, q', ↓M_isOpen_b, ↓M_leads_b]; exact hi
        · rw [if_neg (fun z => q' z.2), Nat.add_zero] at hi
          simp (disch := first | assumption | omega | (simp (disch := first | omega | decide) only [w32_id, upS_eq, upS_ne, PM_row, PM_fld]; first | assumption | omega)) only [Int.reduceEq, Int.reduceLT, Int.reduceLE, Int.reduceAdd, Int.reduceSub, Int.reduceNeg, Int.reduceMul, ↓bd_mk, ↓bd2_mk, ↓bg101, ↓bp101, ↓bi101, ↓bl102, ↓bs102, ↓blp, ↓bsp, ↓bdiv, ↓brem, ↓bokz, ↓M_slipAt_b, ↓M_within_b, ↓reduceIte, upS_eq, upS_ne, w32_id, w64_id, if_some2, B_0, B_1, okz_B, ite_not, h, q, q', ↓M_isOpen_b, ↓M_leads_b, Int.add_zero]; exact hi
      · rw [if_neg (fun z => q z.1), Nat.add_zero] at hi
        simp (disch := first | assumption | omega | (simp (disch := first | omega | decide) only [w32_id, upS_eq, upS_ne, PM_row, PM_fld]; first | assumption | omega)) only [Int.reduceEq, Int.reduceLT, Int.reduceLE, Int.reduceAdd, Int.reduceSub, Int.reduceNeg, Int.reduceMul, ↓bd_mk, ↓bd2_mk, ↓bg101, ↓bp101, ↓bi101, ↓bl102, ↓bs102, ↓blp, ↓bsp, ↓bdiv, ↓brem, ↓bokz, ↓M_slipAt_b, ↓M_within_b, ↓reduceIte, upS_eq, upS_ne, w32_id, w64_id, if_some2, B_0, B_1, okz_B, ite_not, h, q, ↓M_isOpen_b, ↓M_leads_b, Int.add_zero]; exact hi
    · have : z = (S 7).toNat := by omega
      simp (disch := first | assumption | omega | (simp (disch := first | omega | decide) only [w32_id, upS_eq, upS_ne, PM_row, PM_fld]; first | assumption | omega)) only [Int.reduceEq, Int.reduceLT, Int.reduceLE, Int.reduceAdd, Int.reduceSub, Int.reduceNeg, Int.reduceMul, ↓bd_mk, ↓bd2_mk, ↓bg101, ↓bp101, ↓bi101, ↓bl102, ↓bs102, ↓blp, ↓bsp, ↓bdiv, ↓brem, ↓bokz, ↓M_slipAt_b, ↓M_within_b, ↓reduceIte, upS_eq, upS_ne, w32_id, w64_id, if_some2, B_0, B_1, okz_B, ite_not, h]; rw [this]
theorem fairB (H : Sh sh) (P : PM V) (h3 : 0 ≤ S 7) (h4 : S 7 ≤ 24) (h0 : 0 ≤ i) (h1 : i < 6) {μ : Mem} : ∀ (n z l : Nat), (z : Int) ≤ S 7 → (S 7).toNat - z < n → opN S (S (153 + i)) z + l < opN S (S (153 + i)) (S 7).toNat → l < 100000 → ∃ r : Nat, (r : Int) < S 7 ∧ T_bitOf_L4 n (opM S (S (153 + i)) (S 7).toNat : Nat) l z μ = some ((r : Int), μ) ∧ ∀ kk u1 u2 u3, M_fair_L138 kk n 101 i u1 u2 u3 l z (sh, setR V 102 S) = kk 101 i u1 u2 u3 r (sh, setR V 102 S) := by
  intro n
  induction n with
  | zero => intro z _ _ h; omega
  | succ n ih =>
    intro z l hz hn hl hl'
    have h : (z : Int) < S 7 := by
      by_cases e : (z : Int) < S 7
      · exact e
      · rw [show z = (S 7).toNat by omega] at hl; omega
    have hb := bit_at (m := opM S (S (153 + i)) (S 7).toNat) (r := z) (by have := opM_lt (S := S) (t := S (153 + i)) (S 7).toNat; have : 2 ^ (S 7).toNat ≤ 2 ^ 24 := Nat.pow_le_pow_right (by decide) (by omega); omega) (by omega)
    rw [bit_tb, opM_bit] at hb
    have g0 : 0 ≤ (z : Int) := by omega
    have hz' : z < (S 7).toNat := by omega
    rw [T_bitOf_L4, if_pos (by omega), hb]
    by_cases q : S (128 + (z : Int)) = 0
    · by_cases q' : S (8 + (z : Int)) = S (153 + i) ∨ S (32 + (z : Int)) = S (153 + i)
      · have hop : opN S (S (153 + i)) (z + 1) = opN S (S (153 + i)) z + 1 := by rw [opN, if_pos ⟨q, q'⟩]
        simp only [hz', q, q', and_self, decide_true, ↓reduceIte, Int.cast_ofNat_Int, Int.reduceEq]
        rcases l with _ | l
        · refine ⟨z, h, by simp, fun kk u1 u2 u3 => ?_⟩
          rw [M_fair_L138, show ((0 : Nat) : Int) = 0 from rfl]
          simp (disch := first | assumption | omega | (simp (disch := first | omega | decide) only [w32_id, upS_eq, upS_ne, PM_row, PM_fld]; first | assumption | omega)) only [Int.reduceEq, Int.reduceLT, Int.reduceLE, Int.reduceAdd, Int.reduceSub, Int.reduceNeg, Int.reduceMul, ↓bd_mk, ↓bd2_mk, ↓bg101, ↓bp101, ↓bi101, ↓bl102, ↓bs102, ↓blp, ↓bsp, ↓bdiv, ↓brem, ↓bokz, ↓M_slipAt_b, ↓M_within_b, ↓reduceIte, upS_eq, upS_ne, w32_id, w64_id, if_some2, B_0, B_1, okz_B, ite_not, q, q', ↓M_isOpen_b, ↓M_leads_b, Int.lt_irrefl]
        · obtain ⟨r, i1, i2, i3⟩ := ih (z + 1) l (by omega) (by omega) (by omega) (by omega)
          refine ⟨r, i1, ?_, fun kk u1 u2 u3 => ?_⟩
          · rw [if_neg (by omega), w32_id (x := (z : Int) + 1) (by omega) (by omega), w32_id (by omega) (by omega), show (((l + 1 : Nat) : Int) + -1) = (l : Int) by omega]; exact i2
          · have hp : 0 < ((l + 1 : Nat) : Int) := by omega
            rw [M_fair_L138]
            simp (disch := first | assumption | omega | (simp (disch := first | omega | decide) only [w32_id, upS_eq, upS_ne, PM_row, PM_fld]; first | assumption | omega)) only [Int.reduceEq, Int.reduceLT, Int.reduceLE, Int.reduceAdd, Int.reduceSub, Int.reduceNeg, Int.reduceMul, ↓bd_mk, ↓bd2_mk, ↓bg101, ↓bp101, ↓bi101, ↓bl102, ↓bs102, ↓blp, ↓bsp, ↓bdiv, ↓brem, ↓bokz, ↓M_slipAt_b, ↓M_within_b, ↓reduceIte, upS_eq, upS_ne, w32_id, w64_id, if_some2, B_0, B_1, okz_B, ite_not, q, q', hp, M_fair_J171, ↓M_isOpen_b, ↓M_leads_b]
            rw [show (((l + 1 : Nat) : Int) - 1) = (l : Int) by omega]
            exact i3 kk u1 u2 u3
      · have hop : opN S (S (153 + i)) (z + 1) = opN S (S (153 + i)) z := by rw [opN, if_neg (fun z => q' z.2)]; omega
        obtain ⟨r, i1, i2, i3⟩ := ih (z + 1) l (by omega) (by omega) (by omega) (by omega)
        refine ⟨r, i1, ?_, fun kk u1 u2 u3 => ?_⟩
        · simp only [q', and_false, decide_false, Bool.false_eq_true, ↓reduceIte, Int.cast_ofNat_Int]
          rw [w32_id (by omega) (by omega)]; exact i2
        · rw [M_fair_L138]
          simp (disch := first | assumption | omega | (simp (disch := first | omega | decide) only [w32_id, upS_eq, upS_ne, PM_row, PM_fld]; first | assumption | omega)) only [Int.reduceEq, Int.reduceLT, Int.reduceLE, Int.reduceAdd, Int.reduceSub, Int.reduceNeg, Int.reduceMul, ↓bd_mk, ↓bd2_mk, ↓bg101, ↓bp101, ↓bi101, ↓bl102, ↓bs102, ↓blp, ↓bsp, ↓bdiv, ↓brem, ↓bokz, ↓M_slipAt_b, ↓M_within_b, ↓reduceIte, upS_eq, upS_ne, w32_id, w64_id, if_some2, B_0, B_1, okz_B, ite_not, q, q', M_fair_J171, ↓M_isOpen_b, ↓M_leads_b, Int.sub_zero]
          exact i3 kk u1 u2 u3
    · have hop : opN S (S (153 + i)) (z + 1) = opN S (S (153 + i)) z := by rw [opN, if_neg (fun z => q z.1)]; omega
      obtain ⟨r, i1, i2, i3⟩ := ih (z + 1) l (by omega) (by omega) (by omega) (by omega)
      refine ⟨r, i1, ?_, fun kk u1 u2 u3 => ?_⟩
      · simp only [q, false_and, and_false, decide_false, Bool.false_eq_true, ↓reduceIte, Int.cast_ofNat_Int]
        rw [w32_id (by omega) (by omega)]; exact i2
      · rw [M_fair_L138]
        simp (disch := first | assumption | omega | (simp (disch := first | omega | decide) only [w32_id, upS_eq, upS_ne, PM_row, PM_fld]; first | assumption | omega)) only [Int.reduceEq, Int.reduceLT, Int.reduceLE, Int.reduceAdd, Int.reduceSub, Int.reduceNeg, Int.reduceMul, ↓bd_mk, ↓bd2_mk, ↓bg101, ↓bp101, ↓bi101, ↓bl102, ↓bs102, ↓blp, ↓bsp, ↓bdiv, ↓brem, ↓bokz, ↓M_slipAt_b, ↓M_within_b, ↓reduceIte, upS_eq, upS_ne, w32_id, w64_id, if_some2, B_0, B_1, okz_B, ite_not, q, M_fair_J171, ↓M_isOpen_b, ↓M_leads_b, Int.sub_zero]
        exact i3 kk u1 u2 u3
theorem opN_0 {n : Nat} (h : opM S t n = 0) : opN S t n = 0 := by
  have := pc_opM (S := S) (t := t) n n
  rw [h, Nat.min_self] at this
  rw [← this]
  have : ∀ r, pc 0 r = 0 := fun r => by
    induction r with
    | zero => rfl
    | succ r ih => rw [pc, ih]; simp
  exact this n
theorem opM_0 {n : Nat} (h : opN S t n = 0) : opM S t n = 0 := by
  induction n with
  | zero => rfl
  | succ n ih =>
    rw [opN] at h
    rw [opM]
    split at h
    · omega
    · rename_i q; rw [if_neg q]; exact ih (by omega)
end PERF
