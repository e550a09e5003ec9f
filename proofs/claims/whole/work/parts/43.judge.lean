/-! PURE: judge, needs -/
section JUDGE
variable {sh : List (Nat × Nat)} {V V' V1 V2 V2' : Int → Int → Int} {r t m s c i j d k x a b y D f p w bk v tb q : Int} {S S' R : Int → Int} {n : Nat} {ρ : Nat → Int}
theorem up_same : up S j (S j) = S := by funext k; unfold up; split <;> simp [*]
theorem WI_x (X : Cx sh V S D) (h0 : 0 ≤ i) (h1 : i < S 152) : WI S D i := ⟨X.2.2.2.1.1, Cx_tr X h0 h1, h0, by have := (Cx_rng X).2.2.2.2.2.1; omega⟩
theorem WI_up (W : WI S D i) : WI (up S (165 + i) p) D i := by
  obtain ⟨K, T, h0, h1⟩ := W
  refine ⟨KOk_of K (fun j hj => upS_ne (by omega)), ?_, h0, h1⟩
  obtain ⟨t1, t2, t3, t4, t5, t6, t7⟩ := T
  unfold TOk
  simp (disch := omega) only [upS_ne]
  refine ⟨t1, t2, t3, t4, t5, t6, fun k g0 g1 => ?_⟩
  simp (disch := omega) only [upS_ne]
  exact t7 k g0 g1
theorem Tp_follow_x (X : Cx sh V S D) (hP : WPt V) (hb : TB sh tb) (h0 : 0 ≤ i) (h1 : i < S 152) (g0 : 0 ≤ w) (g1 : w < 4) {N : Nat} (hN : N ≤ 40) (hw : V (93 + 2 * w) 1 = N) (hρ : ∀ k : Nat, k < N → V (94 + 2 * w) k = ρ k) (hD : D < 1800000000) : ∃ V', Tp_follow tb 2 (11 + 4 * i) (93 + 2 * w) p (sh, V) = some (0, (sh, V')) ∧ SF V V' ∧ Pt V' ∧ WPt V' ∧ (∀ a j, (a < tb ∨ tb + 6 < a) → V' a j = V a j) ∧ FW sh V' tb ρ (up S (165 + i) p) i (tpK ρ 0 (up S (165 + i) p) i N) (tpW ρ 0 (up S (165 + i) p) i N) := by
  have H := X.1
  obtain ⟨⟨kb, kt, k1, k2, k3, k5, k6⟩, hb'⟩ := id hb
  have kb1 : (kS sh tb).1 = 8 := by rw [kb]
  have kt1 : (kS sh (tb + 1)).1 = 6 := by rw [kt]
  obtain ⟨q0, q1, q2⟩ := q_tp X.2.1 hb'
  have hp := hP (tb + 1) (by omega)
  obtain ⟨r1, r2, r3, r4, r5, r6, r7⟩ := Cx_rng X
  obtain ⟨U, e1, e2, e3, e4, e5⟩ := Tr_become_x X h0 h1 kt (by rw [show tb + 1 + 1 = tb + 2 by omega]; exact k1) (by rw [show tb + 1 + 2 = tb + 3 by omega]; exact k2) (by rw [show tb + 1 + 3 = tb + 4 by omega]; exact k3) (by omega) (by omega) hp.1 hp.2.1 hp.2.2
  rw [show tb + 1 + 1 = tb + 2 by omega, show tb + 1 + 2 = tb + 3 by omega, show tb + 1 + 3 = tb + 4 by omega] at e2
  have XU : Cx sh U S D := Cx_lo X (fun a j ha => e3 a j (by omega)) e5
  obtain ⟨u0, u1, u2⟩ := q_tp e5 hb'
  have W := WI_up (p := p) (WI_x X h0 h1)
  generalize hU : upV (upV (upV (upV (upV (upV U (tb + 1) 2 p) tb 5 p) tb 3 0) tb 4 0) (tb + 5) 0 (S (153 + i))) (tb + 6) 0 (S (159 + i)) = Z
  have fz : ∀ a j, (a < tb ∨ tb + 6 < a) → Z a j = V a j := fun a j ha => by
    rw [← hU, up_row (by omega), up_row (by omega), up_row (by omega), up_row (by omega), up_row (by omega), up_row (by omega)]; exact e3 a j (by omega)
  have PZ : Pt Z := by rw [← hU, Pt_k H (by rw [k6]; decide), Pt_k H (by rw [k5]; decide), Pt_tp hb' (by decide), Pt_tp hb' (by decide), Pt_tp hb' (by decide), Pt_k H (by rw [kt]; decide)]; exact e5
  have FZ : FW sh Z tb ρ (up S (165 + i) p) i 0 0 := by
    obtain ⟨⟨a1, a2, a3, a4⟩, ⟨f0, f1, f2, f3, f4, f5⟩, sl⟩ := e2
    have t2 := W.2.1.2.1
    rw [upS_ne (by omega)] at t2
    refine ⟨?_, ?_, ?_, ?_, fun j hj => ?_⟩
    · rw [← hU, up_row (by omega), up_row (by omega), up_col (by decide), up_eq]; rfl
    · rw [← hU, up_row (by omega), up_row (by omega), up_eq]
    · rw [← hU, up_row (by omega), up_row (by omega), up_col (by decide), up_col (by decide), up_eq, low, upS_eq]
    · rw [← hU, TrAt_up (by omega) (by omega) (by omega) (by omega), TrAt_up (by omega) (by omega) (by omega) (by omega), TrAt_up (by omega) (by omega) (by omega) (by omega), TrAt_up (by omega) (by omega) (by omega) (by omega), TrAt_up (by omega) (by omega) (by omega) (by omega)]
      unfold TrAt
      rw [trS]
      simp (disch := omega) only [up_eq, up_col, upS_eq, upS_ne]
      refine ⟨⟨a1, a2, a3, a4⟩, ⟨f0, f1, trivial, f3, f4, f5⟩, fun k g0 g1 => ?_⟩
      simp (disch := omega) only [up_row, upS_ne]
      exact sl k g0 g1
    · have : j = 0 := by omega
      subst this
      rw [← hU, trS, up_row (by omega), upS_ne (by omega), upS_ne (by omega)]
      exact ⟨up_eq, up_eq⟩
  have KZ : CK Z (up S (165 + i) p) := CK_of X.2.2.1.1 r4 (fun j hj => upS_ne (by omega)) (fun a j _ _ => fz a j (by omega))
  have CZ : CM Z (up S (165 + i) p) := CM_of X.2.2.1.2.1 r4 (fun j hj => upS_ne (by omega)) (fz 2 4 (by omega))
  obtain ⟨V', z1, z2, z3, z4, z5⟩ := follow_L (ρ := ρ) H hb W g0 g1 hN hD FU 0 Z (by omega) (by show _ < 1000000; omega) PZ KZ CZ (by rw [fz _ _ (by omega)]; exact hw) (fun k hk => by rw [fz _ _ (by omega)]; exact hρ k hk) FZ (fun j hj => by omega)
  have fr : ∀ a j, (a < tb ∨ tb + 6 < a) → V' a j = V a j := fun a j ha => (z3 a j ha).trans (fz a j ha)
  refine ⟨V', ?_, fun a j ha => fr a j (by omega), z2, WPt_of hP (fun t j ht g2 g3 => ?_), fr, z5⟩
  · unfold Tp_follow
    rw [bgt kb1, q0, bit kt1, e1, bd2_mk, bgt kb1, u0, bpt kt1, bpt kb1, bpt kb1, bpt kb1, bgt kb1, up_col (by decide), up_col (by decide), up_col (by decide), up_row (by omega), u1]
    have ks1 : (kS sh (11 + 4 * i)).1 = 6 := by rw [kt_x X h0 h1]
    obtain ⟨f0, f1, -⟩ := (td_x XU h0 h1).1
    rw [bgt ks1, up_row (by omega), up_row (by omega), up_row (by omega), up_row (by omega), f0, bst (by rw [k5]) (by decide) (by rw [k5]; decide), bgt kb1, up_row (by omega), up_col (by decide), up_col (by decide), up_col (by decide), up_row (by omega), u2, bgt ks1, up_row (by omega), up_row (by omega), up_row (by omega), up_row (by omega), up_row (by omega), f1, bst (by rw [k6]) (by decide) (by rw [k6]; decide), hU]
    exact z1
  · by_cases e : t = tb + 1
    · subst e
      rw [z4 j g2, ← hU, up_row (by omega), up_row (by omega), up_row (by omega), up_row (by omega), up_row (by omega), up_col (by omega)]; exact e4 j g2
    · exact fr t j (by omega)
/-- the reference's frame while goings aren't booked -/
def FN (V V' : Int → Int → Int) : Prop := ∀ a j, ¬ MSc a j → ¬ (a = 101 ∧ j = 15) → V' a j = V a j
theorem FN_FM (h : FM V V') : FN V V' := fun a j q _ => h a j q
theorem FN_up (h : FN V V') (q : MSc a i ∨ (a = 101 ∧ i = 15)) : FN V (upV V' a i x) := fun b j z z' => by
  unfold upV; rw [if_neg (fun e => by rcases q with q | q; exact z (by rw [e.1, e.2]; exact q); exact z' ⟨by rw [e.1]; exact q.1, by rw [e.2]; exact q.2⟩)]; exact h b j z z'
theorem FN_end (h : FN V V') (hb : V 101 15 = 1) : FM V (upV V' 101 15 1) := fun a j q => by
  unfold upV
  by_cases e : a = 101 ∧ j = 15
  · rw [if_pos e, e.1, e.2, hb]
  · rw [if_neg e]; exact h a j q e
theorem PM_fn (P : PM V) (F : FN V V') : PM V' := by
  have hx : ∀ q ∈ ptM, ¬ MSc q.1 q.2.1 ∧ ¬ (q.1 = 101 ∧ q.2.1 = 15) := by unfold MSc; decide
  exact fun q hq => (F _ _ (hx q hq).1 (hx q hq).2).trans (P q hq)
theorem M17 : MSc 101 17 := Or.inl ⟨rfl, Or.inr (Or.inr (Or.inl rfl))⟩
theorem rw_row (hR : RW V V2) (h0 : 0 ≤ w) (h1 : w < 4) : (V2 128 w = -1 ∧ V (93 + 2 * w) 2 = 1) ∨ (V2 128 w ≠ -1 ∧ V (93 + 2 * w) 2 = 0 ∧ ∃ N : Nat, N ≤ 40 ∧ V (93 + 2 * w) 1 = N ∧ V2 129 w = N ∧ (∀ k : Nat, k < N → V (94 + 2 * w) k = (fun z : Nat => V2 130 (40 * w + z)) k)) := by
  rcases hR w h0 h1 with h | ⟨e1, e2, e3, e4, e5, e6⟩
  · exact Or.inl h
  · refine Or.inr ⟨by omega, e2, (V2 129 w).toNat, by omega, by omega, by omega, fun k hk => e6 k (by omega) (by omega)⟩
theorem rs_judge (X : Cx sh V S D) (hP : WPt V) (PM' : PM V2) (hR : RW V V2) (hbk : V2 101 15 = 1) (hD : D < 1800000000) : RS sh V V2 S (T_judge 0 i w k (sh, V)) (M_judge 101 i w k (sh, setR V2 102 S)) := by
  have P1 := PM0 PM'
  have H := X.1
  have P := X.2.1
  obtain ⟨r1, r2, r3, r4, r5, r6, r7⟩ := Cx_rng X
  unfold T_judge M_judge
  rw [bp101 H, b04 X, bi2 X, x_hasTr X, bi101 H, M_isOne_b H P1 r5 r6]
  by_cases h : 0 ≤ i ∧ i < S 152
  · rw [B_t h, if_neg (c := (1 : Int) = 0) (by decide), if_neg (c := (1 : Int) = 0) (by decide), T_isRow_b, M_within_b]
    by_cases g : 0 ≤ w ∧ w < 4
    · rw [B_t g, B_t (by omega : 0 ≤ w ∧ w ≤ 3), if_neg (c := (1 : Int) = 0) (by decide), if_neg (c := (1 : Int) = 0) (by decide), M_within_b]
      by_cases u : 0 ≤ k ∧ k ≤ 6
      · rw [B_t u, if_neg (c := (1 : Int) = 0) (by decide), if_neg (c := k < 0) (by omega), if_neg (c := 6 < k) (by omega), b06 X, b36w H P g.1 g.2, bnf H g.1 g.2, bg101 H, q_101_49 P1, ml128 H g.1 g.2, up_row (by decide)]
        rcases rw_row hR g.1 g.2 with ⟨e1, e2⟩ | ⟨e1, e2, N, hN, e3, e4, e5⟩
        · rw [e1, e2, if_neg (by decide), if_pos rfl]; exact RS_same P hP _
        · rw [e2, if_pos (c := (0 : Int) = 0) rfl, if_neg (c := V2 128 w = -1) e1]
          have W := WI_x X h.1 h.2
          generalize hρ : (fun z : Nat => V2 130 (40 * w + z)) = ρ at e5
          obtain ⟨V', z1, z2, z3, z4, -, z6⟩ := Tp_follow_x (tb := 49) (p := S (165 + i)) X hP (TB49 H) h.1 h.2 g.1 g.2 hN e3 e5 hD
          rw [up_same] at z6
          obtain ⟨F1, F2, F3, ⟨-, ⟨f0, f1, f2, f3, f4, f5⟩, -⟩, -⟩ := z6
          have X' := Cx_sf X z2 z3
          obtain ⟨R', y1, y2⟩ := keeps_ok (S := S) H P1 h.1 (by omega : i < 6)
          generalize hA : upV (setR (upV V2 101 0 0) 106 R') 101 15 0 = A
          have FA : FN V2 A := by rw [← hA]; exact FN_up (FN_FM (FM_set FM0 (by decide) (by decide))) (Or.inr ⟨rfl, rfl⟩)
          have PA := PM_fn PM' FA
          have A15 : A 101 15 = 0 := by rw [← hA, up_eq]
          have eA := goesAll_eq (ρ := ρ) (N := N) H PA W g.1 g.2 hN hD (by rw [FA 129 w (by unfold MSc; omega) (by omega)]; exact e4) (fun k hk => by rw [FA 130 _ (by unfold MSc; omega) (by omega), ← hρ])
          rw [A15] at eA
          generalize hB : upV (upV A 101 17 (tpW ρ 0 S i N)) 101 15 1 = C
          have FC : FM V2 C := by rw [← hB]; exact FN_end (FN_up FA (Or.inl M17)) hbk
          have PC := PM_fm PM' FC
          have C106 : C 106 = R' := by funext z; rw [← hB, up_row (by decide), up_row (by decide), ← hA, up_row (by decide), setR_at]
          have C17 : C 101 17 = tpW ρ 0 S i N := by rw [← hB, up_col (by decide), up_eq]
          have hag := again_ok H PC (S := S) (i := i) (S' := trS ρ 0 S i (tpK ρ 0 S i N)) (by rw [C106]; exact y2) h.1 (by omega) (trS_TI W _ tpK_spec.2.1)
          rw [b04 X, b21 X, b9 X h.1 h.2, bgt (by rw [k_0 H]), q_0_9 P, b04 X, b06 X, b36w H P g.1 g.2, bt2 X h.1 h.2, bit (by rw [k_49 H]), z1, bd2_mk, bi101 H, y1, bd2_mk, bp101 H, hA, bi101 H, eA, bd2_mk, bp101 H, hB]
          have k9 : ∀ f' : Int → Option (Int × Mem), bd (getf 11 9 (sh, V') 0) f' = f' 49 := fun f' => by rw [bgt (by rw [k_0 H]), q_0_9 z3]
          have k49 : ∀ (j : Int) (f' : Int → Option (Int × Mem)), bd (getf 8 j (sh, V') 49) f' = f' (V' 49 j) := fun j f' => bgt (by rw [k_49 H])
          have k50 : ∀ (j : Int) (f' : Int → Option (Int × Mem)), bd (getf 6 j (sh, V') 50) f' = f' (V' 50 j) := fun j f' => bgt (by rw [k_50 H])
          have f0 : V' 50 0 = _ := f0
          have f1 : V' 50 1 = _ := f1
          have f3 : V' 50 3 = _ := f3
          have f4 : V' 50 4 = _ := f4
          have f5 : V' 50 5 = _ := f5
          have fin : ∀ y : Int, RS sh V V2 S (some (y, (sh, V'))) (bd (some y) fun y16 => bd (isk 12 (sh, setR C 102 (trS ρ 0 S i (tpK ρ 0 S i N))) 101) fun _ => bd2 (M_isAgain 101 i (sh, setR C 102 (trS ρ 0 S i (tpK ρ 0 S i N)))) fun _ μ36 => some (y16, μ36)) := fun y => by
            rw [bd_mk, bi101 H, hag, bd2_mk]; exact ⟨y, V', C, rfl, rfl, z2, z3, z4, FC⟩
          have kq : ∀ (j : Int) (f' : Int → Option Int), 0 ≤ j → j < 4887 → (bd (getf 12 1 (sh, setR C 102 (trS ρ 0 S i (tpK ρ 0 S i N))) 101) fun x => bd (lda 20 (sh, setR C 102 (trS ρ 0 S i (tpK ρ 0 S i N))) x j) f') = f' (trS ρ 0 S i (tpK ρ 0 S i N) j) := fun j f' j0 j1 => by rw [bg101 H, blp PC H j0 j1]
          have kk : ∀ (j : Int) (f' : Int → Option Int), 0 ≤ j → j < 126 → (bd (getf 12 16 (sh, setR C 102 (trS ρ 0 S i (tpK ρ 0 S i N))) 101) fun x => bd (lda 20 (sh, setR C 102 (trS ρ 0 S i (tpK ρ 0 S i N))) x j) f') = f' (R' j) := fun j f' j0 j1 => by rw [bg101 H, q_101_16 PC, ml106 H j0 j1, C106]
          have d4 := y2.1 4 (by decide) (by decide)
          have d5 := y2.1 5 (by decide) (by decide)
          rw [show 153 + 6 * 4 + i = 177 + i by omega] at d4
          rw [show 153 + 6 * 5 + i = 183 + i by omega] at d5
          have hk : k = 0 ∨ k = 1 ∨ k = 2 ∨ k = 3 ∨ k = 4 ∨ k = 5 ∨ k = 6 := by omega
          rcases hk with rfl | rfl | rfl | rfl | rfl | rfl | rfl
          · simp only [Int.reduceEq, ↓reduceIte]
            rw [k9, k49, F2, bg101 H, C17]
            by_cases o : tpW ρ 0 S i N = 0
            · rw [if_pos o, if_pos o]; exact fin _
            · rw [if_neg o, if_neg o, k9, k49, F1]; exact fin _
          · simp only [Int.reduceEq, ↓reduceIte]
            rw [k9, k49, F2, bg101 H, C17]; exact fin _
          · simp only [Int.reduceEq, ↓reduceIte]
            rw [k9, k49, q_49_0 z3, k50, f3, bt3 X' h.1 h.2, w32_id (x := 177 + i) (by omega) (by omega), kq _ _ (by omega) (by omega), kk _ _ (by decide) (by decide), d4, bd_mk]; exact fin _
          · simp only [Int.reduceEq, ↓reduceIte]
            rw [k9, k49, q_49_0 z3, k50, f4, bt4 X' h.1 h.2, w32_id (x := 183 + i) (by omega) (by omega), kq _ _ (by omega) (by omega), kk _ _ (by decide) (by decide), d5, bd_mk]; exact fin _
          · simp only [Int.reduceEq, ↓reduceIte]
            rw [k9, k49, q_49_0 z3, k50, f5, w32_id (x := 171 + i) (by omega) (by omega), kq _ _ (by omega) (by omega)]; exact fin _
          · simp only [Int.reduceEq, ↓reduceIte]
            rw [k9, k49, q_49_0 z3, k50, f0, w32_id (x := 153 + i) (by omega) (by omega), kq _ _ (by omega) (by omega)]; exact fin _
          · simp only [Int.reduceEq, ↓reduceIte]
            rw [k9, k49, q_49_0 z3, k50, f1, w32_id (x := 159 + i) (by omega) (by omega), kq _ _ (by omega) (by omega)]; exact fin _
      · rw [B_f u, if_pos (c := (0 : Int) = 0) rfl]
        by_cases q' : k < 0
        · rw [if_pos q']; exact RS_same P hP _
        · rw [if_neg q', if_pos (by omega)]; exact RS_same P hP _
    · rw [B_f g, B_f (by omega), if_pos (c := (0 : Int) = 0) rfl, if_pos (c := (0 : Int) = 0) rfl]; exact RS_same P hP _
  · rw [B_f h, if_pos (c := (0 : Int) = 0) rfl, if_pos (c := (0 : Int) = 0) rfl]; exact RS_same P hP _
end JUDGE
