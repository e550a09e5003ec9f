/-! PURE: needs -/
section NEEDS
variable {sh : List (Nat × Nat)} {V V' V1 V2 V2' : Int → Int → Int} {r t m s c i j d k x a b y D f p w bk v tb q : Int} {S S' R : Int → Int} {n : Nat} {ρ : Nat → Int}
theorem sBk_up (h0 : 0 ≤ i) (h1 : i < 6) (hr : 0 ≤ r) (hr' : r < 24) : sBk (up S (165 + i) p) i r = sBk S i r := by
  unfold sBk
  rw [upS_ne (by omega), upS_ne (k := 153 + i) (by omega), sDart_up (by omega) hr hr']
  by_cases q : 0 < S (171 + i)
  · rw [upS_ne (by omega)]
  · rw [B_f (fun z => q z.1), B_f (fun z => q z.1)]
theorem sAmt_up (h0 : 0 ≤ i) (h1 : i < 6) (hr : 0 ≤ r) (hr' : r < 24) (hm : 0 ≤ S (171 + i)) (hm' : S (171 + i) ≤ 40) : sAmt (up S (165 + i) p) i r = sAmt S i r := by
  unfold sAmt sWorthOf
  rw [sBk_up h0 h1 hr hr', upS_ne (k := 159 + i) (by omega), upS_ne (k := 171 + i) (by omega), sToll_up (by omega) hr hr', sWorth_up (by omega)]
  split
  · rfl
  · rw [upS_ne (by omega), upS_ne (by omega)]
theorem sStep_up (h0 : 0 ≤ i) (h1 : i < 6) (hr : 0 ≤ r) (hr' : r < 24) (hm : 0 ≤ S (171 + i)) (hm' : S (171 + i) ≤ 40) (hm2 : sBk S i r = 0 → S (171 + i) < 40) : sStep (up S (165 + i) p) i r = up (sStep S i r) (165 + i) (if sBk S i r = 0 then w32 (p - sAmt S i r) else w32 (p + sAmt S i r)) ∧ sStep S i r (165 + i) = if sBk S i r = 0 then w32 (S (165 + i) - sAmt S i r) else w32 (S (165 + i) + sAmt S i r) := by
  have hd := sDart_rng (S := S) (t := S (153 + i)) hr hr'
  unfold sStep
  rw [sBk_up h0 h1 hr hr', sAmt_up h0 h1 hr hr' hm hm', upS_ne (k := 153 + i) (by omega), upS_ne (k := 159 + i) (by omega), upS_ne (k := 104 + r) (by omega), sDart_up (by omega) hr hr', sHead_up (by omega) hd.1 hd.2]
  rcases sBk_01 S i r with q | q
  · have := hm2 q
    simp only [q, ↓reduceIte]
    unfold sPay
    rw [upS_ne (k := 171 + i) (by omega), upS_ne (k := 159 + i) (by omega), upS_eq, upS_ne (k := 177 + i) (by omega)]
    refine ⟨?_, by simp (disch := omega) only [upS_eq, upS_ne]⟩
    funext j
    by_cases e : j = 165 + i
    · subst e; simp (disch := omega) only [upS_eq, upS_ne]
    · simp only [up, e, ↓reduceIte]
  · simp only [q, Int.reduceEq, ↓reduceIte]
    unfold sHad
    rw [upS_ne (k := 171 + i) (by omega), upS_eq, upS_ne (k := 183 + i) (by omega)]
    refine ⟨?_, by simp (disch := omega) only [upS_eq, upS_ne]⟩
    funext j
    by_cases e : j = 165 + i
    · subst e; simp (disch := omega) only [upS_eq, upS_ne]
    · simp only [up, e, ↓reduceIte]
theorem rfW_up (W : WI S D i) (hp : 999 ≤ p) (hq : 999 ≤ S (165 + i)) : rfW (up S (165 + i) p) i v = rfW S i v := by
  obtain ⟨K, T, h0, h1⟩ := W
  have z4 := K.2.2.2.1
  unfold rfW
  rw [upS_ne (k := 7) (by omega)]
  by_cases g : 0 ≤ v ∧ v < S 7
  · have ht := sToll_rng (d := S (159 + i)) K g.1 g.2
    rw [if_pos g, if_pos g]
    unfold sRefuse
    rw [sBk_up h0 h1 g.1 (by omega), upS_ne (k := 128 + v) (by omega), upS_ne (k := 8 + v) (by omega), upS_ne (k := 32 + v) (by omega), upS_ne (k := 153 + i) (by omega), upS_eq, upS_ne (k := 159 + i) (by omega), upS_ne (k := 171 + i) (by omega), sToll_up (by omega) g.1 (by omega), if_neg (c := p < sToll S v (S (159 + i))) (by omega), if_neg (c := S (165 + i) < sToll S v (S (159 + i))) (by omega)]
  · rw [if_neg g, if_neg g]
theorem need_off (W : WI S D i) : ∀ z : Nat, z ≤ 40 → (∀ j, j < z → rfW (trS ρ 0 (up S (165 + i) 100000000) i j) i (ρ j) = 0) → trS ρ 0 (up S (165 + i) 1000000000) i z = up (trS ρ 0 (up S (165 + i) 100000000) i z) (165 + i) (trS ρ 0 (up S (165 + i) 100000000) i z (165 + i) + 900000000) ∧ 100000000 - 999 * z ≤ trS ρ 0 (up S (165 + i) 100000000) i z (165 + i) ∧ trS ρ 0 (up S (165 + i) 100000000) i z (165 + i) ≤ 100000000 + 999 * z := by
  intro z
  induction z with
  | zero =>
    intro _ _
    simp only [trS, upS_eq]
    refine ⟨?_, by omega, by omega⟩
    funext j; unfold up; split <;> rfl
  | succ z ih =>
    intro hz hj
    obtain ⟨e1, e2, e3⟩ := ih (by omega) (fun j h => hj j (by omega))
    have Wz := trS_WI (WI_up (p := 100000000) W) z (fun j h => hj j (by omega))
    have hq := hj z (by omega)
    obtain ⟨g, h⟩ := rfW_0 hq
    have z4 := Wz.1.2.2.2.1
    have hA := sAmt_rng Wz.1 Wz.2.1 g.1 g.2
    obtain ⟨s1, s2⟩ := sStep_up (p := trS ρ 0 (up S (165 + i) 100000000) i z (165 + i) + 900000000) Wz.2.2.1 Wz.2.2.2 g.1 (by omega) Wz.2.1.1 Wz.2.1.2.1 (sRefuse_m h Wz.2.1.2.1)
    rw [trS, trS]
    unfold stp
    rw [if_pos rfl, if_pos rfl, e1, s1, s2]
    split
    · rw [w32_id (by omega) (by omega), w32_id (by omega) (by omega)]
      exact ⟨by congr 1; omega, by omega, by omega⟩
    · rw [w32_id (by omega) (by omega), w32_id (by omega) (by omega)]
      exact ⟨by congr 1; omega, by omega, by omega⟩
theorem need_rf (W : WI S D i) : ∀ z : Nat, z ≤ 40 → (∀ j, j < z → rfW (trS ρ 0 (up S (165 + i) 100000000) i j) i (ρ j) = 0) → rfW (trS ρ 0 (up S (165 + i) 1000000000) i z) i (ρ z) = rfW (trS ρ 0 (up S (165 + i) 100000000) i z) i (ρ z) := by
  intro z hz hj
  obtain ⟨e1, e2, e3⟩ := need_off W z hz hj
  rw [e1]
  exact rfW_up (trS_WI (WI_up W) z hj) (by omega) (by omega)
theorem wnt_congr {w w' : Nat → Int} : ∀ (m z : Nat), (∀ k, z ≤ k → k < z + m → (∀ j, z ≤ j → j < k → w j = 0) → w' k = w k) → wnt w' m z = wnt w m z := by
  intro m
  induction m with
  | zero => intro z _; rfl
  | succ m ih =>
    intro z h
    rw [wnt, wnt, h z (by omega) (by omega) (fun j _ _ => by omega)]
    by_cases q : w z = 0
    · rw [if_pos q, if_pos q]
      refine ih (z + 1) (fun k h0 h1 hj => h k (by omega) (by omega) (fun j g0 g1 => ?_))
      by_cases e : j = z
      · rw [e]; exact q
      · exact hj j (by omega) g1
    · rw [if_neg q, if_neg q]
theorem need_K (W : WI S D i) {N : Nat} (hN : N ≤ 40) : tpK ρ 0 (up S (165 + i) 1000000000) i N = tpK ρ 0 (up S (165 + i) 100000000) i N := wnt_congr N 0 (fun k _ h1 hj => need_rf W k (by omega) (fun j h => hj j (by omega) h))
theorem need_W (W : WI S D i) {N : Nat} (hN : N ≤ 40) : tpW ρ 0 (up S (165 + i) 1000000000) i N = tpW ρ 0 (up S (165 + i) 100000000) i N := by
  have := tpK_spec (ρ := ρ) (bk := 0) (S := up S (165 + i) 100000000) (i := i) (N := N)
  unfold tpW
  rw [need_K W hN, need_rf W _ (by omega) this.2.1]
theorem need_low (W : WI S D i) : ∀ z : Nat, z ≤ 40 → (∀ j, j < z → rfW (trS ρ 0 (up S (165 + i) 100000000) i j) i (ρ j) = 0) → 1000000000 - 999 * z ≤ low ρ (up S (165 + i) 1000000000) i z ∧ low ρ (up S (165 + i) 1000000000) i z ≤ 1000000000 := by
  intro z
  induction z with
  | zero => intro _ _; rw [low, upS_eq]; omega
  | succ z ih =>
    intro hz hj
    have := ih (by omega) (fun j h => hj j (by omega))
    obtain ⟨e1, e2, e3⟩ := need_off W (z + 1) hz hj
    rw [low, e1, upS_eq]
    split <;> omega
theorem need_L {kk : Int → Int → Int → Int → Mem → Option (Int × Mem)} (H : Sh sh) (P : PM V) (W : WI S D i) (h0 : 0 ≤ w) (h1 : w < 4) {N : Nat} (hN : N ≤ 40) (hD : D < 1800000000) (hw : V 129 w = N) (hρ : ∀ k : Nat, k < N → V 130 (40 * w + k) = ρ k) (hbk : V 101 15 = 0) : ∀ (n z : Nat), z ≤ N → N - z < n → (∀ j, j < z → rfW (trS ρ 0 (up S (165 + i) 100000000) i j) i (ρ j) = 0) → ∃ u, (wnt (fun j => rfW (trS ρ 0 (up S (165 + i) 100000000) i j) i (ρ j)) (N - z) z = N → u = 1000000000 - low ρ (up S (165 + i) 1000000000) i N) ∧ M_needs_L72 kk n 101 i w (1000000000 - low ρ (up S (165 + i) 1000000000) i z) 1 z (sh, setR V 102 (trS ρ 0 (up S (165 + i) 100000000) i z)) = kk 101 i u (if wnt (fun j => rfW (trS ρ 0 (up S (165 + i) 100000000) i j) i (ρ j)) (N - z) z = N then 1 else 0) (sh, setR V 102 (trS ρ 0 (up S (165 + i) 100000000) i (wnt (fun j => rfW (trS ρ 0 (up S (165 + i) 100000000) i j) i (ρ j)) (N - z) z))) := by
  intro n
  induction n with
  | zero => intro z _ h; omega
  | succ n ih =>
    intro z hz hn hj
    have Wz := trS_WI (WI_up (p := 100000000) W) z hj
    have z3 := Wz.1.2.2.1
    have z4 := Wz.1.2.2.2.1
    have hlow := need_low W z (by omega) hj
    rw [M_needs_L72, bg101 H, q_101_50 P, ml129 H h0 h1, hw]
    by_cases h : (z : Int) < (N : Int)
    · have eN : N - z = (N - z - 1) + 1 := by omega
      have hρz := hρ z (by omega)
      rw [eN, wnt, if_pos h, if_neg (c := (1 : Int) = 0) (by decide), bg101 H, q_101_51 P, w32_id (x := 40 * w) (by omega) (by omega), w32_id (x := 40 * w + z) (by omega) (by omega), ml130 H (by omega) (by omega), hρz, bi101 H, M_isRoad_b H P z3 z4]
      generalize hT : trS ρ 0 (up S (165 + i) 100000000) i z = T at *
      have hy : ∀ f : Int → Mem → Option (Int × Mem), bd2 (if B (0 ≤ ρ z ∧ ρ z < T 7) = 0 then some (0, (sh, setR V 102 T)) else bd (isk 12 (sh, setR V 102 T) 101) fun _ => bd2 (M_refuses 101 i (w32 (ρ z)) (sh, setR V 102 T)) fun x9 μ10 => if x9 = 0 then some (1, μ10) else some (0, μ10)) f = f (B (rfW T i (ρ z) = 0)) (sh, setR V 102 T) := by
        intro f
        unfold rfW
        by_cases q : 0 ≤ ρ z ∧ ρ z < T 7
        · rw [B_t q, if_neg (by decide), bi101 H, w32_id (by omega) (by omega), M_refuses_x H P Wz (by omega) q.1 q.2, bd2_mk, if_pos q, if_some2, bd2_mk]; rfl
        · rw [B_f q, if_pos rfl, bd2_mk, if_neg q]; rfl
      rw [hy]
      by_cases q : rfW T i (ρ z) = 0
      · have hz' := (rfW_0 q).1
        have hj' : ∀ j, j < z + 1 → rfW (trS ρ 0 (up S (165 + i) 100000000) i j) i (ρ j) = 0 := fun j h => by
          by_cases e : j = z
          · rw [e, hT]; exact q
          · exact hj j (by omega)
        obtain ⟨o1, o2, o3⟩ := need_off W (z + 1) (by omega) hj'
        have hlow' := need_low W (z + 1) (by omega) hj'
        obtain ⟨u, i1, i2⟩ := ih (z + 1) (by omega) (by omega) hj'
        have eT : stp 0 T i (ρ z) = trS ρ 0 (up S (165 + i) 100000000) i (z + 1) := by rw [trS, hT]
        have hl : low ρ (up S (165 + i) 1000000000) i (z + 1) = if trS ρ 0 (up S (165 + i) 100000000) i (z + 1) (165 + i) + 900000000 < low ρ (up S (165 + i) 1000000000) i z then trS ρ 0 (up S (165 + i) 100000000) i (z + 1) (165 + i) + 900000000 else low ρ (up S (165 + i) 1000000000) i z := by rw [low, o1, upS_eq]
        rw [show N - (z + 1) = N - z - 1 by omega] at i1 i2
        rw [if_pos q]
        refine ⟨u, i1, ?_⟩
        rw [B_t q, if_neg (by decide), bi101 H, w32_id (x := ρ z) (by omega) (by omega), M_goes_x H P Wz (by omega) q, bd2_mk, hbk, eT, bg101 H, w32_id (x := 165 + i) (by have := W.2.2; omega) (by have := W.2.2; omega), blp P H (by have := W.2.2; omega) (by have := W.2.2; omega), bd_mk, w32_id (x := (z : Int) + 1) (by omega) (by omega), w32_id (by omega) (by omega)]
        rw [hl] at i2
        split
        · rw [if_pos (by omega), show 1000000000 - (trS ρ 0 (up S (165 + i) 100000000) i (z + 1) (165 + i) + 900000000) = 100000000 - trS ρ 0 (up S (165 + i) 100000000) i (z + 1) (165 + i) by omega] at i2
          exact i2
        · rw [if_neg (by omega)] at i2
          exact i2
      · rw [if_neg q, B_f q, if_pos (c := (0 : Int) = 0) rfl, if_neg (c := z = N) (by omega), hT]
        refine ⟨1000000000 - low ρ (up S (165 + i) 1000000000) i z, fun e => by omega, ?_⟩
        obtain ⟨n', rfl⟩ : ∃ n', n = n' + 1 := ⟨n - 1, by omega⟩
        rw [w32_id (by omega) (by omega), M_needs_L72, bg101 H, q_101_50 P, ml129 H h0 h1]
        split
        · rw [if_pos rfl]
        · rfl
    · have : z = N := by omega
      subst this
      rw [if_neg h, Nat.sub_self, wnt, if_pos rfl]
      exact ⟨_, fun _ => rfl, rfl⟩
theorem rs_needs (X : Cx sh V S D) (hP : WPt V) (PM' : PM V2) (hR : RW V V2) (hbk : V2 101 15 = 1) (hD : D < 1800000000) : RS sh V V2 S (T_needs 0 i w (sh, V)) (M_needs 101 i w (sh, setR V2 102 S)) := by
  have P1 := PM0 PM'
  have H := X.1
  have P := X.2.1
  obtain ⟨r1, r2, r3, r4, r5, r6, r7⟩ := Cx_rng X
  unfold T_needs M_needs
  rw [bp101 H, b04 X, bi2 X, x_hasTr X, bi101 H, M_isOne_b H P1 r5 r6]
  by_cases h : 0 ≤ i ∧ i < S 152
  · rw [B_t h, if_neg (c := (1 : Int) = 0) (by decide), if_neg (c := (1 : Int) = 0) (by decide), T_isRow_b, M_within_b]
    by_cases g : 0 ≤ w ∧ w < 4
    · rw [B_t g, B_t (by omega : 0 ≤ w ∧ w ≤ 3), if_neg (c := (1 : Int) = 0) (by decide), if_neg (c := (1 : Int) = 0) (by decide), b06 X, b36w H P g.1 g.2, bnf H g.1 g.2, bg101 H, q_101_49 P1, ml128 H g.1 g.2, up_row (by decide)]
      rcases rw_row hR g.1 g.2 with ⟨e1, e2⟩ | ⟨e1, e2, N, hN, e3, e4, e5⟩
      · rw [e1, e2, if_neg (by decide), if_pos rfl]; exact RS_same P hP _
      · rw [e2, if_pos (c := (0 : Int) = 0) rfl, if_neg (c := V2 128 w = -1) e1]
        have W := WI_x X h.1 h.2
        generalize hρ : (fun z : Nat => V2 130 (40 * w + z)) = ρ at e5
        obtain ⟨V', z1, z2, z3, z4, -, z6⟩ := Tp_follow_x (tb := 49) (p := 1000000000) X hP (TB49 H) h.1 h.2 g.1 g.2 hN e3 e5 hD
        obtain ⟨F1, F2, F3, -⟩ := z6
        rw [need_K W hN] at F3
        rw [need_W W hN] at F2
        obtain ⟨R', y1, y2⟩ := keeps_ok (S := S) H P1 h.1 (by omega : i < 6)
        generalize hA : upV (setR (upV V2 101 0 0) 106 R') 101 15 0 = A
        have FA : FN V2 A := by rw [← hA]; exact FN_up (FN_FM (FM_set FM0 (by decide) (by decide))) (Or.inr ⟨rfl, rfl⟩)
        have PA := PM_fn PM' FA
        have A15 : A 101 15 = 0 := by rw [← hA, up_eq]
        have FC : FM V2 (upV A 101 15 1) := FN_end FA hbk
        have PC := PM_fm PM' FC
        have C106 : upV A 101 15 1 106 = R' := by funext z; rw [up_row (by decide), ← hA, up_row (by decide), setR_at]
        obtain ⟨u, o1, o2⟩ := need_L (ρ := ρ) (kk := fun x13 x14 x15 x16 μ17 => M_needs_J181 x13 x14 x15 x16 μ17) H PA W g.1 g.2 hN hD (by rw [FA 129 w (by unfold MSc; omega) (by omega)]; exact e4) (fun k hk => by rw [FA 130 _ (by unfold MSc; omega) (by omega), ← hρ]) A15 FU 0 (by omega) (by show _ < 1000000; omega) (fun j hj => by omega)
        rw [low, upS_eq, trS, show ((0 : Nat) : Int) = 0 from rfl, Int.sub_self] at o2
        have sp := tpK_spec (ρ := ρ) (bk := 0) (S := up S (165 + i) 100000000) (i := i) (N := N)
        have hag := again_ok H PC (S := S) (i := i) (S' := trS ρ 0 (up S (165 + i) 100000000) i (tpK ρ 0 (up S (165 + i) 100000000) i N)) (by rw [C106]; exact y2) h.1 (by omega) (fun j hj => by
          rw [trS_TI (WI_up W) _ sp.2.1 j hj, upS_ne (fun e => hj (by unfold TI; omega))])
        rw [bgt (by rw [k_0 H]), q_0_9 P, b04 X, b04 X, b21 X, b9 X h.1 h.2, b06 X, b36w H P g.1 g.2, bit (by rw [k_49 H]), z1, bd2_mk, bgt (by rw [k_0 H]), q_0_9 z3, bgt (by rw [k_49 H]), F2, bi101 H, y1, bd2_mk, bp101 H, hA, bg101 H, w32_id (x := 165 + i) (by omega) (by omega), bsp PA H (by omega) (by omega), o2]
        unfold M_needs_J181
        rw [bp101 H, bi101 H]
        have hag' : M_isAgain 101 i (sh, setR (upV A 101 15 1) 102 (trS ρ 0 (up S (165 + i) 100000000) i (wnt (fun j => rfW (trS ρ 0 (up S (165 + i) 100000000) i j) i (ρ j)) (N - 0) 0))) = some (0, (sh, setR (upV A 101 15 1) 102 S)) := hag
        rw [hag', bd2_mk]
        by_cases o : tpK ρ 0 (up S (165 + i) 100000000) i N = N
        · have o' : wnt (fun j => rfW (trS ρ 0 (up S (165 + i) 100000000) i j) i (ρ j)) (N - 0) 0 = N := o
          have ow : tpW ρ 0 (up S (165 + i) 100000000) i N = 0 := by unfold tpW; rw [if_pos o]
          have hl := need_low W N hN (by rw [o] at sp; exact sp.2.1)
          rw [ow, if_pos rfl, if_pos o', if_neg (c := (1 : Int) = 0) (by decide), bgt (by rw [k_0 H]), q_0_9 z3, bgt (by rw [k_49 H]), F3, o1 o', o, w32_id (by omega) (by omega)]
          exact ⟨_, V', _, rfl, rfl, z2, z3, z4, FC⟩
        · have o' : ¬ wnt (fun j => rfW (trS ρ 0 (up S (165 + i) 100000000) i j) i (ρ j)) (N - 0) 0 = N := o
          have ow : ¬ tpW ρ 0 (up S (165 + i) 100000000) i N = 0 := by unfold tpW; rw [if_neg o]; exact sp.2.2 (by omega)
          rw [if_neg ow, if_neg o', if_pos (c := (0 : Int) = 0) rfl]
          exact ⟨_, V', _, rfl, rfl, z2, z3, z4, FC⟩
    · rw [B_f g, B_f (by omega), if_pos (c := (0 : Int) = 0) rfl, if_pos (c := (0 : Int) = 0) rfl]; exact RS_same P hP _
  · rw [B_f h, if_pos (c := (0 : Int) = 0) rfl, if_pos (c := (0 : Int) = 0) rfl]; exact RS_same P hP _
end NEEDS
