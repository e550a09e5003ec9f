/-! PURE: cheapest, gain, partner, price -/
section CHEAP2
variable {sh : List (Nat × Nat)} {V V' V1 V2 V2' : Int → Int → Int} {r t s c i j k x a b y D D' f p v q h u o day z m g base : Int} {S S' R W : Int → Int} {n : Nat} {d d' : Int → Int} {wt : Int → Int} {dk wk : Nat → Int}
def preR (S wt : Int → Int) (dk wk : Nat → Int) (M : Nat) (t : Int) : Nat → Int → Int
  | 0 => d0H t
  | j + 1 => if S (128 + dk (M - 1 - j) / 2) = 0 then rlx 2147483647 (hmR S wt dk wk M t j) (slE S dk wk (M - 1 - j)) else hmR S wt dk wk M t j
theorem preR_ok (K : KOk S) {M : Nat} (hs : SLs S dk wk M) (h0 : 0 ≤ t) (h1 : t < S 0) : ∀ j : Nat, j ≤ M → Iv (S 0).toNat (12 * j) j (preR S (wtH S day) dk wk M t j) ∧ stl S (wtH S day) (preR S (wtH S day) dk wk M t j) = hmR S (wtH S day) dk wk M t j := by
  obtain ⟨z1, z2, z3, z4, -⟩ := id K
  intro j hj
  rcases j with _ | j
  · exact ⟨by simpa [preR] using Iv_d0 (n := (S 0).toNat) h0 (by omega), rfl⟩
  · obtain ⟨i1, i2⟩ := hmR_ok (day := day) K hs h0 h1 j (by omega)
    have hM := hs.1
    obtain ⟨k1, k2⟩ := hs.2 (M - 1 - j) (by omega)
    have tr := sTail_rng K k1.1 k1.2
    rw [preR, hmR]
    by_cases q : S (128 + dk (M - 1 - j) / 2) = 0
    · rw [if_pos q, if_pos q]
      have I2 := Iv_slip (a := sHead S (dk (M - 1 - j))) (b := sTail S (dk (M - 1 - j))) (t := wk (M - 1 - j)) i1 (by omega) (by omega) (by omega) (by omega) (by omega) (by omega) (by omega) k2
      rw [show 12 * (j : Int) + 12 = 12 * ((j + 1 : Nat) : Int) by omega, show (j : Int) + 1 = ((j + 1 : Nat) : Int) by omega] at I2
      exact ⟨I2, rfl⟩
    · rw [if_neg q, if_neg q]
      refine ⟨?_, ?_⟩
      · have := (hmR_ok (day := day) K hs h0 h1 (j + 1) hj).1
        rw [hmR, if_neg q] at this; exact this
      · have := iter_stay (f := pss 2147483647 (edg S (wtH S day) (S 7).toNat)) (x := hmR S (wtH S day) dk wk M t j) (k := 0) i2 ((S 0).toNat - 1)
        rw [Nat.zero_add] at this
        exact this
/-- the cells of layers alone -/
def FRS (V V' : Int → Int → Int) : Prop := ∀ a j, ¬ (a = 107 ∨ a = 108 ∨ a = 111) → V' a j = V a j
theorem FRS_of (h : FRL k V V') : FRS V V' := fun a j q => h a j (fun z => q z.1)
theorem FRS_trans (h : FRS V V') (h' : FRS V' V2) : FRS V V2 := fun a j q => (h' a j q).trans (h a j q)
theorem FRS_PM (P : PM V) (h : FRS V V') : PM V' := by
  have hx : ∀ q ∈ ptM, q.1 = 101 := by decide
  exact fun q hq => (h _ _ (by rw [hx q hq]; omega)).trans (P q hq)
theorem layers_M (H : Sh sh) (K : KOk S) {M : Nat} (hs : SLs S dk wk M) (h0 : 0 ≤ t) (h1 : t < S 0) (hd0 : 0 ≤ day) (hd1 : day < 2147483648) {kk : Int → Mem → Option (Int × Mem)} : ∀ (n j : Nat) (V : Int → Int → Int), j ≤ M → M - j + 1 < n → PM V → (∀ k : Nat, k < M → V 109 k = dk k ∧ V 110 k = wk k) → LY V ((M : Int) - j) (preR S (wtH S day) dk wk M t j) → (∀ k : Int, 0 ≤ k → k < (M : Int) - j → LY V k (fun _ => 2147483647)) → (∀ j' : Nat, j' < j → LY V ((M : Int) - j') (hmR S (wtH S day) dk wk M t j')) → ∃ V', M_cheap_L59 kk n 101 day ((M : Int) - j) (sh, setR V 102 S) = kk 101 (sh, setR V' 102 S) ∧ (∀ j' : Nat, j' ≤ M → LY V' ((M : Int) - j') (hmR S (wtH S day) dk wk M t j')) ∧ FRS V V' := by
  obtain ⟨z1, z2, z3, z4, -⟩ := id K
  have hM := hs.1
  intro n
  induction n with
  | zero => intro j _ _ h; omega
  | succ n ih =>
    intro j V hj hn P hD hL hlo hhi
    obtain ⟨p1, p2⟩ := preR_ok (day := day) K hs h0 h1 j hj
    obtain ⟨i1, i2⟩ := hmR_ok (day := day) K hs h0 h1 j hj
    rw [M_cheap_L59, if_neg (by omega)]
    generalize hk : (M : Int) - j = k at *
    have hst := fun (kk : Int → Int → Int → Mem → Option (Int × Mem)) => settle_M (kk := kk) (day := day) H K (by omega) (by omega : 0 ≤ k) (by omega : k ≤ 41) (by omega) (by omega) hd0 hd1 p1 P hL
    obtain ⟨V1, a1, a2, a3⟩ := hst (fun x1 x2 x3 μ4 => if x3 = 0 then M_cheap_L59 kk n x1 x2 (w32 (x3 + (-1))) μ4 else M_cheap_L239 (fun x5 x6 x7 μ8 => bd (getf 12 20 μ8 x5) fun x9 => bd (lda 20 μ8 x9 (w32 (x7 - 1))) fun x10 => bd (div32 x10 2) fun x11 => bd (isk 12 μ8 x5) fun _ => bd2 (M_isOpen x5 x11 μ8) fun x12 μ13 => if x12 = 0 then M_cheap_L59 kk n x5 x6 (w32 (x7 + (-1))) μ13 else bd (getf 12 22 μ13 x5) fun x14 => bd (isk 12 μ13 x5) fun _ => bd2 (M_headOf x5 x10 μ13) fun x15 μ16 => bd (lda 23 μ16 x14 (w32 ((w32 (12 * x7)) + x15))) fun x17 => if x17 = 0 then M_cheap_L59 kk n x5 x6 (w32 (x7 + (-1))) μ16 else bd (isk 12 μ16 x5) fun _ => bd2 (M_headOf x5 x10 μ16) fun x18 μ19 => bd (isk 12 μ19 x5) fun _ => bd2 (M_tailOf x5 x10 μ19) fun x20 μ21 => bd (getf 12 21 μ21 x5) fun x22 => bd (lda 20 μ21 x22 (w32 (x7 - 1))) fun x23 => bd (isk 12 μ21 x5) fun _ => bd2 (M_better x5 (w32 ((w32 (12 * x7)) + x18)) (w32 ((w32 ((w32 (12 * x7)) - 12)) + x20)) (w32 (-x23)) 1 μ21) fun x24 μ25 => M_cheap_L59 kk n x5 x6 (w32 (x7 + (-1))) μ25) FU x1 x2 x3 0 μ4)
    rw [p2] at a2
    rw [a1]
    have P1 := FRL_PM P a3
    have hi1 : ∀ j' : Nat, j' < j + 1 → LY V1 ((M : Int) - j') (hmR S (wtH S day) dk wk M t j') := fun j' hj' => by
      by_cases e : j' = j
      · subst e; rw [hk]; exact a2
      · exact LY_fr (hhi j' (by omega)) a3 (by omega)
    by_cases e : k = 0
    · have ej : j = M := by omega
      obtain ⟨n', rfl⟩ : ∃ n', n = n' + 1 := ⟨n - 1, by omega⟩
      rw [if_pos e, w32_id (by omega) (by omega), M_cheap_L59, if_pos (by omega)]
      exact ⟨V1, rfl, fun j' hj' => hi1 j' (by omega), FRS_of a3⟩
    · rw [if_neg e]
      have hlo1 : LY V1 (k - 1) (tsd ((0 : Nat) : Int) (hmR S (wtH S day) dk wk M t j)) := fun t g0 g1 => by
        have := LY_fr (hlo (k - 1) (by omega) (by omega)) a3 (by omega) t g0 g1
        unfold tsd; rw [if_neg (by omega)]; exact this
      have hts := fun (kk : Int → Int → Int → Mem → Option (Int × Mem)) => toss_M (day := day) (kk := kk) H z1 z2 (by omega : 1 ≤ k) (by omega : k ≤ 41) (Iv_Rg i1 (by omega) (by omega) (by omega)) FU 0 V1 (by omega) (by show _ < 1000000; omega) P1 a2 hlo1
      obtain ⟨V2, b1, b2, b3⟩ := hts (fun x5 x6 x7 μ8 => bd (getf 12 20 μ8 x5) fun x9 => bd (lda 20 μ8 x9 (w32 (x7 - 1))) fun x10 => bd (div32 x10 2) fun x11 => bd (isk 12 μ8 x5) fun _ => bd2 (M_isOpen x5 x11 μ8) fun x12 μ13 => if x12 = 0 then M_cheap_L59 kk n x5 x6 (w32 (x7 + (-1))) μ13 else bd (getf 12 22 μ13 x5) fun x14 => bd (isk 12 μ13 x5) fun _ => bd2 (M_headOf x5 x10 μ13) fun x15 μ16 => bd (lda 23 μ16 x14 (w32 ((w32 (12 * x7)) + x15))) fun x17 => if x17 = 0 then M_cheap_L59 kk n x5 x6 (w32 (x7 + (-1))) μ16 else bd (isk 12 μ16 x5) fun _ => bd2 (M_headOf x5 x10 μ16) fun x18 μ19 => bd (isk 12 μ19 x5) fun _ => bd2 (M_tailOf x5 x10 μ19) fun x20 μ21 => bd (getf 12 21 μ21 x5) fun x22 => bd (lda 20 μ21 x22 (w32 (x7 - 1))) fun x23 => bd (isk 12 μ21 x5) fun _ => bd2 (M_better x5 (w32 ((w32 (12 * x7)) + x18)) (w32 ((w32 ((w32 (12 * x7)) - 12)) + x20)) (w32 (-x23)) 1 μ21) fun x24 μ25 => M_cheap_L59 kk n x5 x6 (w32 (x7 + (-1))) μ25)
      rw [tsd_Iv i1 z1] at b2
      have P2 := FRL_PM P1 b3
      have F2 : FRS V V2 := FRS_trans (FRS_of a3) (FRS_of b3)
      rw [show ((0 : Nat) : Int) = 0 from rfl] at b1
      rw [b1]
      have ek : k - 1 = ((M - 1 - j : Nat) : Int) := by omega
      obtain ⟨k1, k2⟩ := hs.2 (M - 1 - j) (by omega)
      have hDk := hD (M - 1 - j) (by omega)
      have hd1' : V2 109 (k - 1) = dk (M - 1 - j) := by rw [F2 _ _ (by omega), ek]; exact hDk.1
      have hd2' : V2 110 (k - 1) = wk (M - 1 - j) := by rw [F2 _ _ (by omega), ek]; exact hDk.2
      have hh := sHead_rng K k1.1 k1.2
      have ht := sTail_rng K k1.1 k1.2
      have hi2 : ∀ j' : Nat, j' < j + 1 → LY V2 ((M : Int) - j') (hmR S (wtH S day) dk wk M t j') := fun j' hj' => LY_fr (hi1 j' hj') b3 (by omega)
      have hlo2 : ∀ k' : Int, 0 ≤ k' → k' < k - 1 → LY V2 k' (fun _ => 2147483647) := fun k' q0 q1 => LY_fr (LY_fr (hlo k' q0 (by omega)) a3 (by omega)) b3 (by omega)
      have fin : ∀ V3 : Int → Int → Int, PM V3 → FRL (k - 1) V2 V3 → LY V3 (k - 1) (preR S (wtH S day) dk wk M t (j + 1)) → ∃ V', M_cheap_L59 kk n 101 day (k + -1) (sh, setR V3 102 S) = kk 101 (sh, setR V' 102 S) ∧ (∀ j' : Nat, j' ≤ M → LY V' ((M : Int) - j') (hmR S (wtH S day) dk wk M t j')) ∧ FRS V V' := fun V3 q1 q2 q3 => by
        have ek1 : (M : Int) - ((j + 1 : Nat) : Int) = k - 1 := by omega
        obtain ⟨V', c1, c2, c3⟩ := ih (j + 1) V3 (by omega) (by omega) q1 (fun z hz => by rw [q2 _ _ (by omega), q2 _ _ (by omega), F2 _ _ (by omega), F2 _ _ (by omega)]; exact hD z hz) (by rw [ek1]; exact q3) (fun z q0 q1' => LY_fr (hlo2 z q0 (by omega)) q2 (by omega)) (fun z hz => LY_fr (hi2 z hz) q2 (by omega))
        rw [ek1] at c1
        exact ⟨V', by rw [show k + -1 = k - 1 by omega]; exact c1, c2, FRS_trans F2 (FRS_trans (FRS_of q2) c3)⟩
      rw [bg101 H, q_101_20 P2, w32_id (x := k - 1) (by omega) (by omega), ml109 H (by omega) (by omega), hd1', bdiv k1.1 (by omega) (by decide) (by decide), bi101 H, M_isOpen_b H P2 (by omega) (by omega), w32_id (x := k + -1) (by omega) (by omega)]
      by_cases q : S (128 + dk (M - 1 - j) / 2) = 0
      · have ep : preR S (wtH S day) dk wk M t (j + 1) = rlx 2147483647 (hmR S (wtH S day) dk wk M t j) (slE S dk wk (M - 1 - j)) := by rw [preR, if_pos q]
        rw [B_t q, if_neg (c := (1 : Int) = 0) (by decide), bg101 H, q_101_22 P2, bi101 H, M_headOf_b H P2 k1.1 (by omega), w32_id (x := 12 * k) (by omega) (by omega), w32_id (x := 12 * k + sHead S (dk (M - 1 - j))) (by omega) (by omega), ml111 H (by omega) (by omega)]
        have a2' := LY_fr a2 b3 (by omega)
        rcases a2' (sHead S (dk (M - 1 - j))) (by omega) (by omega) with ⟨g1, g2⟩ | ⟨g1, g2, g3, g4⟩
        · rw [g2, if_pos rfl]
          refine fin V2 P2 FRL_refl ?_
          rw [ep, imp_no (fun w => w (Or.inl g1))]; exact b2
        · rcases i1 (sHead S (dk (M - 1 - j))) with e' | pv
          · exact absurd e' g1
          · have rg := Pv_rng pv (by omega) (by omega) (by omega)
            have hB := better_x (S := S) (f := 12 * k + sHead S (dk (M - 1 - j))) (g := 12 * (k - 1) + sTail S (dk (M - 1 - j))) (m := -wk (M - 1 - j)) (s := 1) (x := hmR S (wtH S day) dk wk M t j (sHead S (dk (M - 1 - j)))) (y := hmR S (wtH S day) dk wk M t j (sTail S (dk (M - 1 - j)))) (z := hmR S (wtH S day) dk wk M t j (sHead S (dk (M - 1 - j))) + (1 - 1024 * wk (M - 1 - j))) H P2 (by omega) (by omega) (by omega) (by omega) g3 g4 (b2 _ (by omega) (by omega)) (by omega) (by omega) (by omega)
            rw [g2, if_neg (by decide), bi101 H, M_headOf_b H P2 k1.1 (by omega), bi101 H, M_tailOf_b H P2 k1.1 (by omega), bg101 H, q_101_21 P2, ml110 H (by omega) (by omega), hd2', bi101 H, w32_id (x := 12 * k + sHead S (dk (M - 1 - j))) (by omega) (by omega), w32_id (x := 12 * k - 12) (by omega) (by omega), w32_id (x := 12 * k - 12 + sTail S (dk (M - 1 - j))) (by omega) (by omega), w32_id (x := -wk (M - 1 - j)) (by omega) (by omega), show 12 * k - 12 + sTail S (dk (M - 1 - j)) = 12 * (k - 1) + sTail S (dk (M - 1 - j)) by omega, hB, bd2_mk]
            by_cases w : hmR S (wtH S day) dk wk M t j (sHead S (dk (M - 1 - j))) + (1 - 1024 * wk (M - 1 - j)) < hmR S (wtH S day) dk wk M t j (sTail S (dk (M - 1 - j)))
            · have hi : imp 2147483647 (hmR S (wtH S day) dk wk M t j) (slE S dk wk (M - 1 - j)) := by
                show ¬ (hmR S (wtH S day) dk wk M t j (sHead S (dk (M - 1 - j))) = 2147483647 ∨ hmR S (wtH S day) dk wk M t j (sTail S (dk (M - 1 - j))) ≤ hmR S (wtH S day) dk wk M t j (sHead S (dk (M - 1 - j))) + (1 - 1024 * wk (M - 1 - j)))
                omega
              rw [if_pos w]
              refine fin _ (by rw [PM_enc]; exact P2) (FRL_enc (by omega) (by omega)) ?_
              have er : rlx 2147483647 (hmR S (wtH S day) dk wk M t j) (slE S dk wk (M - 1 - j)) = up (hmR S (wtH S day) dk wk M t j) (sTail S (dk (M - 1 - j))) (hmR S (wtH S day) dk wk M t j (sHead S (dk (M - 1 - j))) + (1 - 1024 * wk (M - 1 - j))) := by unfold rlx; rw [if_neg hi]; rfl
              rw [ep, er]
              exact LY_enc b2 (by omega) (by omega) (by omega)
            · have hi : ¬ imp 2147483647 (hmR S (wtH S day) dk wk M t j) (slE S dk wk (M - 1 - j)) := by
                show ¬ ¬ (hmR S (wtH S day) dk wk M t j (sHead S (dk (M - 1 - j))) = 2147483647 ∨ hmR S (wtH S day) dk wk M t j (sTail S (dk (M - 1 - j))) ≤ hmR S (wtH S day) dk wk M t j (sHead S (dk (M - 1 - j))) + (1 - 1024 * wk (M - 1 - j)))
                omega
              rw [if_neg w]
              refine fin V2 P2 FRL_refl ?_
              rw [ep, imp_no hi]; exact b2
      · rw [B_f q, if_pos rfl]
        refine fin V2 P2 FRL_refl ?_
        rw [preR, if_neg q]; exact b2
theorem hmR_mono {M : Nat} : ∀ j v, hmR S wt dk wk M t (j + 1) v ≤ hmR S wt dk wk M t j v := fun j v => by
  rw [hmR]
  split
  · exact Int.le_trans (iter_le _ _) (rlx_le v)
  · exact Int.le_refl _
theorem hmR_low {M : Nat} : ∀ j v, j ≤ M → hmR S wt dk wk M t M v ≤ hmR S wt dk wk M t j v := fun j v hj => by
  obtain ⟨m, rfl⟩ := Nat.exists_eq_add_of_le hj
  have : ∀ m, hmR S wt dk wk (j + m) t (j + m) v ≤ hmR S wt dk wk (j + m) t j v := fun m => by
    have g : ∀ q, hmR S wt dk wk (j + m) t (j + q) v ≤ hmR S wt dk wk (j + m) t j v := fun q => by
      induction q with
      | zero => exact Int.le_refl _
      | succ q ih => exact Int.le_trans (hmR_mono (j + q) v) ih
    exact g m
  exact this m
/-- the least over the layers -/
theorem least_M (H : Sh sh) (h1 : 0 ≤ S 1) (h2 : S 1 < 12) {M : Nat} (hM : M ≤ 41) {rw' : Nat → Int → Int} (hlow : ∀ j, j ≤ M → rw' M (S 1) ≤ rw' j (S 1)) (hF : ∀ j, j ≤ M → rw' j (S 1) ≤ 2147483647) : ∀ (n k : Nat) (V : Int → Int → Int), 1 ≤ k → k ≤ M + 1 → M + 1 - k < n → PM V → V 101 23 = M → (∀ j : Nat, j ≤ M → LY V ((M : Int) - j) (rw' j)) → (rw' M (S 1) ≠ 2147483647 → V 101 24 = rw' M (S 1) / 1024 ∧ V 101 25 = rw' M (S 1) % 1024) → M_cheap_L395 n 101 (B (rw' M (S 1) ≠ 2147483647)) k (sh, setR V 102 S) = some (B (rw' M (S 1) ≠ 2147483647), (sh, setR V 102 S)) := by
  intro n
  induction n with
  | zero => intro k _ _ _ h; omega
  | succ n ih =>
    intro k V k0 k1 hn P hm hL hc
    rw [M_cheap_L395, bg101 H, hm]
    by_cases g : (M : Int) < (k : Int)
    · rw [if_pos g, bokz]
    · have hi := ih (k + 1) V (by omega) (by omega) (by omega) P hm hL hc
      have hl := hL (M - k) (by omega) (S 1) h1 h2
      rw [show (M : Int) - ((M - k : Nat) : Int) = k by omega] at hl
      have lo := hlow (M - k) (by omega)
      have hf := hF (M - k) (by omega)
      rw [if_neg g, bg101 H, blp P H (by decide) (by decide), w32_id (x := 12 * (k : Int)) (by omega) (by omega), w32_id (x := 12 * (k : Int) + S 1) (by omega) (by omega), bd_mk, bg101 H, q_101_22 P, ml111 H (by omega) (by omega), w32_id (x := (k : Int) + 1) (by omega) (by omega)]
      rcases hl with ⟨a1, a2⟩ | ⟨a1, a2, a3, a4⟩
      · rw [a2, if_pos rfl]; exact hi
      · have hne : rw' M (S 1) ≠ 2147483647 := by omega
        obtain ⟨c1, c2⟩ := hc hne
        rw [B_t hne] at hi ⊢
        rw [a2, if_neg (c := (1 : Int) = 0) (by decide), if_neg (c := (1 : Int) = 0) (by decide), bg101 H, q_101_18 P, ml107 H (by omega) (by omega), a3, bg101 H, c1]
        by_cases w : rw' M (S 1) / 1024 < rw' (M - k) (S 1) / 1024
        · rw [if_pos w]; exact hi
        · rw [if_neg w, bg101 H, q_101_18 P, ml107 H (by omega) (by omega), a3, bg101 H, c1, if_pos (by omega), bg101 H, q_101_19 P, ml108 H (by omega) (by omega), a4, bg101 H, c2, if_neg (by omega)]; exact hi
theorem fill_M {kk : Int → Int → Int → Mem → Option (Int × Mem)} (H : Sh sh) : ∀ (n z : Nat) (V : Int → Int → Int), z ≤ 504 → 504 - z < n → PM V → (∀ j : Int, 0 ≤ j → j < z → V 111 j = 0) → ∃ V', M_cheap_L2 kk n 101 t day z (sh, setR V 102 S) = kk 101 t day (sh, setR V' 102 S) ∧ (∀ j, 0 ≤ j → j < 504 → V' 111 j = 0) ∧ ∀ a j, a ≠ 111 → V' a j = V a j := by
  intro n
  induction n with
  | zero => intro z _ _ h; omega
  | succ n ih =>
    intro z V hz hn P hj
    rw [M_cheap_L2]
    by_cases g : (z : Int) < 504
    · obtain ⟨V', a1, a2, a3⟩ := ih (z + 1) (upV V 111 z 0) (by omega) (by omega) (by rw [PM_row (by decide)]; exact P) (fun j g0 g1 => by
        by_cases e : j = z
        · rw [e, up_eq]
        · rw [up_col e]; exact hj j g0 (by omega))
      rw [if_pos g, bg101 H, q_101_22 P, ms111 H (by omega) g, w32_id (by omega) (by omega)]
      exact ⟨V', a1, a2, fun a j ha => (a3 a j ha).trans (up_row ha)⟩
    · rw [if_neg g]
      exact ⟨V, rfl, fun j g0 g1 => hj j g0 (by omega), fun _ _ _ => rfl⟩
theorem cheap_x (H : Sh sh) (P : PM V) (K : KOk S) {M : Nat} (hs : SLs S dk wk M) (h0 : 0 ≤ t) (h1 : t < S 0) (hd0 : 0 ≤ day) (hd1 : day < 2147483648) (hm : V 101 23 = M) (hD : ∀ k : Nat, k < M → V 109 k = dk k ∧ V 110 k = wk k) : ∃ V', M_cheap 101 t day (sh, setR V 102 S) = some (B (hmR S (wtH S day) dk wk M t M (S 1) ≠ 2147483647), (sh, setR V' 102 S)) ∧ FM V V' ∧ (hmR S (wtH S day) dk wk M t M (S 1) ≠ 2147483647 → V' 101 24 = hmR S (wtH S day) dk wk M t M (S 1) / 1024 ∧ V' 101 25 = hmR S (wtH S day) dk wk M t M (S 1) % 1024) := by
  obtain ⟨z1, z2, z3, z4, -⟩ := id K
  obtain ⟨p1, p2⟩ := K.2.2.2.2.2.2.2.2.2.2.2.2.1 (by omega)
  have hM := hs.1
  unfold M_cheap
  obtain ⟨Va, a1, a2, a3⟩ := fill_M (S := S) (t := t) (day := day) (kk := fun x1 x2 x3 μ4 => bd (getf 12 23 μ4 x1) fun x5 => bd (some (w32 ((w32 (12 * x5)) + x2))) fun x6 => bd (getf 12 22 μ4 x1) fun x7 => bd (sta 23 μ4 x7 x6 1) fun μ8 => bd (getf 12 18 μ8 x1) fun x9 => bd (sta 20 μ8 x9 x6 0) fun μ10 => bd (getf 12 19 μ10 x1) fun x11 => bd (sta 20 μ10 x11 x6 0) fun μ12 => bd (getf 12 23 μ12 x1) fun x13 => M_cheap_L59 (fun x14 μ15 => M_cheap_L395 FU x14 0 0 μ15) FU x1 x3 x13 μ12) H FU 0 V (by omega) (by decide) P (fun j g0 g1 => by omega)
  rw [show ((0 : Nat) : Int) = 0 from rfl] at a1
  have Pa : PM Va := by
    have hx : ∀ q ∈ ptM, q.1 = 101 := by decide
    exact fun q hq => (a3 _ _ (by rw [hx q hq]; decide)).trans (P q hq)
  have ha23 : Va 101 23 = M := by rw [a3 _ _ (by decide)]; exact hm
  have eE : upV (upV (upV Va 111 (12 * (M : Int) + t) 1) 107 (12 * (M : Int) + t) 0) 108 (12 * (M : Int) + t) 0 = enc Va (12 * (M : Int) + t) 0 := rfl
  have Pb : PM (enc Va (12 * (M : Int) + t) 0) := by rw [PM_enc]; exact Pa
  have hLa : ∀ k : Int, 0 ≤ k → k ≤ 41 → LY Va k (fun _ => 2147483647) := fun k k0 k1 t g0 g1 => Or.inl ⟨rfl, a2 _ (by omega) (by omega)⟩
  have hLb : LY (enc Va (12 * (M : Int) + t) 0) M (d0H t) := LY_enc (hLa M (by omega) (by omega)) h0 (by omega) (by decide)
  have fE : ∀ a j, a ≠ 107 ∧ a ≠ 108 ∧ a ≠ 111 → enc Va (12 * (M : Int) + t) 0 a j = V a j := fun a j ha => by rw [enc_ne (Or.inl ha)]; exact a3 a j ha.2.2
  obtain ⟨Vb, b1, b2, b3⟩ := layers_M (day := day) (kk := fun x14 μ15 => M_cheap_L395 FU x14 0 0 μ15) H K hs h0 h1 hd0 hd1 FU 0 (enc Va (12 * (M : Int) + t) 0) (by omega) (by show _ < 1000000; omega) Pb (fun k hk => by rw [fE _ _ (by omega), fE _ _ (by omega)]; exact hD k hk) (by rw [show (M : Int) - ((0 : Nat) : Int) = M by omega]; exact hLb) (fun k k0 k1 => LY_fr (hLa k k0 (by omega)) (FRL_enc (k := M) h0 (by omega)) (by omega)) (fun j' hj' => by omega)
  rw [show (M : Int) - ((0 : Nat) : Int) = M by omega] at b1
  have Pc := FRS_PM Pb b3
  have hc23 : Vb 101 23 = M := by rw [b3 _ _ (by decide), fE _ _ (by decide)]; exact hm
  have fV : ∀ a j, ¬ MSc a j → Vb a j = V a j := fun a j q => by rw [b3 a j (fun e => q (by unfold MSc; omega)), fE a j ⟨fun e => q (by unfold MSc; omega), fun e => q (by unfold MSc; omega), fun e => q (by unfold MSc; omega)⟩]
  have hl := b2 M (Nat.le_refl _) (S 1) p1 (by omega)
  rw [show (M : Int) - (M : Int) = 0 by omega] at hl
  have hRg : ∀ j, j ≤ M → hmR S (wtH S day) dk wk M t j (S 1) ≤ 2147483647 := fun j hj => Rg_F (Iv_Rg (hmR_ok (day := day) K hs h0 h1 j hj).1 (by omega) (by omega) (by omega)) _
  rw [a1, bg101 H, ha23, w32_id (x := 12 * (M : Int)) (by omega) (by omega), w32_id (x := 12 * (M : Int) + t) (by omega) (by omega), bd_mk, bg101 H, q_101_22 Pa, ms111 H (by omega) (by omega), bg101 H, up_row (by decide), q_101_18 Pa, ms107 H (by omega) (by omega), bg101 H, up_row (by decide), up_row (by decide), q_101_19 Pa, ms108 H (by omega) (by omega), eE, bg101 H, fE _ _ (by decide), hm, b1, show FU = 999999 + 1 from rfl, M_cheap_L395, bg101 H, hc23, if_neg (by omega), bg101 H, blp Pc H (by decide) (by decide), w32_id (x := 12 * 0) (by decide) (by decide), show 12 * 0 + S 1 = S 1 by omega, w32_id (x := S 1) (by omega) (by omega), bd_mk, bg101 H, q_101_22 Pc, ml111 H (by omega) (by omega)]
  have h0' : ENC Vb (S 1) (hmR S (wtH S day) dk wk M t M (S 1)) := by rw [show 12 * 0 + S 1 = S 1 by omega] at hl; exact hl
  have L := least_M (S := S) (rw' := hmR S (wtH S day) dk wk M t) H p1 (by omega) hM (fun j hj => hmR_low j (S 1) hj) hRg 999999 1
  rcases h0' with ⟨c1, c2⟩ | ⟨c1, c2, c3, c4⟩
  · have hne : ¬ hmR S (wtH S day) dk wk M t M (S 1) ≠ 2147483647 := fun w => w c1
    have := L Vb (by omega) (by omega) (by omega) Pc hc23 b2 (fun w => absurd w hne)
    rw [B_f hne] at this ⊢
    rw [c2, if_pos rfl, show w32 (0 + 1) = ((1 : Nat) : Int) from rfl, this]
    exact ⟨Vb, rfl, fV, fun w => absurd w hne⟩
  · have M24 : MSc 101 24 := Or.inl ⟨rfl, by omega⟩
    have M25 : MSc 101 25 := Or.inl ⟨rfl, by omega⟩
    have := L (upV (upV Vb 101 24 (hmR S (wtH S day) dk wk M t M (S 1) / 1024)) 101 25 (hmR S (wtH S day) dk wk M t M (S 1) % 1024)) (by omega) (by omega) (by omega) (by rw [PM_fld (by decide), PM_fld (by decide)]; exact Pc) (by rw [up_col (by decide), up_col (by decide)]; exact hc23) (fun j hj t g0 g1 => ENC_congr (b2 j hj t g0 g1) (by rw [up_row (by decide), up_row (by decide)]) (by rw [up_row (by decide), up_row (by decide)]) (by rw [up_row (by decide), up_row (by decide)])) (fun _ => ⟨by rw [up_col (by decide), up_eq], up_eq⟩)
    rw [B_t c1] at this ⊢
    rw [c2, if_neg (c := (1 : Int) = 0) (by decide), if_pos rfl]
    unfold M_cheap_J478
    rw [bg101 H, q_101_18 Pc, ml107 H (by omega) (by omega), c3, bp101 H, bg101 H, up_col (by decide), q_101_19 Pc, ml108 H (by omega) (by omega), up_row (by decide), c4, bp101 H]
    refine ⟨_, this, ?_⟩
    exact ⟨FM_up (FM_up fV M24) M25, fun _ => ⟨by rw [up_col (by decide), up_eq], up_eq⟩⟩
end CHEAP2
