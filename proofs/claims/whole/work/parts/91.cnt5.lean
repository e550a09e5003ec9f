/-! PURE: the reference counts -/
section CNT5
variable {sh : List (Nat × Nat)} {V V' V1 V2 : Int → Int → Int} {t bt c D o fr v1 v2 i j k x a : Int} {S : Int → Int} {n z d e s m g : Nat} {y b : Nat → Nat}
theorem ob_i (H : Sh sh) (P : PM V) (hc : V 101 36 = c) (hs : 1 ≤ s) (hs' : s ≤ 40) (hd : d < 48) (ko : (kS sh o).1 = 21) (ho : o ≠ 102) (f0 : 0 ≤ fr) (f1 : fr + s < ((kS sh o).2 : Int)) (f2 : fr < 10000) (R1 : ∀ j : Nat, j + 2 ≤ s → V 115 (41 * (d : Int) + j) = rM c (ev (Gx S d) j)) (R2 : ∀ k : Nat, k + 2 ≤ s → V o (fr + k) = rM c (ev y k)) {q0 : Nat} : ∀ (n z : Nat), z ≤ s - 1 → s - 1 - z < n → ∀ kk, M_outAndBack_L53 kk n 101 v1 v2 o fr s (rM c (q0 + sN (fun j => ev (Gx S d) j * ev y (s - 2 - j)) z)) d z (sh, setR V 102 S) = kk 101 v1 v2 o fr s (rM c (q0 + sN (fun j => ev (Gx S d) j * ev y (s - 2 - j)) (s - 1))) d (sh, setR V 102 S) := by
  intro n
  induction n with
  | zero => intro z _ h; omega
  | succ n ih =>
    intro z hz hn kk
    rw [M_outAndBack_L53, w32_id (x := (z : Int) + 2) (by omega) (by omega)]
    by_cases q : (s : Int) < (z : Int) + 2
    · rw [if_pos q, show z = s - 1 by omega]
    · have := ih (z + 1) (by omega) (by omega) kk
      rw [sN, ← Nat.add_assoc] at this
      rw [if_neg q, bg101 H, q_101_33 P, w32_id (x := 41 * (d : Int)) (by omega) (by omega), w32_id (x := 41 * (d : Int) + z) (by omega) (by omega), ml115 H (by omega) (by omega), R1 z (by omega), w32_id (x := fr + s) (by omega) (by omega), w32_id (x := fr + s - 2) (by omega) (by omega), w32_id (x := fr + s - 2 - z) (by omega) (by omega), show fr + (s : Int) - 2 - z = fr + ((s - 2 - z : Nat) : Int) by omega, lM H ko ho (by omega) (by omega), R2 (s - 2 - z) (by omega), bi101 H, M_sumOf_b H hc, w32_id (x := (z : Int) + 1) (by omega) (by omega)]
      exact this
theorem ob_o (H : Sh sh) (P : PM V) (K : KOk S) (hc : V 101 36 = c) (hs : 1 ≤ s) (hs' : s ≤ 40) (ko : (kS sh o).1 = 21) (ho : o ≠ 102) (f0 : 0 ≤ fr) (f1 : fr + s < ((kS sh o).2 : Int)) (f2 : fr < 10000) (R1 : ∀ d : Nat, (d : Int) < 2 * S 7 → ∀ j : Nat, j + 2 ≤ s → V 115 (41 * (d : Int) + j) = rM c (ev (Gx S d) j)) (R2 : ∀ k : Nat, k + 2 ≤ s → V o (fr + k) = rM c (ev y k)) : ∀ (n z : Nat), (z : Int) ≤ 2 * S 7 → 2 * (S 7).toNat - z < n → M_outAndBack_L6 n 101 t bt o fr s (rM c (sN (fun d => if dco S t bt d then sN (fun j => ev (Gx S d) j * ev y (s - 2 - j)) (s - 1) else 0) z)) z (sh, setR V 102 S) = some (rM c (sN (fun d => if dco S t bt d then sN (fun j => ev (Gx S d) j * ev y (s - 2 - j)) (s - 1) else 0) (2 * (S 7).toNat)), (sh, setR V 102 S)) := by
  have r3 := K.2.2.1
  have r4 := K.2.2.2.1
  intro n
  induction n with
  | zero => intro z _ h; omega
  | succ n ih =>
    intro z hz hn
    rw [M_outAndBack_L6, bg101 H, blp P H (by decide) (by decide), w32_id (x := 2 * S 7) (by omega) (by omega)]
    by_cases q : (z : Int) < 2 * S 7
    · have hi := ih (z + 1) (by omega) (by omega)
      rw [sN] at hi
      have ed : (z : Int) / 2 = ((z / 2 : Nat) : Int) := by omega
      rw [if_pos q, bdiv (by omega) (by omega) (by decide) (by decide), ed, bi101 H, M_isOpen_b H P (by omega) (by omega), w32_id (x := (z : Int) + 1) (by omega) (by omega)]
      by_cases g1 : S (128 + ((z / 2 : Nat) : Int)) = 0
      · rw [B_t g1, if_neg (by decide), bi101 H, M_tailOf_b H P (by omega) (by omega)]
        by_cases g2 : sTail S z = t
        · rw [if_pos g2]
          by_cases g3 : (z : Int) = bt
          · rw [if_pos g3]
            rw [if_neg (fun g => g.2.2 g3), Nat.add_zero] at hi; exact hi
          · rw [if_neg g3]
            have hh := fun kk => ob_i (S := S) (y := y) (d := z) (v1 := t) (v2 := bt) (q0 := sN (fun d => if dco S t bt d then sN (fun j => ev (Gx S d) j * ev y (s - 2 - j)) (s - 1) else 0) z) H P hc hs hs' (by omega) ko ho f0 f1 f2 (R1 z q) R2 FU 0 (by omega) (by show _ < 1000000; omega) kk
            rw [sN, Nat.add_zero, show ((0 : Nat) : Int) = 0 from rfl] at hh
            rw [hh, w32_id (x := (z : Int) + 1) (by omega) (by omega)]
            rw [if_pos ⟨g1, g2, g3⟩] at hi; exact hi
        · rw [if_neg g2]
          rw [if_neg (fun g => g2 g.2.1), Nat.add_zero] at hi; exact hi
      · rw [B_f g1, if_pos rfl]
        rw [if_neg (fun g => g1 g.1), Nat.add_zero] at hi; exact hi
    · rw [if_neg q, show z = 2 * (S 7).toNat by omega]
theorem ob_eq (H : Sh sh) (P : PM V) (K : KOk S) (hc : V 101 36 = c) (hs : 1 ≤ s) (hs' : s ≤ 40) (ko : (kS sh o).1 = 21) (ho : o ≠ 102) (f0 : 0 ≤ fr) (f1 : fr + s < ((kS sh o).2 : Int)) (f2 : fr < 10000) (R1 : ∀ d : Nat, (d : Int) < 2 * S 7 → ∀ j : Nat, j + 2 ≤ s → V 115 (41 * (d : Int) + j) = rM c (ev (Gx S d) j)) (R2 : ∀ k : Nat, k + 2 ≤ s → V o (fr + k) = rM c (ev y k)) : M_outAndBack 101 t bt o fr s (sh, setR V 102 S) = some (rM c (sN (fun d => if dco S t bt d then sN (fun j => ev (Gx S d) j * ev y (s - 2 - j)) (s - 1) else 0) (2 * (S 7).toNat)), (sh, setR V 102 S)) := by
  have := ob_o (S := S) (t := t) (bt := bt) (y := y) H P K hc hs hs' ko ho f0 f1 f2 R1 R2 FU 0 (by have := K.2.2.1; omega) (by show _ < 1000000; have := K.2.2.2.1; omega)
  rw [sN, rM_0, show ((0 : Nat) : Int) = 0 from rfl] at this
  exact this
theorem ob_b (H : Sh sh) (P : PM V) (K : KOk S) (hc : V 101 36 = c) (hs : 1 ≤ s) (hs' : s ≤ 40) (ko : (kS sh o).1 = 21) (ho : o ≠ 102) (f0 : 0 ≤ fr) (f1 : fr + s < ((kS sh o).2 : Int)) (f2 : fr < 10000) (R1 : ∀ d : Nat, (d : Int) < 2 * S 7 → ∀ j : Nat, j + 2 ≤ s → V 115 (41 * (d : Int) + j) = rM c (ev (Gx S d) j)) (R2 : ∀ k : Nat, k + 2 ≤ s → V o (fr + k) = rM c (ev y k)) {γ : Type} {fZ : Int → Mem → Option γ} : bd2 (M_outAndBack 101 t bt o fr s (sh, setR V 102 S)) fZ = fZ (rM c (sN (fun d => if dco S t bt d then sN (fun j => ev (Gx S d) j * ev y (s - 2 - j)) (s - 1) else 0) (2 * (S 7).toNat))) (sh, setR V 102 S) := by
  rw [ob_eq] <;> first | assumption | rfl
/-- the reference's tables -/
def TR (V : Int → Int → Int) (S : Int → Int) (c : Int) (h : Nat) : Prop := ∀ d : Nat, (d : Int) < 2 * S 7 → ∀ j : Nat, j < h → V 115 (41 * (d : Int) + j) = rM c (ev (Gx S d) j)
def MR (V V' : Int → Int → Int) : Prop := ∀ a j, a ≠ 115 → a ≠ 116 → a ≠ 117 → V' a j = V a j
theorem MR_refl : MR V V := fun _ _ _ _ _ => rfl
theorem MR_trans (h : MR V V') (h' : MR V' V1) : MR V V1 := fun a j a1 a2 a3 => (h' a j a1 a2 a3).trans (h a j a1 a2 a3)
theorem MR_up (h : MR V V') (q : a = 115 ∨ a = 116 ∨ a = 117) : MR V (upV V' a k x) := fun b j a1 a2 a3 => by rw [up_row (by omega)]; exact h b j a1 a2 a3
theorem MR_FM (h : MR V V') : FM V V' := fun a j q => h a j (fun e => q (Or.inr (by omega))) (fun e => q (Or.inr (by omega))) (fun e => q (Or.inr (by omega)))
theorem MR_PM (h : MR V V') (P : PM V) : PM V' := PM_fm P (MR_FM h)
theorem lr_9 (H : Sh sh) (K : KOk S) (hs : s ≤ 40) : ∀ (n z : Nat) (V : Int → Int → Int), PM V → V 101 36 = c → (z : Int) ≤ 2 * S 7 → 2 * (S 7).toNat - z < n → TR V S c s → (∀ d : Nat, d < z → V 115 (41 * (d : Int) + s) = rM c (ev (Gx S d) s)) → ∃ V', MR V V' ∧ TR V' S c (s + 1) ∧ ∀ kk v1, M_laysRounds_L9 kk n 101 v1 s z (sh, setR V 102 S) = kk 101 v1 s (sh, setR V' 102 S) := by
  have r3 := K.2.2.1
  have r4 := K.2.2.2.1
  intro n
  induction n with
  | zero => intro z _ _ _ _ h; omega
  | succ n ih =>
    intro z V P hc hz hn T Tz
    by_cases q : (z : Int) < 2 * S 7
    · have F : MR V (upV V 115 (41 * (z : Int) + s) (rM c (ev (Gx S z) s))) := MR_up MR_refl (Or.inl rfl)
      obtain ⟨V', f, t', kq⟩ := ih (z + 1) _ (MR_PM F P) (by rw [up_row (by decide)]; exact hc) (by omega) (by omega) (fun d hd j hj => by rw [up_col (by omega)]; exact T d hd j hj) (fun d hd => by
        by_cases e : d = z
        · rw [e, up_eq]
        · rw [up_col (by omega)]; exact Tz d (by omega))
      refine ⟨V', MR_trans F f, t', fun kk v1 => ?_⟩
      rw [M_laysRounds_L9, bg101 H, blp P H (by decide) (by decide), w32_id (x := 2 * S 7) (by omega) (by omega), if_pos q, bg101 H, q_101_33 P]
      have val : ∀ F : Int → Mem → Option (Int × Mem), bd2 (if (s : Int) = 0 then some ((1 : Int), ((sh, setR V 102 S) : Mem)) else bd (isk 12 (sh, setR V 102 S) 101) fun _ => bd2 (M_headOf 101 z (sh, setR V 102 S)) fun x6 μ7 => bd (getf 12 33 μ7 101) fun x8 => bd (isk 12 μ7 101) fun _ => bd2 (M_outAndBack 101 x6 (xor32 z 1) x8 (w32 (41 * z)) s μ7) fun x9 μ10 => some (x9, μ10)) F = F (rM c (ev (Gx S z) s)) (sh, setR V 102 S) := fun F => by
        by_cases e : s = 0
        · subst e
          rw [if_pos (by decide), bd2_mk]
          have : rM c (ev (Gx S z) 0) = 1 := rM_1
          rw [this]
        · obtain ⟨s', rfl⟩ : ∃ s', s = s' + 1 := ⟨s - 1, by omega⟩
          rw [if_neg (by omega), bi101 H, M_headOf_b H P (by omega) (by omega), bg101 H, q_101_33 P, bi101 H, xor_xr (by omega), w32_id (x := 41 * (z : Int)) (by omega) (by omega), ob_eq (S := S) (c := c) (y := Gx S z) H P K hc (by omega) hs (by rw [k_115 H]) (by decide) (by omega) (by rw [k_115 H]; show _ < (1968 : Int); omega) (by omega) (fun d hd j hj => T d hd j (by omega)) (fun k hk => T z q k (by omega)), bd2_mk, rnd_sum K q, bd2_mk]
      rw [val, w32_id (x := 41 * (z : Int)) (by omega) (by omega), w32_id (x := 41 * (z : Int) + s) (by omega) (by omega), ms115 H (by omega) (by omega), w32_id (x := (z : Int) + 1) (by omega) (by omega)]
      exact kq kk v1
    · refine ⟨V, MR_refl, fun d hd j hj => ?_, fun kk v1 => ?_⟩
      · by_cases e : j = s
        · rw [e]; exact Tz d (by omega)
        · exact T d hd j (by omega)
      · rw [M_laysRounds_L9, bg101 H, blp P H (by decide) (by decide), w32_id (x := 2 * S 7) (by omega) (by omega), if_neg q]
theorem lr_2 (H : Sh sh) (K : KOk S) {N : Nat} (hN : N ≤ 40) : ∀ (n z : Nat) (V : Int → Int → Int), PM V → V 101 36 = c → z ≤ N + 1 → N + 1 - z < n → TR V S c z → ∃ V', MR V V' ∧ TR V' S c (N + 1) ∧ M_laysRounds_L2 n 101 N z (sh, setR V 102 S) = some (0, (sh, setR V' 102 S)) := by
  have r3 := K.2.2.1
  have r4 := K.2.2.2.1
  intro n
  induction n with
  | zero => intro z _ _ _ _ h; omega
  | succ n ih =>
    intro z V P hc hz hn T
    by_cases q : (N : Int) < z
    · refine ⟨V, MR_refl, by rw [show N + 1 = z by omega]; exact T, ?_⟩
      rw [M_laysRounds_L2, if_pos q]
    · obtain ⟨V1, f1, t1, k1⟩ := lr_9 H K (s := z) (by omega) FU 0 V P hc (by omega) (by show _ < 1000000; omega) T (fun d hd => by omega)
      obtain ⟨V2, f2, t2, k2⟩ := ih (z + 1) V1 (MR_PM f1 P) (by rw [f1 _ _ (by decide) (by decide) (by decide)]; exact hc) (by omega) (by omega) t1
      refine ⟨V2, MR_trans f1 f2, t2, ?_⟩
      rw [show ((0 : Nat) : Int) = 0 from rfl] at k1
      rw [M_laysRounds_L2, if_neg q, k1, w32_id (x := (z : Int) + 1) (by omega) (by omega)]
      exact k2
theorem lr_ok (H : Sh sh) (K : KOk S) (P : PM V) (hc : V 101 36 = c) {N : Nat} (hN : N ≤ 40) : ∃ V', MR V V' ∧ TR V' S c (N + 1) ∧ M_laysRounds 101 N (sh, setR V 102 S) = some (0, (sh, setR V' 102 S)) :=
  lr_2 H K hN FU 0 V P hc (by omega) (by show _ < 1000000; omega) (fun d hd j hj => by omega)
/-- rounds from a town, by steps -/
theorem wb_2 (H : Sh sh) (K : KOk S) {N L : Nat} (hL : N + 1 ≤ L) (hN : N ≤ 40) : ∀ (n z : Nat) (V : Int → Int → Int), PM V → V 101 36 = c → z ≤ N + 1 → N + 1 - z < n → TR V S c L → (∀ j : Nat, j < z → V 116 j = rM c (ev (Ux S t) j)) → ∃ V', MR V V' ∧ TR V' S c L ∧ (∀ j : Nat, j ≤ N → V' 116 j = rM c (ev (Ux S t) j)) ∧ ∀ kk, M_walksBy_L2 kk n 101 t N z (sh, setR V 102 S) = kk 101 N (sh, setR V' 102 S) := by
  intro n
  induction n with
  | zero => intro z _ _ _ _ h; omega
  | succ n ih =>
    intro z V P hc hz hn T A
    by_cases q : (N : Int) < z
    · refine ⟨V, MR_refl, T, fun j hj => A j (by omega), fun kk => ?_⟩
      rw [M_walksBy_L2, if_pos q]
    · have F : MR V (upV V 116 z (rM c (ev (Ux S t) z))) := MR_up MR_refl (Or.inr (Or.inl rfl))
      obtain ⟨V', f, t', a', kq⟩ := ih (z + 1) _ (MR_PM F P) (by rw [up_row (by decide)]; exact hc) (by omega) (by omega) (fun d hd j hj => by rw [up_row (by decide)]; exact T d hd j hj) (fun j hj => by
        by_cases e : j = z
        · rw [e, up_eq]
        · rw [up_col (by omega)]; exact A j (by omega))
      refine ⟨V', MR_trans F f, t', a', fun kk => ?_⟩
      rw [M_walksBy_L2, if_neg q, bg101 H, q_101_34 P]
      have val : ∀ F : Int → Mem → Option (Int × Mem), bd2 (if (z : Int) = 0 then some ((1 : Int), ((sh, setR V 102 S) : Mem)) else bd (getf 12 34 (sh, setR V 102 S) 101) fun x4 => bd (isk 12 (sh, setR V 102 S) 101) fun _ => bd2 (M_outAndBack 101 t (-1) x4 0 z (sh, setR V 102 S)) fun x5 μ6 => some (x5, μ6)) F = F (rM c (ev (Ux S t) z)) (sh, setR V 102 S) := fun F => by
        by_cases e : z = 0
        · subst e
          rw [if_pos (by decide), bd2_mk]
          have : rM c (ev (Ux S t) 0) = 1 := rM_1
          rw [this]
        · obtain ⟨z', rfl⟩ : ∃ z', z = z' + 1 := ⟨z - 1, by omega⟩
          rw [if_neg (by omega), bg101 H, q_101_34 P, bi101 H, ob_eq (S := S) (c := c) (y := Ux S t) H P K hc (by omega) (by omega) (by rw [k_116 H]) (by decide) (by decide) (by rw [k_116 H]; show _ < (41 : Int); omega) (by decide) (fun d hd j hj => T d hd j (by omega)) (fun k hk => by rw [Int.zero_add]; exact A k (by omega)), bd2_mk, twn_sum K, bd2_mk]
      rw [val, ms116 H (by omega) (by omega), w32_id (x := (z : Int) + 1) (by omega) (by omega)]
      exact kq kk
/-- one more road of the way -/
theorem wb_64 (H : Sh sh) (P : PM V) (hc : V 101 36 = c) {N k L : Nat} (hL : N + 1 ≤ L) (hN : N ≤ 40) (T : TR V S c L) (hk : k < 80) (hw : V 118 k = m) (hm : (m : Int) < 2 * S 7) (h7 : S 7 ≤ 24) (A : ∀ j : Nat, j ≤ N → V 116 j = rM c (b j)) (hs : s ≤ N) : ∀ (n z : Nat), z ≤ s → s - z < n → ∀ kk, M_walksBy_L64 kk n 101 N k s (rM c (sN (fun j => b j * ev (Gx S m) (s - 1 - j)) z)) z (sh, setR V 102 S) = kk 101 N k s (rM c (sN (fun j => b j * ev (Gx S m) (s - 1 - j)) s)) (sh, setR V 102 S) := by
  intro n
  induction n with
  | zero => intro z _ h; omega
  | succ n ih =>
    intro z hz hn kk
    rw [M_walksBy_L64]
    by_cases q : (z : Int) < s
    · have hi := ih (z + 1) (by omega) (by omega) kk
      rw [sN] at hi
      rw [if_pos q, bg101 H, q_101_34 P, ml116 H (by omega) (by omega), A z (by omega), bg101 H, q_101_33 P, bg101 H, q_101_37 P, ml118 H (by omega) (by omega), hw, w32_id (x := 41 * (m : Int)) (by omega) (by omega), w32_id (x := 41 * (m : Int) + s) (by omega) (by omega), w32_id (x := 41 * (m : Int) + s - 1) (by omega) (by omega), w32_id (x := 41 * (m : Int) + s - 1 - z) (by omega) (by omega), show 41 * (m : Int) + s - 1 - z = 41 * (m : Int) + ((s - 1 - z : Nat) : Int) by omega, ml115 H (by omega) (by omega), T m hm _ (by omega), bi101 H, M_sumOf_b H hc, w32_id (x := (z : Int) + 1) (by omega) (by omega)]
      exact hi
    · rw [if_neg q, show z = s by omega]
theorem zN_sum : sN (fun j => b j * y (s - 1 - j)) s = zN (cN b y) s := by
  cases s with
  | zero => rfl
  | succ s => rw [zN, cN_sm]; rfl
theorem wb_52 (H : Sh sh) {N k L : Nat} (hL : N + 1 ≤ L) (hN : N ≤ 40) (hk : k < 80) (hm : (m : Int) < 2 * S 7) (h7 : S 7 ≤ 24) : ∀ (n z : Nat) (V : Int → Int → Int), PM V → V 101 36 = c → V 118 k = m → z ≤ N + 1 → N + 1 - z < n → TR V S c L → (∀ j : Nat, j ≤ N → V 116 j = rM c (b j)) → (∀ j : Nat, j < z → V 117 j = rM c (zN (cN b (ev (Gx S m))) j)) → ∃ V', MR V V' ∧ TR V' S c L ∧ (∀ j : Nat, j ≤ N → V' 117 j = rM c (zN (cN b (ev (Gx S m))) j)) ∧ ∀ kk, M_walksBy_L52 kk n 101 N k z (sh, setR V 102 S) = kk 101 N k (sh, setR V' 102 S) := by
  intro n
  induction n with
  | zero => intro z _ _ _ _ _ h; omega
  | succ n ih =>
    intro z V P hc hw hz hn T A Z
    by_cases q : (N : Int) < z
    · refine ⟨V, MR_refl, T, fun j hj => Z j (by omega), fun kk => ?_⟩
      rw [M_walksBy_L52, if_pos q]
    · have F : MR V (upV V 117 z (rM c (zN (cN b (ev (Gx S m))) z))) := MR_up MR_refl (Or.inr (Or.inr rfl))
      obtain ⟨V', f, t', a', kq⟩ := ih (z + 1) _ (MR_PM F P) (by rw [up_row (by decide)]; exact hc) (by rw [up_row (by decide)]; exact hw) (by omega) (by omega) (fun d hd j hj => by rw [up_row (by decide)]; exact T d hd j hj) (fun j hj => by rw [up_row (by decide)]; exact A j hj) (fun j hj => by
        by_cases e : j = z
        · rw [e, up_eq]
        · rw [up_col (by omega)]; exact Z j (by omega))
      refine ⟨V', MR_trans F f, t', a', fun kk => ?_⟩
      have hh := fun kk => wb_64 (S := S) (b := b) (s := z) H P hc hL hN T hk hw hm h7 A (by omega) FU 0 (by omega) (by show _ < 1000000; omega) kk
      rw [sN, rM_0, show ((0 : Nat) : Int) = 0 from rfl, zN_sum] at hh
      rw [M_walksBy_L52, if_neg q, hh, bg101 H, q_101_35 P, ms117 H (by omega) (by omega), w32_id (x := (z : Int) + 1) (by omega) (by omega)]
      exact kq kk
theorem wb_132 (H : Sh sh) {N k L : Nat} (hL : N + 1 ≤ L) (hN : N ≤ 40) : ∀ (n z : Nat) (V : Int → Int → Int), PM V → z ≤ N + 1 → N + 1 - z < n → TR V S c L → (∀ j : Nat, j ≤ N → V 117 j = rM c (b j)) → (∀ j : Nat, j < z → V 116 j = rM c (b j)) → ∃ V', MR V V' ∧ TR V' S c L ∧ (∀ j : Nat, j ≤ N → V' 116 j = rM c (b j)) ∧ ∀ kk, M_walksBy_L132 kk n 101 N k z (sh, setR V 102 S) = kk 101 N k (sh, setR V' 102 S) := by
  intro n
  induction n with
  | zero => intro z _ _ _ h; omega
  | succ n ih =>
    intro z V P hz hn T A Z
    by_cases q : (N : Int) < z
    · refine ⟨V, MR_refl, T, fun j hj => Z j (by omega), fun kk => ?_⟩
      rw [M_walksBy_L132, if_pos q]
    · have F : MR V (upV V 116 z (rM c (b z))) := MR_up MR_refl (Or.inr (Or.inl rfl))
      obtain ⟨V', f, t', a', kq⟩ := ih (z + 1) _ (MR_PM F P) (by omega) (by omega) (fun d hd j hj => by rw [up_row (by decide)]; exact T d hd j hj) (fun j hj => by rw [up_row (by decide)]; exact A j hj) (fun j hj => by
        by_cases e : j = z
        · rw [e, up_eq]
        · rw [up_col (by omega)]; exact Z j (by omega))
      refine ⟨V', MR_trans F f, t', a', fun kk => ?_⟩
      rw [M_walksBy_L132, if_neg q, bg101 H, q_101_34 P, bg101 H, q_101_35 P, ml117 H (by omega) (by omega), A z (by omega), ms116 H (by omega) (by omega), w32_id (x := (z : Int) + 1) (by omega) (by omega)]
      exact kq kk
end CNT5
