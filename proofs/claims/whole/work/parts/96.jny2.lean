/-! PURE: journey; the reference looks for a road -/
section JNY2
variable {sh : List (Nat × Nat)} {V V' V1 V2 : Int → Int → Int} {t i j x a b D wr : Int} {S : Int → Int} {n h p z q m s M N L H0 e l l2 r k u : Nat} {f g : Nat → Nat} {ρ : Nat → Int}
/-- what the reference has -/
def MSt (S : Int → Int) (ρ : Nat → Int) (wr : Int) (M L : Nat) (V : Int → Int → Int) (f : Nat → Nat) (H : Nat) : Prop := PM V ∧ (V 101 36 = 1 ∧ V 101 40 = H ∧ V 129 wr = M) ∧ (∀ k : Nat, k < H → V 119 k = f k) ∧ (∀ k : Nat, k < M → V 130 (40 * wr + k) = ρ k) ∧ TR V S 1 L
def LF (V V' : Int → Int → Int) : Prop := ∀ a j, a ≠ 118 → ¬ (a = 101 ∧ j = 38) → V' a j = V a j
theorem LF_FM (h : LF V V') : FM V V' := fun a j q => h a j (fun e => q (Or.inr (by omega))) (fun e => q (Or.inl (by omega)))
theorem LF_up (h : LF V V') (q : a = 118 ∨ (a = 101 ∧ j = 38)) : LF V (upV V' a j x) := fun b k b1 b2 => by
  unfold upV; rw [if_neg (fun g => by omega)]; exact h b k b1 b2
theorem LF_trans (h : LF V V') (h' : LF V' V1) : LF V V1 := fun a j a1 a2 => (h' a j a1 a2).trans (h a j a1 a2)
theorem LF_refl : LF V V := fun _ _ _ _ => rfl
theorem MSt_LF (C : MSt S ρ wr M L V f H0) (h : LF V V') : MSt S ρ wr M L V' f H0 := by
  obtain ⟨P, ⟨c1, c2, c3⟩, c4, c5, c6⟩ := C
  exact ⟨PM_fm P (LF_FM h), ⟨by rw [h _ _ (by decide) (by decide)]; exact c1, by rw [h _ _ (by decide) (by decide)]; exact c2, by rw [h _ _ (by decide) (by omega)]; exact c3⟩, fun k hk => by rw [h _ _ (by decide) (by omega)]; exact c4 k hk, fun k hk => by rw [h _ _ (by decide) (by omega)]; exact c5 k hk, fun d hd j hj => by rw [h _ _ (by decide) (by omega)]; exact c6 d hd j hj⟩
theorem MSt_MR (C : MSt S ρ wr M L V f H0) (h : MR V V') (T : TR V' S 1 L) : MSt S ρ wr M L V' f H0 := by
  obtain ⟨P, ⟨c1, c2, c3⟩, c4, c5, c6⟩ := C
  exact ⟨MR_PM h P, ⟨by rw [h _ _ (by decide) (by decide) (by decide)]; exact c1, by rw [h _ _ (by decide) (by decide) (by decide)]; exact c2, by rw [h _ _ (by decide) (by decide) (by decide)]; exact c3⟩, fun k hk => by rw [h _ _ (by decide) (by decide) (by decide)]; exact c4 k hk, fun k hk => by rw [h _ _ (by decide) (by decide) (by decide)]; exact c5 k hk, T⟩
theorem MSt_119 (C : MSt S ρ wr M L V f H0) (h : ∀ a j, a ≠ 119 → ¬ (a = 101 ∧ j = 40) → V' a j = V a j) (h6 : V' 101 40 = q) (hf : ∀ k : Nat, k < q → V' 119 k = g k) : MSt S ρ wr M L V' g q := by
  obtain ⟨P, ⟨c1, c2, c3⟩, c4, c5, c6⟩ := C
  have F : FM V V' := fun a j q => h a j (fun e => q (Or.inr (by omega))) (fun e => q (Or.inl (by omega)))
  exact ⟨PM_fm P F, ⟨by rw [h _ _ (by decide) (by decide)]; exact c1, h6, by rw [h _ _ (by decide) (by omega)]; exact c3⟩, hf, fun k hk => by rw [h _ _ (by decide) (by omega)]; exact c5 k hk, fun d hd j hj => by rw [h _ _ (by decide) (by omega)]; exact c6 d hd j hj⟩
theorem WL_app : ∀ (l l' : List Nat) (k : Nat), WL V S k l → WL V S (k + l.length) l' → WL V S k (l ++ l') := by
  intro l
  induction l with
  | nil => intro l' k _ h; exact h
  | cons v l ih => intro l' k h h'; exact ⟨h.1, h.2.1, ih l' (k + 1) h.2.2 (by rw [List.length_cons] at h'; rw [show k + 1 + l.length = k + (l.length + 1) by omega]; exact h')⟩
theorem WL_keep (h : ∀ j : Nat, j < n → V' 118 j = V 118 j) : ∀ (l : List Nat) (k : Nat), k + l.length ≤ n → WL V S k l → WL V' S k l := by
  intro l
  induction l with
  | nil => intro k _ _; trivial
  | cons v l ih => intro k hk q; rw [List.length_cons] at hk; exact ⟨by rw [h k (by omega)]; exact q.1, q.2.1, ih (k + 1) (by omega) q.2.2⟩
theorem lw_60 (H : Sh sh) (h7 : S 7 ≤ 24) : ∀ (n u k : Nat) (V : Int → Int → Int), MSt S ρ wr M L V f H0 → (∀ k, k < H0 → (f k : Int) < 2 * S 7) → s + u ≤ H0 → H0 ≤ 41 → u < n → V 101 38 = k → k + u ≤ 80 → ∃ V', LF V V' ∧ V' 101 38 = ((k + u : Nat) : Int) ∧ (∀ j : Nat, j < k → V' 118 j = V 118 j) ∧ WL V' S k (dnL f s u) ∧ ∀ kk, M_laysWay_L60 kk n 101 wr s ((s : Int) + u - 1) (sh, setR V 102 S) = kk 101 wr s (sh, setR V' 102 S) := by
  intro n
  induction n with
  | zero => intro u _ _ _ _ _ _ h; omega
  | succ n ih =>
    intro u k V C F hu hH0 hn h38 hk
    have P := C.1
    cases u with
    | zero =>
      refine ⟨V, LF_refl, h38, fun _ _ => rfl, trivial, fun kk => ?_⟩
      rw [M_laysWay_L60, if_pos (by omega)]
    | succ u =>
      have f2 := F (s + u) (by omega)
      have G : LF V (upV (upV V 118 k (xr (f (s + u)))) 101 38 ((k : Int) + 1)) := LF_up (LF_up LF_refl (Or.inl rfl)) (Or.inr ⟨rfl, rfl⟩)
      obtain ⟨V', g1, g2, g3, g4, g5⟩ := ih u (k + 1) _ (MSt_LF C G) F (by omega) hH0 (by omega) (by rw [up_eq]; omega) (by omega)
      refine ⟨V', LF_trans G g1, by rw [g2]; congr 1; omega, fun j hj => by rw [g3 j (by omega), up_row (by decide), up_col (by omega)], ⟨?_, xr_lt f2, g4⟩, fun kk => ?_⟩
      · rw [g3 k (by omega), up_row (by decide), up_eq]
      · rw [M_laysWay_L60, if_neg (by omega), bg101 H, q_101_37 P, bg101 H, h38, bg101 H, q_101_39 P, show (s : Int) + ((u + 1 : Nat) : Int) - 1 = ((s + u : Nat) : Int) by omega, ml119 H (by omega) (by omega), C.2.2.1 (s + u) (by omega), xor_xr (by omega), ms118 H (by omega) (by omega), bg101 H, up_row (by decide), h38, w32_id (x := (k : Int) + 1) (by omega) (by omega), bp101 H, w32_id (by omega) (by omega), show ((s + u : Nat) : Int) + -1 = (s : Int) + u - 1 by omega]
        exact g5 kk
theorem lw_100 (H : Sh sh) (h7 : S 7 ≤ 24) (w0 : 0 ≤ wr) (w1 : wr < 4) (hM : M ≤ 40) (hs : isSl S ρ M) : ∀ (n z k : Nat) (V : Int → Int → Int), MSt S ρ wr M L V f H0 → z ≤ M → M - z < n → V 101 38 = k → k + (M - z) ≤ 80 → ∃ V', LF V V' ∧ V' 101 38 = ((k + (M - z) : Nat) : Int) ∧ (∀ j : Nat, j < k → V' 118 j = V 118 j) ∧ WL V' S k (upL (dN ρ) z (M - z)) ∧ M_laysWay_L100 n 101 wr z (sh, setR V 102 S) = some (0, (sh, setR V' 102 S)) := by
  intro n
  induction n with
  | zero => intro z _ _ _ _ h; omega
  | succ n ih =>
    intro z k V C hz hn h38 hk
    have P := C.1
    have c3 := C.2.1.2.2
    by_cases q : z < M
    · obtain ⟨s1, s2⟩ := hs z q
      have ei := dN_i hs q
      have G : LF V (upV (upV V 118 k (ρ z)) 101 38 ((k : Int) + 1)) := LF_up (LF_up LF_refl (Or.inl rfl)) (Or.inr ⟨rfl, rfl⟩)
      obtain ⟨V', g1, g2, g3, g4, g5⟩ := ih (z + 1) (k + 1) _ (MSt_LF C G) (by omega) (by omega) (by rw [up_eq]; omega) (by omega)
      refine ⟨V', LF_trans G g1, by rw [g2]; congr 1; omega, fun j hj => by rw [g3 j (by omega), up_row (by decide), up_col (by omega)], ?_, ?_⟩
      · rw [show M - z = (M - (z + 1)) + 1 by omega, upL]
        exact ⟨by rw [g3 k (by omega), up_row (by decide), up_eq, ei], by rw [ei]; exact s2, g4⟩
      · rw [M_laysWay_L100, bg101 H, q_101_50 P, ml129 H w0 w1, c3, if_pos (by omega), bg101 H, q_101_37 P, bg101 H, h38, bg101 H, q_101_51 P, w32_id (x := 40 * wr) (by omega) (by omega), w32_id (x := 40 * wr + z) (by omega) (by omega), ml130 H (by omega) (by omega), C.2.2.2.1 z q, w32_id (x := ρ z) (by omega) (by omega), ms118 H (by omega) (by omega), bg101 H, up_row (by decide), h38, w32_id (x := (k : Int) + 1) (by omega) (by omega), bp101 H, w32_id (by omega) (by omega), show (z : Int) + 1 = ((z + 1 : Nat) : Int) by omega]
        exact g5
    · refine ⟨V, LF_refl, by rw [h38]; congr 1; omega, fun _ _ => rfl, by rw [show M - z = 0 by omega]; trivial, ?_⟩
      rw [M_laysWay_L100, bg101 H, q_101_50 P, ml129 H w0 w1, c3, if_neg (by omega)]
theorem lw_ok (H : Sh sh) (h7 : S 7 ≤ 24) (w0 : 0 ≤ wr) (w1 : wr < 4) (hM : M ≤ 40) (hs : isSl S ρ M) (C : MSt S ρ wr M L V f H0) (F : ∀ k, k < H0 → (f k : Int) < 2 * S 7) (hH0 : H0 ≤ 40) (Q : SPx f (dN ρ) H0 M s) : ∃ V', M_laysWay 101 wr (sh, setR V 102 S) = some (0, (sh, setR V' 102 S)) ∧ LF V V' ∧ V' 101 38 = (((wyL f (dN ρ) H0 M s).length : Nat) : Int) ∧ WL V' S 0 (wyL f (dN ρ) H0 M s) ∧ (wyL f (dN ρ) H0 M s).length ≤ 80 := by
  have P := C.1
  obtain ⟨c1, c2, c3⟩ := C.2.1
  obtain ⟨s1, s2, s3, s4⟩ := id Q
  have l3 : ∀ kk, ∀ (n z : Nat), z ≤ s → s - z < n → M_laysWay_L2 kk n 101 wr z (sh, setR V 102 S) = kk 101 wr s (sh, setR V 102 S) := by
    intro kk n
    induction n with
    | zero => intro z _ h; omega
    | succ n ih =>
      intro z hz hn
      rw [M_laysWay_L2, bg101 H, c2]
      simp only [cmp_eq]
      by_cases q : z = s
      · subst q
        by_cases a1 : z < H0
        · rw [if_pos (by omega), bg101 H, q_101_50 P, ml129 H w0 w1, c3]
          by_cases a2 : z < M
          · rw [if_pos (by omega), bg101 H, q_101_39 P, ml119 H (by omega) (by omega), C.2.2.1 z a1, bg101 H, q_101_51 P, w32_id (x := 40 * wr) (by omega) (by omega), w32_id (x := 40 * wr + z) (by omega) (by omega), ml130 H (by omega) (by omega), C.2.2.2.1 z a2, if_neg (by rw [← dN_i hs a2]; have := s4 a1 a2; omega)]
          · rw [if_neg (by omega)]
        · rw [if_neg (by omega)]
      · rw [if_pos (by omega), bg101 H, q_101_50 P, ml129 H w0 w1, c3, if_pos (by omega), bg101 H, q_101_39 P, ml119 H (by omega) (by omega), C.2.2.1 z (by omega), bg101 H, q_101_51 P, w32_id (x := 40 * wr) (by omega) (by omega), w32_id (x := 40 * wr + z) (by omega) (by omega), ml130 H (by omega) (by omega), C.2.2.2.1 z (by omega), if_pos (by rw [← dN_i hs (by omega), s3 z (by omega)]), w32_id (by omega) (by omega), show (z : Int) + 1 = ((z + 1 : Nat) : Int) by omega]
        exact ih (z + 1) (by omega) (by omega)
  have hl : (wyL f (dN ρ) H0 M s).length = (H0 - s) + (M - s) := by unfold wyL; rw [List.length_append, dnL_len, upL_len]
  have G0 : LF V (upV V 101 38 0) := LF_up LF_refl (Or.inr ⟨rfl, rfl⟩)
  obtain ⟨Va, a1, a2, a3, a4, a5⟩ := lw_60 (s := s) (sh := sh) H h7 FU (H0 - s) 0 (upV V 101 38 0) (MSt_LF C G0) F (by omega) (by omega) (by show _ < 1000000; omega) up_eq (by omega)
  obtain ⟨Vb, b1, b2, b3, b4, b5⟩ := lw_100 (sh := sh) H h7 w0 w1 hM hs FU s (0 + (H0 - s)) Va (MSt_LF (MSt_LF C G0) a1) s2 (by show _ < 1000000; omega) a2 (by omega)
  refine ⟨Vb, ?_, LF_trans G0 (LF_trans a1 b1), by rw [b2, hl]; congr 1; omega, ?_, by rw [hl]; omega⟩
  · unfold M_laysWay
    have e0 := fun kk => l3 kk FU 0 (by omega) (by show _ < 1000000; omega)
    rw [show ((0 : Nat) : Int) = 0 from rfl] at e0
    rw [e0]
    unfold M_laysWay_J48
    rw [bp101 H, bg101 H, up_col (by decide), c2, w32_id (by omega) (by omega), bd_mk, show (H0 : Int) - 1 = (s : Int) + ((H0 - s : Nat) : Int) - 1 by omega, a5, b5]
  · unfold wyL
    exact WL_app _ _ 0 (WL_keep (n := 0 + (H0 - s)) (fun j hj => b3 j hj) _ 0 (by rw [dnL_len]; omega) a4) (by rw [dnL_len]; exact b4)
theorem cap_ltM {y : Nat} (hl : l < 2147483648) : ((l : Int) < rM 1 y ↔ l < y) ∧ (y ≤ l → rM 1 y = y) := by
  unfold rM rhoN
  rw [if_neg (by decide)]
  constructor
  · constructor <;> intro h <;> omega
  · intro h; rw [Nat.min_eq_right (by omega)]
/-- a going of the reference, tried -/
theorem mtry (H : Sh sh) (K : KOk S) (w0 : 0 ≤ wr) (w1 : wr < 4) (hM : M ≤ 40) (hs : isSl S ρ M) (C : MSt S ρ wr M L V f H0) (I : HI S f H0 t) (Q : SPx f (dN ρ) H0 M s) (J : WI2 S (dN ρ) M) (al : allO S (dN ρ) 0 M) (hH0 : H0 < 40) (hL : m + 1 ≤ L) (hp : p + 1 + m = N) (hN : N ≤ 40) (hr : (r : Int) < S 7) (hd : rdo S t (-1) r) (hl : l < 2147483648) : ∃ V3 V4, MSt S ρ wr M L V3 (hF f H0 (sDart S r t).toNat) (hH f H0 (sDart S r t).toNat) ∧ FM V V3 ∧ MSt S ρ wr M L V4 f H0 ∧ FM V V4 ∧ ∀ kk, M_journey_L152 kk (n + 1) 101 wr N i t l p r 0 (sh, setR V 102 S) = if l < Wr S (dN ρ) M t (wyL f (dN ρ) H0 M s) m r then (if (p : Int) = i then some ((r : Int), ((sh, setR V3 102 S) : Mem)) else M_journey_L152 kk n 101 wr N i (sHead S (sDart S r t)) l p r 1 (sh, setR V3 102 S)) else M_journey_L152 kk n 101 wr N i t ((l - Wr S (dN ρ) M t (wyL f (dN ρ) H0 M s) m r : Nat) : Int) p ((r + 1 : Nat) : Int) 0 (sh, setR V4 102 S) := by
  have P := C.1
  obtain ⟨c1, c2, c3⟩ := C.2.1
  have r3 := K.2.2.1
  have r4 := K.2.2.2.1
  obtain ⟨d1, d2, d3⟩ := drt_of K (r := r) hr hd.2.1 hd.2.2
  have I' := HI_hold I d1
  obtain ⟨s', Q', ew⟩ := hold_nxt (e := (sDart S r t).toNat) Q J.2 I.2.1
  have un := hold_undo (f := f) (H0 := H0) (e := (sDart S r t).toNat) I.2.1
  generalize he : (sDart S r t).toNat = e at *
  have dl := d1.1
  -- the pile
  obtain ⟨V1, C1, F1, ey, ep⟩ : ∃ V1, MSt S ρ wr M L V1 (hF f H0 e) (hH f H0 e) ∧ (∀ a j, a ≠ 119 → ¬ (a = 101 ∧ j = 40) → V1 a j = V a j) ∧ (∀ F : Int → Option (Int × Mem), bd (if (0 : Int) < H0 then bd (getf 12 39 (sh, setR V 102 S) 101) fun x9 => bd (getf 12 40 (sh, setR V 102 S) 101) fun x10 => bd (lda 20 (sh, setR V 102 S) x9 (w32 (x10 - 1))) fun x11 => if x11 = xor32 (e : Int) 1 then some (1 : Int) else some 0 else some 0) F = F (B (bkw f H0 e))) ∧ (∀ F : Mem → Option (Int × Mem), bd (if B (bkw f H0 e) = 0 then bd (getf 12 39 (sh, setR V 102 S) 101) fun x13 => bd (getf 12 40 (sh, setR V 102 S) 101) fun x14 => bd (sta 20 (sh, setR V 102 S) x13 x14 (e : Int)) fun μ15 => bd (getf 12 40 μ15 101) fun x16 => bd (putf 12 40 μ15 101 (w32 (x16 + 1))) fun μ17 => some μ17 else bd (getf 12 40 (sh, setR V 102 S) 101) fun x18 => bd (putf 12 40 (sh, setR V 102 S) 101 (w32 (x18 - 1))) fun μ19 => some μ19) F = F (sh, setR V1 102 S)) := by
    have eb : ∀ F : Int → Option (Int × Mem), bd (if (0 : Int) < H0 then bd (getf 12 39 (sh, setR V 102 S) 101) fun x9 => bd (getf 12 40 (sh, setR V 102 S) 101) fun x10 => bd (lda 20 (sh, setR V 102 S) x9 (w32 (x10 - 1))) fun x11 => if x11 = xor32 (e : Int) 1 then some (1 : Int) else some 0 else some 0) F = F (B (bkw f H0 e)) := fun F => by
      by_cases h1 : 0 < H0
      · rw [if_pos (by omega), bg101 H, q_101_39 P, bg101 H, c2, w32_id (by omega) (by omega), show (H0 : Int) - 1 = ((H0 - 1 : Nat) : Int) by omega, ml119 H (by omega) (by omega), C.2.2.1 (H0 - 1) (by omega), xor_xr (by omega)]
        by_cases h2 : f (H0 - 1) = xr e
        · rw [if_pos (by rw [h2]), bd_mk, B_t ⟨h1, h2⟩]
        · rw [if_neg (by omega), bd_mk, B_f (fun g => h2 g.2)]
      · rw [if_neg (by omega), bd_mk, B_f (fun g => h1 g.1)]
    by_cases b : bkw f H0 e
    · refine ⟨upV V 101 40 ((H0 : Int) - 1), ?_, fun a j a1 a2 => by unfold upV; rw [if_neg a2], eb, fun F => ?_⟩
      · unfold hF hH
        rw [if_pos b, if_pos b]
        exact MSt_119 C (fun a j a1 a2 => by unfold upV; rw [if_neg a2]) (by rw [up_eq]; omega) (fun k hk => by rw [up_row (by decide)]; exact C.2.2.1 k (by omega))
      · rw [B_t b, if_neg (by decide), bg101 H, c2, w32_id (by omega) (by omega), bp101 H, bd_mk]
    · refine ⟨upV (upV V 119 H0 e) 101 40 ((H0 : Int) + 1), ?_, fun a j a1 a2 => by unfold upV; rw [if_neg a2, if_neg (fun g => a1 g.1)], eb, fun F => ?_⟩
      · unfold hF hH
        rw [if_neg b, if_neg b]
        refine MSt_119 C (fun a j a1 a2 => by unfold upV; rw [if_neg a2, if_neg (fun g => a1 g.1)]) (by rw [up_eq]; omega) (fun k hk => ?_)
        rw [up_row (by decide)]
        by_cases z : k = H0
        · rw [if_pos z, z, up_eq]
        · rw [if_neg z, up_col (by omega)]; exact C.2.2.1 k (by omega)
      · rw [B_f b, if_pos rfl, bg101 H, q_101_39 P, bg101 H, c2, ms119 H (by omega) (by omega), bg101 H, up_row (by decide), c2, w32_id (by omega) (by omega), bp101 H, bd_mk]
  have FM1 : FM V V1 := fun a j q => F1 a j (fun e => q (Or.inr (by omega))) (fun e => q (Or.inl (by omega)))
  have hl40 : hH f H0 e ≤ 40 := by unfold hH; split <;> omega
  obtain ⟨V2, y1, y2, y3, y4, y5⟩ := lw_ok (sh := sh) H r4 w0 w1 hM hs C1 (fun k hk => (I'.1 k hk).1) hl40 Q'
  have C2 := MSt_LF C1 y2
  obtain ⟨V3, u1, u2, u3⟩ := wb_ok (sh := sh) (t := sHead S e) (N := m) (L := L) H K C2.1 C2.2.1.1 hL (by omega) C2.2.2.2.2 y5 y3 y4
  have C3 := MSt_MR C2 u1 u2
  have FM3 : FM V V3 := FM_trans FM1 (FM_trans (LF_FM y2) (MR_FM u1))
  have eW : Wr S (dN ρ) M t (wyL f (dN ρ) H0 M s) m r = WS S (sHead S e) (wyL (hF f H0 e) (dN ρ) (hH f H0 e) M s') m := by
    unfold Wr; rw [if_pos hd, if_pos al, he, ← ew, ← d3]
  have cl := cap_ltM (y := Wr S (dN ρ) M t (wyL f (dN ρ) H0 M s) m r) hl
  have P3 := C3.1
  -- taken back
  obtain ⟨V4, C4, FM4, eu⟩ : ∃ V4, MSt S ρ wr M L V4 f H0 ∧ FM V V4 ∧ ∀ F : Mem → Option (Int × Mem), (if B (bkw f H0 e) = 0 then bd (getf 12 40 (sh, setR V3 102 S) 101) fun x28 => bd (putf 12 40 (sh, setR V3 102 S) 101 (w32 (x28 - 1))) fun μ29 => F μ29 else bd (getf 12 39 (sh, setR V3 102 S) 101) fun x30 => bd (getf 12 40 (sh, setR V3 102 S) 101) fun x31 => bd (sta 20 (sh, setR V3 102 S) x30 x31 (xor32 (e : Int) 1)) fun μ32 => bd (getf 12 40 μ32 101) fun x33 => bd (putf 12 40 μ32 101 (w32 (x33 + 1))) fun μ34 => F μ34) = F (sh, setR V4 102 S) := by
    obtain ⟨z1, z2, z3⟩ := C3.2.1
    by_cases b : bkw f H0 e
    · have e1 : hF f H0 e = f := if_pos b
      have e2 : hH f H0 e = H0 - 1 := if_pos b
      rw [e1, e2] at C3
      rw [e2] at z2
      refine ⟨upV (upV V3 119 (H0 - 1 : Nat) (xr e)) 101 40 H0, ?_, FM_up (FM_up FM3 (by unfold MSc; omega)) (by unfold MSc; omega), fun F => ?_⟩
      · refine MSt_119 C3 (fun a j a1 a2 => by unfold upV; rw [if_neg a2, if_neg (fun g => a1 g.1)]) up_eq (fun k hk => ?_)
        rw [up_row (by decide)]
        by_cases z : k = H0 - 1
        · rw [z, up_eq, b.2]
        · rw [up_col (by omega)]; exact C3.2.2.1 k (by omega)
      · rw [B_t b, if_neg (by decide), bg101 H, q_101_39 P3, bg101 H, z2, xor_xr (by omega), ms119 H (by omega) (by omega), bg101 H, up_row (by decide), z2, w32_id (by omega) (by omega), bp101 H, show ((H0 - 1 : Nat) : Int) + 1 = H0 by have := b.1; omega]
    · have e1 : hF f H0 e = fun k => if k = H0 then e else f k := if_neg b
      have e2 : hH f H0 e = H0 + 1 := if_neg b
      rw [e1, e2] at C3
      rw [e2] at z2
      refine ⟨upV V3 101 40 H0, ?_, FM_up FM3 (by unfold MSc; omega), fun F => ?_⟩
      · refine MSt_119 C3 (fun a j a1 a2 => by unfold upV; rw [if_neg a2]) up_eq (fun k hk => ?_)
        rw [up_row (by decide), C3.2.2.1 k (by omega)]; exact congrArg (fun z : Nat => (z : Int)) (if_neg (by omega))
      · rw [B_f b, if_pos rfl, bg101 H, z2, w32_id (by omega) (by omega), bp101 H, show ((H0 + 1 : Nat) : Int) - 1 = H0 by omega]
  refine ⟨V3, V4, C3, FM3, C4, FM4, fun kk => ?_⟩
  have hd48 : (e : Int) < 48 := by omega
  rw [M_journey_L152, if_pos rfl, bi101 H, M_isOpen_b H P (by omega) (by omega), B_t hd.2.1, if_neg (by decide), bi101 H, M_leads_b H P (by omega) (by omega), B_t hd.2.2, if_neg (by decide), bi101 H, M_dartBy_b H P (by omega) (by omega), ← d3, bg101 H, c2, ey, ep, bi101 H, y1, bd2_mk, bi101 H, M_headOf_b H C2.1 (by omega) hd48, bi101 H, w32_id (x := (N : Int) - p) (by omega) (by omega), w32_id (x := (N : Int) - p - 1) (by omega) (by omega), show (N : Int) - p - 1 = m by omega, u3, bd2_mk]
  simp only [cmp_gt]
  rw [← eW]
  by_cases g : l < Wr S (dN ρ) M t (wyL f (dN ρ) H0 M s) m r
  · rw [if_pos (cl.1.mpr g), bd_mk, if_neg (by decide), if_pos g]
    by_cases gi : (p : Int) = i
    · rw [if_pos gi, if_pos gi]
    · rw [if_neg gi, if_neg gi, bi101 H, M_headOf_b H P3 (by omega) hd48]
  · rw [if_neg (fun q => g (cl.1.mp q)), bd_mk, if_pos rfl, if_neg g, cl.2 (by omega), w64_id (by omega) (by omega), bd_mk, show (l : Int) - ((Wr S (dN ρ) M t (wyL f (dN ρ) H0 M s) m r : Nat) : Int) = ((l - Wr S (dN ρ) M t (wyL f (dN ρ) H0 M s) m r : Nat) : Int) by omega, eu (fun μ => M_journey_L152 kk n 101 wr N i t ((l - Wr S (dN ρ) M t (wyL f (dN ρ) H0 M s) m r : Nat) : Int) p (w32 ((r : Int) + 1)) 0 μ), w32_id (by omega) (by omega), show (r : Int) + 1 = ((r + 1 : Nat) : Int) by omega]
end JNY2
