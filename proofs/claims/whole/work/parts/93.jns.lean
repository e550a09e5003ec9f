/-! PURE: journeys -/
section JNS
variable {sh : List (Nat × Nat)} {V V' V1 V2 V2' : Int → Int → Int} {r t i j k x a b c D w nn : Int} {S : Int → Int} {n h p z q m s M N : Nat} {f g : Nat → Nat} {ρ : Nat → Int}
/-- the counter alone -/
def KF (V V' : Int → Int → Int) : Prop := ∀ a j, ¬ (85 ≤ a ∧ a ≤ 89) → ¬ (a = 84 ∧ 5 ≤ j) → V' a j = V a j
theorem KF_refl : KF V V := fun _ _ _ _ => rfl
theorem KF_trans (h : KF V V') (h' : KF V' V1) : KF V V1 := fun a j a1 a2 => (h' a j a1 a2).trans (h a j a1 a2)
theorem KF_CF (h : CF V V') : KF V V' := fun a j a1 _ => h a j (by omega) (by omega) (by omega)
theorem KF_87 (h : ∀ a j, a ≠ 87 → V' a j = V a j) : KF V V' := fun a j a1 _ => h a j (by omega)
theorem KF_up (h : KF V V') (q : (85 ≤ a ∧ a ≤ 89) ∨ (a = 84 ∧ 5 ≤ k)) : KF V (upV V' a k x) := fun b j a1 a2 => by
  unfold upV; rw [if_neg (fun g => by omega)]; exact h b j a1 a2
theorem KF_Pt (h : KF V V') (P : Pt V) : Pt V' := fun q hq => by
  have z : ∀ q ∈ ptC, ¬ (85 ≤ q.1 ∧ q.1 ≤ 89) ∧ ¬ (q.1 = 84 ∧ 5 ≤ q.2.1) := by decide
  rw [h _ _ (z q hq).1 (z q hq).2]; exact P q hq
theorem KF_Cx (X : Cx sh V S D) (h : KF V V') : Cx sh V' S D := Cx_lo X (fun a j ha => h a j (by omega) (by omega)) (KF_Pt h X.2.1)
theorem KF_SF (h : KF V V') : SF V V' := fun a j q => h a j (by omega) (by omega)
theorem KF_WPt (h : KF V V') (W : WPt V) : WPt V' := WPt_of W (fun t j ht g0 g1 => h t j (by omega) (by omega))
theorem pr_16 (g0 : 0 ≤ w) (g1 : w < 4) (hM : M ≤ 40) (hs : isSl S ρ M) (h7 : S 7 ≤ 24) : ∀ (n z : Nat) (V : Int → Int → Int), Cx sh V S D → V (93 + 2 * w) 1 = M → (∀ k : Nat, k < M → V (94 + 2 * w) k = ρ k) → z ≤ M → M - z < n → (∀ k : Nat, k < z → V 88 k = ρ k) → ∃ V', (∀ a j, a ≠ 88 → V' a j = V a j) ∧ (∀ k : Nat, k < M → V' 88 k = ρ k) ∧ ∀ kk v3, Ct_prepare_L16 kk n 84 2 (93 + 2 * w) v3 z (sh, V) = kk 84 2 v3 (sh, V') := by
  intro n
  induction n with
  | zero => intro z _ _ _ _ _ h; omega
  | succ n ih =>
    intro z V X h1 hρ hz hn A
    have H := X.1
    have P := X.2.1
    have k84 : (kS sh 84).1 = 0 := by rw [k_84 H]
    by_cases q : (z : Int) < M
    · obtain ⟨s1, s2⟩ := hs z (by omega)
      have es : sm (ρ z) = ρ z := by unfold sm; rw [if_pos (by omega)]
      have F : KF V (upV V 88 z (ρ z)) := KF_up KF_refl (by omega)
      obtain ⟨V', f, a', kq⟩ := ih (z + 1) _ (KF_Cx X F) (by rw [up_row (by omega)]; exact h1) (fun k hk => by rw [up_row (by omega)]; exact hρ k hk) (by omega) (by omega) (fun k hk => by
        by_cases e : k = z
        · rw [e, up_eq]
        · rw [up_col (by omega)]; exact A k (by omega))
      refine ⟨V', fun a j ha => by rw [f a j ha, up_row ha], a', fun kk v3 => ?_⟩
      rw [Ct_prepare_L16, bnf H g0 g1, h1, if_pos q, bgt k84, q_84_3 P, bni H g0 g1, Nu_smallAt_b H P g0 g1 (by omega) (by omega), hρ z (by omega), es, bst (by rw [k_88 H]) (by omega) (by rw [k_88 H]; show _ < (40 : Int); omega), w32_id (x := (z : Int) + 1) (by omega) (by omega)]
      exact kq kk v3
    · refine ⟨V, fun _ _ _ => rfl, fun k hk => A k (by omega), fun kk v3 => ?_⟩
      rw [Ct_prepare_L16, bnf H g0 g1, h1, if_neg q]
theorem prep_ok (X : Cx sh V S D) (hc : V 84 7 = c) (g0 : 0 ≤ w) (g1 : w < 4) (hM : M ≤ 40) (hN : N ≤ 40) (h1 : V (93 + 2 * w) 1 = M) (hρ : ∀ k : Nat, k < M → V (94 + 2 * w) k = ρ k) (hs : isSl S ρ M) : ∃ V', Ct_prepare 84 2 (93 + 2 * w) N (sh, V) = some (0, (sh, V')) ∧ KF V V' ∧ (V' 84 5 = M ∧ V' 84 6 = 0 ∧ V' 84 7 = c) ∧ (∀ k : Nat, k < M → V' 88 k = ρ k) ∧ Ib V' S c (N / 2 + 1) Fl Fl := by
  have H := X.1
  have k84 : (kS sh 84).1 = 0 := by rw [k_84 H]
  have h7 := (Cx_rng X).2.2.2.1
  have F1 : KF V (upV (upV V 84 6 0) 84 5 M) := KF_up (KF_up KF_refl (by omega)) (by omega)
  have X1 := KF_Cx X F1
  obtain ⟨V1, f1, a1, k1⟩ := pr_16 (S := S) g0 g1 hM hs h7 FU 0 _ X1 (by rw [up_row (by omega), up_row (by omega)]; exact h1) (fun k hk => by rw [up_row (by omega), up_row (by omega)]; exact hρ k hk) (by omega) (by show _ < 1000000; omega) (fun k hk => by omega)
  have F2 : KF (upV (upV V 84 6 0) 84 5 M) V1 := fun a j a1 _ => f1 a j (by omega)
  have X2 := KF_Cx X1 F2
  have c1 : V1 84 7 = c := by rw [f1 _ _ (by decide), up_col (by decide), up_col (by decide)]; exact hc
  obtain ⟨V2, f2, i2, k2⟩ := p47 (S := S) (c := c) hN FU 0 V1 X2 c1 (by omega) (by show _ < 1000000; omega) (fun p hp => ⟨fun j hj => by omega, fun g => g.elim, fun g => g.elim⟩)
  refine ⟨V2, ?_, KF_trans F1 (KF_trans F2 (KF_CF f2)), ⟨?_, ?_, ?_⟩, fun k hk => by rw [f2 _ _ (by decide) (by decide) (by decide)]; exact a1 k hk, i2⟩
  · unfold Ct_prepare
    rw [show ((0 : Nat) : Int) = 0 from rfl] at k1 k2
    rw [bpt k84, bnf H g0 g1, up_row (by omega), h1, bpt k84, k1, k2]
  · rw [f2 _ _ (by decide) (by decide) (by decide), f1 _ _ (by decide), up_eq]
  · rw [f2 _ _ (by decide) (by decide) (by decide), f1 _ _ (by decide), up_col (by decide), up_eq]
  · rw [f2 _ _ (by decide) (by decide) (by decide)]; exact c1
/-- the numbers of the row as darts -/
abbrev dN (ρ : Nat → Int) : Nat → Nat := fun k => (ρ k).toNat
theorem dN_i (hs : isSl S ρ M) (hk : h < M) : ((dN ρ h : Nat) : Int) = ρ h := by have := hs h hk; unfold dN; omega
theorem wyL_0 : wyL f g 0 M 0 = upL g 0 M := rfl
theorem call_ok [inst : ∀ k, Decidable (allO S (dN ρ) k M)] (X : Cx sh V S D) (g0 : 0 ≤ w) (g1 : w < 4) (hM : M ≤ 40) (hN : N ≤ 40) (h1 : V (93 + 2 * w) 1 = M) (hρ : ∀ k : Nat, k < M → V (94 + 2 * w) k = ρ k) (hs : isSl S ρ M) (hz : S 0 ≠ 0) : ∃ V', Ct_countAll 84 2 (93 + 2 * w) N (sh, V) = some (rC 0 (if allO S (dN ρ) 0 M then WS S (S 1) (upL (dN ρ) 0 M) N else 0), (sh, V')) ∧ KF V V' := by
  have H := X.1
  have k84 : (kS sh 84).1 = 0 := by rw [k_84 H]
  have KO := X.2.2.2.1.1
  have hh := KO.2.2.2.2.2.2.2.2.2.2.2.2.1 (by have := KO.1; omega)
  have F0 : KF V (upV V 84 7 0) := KF_up KF_refl (by omega)
  obtain ⟨V1, e1, f1, ⟨q5, q6, q7⟩, a1, i1⟩ := prep_ok (c := 0) (N := N) (KF_Cx X F0) up_eq g0 g1 hM hN (by rw [up_row (by omega)]; exact h1) (fun k hk => by rw [up_row (by omega)]; exact hρ k hk) hs
  have X1 := KF_Cx X (KF_trans F0 f1)
  obtain ⟨V2, e2, f2⟩ := cf_ok (f := fun _ => 0) (w := dN ρ) (s := 0) (H0 := 0) (t := S 1) (st := N) X1 q7 q5 q6 hM (by omega) i1 (by omega) (by omega) hh.1 hh.2 (fun k hk => by omega) (fun k hk => ⟨by rw [a1 k hk, dN_i hs hk], by rw [dN_i hs hk]; exact (hs k hk).2⟩) ⟨by omega, by omega, fun k hk => by omega, fun q => by omega⟩
  refine ⟨V2, ?_, KF_trans F0 (KF_trans f1 (KF_87 f2))⟩
  unfold Ct_countAll
  rw [bpt k84, bit k84, e1, bd2_mk, b20 X1, b31 X1, bit k84, e2, bd2_mk, wyL_0]
  generalize (if allO S (dN ρ) 0 M then WS S (S 1) (upL (dN ρ) 0 M) N else 0) = y
  have : rC 0 y < 1000000007 := by unfold rC rhoN; rw [if_pos rfl]; have := Nat.mod_lt y (by decide : 0 < 1000000007); omega
  rw [w32_id (by unfold rC; omega) (by omega)]
theorem cb_13 (H : Sh sh) (P : PM V) (h3 : 0 ≤ S 7) (h4 : S 7 ≤ 24) (g0 : 0 ≤ w) (g1 : w < 4) (hM : M ≤ 40) (hw : V 129 w = M) (hρ : ∀ k : Nat, k < M → V 130 (40 * w + k) = ρ k) (hs : isSl S ρ M) [inst : ∀ k, Decidable (allO S (dN ρ) k M)] : ∀ (n z : Nat), z ≤ M → M - z < n → M_canBeLeft_L13 n 101 w z (sh, setR V 102 S) = some (if allO S (dN ρ) z M then 1 else 0, (sh, setR V 102 S)) := by
  intro n
  induction n with
  | zero => intro z _ h; omega
  | succ n ih =>
    intro z hz hn
    rw [M_canBeLeft_L13, bg101 H, q_101_50 P, ml129 H g0 g1, hw]
    by_cases q : (z : Int) < M
    · obtain ⟨s1, s2⟩ := hs z (by omega)
      have ed : ρ z / 2 = ((dN ρ z / 2 : Nat) : Int) := by unfold dN; omega
      rw [if_pos q, bg101 H, q_101_51 P, w32_id (x := 40 * w) (by omega) (by omega), w32_id (x := 40 * w + z) (by omega) (by omega), ml130 H (by omega) (by omega), hρ z (by omega), w32_id (x := ρ z) (by omega) (by omega), bdiv s1 (by omega) (by decide) (by decide), bi101 H, M_isOpen_b H P (by omega) (by omega), ed]
      by_cases o : S (128 + ((dN ρ z / 2 : Nat) : Int)) = 0
      · rw [B_t o, if_neg (by decide), w32_id (by omega) (by omega)]
        have := ih (z + 1) (by omega) (by omega)
        rw [show ((z + 1 : Nat) : Int) = (z : Int) + 1 by omega] at this
        rw [this]
        apply some_c
        by_cases al : allO S (dN ρ) (z + 1) M
        · have al' : allO S (dN ρ) z M := fun j j0 j1 => by
            by_cases e : j = z
            · rw [e]; exact o
            · exact al j (by omega) j1
          rw [if_pos al, if_pos al']
        · have al' : ¬ allO S (dN ρ) z M := fun y => al (fun j j0 j1 => y j (by omega) j1)
          rw [if_neg al, if_neg al']
      · have al' : ¬ allO S (dN ρ) z M := fun y => o (y z (by omega) (by omega))
        rw [B_f o, if_pos rfl, if_neg al']
    · have al' : allO S (dN ρ) z M := fun j j0 j1 => by omega
      rw [if_neg q, if_pos al']
theorem cb_x (H : Sh sh) (P : PM V) (h3 : 0 ≤ S 7) (h4 : S 7 ≤ 24) (g0 : 0 ≤ w) (g1 : w < 4) (hM : M ≤ 40) (hw : V 129 w = M) (hρ : ∀ k : Nat, k < M → V 130 (40 * w + k) = ρ k) (hs : isSl S ρ M) [inst : ∀ k, Decidable (allO S (dN ρ) k M)] : M_canBeLeft 101 w (sh, setR V 102 S) = some (if fgF S ρ M 0 (S 1) (-1) = -1 ∧ allO S (dN ρ) 0 M then 1 else 0, (sh, setR V 102 S)) := by
  unfold M_canBeLeft
  rw [bi101 H, M_firstForged_x H P h3 h4 g0 g1 hM hw hρ hs, bd2_mk]
  by_cases q : fgF S ρ M 0 (S 1) (-1) = -1
  · rw [if_pos q]
    have := cb_13 (S := S) H P h3 h4 g0 g1 hM hw hρ hs FU 0 (by omega) (by show _ < 1000000; omega)
    rw [show ((0 : Nat) : Int) = 0 from rfl] at this
    rw [this]
    apply some_c
    by_cases al : allO S (dN ρ) 0 M
    · rw [if_pos al, if_pos ⟨q, al⟩]
    · rw [if_neg al, if_neg (fun y => al y.2)]
  · rw [if_neg q, if_neg (fun y => q y.1)]
theorem WL_upL : ∀ (n k : Nat), (∀ i : Nat, k ≤ i → i < k + n → V 118 i = g i ∧ (g i : Int) < 2 * S 7) → WL V S k (upL g k n) := by
  intro n
  induction n with
  | zero => intro k _; trivial
  | succ n ih => intro k h; exact ⟨(h k (by omega) (by omega)).1, (h k (by omega) (by omega)).2, ih (k + 1) (fun i i0 i1 => h i (by omega) (by omega))⟩
theorem jn_110 (H : Sh sh) (g0 : 0 ≤ w) (g1 : w < 4) (hM : M ≤ 40) (hs : isSl S ρ M) (h7 : S 7 ≤ 24) : ∀ (n z : Nat) (V : Int → Int → Int), PM V → V 101 38 = M → (∀ k : Nat, k < M → V 130 (40 * w + k) = ρ k) → z ≤ M → M - z < n → (∀ k : Nat, k < z → V 118 k = ρ k) → ∃ V', (∀ a j, a ≠ 118 → V' a j = V a j) ∧ (∀ k : Nat, k < M → V' 118 k = ρ k) ∧ ∀ kk v2, M_journeys_L110 kk n 101 w v2 z (sh, setR V 102 S) = kk 101 v2 (sh, setR V' 102 S) := by
  intro n
  induction n with
  | zero => intro z _ _ _ _ _ h; omega
  | succ n ih =>
    intro z V P h38 hρ hz hn A
    by_cases q : (z : Int) < M
    · obtain ⟨s1, s2⟩ := hs z (by omega)
      have F : FM V (upV V 118 z (ρ z)) := FM_up FM_refl (Or.inr (by omega))
      obtain ⟨V', f, a', kq⟩ := ih (z + 1) _ (PM_fm P F) (by rw [up_row (by decide)]; exact h38) (fun k hk => by rw [up_row (by decide)]; exact hρ k hk) (by omega) (by omega) (fun k hk => by
        by_cases e : k = z
        · rw [e, up_eq]
        · rw [up_col (by omega)]; exact A k (by omega))
      refine ⟨V', fun a j ha => by rw [f a j ha, up_row ha], a', fun kk v2 => ?_⟩
      rw [M_journeys_L110, bg101 H, h38, if_pos q, bg101 H, q_101_37 P, bg101 H, q_101_51 P, w32_id (x := 40 * w) (by omega) (by omega), w32_id (x := 40 * w + z) (by omega) (by omega), ml130 H (by omega) (by omega), hρ z (by omega), w32_id (x := ρ z) (by omega) (by omega), ms118 H (by omega) (by omega), w32_id (x := (z : Int) + 1) (by omega) (by omega)]
      exact kq kk v2
    · refine ⟨V, fun _ _ _ => rfl, fun k hk => A k (by omega), fun kk v2 => ?_⟩
      rw [M_journeys_L110, bg101 H, h38, if_neg q]
theorem rs_journeys (X : Cx sh V S D) (hP : WPt V) (P : PM V2) (hR : RW V V2) : RS sh V V2 S (T_journeys 0 w nn (sh, V)) (M_journeys 101 w nn (sh, setR V2 102 S)) := by
  have P1 := PM0 P
  have H := X.1
  have PT := X.2.1
  have KO := X.2.2.2.1.1
  obtain ⟨r1, r2, r3, r4, r5, r6, r7⟩ := Cx_rng X
  unfold T_journeys M_journeys
  rw [bp101 H, bit (by rw [k_0 H]), M_within_b]
  by_cases h : 0 ≤ w ∧ w < 4
  · rw [B_t (by omega : 0 ≤ w ∧ w ≤ 3), if_neg (c := (1 : Int) = 0) (by decide), bg101 H, blp P1 H (by decide) (by decide)]
    by_cases hz : S 0 = 0
    · rw [T_slipsRefusal_0 X h hz, bd2_mk, if_neg (by decide), if_pos hz]; exact RS_same PT hP _
    · rw [if_neg hz, bg101 H, q_101_49 P1, ml128 H h.1 h.2, up_row (by decide)]
      rcases rw_row hR h.1 h.2 with ⟨e1, e2⟩ | ⟨e1, e2, N, hN, e3, e4, e5⟩
      · rw [T_slipsRefusal_m X h hz e2, bd2_mk, if_neg (by decide), if_pos e1]; exact RS_same PT hP _
      · generalize hρ : (fun z : Nat => V2 130 (40 * w + z)) = ρ at e5
        have e4' : upV V2 101 0 0 129 w = N := by rw [up_row (by decide)]; exact e4
        have e6 : ∀ k : Nat, k < N → upV V2 101 0 0 130 (40 * w + k) = ρ k := fun k _ => by rw [up_row (by decide), ← hρ]
        rw [if_neg e1, bi101 H]
        rcases T_slipsRefusal_x (ρ := ρ) X h.1 h.2 hz e2 hN e3 e5 with ⟨a1, a2⟩ | ⟨a1, a2⟩
        · rcases M_isSlips_x (S := S) (ρ := ρ) H P1 r3 r4 h.1 h.2 hN e4' e6 with ⟨b1, b2⟩ | ⟨b1, b2⟩
          · rw [a2, b2, bd2_mk, bd2_mk, if_pos (c := (0 : Int) = 0) rfl, if_neg (c := (1 : Int) = 0) (by decide), M_within_b]
            by_cases hn : 0 ≤ nn ∧ nn ≤ 40
            · rw [B_t hn, if_neg (c := (1 : Int) = 0) (by decide), if_neg (by omega), if_neg (by omega), b06 X, b36w H PT h.1 h.2, bit (by rw [k_0 H]), T_forgedPlace_x X h.1 h.2 hN e3 e5 a1, bd2_mk, bi101 H]
              have inst : ∀ k, Decidable (allO S (dN ρ) k N) := fun k => Classical.propDecidable _
              rw [cb_x (S := S) H P1 r3 r4 h.1 h.2 hN e4' e6 a1, bd2_mk]
              by_cases fg : fgF S ρ N 0 (S 1) (-1) = -1
              · rw [if_pos fg]
                obtain ⟨n, rfl⟩ : ∃ n : Nat, nn = n := ⟨nn.toNat, by omega⟩
                obtain ⟨V1, u1, u2⟩ := call_ok (N := n) X h.1 h.2 hN (by omega) e3 e5 a1 hz
                rw [bgt (by rw [k_0 H]), q_0_14 PT, b04 X, b06 X, b36w H PT h.1 h.2, bit (by rw [k_84 H]), u1, bd2_mk]
                have fin : ∀ y W, FM V2 W → RS sh V V2 S (some (y, (sh, V1))) (some (y, (sh, setR W 102 S))) := fun y W hW => ⟨y, V1, W, rfl, rfl, KF_SF u2, KF_Pt u2 PT, KF_WPt u2 hP, hW⟩
                by_cases al : allO S (dN ρ) 0 N
                · rw [if_pos (c := fgF S ρ N 0 (S 1) (-1) = -1 ∧ allO S (dN ρ) 0 N) ⟨fg, al⟩, if_neg (c := (1 : Int) = 0) (by decide), if_pos (c := allO S (dN ρ) 0 N) al, bg101 H, q_101_50 P1, ml129 H h.1 h.2, e4']
                  by_cases hl : (n : Int) < N
                  · rw [if_pos hl, WS_neg (by rw [upL_len]; omega), rC_0]; exact fin _ _ FM0
                  · rw [if_neg hl, bp101 H, bi101 H]
                    have Fa : FM V2 (upV (upV V2 101 0 0) 101 36 0) := FM_up FM0 (by unfold MSc; omega)
                    have Pa := PM_fm P Fa
                    obtain ⟨Va, f1, t1, k1⟩ := lr_ok (S := S) (c := 0) (N := n) H KO Pa up_eq (by omega)
                    have Pb := MR_PM f1 Pa
                    have m129 : ∀ j, Va 129 j = V2 129 j := fun j => by rw [f1 _ _ (by decide) (by decide) (by decide), up_row (by decide), up_row (by decide)]
                    have Fb : FM Va (upV Va 101 38 N) := FM_up FM_refl (by unfold MSc; omega)
                    have Pc := PM_fm Pb Fb
                    obtain ⟨Vb, f2, a3, k2⟩ := jn_110 (S := S) (ρ := ρ) H h.1 h.2 hN a1 r4 FU 0 (upV Va 101 38 N) Pc up_eq (fun k hk => by rw [up_row (by decide), f1 _ _ (by decide) (by decide) (by decide), up_row (by decide)]; exact e6 k hk) (by omega) (by show _ < 1000000; omega) (fun k hk => by omega)
                    have Fc : FM (upV Va 101 38 N) Vb := fun a j q => f2 a j (fun e => q (Or.inr (by omega)))
                    have Pd := PM_fm Pc Fc
                    have Td : TR Vb S 0 (n + 1) := fun d hd j hj => by rw [f2 _ _ (by decide), up_row (by decide)]; exact t1 d hd j hj
                    obtain ⟨Vc, f3, t3, k3⟩ := wb_ok (S := S) (c := 0) (t := S 1) (N := n) (L := n + 1) (ws := upL (dN ρ) 0 N) H KO Pd (by rw [f2 _ _ (by decide), up_col (by decide), f1 _ _ (by decide) (by decide) (by decide), up_eq]) (by omega) (by omega) Td (by rw [upL_len]; omega) (by rw [upL_len, f2 _ _ (by decide), up_eq]) (WL_upL N 0 (fun i i0 i1 => ⟨by rw [a3 i (by omega), dN_i a1 (by omega)], by rw [dN_i a1 (by omega)]; exact (a1 i (by omega)).2⟩))
                    rw [show ((0 : Nat) : Int) = 0 from rfl] at k2
                    rw [k1, bd2_mk, bg101 H, q_101_50 Pb, ml129 H h.1 h.2, m129, e4, bp101 H, k2, bg101 H, blp Pd H (by decide) (by decide), bi101 H, k3, bd2_mk]
                    have ew : w32 (rM 0 (WS S (S 1) (upL (dN ρ) 0 N) n)) = rC 0 (WS S (S 1) (upL (dN ρ) 0 N) n) := by
                      generalize WS S (S 1) (upL (dN ρ) 0 N) n = y
                      unfold rC rM rhoN
                      rw [if_pos rfl, if_pos rfl]
                      have := Nat.mod_lt y (by decide : 0 < 1000000007)
                      exact w32_id (by omega) (by omega)
                    rw [ew]
                    exact fin _ _ (FM_trans Fa (FM_trans (MR_FM f1) (FM_trans Fb (FM_trans Fc (MR_FM f3)))))
                · rw [if_neg (c := fgF S ρ N 0 (S 1) (-1) = -1 ∧ allO S (dN ρ) 0 N) (fun y => al y.2), if_pos (c := (0 : Int) = 0) rfl, if_neg (c := allO S (dN ρ) 0 N) al, rC_0]; exact fin _ _ FM0
              · rw [if_neg fg, if_neg (c := fgF S ρ N 0 (S 1) (-1) = -1 ∧ allO S (dN ρ) 0 N) (fun y => fg y.1), if_pos (c := (0 : Int) = 0) rfl]; exact RS_same PT hP _
            · rw [B_f hn, if_pos (c := (0 : Int) = 0) rfl]
              by_cases hn0 : nn < 0
              · rw [if_pos hn0]; exact RS_same PT hP _
              · rw [if_neg hn0, if_pos (by omega)]; exact RS_same PT hP _
          · exact absurd a1 b1
        · rcases M_isSlips_x (S := S) (ρ := ρ) H P1 r3 r4 h.1 h.2 hN e4' e6 with ⟨b1, b2⟩ | ⟨b1, b2⟩
          · exact absurd b1 a1
          · rw [a2, b2, bd2_mk, bd2_mk, if_neg (by decide), if_pos rfl]; exact RS_same PT hP _
  · rw [T_slipsRefusal_no X h, bd2_mk, if_neg (by decide), B_f (by omega : ¬ (0 ≤ w ∧ w ≤ 3)), if_pos rfl]; exact RS_same PT hP _
end JNS
