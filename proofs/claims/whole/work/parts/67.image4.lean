/-! PURE: image and restore, the calls -/
section IMAGE4
variable {sh sh' : List (Nat × Nat)} {V V' V1 V2 V2' : Int → Int → Int} {r t s c i j k x a b y D D' f p v q h u o z m g w : Int} {S S' R : Int → Int} {n : Nat}
theorem image_J (H : Sh sh) (P : Pt V) (hw : ISh sh w) (pw : IP V w) (T : TP V) (C : CW V S) (O : SOk S D) (hi : 0 ≤ i ∧ i < 2) (h131 : 131 ≤ w) (e : V 35 i = w) : ∃ V1, T_image_J34 0 i (sh, V) = some (0, (sh, V1)) ∧ WC V1 w S ∧ IP V1 w ∧ ∀ a j, (a < w ∨ w + 33 ≤ a) → V1 a j = V a j := by
  obtain ⟨V1, a1, a2, a3, a4⟩ := become_w (w := w) (v := 2) hw (ISh_2 H) pw (IP_2 P T) (by omega) (CW_WC C) O
  refine ⟨V1, ?_, a2, a3, a4⟩
  unfold T_image_J34
  rw [bgt (by rw [k_0 H]), q_0_5 P, blt (by rw [k_35 H]) hi.1 (by rw [k_35 H]; exact hi.2), e, bgt (by rw [k_0 H]), q_0_4 P, bit (by rw [hw.1]), a1, bd2_mk]
theorem T_image_x (H : Sh sh) (P : Pt V) (T : TP V) (C : CW V S) (O : SOk S D) (hi : 0 ≤ i ∧ i < 2) (I : IM1 sh V V2 R D' i) : ∃ e V1 w, T_image 0 i (sh, V) = some (0, (sh ++ e, V1)) ∧ (131 ≤ w ∧ w + 33 ≤ ((sh ++ e).length : Int)) ∧ V1 35 i = w ∧ ISh (sh ++ e) w ∧ IP V1 w ∧ WC V1 w S ∧ (w = V 35 i ∨ w = (sh.length : Int)) ∧ ∀ a j, (a < w ∨ w + 33 ≤ a) → ¬ (a = 35 ∧ j = i) → V1 a j = V a j := by
  have hl := Sh_len H
  have u : T_image 0 i (sh, V) = if V 35 i = -1 then bd2 (Wo_init (nlen (sh, V)) (newc 10 6 (sh, V))) (fun _ μ5 => bd (isk 10 μ5 (nlen (sh, V))) fun _ => bd (sta 25 μ5 35 i (nlen (sh, V))) fun μ6 => T_image_J34 0 i μ6) else T_image_J34 0 i (sh, V) := by
    unfold T_image
    rw [if_neg (by omega), if_pos hi.2, bgt (by rw [k_0 H]), q_0_5 P, blt (by rw [k_35 H]) hi.1 (by rw [k_35 H]; exact hi.2), bgt (by rw [k_0 H]), q_0_5 P]
  rcases I with ⟨i1, -⟩ | ⟨i1, i2, i3, i4, -⟩
  · obtain ⟨W, w1, w2, w3, w4, w5⟩ := Wo_init_ok (sh := sh) (V := V) (nlen (sh, V)) rfl
    rw [nlen_eq] at w1 w2 w3 w4 w5
    have H' : Sh (sh ++ WSH) := Sh_more H
    have hI : ISh (sh ++ WSH) (sh.length : Int) := ISh_new rfl
    have f : ∀ a j, a < (sh.length : Int) → ¬ (a = 35 ∧ j = i) → upV W 35 i (sh.length : Int) a j = V a j := fun a j ha hn => by
      unfold upV; rw [if_neg hn]; exact w5 a j (by omega)
    have P' : Pt (upV W 35 i (sh.length : Int)) := fun q hq => by
      have h1 : ∀ q ∈ ptC, 0 ≤ q.1 ∧ q.1 < 131 ∧ q.1 ≠ 35 := by decide
      have h2 := h1 q hq
      rw [f _ _ (by omega) (by omega)]; exact P q hq
    have IP' : IP (upV W 35 i (sh.length : Int)) (sh.length : Int) := IP_of w2 (fun a j h1 h2 => up_row (by omega))
    have g2 : ∀ a j, 2 ≤ a → a < 35 → upV W 35 i (sh.length : Int) a j = V a j := fun a j h1 h2 => f a j (by omega) (by omega)
    have T' : TP (upV W 35 i (sh.length : Int)) := TP_IP (IP_of (IP_2 P T) (fun a j h1 h2 => g2 a j h1 (by omega)))
    have C' : CW (upV W 35 i (sh.length : Int)) S := WC_CW (WC_of (CW_WC C) (IP_2 P T) O.2.2.1 (fun a j h1 h2 => g2 a j h1 (by omega)))
    obtain ⟨V1, a1, a2, a3, a4⟩ := image_J H' P' hI IP' T' C' O hi (by omega) up_eq
    refine ⟨WSH, V1, (sh.length : Int), ?_, ⟨by omega, by rw [List.length_append]; show _ ≤ ((sh.length + 33 : Nat) : Int); omega⟩, ?_, hI, a3, a2, Or.inr rfl, fun a j ha hn => ?_⟩
    · rw [u, if_pos i1, nlen_eq, w1, bd2_mk, bit (by rw [hI.1]), sta_ok (by rw [k_35 H']) hi.1 (by rw [k_35 H']; exact hi.2), bd_mk, a1]
    · rw [a4 _ _ (by omega)]; exact up_eq
    · rw [a4 _ _ ha]; unfold upV; rw [if_neg hn]; exact w5 a j ha
  · obtain ⟨V1, a1, a2, a3, a4⟩ := image_J H P i3 i4 T C O hi i1 rfl
    refine ⟨[], V1, V 35 i, ?_, ⟨i1, by rw [List.append_nil]; exact i2⟩, ?_, by rw [List.append_nil]; exact i3, a3, a2, Or.inl rfl, fun a j ha hn => a4 a j ha⟩
    · rw [u, if_neg (by omega), a1, List.append_nil]
    · exact a4 _ _ (by omega)
theorem T_image_no (h : ¬ (0 ≤ i ∧ i < 2)) : T_image 0 i (sh, V) = some (-2, (sh, V)) := by
  unfold T_image
  by_cases g : i < 0
  · rw [if_pos g]
  · rw [if_neg g, if_neg (by omega)]
theorem T_restore_no (h : ¬ (0 ≤ i ∧ i < 2)) : T_restore 0 i (sh, V) = some (-2, (sh, V)) := by
  unfold T_restore
  by_cases g : i < 0
  · rw [if_pos g]
  · rw [if_neg g, if_neg (by omega)]
/-- the whole of image: what the loop wants -/
theorem ri_image (H : Sh sh) (P : Pt V) (T : TP V) (C : CW V S) (O : SOk S D) (hD : D ≤ D') (I : IMr sh V V2 S D') (P2 : PM V2) : ∃ y e V1 V2' S', T_image 0 i (sh, V) = some (y, (sh ++ e, V1)) ∧ M_image 101 i (sh ++ e, setR V2 102 S) = some (y, (sh ++ e, setR V2' 102 S')) ∧ IMr (sh ++ e) V1 V2' S' D' ∧ Ag S S' ∧ (∀ a j, a < 131 → ¬ (a = 35 ∧ (j = 0 ∨ j = 1)) → V1 a j = V a j) ∧ ∀ a j, ¬ MSc a j → a ≠ 103 → V2' a j = V2 a j := by
  by_cases hi : 0 ≤ i ∧ i < 2
  · obtain ⟨e, V1, w, a1, a2, a3, a4, a5, a6, a7, a8⟩ := T_image_x H P T C O hi (I.1 i hi.1 hi.2)
    have H' : Sh (sh ++ e) := Sh_more H
    have i35 : ∀ j, j ≠ i → V1 35 j = V 35 j := fun j hj => a8 _ _ (by omega) (by omega)
    have hw : ∀ j, 0 ≤ j → j < 2 → j ≠ i → V 35 j ≠ -1 → w + 33 ≤ V 35 j ∨ V 35 j + 33 ≤ w := fun j j0 j1 hj hn => by
      rcases I.1 j j0 j1 with ⟨g, -⟩ | ⟨g1, g2, -⟩
      · exact absurd g hn
      · rcases a7 with e | e
        · have h1 : V 35 i ≠ -1 := by omega
          have : (i = 0 ∧ j = 1) ∨ (i = 1 ∧ j = 0) := by omega
          rcases this with ⟨e1, e2⟩ | ⟨e1, e2⟩
          · subst e1; subst e2; have := I.2 h1 hn; omega
          · subst e1; subst e2; have := I.2 hn h1; omega
        · omega
    refine ⟨0, e, V1, _, _, a1, M_image_x H' P2 hi.1 hi.2, ⟨fun j j0 j1 => ?_, ?_⟩, fun k k0 k1 => ?_, fun a j h1 h2 => a8 a j (by omega) (by omega), fun a j h1 h2 => ?_⟩
    · by_cases ej : j = i
      · subst ej
        have ag : Ag S (rowI (cpS S 0 (1629 * (j + 1)) 1629) j) := fun k k0 k1 => by
          unfold rowI cpS; rw [if_pos ⟨k0, k1⟩, if_pos (by omega)]; congr 1; omega
        refine Or.inr ?_
        rw [a3]
        refine ⟨a2.1, a2.2, a4, a5, up_eq, WC_ag ag a6 O.1.2.2.2.1 O.2.2.1 (fun i i0 i1 => (O.2.2.2.1 i i0 i1).2.1), SOk_ag ag (SOk_mono O hD)⟩
      · have er : rowI (cpS S 0 (1629 * (i + 1)) 1629) j = rowI S j := by
          funext k; unfold rowI cpS
          by_cases g : 0 ≤ k ∧ k < 1629
          · rw [if_pos g, if_pos g, if_neg (by omega)]
          · rw [if_neg g, if_neg g]
        have e3 : upV (upV V2 101 0 0) 103 i 1 103 j = V2 103 j := by rw [up_col ej, up_row (by decide)]
        rcases I.1 j j0 j1 with ⟨g1, g2⟩ | ⟨g1, g2, g3, g4, g5, g6, g7⟩
        · exact Or.inl ⟨by rw [i35 j ej]; exact g1, by rw [e3]; exact g2⟩
        · have hd := hw j j0 j1 ej (by omega)
          have fr : ∀ a k, V 35 j ≤ a → a < V 35 j + 33 → V1 a k = V a k := fun a k h1 h2 => a8 a k (by omega) (by omega)
          refine Or.inr ?_
          rw [i35 j ej, e3, er]
          exact ⟨g1, by rw [List.length_append]; omega, ISh_more g3 g2, IP_of g4 fr, g5, WC_of g6 g4 g7.2.2.1 fr, g7⟩
    · intro n0 n1
      have : i = 0 ∨ i = 1 := by omega
      rcases this with e0 | e0
      · subst e0
        rw [i35 1 (by decide)] at n1 ⊢
        rw [a3]
        have := hw 1 (by decide) (by decide) (by decide) n1; omega
      · subst e0
        rw [i35 0 (by decide)] at n0 ⊢
        rw [a3]
        have := hw 0 (by decide) (by decide) (by decide) n0; omega
    · unfold cpS; rw [if_neg (by omega)]
    · rw [up_row h2]; exact FM0 a j h1
  · refine ⟨-2, [], V, upV V2 101 0 0, S, ?_, ?_, ?_, fun _ _ _ => rfl, fun _ _ _ _ => rfl, fun a j h1 _ => FM0 a j h1⟩
    · rw [T_image_no hi, List.append_nil]
    · rw [List.append_nil, M_image_no H hi]
    · rw [List.append_nil]
      refine ⟨fun j j0 j1 => ?_, I.2⟩
      have := I.1 j j0 j1
      unfold IM1 at this ⊢
      rw [up_row (by decide)]; exact this
theorem ri_restore (H : Sh sh) (P : Pt V) (T : TP V) (C : CW V S) (O : SOk S D) (I : IMr sh V V2 S D) (P2 : PM V2) : ∃ y V1 V2' S', T_restore 0 i (sh, V) = some (y, (sh, V1)) ∧ M_restore 101 i (sh, setR V2 102 S) = some (y, (sh, setR V2' 102 S')) ∧ CW V1 S' ∧ SOk S' D ∧ TP V1 ∧ Pt V1 ∧ IMr sh V1 V2' S' D ∧ (∀ k, 1629 ≤ k → S' k = S k) ∧ (∀ a j, (a < 2 ∨ 35 ≤ a) → V1 a j = V a j) ∧ FM V2 V2' := by
  have IM0 : IMr sh V (upV V2 101 0 0) S D := by
    refine ⟨fun j j0 j1 => ?_, I.2⟩
    have := I.1 j j0 j1
    unfold IM1 at this ⊢
    rw [up_row (by decide)]; exact this
  by_cases hi : 0 ≤ i ∧ i < 2
  · have hM := M_restore_x (V := V2) (S := S) H P2 hi.1 hi.2
    have u : T_restore 0 i (sh, V) = if V 35 i = -1 then some (-5, (sh, V)) else bd2 (Wo_become 2 (V 35 i) (sh, V)) (fun _ μ7 => some (0, μ7)) := by
      unfold T_restore
      rw [if_neg (by omega), if_pos hi.2, bgt (by rw [k_0 H]), q_0_5 P, blt (by rw [k_35 H]) hi.1 (by rw [k_35 H]; exact hi.2), bgt (by rw [k_0 H]), q_0_4 P, bgt (by rw [k_0 H]), q_0_5 P, blt (by rw [k_35 H]) hi.1 (by rw [k_35 H]; exact hi.2), bit (by rw [k_2 H])]
    rcases I.1 i hi.1 hi.2 with ⟨g1, g2⟩ | ⟨g1, g2, g3, g4, g5, g6, g7⟩
    · rw [if_pos g2] at hM
      rw [if_pos g1] at u
      exact ⟨-5, V, _, S, u, hM, C, O, T, P, IM0, fun _ _ => rfl, fun _ _ _ => rfl, FM0⟩
    · rw [if_neg (by omega)] at hM
      rw [if_neg (by omega)] at u
      obtain ⟨V1, a1, a2, a3, a4⟩ := become_w (w := 2) (v := V 35 i) (ISh_2 H) g3 (IP_2 P T) g4 (by omega) g6 g7
      have ag : Ag (rowI S i) (cpS S (1629 * (i + 1)) 0 1629) := fun k k0 k1 => by
        unfold rowI cpS; rw [if_pos ⟨k0, k1⟩, if_pos (by omega)]; congr 1; omega
      have hi' : ∀ k, 1629 ≤ k → cpS S (1629 * (i + 1)) 0 1629 k = S k := fun k hk => by unfold cpS; rw [if_neg (by omega)]
      have f : ∀ a j, (a < 2 ∨ 35 ≤ a) → V1 a j = V a j := fun a j ha => a4 a j (by omega)
      refine ⟨0, V1, _, _, by rw [u, a1, bd2_mk], hM, WC_CW (WC_ag ag a2 g7.1.2.2.2.1 g7.2.2.1 (fun i i0 i1 => (g7.2.2.2.1 i i0 i1).2.1)), SOk_ag ag g7, TP_IP a3, fun q hq => ?_, ⟨fun j j0 j1 => ?_, ?_⟩, hi', f, FM0⟩
      · have h1 : ∀ q ∈ ptC, (q.1 < 2 ∨ 35 ≤ q.1) ∨ (q.1 = 2 ∧ (q.2.1 = 0 ∨ q.2.1 = 1 ∨ q.2.1 = 2)) ∨ (q.1 = 3 ∧ 8 ≤ q.2.1 ∧ q.2.1 ≤ 12) ∨ (q.1 = 9 ∧ 0 ≤ q.2.1 ∧ q.2.1 < 6) := by decide
        have hv := P q hq
        have p2 := IP_2 P T
        rcases h1 q hq with g | ⟨e1, e2⟩ | ⟨e1, e2, e3⟩ | ⟨e1, e2, e3⟩
        · rw [f _ _ g]; exact hv
        · rw [← hv, e1]
          rcases e2 with e2 | e2 | e2
          · rw [e2, a3.1, p2.1]
          · rw [e2, a3.2.1, p2.2.1]
          · rw [e2, a3.2.2.1, p2.2.2.1]
        · rw [← hv, e1]
          have b1 := a3.2.2.2.1 (q.2.1 - 8) (by omega) (by omega)
          have b2 := p2.2.2.2.1 (q.2.1 - 8) (by omega) (by omega)
          rw [show (8 : Int) + (q.2.1 - 8) = q.2.1 by omega] at b1 b2
          exact b1.trans b2.symm
        · rw [← hv, e1]
          exact (a3.2.2.2.2.1 q.2.1 e2 e3).trans (p2.2.2.2.2.1 q.2.1 e2 e3).symm
      · have er := rowI_same hi' j0
        have e35 := f 35 j (by omega)
        have hj := IM0.1 j j0 j1
        unfold IM1 at hj ⊢
        rw [e35, er]
        rcases hj with g | ⟨g1, g2, g3, g4, g5, g6, g7⟩
        · exact Or.inl g
        · have fr : ∀ a k, V 35 j ≤ a → a < V 35 j + 33 → V1 a k = V a k := fun a k h1 h2 => f a k (by omega)
          exact Or.inr ⟨g1, g2, g3, IP_of g4 fr, g5, WC_of g6 g4 g7.2.2.1 fr, g7⟩
      · rw [f 35 0 (by omega), f 35 1 (by omega)]; exact I.2
  · exact ⟨-2, V, _, S, T_restore_no hi, M_restore_no H hi, C, O, T, P, IM0, fun _ _ => rfl, fun _ _ _ => rfl, FM0⟩
end IMAGE4
