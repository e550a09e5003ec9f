/-! PURE: feed, kingdom, image, restore between two calls -/
section CALLS1
variable {sh sh' : List (Nat × Nat)} {V V' V1 V2 W W' : Int → Int → Int} {S S' R : Int → Int} {D D' E E' a b c d e i j k x y w : Int} {f g : Mem → Option (Int × Mem)}
theorem INV_mk (P2 : PM V) (b15 : V 101 15 = 1) (X1 : Cx sh V1 S' D') (w1 : WPt V1) (hl : ∀ a j, a < 101 → W a j = V1 a j) (hS : W 102 = S') (hm : ∀ j, ¬ MSc 101 j → j ≠ 5 → j ≠ 13 → j ≠ 14 → W 101 j = V 101 j) (r : RW W W) (ta : TA W W) (im : IMr sh W W S' D') (ft : W 0 2 = W 101 13 ∧ W 0 3 = W 101 14) (hp : PO S' E') (pi : POI W S' E') : INV sh W D' E' := by
  have hx : ∀ q ∈ ptM, q.1 = 101 ∧ ¬ MSc 101 q.2.1 ∧ q.2.1 ≠ 5 ∧ q.2.1 ≠ 13 ∧ q.2.1 ≠ 14 := by unfold MSc; decide
  unfold INV
  rw [hS]
  refine ⟨Cx_new X1 hl, ⟨fun q hq => ?_, by rw [hm _ (by unfold MSc; decide) (by decide) (by decide) (by decide)]; exact b15⟩, WPt_new w1 (fun a j h0 h1 => hl a j (by omega)), r, ta, im, ft, hp, pi⟩
  obtain ⟨q1, q2, q3, q4, q5⟩ := hx q hq
  have := P2 q hq
  rw [q1] at this ⊢
  rw [hm _ q2 q3 q4 q5]; exact this
theorem call_feed (I : INV sh V D E) (hD : D < 1800000000) (ra : R32 a) (rb : R32 b) (rc : R32 c) (rd : R32 d) (re : R32 e) : OneC sh V D E (fun μ => T_feed 0 a b c d e μ) (fun μ => M_feed 101 a b c d e μ) := by
  obtain ⟨X, ⟨P2, b15⟩, wp, R, T, IM, ⟨f1, f2⟩, po, pi⟩ := I
  have h := fun (V2 : Int → Int → Int) (r : Rel V V2) => rf_feed (S := V 102) X.1 X.2.1 (Rel_PM r P2) (Rel_TA r T) ra rb rc rd re
  obtain ⟨y, V1, -, h1, -, -, p1, s1, s0, -⟩ := h V Rel_refl
  have r : Rel V V1 := fun a j a0 a1 => s1 a j (by omega)
  obtain ⟨y', V1', V2', h1', h2', ta, -, -, -, fm⟩ := h V1 r
  rw [h1] at h1'
  cases h1'
  rw [Rel_102 r] at h2'
  have hl : ∀ a j, (a < 101 ∨ 131 ≤ a) → setR V2' 102 (V 102) a j = V1 a j := fun a j h => by
    rw [setR_ne (by omega)]; exact fm a j (fun z => by have := MSc_rng z; omega) (by omega) (by omega)
  have hm : ∀ a j, 101 ≤ a → a < 131 → a ≠ 102 → ¬ MSc a j → a ≠ 104 → ¬ (a = 101 ∧ j = 5) → setR V2' 102 (V 102) a j = V a j := fun a j h0 h1 h2 h3 h4 h5 => by
    rw [setR_ne h2, fm a j h3 h4 h5]; exact r a j h0 (by omega)
  have fl : ∀ a j, (2 ≤ a ∧ a < 101) ∨ 131 ≤ a → setR V2' 102 (V 102) a j = V a j := fun a j h => (hl a j (by omega)).trans (s1 a j (by omega))
  have h103 : ∀ j, setR V2' 102 (V 102) 103 j = V 103 j := fun j => hm _ _ (by decide) (by decide) (by decide) (by unfold MSc; omega) (by decide) (by omega)
  refine ⟨y, sh, V1, _, h1, h2', INV_mk P2 b15 (Cx_mono (Cx_mid X (fun a j h0 h1 => s1 a j h0) p1) (by omega) (by omega)) (WPt_new wp (fun a j h0 h1 => s1 a j (by omega))) (fun a j h => hl a j (Or.inl h)) setR_at (fun j h0 h1 h2 h3 => hm _ _ (by decide) (by decide) (by decide) h0 (by decide) (by omega)) (RW_new R (fun a j h => ?_)) ⟨?_, ?_, ?_, fun k k0 k1 => ?_⟩ (IM_new IM (fun j => fl _ _ (by omega)) h103 (fun a j h => fl _ _ (by omega)) (fun _ _ => rfl) (by omega)) ⟨?_, ?_⟩ (PO_mono po (by omega)) (POI_new pi h103 (fun _ _ => rfl) (by omega))⟩
  · rcases h with h | h
    · exact fl a j (by omega)
    · exact hm a j (by omega) (by omega) (by omega) (by unfold MSc; omega) (by omega) (by omega)
  · rw [hl _ _ (by omega), setR_ne (by decide)]; exact ta.1
  · rw [hl _ _ (by omega)]; exact ta.2.1
  · rw [hl _ _ (by omega)]; exact ta.2.2.1
  · rw [hl _ _ (by omega)] at k1
    rw [hl _ _ (by omega), setR_ne (by decide)]; exact ta.2.2.2 k k0 k1
  · rw [hl _ _ (by omega), s0 _ (by decide), hm _ _ (by decide) (by decide) (by decide) (by unfold MSc; decide) (by decide) (by decide)]; exact f1
  · rw [hl _ _ (by omega), s0 _ (by decide), hm _ _ (by decide) (by decide) (by decide) (by unfold MSc; decide) (by decide) (by decide)]; exact f2
theorem call_kingdom (I : INV sh V D E) (hD : D < 1800000000) (hE : 0 ≤ E) : OneC sh V D E (fun μ => T_kingdom 0 a μ) (fun μ => M_kingdom 101 a μ) := by
  obtain ⟨X, ⟨P2, b15⟩, wp, R, T, IM, ⟨f1, f2⟩, po, pi⟩ := I
  have h := fun (V2 : Int → Int → Int) (r : Rel V V2) => rk_kingdom (a := a) X (Rel_PM r P2) (Rel_TA r T) ⟨by rw [r _ _ (by decide) (by decide)]; exact f1, by rw [r _ _ (by decide) (by decide)]; exact f2⟩
  obtain ⟨y, V1, -, -, h1, -, -, -, -, -, -, -, -, -, s1, -⟩ := h V Rel_refl
  have r : Rel V V1 := fun a j a0 a1 => s1 a j (by omega) (by omega) (by omega)
  obtain ⟨y', V1', V2', S', h1', h2', cw, ok, tp, pt, ta, ft, hi, po', -, fm⟩ := h V1 r
  rw [h1] at h1'
  cases h1'
  rw [Rel_102 r] at h2'
  have hl : ∀ a j, (a < 101 ∨ 131 ≤ a) → setR V2' 102 S' a j = V1 a j := fun a j h => by
    rw [setR_ne (by omega)]; exact fm a j (fun z => by have := MSc_rng z; omega) (by omega)
  have hm : ∀ a j, 101 ≤ a → a < 131 → a ≠ 102 → ¬ MSc a j → ¬ (a = 101 ∧ (j = 5 ∨ j = 13 ∨ j = 14)) → setR V2' 102 S' a j = V a j := fun a j h0 h1 h2 h3 h4 => by
    rw [setR_ne h2, fm a j h3 h4]; exact r a j h0 (by omega)
  have fl : ∀ a j, (a = 35 ∨ (44 ≤ a ∧ a < 101) ∨ 131 ≤ a) → setR V2' 102 S' a j = V a j := fun a j h => (hl a j (by omega)).trans (s1 a j (by omega) (by omega) (by omega))
  have h103 : ∀ j, setR V2' 102 S' 103 j = V 103 j := fun j => hm _ _ (by decide) (by decide) (by decide) (by unfold MSc; omega) (by omega)
  refine ⟨y, sh, V1, _, h1, h2', INV_mk P2 b15 ⟨X.1, pt, cw, SOk_mono ok (by omega), tp, by omega⟩ (fun t ht => ?_) (fun a j h => hl a j (Or.inl h)) setR_at (fun j h0 h1 h2 h3 => hm _ _ (by decide) (by decide) (by decide) h0 (by omega)) (RW_new R (fun a j h => ?_)) ⟨?_, ?_, ?_, fun k k0 k1 => ?_⟩ (IM_new IM (fun j => fl _ _ (by omega)) h103 (fun a j h => fl _ _ (by omega)) hi (by omega)) ⟨?_, ?_⟩ (PO_mono (po' E hE po) (by omega)) (POI_new pi h103 hi (by omega))⟩
  · rw [s1 _ _ (by omega) (by omega) (by omega), s1 _ _ (by omega) (by omega) (by omega), s1 _ _ (by omega) (by omega) (by omega)]; exact wp t ht
  · rcases h with h | h
    · exact fl a j (by omega)
    · exact hm a j (by omega) (by omega) (by omega) (by unfold MSc; omega) (by omega)
  · rw [hl _ _ (by omega), setR_ne (by decide)]; exact ta.1
  · rw [hl _ _ (by omega)]; exact ta.2.1
  · rw [hl _ _ (by omega)]; exact ta.2.2.1
  · rw [hl _ _ (by omega)] at k1
    rw [hl _ _ (by omega), setR_ne (by decide)]; exact ta.2.2.2 k k0 k1
  · rw [hl _ _ (by omega), setR_ne (by decide)]; exact ft.1
  · rw [hl _ _ (by omega), setR_ne (by decide)]; exact ft.2
theorem call_restore (I : INV sh V D E) (hD : D < 1800000000) : OneC sh V D E (fun μ => T_restore 0 i μ) (fun μ => M_restore 101 i μ) := by
  have I' := I
  obtain ⟨X, ⟨P2, b15⟩, wp, R, T, IM, ⟨f1, f2⟩, po, pi⟩ := I
  have h := fun (V2 : Int → Int → Int) (r : Rel V V2) => ri_restore (i := i) X.1 X.2.1 X.2.2.2.2.1 X.2.2.1 X.2.2.2.1 (Rel_IM r IM) (Rel_PM r P2)
  obtain ⟨y, V1, -, -, h1, -, -, -, -, -, -, -, s1, -⟩ := h V Rel_refl
  have r : Rel V V1 := fun a j a0 a1 => s1 a j (by omega)
  obtain ⟨y', V1', V2', S', h1', h2', cw, ok, tp, pt, -, hi, -, fm⟩ := h V1 r
  rw [h1] at h1'
  cases h1'
  have hpo : PO S' E := by
    by_cases g : 0 ≤ i ∧ i < 2
    · have hM := M_restore_x (V := V1) (S := V 102) X.1 (Rel_PM r P2) g.1 g.2
      rw [h2'] at hM
      by_cases z : V1 103 i = 0
      · rw [if_pos z] at hM
        simp only [Option.some.injEq, Prod.mk.injEq] at hM
        have e : S' = V 102 := by
          have := congrFun hM.2.2 102
          rw [setR_at, setR_at] at this; exact this
        rw [e]; exact po
      · rw [if_neg z] at hM
        simp only [Option.some.injEq, Prod.mk.injEq] at hM
        have e : S' = cpS (V 102) (1629 * (i + 1)) 0 1629 := by
          have := congrFun hM.2.2 102
          rw [setR_at, setR_at] at this; exact this
        rw [r _ _ (by decide) (by decide)] at z
        rcases IM.1 i g.1 g.2 with ⟨-, q⟩ | ⟨-, -, -, -, q, -, q7⟩
        · exact absurd q z
        · rw [e]
          refine PO_ag (S := rowI (V 102) i) (fun k k0 k1 => ?_) q7.2.2.1 (pi i g.1 g.2 q)
          unfold rowI cpS; rw [if_pos ⟨k0, k1⟩, if_pos (by omega)]; congr 1; omega
    · have hM := M_restore_no (V := V1) (S := V 102) X.1 g
      rw [h2'] at hM
      simp only [Option.some.injEq, Prod.mk.injEq] at hM
      have e : S' = V 102 := by
        have := congrFun hM.2.2 102
        rw [setR_at, setR_at] at this; exact this
      rw [e]; exact po
  rw [Rel_102 r] at h2'
  refine ⟨y, sh, V1, _, h1, h2', INV_keep I' ⟨X.1, pt, cw, SOk_mono ok (by omega), tp, by omega⟩ (WPt_new wp (fun a j h0 h1 => s1 a j (by omega))) (fun a j h => ?_) setR_at (fun a j h => s1 a j (by omega)) (fun a j h0 h1 h2 h3 => ?_) hi (PO_mono hpo (by omega)) (by omega) (by omega)⟩
  · rw [setR_ne (by omega)]; exact fm a j (fun z => by have := MSc_rng z; omega)
  · rw [setR_ne h2, fm a j h3]; exact r a j h0 h1
theorem call_image (I : INV sh V D E) (hD : D < 1800000000) : OneC sh V D E (fun μ => T_image 0 i μ) (fun μ => M_image 101 i μ) := by
  obtain ⟨X, ⟨P2, b15⟩, wp, R, T, IM, ⟨f1, f2⟩, po, pi⟩ := I
  have h := fun (V2 : Int → Int → Int) (r : Rel V V2) => ri_image (i := i) X.1 X.2.1 X.2.2.2.2.1 X.2.2.1 X.2.2.2.1 (Int.le_refl D) (Rel_IM r IM) (Rel_PM r P2)
  obtain ⟨y0, e0, V0, -, -, h0, -, -, -, s0, -⟩ := h V Rel_refl
  have r : Rel V V0 := fun a j a0 a1 => s0 a j (by omega) (by omega)
  obtain ⟨y, e, V1, V2', S', h1, h2', im, ag, s1, fm⟩ := h V0 r
  have eV : V0 = V1 := by
    rw [h0] at h1
    simp only [Option.some.injEq, Prod.mk.injEq] at h1
    exact h1.2.2
  subst eV
  have H' : Sh (sh ++ e) := Sh_more X.1
  have hx : (∀ j, V2' 103 j = 1 → j = i ∨ V 103 j = 1) ∧ ∀ j, 0 ≤ j → j < 2 → PO (rowI (V 102) j) E ∨ V 103 j ≠ 1 → V2' 103 j = 1 → PO (rowI S' j) E := by
    have pj : ∀ j, 0 ≤ j → j < 2 → V 103 j = 1 → PO (rowI (V 102) j) E := pi
    by_cases g : 0 ≤ i ∧ i < 2
    · have hM := M_image_x (V := V0) (S := V 102) H' (Rel_PM r P2) g.1 g.2
      rw [h2'] at hM
      simp only [Option.some.injEq, Prod.mk.injEq] at hM
      have e1 : S' = cpS (V 102) 0 (1629 * (i + 1)) 1629 := by
        have := congrFun hM.2.2 102
        rw [setR_at, setR_at] at this; exact this
      have e2 : ∀ j, V2' 103 j = upV (upV V0 101 0 0) 103 i 1 103 j := fun j => by
        have := congrFun (congrFun hM.2.2 103) j
        rw [setR_ne (by decide), setR_ne (by decide)] at this; exact this
      have e3 : ∀ j, j ≠ i → V2' 103 j = V 103 j := fun j hj => by rw [e2, up_col hj, up_row (by decide)]; exact r _ _ (by decide) (by decide)
      refine ⟨fun j hj => ?_, fun j j0 j1 _ hj => ?_⟩
      · by_cases u : j = i
        · exact Or.inl u
        · rw [e3 j u] at hj; exact Or.inr hj
      · by_cases u : j = i
        · subst u
          rw [e1]
          refine PO_ag (S := V 102) (fun k k0 k1 => ?_) X.2.2.2.1.2.2.1 po
          unfold rowI cpS; rw [if_pos ⟨k0, k1⟩, if_pos (by omega)]; congr 1; omega
        · rw [e3 j u] at hj
          have er : rowI S' j = rowI (V 102) j := by
            rw [e1]
            funext k; unfold rowI cpS
            by_cases q : 0 ≤ k ∧ k < 1629
            · rw [if_pos q, if_pos q, if_neg (by omega)]
            · rw [if_neg q, if_neg q]
          rw [er]; exact pj j j0 j1 hj
    · have hM := M_image_no (V := V0) (S := V 102) H' g
      rw [h2'] at hM
      simp only [Option.some.injEq, Prod.mk.injEq] at hM
      have e1 : S' = V 102 := by
        have := congrFun hM.2.2 102
        rw [setR_at, setR_at] at this; exact this
      have e3 : ∀ j, V2' 103 j = V 103 j := fun j => by
        have := congrFun (congrFun hM.2.2 103) j
        rw [setR_ne (by decide), setR_ne (by decide), up_row (by decide)] at this
        rw [this]; exact r _ _ (by decide) (by decide)
      exact ⟨fun j hj => Or.inr (by rw [e3] at hj; exact hj), fun j j0 j1 _ hj => by rw [e1]; rw [e3] at hj; exact pj j j0 j1 hj⟩
  rw [Rel_102 r] at h2'
  have hl : ∀ a j, (a < 101 ∨ 131 ≤ a) → setR V2' 102 S' a j = V0 a j := fun a j h => by
    rw [setR_ne (by omega)]; exact fm a j (fun z => by have := MSc_rng z; omega) (by omega)
  have hm : ∀ a j, 101 ≤ a → a < 131 → a ≠ 102 → a ≠ 103 → ¬ MSc a j → setR V2' 102 S' a j = V a j := fun a j h0 h1 h2 h3 h4 => by
    rw [setR_ne h2, fm a j h4 h3]; exact r a j h0 (by omega)
  have fl : ∀ a j, a < 101 → a ≠ 35 → setR V2' 102 S' a j = V a j := fun a j h h' => (hl a j (by omega)).trans (s0 a j (by omega) (by omega))
  have X1 : Cx (sh ++ e) V0 (V 102) D := by
    have p1 : Pt V0 := fun q hq => by
      have z : ∀ q ∈ ptC, q.1 < 101 ∧ q.1 ≠ 35 := by decide
      rw [s0 _ _ (by have := z q hq; omega) (by have := z q hq; omega)]; exact X.2.1 q hq
    have X0 : Cx sh V0 (V 102) D := by
      obtain ⟨q1, q2, q3, q4, q5, q6⟩ := X
      obtain ⟨c1, c2, c3, c4, c5, c6⟩ := q3
      have lo : ∀ a j, 2 ≤ a → a < 35 → V0 a j = V a j := fun a j h0 h1 => s0 a j (by omega) (by omega)
      have T' : TP V0 := TP_of q5 (fun i j h0 h1 h2 h3 => lo _ _ (by omega) (by omega))
      refine ⟨q1, p1, ⟨CK_of c1 q4.1.2.2.2.1 (fun _ _ => rfl) (fun a j h0 h1 => lo _ _ (by omega) (by omega)), CM_of c2 q4.1.2.2.2.1 (fun _ _ => rfl) (lo _ _ (by decide) (by decide)), by rw [lo _ _ (by decide) (by decide)]; exact c3, fun i h0 h1 => ?_, fun d h0 h1 => by rw [lo _ _ (by decide) (by decide)]; exact c5 d h0 h1, by rw [lo _ _ (by decide) (by decide)]; exact c6⟩, q4, T', q6⟩
      have o3 := q4.2.2.1
      obtain ⟨p, p0, p1, p2, p3, p4⟩ := q5.1 i h0 (by omega)
      have := c4 i h0 h1
      unfold TD at this ⊢
      simp (disch := omega) only [lo]
      exact this
    exact ⟨H', X0.2⟩
  have XS : Cx (sh ++ e) V0 S' (D + 10000) := by
    refine ⟨H', X1.2.1, ?_, SOk_mono (SOk_ag ag X1.2.2.2.1) (by omega), X1.2.2.2.2.1, by omega⟩
    have O := X1.2.2.2.1
    exact WC_CW (WC_ag ag (CW_WC X1.2.2.1) O.1.2.2.2.1 O.2.2.1 (fun i i0 i1 => (O.2.2.2.1 i i0 i1).2.1))
  have imW : IMr (sh ++ e) (setR V2' 102 S') (setR V2' 102 S') S' (D + 10000) := by
    refine ⟨fun j j0 j1 => ?_, by rw [hl _ _ (by omega), hl _ _ (by omega)]; exact im.2⟩
    have e103 : setR V2' 102 S' 103 j = V2' 103 j := by rw [setR_ne (by decide)]
    rcases im.1 j j0 j1 with ⟨g1, g2⟩ | ⟨g1, g2, g3, g4, g5, g6, g7⟩
    · exact Or.inl ⟨by rw [hl _ _ (by omega)]; exact g1, by rw [e103]; exact g2⟩
    · have fr : ∀ a k, V0 35 j ≤ a → a < V0 35 j + 33 → setR V2' 102 S' a k = V0 a k := fun a k q0 _ => hl a k (by omega)
      refine Or.inr ?_
      rw [hl 35 j (by omega), e103]
      exact ⟨g1, g2, g3, IP_of g4 fr, g5, WC_of g6 g4 g7.2.2.1 fr, SOk_mono g7 (by omega)⟩
  refine ⟨y, sh ++ e, V0, _, h1, h2', INV_mk P2 b15 XS (WPt_new wp (fun a j h0 h1 => ?_)) (fun a j h => hl a j (Or.inl h)) setR_at (fun j h0 h1 h2 h3 => hm _ _ (by decide) (by decide) (by decide) (by decide) h0) (RW_new R (fun a j h => ?_)) (TA_new T (fun a j h => ?_)) imW ⟨?_, ?_⟩ ?_ (fun j j0 j1 hj => ?_)⟩
  · exact s0 a j (by omega) (by omega)
  · rcases h with h | h
    · exact fl a j (by omega) (by omega)
    · exact hm a j (by omega) (by omega) (by omega) (by omega) (by unfold MSc; omega)
  · rcases h with h | h | h | h
    · exact fl a j (by omega) (by omega)
    · exact fl a j (by omega) (by omega)
    · exact hm a j (by omega) (by omega) (by omega) (by omega) (by unfold MSc; omega)
    · exact hm a j (by omega) (by omega) (by omega) (by omega) (by unfold MSc; omega)
  · rw [fl 0 2 (by decide) (by decide), hm 101 13 (by decide) (by decide) (by decide) (by decide) (by unfold MSc; decide)]; exact f1
  · rw [fl 0 3 (by decide) (by decide), hm 101 14 (by decide) (by decide) (by decide) (by decide) (by unfold MSc; decide)]; exact f2
  · exact PO_mono (PO_ag ag X.2.2.2.1.2.2.1 po) (by omega)
  · rw [setR_ne (by decide)] at hj
    refine PO_mono (hx.2 j j0 j1 ?_ hj) (by omega)
    by_cases z : V 103 j = 1
    · exact Or.inl (pi j j0 j1 z)
    · exact Or.inr z
end CALLS1
