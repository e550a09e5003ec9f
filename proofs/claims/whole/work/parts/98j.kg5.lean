/-! PURE: kingdom; roads -/
section KG5
variable {sh : List (Nat × Nat)} {V V' V1 V2 W W' W1 W2 : Int → Int → Int} {S R : Int → Int} {τ : Nat → Int} {N p q n : Nat} {lo hi lo' hi' a a' : Int}
theorem cb_ok (H : Sh sh) {y : Int} : ∃ V2, (∀ F : Mem → Option (Int × Mem), bd (if y = a then bd (isk 3 (sh, V1) 37) fun _ => bd2 (Rd_blame 37 3 (sh, V1)) fun _ μ23 => some μ23 else some ((sh, V1) : Mem)) F = F (sh, V2)) ∧ FA V1 V2 ∧ V2 37 6 = V1 37 6 ∧ (V1 37 1 ≠ 0 → V2 37 1 = V1 37 1 ∧ V2 37 2 = V1 37 2) ∧ (V1 37 1 = 0 → (y = a → V2 37 1 = 3 ∧ V2 37 2 = V1 37 5) ∧ (y ≠ a → V2 = V1)) := by
  by_cases e : y = a
  · obtain ⟨V2, b0, b1, b2, b3, b4, b5, b6, b7⟩ := blame_ok (V := V1) (x := 3) H
    refine ⟨V2, fun F => by rw [if_pos e, ri37 H, b7, bd2_mk, bd_mk], b0, b2, fun h => ?_, fun h => ⟨fun _ => ?_, fun z => absurd e z⟩⟩
    · rw [if_neg h] at b5 b6; exact ⟨b5, b6⟩
    · rw [if_pos h] at b5 b6; exact ⟨b5, b6⟩
  · exact ⟨V1, fun F => by rw [if_neg e, bd_mk], FA_refl, rfl, fun _ => ⟨rfl, rfl⟩, fun _ => ⟨fun z => absurd z e, fun _ => rfl⟩⟩
/-- the road's other town -/
theorem other_St (H : Sh sh) (h : KSt V W τ N q) (hl : V 37 1 = 0 → a = a' ∧ hi = w32 (W 105 0 - 1)) : ∃ y y' V' W', (∀ F : Int → Mem → Option (Int × Mem), (bd2 (Rd_expectNumber 37 0 hi (sh, V)) fun x19 μ20 => bd (if x19 = a then bd (isk 3 μ20 37) fun _ => bd2 (Rd_blame 37 3 μ20) fun _ μ23 => some μ23 else some μ20) fun (μ21 : Mem) => F x19 μ21) = F y (sh, V')) ∧ (∀ G : Int → Mem → Option (Int × Mem), (bd2 (M_is 101 10 (sh, setR W 102 S)) fun x19 μ20 => bd (if x19 = 0 then some μ20 else bd (getf 12 10 μ20 101) fun x22 => if x22 = a' then bd (isk 12 μ20 101) fun _ => bd2 (M_fails 101 3 μ20) fun _ μ24 => some μ24 else some μ20) fun (μ21 : Mem) => bd (getf 12 4 μ21 101) fun x25 => bd (lda 20 μ21 x25 0) fun x26 => bd (isk 12 μ21 101) fun _ => bd2 (M_takes 101 0 (w32 (x26 - 1)) μ21) G) = G y' (sh, setR W' 102 S)) ∧ FA V V' ∧ KN W W' ∧ KSt V' W' τ N q ∧ (V' 37 1 = 0 → V 37 1 = 0 ∧ y = y' ∧ 0 ≤ y ∧ y ≤ hi ∧ y ≠ a) ∧ (V 37 1 ≠ 0 → V' 37 1 = V 37 1 ∧ V' 37 2 = V 37 2) := by
  rcases h with ⟨p, hq, C, M, ⟨v1, v2⟩, v6, hp, w11, Q⟩ | ⟨C, M, v1, w11, w12, p, v6, hp⟩
  · obtain ⟨e1, e2⟩ := hl v1
    subst e1; subst e2
    obtain ⟨h3, h4, h5⟩ := tE_le (τ := τ) hp
    have ta := tA_le (τ := τ) hp
    obtain ⟨y, V1, a1, a2, ⟨a3, a3'⟩, a4, a5⟩ := expectNumber_ok (lo := 0) (hi := w32 (W 105 0 - 1)) H C v6 hp
    obtain ⟨V2, b1, b2, b3, b4, b5⟩ := cb_ok (V1 := V1) (y := y) (a := a) H
    obtain ⟨q1, q2, q3, q4⟩ := id Q
    by_cases z : tK τ N p = 10 ∧ tV τ N p = a
    · obtain ⟨W1, f1, f2, f3, f4, f5, f6, f7, f8⟩ := fails_ok (S := S) (x := 3) H w11
      rw [q3, if_neg (by omega)] at f6
      have e3 : V2 37 1 = 3 ∧ V2 37 2 = tA τ N p := by
        rcases a5 v1 with ⟨c1, c2, c3, c4, c5⟩ | ⟨c1, c2, c3⟩
        · have := (b5 c4).1 (by omega)
          exact ⟨this.1, by rw [this.2]; exact a3'⟩
        · have ef : flt (tK τ N p) 10 = 3 := by unfold flt; rw [if_neg (by omega), if_pos ⟨z.1, rfl⟩]
          rw [ef] at c2
          have := b4 (by omega)
          exact ⟨by omega, by omega⟩
      refine ⟨y, W1 101 10, V2, W1, fun F => by rw [a1, bd2_mk, b1], fun G => ?_, FA_trans a2 b2, f1, Or.inr ⟨FA_CRd (FA_trans a2 b2) C, KN_MRd f1 M, by omega, by omega, by omega, tE τ N p, by omega, h4⟩, fun w => by omega, fun w => absurd v1 w⟩
      rw [is_ok H, bd2_mk, B_t ⟨w11, by rw [q3, z.1]; rfl⟩, if_neg (by decide), bg101 H, q4 z.1, if_pos z.2, bi101 H, f8, bd2_mk, bd_mk, fr4 H (KN_MRd f1 M), ml105 H (by decide) (by decide), bi101 H, takes_no H (by omega), bd2_mk]
    · obtain ⟨y', W1, g1, g2, g3⟩ := takes_ok (S := S) (lo := 0) (hi := w32 (W 105 0 - 1)) H M hp w11 Q
      have start : ∀ G : Int → Mem → Option (Int × Mem), (bd2 (M_is 101 10 (sh, setR W 102 S)) fun x19 μ20 => bd (if x19 = 0 then some μ20 else bd (getf 12 10 μ20 101) fun x22 => if x22 = a then bd (isk 12 μ20 101) fun _ => bd2 (M_fails 101 3 μ20) fun _ μ24 => some μ24 else some μ20) fun (μ21 : Mem) => bd (getf 12 4 μ21 101) fun x25 => bd (lda 20 μ21 x25 0) fun x26 => bd (isk 12 μ21 101) fun _ => bd2 (M_takes 101 0 (w32 (x26 - 1)) μ21) G) = G y' (sh, setR W1 102 S) := fun G => by
        rw [is_ok H, bd2_mk]
        by_cases z1 : tK τ N p = 10
        · rw [B_t ⟨w11, by rw [q3, z1]; rfl⟩, if_neg (by decide), bg101 H, q4 z1, if_neg (fun w => z ⟨z1, w⟩), bd_mk, fr4 H M, ml105 H (by decide) (by decide), bi101 H, g1, bd2_mk]
        · rw [B_f (fun w => z1 (by have := w.2; omega)), if_pos rfl, bd_mk, fr4 H M, ml105 H (by decide) (by decide), bi101 H, g1, bd2_mk]
      rcases a5 v1 with ⟨c1, c2, c3, c4, c5⟩ | ⟨c1, c2, c3⟩
      · have eV := (b5 c4).2 (fun w => z ⟨c1, by omega⟩)
        rw [eV] at b1
        rcases g3 with ⟨d1, d2, d3, d4, d5, d6⟩ | ⟨d1, d2, d3⟩
        · exact ⟨y, y', V1, W1, fun F => by rw [a1, bd2_mk, b1], start, a2, g2, Or.inl ⟨tE τ N p, by omega, FA_CRd a2 C, KN_MRd g2 M, ⟨c4, by omega⟩, a3, h4, d5, d6⟩, fun _ => ⟨v1, by omega, by omega, by omega, fun w => z ⟨c1, by omega⟩⟩, fun w => absurd v1 w⟩
        · exact absurd ⟨c1, c2, c3⟩ d1
      · have nz : V1 37 1 ≠ 0 := by rw [c2]; exact flt_nz
        obtain ⟨i1, i2⟩ := b4 nz
        rcases g3 with ⟨d1, d2, d3, d4, d5, d6⟩ | ⟨d1, d2, d3⟩
        · exact absurd ⟨d1, d2, d3⟩ c1
        · exact ⟨y, y', V2, W1, fun F => by rw [a1, bd2_mk, b1], start, FA_trans a2 b2, g2, Or.inr ⟨FA_CRd (FA_trans a2 b2) C, KN_MRd g2 M, by omega, by rw [i1, c2, d2], by rw [i2, c3, d3], tE τ N p, by omega, h4⟩, fun w => by omega, fun w => absurd v1 w⟩
  · obtain ⟨h3, h4, h5⟩ := tE_le (τ := τ) hp
    obtain ⟨y, V1, a1, a2, ⟨a3, a3'⟩, a4, a5⟩ := expectNumber_ok (lo := 0) (hi := hi) H C v6 hp
    obtain ⟨V2, b1, b2, b3, b4, b5⟩ := cb_ok (V1 := V1) (y := y) (a := a) H
    obtain ⟨g1, g2⟩ := a4 v1
    obtain ⟨i1, i2⟩ := b4 (by omega)
    refine ⟨y, W 101 10, V2, W, fun F => by rw [a1, bd2_mk, b1], fun G => ?_, FA_trans a2 b2, KN_refl, Or.inr ⟨FA_CRd (FA_trans a2 b2) C, M, by omega, by omega, by omega, tE τ N p, by omega, h4⟩, fun w => by omega, fun _ => ⟨by omega, by omega⟩⟩
    rw [is_ok H, bd2_mk, B_f (fun w => by have := w.1; omega), if_pos rfl, bd_mk, fr4 H M, ml105 H (by decide) (by decide), bi101 H, takes_no H (by omega), bd2_mk]
/-- the word behind an advance -/
theorem tw_ok (H : Sh sh) (hn : n < 9) (C : CRd V τ N) (h6 : V 37 6 = p) (hp : p ≤ N) {y0 : Int} (h : Rd_expectWord 37 (-2 - (n : Int)) (sh, V) = some (y0, (sh, V'))) (ha : Rd_advance 37 (sh, V) = some (0, (sh, V1))) (F : Mem → Option (Int × Mem)) : (bd (isk 3 (sh, V1) 37) fun _ => bd2 (Rd_isWord 37 (-2 - (n : Int)) (sh, V1)) fun x38 μ39 => bd (if x38 = 0 then bd (isk 3 μ39 37) fun _ => bd2 (Rd_blame 37 2 μ39) fun _ μ42 => some μ42 else some μ39) fun μ40 => F μ40) = F (sh, V') := by
  obtain ⟨Va, F1, Q, a1, a2, a3⟩ := advance_ok H C h6 hp
  rw [ha] at a3
  have e : V1 = Va := by injection a3 with e; injection e with _ e; injection e
  subst e
  obtain ⟨y, y1, y2⟩ := word_ok (n := n) H (FA_CRd F1 C) hp Q hn
  unfold Rd_expectWord at h
  rw [ri37 H, ha, bd2_mk, ri37 H, y1, bd2_mk] at h
  rw [ri37 H, y1, bd2_mk]
  obtain ⟨V2, b0, b1, b2, b3, b4, b5, b6, b7⟩ := blame_ok (V := V1) (x := 2) H
  by_cases z : y = 0
  · rw [if_pos z, ri37 H, b7, bd2_mk] at h
    rw [if_pos z, ri37 H, b7, bd2_mk, bd_mk]
    have e : V2 = V' := by injection h with e; injection e with _ e; injection e
    rw [e]
  · rw [if_neg z] at h
    rw [if_neg z, bd_mk]
    have e : V1 = V' := by injection h with e; injection e with _ e; injection e
    rw [e]
/-- a summer's toll may follow; then the days -/
theorem opt_St (H : Sh sh) (h : KSt V W τ N q) (hl : V 37 1 = 0 → a = a' ∧ 0 ≤ a ∧ a ≤ 999) : ∃ y y' V' W', (∀ F : Int → Mem → Option (Int × Mem), (bd2 (Rd_advance 37 (sh, V)) fun _ μ29 =>
  bd (isk 3 μ29 37) fun _ =>
  bd2 (Rd_isWord 37 (-2 - ((4 : Nat) : Int)) μ29) fun x30 μ31 =>
  bd2 (
      if x30 = 0 then
        some (a, μ31)
      else
        bd (isk 3 μ31 37) fun _ =>
        bd2 (Rd_expectNumber 37 0 999 μ31) fun x34 μ35 =>
        bd (isk 3 μ35 37) fun _ =>
        bd2 (Rd_advance 37 μ35) fun _ μ37 =>
        some (x34, μ37)) fun (y32 : Int) (μ33 : Mem) =>
  bd (isk 3 μ33 37) fun _ =>
  bd2 (Rd_isWord 37 (-2 - ((8 : Nat) : Int)) μ33) fun x38 μ39 =>
  bd (
      if x38 = 0 then
        bd (isk 3 μ39 37) fun _ =>
        bd2 (Rd_blame 37 2 μ39) fun _ μ42 =>
        some μ42
      else
        some μ39) fun (μ40 : Mem) => F y32 μ40) = F y (sh, V')) ∧ (∀ G : Int → Mem → Option (Int × Mem), (bd2 (M_eats 101 4 (sh, setR W 102 S)) fun x33 μ34 =>
    bd2 (
        if x33 = 0 then
          some (a', μ34)
        else
          bd (isk 12 μ34 101) fun _ =>
          bd2 (M_takes 101 0 999 μ34) fun x37 μ38 =>
          some (x37, μ38)) fun (y35 : Int) (μ36 : Mem) =>
    bd (isk 12 μ36 101) fun _ =>
    bd2 (M_must 101 8 μ36) fun _ μ40 => G y35 μ40) = G y' (sh, setR W' 102 S)) ∧ FA V V' ∧ KN W W' ∧ KSt V' W' τ N q ∧ (V' 37 1 = 0 → V 37 1 = 0 ∧ y = y' ∧ 0 ≤ y ∧ y ≤ 999) ∧ (V 37 1 ≠ 0 → V' 37 1 = V 37 1 ∧ V' 37 2 = V 37 2) := by
  have h8 : (8 : Int) = ((8 : Nat) : Int) := rfl
  -- the class with a fault
  have tf : ∀ (V1 : Int → Int → Int) (p1 : Nat), CRd V1 τ N → V1 37 6 = p1 → p1 ≤ N → V1 37 1 ≠ 0 → ∃ y V4, (∀ F : Int → Mem → Option (Int × Mem), (bd2 (bd (isk 3 (sh, V1) 37) fun _ => bd2 (Rd_expectNumber 37 0 999 (sh, V1)) fun x34 μ35 => bd (isk 3 μ35 37) fun _ => bd2 (Rd_advance 37 μ35) fun _ μ37 => some (x34, μ37)) fun (y32 : Int) (μ33 : Mem) =>
      bd (isk 3 μ33 37) fun _ =>
      bd2 (Rd_isWord 37 (-2 - ((8 : Nat) : Int)) μ33) fun x38 μ39 =>
      bd (if x38 = 0 then bd (isk 3 μ39 37) fun _ => bd2 (Rd_blame 37 2 μ39) fun _ μ42 => some μ42 else some μ39) fun (μ40 : Mem) => F y32 μ40) = F y (sh, V4)) ∧ FA V1 V4 ∧ V4 37 1 = V1 37 1 ∧ V4 37 2 = V1 37 2 ∧ ∃ p4 : Nat, V4 37 6 = p4 ∧ p4 ≤ N := fun V1 p1 C1 e6 hp1 nz => by
    obtain ⟨h3, h4, h5⟩ := tE_le (τ := τ) hp1
    obtain ⟨h3', h4', h5'⟩ := tE_le (τ := τ) h4
    obtain ⟨y, V2, a1, a2, ⟨a3, a3'⟩, a4, a5⟩ := expectNumber_ok (lo := 0) (hi := 999) H C1 e6 hp1
    have C2 := FA_CRd a2 C1
    obtain ⟨V3, c1, c2, c3, c4, c5⟩ := advance_ok H C2 a3 h4
    obtain ⟨y0, V4, d1, d2, d3, d4, d5⟩ := expectWord_ok (n := 8) H C2 a3 h4 (by decide)
    obtain ⟨g1, g2⟩ := a4 nz
    obtain ⟨i1, i2⟩ := d4 (by omega)
    refine ⟨y, V4, fun F => ?_, FA_trans a2 d2, by omega, by omega, _, d3, h4'⟩
    rw [ri37 H, a1, bd2_mk, ri37 H, c5, bd2_mk, bd2_mk]
    exact tw_ok H (by decide) C2 a3 h4 d1 c5 (F y)
  rcases id h with ⟨p, hq, C, M, ⟨v1, v2⟩, v6, hp, w11, Q⟩ | ⟨C, M, v1, w11, w12, p, v6, hp⟩
  · obtain ⟨e1, e2, e3⟩ := hl v1
    subst e1
    obtain ⟨h3, h4, h5⟩ := tE_le (τ := τ) hp
    have ta := tA_le (τ := τ) hp
    obtain ⟨V1, F1, Q1, a1, a2, a3⟩ := advance_ok H C v6 hp
    have C1 := FA_CRd F1 C
    obtain ⟨yw, w1, w2⟩ := word_ok (n := 4) H C1 hp Q1 (by decide)
    obtain ⟨q1, q2, q3, q4⟩ := id Q
    by_cases z : tK τ N p = 4
    · rw [if_neg (by omega)] at a1 a2
      have ey : yw = 1 := by rw [w2 (by omega), B_t z]
      obtain ⟨W1, f1, f2, f3, f4, f5⟩ := next_ok (S := S) H M q2 h4
      have s1 : KSt V1 W1 τ N q := Or.inl ⟨tE τ N p, by omega, C1, KN_MRd f1 M, ⟨by omega, by omega⟩, Q1.2.1, h4, by omega, f2⟩
      obtain ⟨u, u', V2, W2, b1, b2, b3, b4, b5, b6, b7⟩ := num_St (S := S) (lo := 0) (hi := 999) (lo' := 0) (hi' := 999) H s1 (fun _ => ⟨rfl, rfl⟩)
      obtain ⟨C2, M2, p2, e6, ep⟩ := St_base b5
      obtain ⟨yy, V3, W3, c1, c2, c3, c4, c5, c6, c7⟩ := word_St (S := S) (n := 8) H b5 (by decide)
      obtain ⟨V4, g1, g2, g3, g4, g5⟩ := advance_ok H C2 e6 ep
      refine ⟨u, u', V3, W3, fun F => ?_, fun G => ?_, FA_trans F1 (FA_trans b3 c3), KN_trans f1 (KN_trans b4 c4), c5, fun hz => ?_, fun w => absurd v1 w⟩
      · rw [a3, bd2_mk, ri37 H, w1, bd2_mk, ey, if_neg (by decide), ri37 H, b1, bd2_mk, ri37 H, g5, bd2_mk, bd2_mk]
        exact tw_ok H (by decide) C2 e6 ep c1 g5 (F u)
      · unfold M_eats
        rw [bi101 H, is_ok H, bd2_mk, B_t ⟨w11, by rw [q3, z]; rfl⟩, if_neg (by decide), bi101 H, f5, bd2_mk, bd2_mk, if_neg (by decide), bi101 H, b2, bd2_mk, bd2_mk, bi101 H, h8, c2, bd2_mk]
      · have := b6 (c6 hz)
        exact ⟨v1, this.2.1, this.2.2.1, this.2.2.2⟩
    · obtain ⟨yy, V3, W3, c1, c2, c3, c4, c5, c6, c7⟩ := word_St (S := S) (n := 8) H h (by decide)
      have ref : ∀ G : Int → Mem → Option (Int × Mem), (bd2 (M_eats 101 4 (sh, setR W 102 S)) fun x33 μ34 =>
          bd2 (if x33 = 0 then some (a, μ34) else bd (isk 12 μ34 101) fun _ => bd2 (M_takes 101 0 999 μ34) fun x37 μ38 => some (x37, μ38)) fun (y35 : Int) (μ36 : Mem) =>
          bd (isk 12 μ36 101) fun _ => bd2 (M_must 101 8 μ36) fun _ μ40 => G y35 μ40) = G a (sh, setR W3 102 S) := fun G => by
        unfold M_eats
        rw [bi101 H, is_ok H, bd2_mk, B_f (fun w => z (by have := w.2; omega)), if_pos rfl, bd2_mk, if_pos rfl, bd2_mk, bi101 H, h8, c2, bd2_mk]
      by_cases y0 : yw = 0
      · refine ⟨a, a, V3, W3, fun F => ?_, ref, c3, c4, c5, fun hz => ⟨v1, rfl, e2, e3⟩, fun w => absurd v1 w⟩
        rw [a3, bd2_mk, ri37 H, w1, bd2_mk, if_pos y0, bd2_mk]
        exact tw_ok H (by decide) C v6 hp c1 a3 (F a)
      · have k13 : tK τ N p = 13 := Classical.byContradiction (fun w => y0 (by rw [w2 w, B_f z]))
        rw [if_pos ⟨k13, v1⟩] at a1 a2
        obtain ⟨y, V4, t1, t2, t3, t4, p4, t5, t6⟩ := tf V1 (tE τ N p) C1 Q1.2.1 h4 (by omega)
        obtain ⟨W4, g1, g2, g3⟩ := must_ok (S := S) (n := 8) H M hp w11 Q (by decide)
        have eW : W4 101 11 = 1 ∧ W4 101 12 = tA τ N p := by
          rcases g3 with ⟨d1, d2, d3⟩ | ⟨d1, d2, d3⟩
          · omega
          · exact ⟨by rw [d2]; unfold flt; rw [if_pos k13], d3⟩
        refine ⟨y, a, V4, W4, fun F => ?_, fun G => ?_, FA_trans F1 t2, g2, Or.inr ⟨FA_CRd (FA_trans F1 t2) C, KN_MRd g2 M, by omega, by omega, by omega, p4, t5, t6⟩, fun w => by omega, fun w => absurd v1 w⟩
        · rw [a3, bd2_mk, ri37 H, w1, bd2_mk, if_neg y0, t1]
        · unfold M_eats
          rw [bi101 H, is_ok H, bd2_mk, B_f (fun w => z (by have := w.2; omega)), if_pos rfl, bd2_mk, if_pos rfl, bd2_mk, bi101 H, h8, g1, bd2_mk]
  · obtain ⟨h3, h4, h5⟩ := tE_le (τ := τ) hp
    obtain ⟨V1, F1, Q1, a1, a2, a3⟩ := advance_ok H C v6 hp
    rw [if_neg (fun w => v1 w.2)] at a1 a2
    have C1 := FA_CRd F1 C
    obtain ⟨yw, w1, w2⟩ := word_ok (n := 4) H C1 hp Q1 (by decide)
    have ref : ∀ G : Int → Mem → Option (Int × Mem), (bd2 (M_eats 101 4 (sh, setR W 102 S)) fun x33 μ34 =>
          bd2 (if x33 = 0 then some (a', μ34) else bd (isk 12 μ34 101) fun _ => bd2 (M_takes 101 0 999 μ34) fun x37 μ38 => some (x37, μ38)) fun (y35 : Int) (μ36 : Mem) =>
          bd (isk 12 μ36 101) fun _ => bd2 (M_must 101 8 μ36) fun _ μ40 => G y35 μ40) = G a' (sh, setR W 102 S) := fun G => by
      unfold M_eats
      rw [bi101 H, is_ok H, bd2_mk, B_f (fun w => by have := w.1; omega), if_pos rfl, bd2_mk, if_pos rfl, bd2_mk, bi101 H, must_no H (by omega), bd2_mk]
    by_cases y0 : yw = 0
    · obtain ⟨yy, V3, d1, d2, d3, d4, d5⟩ := expectWord_ok (n := 8) H C v6 hp (by decide)
      obtain ⟨i1, i2⟩ := d4 v1
      refine ⟨a, a', V3, W, fun F => ?_, ref, d2, KN_refl, Or.inr ⟨FA_CRd d2 C, M, by omega, by omega, by omega, _, d3, h4⟩, fun w => by omega, fun _ => ⟨i1, i2⟩⟩
      rw [a3, bd2_mk, ri37 H, w1, bd2_mk, if_pos y0, bd2_mk]
      exact tw_ok H (by decide) C v6 hp d1 a3 (F a)
    · obtain ⟨y, V4, t1, t2, t3, t4, p4, t5, t6⟩ := tf V1 (tE τ N p) C1 Q1.2.1 h4 (by omega)
      refine ⟨y, a', V4, W, fun F => ?_, ref, FA_trans F1 t2, KN_refl, Or.inr ⟨FA_CRd (FA_trans F1 t2) C, M, by omega, by omega, by omega, p4, t5, t6⟩, fun w => by omega, fun _ => ⟨by omega, by omega⟩⟩
      rw [a3, bd2_mk, ri37 H, w1, bd2_mk, if_neg y0, t1]
end KG5
