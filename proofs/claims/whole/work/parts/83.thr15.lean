/-! PURE: through -/
section THR15
variable {sh : List (Nat × Nat)} {V V' V1 V2 V2' V3 V4 : Int → Int → Int} {r t m s c i j d k x a b y D D' f p w bk v tb q e e' E o u wt bg mo Eb nn : Int} {S S' S'' S3 R : Int → Int} {n dp : Nat} {ρ : Nat → Int}
/-- a call that changes scratch, and dead slips -/
def RT (sh : List (Nat × Nat)) (V V2 : Int → Int → Int) (S : Int → Int) (D : Int) (o1 o2 : Option (Int × Mem)) : Prop := ∃ y V1 V2' S', o1 = some (y, (sh, V1)) ∧ o2 = some (y, (sh, setR V2' 102 S')) ∧ SF V V1 ∧ Pt V1 ∧ WPt V1 ∧ FM V2 V2' ∧ CW V1 S' ∧ SOk S' D ∧ TP V1 ∧ PK S S' 40000
theorem RT_same (X : Cx sh V S D) (W : WPt V) (y : Int) : RT sh V V2 S D (some (y, (sh, V))) (some (y, (sh, setR (upV V2 101 0 0) 102 S))) := ⟨y, V, _, S, rfl, rfl, SF_refl, X.2.1, W, FM0, X.2.2.1, X.2.2.2.1, X.2.2.2.2.1, PK_refl (by decide)⟩
theorem KQ_Cx (X : Cx sh V S D) (h0 : 0 ≤ i) (h1 : i < S 152) (Q : KQ S S' i) : Cx sh V S' D := by
  obtain ⟨H, P, ⟨c1, c2, c3, c4, c5, c6⟩, ⟨o1, o2, o3, o4, o5, o6⟩, T, hD⟩ := X
  have hm := (o4 i h0 h1).1
  have h6 : i < 6 := by omega
  have l : ∀ j, j < 189 → S' j = S j := fun j hj => KQ_low Q h0 hm hj
  have hh : ∀ j, 909 ≤ j → S' j = S j := fun j hj => KQ_high Q h6 hj
  have h4 := o1.2.2.2.1
  refine ⟨H, P, ⟨CK_of c1 h4 (fun j hj => l j (by omega)) (fun _ _ _ _ => rfl), CM_of c2 h4 (fun j hj => l j (by omega)) rfl, by rw [l _ (by decide)]; exact c3, fun k k0 k1 => ?_, fun d d0 d1 => by rw [hh _ (by omega)]; exact c5 d d0 d1, ?_⟩, ⟨KOk_of o1 (fun j hj => l j (by omega)), by rw [l _ (by decide)]; exact o2, by rw [l _ (by decide)]; exact o3, fun k k0 k1 => ?_, fun r r0 r1 => ?_, fun d d0 d1 => by rw [hh _ (by omega)]; exact o6 d d0 d1⟩, T, hD⟩
  · rw [l 152 (by decide)] at k1
    have z := c4 k k0 k1
    have zm := o4 k k0 k1
    refine ⟨?_, fun q q0 q1 => ?_⟩
    · rw [l (153 + k) (by omega), l (159 + k) (by omega), l (165 + k) (by omega), l (177 + k) (by omega), l (183 + k) (by omega), l (171 + k) (by omega)]; exact z.1
    · rw [l (171 + k) (by omega)] at q1
      have zz := KQ_slip Q h0 h6 hm k0 (by omega) q0 q1 (by have := zm.2.1; omega)
      rw [zz.1, zz.2.1, zz.2.2]; exact z.2 q q0 q1
  · rw [l 152 (by decide), tre_congr (S := S) (fun k hk => by rw [l _ (by omega), l _ (by omega)])]; exact c6
  · rw [l 152 (by decide)] at k1
    obtain ⟨t1, t2, t3, t4, t5, t6, t7⟩ := o4 k k0 k1
    refine ⟨by rw [l _ (by omega)]; exact t1, by rw [l _ (by omega)]; exact t2, by rw [l _ (by omega)]; exact t3, by rw [l _ (by omega)]; exact t4, by rw [l _ (by omega)]; exact t5, by rw [l _ (by omega), l _ (by omega)]; exact t6, fun q q0 q1 => ?_⟩
    rw [l (171 + k) (by omega)] at q1
    have zz := KQ_slip Q h0 h6 hm k0 (by omega) q0 q1 (by omega)
    rw [zz.1, zz.2.1, zz.2.2, l 7 (by decide)]; exact t7 q q0 q1
  · rw [l 7 (by decide)] at r1
    rw [l _ (by omega)]; exact o5 r r0 r1
theorem Kg_hasTowns_eq (X : Cx sh V S D) (hw : R32 a) : Kg_hasTowns 3 a (sh, V) = some (B (0 ≤ a ∧ a < ((2 ^ (S 0).toNat : Nat) : Int)), (sh, V)) := by
  obtain ⟨r1, r2, -⟩ := Cx_rng X
  unfold Kg_hasTowns
  by_cases h : a < 0
  · rw [if_pos h, B_f (by omega)]
  · have e : shr32 a (S 0) = ((a.toNat / 2 ^ (S 0).toNat : Nat) : Int) := by
      have := shr_nat (a := a.toNat) (r := (S 0).toNat) (by have := hw.2; omega) (by omega)
      rw [Int.toNat_of_nonneg (by omega), Int.toNat_of_nonneg r1] at this; exact this
    have hp : 0 < 2 ^ (S 0).toNat := Nat.pow_pos (by decide)
    rw [if_neg h, b30 X, e]
    by_cases g : a.toNat < 2 ^ (S 0).toNat
    · rw [Nat.div_eq_of_lt g, if_pos (by decide), B_t (by omega)]
    · have : 1 ≤ a.toNat / 2 ^ (S 0).toNat := (Nat.le_div_iff_mul_le hp).mpr (by omega)
      rw [if_neg (by omega), B_f (by omega)]
theorem Kg_hasTowns_b (X : Cx sh V S D) (hw : R32 a) {γ : Type} {fZ : Int → Mem → Option γ} : bd2 (Kg_hasTowns 3 a (sh, V)) fZ = fZ (B (0 ≤ a ∧ a < ((2 ^ (S 0).toNat : Nat) : Int))) (sh, V) := by
  rw [Kg_hasTowns_eq] <;> first | assumption | rfl
theorem Pt_67 (P : Pt V) (h : j < 3 ∨ 7 < j) : Pt (upV V 67 j x) := fun q hq => by
  have z : ∀ q ∈ ptC, q.1 = 67 → 3 ≤ q.2.1 ∧ q.2.1 ≤ 7 := by decide
  unfold upV
  rw [if_neg (fun g => by have := z q hq g.1; omega)]; exact P q hq
theorem seek_ok (X : Cx sh V S D) (WP : WPt V) (h0 : 0 ≤ i) (h1 : i < S 152) (n0 : 0 ≤ nn) (n8 : nn ≤ 8) : ∃ Vb, To_seek 67 2 (11 + 4 * i) wt nn (sh, V) = (bd2 (To_explore 12 67 2 0 (shl32 1 (S (153 + i))) (sh, Vb)) fun _ μ16 => some ((0 : Int), μ16)) ∧ SF V Vb ∧ Pt Vb ∧ WPt Vb ∧ TrAt sh Vb 80 81 82 83 S i ∧ (Vb 67 0 = 0 ∧ Vb 67 2 = -1 ∧ Vb 67 8 = wt ∧ Vb 67 9 = nn) ∧ ∀ t, 0 ≤ t → t < S 0 → Vb 70 t = ((opM S t (S 7).toNat : Nat) : Int) := by
  have H := X.1
  have k67 : (kS sh 67).1 = 5 := by rw [k_67 H]
  obtain ⟨r1, r2, r3, r4, r5, r6, r7⟩ := Cx_rng X
  obtain ⟨w1, w2, w3⟩ := WP 80 (by decide)
  obtain ⟨V', e, T, f1, f2, P'⟩ := Tr_become_x (t := 80) X h0 h1 (k_80 H) (k_81 H) (k_82 H) (k_83 H) (by decide) (by decide) w1 w2 w3
  replace T : TrAt sh V' 80 81 82 83 S i := T
  have SF' : SF V V' := fun a j h => f1 a j (by omega)
  generalize hVa : upV (upV (upV (upV V' 67 8 wt) 67 9 nn) 67 0 0) 67 2 (-1) = Va
  have Pa : Pt Va := by rw [← hVa]; exact Pt_67 (Pt_67 (Pt_67 (Pt_67 P' (by decide)) (by decide)) (by decide)) (by decide)
  have SFa : SF V Va := by rw [← hVa]; exact SF_up (SF_up (SF_up (SF_up SF' (by decide) (by decide)) (by decide) (by decide)) (by decide) (by decide)) (by decide) (by decide)
  have Xa := Cx_sf X SFa Pa
  obtain ⟨R', e2, q2⟩ := seek_L (kk := (fun x10 x11 x12 μ13 => bd (getf 6 0 μ13 x12) fun x14 => bd2 (To_explore 12 x10 x11 0 (shl32 1 x14) μ13) fun _ μ16 => some ((0 : Int), μ16))) (t := 11 + 4 * i) Xa FU 0 (Va 70) (by omega) (by show _ < 1000000; omega) (fun t t0 t1 => by omega)
  rw [setR_self, show ((0 : Nat) : Int) = 0 from rfl] at e2
  have Xb : Cx sh (setR Va 70 R') S D := Cx_set Xa (by decide) (by decide) (by rw [k_70 H]; decide)
  refine ⟨setR Va 70 R', ?_, SF_set SFa (by decide) (by decide), Xb.2.1, ?_, ?_, ⟨?_, ?_, ?_, ?_⟩, fun t t0 t1 => by rw [setR_at]; exact q2 t t0 t1⟩
  · unfold To_seek
    rw [bgt k67, q_67_7 X.2.1, bit (by rw [k_80 H]), e, bd2_mk, bpt k67, J_min_b, if_neg (by omega), bpt k67, bpt k67, bpt k67, hVa, e2, bt0 Xb h0 h1]
  · refine WPt_of WP (fun t j ht g0 g1 => ?_)
    rw [setR_ne (by omega), ← hVa, up_row (by omega), up_row (by omega), up_row (by omega), up_row (by omega)]
    by_cases g : t = 80
    · rw [g]; exact f2 j g0
    · exact f1 t j (by omega)
  · exact TrAt_fr T (fun j => by rw [setR_ne (by omega), ← hVa, up_row (by omega), up_row (by omega), up_row (by omega), up_row (by omega)]) (fun j => by rw [setR_ne (by omega), ← hVa, up_row (by omega), up_row (by omega), up_row (by omega), up_row (by omega)]) (fun j => by rw [setR_ne (by omega), ← hVa, up_row (by omega), up_row (by omega), up_row (by omega), up_row (by omega)]) (fun j => by rw [setR_ne (by omega), ← hVa, up_row (by omega), up_row (by omega), up_row (by omega), up_row (by omega)])
  · rw [setR_ne (by omega), ← hVa, up_col (by decide), up_eq]
  · rw [setR_ne (by omega), ← hVa, up_eq]
  · rw [setR_ne (by omega), ← hVa, up_col (by decide), up_col (by decide), up_col (by decide), up_eq]
  · rw [setR_ne (by omega), ← hVa, up_col (by decide), up_col (by decide), up_eq]
theorem pb_self : pb S i (S (177 + i)) (S (183 + i)) = S := (pb_of (fun _ _ _ => rfl)).symm
theorem rt_through (X : Cx sh V S D) (hP : WPt V) (PM' : PM V2) (hbk : V2 101 15 = 1) (hD : D < 1800000000) (hPO : PO S E) (hE : E < 1500000000) (hw : R32 wt) (hk : R32 k) : RT sh V V2 S D (T_through 0 i wt nn k (sh, V)) (M_through 101 i wt nn k (sh, setR V2 102 S)) := by
  have P1 := PM0 PM'
  have H := X.1
  have P := X.2.1
  have K := X.2.2.2.1.1
  obtain ⟨r1, r2, r3, r4, r5, r6, r7⟩ := Cx_rng X
  have told : ∀ F : Int → Mem → Option (Int × Mem), bd2 (if k = 0 then some ((1 : Int), ((sh, V) : Mem)) else if k = 1 then some (1, (sh, V)) else bd2 (T_isRoadPlace k 8 (sh, V)) fun x3 μ4 => if x3 = 0 then some (0, μ4) else some (1, μ4)) F = F (B ((0 ≤ k ∧ k ≤ 1) ∨ (10 ≤ k ∧ k ≤ 17))) (sh, V) := fun F => by
    by_cases e : k = 0
    · rw [if_pos e, bd2_mk, B_t (by omega)]
    · rw [if_neg e]
      by_cases e1 : k = 1
      · rw [if_pos e1, bd2_mk, B_t (by omega)]
      · rw [if_neg e1]
        unfold T_isRoadPlace
        rw [show w32 (10 + 8) = 18 from rfl]
        by_cases e2 : k < 10
        · rw [if_pos e2, bd2_mk, if_pos rfl, bd2_mk, B_f (by omega)]
        · rw [if_neg e2]
          by_cases e3 : k < 18
          · rw [if_pos e3, bd2_mk, if_neg (by decide), bd2_mk, B_t (by omega)]
          · rw [if_neg e3, bd2_mk, if_pos rfl, bd2_mk, B_f (by omega)]
  unfold T_through M_through
  rw [told, b04 X, bi2 X, x_hasTr X, bp101 H, bi101 H, M_isOne_b H P1 r5 r6]
  by_cases h : 0 ≤ i ∧ i < S 152
  · rw [B_t h, if_neg (c := (1 : Int) = 0) (by decide), if_neg (c := (1 : Int) = 0) (by decide), M_within_b]
    by_cases u : (0 ≤ k ∧ k ≤ 1) ∨ (10 ≤ k ∧ k ≤ 17)
    · have eM : (if B (0 ≤ k ∧ k ≤ 1) = 0 then bd2 (M_within k 10 17 (sh, setR (upV V2 101 0 0) 102 S)) fun x6 μ7 => if x6 = 0 then some ((-2), μ7) else M_through_J42 101 i wt nn k μ7 else M_through_J42 101 i wt nn k (sh, setR (upV V2 101 0 0) 102 S)) = M_through_J42 101 i wt nn k (sh, setR (upV V2 101 0 0) 102 S) := by
        by_cases e : 0 ≤ k ∧ k ≤ 1
        · rw [B_t e, if_neg (by decide)]
        · rw [B_f e, if_pos rfl, M_within_b, B_t (by omega), if_neg (by decide)]
      rw [eM, B_t u, if_neg (c := (1 : Int) = 0) (by decide), b04 X, b20 X, bi3 X, Kg_hasTowns_b X hw]
      unfold M_through_J42
      have hp : 2 ^ (S 0).toNat ≤ 2 ^ 12 := Nat.pow_le_pow_right (by decide) (by omega)
      have hp1 : 0 < 2 ^ (S 0).toNat := Nat.pow_pos (by decide)
      rw [bg101 H, blp P1 H (by decide) (by decide), shl1 r1 (by omega), w32_id (x := ((2 ^ (S 0).toNat : Nat) : Int) - 1) (by omega) (by omega), M_within_b]
      by_cases hwt : 0 ≤ wt ∧ wt < ((2 ^ (S 0).toNat : Nat) : Int)
      · rw [B_t hwt, B_t (p := 0 ≤ wt ∧ wt ≤ ((2 ^ (S 0).toNat : Nat) : Int) - 1) (by omega), if_neg (c := (1 : Int) = 0) (by decide), if_neg (c := (1 : Int) = 0) (by decide), M_within_b]
        by_cases hn : 0 ≤ nn ∧ nn ≤ 8
        · rw [B_t hn, if_neg (c := (1 : Int) = 0) (by decide), if_neg (by omega), if_neg (by omega)]
          obtain ⟨h0, h1⟩ := h
          have h6 : i < 6 := by omega
          have W := WI_x X h0 h1
          have pu := PO_le hPO r6 h0 h1
          have k67 : (kS sh 67).1 = 5 := by rw [k_67 H]
          obtain ⟨Vb, s1, s2, s3, s4, s5, s6, s7⟩ := seek_ok (wt := wt) X hP h0 h1 hn.1 hn.2
          have Xb := Cx_sf X s2 s3
          generalize hVd : upV (upV (upV (upV (upV V2 101 0 0) 101 29 0) 101 30 (-1)) 101 32 (S (165 + i))) 101 15 0 = Vd
          have Pd : PM Vd := by rw [← hVd, PM_fld (by decide), PM_fld (by decide), PM_fld (by decide), PM_fld (by decide)]; exact P1
          have Fd : FN V2 Vd := by
            rw [← hVd]
            exact FN_up (FN_up (FN_up (FN_up (FN_up (fun _ _ _ _ => rfl) (Or.inl (by unfold MSc; omega))) (Or.inl (by unfold MSc; omega))) (Or.inl (by unfold MSc; omega))) (Or.inl (by unfold MSc; omega))) (Or.inr ⟨rfl, rfl⟩)
          have P2 : PM (upV (upV (upV V2 101 0 0) 101 29 0) 101 30 (-1)) := by rw [PM_fld (by decide), PM_fld (by decide)]; exact P1
          have d29 : Vd 101 29 = 0 := by rw [← hVd, up_col (by decide), up_col (by decide), up_col (by decide), up_eq]
          have d30 : Vd 101 30 = -1 := by rw [← hVd, up_col (by decide), up_col (by decide), up_eq]
          have d32 : Vd 101 32 = S (165 + i) := by rw [← hVd, up_col (by decide), up_eq]
          have d15 : Vd 101 15 = 0 := by rw [← hVd, up_eq]
          have TH0 : TH sh Vb Vd S i (S (165 + i)) wt nn D (6000000 + E) := ⟨⟨s3, s4, Xb.2.2.1.1, Xb.2.2.1.2.1⟩, W, ⟨S (177 + i), S (183 + i), by rw [pb_self]; exact s5⟩, Pd, ⟨d15, d32⟩, ⟨s6.2.2.1, s6.2.2.2, s7⟩, ⟨by rw [s6.1, d29], by rw [s6.1]; decide⟩, pu, fun _ => ⟨by rw [s6.2.1, d30], fun g => absurd s6.2.1 g⟩⟩
          obtain ⟨Vx, Vy, Sx, x1, x2, x3, x4, x5, x6⟩ := EXq_all (i := i) (bg := S (165 + i)) (wt := wt) (mo := nn) H hn.2 pu.1 (by omega) hwt.1 (by omega) 12 0 Vb Vd S D (6000000 + E) (shl32 1 (S (153 + i))) (by omega) (by omega) TH0 (fun k k0 k1 => by omega) (by rw [s6.1]; decide) (by omega) (by omega)
          rw [show ((0 : Nat) : Int) = 0 from rfl] at x1 x2
          obtain ⟨⟨y1, y2, y3, y4⟩, y5, y6, y7, ⟨y8, y9⟩, y10, ⟨y11, y12⟩, y13, y14⟩ := id x3
          have Fx : FM V2 (upV Vy 101 15 1) := FN_end (fun a j q1 q2 => by
            rw [x5.1 a j (fun g => q1 (by unfold MX at g; unfold MSc; omega))]; exact Fd a j q1 q2) hbk
          have SFx : SF V Vx := SF_trans s2 (fun a j h => x4.1 a j (by unfold TX; omega))
          have Xx := Cx_sf X SFx y1
          have XQ := KQ_Cx Xx h0 h1 x6
          have fin : ∀ y, RT sh V V2 S D (some (y, (sh, Vx))) (some (y, (sh, setR (upV Vy 101 15 1) 102 Sx))) := fun y => ⟨y, Vx, _, Sx, rfl, rfl, SFx, y1, y2, Fx, XQ.2.2.1, XQ.2.2.2.1, XQ.2.2.2.2.1, KQ_PK x6 h0 h6 (Cx_tr X h0 h1).1 r6 (by decide)⟩
          have Pe : PM (upV Vy 101 15 1) := by rw [PM_fld (by decide)]; exact y7
          rw [bgt (by rw [k_0 H]), q_0_13 P, b04 X, b04 X, b21 X, b9 X h0 h1, bit k67, s1, x1, bd2_mk, bd2_mk, bgt (by rw [k_0 H]), q_0_13 y1, bgt k67]
          rw [bp101 H, bp101 H, bg101 H, w32_id (x := 165 + i) (by omega) (by omega), blp P2 H (by omega) (by omega), bp101 H, bp101 H, hVd, bg101 H, w32_id (x := 153 + i) (by omega) (by omega), blp Pd H (by omega) (by omega), bi101 H, x2, bd2_mk, bp101 H, bg101 H, up_col (by decide), ← y11]
          by_cases hf : 100000 < Vx 67 0
          · rw [if_pos hf, if_pos hf]; exact fin _
          · obtain ⟨z1, z2⟩ := y14 (by omega)
            rw [if_neg hf, if_neg hf, bgt (by rw [k_0 H]), q_0_13 y1, bgt k67, bg101 H, up_col (by decide), ← z1]
            by_cases hl : Vx 67 2 = -1
            · rw [if_pos hl, if_pos hl]
              by_cases hk0 : k = 0
              · rw [if_pos hk0, if_pos hk0]; exact fin _
              · rw [if_neg hk0, if_neg hk0]; exact fin _
            · obtain ⟨z3, z4, z5, z6⟩ := z2 hl
              rw [if_neg hl, if_neg hl]
              by_cases hk0 : k = 0
              · rw [if_pos hk0, if_pos hk0, bgt (by rw [k_0 H]), q_0_13 y1, bgt k67, b04 Xx, b21 Xx, b9 Xx h0 h1, bt2 Xx h0 h1, bg101 H, up_col (by decide), z4, w32_id (by omega) (by omega)]; exact fin _
              · rw [if_neg hk0, if_neg hk0]
                by_cases hk1 : k = 1
                · rw [if_pos hk1, if_pos hk1, bgt (by rw [k_0 H]), q_0_13 y1, bgt k67, bg101 H, up_col (by decide), ← z1]; exact fin _
                · rw [if_neg hk1, if_neg hk1, bgt (by rw [k_0 H]), q_0_13 y1, bgt k67, bg101 H, up_col (by decide), ← z1, w32_id (x := k - 10) (by omega) (by omega)]
                  by_cases hq : k - 10 < Vx 67 2
                  · rw [if_pos hq, if_pos hq, bgt (by rw [k_0 H]), q_0_13 y1, bgt k67, q_67_3 y1, blt (by rw [k_68 H]) (by omega) (by rw [k_68 H]; show k - 10 < 8; omega), bg101 H, q_101_27 Pe, ml113 H (by omega) (by omega), up_row (by decide), z6 _ (by omega) hq]; exact fin _
                  · rw [if_neg hq, if_neg hq]; exact fin _
        · rw [B_f hn, if_pos (c := (0 : Int) = 0) rfl]
          by_cases hn0 : nn < 0
          · rw [if_pos hn0]; exact RT_same X hP _
          · rw [if_neg hn0, if_pos (by omega)]; exact RT_same X hP _
      · rw [B_f hwt, B_f (p := 0 ≤ wt ∧ wt ≤ ((2 ^ (S 0).toNat : Nat) : Int) - 1) (by omega), if_pos rfl, if_pos rfl]; exact RT_same X hP _
    · rw [B_f u, B_f (p := 0 ≤ k ∧ k ≤ 1) (by omega), if_pos rfl, if_pos rfl, M_within_b, B_f (by omega), if_pos rfl]; exact RT_same X hP _
  · rw [B_f h, if_pos rfl, if_pos rfl]; exact RT_same X hP _
end THR15
