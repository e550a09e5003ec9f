/-! PURE: price -/
section PRICE
variable {sh : List (Nat × Nat)} {V V' V1 V2 V2' : Int → Int → Int} {r t s c i j k x a b y D D' f p v q h u o day z m g base : Int} {S S' R W : Int → Int} {n : Nat} {d d' : Int → Int}
/-- o's slips with i's top one upon them -/
def dkP (S : Int → Int) (o i : Int) (k : Nat) : Int := if (k : Int) < S (171 + o) then dkT S o k else S (189 + (40 * i + (S (171 + i) - 1)))
def wkP (S : Int → Int) (o i day : Int) (k : Nat) : Int := if (k : Int) < S (171 + o) then wkT S o day k else sWorthOf S i (S (171 + i) - 1) day
def hmP (S : Int → Int) (o i : Int) : Int := hmR S (wtH S (S (159 + o))) (dkP S o i) (wkP S o i (S (159 + o))) ((S (171 + o)).toNat + 1) (S (153 + o)) ((S (171 + o)).toNat + 1) (S 1)
theorem SLs_P (X : Cx sh V S D) (h0 : 0 ≤ o) (h1 : o < S 152) (g0 : 0 ≤ i) (g1 : i < S 152) (hm : S (171 + i) ≠ 0) : SLs S (dkP S o i) (wkP S o i day) ((S (171 + o)).toNat + 1) := by
  have hT := SLs_T (day := day) X h0 h1
  obtain ⟨t1, t2, t3, t4, t5, t6, t7⟩ := Cx_tr X g0 g1
  obtain ⟨u1, u2, -⟩ := Cx_tr X h0 h1
  have hl := X.2.2.2.1.1.2.2.2.2.2.2.1
  have hl' := X.2.2.2.1.1.2.2.2.2.2.2.2.1
  refine ⟨by omega, fun k hk => ?_⟩
  unfold dkP wkP
  by_cases e : (k : Int) < S (171 + o)
  · rw [if_pos e, if_pos e]; exact hT.2 k (by omega)
  · rw [if_neg e, if_neg e]
    have := t7 (S (171 + i) - 1) (by omega) (by omega)
    exact ⟨⟨this.1, this.2.1⟩, sWorth_rng hl hl' this.2.2.2.2.1 this.2.2.2.2.2⟩
theorem hmP_rng (X : Cx sh V S D) (h0 : 0 ≤ o) (h1 : o < S 152) (g0 : 0 ≤ i) (g1 : i < S 152) (hm : S (171 + i) ≠ 0) : hmP S o i = 2147483647 ∨ (-42000000 ≤ hmP S o i ∧ hmP S o i ≤ 600000000) := by
  obtain ⟨t1, t2, t3, t4, t5, t6, t7⟩ := Cx_tr X h0 h1
  obtain ⟨r1, r2, r3, r4, r5, r6, r7⟩ := Cx_rng X
  have := (hmR_ok (day := S (159 + o)) X.2.2.2.1.1 (SLs_P (day := S (159 + o)) X h0 h1 g0 g1 hm) t5 t6 ((S (171 + o)).toNat + 1) (Nat.le_refl _)).1
  rcases this (S 1) with e | e
  · exact Or.inl e
  · have := Pv_rng e (by omega) (by omega) (by omega)
    exact Or.inr ⟨this.1, this.2.1⟩
/-- the spare one holds these slips -/
def Spr (V : Int → Int → Int) (S : Int → Int) (o i : Int) : Prop := V 45 5 = S (171 + o) + 1 ∧ V 45 6 = 46 ∧ V 45 7 = 47 ∧ V 45 8 = 48 ∧ (∀ k, 0 ≤ k → k < S (171 + o) → V 46 k = S (189 + (40 * o + k)) ∧ V 47 k = S (429 + (40 * o + k)) ∧ V 48 k = S (669 + (40 * o + k))) ∧ V 46 (S (171 + o)) = S (189 + (40 * i + (S (171 + i) - 1))) ∧ V 47 (S (171 + o)) = S (429 + (40 * i + (S (171 + i) - 1))) ∧ V 48 (S (171 + o)) = S (669 + (40 * i + (S (171 + i) - 1)))
theorem spare_x (X : Cx sh V S D) (hP : WPt V) (h0 : 0 ≤ o) (h1 : o < S 152) (g0 : 0 ≤ i) (g1 : i < S 152) (hm : S (171 + i) ≠ 0) (hM : S (171 + o) < 40) : ∃ V' V'', Tr_become 45 (11 + 4 * o) (sh, V) = some (0, (sh, V')) ∧ Tr_takeTopOf 45 (11 + 4 * i) (sh, V') = some (0, (sh, V'')) ∧ SF V V' ∧ Pt V' ∧ SF V V'' ∧ Pt V'' ∧ WPt V'' ∧ Spr V'' S o i := by
  have H := X.1
  obtain ⟨r1, r2, r3, r4, r5, r6, r7⟩ := Cx_rng X
  obtain ⟨t1, t2, t3, t4, t5, t6, t7⟩ := Cx_tr X g0 g1
  obtain ⟨u1, u2, -⟩ := Cx_tr X h0 h1
  have hp := hP 45 (Or.inl rfl)
  obtain ⟨U, e1, e2, e3, e4, e5⟩ := Tr_become_x X h0 h1 (k_45 H) (k_46 H) (k_47 H) (k_48 H) (by decide) (by decide) hp.1 hp.2.1 hp.2.2
  have XU : Cx sh U S D := Cx_lo X (fun a j ha => e3 a j (by omega)) e5
  have k45 : (kS sh 45).1 = 6 := by rw [k_45 H]
  obtain ⟨⟨-, -, -, p6, p7, p8⟩, ⟨f0, f1, f2, f3, f4, f5⟩, sl⟩ := e2
  have p6 : U 45 6 = 46 := p6
  have p7 : U 45 7 = 47 := p7
  have p8 : U 45 8 = 48 := p8
  generalize hdt : S (189 + (40 * i + (S (171 + i) - 1))) = dt
  generalize hsd : S (429 + (40 * i + (S (171 + i) - 1))) = sd
  generalize hsp : S (669 + (40 * i + (S (171 + i) - 1))) = sp
  refine ⟨U, upV (upV (upV (upV U 46 (S (171 + o)) dt) 47 (S (171 + o)) sd) 48 (S (171 + o)) sp) 45 5 (S (171 + o) + 1), e1, ?_, fun a j ha => e3 a j (by omega), e5, fun a j ha => ?_, ?_, ?_, ?_⟩
  · unfold Tr_takeTopOf
    rw [bt5 XU g0 g1, w32_id (by omega) (by omega), bd_mk, if_neg (by omega), bm XU g0 g1 (by omega) (by omega), bs XU g0 g1 (by omega) (by omega), bc XU g0 g1 (by omega) (by omega), hdt, hsd, hsp, bit k45]
    unfold Tr_push
    rw [bgt k45, f5, if_pos hM, bgt k45, p6, bgt k45, f5, bst (by rw [k_46 H]) u1 (by rw [k_46 H]; exact hM), bgt k45, up_row (by decide), p7, bgt k45, up_row (by decide), f5, bst (by rw [k_47 H]) u1 (by rw [k_47 H]; exact hM), bgt k45, up_row (by decide), up_row (by decide), p8, bgt k45, up_row (by decide), up_row (by decide), f5, bst (by rw [k_48 H]) u1 (by rw [k_48 H]; exact hM), bgt k45, up_row (by decide), up_row (by decide), up_row (by decide), f5, bpt k45, w32_id (by omega) (by omega), bd2_mk]
  · rw [up_row (by omega), up_row (by omega), up_row (by omega), up_row (by omega)]; exact e3 a j (by omega)
  · rw [Pt_k H (by rw [k_45 H]; decide), Pt_k H (by rw [k_48 H]; decide), Pt_k H (by rw [k_47 H]; decide), Pt_k H (by rw [k_46 H]; decide)]; exact e5
  · refine WPt_of hP (fun t j ht q0 q1 => ?_)
    rcases ht with rfl | rfl | rfl | rfl
    · rw [up_col (by omega), up_row (by decide), up_row (by decide), up_row (by decide)]; exact e4 j q0
    · rw [up_row (by decide), up_row (by decide), up_row (by decide), up_row (by decide)]; exact e3 _ _ (by decide)
    · rw [up_row (by decide), up_row (by decide), up_row (by decide), up_row (by decide)]; exact e3 _ _ (by decide)
    · rw [up_row (by decide), up_row (by decide), up_row (by decide), up_row (by decide)]; exact e3 _ _ (by decide)
  · refine ⟨up_eq, ?_, ?_, ?_, fun k q0 q1 => ⟨?_, ?_, ?_⟩, ?_, ?_, ?_⟩
    · rw [up_col (by decide), up_row (by decide), up_row (by decide), up_row (by decide)]; exact p6
    · rw [up_col (by decide), up_row (by decide), up_row (by decide), up_row (by decide)]; exact p7
    · rw [up_col (by decide), up_row (by decide), up_row (by decide), up_row (by decide)]; exact p8
    · rw [up_row (by decide), up_row (by decide), up_row (by decide), up_col (by omega)]; exact (sl k q0 q1).1
    · rw [up_row (by decide), up_row (by decide), up_col (by omega), up_row (by decide)]; exact (sl k q0 q1).2.1
    · rw [up_row (by decide), up_col (by omega), up_row (by decide), up_row (by decide)]; exact (sl k q0 q1).2.2
    · rw [up_row (by decide), up_row (by decide), up_row (by decide), up_eq, hdt]
    · rw [up_row (by decide), up_row (by decide), up_eq, hsd]
    · rw [up_row (by decide), up_eq, hsp]
theorem homeCost_P (X : Cx sh V S D) (hS : Spr V S o i) (h0 : 0 ≤ o) (h1 : o < S 152) (g0 : 0 ≤ i) (g1 : i < S 152) (hm : S (171 + i) ≠ 0) (hM : S (171 + o) < 40) : ∃ W' d', Wy_homeCost 64 2 (11 + 4 * o) 45 (sh, V) = some (costV (hmP S o i), (sh, Mw V d' (V 65) W')) := by
  have H := X.1
  obtain ⟨t1, t2, t3, t4, t5, t6, t7⟩ := Cx_tr X h0 h1
  obtain ⟨v1, v2, v3, v4, v5, v6, v7⟩ := Cx_tr X g0 g1
  obtain ⟨r1, r2, r3, r4, r5, r6, r7⟩ := Cx_rng X
  obtain ⟨s1, s2, s3, s4, s5, s6, s7, s8⟩ := hS
  have hl := X.2.2.2.1.1.2.2.2.2.2.2.1
  have hl' := X.2.2.2.1.1.2.2.2.2.2.2.2.1
  have XM : ∀ d W, Cx sh (Mw V d (V 65) W) S D := fun d W => Cx_Mw X
  have eM : ∀ d W a j, (a = 45 ∨ a = 46 ∨ a = 47 ∨ a = 48) → Mw V d (V 65) W a j = V a j := fun d W a j ha => by rw [Mw_ne (by omega) (by omega)]
  have k45 : (kS sh 45).1 = 6 := by rw [k_45 H]
  have val : ∀ k : Nat, k < (S (171 + o)).toNat + 1 → V 46 k = dkP S o i k ∧ sWorth S (V 48 k) (V 47 k) (S (159 + o)) = wkP S o i (S (159 + o)) k ∧ (0 ≤ V 48 k ∧ V 48 k ≤ 999) ∧ 0 ≤ V 47 k ∧ V 47 k < 2000000000 := fun k hk => by
    unfold dkP wkP
    by_cases e : (k : Int) < S (171 + o)
    · rw [if_pos e, if_pos e]
      obtain ⟨a1, a2, a3⟩ := s5 k (by omega) e
      have := t7 k (by omega) e
      refine ⟨a1, by rw [a2, a3]; rfl, by rw [a3]; omega, by rw [a2]; omega, by rw [a2]; omega⟩
    · have ek : (k : Int) = S (171 + o) := by omega
      have := v7 (S (171 + i) - 1) (by omega) (by omega)
      rw [if_neg e, if_neg e, ek, s6, s7, s8]
      exact ⟨rfl, rfl, by omega, by omega, by omega⟩
  obtain ⟨W', e⟩ := homeCost_x (ho := 45) X h0 h1 (SLs_P (day := S (159 + o)) X h0 h1 g0 g1 hm) (fun W d k hk => ⟨fun g => by
      rw [bgt k45, eM _ _ _ _ (by decide), s2, blt (by rw [k_46 H]) (by omega) (by rw [k_46 H]; show (k : Int) < 40; omega), eM _ _ _ _ (by decide), (val k hk).1], fun g => by
      obtain ⟨-, b2, b3, b4, b5⟩ := val k hk
      rw [Kg_worthOn_b (S := S) (s := 47) (c := 48) H (XM d W).2.2.1.1 (k_45 H) (k_47 H) (k_48 H) (by rw [eM _ _ _ _ (by decide)]; exact s3) (by rw [eM _ _ _ _ (by decide)]; exact s4) (by omega) (by omega) hl hl' (by rw [eM _ _ _ _ (by decide)]; exact b3.1) (by rw [eM _ _ _ _ (by decide)]; exact b3.2) (by rw [eM _ _ _ _ (by decide)]; exact b4) (by rw [eM _ _ _ _ (by decide)]; exact b5) t3 (by omega), eM _ _ _ _ (by decide), eM _ _ _ _ (by decide), b2]⟩) (fun W d g => by rw [bgt k45, eM _ _ _ _ (by decide), s1]; congr 1; omega)
  exact ⟨W', _, e⟩
theorem rs_price (X : Cx sh V S D) (hP : WPt V) (PM' : PM V2) : RS sh V V2 S (T_price 0 i o (sh, V)) (M_price 101 i o (sh, setR V2 102 S)) := by
  have P1 := PM0 PM'
  have H := X.1
  have P := X.2.1
  obtain ⟨r1, r2, r3, r4, r5, r6, r7⟩ := Cx_rng X
  unfold T_price M_price
  rw [bp101 H, b04 X, bi2 X, x_hasPair X, bi101 H, M_isOne_b H P1 r5 r6]
  by_cases h : 0 ≤ i ∧ i < S 152
  · rw [B_t h, if_neg (c := (1 : Int) = 0) (by decide), bi101 H, M_isOne_b H P1 r5 r6]
    by_cases g : 0 ≤ o ∧ o < S 152
    · rw [B_t g, if_neg (c := (1 : Int) = 0) (by decide)]
      by_cases e : i = o
      · rw [if_pos e, B_f (fun q => q.2.2 e), if_pos rfl]; exact RS_same P hP _
      · obtain ⟨t1, t2, t3, t4, t5, t6, t7⟩ := Cx_tr X h.1 h.2
        obtain ⟨u1, u2, u3, u4, u5, u6, u7⟩ := Cx_tr X g.1 g.2
        rw [if_neg e, B_t (p := (0 ≤ i ∧ i < S 152) ∧ (0 ≤ o ∧ o < S 152) ∧ i ≠ o) ⟨h, g, e⟩, if_neg (c := (1 : Int) = 0) (by decide), b04 X, b21 X, b9 X h.1 h.2, b04 X, b21 X, b9 X g.1 g.2, bt5 X h.1 h.2, bg101 H, w32_id (x := 171 + i) (by omega) (by omega), blp P1 H (by omega) (by omega)]
        by_cases m0 : S (171 + i) = 0
        · rw [if_pos m0, if_pos m0]; exact RS_same P hP _
        · rw [if_neg m0, if_neg m0, bt5 X g.1 g.2, bg101 H, w32_id (x := 171 + o) (by omega) (by omega), blp P1 H (by omega) (by omega)]
          by_cases m4 : S (171 + o) = 40
          · rw [if_pos m4, if_neg (by omega)]; exact RS_same P hP _
          · rw [if_neg m4, if_pos (by omega)]
            obtain ⟨Va, Vb, a1, a2, a3, a4, a5, a6, a7, a8⟩ := spare_x X hP g.1 g.2 h.1 h.2 m0 (by omega)
            have Xa := Cx_sf X a3 a4
            have Xb := Cx_sf X a5 a6
            obtain ⟨Wc, dc, c1, -⟩ := homeCost_T Xb g.1 g.2 g.1 g.2
            have Xc : Cx sh (Mw Vb dc (Vb 65) Wc) S D := Cx_Mw Xb
            have Sc : Spr (Mw Vb dc (Vb 65) Wc) S o i := by
              unfold Spr at a8 ⊢
              simp only [Mw_ne (V := Vb) (a := 45) (by decide) (by decide), Mw_ne (V := Vb) (a := 46) (by decide) (by decide), Mw_ne (V := Vb) (a := 47) (by decide) (by decide), Mw_ne (V := Vb) (a := 48) (by decide) (by decide)]
              exact a8
            obtain ⟨Wd, dd, d1⟩ := homeCost_P Xc Sc g.1 g.2 h.1 h.2 m0 (by omega)
            have cn1 := costV_no (hmv_rng X g.1 g.2 g.1 g.2)
            have hpr := hmP_rng X g.1 g.2 h.1 h.2 m0
            have cn2 : (costV (hmP S o i) = -1000000 ↔ hmP S o i = 2147483647) ∧ -1000000 ≤ costV (hmP S o i) ∧ costV (hmP S o i) ≤ 1000000 := by
              unfold costV
              by_cases e : hmP S o i = 2147483647
              · rw [if_pos e]; exact ⟨⟨fun _ => e, fun _ => rfl⟩, by decide, by decide⟩
              · rw [if_neg e]
                rcases hpr with q | q
                · exact absurd q e
                · exact ⟨⟨fun z => by omega, fun z => absurd z e⟩, by omega, by omega⟩
            rw [bgt (by rw [k_0 H]), q_0_8 P, bit (by rw [k_45 H]), a1, bd2_mk, bgt (by rw [k_0 H]), q_0_8 a4, bit (by rw [k_45 H]), a2, bd2_mk, bgt (by rw [k_0 H]), q_0_12 a6, b04 Xb, bit (by rw [k_64 H]), c1, bd2_mk, bgt (by rw [k_0 H]), q_0_12 Xc.2.1, b04 Xc, bgt (by rw [k_0 H]), q_0_8 Xc.2.1, bit (by rw [k_64 H]), d1, bd2_mk, bi101 H]
            obtain ⟨Ua, f1, f2, f3⟩ := cheapOf_x H P1 X g.1 g.2 g.1 g.2
            have PUa := PM_fm P1 f2
            obtain ⟨Ub, l1, l2, l3, l4⟩ := looksAt_x (day := S (159 + o)) H PUa X.2.2.2.1 r7 g.1 g.2 u3 (by omega)
            have PUb := PM_fm PUa l4
            have fin : ∀ (y : Int) (U : Int → Int → Int), FM (upV V2 101 0 0) U → RS sh V V2 S (some (y, (sh, Mw (Mw Vb dc (Vb 65) Wc) dd (Mw Vb dc (Vb 65) Wc 65) Wd))) (some (y, (sh, setR U 102 S))) := fun y U F => ⟨y, _, U, rfl, rfl, SF_trans a5 (SF_trans SF_Mw SF_Mw), (Cx_Mw Xc).2.1, WPt_Mw (WPt_Mw a7), FM_trans FM0 F⟩
            unfold T_lessBy
            rw [f1, bd2_mk]
            by_cases w : hmv S o o = 2147483647
            · rw [B_f (fun z => z w), if_pos (c := (0 : Int) = 0) rfl, if_pos (cn1.1.mpr w), bd2_mk]; exact fin _ _ f2
            · have ec1 : costV (hmv S o o) = hmv S o o / 1024 := by unfold costV; rw [if_neg w]
              rw [B_t w, if_neg (c := (1 : Int) = 0) (by decide), if_neg (fun z => w (cn1.1.mp z)), bg101 H, (f3 w).1, bg101 H, w32_id (x := 159 + o) (by omega) (by omega), blp PUa H (by omega) (by omega), bi101 H, l1, bd2_mk]
              generalize hdt : S (189 + (40 * i + (S (171 + i) - 1))) = dt
              generalize hC : upV (upV (upV Ub 109 (S (171 + o)) dt) 110 (S (171 + o)) (sWorthOf S i (S (171 + i) - 1) (S (159 + o)))) 101 23 (S (171 + o) + 1) = C
              have P109 : PM (upV Ub 109 (S (171 + o)) dt) := by rw [PM_row (by decide)]; exact PUb
              have P110 : PM (upV (upV Ub 109 (S (171 + o)) dt) 110 (S (171 + o)) (sWorthOf S i (S (171 + i) - 1) (S (159 + o)))) := by rw [PM_row (by decide)]; exact P109
              have PC : PM C := by rw [← hC, PM_fld (by decide)]; exact P110
              have FC : FM Ub C := by rw [← hC]; exact FM_up (FM_up (FM_up FM_refl (Or.inr (by omega))) (Or.inr (by omega))) (Or.inl ⟨rfl, by omega⟩)
              have hl := X.2.2.2.1.1.2.2.2.2.2.2.1
              have hl' := X.2.2.2.1.1.2.2.2.2.2.2.2.1
              obtain ⟨Ud, x1, x2, x3⟩ := cheap_x (V := C) (t := S (153 + o)) (day := S (159 + o)) H PC X.2.2.2.1.1 (SLs_P (day := S (159 + o)) X g.1 g.2 h.1 h.2 m0) u5 u6 u3 (by omega) (by rw [← hC, up_eq]; omega) (fun k hk => by
                have c9 : C 109 k = upV Ub 109 (S (171 + o)) dt 109 k := by rw [← hC, up_row (by decide), up_row (by decide)]
                have c10 : C 110 k = upV (upV Ub 109 (S (171 + o)) dt) 110 (S (171 + o)) (sWorthOf S i (S (171 + i) - 1) (S (159 + o))) 110 k := by rw [← hC, up_row (by decide)]
                rw [c9, c10]
                unfold dkP wkP
                by_cases ek : (k : Int) < S (171 + o)
                · rw [if_pos ek, if_pos ek, up_col (by omega), up_col (by omega), up_row (by decide)]; exact l3 k ek
                · rw [if_neg ek, if_neg ek, show (k : Int) = S (171 + o) by omega, up_eq, up_eq, hdt]; exact ⟨rfl, rfl⟩)
              rw [bg101 H, q_101_20 PUb, bg101 H, l2, bg101 H, bg101 H, blp PUb H (by omega) (by omega), w32_id (x := S (171 + i) - 1) (by omega) (by omega), M_slipAt_b h.1 (by omega) (by omega) (by omega), w32_id (x := 189 + (40 * i + (S (171 + i) - 1))) (by omega) (by omega), blp PUb H (by omega) (by omega), hdt, ms109 H (by omega) (by omega), bg101 H, up_row (by decide), q_101_21 PUb, bg101 H, up_row (by decide), l2, bg101 H, blp P109 H (by omega) (by omega), bg101 H, blp P109 H (by omega) (by omega), bi101 H, w32_id (x := S (171 + i) - 1) (by omega) (by omega), M_worthOf_b H P109 (by omega : D < 2000000000) (Cx_tr X h.1 h.2) hl hl' h.1 (by omega) (by omega) (by omega) u3 (by omega), ms110 H (by omega) (by omega), bg101 H, up_row (by decide), up_row (by decide), l2, bp101 H, w32_id (x := S (171 + o) + 1) (by omega) (by omega), hC, bg101 H, w32_id (x := 153 + o) (by omega) (by omega), blp PC H (by omega) (by omega), bg101 H, blp PC H (by omega) (by omega), bi101 H, x1, bd2_mk]
              have FD : FM (upV V2 101 0 0) Ud := FM_trans f2 (FM_trans l4 (FM_trans FC x2))
              have eH : hmR S (wtH S (S (159 + o))) (dkP S o i) (wkP S o i (S (159 + o))) ((S (171 + o)).toNat + 1) (S (153 + o)) ((S (171 + o)).toNat + 1) (S 1) = hmP S o i := rfl
              rw [eH] at x3 ⊢
              by_cases w2 : hmP S o i = 2147483647
              · rw [B_f (fun z => z w2), if_pos (c := (0 : Int) = 0) rfl, if_pos (cn2.1.mpr w2), bd2_mk]; exact fin _ _ FD
              · have ec2 : costV (hmP S o i) = hmP S o i / 1024 := by unfold costV; rw [if_neg w2]
                rw [B_t w2, if_neg (c := (1 : Int) = 0) (by decide), if_neg (fun z => w2 (cn2.1.mp z)), bd2_mk, bg101 H, (x3 w2).1, ec1, ec2]
                exact fin _ _ FD
    · rw [B_f g, if_pos (c := (0 : Int) = 0) rfl, B_f (fun q => g q.2.1), if_pos (c := (0 : Int) = 0) rfl]; exact RS_same P hP _
  · rw [B_f h, if_pos (c := (0 : Int) = 0) rfl, B_f (fun q => h q.1), if_pos (c := (0 : Int) = 0) rfl]; exact RS_same P hP _
end PRICE
