/-! PURE: cheapest, gain, partner -/
section GAIN
variable {sh : List (Nat × Nat)} {V V' V1 V2 V2' : Int → Int → Int} {r t s c i j k x a b y D D' f p v q h u o day z m g base : Int} {S S' R W : Int → Int} {n : Nat} {d d' : Int → Int} {wt : Int → Int} {dk wk : Nat → Int}
def dkT (S : Int → Int) (o : Int) (k : Nat) : Int := S (189 + (40 * o + k))
def wkT (S : Int → Int) (o day : Int) (k : Nat) : Int := sWorthOf S o k day
/-- the value at home with o's slips, of i -/
def hmv (S : Int → Int) (i o : Int) : Int := hmR S (wtH S (S (159 + i))) (dkT S o) (wkT S o (S (159 + i))) (S (171 + o)).toNat (S (153 + i)) (S (171 + o)).toNat (S 1)
def costV (h : Int) : Int := if h = 2147483647 then -1000000 else h / 1024
theorem SLs_T (X : Cx sh V S D) (h0 : 0 ≤ o) (h1 : o < S 152) : SLs S (dkT S o) (wkT S o day) (S (171 + o)).toNat := by
  obtain ⟨t1, t2, t3, t4, t5, t6, t7⟩ := Cx_tr X h0 h1
  have hl := X.2.2.2.1.1.2.2.2.2.2.2.1
  have hl' := X.2.2.2.1.1.2.2.2.2.2.2.2.1
  refine ⟨by omega, fun k hk => ?_⟩
  have := t7 k (by omega) (by omega)
  exact ⟨⟨this.1, this.2.1⟩, sWorth_rng hl hl' this.2.2.2.2.1 this.2.2.2.2.2⟩
theorem hmv_rng (X : Cx sh V S D) (h0 : 0 ≤ i) (h1 : i < S 152) (g0 : 0 ≤ o) (g1 : o < S 152) : hmv S i o = 2147483647 ∨ (-42000000 ≤ hmv S i o ∧ hmv S i o ≤ 600000000) := by
  obtain ⟨t1, t2, t3, t4, t5, t6, t7⟩ := Cx_tr X h0 h1
  obtain ⟨u1, u2, -⟩ := Cx_tr X g0 g1
  obtain ⟨r1, r2, r3, r4, r5, r6, r7⟩ := Cx_rng X
  have := (hmR_ok (day := S (159 + i)) X.2.2.2.1.1 (SLs_T (day := S (159 + i)) X g0 g1) t5 t6 (S (171 + o)).toNat (Nat.le_refl _)).1
  rcases this (S 1) with e | e
  · exact Or.inl e
  · have := Pv_rng e (by omega) (by omega) (by omega)
    exact Or.inr ⟨this.1, this.2.1⟩
theorem homeCost_T (X : Cx sh V S D) (h0 : 0 ≤ i) (h1 : i < S 152) (g0 : 0 ≤ o) (g1 : o < S 152) : ∃ W' d', Wy_homeCost 64 2 (11 + 4 * i) (11 + 4 * o) (sh, V) = some (costV (hmv S i o), (sh, Mw V d' (V 65) W')) ∧ d' (S 1) = hmv S i o := by
  obtain ⟨t1, t2, t3, t4, t5, t6, t7⟩ := Cx_tr X h0 h1
  obtain ⟨u1, u2, -⟩ := Cx_tr X g0 g1
  obtain ⟨r1, r2, r3, r4, r5, r6, r7⟩ := Cx_rng X
  have XM : ∀ d W, Cx sh (Mw V d (V 65) W) S D := fun d W => Cx_Mw X
  obtain ⟨W', e⟩ := homeCost_x (ho := 11 + 4 * o) X h0 h1 (SLs_T (day := S (159 + i)) X g0 g1) (fun W d k hk => ⟨fun g => bm (XM d W) g0 g1 (by omega) (by omega), fun g => x_worthOn (XM d W) g0 g1 (by omega) (by omega) t3 (by omega)⟩) (fun W d g => by rw [bt5 (XM d W) g0 g1, Int.toNat_of_nonneg u1])
  exact ⟨W', _, e, rfl⟩
theorem looks_M (H : Sh sh) (O : SOk S D) (hD : D < 1900000000) (h0 : 0 ≤ o) (h1 : o < S 152) (hd : 0 ≤ day) (hd' : day < 2147483648) : ∀ (n z : Nat) (V : Int → Int → Int), (z : Int) ≤ S (171 + o) → (S (171 + o)).toNat - z < n → PM V → V 101 23 = S (171 + o) → (∀ k : Nat, k < z → V 109 k = dkT S o k ∧ V 110 k = wkT S o day k) → ∃ V', M_looksAt_L16 n 101 o day z (sh, setR V 102 S) = some (0, (sh, setR V' 102 S)) ∧ V' 101 23 = S (171 + o) ∧ (∀ k : Nat, (k : Int) < S (171 + o) → V' 109 k = dkT S o k ∧ V' 110 k = wkT S o day k) ∧ ∀ a j, a ≠ 109 → a ≠ 110 → V' a j = V a j := by
  have o3 := O.2.2.1
  have hl := O.1.2.2.2.2.2.2.1
  have hl' := O.1.2.2.2.2.2.2.2.1
  have T := O.2.2.2.1 o h0 h1
  have hD' : D < 2000000000 := by omega
  obtain ⟨t1, t2, t3, t4, t5, t6, t7⟩ := id T
  intro n
  induction n with
  | zero => intro z _ _ h; omega
  | succ n ih =>
    intro z V hz hn P hm hk
    rw [M_looksAt_L16, bg101 H, hm]
    by_cases g : (z : Int) < S (171 + o)
    · have Pb : PM (upV V 109 z (S (189 + (40 * o + z)))) := by rw [PM_row (by decide)]; exact P
      obtain ⟨V', a1, a2, a3, a4⟩ := ih (z + 1) (upV (upV V 109 z (S (189 + (40 * o + z)))) 110 z (sWorthOf S o z day)) (by omega) (by omega) (by rw [PM_row (by decide)]; exact Pb) (by rw [up_row (by decide), up_row (by decide)]; exact hm) (fun k hk' => by
        by_cases e : k = z
        · subst e; rw [up_row (by decide), up_eq, up_eq]; exact ⟨rfl, rfl⟩
        · rw [up_row (by decide), up_col (by omega), up_col (by omega), up_row (by decide)]; exact hk k (by omega))
      rw [if_pos g, bg101 H, q_101_20 P, bg101 H, M_slipAt_b h0 (by omega) (by omega) (by omega), w32_id (x := 189 + (40 * o + z)) (by omega) (by omega), blp P H (by omega) (by omega), ms109 H (by omega) (by omega), bg101 H, up_row (by decide), q_101_21 P, bi101 H, M_worthOf_b H Pb hD' T hl hl' h0 (by omega) (by omega) g hd hd', ms110 H (by omega) (by omega), w32_id (by omega) (by omega)]
      exact ⟨V', a1, a2, a3, fun a j q1 q2 => by rw [a4 a j q1 q2, up_row q2, up_row q1]⟩
    · rw [if_neg g]
      exact ⟨V, rfl, hm, fun k hk' => hk k (by omega), fun _ _ _ _ => rfl⟩
theorem looksAt_x (H : Sh sh) (P : PM V) (O : SOk S D) (hD : D < 1900000000) (h0 : 0 ≤ o) (h1 : o < S 152) (hd : 0 ≤ day) (hd' : day < 2147483648) : ∃ V', M_looksAt 101 o day (sh, setR V 102 S) = some (0, (sh, setR V' 102 S)) ∧ V' 101 23 = S (171 + o) ∧ (∀ k : Nat, (k : Int) < S (171 + o) → V' 109 k = dkT S o k ∧ V' 110 k = wkT S o day k) ∧ FM V V' := by
  have o3 := O.2.2.1
  have t2 := (O.2.2.2.1 o h0 h1).2.1
  have t1 := (O.2.2.2.1 o h0 h1).1
  unfold M_looksAt
  rw [bg101 H, w32_id (x := 171 + o) (by omega) (by omega), blp P H (by omega) (by omega), bp101 H]
  obtain ⟨V', a1, a2, a3, a4⟩ := looks_M (day := day) H O hD h0 h1 hd hd' FU 0 (upV V 101 23 (S (171 + o))) (by omega) (by show _ < 1000000; omega) (by rw [PM_fld (by decide)]; exact P) up_eq (fun k hk => by omega)
  refine ⟨V', a1, a2, a3, fun a j q => ?_⟩
  have M23 : MSc 101 23 := Or.inl ⟨rfl, by omega⟩
  rw [a4 a j (fun e => q (Or.inr (by omega))) (fun e => q (Or.inr (by omega)))]
  exact FM_up FM_refl M23 a j q
theorem cheapOf_x (H : Sh sh) (P : PM V) (X : Cx sh V' S D) (h0 : 0 ≤ i) (h1 : i < S 152) (g0 : 0 ≤ o) (g1 : o < S 152) : ∃ V2, M_cheapOf 101 i o (sh, setR V 102 S) = some (B (hmv S i o ≠ 2147483647), (sh, setR V2 102 S)) ∧ FM V V2 ∧ (hmv S i o ≠ 2147483647 → V2 101 24 = hmv S i o / 1024 ∧ V2 101 25 = hmv S i o % 1024) := by
  obtain ⟨t1, t2, t3, t4, t5, t6, t7⟩ := Cx_tr X h0 h1
  obtain ⟨u1, u2, -⟩ := Cx_tr X g0 g1
  obtain ⟨r1, r2, r3, r4, r5, r6, r7⟩ := Cx_rng X
  obtain ⟨Va, a1, a2, a3, a4⟩ := looksAt_x (day := S (159 + i)) H P X.2.2.2.1 r7 g0 g1 t3 (by omega)
  have Pa := PM_fm P a4
  obtain ⟨Vb, b1, b2, b3⟩ := cheap_x (t := S (153 + i)) (day := S (159 + i)) H Pa X.2.2.2.1.1 (SLs_T (day := S (159 + i)) X g0 g1) t5 t6 t3 (by omega) (by rw [a2]; omega) (fun k hk => a3 k (by omega))
  unfold M_cheapOf
  rw [bg101 H, w32_id (x := 159 + i) (by omega) (by omega), blp P H (by omega) (by omega), bi101 H, a1, bd2_mk, bg101 H, w32_id (x := 153 + i) (by omega) (by omega), blp Pa H (by omega) (by omega), bg101 H, blp Pa H (by omega) (by omega), bi101 H, b1, bd2_mk, bokz]
  exact ⟨Vb, rfl, FM_trans a4 b2, b3⟩
theorem and1023 : and32 x 1023 = x % 1024 := by
  unfold and32
  show (Int32.ofInt x &&& Int32.ofInt 1023).toBitVec.toInt = _
  rw [Int32.toBitVec_and, Int32.toBitVec_ofInt]
  have e : (BitVec.ofInt 32 x &&& (Int32.ofInt 1023).toBitVec).toNat = (x % 1024).toNat := by
    rw [BitVec.toNat_and, BitVec.toNat_ofInt]
    show (x % 4294967296).toNat &&& 1023 = _
    rw [show (1023 : Nat) = 2 ^ 10 - 1 from rfl, Nat.and_two_pow_sub_one_eq_mod]
    omega
  rw [BitVec.toInt_eq_toNat_of_lt (by rw [e]; omega), e]
  omega
theorem costV_no (h : hmv S i o = 2147483647 ∨ (-42000000 ≤ hmv S i o ∧ hmv S i o ≤ 600000000)) : (costV (hmv S i o) = -1000000 ↔ hmv S i o = 2147483647) ∧ -1000000 ≤ costV (hmv S i o) ∧ costV (hmv S i o) ≤ 1000000 := by
  unfold costV
  by_cases e : hmv S i o = 2147483647
  · rw [if_pos e]; exact ⟨⟨fun _ => e, fun _ => rfl⟩, by decide, by decide⟩
  · rw [if_neg e]
    rcases h with q | q
    · exact absurd q e
    · exact ⟨⟨fun z => by omega, fun z => absurd z e⟩, by omega, by omega⟩
theorem Mw_fin {y : Int} {o2 : Option (Int × Mem)} {V2' : Int → Int → Int} (X : Cx sh V S D) (hP : WPt V) (F : FM V2 V2') (e : o2 = some (y, (sh, setR V2' 102 S))) : RS sh V V2 S (some (y, (sh, Mw V d (V 65) W))) o2 := ⟨y, _, V2', rfl, e, SF_Mw, (Cx_Mw X).2.1, WPt_Mw hP, F⟩
theorem rs_cheapest (X : Cx sh V S D) (hP : WPt V) (PM' : PM V2) : RS sh V V2 S (T_cheapest 0 i k (sh, V)) (M_cheapest 101 i k (sh, setR V2 102 S)) := by
  have P1 := PM0 PM'
  have H := X.1
  have P := X.2.1
  obtain ⟨r1, r2, r3, r4, r5, r6, r7⟩ := Cx_rng X
  unfold T_cheapest M_cheapest
  rw [bp101 H, b04 X, bi2 X, x_hasTr X, bi101 H, M_isOne_b H P1 r5 r6]
  by_cases h : 0 ≤ i ∧ i < S 152
  · rw [B_t h, if_neg (c := (1 : Int) = 0) (by decide), if_neg (c := (1 : Int) = 0) (by decide), M_within_b]
    by_cases g : 0 ≤ k ∧ k ≤ 1
    · obtain ⟨W', d', e1, e2⟩ := homeCost_T X h.1 h.2 h.1 h.2
      obtain ⟨Vb, f1, f2, f3⟩ := cheapOf_x H P1 X h.1 h.2 h.1 h.2
      have cn := costV_no (hmv_rng X h.1 h.2 h.1 h.2)
      have FB := FM_trans FM0 f2
      have t6 := (Cx_tr X h.1 h.2).2.2.2.2.2.1
      have t5 := (Cx_tr X h.1 h.2).2.2.2.2.1
      obtain ⟨p1, p2⟩ := X.2.2.2.1.1.2.2.2.2.2.2.2.2.2.2.2.2.1 (by omega)
      rw [B_t g, if_neg (c := (1 : Int) = 0) (by decide), if_neg (c := k < 0) (by omega), if_neg (c := 1 < k) (by omega), b04 X, b21 X, b9 X h.1 h.2, bgt (by rw [k_0 H]), q_0_12 P, b04 X, bit (by rw [k_64 H]), e1, bd2_mk, bi101 H, f1, bd2_mk]
      by_cases w : hmv S i i = 2147483647
      · rw [B_f (fun z => z w), if_pos (c := (0 : Int) = 0) rfl, cn.1.mpr w]
        by_cases e : k = 0
        · rw [if_pos e, if_pos e]; exact Mw_fin X hP FB rfl
        · rw [if_neg e, if_neg e, if_pos rfl]; exact Mw_fin X hP FB rfl
      · obtain ⟨f3, f4⟩ := f3 w
        rw [B_t w, if_neg (c := (1 : Int) = 0) (by decide), bg101 H, f3, bg101 H, f4]
        by_cases e : k = 0
        · rw [if_pos e, if_pos e]
          have : costV (hmv S i i) = hmv S i i / 1024 := by unfold costV; rw [if_neg w]
          rw [this]; exact Mw_fin X hP FB rfl
        · have XM : Cx sh (Mw V d' (V 65) W') S D := Cx_Mw X
          rw [if_neg e, if_neg e, if_neg (fun z => w (cn.1.mp z)), bgt (by rw [k_0 H]), q_0_12 XM.2.1, b04 XM, bit (by rw [k_64 H])]
          unfold Wy_homeRoads
          rw [bgt (by rw [k_64 H]), q_64_0 XM.2.1, b20 XM, b31 XM, blt (by rw [k_65 H]) p1 (by rw [k_65 H]; show S 1 < 12; omega), Mw_65, r12_at p1 (by omega), e2, bd2_mk, and1023]
          exact Mw_fin X hP FB rfl
    · rw [B_f g, if_pos (c := (0 : Int) = 0) rfl]
      by_cases q : k < 0
      · rw [if_pos q]; exact RS_same P hP _
      · rw [if_neg q, if_pos (by omega)]; exact RS_same P hP _
  · rw [B_f h, if_pos (c := (0 : Int) = 0) rfl, if_pos (c := (0 : Int) = 0) rfl]; exact RS_same P hP _
def gainV (a b : Int) : Int := if costV a = -1000000 then -1000000 else if costV b = -1000000 then -1000000 else costV a - costV b
theorem gainOf_T (X : Cx sh V S D) (hP : WPt V) (h0 : 0 ≤ i) (h1 : i < S 152) (g0 : 0 ≤ o) (g1 : o < S 152) : ∃ V', T_gainOf 0 i o (sh, V) = some (gainV (hmv S i i) (hmv S i o), (sh, V')) ∧ SF V V' ∧ Pt V' ∧ WPt V' := by
  have H := X.1
  obtain ⟨Wa, da, a1, -⟩ := homeCost_T X h0 h1 h0 h1
  have Xa : Cx sh (Mw V da (V 65) Wa) S D := Cx_Mw X
  obtain ⟨Wb, db, b1, -⟩ := homeCost_T Xa h0 h1 g0 g1
  have c1 := costV_no (hmv_rng X h0 h1 h0 h1)
  have c2 := costV_no (hmv_rng X h0 h1 g0 g1)
  refine ⟨Mw (Mw V da (V 65) Wa) db (Mw V da (V 65) Wa 65) Wb, ?_, SF_trans SF_Mw SF_Mw, (Cx_Mw Xa).2.1, WPt_Mw (WPt_Mw hP)⟩
  unfold T_gainOf
  rw [b04 X, b21 X, b9 X h0 h1, bgt (by rw [k_0 H]), q_0_12 X.2.1, b04 X, bit (by rw [k_64 H]), a1, bd2_mk, bgt (by rw [k_0 H]), q_0_12 Xa.2.1, b04 Xa, b04 Xa, b21 Xa, b9 Xa g0 g1, bit (by rw [k_64 H]), b1, bd2_mk]
  unfold T_lessBy gainV
  by_cases e1 : costV (hmv S i i) = -1000000
  · rw [if_pos e1, if_pos e1, bd2_mk]
  · rw [if_neg e1, if_neg e1]
    by_cases e2 : costV (hmv S i o) = -1000000
    · rw [if_pos e2, if_pos e2, bd2_mk]
    · rw [if_neg e2, if_neg e2, bd2_mk, w32_id (by omega) (by omega)]
theorem gainOf_M (H : Sh sh) (P : PM V) (X : Cx sh V' S D) (h0 : 0 ≤ i) (h1 : i < S 152) (g0 : 0 ≤ o) (g1 : o < S 152) : ∃ V2, M_gainOf 101 i o (sh, setR V 102 S) = some (gainV (hmv S i i) (hmv S i o), (sh, setR V2 102 S)) ∧ FM V V2 := by
  obtain ⟨Va, a1, a2, a3⟩ := cheapOf_x H P X h0 h1 h0 h1
  have Pa := PM_fm P a2
  obtain ⟨Vb, b1, b2, b3⟩ := cheapOf_x H Pa X h0 h1 g0 g1
  have c1 := costV_no (hmv_rng X h0 h1 h0 h1)
  have c2 := costV_no (hmv_rng X h0 h1 g0 g1)
  unfold M_gainOf gainV
  rw [bi101 H, a1, bd2_mk]
  by_cases w : hmv S i i = 2147483647
  · rw [B_f (fun z => z w), if_pos (c := (0 : Int) = 0) rfl, if_pos (c1.1.mpr w)]; exact ⟨Va, rfl, a2⟩
  · have e1 : costV (hmv S i i) = hmv S i i / 1024 := by unfold costV; rw [if_neg w]
    rw [B_t w, if_neg (c := (1 : Int) = 0) (by decide), bg101 H, (a3 w).1, bi101 H, b1, bd2_mk, if_neg (fun z => w (c1.1.mp z))]
    by_cases w2 : hmv S i o = 2147483647
    · rw [B_f (fun z => z w2), if_pos (c := (0 : Int) = 0) rfl, if_pos (c2.1.mpr w2)]; exact ⟨Vb, rfl, FM_trans a2 b2⟩
    · have e2 : costV (hmv S i o) = hmv S i o / 1024 := by unfold costV; rw [if_neg w2]
      rw [B_t w2, if_neg (c := (1 : Int) = 0) (by decide), if_neg (fun z => w2 (c2.1.mp z)), bg101 H, (b3 w2).1, e1, e2, w32_id (by rw [← e1, ← e2]; omega) (by rw [← e1, ← e2]; omega)]
      exact ⟨Vb, rfl, FM_trans a2 b2⟩
theorem rs_gain (X : Cx sh V S D) (hP : WPt V) (PM' : PM V2) : RS sh V V2 S (T_gain 0 i o k (sh, V)) (M_gain 101 i o k (sh, setR V2 102 S)) := by
  have P1 := PM0 PM'
  have H := X.1
  have P := X.2.1
  obtain ⟨r1, r2, r3, r4, r5, r6, r7⟩ := Cx_rng X
  unfold T_gain M_gain
  rw [bp101 H, b04 X, bi2 X, x_hasPair X, bi101 H, M_isOne_b H P1 r5 r6]
  by_cases h : 0 ≤ i ∧ i < S 152
  · rw [B_t h, if_neg (c := (1 : Int) = 0) (by decide), bi101 H, M_isOne_b H P1 r5 r6]
    by_cases g : 0 ≤ o ∧ o < S 152
    · rw [B_t g, if_neg (c := (1 : Int) = 0) (by decide)]
      by_cases e : i = o
      · rw [if_pos e, B_f (fun q => q.2.2 e), if_pos rfl]; exact RS_same P hP _
      · rw [if_neg e, B_t (p := (0 ≤ i ∧ i < S 152) ∧ (0 ≤ o ∧ o < S 152) ∧ i ≠ o) ⟨h, g, e⟩, if_neg (c := (1 : Int) = 0) (by decide), M_within_b]
        by_cases u : 0 ≤ k ∧ k ≤ 1
        · rw [B_t u, if_neg (c := (1 : Int) = 0) (by decide), if_neg (c := k < 0) (by omega), if_neg (c := 1 < k) (by omega)]
          by_cases w : k = 0
          · obtain ⟨Va, a1, a2, a3, a4⟩ := gainOf_T X hP h.1 h.2 g.1 g.2
            obtain ⟨Vb, b1, b2⟩ := gainOf_M H P1 X h.1 h.2 g.1 g.2
            rw [if_pos w, if_pos w, if_pos w, bit (by rw [k_0 H]), a1, bd2_mk, bd_mk, bd_mk, bi101 H, b1, bd2_mk]
            exact ⟨_, Va, Vb, rfl, rfl, a2, a3, a4, FM_trans FM0 b2⟩
          · obtain ⟨Va, a1, a2, a3, a4⟩ := gainOf_T X hP g.1 g.2 h.1 h.2
            obtain ⟨Vb, b1, b2⟩ := gainOf_M H P1 X g.1 g.2 h.1 h.2
            rw [if_neg w, if_neg w, if_neg w, bit (by rw [k_0 H]), a1, bd2_mk, bd_mk, bd_mk, bi101 H, b1, bd2_mk]
            exact ⟨_, Va, Vb, rfl, rfl, a2, a3, a4, FM_trans FM0 b2⟩
        · rw [B_f u, if_pos (c := (0 : Int) = 0) rfl]
          by_cases q : k < 0
          · rw [if_pos q]; exact RS_same P hP _
          · rw [if_neg q, if_pos (by omega)]; exact RS_same P hP _
    · rw [B_f g, if_pos (c := (0 : Int) = 0) rfl, B_f (fun q => g q.2.1), if_pos (c := (0 : Int) = 0) rfl]; exact RS_same P hP _
  · rw [B_f h, if_pos (c := (0 : Int) = 0) rfl, B_f (fun q => h q.1), if_pos (c := (0 : Int) = 0) rfl]; exact RS_same P hP _
theorem partner_L (H : Sh sh) (h0 : 0 ≤ i) (h1 : i < S 152) : ∀ (n z : Nat) (b m : Int) (V V2 : Int → Int → Int), (z : Int) ≤ S 152 → (S 152).toNat - z < n → Cx sh V S D → WPt V → PM V2 → ∃ y V' V2', T_partner_L21 n 0 i b m z (sh, V) = some (y, (sh, V')) ∧ M_partner_L23 n 101 i b m z (sh, setR V2 102 S) = some (y, (sh, setR V2' 102 S)) ∧ SF V V' ∧ Pt V' ∧ WPt V' ∧ FM V2 V2' := by
  intro n
  induction n with
  | zero => intro z _ _ _ _ _ h; omega
  | succ n ih =>
    intro z b m V V2 hz hn X hP PM'
    obtain ⟨r1, r2, r3, r4, r5, r6, r7⟩ := Cx_rng X
    rw [T_partner_L21, M_partner_L23, b04 X, b23 X, bg101 H, blp PM' H (by decide) (by decide)]
    by_cases g : (z : Int) < S 152
    · have g0 : 0 ≤ (z : Int) := by omega
      rw [if_pos g, if_pos g]
      have nxt : ∀ (b m : Int) (V V2 : Int → Int → Int), Cx sh V S D → WPt V → PM V2 → ∃ y V' V2', T_partner_L21 n 0 i b m (w32 ((z : Int) + 1)) (sh, V) = some (y, (sh, V')) ∧ M_partner_L23 n 101 i b m (w32 ((z : Int) + 1)) (sh, setR V2 102 S) = some (y, (sh, setR V2' 102 S)) ∧ SF V V' ∧ Pt V' ∧ WPt V' ∧ FM V2 V2' := fun b m V V2 q1 q2 q3 => by
        rw [w32_id (by omega) (by omega)]; exact ih (z + 1) b m V V2 (by omega) (by omega) q1 q2 q3
      by_cases e : (z : Int) = i
      · rw [if_pos e, if_pos e]; exact nxt b m V V2 X hP PM'
      · rw [if_neg e, if_neg e, b04 X, b21 X, b9 X g0 g, bt0 X g0 g, b04 X, b21 X, b9 X h0 h1, bt0 X h0 h1, bg101 H, w32_id (x := 153 + (z : Int)) (by omega) (by omega), blp PM' H (by omega) (by omega), bg101 H, w32_id (x := 153 + i) (by omega) (by omega), blp PM' H (by omega) (by omega)]
        by_cases w : S (153 + (z : Int)) = S (153 + i)
        · obtain ⟨Va, a1, a2, a3, a4⟩ := gainOf_T X hP h0 h1 g0 g
          have Xa := Cx_sf X a2 a3
          obtain ⟨Vb, b1, b2, b3, b4⟩ := gainOf_T Xa a4 g0 g h0 h1
          have Xb := Cx_sf Xa b2 b3
          obtain ⟨Ua, c1, c2⟩ := gainOf_M H PM' X h0 h1 g0 g
          have Pa := PM_fm PM' c2
          obtain ⟨Ub, d1, d2⟩ := gainOf_M H Pa X g0 g h0 h1
          have Pb := PM_fm Pa d2
          rw [if_pos w, if_pos w, bit (by rw [k_0 H]), a1, bd2_mk, bit (by rw [k_0 H]), b1, bd2_mk, bi101 H, c1, bd2_mk, bi101 H, d1, bd2_mk]
          have nx2 : ∀ b m : Int, ∃ y V' V2', T_partner_L21 n 0 i b m (w32 ((z : Int) + 1)) (sh, Vb) = some (y, (sh, V')) ∧ M_partner_L23 n 101 i b m (w32 ((z : Int) + 1)) (sh, setR Ub 102 S) = some (y, (sh, setR V2' 102 S)) ∧ SF V V' ∧ Pt V' ∧ WPt V' ∧ FM V2 V2' := fun b m => by
            obtain ⟨y, V', V2', s1, s2, s3, s4, s5, s6⟩ := nxt b m Vb Ub Xb b4 Pb
            exact ⟨y, V', V2', s1, s2, SF_trans a2 (SF_trans b2 s3), s4, s5, FM_trans c2 (FM_trans d2 s6)⟩
          by_cases l1 : gainV (hmv S i i) (hmv S i z) < 0
          · rw [if_pos l1, if_pos l1]; exact nx2 b m
          · rw [if_neg l1, if_neg l1]
            by_cases l2 : gainV (hmv S z z) (hmv S z i) < 0
            · rw [if_pos l2, if_pos l2]; exact nx2 b m
            · rw [if_neg l2, if_neg l2]
              by_cases l3 : m < w32 (gainV (hmv S i i) (hmv S i z) + gainV (hmv S z z) (hmv S z i))
              · rw [if_pos l3, if_pos l3, bd_mk, bd_mk]; exact nx2 _ _
              · rw [if_neg l3, if_neg l3]; exact nx2 b m
        · rw [if_neg w, if_neg w]; exact nxt b m V V2 X hP PM'
    · rw [if_neg g, if_neg g]
      exact ⟨b, V, V2, rfl, rfl, SF_refl, X.2.1, hP, FM_refl⟩
theorem rs_partner (X : Cx sh V S D) (hP : WPt V) (PM' : PM V2) : RS sh V V2 S (T_partner 0 i (sh, V)) (M_partner 101 i (sh, setR V2 102 S)) := by
  have P1 := PM0 PM'
  have H := X.1
  have P := X.2.1
  obtain ⟨r1, r2, r3, r4, r5, r6, r7⟩ := Cx_rng X
  unfold T_partner M_partner
  rw [bp101 H, b04 X, bi2 X, x_hasTr X, bi101 H, M_isOne_b H P1 r5 r6]
  by_cases h : 0 ≤ i ∧ i < S 152
  · rw [B_t h, if_neg (c := (1 : Int) = 0) (by decide), if_neg (c := (1 : Int) = 0) (by decide)]
    obtain ⟨y, V', V2', s1, s2, s3, s4, s5, s6⟩ := partner_L H h.1 h.2 FU 0 (-1) 0 V (upV V2 101 0 0) (by omega) (by show _ < 1000000; omega) X hP P1
    exact ⟨y, V', V2', s1, s2, s3, s4, s5, FM_trans FM0 s6⟩
  · rw [B_f h, if_pos (c := (0 : Int) = 0) rfl, if_pos (c := (0 : Int) = 0) rfl]; exact RS_same P hP _
end GAIN
