/-! PURE: the reference's cheapest way home -/
section CHEAP
variable {sh : List (Nat × Nat)} {V V' V1 V2 V2' : Int → Int → Int} {r t s c i j k x a b y D D' f p v q h u day z m g base : Int} {S S' R W : Int → Int} {n : Nat} {d d' : Int → Int} {wt : Int → Int} {dk wk : Nat → Int}
def ENC (V : Int → Int → Int) (g y : Int) : Prop := (y = 2147483647 ∧ V 111 g = 0) ∨ (y ≠ 2147483647 ∧ V 111 g = 1 ∧ V 107 g = y / 1024 ∧ V 108 g = y % 1024)
def LY (V : Int → Int → Int) (k : Int) (d : Int → Int) : Prop := ∀ t, 0 ≤ t → t < 12 → ENC V (12 * k + t) (d t)
def enc (V : Int → Int → Int) (g z : Int) : Int → Int → Int := upV (upV (upV V 111 g 1) 107 g (z / 1024)) 108 g (z % 1024)
theorem ENC_enc (hz : z ≠ 2147483647) : ENC (enc V g z) g z := Or.inr ⟨hz, by unfold enc; rw [up_row (by decide), up_row (by decide), up_eq], by unfold enc; rw [up_row (by decide), up_eq], by unfold enc; rw [up_eq]⟩
theorem ENC_congr (h : ENC V g y) (h1 : V' 111 g = V 111 g) (h2 : V' 107 g = V 107 g) (h3 : V' 108 g = V 108 g) : ENC V' g y := by
  unfold ENC at h ⊢; rw [h1, h2, h3]; exact h
theorem enc_ne (h : a ≠ 107 ∧ a ≠ 108 ∧ a ≠ 111 ∨ j ≠ g) : enc V g z a j = V a j := by
  unfold enc upV
  rw [if_neg (by omega), if_neg (by omega), if_neg (by omega)]
theorem PM_enc : PM (enc V g z) = PM V := by unfold enc; rw [PM_row (by decide), PM_row (by decide), PM_row (by decide)]
theorem better_x (H : Sh sh) (P : PM V) (f0 : 0 ≤ f) (f1 : f < 504) (g0 : 0 ≤ g) (g1 : g < 504) (hx1 : V 107 f = x / 1024) (hx2 : V 108 f = x % 1024) (hy : ENC V g y) (hz1 : z / 1024 = x / 1024 + m) (hz2 : z % 1024 = x % 1024 + s) (bz : -1000000000 ≤ z ∧ z ≤ 1000000000) : M_better 101 f g m s (sh, setR V 102 S) = some (B (z < y), (sh, setR (if z < y then enc V g z else V) 102 S)) := by
  have J : M_better_J65 101 g (z / 1024) (z % 1024) (sh, setR V 102 S) = some (1, (sh, setR (enc V g z) 102 S)) := by
    unfold M_better_J65
    rw [bg101 H, q_101_22 P, ms111 H g0 g1, bg101 H, up_row (by decide), q_101_18 P, ms107 H g0 g1, bg101 H, up_row (by decide), up_row (by decide), q_101_19 P, ms108 H g0 g1]
    rfl
  unfold M_better
  rw [bg101 H, q_101_18 P, ml107 H f0 f1, hx1, ← hz1, w32_id (x := z / 1024) (by omega) (by omega), bd_mk, bg101 H, q_101_19 P, ml108 H f0 f1, hx2, ← hz2, w32_id (x := z % 1024) (by omega) (by omega), bd_mk, bg101 H, q_101_22 P, ml111 H g0 g1]
  rcases hy with ⟨e1, e2⟩ | ⟨e1, e2, e3, e4⟩
  · have : z < y := by omega
    rw [e2, if_pos rfl, J, B_t this, if_pos this]
  · rw [e2, if_neg (by decide), bg101 H, q_101_18 P, ml107 H g0 g1, e3]
    by_cases c1 : y / 1024 < z / 1024
    · have : ¬ z < y := by omega
      rw [if_pos c1, B_f this, if_neg this]
    · rw [if_neg c1, bg101 H, q_101_18 P, ml107 H g0 g1, e3]
      by_cases c2 : z / 1024 = y / 1024
      · rw [if_pos c2, bg101 H, q_101_19 P, ml108 H g0 g1, e4]
        by_cases c3 : z % 1024 < y % 1024
        · have : z < y := by omega
          rw [if_pos c3, J, B_t this, if_pos this]
        · have : ¬ z < y := by omega
          rw [if_neg c3, B_f this, if_neg this]
      · have : z < y := by omega
        rw [if_neg c2, J, B_t this, if_pos this]
/-- what a layer's work leaves -/
def FRL (k : Int) (V V' : Int → Int → Int) : Prop := ∀ a j, ¬ ((a = 107 ∨ a = 108 ∨ a = 111) ∧ 12 * k ≤ j ∧ j < 12 * k + 12) → V' a j = V a j
theorem FRL_refl : FRL k V V := fun _ _ _ => rfl
theorem FRL_trans (h : FRL k V V') (h' : FRL k V' V2) : FRL k V V2 := fun a j q => (h' a j q).trans (h a j q)
theorem FRL_enc (h0 : 0 ≤ t) (h1 : t < 12) : FRL k V (enc V (12 * k + t) z) := fun a j q => enc_ne (by omega)
theorem FRL_PM (P : PM V) (h : FRL k V V') : PM V' := by
  have hx : ∀ q ∈ ptM, q.1 = 101 := by decide
  exact fun q hq => (h _ _ (by rw [hx q hq]; omega)).trans (P q hq)
theorem LY_fr (h : LY V b d) (F : FRL k V V') (hb : b ≠ k) : LY V' b d := fun t h0 h1 => ENC_congr (h t h0 h1) (F _ _ (by omega)) (F _ _ (by omega)) (F _ _ (by omega))
theorem LY_enc (h : LY V k d) (h0 : 0 ≤ v) (h1 : v < 12) (hz : z ≠ 2147483647) : LY (enc V (12 * k + v) z) k (up d v z) := fun t g0 g1 => by
  by_cases e : t = v
  · subst e; rw [upS_eq]; exact ENC_enc hz
  · rw [upS_ne e]
    exact ENC_congr (h t g0 g1) (enc_ne (by omega)) (enc_ne (by omega)) (enc_ne (by omega))
theorem layer_x (H : Sh sh) (P : PM V) (hk0 : 0 ≤ k) (hk1 : k ≤ 41) (hL : LY V k d) (hd : Iv n base j d) (hn : n ≤ 12) (hb : base ≤ 492) (hj : j ≤ 41) (ha : 0 ≤ a ∧ a < 12) (hv : 0 ≤ b ∧ b < 12) (ht : 0 ≤ t ∧ t ≤ 999) (hu : d a ≠ 2147483647) : ∃ V', M_better 101 (12 * k + a) (12 * k + b) t 1 (sh, setR V 102 S) = some (B (imp 2147483647 d (a, b, t * 1024 + 1)), (sh, setR V' 102 S)) ∧ LY V' k (rlx 2147483647 d (a, b, t * 1024 + 1)) ∧ FRL k V V' := by
  rcases hd a with e | pa
  · exact absurd e hu
  · have ra := Pv_rng pa hn hb hj
    have ad := add_road (t := t) ra.2.2.1 ra.2.2.2
    rcases hL a ha.1 ha.2 with ⟨e1, -⟩ | ⟨-, -, e3, e4⟩
    · exact absurd e1 hu
    · have hB := better_x (S := S) (f := 12 * k + a) (g := 12 * k + b) (m := t) (s := 1) (z := d a + (t * 1024 + 1)) H P (by omega) (by omega) (by omega) (by omega) e3 e4 (hL b hv.1 hv.2) ad.2 ad.1 (by omega)
      have hi : imp 2147483647 d (a, b, t * 1024 + 1) ↔ d a + (t * 1024 + 1) < d b := by
        show ¬ (d a = 2147483647 ∨ d b ≤ d a + (t * 1024 + 1)) ↔ _
        constructor <;> intro q <;> omega
      by_cases q : d a + (t * 1024 + 1) < d b
      · rw [B_t q, if_pos q] at hB
        refine ⟨_, by rw [hB, B_t (hi.mpr q)], ?_, FRL_enc hv.1 hv.2⟩
        have e : rlx 2147483647 d (a, b, t * 1024 + 1) = up d b (d a + (t * 1024 + 1)) := by unfold rlx; rw [if_neg (hi.mpr q)]
        rw [e]; exact LY_enc hL hv.1 hv.2 (by omega)
      · rw [B_f q, if_neg q] at hB
        exact ⟨V, by rw [hB, B_f (fun z => q (hi.mp z))], by rw [imp_no (fun z => q (hi.mp z))]; exact hL, FRL_refl⟩
theorem pass_M (H : Sh sh) (K : KOk S) (hk0 : 0 ≤ k) (hk1 : k ≤ 41) (hb : base ≤ 492) (hj : j ≤ 41) (hd0 : 0 ≤ day) (hd1 : day < 2147483648) (hd : Iv (S 0).toNat base j d) {kk : Int → Int → Int → Int → Mem → Option (Int × Mem)} : ∀ (n z : Nat) (c : Int) (V : Int → Int → Int), (z : Int) ≤ S 7 → (S 7).toNat - z < n → PM V → LY V k (pss 2147483647 (edg S (wtH S day) z) d) → Iv (S 0).toNat base j (pss 2147483647 (edg S (wtH S day) z) d) → ((c = 0 ∧ pss 2147483647 (edg S (wtH S day) z) d = d) ∨ (c = 1 ∧ Chg d (pss 2147483647 (edg S (wtH S day) z) d))) → ∃ c' V', ((c' = 0 ∧ pss 2147483647 (edg S (wtH S day) (S 7).toNat) d = d) ∨ (c' = 1 ∧ Chg d (pss 2147483647 (edg S (wtH S day) (S 7).toNat) d))) ∧ M_cheap_L78 kk n 101 day k c z (sh, setR V 102 S) = kk 101 day k c' (sh, setR V' 102 S) ∧ LY V' k (pss 2147483647 (edg S (wtH S day) (S 7).toNat) d) ∧ FRL k V V' := by
  obtain ⟨z1, z2, z3, z4, -⟩ := id K
  intro n
  induction n with
  | zero => intro z _ _ _ h; omega
  | succ n ih =>
    intro z c V hz hn P hL hv hc
    rw [M_cheap_L78, bg101 H, blp P H (by decide) (by decide)]
    by_cases g : (z : Int) < S 7
    · have g0 : 0 ≤ (z : Int) := by omega
      have hr := K.2.2.2.2.2.2.2.2.2.2.2.2.2 z g0 g
      have ht := sToll_rng (d := day) K g0 g
      rw [if_pos g, bi101 H, M_isOpen_b H P g0 (by omega), w32_id (x := (z : Int) + 1) (by omega) (by omega)]
      have hp := pss_edg (S := S) (wt := wtH S day) 2147483647 d z
      by_cases q : S (128 + (z : Int)) = 0
      · rw [if_pos q] at hp
        have hm := mem_edg (S := S) (wt := wtH S day) (S 7).toNat z (by omega) q
        have I1 := Iv_edg (day := day) K hb hj _ _ hv hm.1
        have I2 := Iv_edg (day := day) K hb hj _ _ I1 hm.2
        generalize hX : pss 2147483647 (edg S (wtH S day) z) d = X at *
        rw [B_t q, if_neg (c := (1 : Int) = 0) (by decide), bg101 H, w32_id (x := 8 + (z : Int)) (by omega) (by omega), blp P H (by omega) (by omega), w32_id (x := 12 * k) (by omega) (by omega), w32_id (x := 12 * k + S (8 + (z : Int))) (by omega) (by omega), bd_mk, bg101 H, w32_id (x := 32 + (z : Int)) (by omega) (by omega), blp P H (by omega) (by omega), w32_id (x := 12 * k + S (32 + (z : Int))) (by omega) (by omega), bd_mk, bi101 H, M_tollOn_b H P g0 (by omega) hd0 hd1, bg101 H, q_101_22 P, ml111 H (by omega) (by omega)]
        -- the first relaxing
        have e1 : ∃ V1 y, (∀ f : Int → Mem → Option (Int × Mem), bd2 (if V 111 (12 * k + S (8 + (z : Int))) = 0 then some (c, (sh, setR V 102 S)) else bd (isk 12 (sh, setR V 102 S) 101) fun _ => bd2 (M_better 101 (12 * k + S (8 + (z : Int))) (12 * k + S (32 + (z : Int))) (sToll S z day) 1 (sh, setR V 102 S)) fun x17 μ18 => if x17 = 0 then (if c = 0 then some (0, μ18) else some (1, μ18)) else some (1, μ18)) f = f y (sh, setR V1 102 S)) ∧ LY V1 k (rlx 2147483647 X (S (8 + z), S (32 + z), wtH S day z)) ∧ FRL k V V1 ∧ ((y = 0 ∧ rlx 2147483647 X (S (8 + z), S (32 + z), wtH S day z) = d) ∨ (y = 1 ∧ Chg d (rlx 2147483647 X (S (8 + z), S (32 + z), wtH S day z)))) := by
          rcases hL (S (8 + z)) (by omega) (by omega) with ⟨a1, a2⟩ | ⟨a1, a2, a3, a4⟩
          · have hno : ¬ imp 2147483647 X (S (8 + z), S (32 + z), wtH S day z) := fun w => w (Or.inl a1)
            refine ⟨V, c, fun f => by rw [a2, if_pos rfl, bd2_mk], by rw [imp_no hno]; exact hL, FRL_refl, by rw [imp_no hno]; exact hc⟩
          · obtain ⟨V1, b1, b2, b3⟩ := layer_x (S := S) (a := S (8 + z)) (b := S (32 + z)) (t := sToll S z day) H P hk0 hk1 hL hv (by omega) hb hj (by omega) (by omega) ht a1
            by_cases p : imp 2147483647 X (S (8 + z), S (32 + z), sToll S z day * 1024 + 1)
            · refine ⟨V1, 1, fun f => by rw [a2, if_neg (by decide), bi101 H, b1, bd2_mk, B_t p, if_neg (by decide), bd2_mk], b2, b3, Or.inr ⟨rfl, ?_⟩⟩
              have l1 : rlx 2147483647 X (S (8 + z), S (32 + z), sToll S z day * 1024 + 1) (S (32 + z)) < X (S (32 + z)) := imp_lt p
              refine ⟨S (32 + z), Int.lt_of_lt_of_le l1 ?_⟩
              rw [← hX]; exact pss_le _ _ _
            · refine ⟨V1, c, fun f => ?_, b2, b3, by rw [show rlx 2147483647 X (S (8 + z), S (32 + z), wtH S day z) = X from imp_no p]; exact hc⟩
              rw [a2, if_neg (by decide), bi101 H, b1, bd2_mk, B_f p, if_pos rfl]
              rcases hc with ⟨rfl, -⟩ | ⟨rfl, -⟩
              · rw [if_pos rfl, bd2_mk]
              · rw [if_neg (by decide), bd2_mk]
        obtain ⟨V1, y, f1, f2, f3, f4⟩ := e1
        have P1 := FRL_PM P f3
        rw [f1, bg101 H, q_101_22 P1, ml111 H (by omega) (by omega)]
        rw [← hp] at I2
        have step : ∀ (c' : Int) (V2 : Int → Int → Int), PM V2 → LY V2 k (pss 2147483647 (edg S (wtH S day) (z + 1)) d) → FRL k V V2 → ((c' = 0 ∧ pss 2147483647 (edg S (wtH S day) (z + 1)) d = d) ∨ (c' = 1 ∧ Chg d (pss 2147483647 (edg S (wtH S day) (z + 1)) d))) → ∃ c'' V', ((c'' = 0 ∧ pss 2147483647 (edg S (wtH S day) (S 7).toNat) d = d) ∨ (c'' = 1 ∧ Chg d (pss 2147483647 (edg S (wtH S day) (S 7).toNat) d))) ∧ M_cheap_L78 kk n 101 day k c' ((z : Int) + 1) (sh, setR V2 102 S) = kk 101 day k c'' (sh, setR V' 102 S) ∧ LY V' k (pss 2147483647 (edg S (wtH S day) (S 7).toNat) d) ∧ FRL k V V' := fun c' V2 q1 q2 q3 q4 => by
          obtain ⟨c'', V', s1, s2, s3, s4⟩ := ih (z + 1) c' V2 (by omega) (by omega) q1 q2 I2 q4
          exact ⟨c'', V', s1, s2, s3, FRL_trans q3 s4⟩
        rcases f2 (S (32 + z)) (by omega) (by omega) with ⟨a1, a2⟩ | ⟨a1, a2, a3, a4⟩
        · have hno : ¬ imp 2147483647 (rlx 2147483647 X (S (8 + z), S (32 + z), wtH S day z)) (S (32 + z), S (8 + z), wtH S day z) := fun w => w (Or.inl a1)
          rw [a2, if_pos rfl]
          exact step y V1 P1 (by rw [hp, imp_no hno]; exact f2) f3 (by rw [hp, imp_no hno]; exact f4)
        · obtain ⟨V2, b1, b2, b3⟩ := layer_x (S := S) (a := S (32 + z)) (b := S (8 + z)) (t := sToll S z day) H P1 hk0 hk1 f2 I1 (by omega) hb hj (by omega) (by omega) ht a1
          rw [a2, if_neg (by decide), bi101 H, b1, bd2_mk]
          have b2' : LY V2 k (pss 2147483647 (edg S (wtH S day) (z + 1)) d) := by rw [hp]; exact b2
          by_cases p : imp 2147483647 (rlx 2147483647 X (S (8 + z), S (32 + z), wtH S day z)) (S (32 + z), S (8 + z), sToll S z day * 1024 + 1)
          · rw [B_t p, if_neg (by decide)]
            refine step 1 V2 (FRL_PM P1 b3) b2' (FRL_trans f3 b3) (Or.inr ⟨rfl, S (8 + z), ?_⟩)
            have l1 : rlx 2147483647 (rlx 2147483647 X (S (8 + z), S (32 + z), wtH S day z)) (S (32 + z), S (8 + z), wtH S day z) (S (8 + z)) < rlx 2147483647 X (S (8 + z), S (32 + z), wtH S day z) (S (8 + z)) := imp_lt p
            rw [hp]
            refine Int.lt_of_lt_of_le l1 (Int.le_trans (rlx_le _) ?_)
            rw [← hX]; exact pss_le _ _ _
          · have e2 : pss 2147483647 (edg S (wtH S day) (z + 1)) d = rlx 2147483647 X (S (8 + z), S (32 + z), wtH S day z) := by rw [hp]; exact imp_no p
            rw [B_f p, if_pos rfl]
            rcases f4 with ⟨rfl, f4⟩ | ⟨rfl, f4⟩
            · rw [if_pos rfl]; exact step 0 V2 (FRL_PM P1 b3) b2' (FRL_trans f3 b3) (Or.inl ⟨rfl, by rw [e2]; exact f4⟩)
            · rw [if_neg (by decide)]; exact step 1 V2 (FRL_PM P1 b3) b2' (FRL_trans f3 b3) (Or.inr ⟨rfl, by rw [e2]; exact f4⟩)
      · rw [if_neg q] at hp
        rw [B_f q, if_pos rfl]
        rw [← hp] at hL hv hc
        exact ih (z + 1) c V (by omega) (by omega) P hL hv hc
    · have : z = (S 7).toNat := by omega
      subst this
      rw [if_neg g]
      exact ⟨c, V, hc, rfl, hL, FRL_refl⟩
theorem settle_M (H : Sh sh) (K : KOk S) (h0 : 0 < S 0) (hk0 : 0 ≤ k) (hk1 : k ≤ 41) (hb : base ≤ 492) (hj : j ≤ 41) (hd0 : 0 ≤ day) (hd1 : day < 2147483648) (hd : Iv (S 0).toNat base j d) (P : PM V) (hL : LY V k d) {kk : Int → Int → Int → Mem → Option (Int × Mem)} : ∃ V', M_cheap_L67 kk FU 101 day k 1 (sh, setR V 102 S) = kk 101 day k (sh, setR V' 102 S) ∧ LY V' k (stl S (wtH S day) d) ∧ FRL k V V' := by
  obtain ⟨z1, z2, z3, z4, -⟩ := id K
  have hG := Gr_edg (S := S) (wt := wtH S day) K (fun r hr => (wtH_rng K (by omega) hr).1) (m := (S 7).toNat) (by omega)
  have hmain := bf_main (F := 2147483647) (d := d) hG (by omega) (Rg_F (Iv_Rg hd (by omega) hb hj))
  have fix : ∀ k' : Nat, (k' : Int) < S 0 → iter (pss 2147483647 (edg S (wtH S day) (S 7).toNat)) d (k' + 1) = iter (pss 2147483647 (edg S (wtH S day) (S 7).toNat)) d k' → iter (pss 2147483647 (edg S (wtH S day) (S 7).toNat)) d (k' + 1) = stl S (wtH S day) d := fun k' h1 h2 => by
    have := iter_stay h2 ((S 0).toNat - 1 - k')
    rw [show k' + ((S 0).toNat - 1 - k') = (S 0).toNat - 1 by omega] at this
    unfold stl; rw [this, h2]
  have L : ∀ (n w : Nat) (V : Int → Int → Int), (w : Int) < S 0 → (S 0).toNat - w < n → PM V → LY V k (iter (pss 2147483647 (edg S (wtH S day) (S 7).toNat)) d w) → ∃ V', M_cheap_L67 kk (n + 1) 101 day k 1 (sh, setR V 102 S) = kk 101 day k (sh, setR V' 102 S) ∧ LY V' k (stl S (wtH S day) d) ∧ FRL k V V' := by
    intro n
    induction n with
    | zero => intro w _ _ h; omega
    | succ n ih =>
      intro w V hw hn P hL
      have Ik := Iv_iter (d := d) (Iv (S 0).toNat base j) (Iv_edg (day := day) K hb hj) hd w
      obtain ⟨c', V1, a1, a2, a3, a4⟩ := pass_M (day := day) (kk := fun x1 x2 x3 x4 μ5 => M_cheap_L67 kk (n + 1) x1 x2 x3 x4 μ5) H K hk0 hk1 hb hj hd0 hd1 Ik FU 0 0 V (by omega) (by show _ < 1000000; omega) P hL Ik (Or.inl ⟨rfl, rfl⟩)
      rw [show ((0 : Nat) : Int) = 0 from rfl] at a2
      rw [M_cheap_L67, if_neg (by decide), a2]
      have P1 := FRL_PM P a4
      rcases a1 with ⟨rfl, e2⟩ | ⟨rfl, e2⟩
      · rw [M_cheap_L67, if_pos rfl]
        have : pss 2147483647 (edg S (wtH S day) (S 7).toNat) (iter (pss 2147483647 (edg S (wtH S day) (S 7).toNat)) d w) = stl S (wtH S day) d := fix w hw e2
        rw [this] at a3
        exact ⟨V1, rfl, a3, a4⟩
      · have hw' : ((w + 1 : Nat) : Int) < S 0 := by
          refine Classical.byContradiction (fun hc => ?_)
          have ew : w = (S 0).toNat - 1 := by omega
          obtain ⟨v, e2⟩ := e2
          rw [ew, hmain] at e2
          omega
        obtain ⟨V', b1, b2, b3⟩ := ih (w + 1) V1 hw' (by omega) P1 a3
        exact ⟨V', b1, b2, FRL_trans a4 b3⟩
  exact L 999999 0 V (by omega) (by omega) P hL
/-- towns below z alone -/
def tsd (z : Int) (d : Int → Int) : Int → Int := fun v => if v < z then d v else 2147483647
theorem toss_M (H : Sh sh) (h0 : 0 ≤ S 0) (h1 : S 0 ≤ 12) (hk0 : 1 ≤ k) (hk1 : k ≤ 41) (hR : Rg d) {kk : Int → Int → Int → Mem → Option (Int × Mem)} : ∀ (n z : Nat) (V : Int → Int → Int), (z : Int) ≤ S 0 → (S 0).toNat - z < n → PM V → LY V k d → LY V (k - 1) (tsd z d) → ∃ V', M_cheap_L239 kk n 101 day k z (sh, setR V 102 S) = kk 101 day k (sh, setR V' 102 S) ∧ LY V' (k - 1) (tsd (S 0) d) ∧ FRL (k - 1) V V' := by
  intro n
  induction n with
  | zero => intro z _ _ h; omega
  | succ n ih =>
    intro z V hz hn P hL hT
    rw [M_cheap_L239, bg101 H, blp P H (by decide) (by decide)]
    by_cases g : (z : Int) < S 0
    · rw [if_pos g, bg101 H, q_101_22 P, w32_id (x := 12 * k) (by omega) (by omega), w32_id (x := 12 * k + z) (by omega) (by omega), ml111 H (by omega) (by omega), w32_id (x := 12 * k - 12) (by omega) (by omega), w32_id (x := 12 * k - 12 + z) (by omega) (by omega), w32_id (x := (z : Int) + 1) (by omega) (by omega)]
      have hs : ∀ x, x = d z → up (tsd z d) z x = tsd ((z + 1 : Nat) : Int) d := fun x hx => by
        funext v; unfold up tsd
        by_cases e : v = z
        · subst e; rw [if_pos rfl, if_pos (by omega), hx]
        · rw [if_neg e]
          by_cases l : v < (z : Int)
          · rw [if_pos l, if_pos (by omega)]
          · rw [if_neg l, if_neg (by omega)]
      rcases hL z (by omega) (by omega) with ⟨a1, a2⟩ | ⟨a1, a2, a3, a4⟩
      · rw [a2, if_pos rfl]
        refine ih (z + 1) V (by omega) (by omega) P hL ?_
        rw [← hs (d z) rfl, a1]
        have : up (tsd z d) z 2147483647 = tsd z d := by
          funext v; unfold up tsd
          by_cases e : v = z
          · subst e; rw [if_pos rfl, if_neg (by omega)]
          · rw [if_neg e]
        rw [this]; exact hT
      · have hB := better_x (S := S) (f := 12 * k + z) (g := 12 * k - 12 + z) (m := 0) (s := 0) (x := d z) (y := tsd z d z) (z := d z) H P (by omega) (by omega) (by omega) (by omega) a3 a4 (by have := hT z (by omega) (by omega); rw [show 12 * (k - 1) + (z : Int) = 12 * k - 12 + z by omega] at this; exact this) (by omega) (by omega) (by rcases hR z with e | e; exact absurd e a1; exact e)
        have hy : tsd z d z = 2147483647 := by unfold tsd; rw [if_neg (by omega)]
        have hlt : d z < tsd z d z := by rw [hy]; rcases hR z with e | e; exact absurd e a1; omega
        rw [B_t hlt, if_pos hlt] at hB
        rw [a2, if_neg (by decide), bi101 H, hB, bd2_mk]
        have eg : 12 * k - 12 + (z : Int) = 12 * (k - 1) + z := by omega
        rw [eg]
        obtain ⟨V', b1, b2, b3⟩ := ih (z + 1) (enc V (12 * (k - 1) + z) (d z)) (by omega) (by omega) (by rw [PM_enc]; exact P) (LY_fr hL (FRL_enc (k := k - 1) (by omega) (by omega)) (by omega)) (by rw [← hs (d z) rfl]; exact LY_enc hT (by omega) (by omega) a1)
        exact ⟨V', b1, b2, FRL_trans (FRL_enc (by omega) (by omega)) b3⟩
    · have : (z : Int) = S 0 := by omega
      rw [if_neg g]
      rw [this] at hT
      exact ⟨V, rfl, hT, FRL_refl⟩
theorem tsd_Iv (h : Iv (S 0).toNat base j d) (h0 : 0 ≤ S 0) : tsd (S 0) d = d := by
  funext v; unfold tsd
  split
  · rfl
  · rcases h v with e | e
    · exact e.symm
    · have := e.1; omega
end CHEAP
