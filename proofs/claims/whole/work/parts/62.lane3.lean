/-! PURE: lane, both sides -/
section LANE3
variable {sh : List (Nat × Nat)} {V V' V1 V2 V2' : Int → Int → Int} {r t s c i j k x a b y D D' f p v q h u o day z m g w : Int} {S S' R W : Int → Int} {n : Nat} {d d' d0 : Int → Int}
theorem passL_M (H : Sh sh) (K : KOk S) (hd0 : 0 ≤ day) (hd1 : day < 2147483648) {kk : Int → Int → Int → Mem → Option (Int × Mem)} : ∀ (n z : Nat) (c : Int) (V : Int → Int → Int), (z : Int) ≤ S 7 → (S 7).toNat - z < n → PM V → LNs V (pss 2147483647 (edL S (wtL S day) z) d) → IvL (S 0).toNat (pss 2147483647 (edL S (wtL S day) z) d) → ((c = 0 ∧ pss 2147483647 (edL S (wtL S day) z) d = d) ∨ (c = 1 ∧ Chg d (pss 2147483647 (edL S (wtL S day) z) d))) → ∃ c' V', ((c' = 0 ∧ pss 2147483647 (edL S (wtL S day) (S 7).toNat) d = d) ∨ (c' = 1 ∧ Chg d (pss 2147483647 (edL S (wtL S day) (S 7).toNat) d))) ∧ M_laysLanes_L62 kk n 101 day c z (sh, setR V 102 S) = kk 101 day c' (sh, setR V' 102 S) ∧ LNs V' (pss 2147483647 (edL S (wtL S day) (S 7).toNat) d) ∧ FRE V V' := by
  obtain ⟨z1, z2, z3, z4, -⟩ := id K
  intro n
  induction n with
  | zero => intro z _ _ _ h; omega
  | succ n ih =>
    intro z c V hz hn P hL hv hc
    rw [M_laysLanes_L62, bg101 H, blp P H (by decide) (by decide)]
    by_cases g : (z : Int) < S 7
    · have g0 : 0 ≤ (z : Int) := by omega
      have hr := K.2.2.2.2.2.2.2.2.2.2.2.2.2 z g0 g
      rw [if_pos g, bi101 H, M_isOpen_b H P g0 (by omega), w32_id (x := (z : Int) + 1) (by omega) (by omega)]
      have hp := pss_edL (S := S) (wt := wtL S day) 2147483647 d z
      by_cases q : S (128 + (z : Int)) = 0
      · rw [if_pos q] at hp
        generalize hX : pss 2147483647 (edL S (wtL S day) z) d = X at *
        have I1 := (IvL_e (day := day) K hv g0 g).2
        have I2 := (IvL_e (day := day) K I1 g0 g).1
        have e1 := head_by (t := S (8 + (z : Int))) K g0 g
        rw [if_pos rfl] at e1
        have e2 := head_by (t := S (32 + (z : Int))) K g0 g
        rw [if_neg (by omega)] at e2
        obtain ⟨Va, a1, a2, a3⟩ := lanes_x (day := day) H P K g0 g hd0 hd1 hL hv (by omega) e1 (by omega)
        have Pa := FRE_PM P a3
        obtain ⟨Vb, b1, b2, b3⟩ := lanes_x (day := day) H Pa K g0 g hd0 hd1 a2 I1 (by omega) e2 (by omega)
        have Pb := FRE_PM Pa b3
        rw [← hp] at I2 b2
        have step : ∀ c' : Int, ((c' = 0 ∧ pss 2147483647 (edL S (wtL S day) (z + 1)) d = d) ∨ (c' = 1 ∧ Chg d (pss 2147483647 (edL S (wtL S day) (z + 1)) d))) → ∃ c'' V', ((c'' = 0 ∧ pss 2147483647 (edL S (wtL S day) (S 7).toNat) d = d) ∨ (c'' = 1 ∧ Chg d (pss 2147483647 (edL S (wtL S day) (S 7).toNat) d))) ∧ M_laysLanes_L62 kk n 101 day c' ((z : Int) + 1) (sh, setR Vb 102 S) = kk 101 day c'' (sh, setR V' 102 S) ∧ LNs V' (pss 2147483647 (edL S (wtL S day) (S 7).toNat) d) ∧ FRE V V' := fun c' q4 => by
          obtain ⟨c'', V', s1, s2, s3, s4⟩ := ih (z + 1) c' Vb (by omega) (by omega) Pb b2 I2 q4
          exact ⟨c'', V', s1, s2, s3, FRE_trans a3 (FRE_trans b3 s4)⟩
        rw [B_t q, if_neg (c := (1 : Int) = 0) (by decide), bg101 H, w32_id (x := 8 + (z : Int)) (by omega) (by omega), blp P H (by omega) (by omega), bi101 H, a1, bd2_mk]
        have hy : (if B (imp 2147483647 X (S (32 + (z : Int)), S (8 + (z : Int)), wtL S day z)) = 0 then (if c = 0 then some (0 : Int) else some 1) else some 1) = some (if imp 2147483647 X (S (32 + (z : Int)), S (8 + (z : Int)), wtL S day z) then 1 else c) := by
          by_cases p : imp 2147483647 X (S (32 + (z : Int)), S (8 + (z : Int)), wtL S day z)
          · rw [B_t p, if_neg (by decide), if_pos p]
          · rw [B_f p, if_pos rfl, if_neg p]
            rcases hc with ⟨rfl, -⟩ | ⟨rfl, -⟩ <;> rfl
        rw [hy, bd_mk, bg101 H, w32_id (x := 32 + (z : Int)) (by omega) (by omega), blp Pa H (by omega) (by omega), bi101 H, b1, bd2_mk]
        have hXd : ∀ v, X v ≤ d v := fun v => by rw [← hX]; exact pss_le _ _ _
        by_cases p1 : imp 2147483647 X (S (32 + (z : Int)), S (8 + (z : Int)), wtL S day z)
        · have l1 : rlx 2147483647 X (S (32 + (z : Int)), S (8 + (z : Int)), wtL S day z) (S (8 + (z : Int))) < X (S (8 + (z : Int))) := imp_lt p1
          have hch : Chg d (pss 2147483647 (edL S (wtL S day) (z + 1)) d) := ⟨S (8 + z), by rw [hp]; exact Int.lt_of_le_of_lt (rlx_le _) (Int.lt_of_lt_of_le l1 (hXd _))⟩
          rw [if_pos p1]
          by_cases p2 : imp 2147483647 (rlx 2147483647 X (S (32 + (z : Int)), S (8 + (z : Int)), wtL S day z)) (S (8 + (z : Int)), S (32 + (z : Int)), wtL S day z)
          · rw [B_t p2, if_neg (by decide)]; exact step 1 (Or.inr ⟨rfl, hch⟩)
          · rw [B_f p2, if_pos rfl, if_neg (by decide)]; exact step 1 (Or.inr ⟨rfl, hch⟩)
        · rw [if_neg p1]
          by_cases p2 : imp 2147483647 (rlx 2147483647 X (S (32 + (z : Int)), S (8 + (z : Int)), wtL S day z)) (S (8 + (z : Int)), S (32 + (z : Int)), wtL S day z)
          · have l2 : rlx 2147483647 (rlx 2147483647 X (S (32 + (z : Int)), S (8 + (z : Int)), wtL S day z)) (S (8 + (z : Int)), S (32 + (z : Int)), wtL S day z) (S (32 + (z : Int))) < rlx 2147483647 X (S (32 + (z : Int)), S (8 + (z : Int)), wtL S day z) (S (32 + (z : Int))) := imp_lt p2
            rw [B_t p2, if_neg (by decide)]
            exact step 1 (Or.inr ⟨rfl, S (32 + z), by rw [hp]; exact Int.lt_of_lt_of_le l2 (Int.le_trans (rlx_le _) (hXd _))⟩)
          · have e3 : pss 2147483647 (edL S (wtL S day) (z + 1)) d = X := by rw [hp, imp_no p2, imp_no p1]
            rw [B_f p2, if_pos rfl]
            rcases hc with ⟨rfl, hc⟩ | ⟨rfl, hc⟩
            · rw [if_pos rfl]; exact step 0 (Or.inl ⟨rfl, by rw [e3]; exact hc⟩)
            · rw [if_neg (by decide)]; exact step 1 (Or.inr ⟨rfl, by rw [e3]; exact hc⟩)
      · rw [if_neg q] at hp
        rw [B_f q, if_pos rfl]
        rw [← hp] at hL hv hc
        exact ih (z + 1) c V (by omega) (by omega) P hL hv hc
    · have : z = (S 7).toNat := by omega
      subst this
      rw [if_neg g]
      exact ⟨c, V, hc, rfl, hL, FRE_refl⟩
theorem IvL_edL (K : KOk S) (h : IvL (S 0).toNat d) : ∀ k, IvL (S 0).toNat (iter (pss 2147483647 (edL S (wtL S day) (S 7).toNat)) d k) := by
  have hp : ∀ (E : List (Int × Int × Int)) (d : Int → Int), (∀ e ∈ E, e ∈ edL S (wtL S day) (S 7).toNat) → IvL (S 0).toNat d → IvL (S 0).toNat (pss 2147483647 E d) := by
    intro E
    induction E with
    | nil => intro d _ h; exact h
    | cons e E ih => intro d hs h; exact ih (rlx 2147483647 d e) (fun e' he => hs e' (List.mem_cons_of_mem _ he)) (IvL_edg K d e h ((edL_mem _).mp (hs e List.mem_cons_self)))
  intro k
  induction k with
  | zero => exact h
  | succ k ih => exact hp _ _ (fun _ h => h) ih
theorem settleL_M (H : Sh sh) (K : KOk S) (hd0 : 0 ≤ day) (hd1 : day < 2147483648) (h0 : 0 ≤ t) (h1 : t < S 0) (P : PM V) (hL : LNs V (d0H t)) : ∃ V', M_laysLanes_L53 FU 101 day 1 (sh, setR V 102 S) = some (0, (sh, setR V' 102 S)) ∧ LNs V' (lnR S day t) ∧ FRE V V' := by
  obtain ⟨z1, z2, z3, z4, -⟩ := id K
  obtain ⟨m1, m2⟩ := lnR_edL (day := day) K h0 h1
  have hd := IvL_d0 (n := (S 0).toNat) h0 (by omega)
  have fix : ∀ k' : Nat, (k' : Int) < S 0 → iter (pss 2147483647 (edL S (wtL S day) (S 7).toNat)) (d0H t) (k' + 1) = iter (pss 2147483647 (edL S (wtL S day) (S 7).toNat)) (d0H t) k' → iter (pss 2147483647 (edL S (wtL S day) (S 7).toNat)) (d0H t) (k' + 1) = lnR S day t := fun k' h1 h2 => by
    have := iter_stay h2 ((S 0).toNat - 1 - k')
    rw [show k' + ((S 0).toNat - 1 - k') = (S 0).toNat - 1 by omega, m1] at this
    rw [this, h2]
  have L : ∀ (n w : Nat) (V : Int → Int → Int), (w : Int) < S 0 → (S 0).toNat - w < n → PM V → LNs V (iter (pss 2147483647 (edL S (wtL S day) (S 7).toNat)) (d0H t) w) → ∃ V', M_laysLanes_L53 (n + 1) 101 day 1 (sh, setR V 102 S) = some (0, (sh, setR V' 102 S)) ∧ LNs V' (lnR S day t) ∧ FRE V V' := by
    intro n
    induction n with
    | zero => intro w _ _ h; omega
    | succ n ih =>
      intro w V hw hn P hL
      have Ik := IvL_edL (day := day) K hd w
      obtain ⟨c', V1, a1, a2, a3, a4⟩ := passL_M (day := day) (kk := fun x1 x2 x3 μ4 => M_laysLanes_L53 (n + 1) x1 x2 x3 μ4) H K hd0 hd1 FU 0 0 V (by omega) (by show _ < 1000000; omega) P hL Ik (Or.inl ⟨rfl, rfl⟩)
      rw [show ((0 : Nat) : Int) = 0 from rfl] at a2
      rw [M_laysLanes_L53, if_neg (by decide), a2]
      have P1 := FRE_PM P a4
      rcases a1 with ⟨rfl, e2⟩ | ⟨rfl, e2⟩
      · rw [M_laysLanes_L53, if_pos rfl]
        have : pss 2147483647 (edL S (wtL S day) (S 7).toNat) (iter (pss 2147483647 (edL S (wtL S day) (S 7).toNat)) (d0H t) w) = lnR S day t := fix w hw e2
        rw [this] at a3
        exact ⟨V1, rfl, a3, a4⟩
      · have hw' : ((w + 1 : Nat) : Int) < S 0 := by
          refine Classical.byContradiction (fun hc => ?_)
          have ew : w = (S 0).toNat - 1 := by omega
          obtain ⟨v, e2⟩ := e2
          rw [ew, m1, m2] at e2
          omega
        obtain ⟨V', b1, b2, b3⟩ := ih (w + 1) V1 hw' (by omega) P1 a3
        exact ⟨V', b1, b2, FRE_trans a4 b3⟩
  exact L 999999 0 V (by omega) (by omega) P hL
theorem laysLanes_x (H : Sh sh) (K : KOk S) (hd0 : 0 ≤ day) (hd1 : day < 2147483648) (h0 : 0 ≤ t) (h1 : t < S 0) (P : PM V) : ∃ V', M_laysLanes 101 t day (sh, setR V 102 S) = some (0, (sh, setR V' 102 S)) ∧ LNs V' (lnR S day t) ∧ FRE V V' := by
  obtain ⟨z1, z2, z3, z4, -⟩ := id K
  have L : ∀ (kk : Int → Int → Int → Mem → Option (Int × Mem)) (n z : Nat) (V : Int → Int → Int), z ≤ 12 → 12 - z < n → PM V → (∀ j : Int, 0 ≤ j → j < z → V 123 j = if j = t then 1 else 0) → ∃ V', M_laysLanes_L2 kk n 101 t day z (sh, setR V 102 S) = kk 101 t day (sh, setR V' 102 S) ∧ (∀ j : Int, 0 ≤ j → j < 12 → V' 123 j = if j = t then 1 else 0) ∧ ∀ a j, a ≠ 123 → V' a j = V a j := by
    intro kk n
    induction n with
    | zero => intro z _ _ h; omega
    | succ n ih =>
      intro z V hz hn P hj
      rw [M_laysLanes_L2]
      by_cases g : (z : Int) < 12
      · have ey : (if (z : Int) = t then some (1 : Int) else some 0) = some (B ((z : Int) = t)) := by unfold B; split <;> rfl
        obtain ⟨V', a1, a2, a3⟩ := ih (z + 1) (upV V 123 z (B ((z : Int) = t))) (by omega) (by omega) (by rw [PM_row (by decide)]; exact P) (fun j g0 g1 => by
          by_cases e : j = z
          · rw [e, up_eq]; rfl
          · rw [up_col e]; exact hj j g0 (by omega))
        rw [if_pos g, bg101 H, q_101_44 P, ey, bd_mk, bokz, ms123 H (by omega) g, w32_id (by omega) (by omega)]
        exact ⟨V', a1, a2, fun a j ha => (a3 a j ha).trans (up_row ha)⟩
      · rw [if_neg g]
        exact ⟨V, rfl, fun j g0 g1 => hj j g0 (by omega), fun _ _ _ => rfl⟩
  unfold M_laysLanes
  obtain ⟨Va, a1, a2, a3⟩ := L (fun x1 x2 x3 μ4 => bd (getf 12 41 μ4 x1) fun x5 => bd (sta 20 μ4 x5 x2 0) fun μ6 => bd (getf 12 42 μ6 x1) fun x7 => bd (sta 20 μ6 x7 x2 0) fun μ8 => bd (getf 12 43 μ8 x1) fun x9 => bd (sta 20 μ8 x9 x2 0) fun μ10 => M_laysLanes_L53 FU x1 x3 1 μ10) FU 0 V (by omega) (by decide) P (fun j g0 g1 => by omega)
  rw [show ((0 : Nat) : Int) = 0 from rfl] at a1
  have Pa : PM Va := by
    have hx : ∀ q ∈ ptM, q.1 = 101 := by decide
    exact fun q hq => (a3 _ _ (by rw [hx q hq]; decide)).trans (P q hq)
  have Pb : PM (upV (upV (upV Va 120 t 0) 121 t 0) 122 t 0) := by rw [PM_row (by decide), PM_row (by decide), PM_row (by decide)]; exact Pa
  obtain ⟨Vb, b1, b2, b3⟩ := settleL_M (day := day) H K hd0 hd1 h0 h1 Pb (fun j g0 g1 => by
    unfold d0H
    have hj := a2 j g0 g1
    by_cases e : j = t
    · subst e
      rw [upS_eq]
      rw [if_pos rfl] at hj
      refine Or.inr ⟨by decide, ?_, ?_, ?_, ?_⟩
      · rw [up_row (by decide), up_row (by decide), up_row (by decide)]; exact hj
      · rw [up_row (by decide), up_row (by decide), up_eq]; rfl
      · rw [up_row (by decide), up_eq]; rfl
      · rw [up_eq]; rfl
    · rw [upS_ne e]
      rw [if_neg e] at hj
      exact Or.inl ⟨rfl, by rw [up_row (by decide), up_row (by decide), up_row (by decide)]; exact hj⟩)
  rw [a1, bg101 H, q_101_41 Pa, ms120 H h0 (by omega), bg101 H, up_row (by decide), q_101_42 Pa, ms121 H h0 (by omega), bg101 H, up_row (by decide), up_row (by decide), q_101_43 Pa, ms122 H h0 (by omega), b1]
  exact ⟨Vb, rfl, b2, fun a j q => by rw [b3 a j q, up_row (by omega), up_row (by omega), up_row (by omega)]; exact a3 a j (by omega)⟩
theorem isLane_x (H : Sh sh) (P : PM V) (K : KOk S) (h0 : 0 ≤ r) (h1 : r < S 7) (hd0 : 0 ≤ day) (hd1 : day < 2147483648) (g0 : 0 ≤ u) (g1 : u < S 0) (hL : LNs V (lnR S day u)) (ht : 0 ≤ t ∧ t < S 0) (ho : S (128 + r) = 0) (hl : S (8 + r) = t ∨ S (32 + r) = t) : ∃ y, M_isLane 101 t r day (sh, setR V 102 S) = some (y, (sh, setR V 102 S)) ∧ ((y = 1 ∧ lnR S day u t ≠ 2147483647 ∧ onL S day u t r) ∨ (y = 0 ∧ (lnR S day u t ≠ 2147483647 → ¬ onL S day u t r))) := by
  obtain ⟨z1, z2, z3, z4, -⟩ := id K
  obtain ⟨hI, -⟩ := lnR_ok (day := day) K g0 g1
  have hd := sDart_rng (S := S) (t := t) h0 (by omega : r < 24)
  have hr := K.2.2.2.2.2.2.2.2.2.2.2.2.2 r h0 h1
  have hT := sToll_rng (d := day) K h0 h1
  have ha' : 0 ≤ sHead S (sDart S r t) ∧ sHead S (sDart S r t) < S 0 := by
    rw [head_by K h0 h1]; split <;> omega
  unfold M_isLane onL
  rw [bi101 H, M_dartBy_b H P h0 (by omega), bi101 H, M_headOf_b H P hd.1 hd.2]
  generalize sHead S (sDart S r t) = a at ha' ⊢
  rw [bg101 H, q_101_44 P, ml123 H ht.1 (by omega)]
  rcases hL t ht.1 (by omega) with ⟨e1, e2⟩ | ⟨e1, e2, e3, e4, e5⟩
  · rw [e2, if_pos rfl]; exact ⟨0, rfl, Or.inr ⟨rfl, fun q => absurd e1 q⟩⟩
  · rw [e2, if_neg (by decide), bg101 H, q_101_44 P, ml123 H ha'.1 (by omega)]
    rcases hL a ha'.1 (by omega) with ⟨f1, f2⟩ | ⟨f1, f2, f3, f4, f5⟩
    · rw [f2, if_pos rfl]; exact ⟨0, rfl, Or.inr ⟨rfl, fun _ q => q.2.2.1 f1⟩⟩
    · rcases hI t with e | pt
      · exact absurd e e1
      · rcases hI a with e | pa
        · exact absurd e f1
        · have rt := PvL_rng pt (by omega)
          have ra := PvL_rng pa (by omega)
          have hw : sToll S r day * 16384 + S (104 + r) * 16 + 1 = wtL S day r := rfl
          have hw0 := (wtL_rng (day := day) K h0 h1).1
          have key : (S (128 + r) = 0 ∧ (S (8 + r) = t ∨ S (32 + r) = t) ∧ lnR S day u a ≠ 2147483647 ∧ lnR S day u a + wtL S day r = lnR S day u t) ↔ (lnR S day u t / 16384 = lnR S day u a / 16384 + sToll S r day ∧ lnR S day u t / 16 % 1024 = lnR S day u a / 16 % 1024 + S (104 + r) ∧ lnR S day u t % 16 = lnR S day u a % 16 + 1) := by
            constructor
            · rintro ⟨-, -, -, q⟩
              have h10 : lnR S day u a % 16 ≤ 10 := by
                refine Classical.byContradiction (fun hc => ?_)
                have := full pa (by omega) (by omega) (b := t) (by omega)
                omega
              have ad := add_lane (x := lnR S day u a) (t := sToll S r day) (u := S (104 + r)) h10 pa.2.2.2.1 (by omega)
              rw [hw, q] at ad
              exact ⟨ad.2.2, ad.2.1, ad.1⟩
            · rintro ⟨q1, q2, q3⟩
              refine ⟨ho, hl, f1, ?_⟩
              rw [← hw]
              have s1 : lnR S day u t = lnR S day u t / 16384 * 16384 + lnR S day u t / 16 % 1024 * 16 + lnR S day u t % 16 := by
                generalize lnR S day u t = Y
                clear hL hI pt pa rt ra q1 q2 q3
                omega
              have s2 : lnR S day u a = lnR S day u a / 16384 * 16384 + lnR S day u a / 16 % 1024 * 16 + lnR S day u a % 16 := by
                generalize lnR S day u a = Y
                clear hL hI pt pa rt ra q1 q2 q3 s1
                omega
              rw [s1, s2, q1, q2, q3]
              generalize lnR S day u a / 16384 = A
              generalize lnR S day u a / 16 % 1024 = B'
              generalize lnR S day u a % 16 = C
              clear hL hI pt pa rt ra q1 q2 q3 s1 s2 hw hw0
              omega
          rw [f2, if_neg (by decide), bg101 H, q_101_41 P, ml120 H ht.1 (by omega), e3, bg101 H, q_101_41 P, ml120 H ha'.1 (by omega), f3, bi101 H, M_tollOn_b H P h0 (by omega) hd0 hd1, w32_id (x := lnR S day u a / 16384 + sToll S r day) (by omega) (by omega)]
          by_cases c1 : lnR S day u t / 16384 = lnR S day u a / 16384 + sToll S r day
          · rw [if_pos c1, bg101 H, q_101_42 P, ml121 H ht.1 (by omega), e4, bg101 H, q_101_42 P, ml121 H ha'.1 (by omega), f4, bg101 H, w32_id (x := 104 + r) (by omega) (by omega), blp P H (by omega) (by omega), w32_id (x := lnR S day u a / 16 % 1024 + S (104 + r)) (by omega) (by omega)]
            by_cases c2 : lnR S day u t / 16 % 1024 = lnR S day u a / 16 % 1024 + S (104 + r)
            · rw [if_pos c2, bg101 H, q_101_43 P, ml122 H ht.1 (by omega), e5, bg101 H, q_101_43 P, ml122 H ha'.1 (by omega), f5, w32_id (x := lnR S day u a % 16 + 1) (by omega) (by omega)]
              by_cases c3 : lnR S day u t % 16 = lnR S day u a % 16 + 1
              · rw [if_pos c3]; exact ⟨1, rfl, Or.inl ⟨rfl, e1, key.mpr ⟨c1, c2, c3⟩⟩⟩
              · rw [if_neg c3]; exact ⟨0, rfl, Or.inr ⟨rfl, fun _ q => c3 (key.mp q).2.2⟩⟩
            · rw [if_neg c2]; exact ⟨0, rfl, Or.inr ⟨rfl, fun _ q => c2 (key.mp q).2.1⟩⟩
          · rw [if_neg c1]; exact ⟨0, rfl, Or.inr ⟨rfl, fun _ q => c1 (key.mp q).1⟩⟩
/-- both sides find the same road on -/
theorem firstL_x (X : Cx sh V S D) (H : Sh sh) (P : PM V2) (hd0 : 0 ≤ day) (hd1 : day < 2147483648) (g0 : 0 ≤ u) (g1 : u < S 0) (hW : ∀ r : Nat, (r : Int) < S 7 → W r = wtL S day r) (hL : LNs V2 (lnR S day u)) (ht : 0 ≤ t ∧ t < S 0) (hf : lnR S day u t ≠ 2147483647) {v2 v3 v4 v6 : Int} : ∀ (n z : Nat), (z : Int) ≤ S 7 → (S 7).toNat - z < n → (∃ r : Nat, z ≤ r ∧ (r : Int) < S 7 ∧ onL S day u t r ∧ Wy_firstLaneRoad_L2 n 64 2 t z (sh, Mw V (lnR S day u) R W) = some ((r : Int), (sh, Mw V (lnR S day u) R W)) ∧ ∀ kk, M_lane_L153 kk n 101 v2 day v4 t v6 z (sh, setR V2 102 S) = kk 101 v2 day v4 t v6 r (sh, setR V2 102 S)) ∨ ((∀ r : Nat, z ≤ r → (r : Int) < S 7 → ¬ onL S day u t r) ∧ Wy_firstLaneRoad_L2 n 64 2 t z (sh, Mw V (lnR S day u) R W) = some (-1, (sh, Mw V (lnR S day u) R W))) := by
  have K := X.2.2.2.1.1
  obtain ⟨r1, r2, r3, r4, r5, r6, r7⟩ := Cx_rng X
  obtain ⟨hI, -⟩ := lnR_ok (day := day) K g0 g1
  have XM : Cx sh (Mw V (lnR S day u) R W) S D := Cx_Mw X
  intro n
  induction n with
  | zero => intro z _ h; omega
  | succ n ih =>
    intro z hz hn
    rw [Wy_firstLaneRoad_L2, b20 XM, b37 XM]
    by_cases g : (z : Int) < S 7
    · have z0 : 0 ≤ (z : Int) := by omega
      have hr := Cx_rd X z0 g
      rw [if_pos g, bi2 XM, x_isOpen XM z0 g]
      have nxt : ¬ onL S day u t z → (∀ kk, M_lane_L153 kk (n + 1) 101 v2 day v4 t v6 z (sh, setR V2 102 S) = M_lane_L153 kk n 101 v2 day v4 t v6 ((z : Int) + 1) (sh, setR V2 102 S)) → (∃ r : Nat, z ≤ r ∧ (r : Int) < S 7 ∧ onL S day u t r ∧ Wy_firstLaneRoad_L2 n 64 2 t (w32 ((z : Int) + 1)) (sh, Mw V (lnR S day u) R W) = some ((r : Int), (sh, Mw V (lnR S day u) R W)) ∧ ∀ kk, M_lane_L153 kk (n + 1) 101 v2 day v4 t v6 z (sh, setR V2 102 S) = kk 101 v2 day v4 t v6 r (sh, setR V2 102 S)) ∨ ((∀ r : Nat, z ≤ r → (r : Int) < S 7 → ¬ onL S day u t r) ∧ Wy_firstLaneRoad_L2 n 64 2 t (w32 ((z : Int) + 1)) (sh, Mw V (lnR S day u) R W) = some (-1, (sh, Mw V (lnR S day u) R W))) := fun q hM => by
        rw [w32_id (by omega) (by omega)]
        rcases ih (z + 1) (by omega) (by omega) with ⟨r, s1, s2, s3, s4, s5⟩ | ⟨s1, s2⟩
        · exact Or.inl ⟨r, by omega, s2, s3, s4, fun kk => (hM kk).trans (s5 kk)⟩
        · refine Or.inr ⟨fun r h1 h2 => ?_, s2⟩
          by_cases e : r = z
          · rw [e]; exact q
          · exact s1 r (by omega) h2
      by_cases q : S (128 + (z : Int)) = 0
      · rw [B_t q, if_neg (c := (1 : Int) = 0) (by decide), b20 XM, bi3 XM, x_leads XM z0 g]
        by_cases q2 : S (8 + (z : Int)) = t ∨ S (32 + (z : Int)) = t
        · have hh := head_by (t := t) K z0 g
          have ha' : 0 ≤ sHead S (sDart S z t) ∧ sHead S (sDart S z t) < S 0 := by rw [hh]; split <;> omega
          rw [B_t q2, if_neg (c := (1 : Int) = 0) (by decide), b20 XM, bi3 XM, x_across XM z0 g, ← hh]
          obtain ⟨y, i1, i2⟩ := isLane_x (day := day) H P K z0 g hd0 hd1 g0 g1 hL ht q q2
          have gR : ∀ f : Int → Option (Int × Mem), bd (getf 9 0 (sh, Mw V (lnR S day u) R W) 64) f = f 65 := fun f => by rw [bgt (by rw [k_64 H]), q_64_0 XM.2.1]
          have lR : ∀ (j : Int) (f : Int → Option (Int × Mem)), 0 ≤ j → j < 12 → bd (lda 20 (sh, Mw V (lnR S day u) R W) 65 j) f = f (lnR S day u j) := fun j f j0 j1 => by rw [blt (by rw [k_65 H]) j0 (by rw [k_65 H]; exact j1), Mw_65, r12_at j0 j1]
          have wR : ∀ f : Int → Option (Int × Mem), (bd (getf 9 1 (sh, Mw V (lnR S day u) R W) 64) fun x => bd (lda 20 (sh, Mw V (lnR S day u) R W) x z) f) = f (wtL S day z) := fun f => by rw [bgt (by rw [k_64 H]), q_64_1 XM.2.1, blt (by rw [k_66 H]) z0 (by rw [k_66 H]; show (z : Int) < 24; omega), Mw_66, hW z g]
          have hMy : ∀ kk, M_lane_L153 kk (n + 1) 101 v2 day v4 t v6 z (sh, setR V2 102 S) = if y = 0 then M_lane_L153 kk n 101 v2 day v4 t v6 ((z : Int) + 1) (sh, setR V2 102 S) else kk 101 v2 day v4 t v6 z (sh, setR V2 102 S) := fun kk => by
            rw [M_lane_L153, bi101 H, M_isOpen_b H P z0 (by omega), B_t q, if_neg (c := (1 : Int) = 0) (by decide), bi101 H, M_leads_b H P z0 (by omega), B_t q2, if_neg (c := (1 : Int) = 0) (by decide), bi101 H, i1, bd2_mk, w32_id (x := (z : Int) + 1) (by omega) (by omega)]
          rw [gR, lR _ _ ha'.1 (by omega)]
          rcases i2 with ⟨rfl, -, o1⟩ | ⟨rfl, o1⟩
          · have o1' := o1
            obtain ⟨-, -, o3, o4⟩ := o1'
            have hwr := wtL_rng (day := day) K z0 g
            have hra := (IvL_Rg hI (by omega)) (sHead S (sDart S z t))
            rw [if_neg o3, gR, lR _ _ ha'.1 (by omega), wR, gR, lR _ _ ht.1 (by omega), w32_id (by omega) (by omega), if_pos o4]
            exact Or.inl ⟨z, by omega, g, o1, rfl, fun kk => by rw [hMy, if_neg (by decide)]⟩
          · have o1 := o1 hf
            by_cases o3 : lnR S day u (sHead S (sDart S z t)) = 2147483647
            · rw [if_pos o3]; exact nxt o1 (fun kk => by rw [hMy, if_pos rfl])
            · have hwr := wtL_rng (day := day) K z0 g
              have hra := (IvL_Rg hI (by omega)) (sHead S (sDart S z t))
              rw [if_neg o3, gR, lR _ _ ha'.1 (by omega), wR, gR, lR _ _ ht.1 (by omega), w32_id (by omega) (by omega), if_neg (fun e => o1 ⟨q, q2, o3, e⟩)]
              exact nxt o1 (fun kk => by rw [hMy, if_pos rfl])
        · rw [B_f q2, if_pos rfl]
          exact nxt (fun w => q2 w.2.1) (fun kk => by rw [M_lane_L153, bi101 H, M_isOpen_b H P z0 (by omega), B_t q, if_neg (c := (1 : Int) = 0) (by decide), bi101 H, M_leads_b H P z0 (by omega), B_f q2, if_pos rfl, w32_id (x := (z : Int) + 1) (by omega) (by omega)])
      · rw [B_f q, if_pos rfl]
        exact nxt (fun w => q w.1) (fun kk => by rw [M_lane_L153, bi101 H, M_isOpen_b H P z0 (by omega), B_f q, if_pos rfl, w32_id (x := (z : Int) + 1) (by omega) (by omega)])
    · rw [if_neg g]
      exact Or.inr ⟨fun r h1 h2 => by omega, rfl⟩
theorem laneRoad_x (X : Cx sh V S D) (H : Sh sh) (P : PM V2) (hd0 : 0 ≤ day) (hd1 : day < 2147483648) (g0 : 0 ≤ u) (g1 : u < S 0) (hW : ∀ r : Nat, (r : Int) < S 7 → W r = wtL S day r) (hL : LNs V2 (lnR S day u)) {K0 : Nat} (hK : K0 ≤ 20) : ∀ (n z : Nat) (t b : Int), z ≤ K0 → K0 + 1 - z < n → (0 ≤ t ∧ t < S 0) → lnR S day u t ≠ 2147483647 → ∃ y, Wy_laneRoad_L9 n 64 2 K0 t b z (sh, Mw V (lnR S day u) R W) = some (y, (sh, Mw V (lnR S day u) R W)) ∧ M_lane_L144 n 101 u day ((K0 : Int) + 10) t z (sh, setR V2 102 S) = some (y, (sh, setR V2 102 S)) := by
  have K := X.2.2.2.1.1
  obtain ⟨r1, r2, r3, r4, r5, r6, r7⟩ := Cx_rng X
  obtain ⟨hI, -⟩ := lnR_ok (day := day) K g0 g1
  have XM : Cx sh (Mw V (lnR S day u) R W) S D := Cx_Mw X
  intro n
  induction n with
  | zero => intro z _ _ _ h; omega
  | succ n ih =>
    intro z t b hz hn ht hf
    have hfst := fun (v2 v3 v4 v6 : Int) => firstL_x (R := R) (v2 := v2) (v3 := v3) (v4 := v4) (v6 := v6) X H P hd0 hd1 g0 g1 hW hL ht hf FU 0 (by omega) (by show _ < 1000000; omega)
    rw [Wy_laneRoad_L9, M_lane_L144, if_neg (by omega), bit (by rw [k_64 H])]
    unfold Wy_firstLaneRoad
    by_cases e : t = u
    · rw [if_pos e]
      rcases hfst u 0 ((K0 : Int) + 10) z with ⟨r, s1, s2, s3, s4, s5⟩ | ⟨s1, s2⟩
      · exfalso
        obtain ⟨-, -, o3, o4⟩ := s3
        have hw := (wtL_rng (day := day) K (r := r) (by omega) s2).1
        have h0 : lnR S day u t ≤ 0 := by
          have := iter_le (F := 2147483647) (E := edg S (wtL S day) (S 7).toNat) (d := d0H u) ((S 0).toNat - 1) u
          have e0 : d0H u u = 0 := by unfold d0H; rw [upS_eq]
          rw [e0] at this
          rw [e]; exact this
        rcases hI (sHead S (sDart S r t)) with q | q
        · exact o3 q
        · have := PvL_rng q (by omega); omega
      · rw [show ((0 : Nat) : Int) = 0 from rfl] at s2
        rw [s2, bd2_mk, if_pos rfl]
        exact ⟨_, rfl, rfl⟩
    · rw [if_neg e]
      rcases hfst u 0 ((K0 : Int) + 10) z with ⟨r, s1, s2, s3, s4, s5⟩ | ⟨s1, s2⟩
      · have hh := head_by (t := t) K (r := r) (by omega) s2
        have hr := Cx_rd X (r := r) (by omega) s2
        have ha' : 0 ≤ sHead S (sDart S r t) ∧ sHead S (sDart S r t) < S 0 := by rw [hh]; split <;> omega
        have hd := sDart_rng (S := S) (t := t) (r := r) (by omega) (by omega)
        rw [show ((0 : Nat) : Int) = 0 from rfl] at s4 s5
        rw [s4, bd2_mk, if_neg (by omega), b20 XM, bi3 XM, x_across XM (by omega) s2, ← hh, s5, w32_id (x := (K0 : Int) + 10 - 10) (by omega) (by omega), w32_id (x := (z : Int) + 1) (by omega) (by omega)]
        by_cases ez : z = K0
        · obtain ⟨n', rfl⟩ : ∃ n', n = n' + 1 := ⟨n - 1, by omega⟩
          rw [if_pos (by omega), Wy_laneRoad_L9, if_pos (by omega)]
          exact ⟨_, rfl, rfl⟩
        · rw [if_neg (by omega), bi101 H, M_dartBy_b H P (by omega) (by omega), bi101 H, M_headOf_b H P hd.1 hd.2]
          exact ih (z + 1) (sHead S (sDart S r t)) r (by omega) (by omega) ha' s3.2.2.1
      · obtain ⟨r, q1, q2⟩ := onL_ex (day := day) K g0 g1 hf e
        exact absurd q2 (s1 r (by omega) q1)
theorem rs_lane (X : Cx sh V S D) (hP : WPt V) (PM' : PM V2) (hd1 : day < 2147483648) (hk : R32 k) : RS sh V V2 S (T_lane 0 a b day k (sh, V)) (M_lane 101 a b day k (sh, setR V2 102 S)) := by
  have P1 := PM0 PM'
  have H := X.1
  have P := X.2.1
  have K := X.2.2.2.1.1
  obtain ⟨r1, r2, r3, r4, r5, r6, r7⟩ := Cx_rng X
  have told : T_lane 0 a b day k (sh, V) = T_lane_J26 0 a b day k (B ((0 ≤ k ∧ k ≤ 2) ∨ (10 ≤ k ∧ k ≤ 20))) (sh, V) := by
    have pl : ∀ (f g : Mem → Option (Int × Mem)), T_lane_J11 (fun x1 x2 x3 x4 x5 μ6 => T_lane_J26 x1 x2 x3 x4 x5 1 μ6) (fun x7 x8 x9 x10 x11 x12 μ13 => T_lane_J26 x7 x8 x9 x10 x11 x12 μ13) 0 a b day k (sh, V) = T_lane_J26 0 a b day k (B (10 ≤ k ∧ k ≤ 20)) (sh, V) := fun _ _ => by
      unfold T_lane_J11 T_isRoadPlace
      by_cases e : k < 10
      · rw [if_pos e, bd2_mk, if_pos rfl, B_f (by omega)]
      · rw [if_neg e, show w32 (10 + 11) = 21 from rfl]
        by_cases e2 : k < 21
        · rw [if_pos e2, bd2_mk, if_neg (by decide), B_t (by omega)]
        · rw [if_neg e2, bd2_mk, if_pos rfl, B_f (by omega)]
    unfold T_lane
    by_cases e : k < 0
    · rw [if_pos e, pl (fun _ => none) (fun _ => none), B_f (by omega), B_f (by omega)]
    · rw [if_neg e]
      by_cases e2 : 2 < k
      · rw [if_pos e2, pl (fun _ => none) (fun _ => none)]
        by_cases e3 : 10 ≤ k ∧ k ≤ 20
        · rw [B_t e3, B_t (Or.inr e3)]
        · rw [B_f e3, B_f (by omega)]
      · rw [if_neg e2, B_t (by omega)]
  rw [told]
  unfold T_lane_J26 M_lane
  rw [bp101 H, b04 X, b20 X, bi3 X, x_hasTown X, bg101 H, blp P1 H (by decide) (by decide), w32_id (x := S 0 - 1) (by omega) (by omega), M_within_b]
  by_cases h : 0 ≤ a ∧ a < S 0
  · rw [B_t h, B_t (p := 0 ≤ a ∧ a ≤ S 0 - 1) (by omega), if_neg (c := (1 : Int) = 0) (by decide), if_neg (c := (1 : Int) = 0) (by decide), b04 X, b20 X, bi3 X, x_hasTown X, bg101 H, blp P1 H (by decide) (by decide), w32_id (x := S 0 - 1) (by omega) (by omega), M_within_b]
    by_cases g : 0 ≤ b ∧ b < S 0
    · rw [B_t g, B_t (p := 0 ≤ b ∧ b ≤ S 0 - 1) (by omega), if_neg (c := (1 : Int) = 0) (by decide), if_neg (c := (1 : Int) = 0) (by decide), M_within_b]
      by_cases u : (0 ≤ k ∧ k ≤ 2) ∨ (10 ≤ k ∧ k ≤ 20)
      · have eM : (if B (0 ≤ k ∧ k ≤ 2) = 0 then bd2 (M_within k 10 20 (sh, setR (upV V2 101 0 0) 102 S)) fun x12 μ13 => if x12 = 0 then some ((-2), μ13) else M_lane_J72 101 a b day k μ13 else M_lane_J72 101 a b day k (sh, setR (upV V2 101 0 0) 102 S)) = M_lane_J72 101 a b day k (sh, setR (upV V2 101 0 0) 102 S) := by
          by_cases e : 0 ≤ k ∧ k ≤ 2
          · rw [B_t e, if_neg (by decide)]
          · rw [B_f e, if_pos rfl, M_within_b, B_t (by omega), if_neg (by decide)]
        rw [B_t u, if_neg (c := (1 : Int) = 0) (by decide), eM]
        unfold M_lane_J72
        by_cases hd : day < 0
        · rw [if_pos hd, if_pos hd]; exact RS_same P hP _
        · obtain ⟨W', w1, w2⟩ := seekLanes_x (t := b) X (by omega) hd1 g.1 g.2
          obtain ⟨Vb, l1, l2, l3⟩ := laysLanes_x (t := b) H K (by omega : 0 ≤ day) hd1 g.1 g.2 P1
          have PB := FRE_PM P1 l3
          have FB : FM V2 Vb := FM_trans FM0 (fun a j q => l3 a j (fun e => q (Or.inr (by omega))))
          have XM : Cx sh (Mw V (lnR S day b) (V 65) W') S D := Cx_Mw X
          obtain ⟨hI, -⟩ := lnR_ok (day := day) K g.1 g.2
          have gR : ∀ f : Int → Option (Int × Mem), bd (getf 9 0 (sh, Mw V (lnR S day b) (V 65) W') 64) f = f 65 := fun f => by rw [bgt (by rw [k_64 H]), q_64_0 XM.2.1]
          have lR : ∀ (f : Int → Option (Int × Mem)), bd (lda 20 (sh, Mw V (lnR S day b) (V 65) W') 65 a) f = f (lnR S day b a) := fun f => by rw [blt (by rw [k_65 H]) h.1 (by rw [k_65 H]; show a < 12; omega), Mw_65, r12_at h.1 (by omega)]
          have g12 : ∀ f : Int → Option (Int × Mem), bd (getf 11 12 (sh, Mw V (lnR S day b) (V 65) W') 0) f = f 64 := fun f => by rw [bgt (by rw [k_0 H]), q_0_12 XM.2.1]
          rw [if_neg hd, if_neg hd, bgt (by rw [k_0 H]), q_0_12 P, b04 X, bit (by rw [k_64 H]), w2, bd2_mk, g12, gR, lR, bi101 H, l1, bd2_mk, bg101 H, q_101_44 PB, ml123 H h.1 (by omega)]
          rcases l2 a h.1 (by omega) with ⟨e1, e2⟩ | ⟨e1, e2, e3, e4, e5⟩
          · rw [if_pos e1, e2, if_pos rfl]; exact Mw_fin X hP FB rfl
          · rcases hI a with e | pa
            · exact absurd e e1
            · have ra := PvL_rng pa (by omega)
              have s14 := shr_div (x := lnR S day b a) ⟨by omega, by omega⟩ (s := 14) (by decide)
              have s4 := shr_div (x := lnR S day b a) ⟨by omega, by omega⟩ (s := 4) (by decide)
              rw [show ((14 : Nat) : Int) = 14 from rfl, show (2 : Int) ^ 14 = 16384 from rfl] at s14
              rw [show ((4 : Nat) : Int) = 4 from rfl, show (2 : Int) ^ 4 = 16 from rfl] at s4
              rw [if_neg e1, e2, if_neg (c := (1 : Int) = 0) (by decide)]
              by_cases k0 : k = 0
              · rw [if_pos k0, if_pos (c := k < 3) (by omega), if_pos k0, g12, bit (by rw [k_64 H])]
                unfold Wy_laneTolls
                rw [gR, lR, bd2_mk, s14, bg101 H, q_101_41 PB, ml120 H h.1 (by omega), e3]; exact Mw_fin X hP FB rfl
              · by_cases k1 : k = 1
                · rw [if_neg k0, if_pos k1, if_pos (c := k < 3) (by omega), if_neg k0, if_pos k1, g12, bit (by rw [k_64 H])]
                  unfold Wy_laneDays
                  rw [gR, lR, bd2_mk, s4, and1023, bg101 H, q_101_42 PB, ml121 H h.1 (by omega), e4]; exact Mw_fin X hP FB rfl
                · by_cases k2 : k = 2
                  · rw [if_neg k0, if_neg k1, if_pos k2, if_pos (c := k < 3) (by omega), if_neg k0, if_neg k1, g12, bit (by rw [k_64 H])]
                    unfold Wy_laneRoads
                    rw [gR, lR, bd2_mk, and15, bg101 H, q_101_43 PB, ml122 H h.1 (by omega), e5]; exact Mw_fin X hP FB rfl
                  · obtain ⟨y, y1, y2⟩ := laneRoad_x (R := V 65) (K0 := (k - 10).toNat) X H PB (by omega : 0 ≤ day) hd1 g.1 g.2 w1 l2 (by omega) FU 0 a (-1) (by omega) (by show _ < 1000000; omega) h e1
                    rw [show (((k - 10).toNat : Nat) : Int) = k - 10 by omega] at y1 y2
                    rw [show k - 10 + 10 = k by omega] at y2
                    rw [if_neg k0, if_neg k1, if_neg k2, if_neg (c := k < 3) (by omega), g12, b04 XM, bit (by rw [k_64 H]), w32_id (x := k - 10) (by omega) (by omega)]
                    unfold Wy_laneRoad
                    rw [show ((0 : Nat) : Int) = 0 from rfl] at y1 y2
                    rw [y1, bd2_mk, y2]; exact Mw_fin X hP FB rfl
      · rw [B_f u, if_pos (c := (0 : Int) = 0) rfl, B_f (p := 0 ≤ k ∧ k ≤ 2) (by omega), if_pos (c := (0 : Int) = 0) rfl, M_within_b, B_f (by omega), if_pos (c := (0 : Int) = 0) rfl]; exact RS_same P hP _
    · rw [B_f g, B_f (p := 0 ≤ b ∧ b ≤ S 0 - 1) (by omega), if_pos (c := (0 : Int) = 0) rfl, if_pos (c := (0 : Int) = 0) rfl]; exact RS_same P hP _
  · rw [B_f h, B_f (p := 0 ≤ a ∧ a ≤ S 0 - 1) (by omega), if_pos (c := (0 : Int) = 0) rfl, if_pos (c := (0 : Int) = 0) rfl]; exact RS_same P hP _
end LANE3
