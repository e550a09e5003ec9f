/-! PURE: box; the class's least tree -/
section BOX4
variable {sh : List (Nat × Nat)} {V V' V1 V2 : Int → Int → Int} {i j k x a b D : Int} {S : Int → Int} {n z m r q X h0 J T : Nat} {g f : Nat → Nat} {C U : Nat → Bool}
theorem sN_bd {B : Nat} : ∀ n, (∀ j, j < n → f j ≤ B) → sN f n ≤ B * n := by
  intro n
  induction n with
  | zero => intro _; exact Nat.le_refl _
  | succ n ih => intro h; have := ih (fun j hj => h j (by omega)); have := h n (by omega); rw [sN, Nat.mul_succ]; omega
theorem cst_bd (K : KOk S) : cst S U ≤ 2160 := by
  have h : cst S U ≤ 90 * (S 7).toNat := sN_bd _ (fun j hj => by
    have kr := K.2.2.2.2.2.2.2.2.2.2.2.2.2 (j : Int) (by omega) (by omega)
    show (if U j = true then _ else 0) ≤ 90
    split <;> omega)
  have := K.2.2.2.1
  omega
theorem sN_tail : ∀ m, n ≤ m → (∀ j, n ≤ j → j < m → f j = 0) → sN f m = sN f n := by
  intro m
  induction m with
  | zero => intro h _; rw [show n = 0 by omega]
  | succ m ih =>
    intro h z
    by_cases e : n = m + 1
    · rw [e]
    · rw [sN, z m (by omega) (by omega), ih (by omega) (fun j j0 j1 => z j j0 (by omega))]; rfl
theorem pc_sN : ∀ n, pc X n = sN (fun x => if X.testBit x = true then 1 else 0) n := by
  intro n
  induction n with
  | zero => rfl
  | succ n ih => rw [pc, sN, ih, bit_tb]
theorem pc_12 (hX : X < 4096) : pc X 24 = sN (fun x => if X.testBit x = true then 1 else 0) 12 := by
  rw [pc_sN]
  exact sN_tail 24 (by decide) (fun j j0 _ => by
    have : X.testBit j = false := Nat.testBit_lt_two_pow (Nat.lt_of_lt_of_le hX (Nat.pow_le_pow_right (n := 2) (by decide) j0))
    rw [this]; rfl)
theorem srz_srt (h : srz S g m (S 7).toNat) : srt S g m := ⟨h.1, h.2.1, h.2.2.1⟩
theorem cmp_le12 (hX : X < 4096) : cmp S C X ≤ 12 := by
  have : cmp S C X ≤ 1 * 12 := sN_bd 12 (fun j _ => by
    show @ite Nat (rep S C X j) (Classical.propDecidable _) 1 0 ≤ 1
    split <;> omega)
  omega
theorem td_43 (hX : X < 4096) (hs : srz S g m (S 7).toNat) (hh : X.testBit h0 = true) : ∀ (n k : Nat) (V : Int → Int → Int) (C : Nat → Bool), Cx sh V S D → k ≤ m → m - k < n → (∀ j : Nat, j < m → V 91 j = g j) → GI V S C → opn S C → ins S C X → OPT S g m X h0 C k → ∃ (V' : Int → Int → Int) (v : Int), (∀ a j, a ≠ 92 → V' a j = V a j) ∧ tdm S X h0 v ∧ Te_treeDays_L43 (fun x9 x10 μ11 => Te_treeDays_J175 x9 x10 μ11) n 90 3 X m (cst S C) ((cmp S C X : Int) - 1) k (sh, V) = some (v, (sh, V')) := by
  intro n
  induction n with
  | zero => intro k _ _ _ _ h; omega
  | succ n ih =>
    intro k V C X0 hk hn A G hC hi O
    have H := X0.1
    have P := X0.2.1
    have K := X0.2.2.2.1.1
    have k90 : (kS sh 90).1 = 7 := by rw [k_90 H]
    obtain ⟨r1, r2, r3, r4, r5, r6, r7⟩ := Cx_rng X0
    have hm24 : m ≤ 24 := by have := hs.2.2.2; omega
    have cp := cmp_pos (S := S) (C := C) hX hh
    have cl := cmp_le12 (S := S) (C := C) hX
    have cb := cst_bd (U := C) K
    by_cases q : (k : Int) < m
    · by_cases c1 : cmp S C X = 1
      · refine ⟨V, cst S C, fun _ _ _ => rfl, tdm_done hX hh hC hi O c1, ?_⟩
        rw [Te_treeDays_L43, if_pos q, if_neg (by omega)]
        unfold Te_treeDays_J175
        rw [if_pos (by omega)]
      · obtain ⟨gk1, gk2⟩ := hs.1 k (by omega)
        have gr : (g k : Int) < S 7 := by omega
        have kr := K.2.2.2.2.2.2.2.2.2.2.2.2.2 (g k : Int) (by omega) gr
        obtain ⟨u, eu⟩ : ∃ u : Nat, (u : Int) = S (8 + (g k : Int)) := ⟨(S (8 + (g k : Int))).toNat, by omega⟩
        obtain ⟨v, ev⟩ : ∃ u : Nat, (u : Int) = S (32 + (g k : Int)) := ⟨(S (32 + (g k : Int))).toNat, by omega⟩
        have eu' : (S (8 + (g k : Int))).toNat = u := by omega
        have ev' : (S (32 + (g k : Int))).toNat = v := by omega
        have wk : w32 ((k : Int) + 1) = ((k + 1 : Nat) : Int) := by rw [w32_id (by omega) (by omega)]; omega
        have start : Te_treeDays_L43 (fun x9 x10 μ11 => Te_treeDays_J175 x9 x10 μ11) (n + 1) 90 3 X m (cst S C) ((cmp S C X : Int) - 1) k (sh, V) = if ¬ (X.testBit u = true ∧ X.testBit v = true) then Te_treeDays_L43 (fun x9 x10 μ11 => Te_treeDays_J175 x9 x10 μ11) n 90 3 X m (cst S C) ((cmp S C X : Int) - 1) ((k + 1 : Nat) : Int) (sh, V) else (if V 92 u = V 92 v then Te_treeDays_L43 (fun x9 x10 μ11 => Te_treeDays_J175 x9 x10 μ11) n 90 3 X m (cst S C) ((cmp S C X : Int) - 1) ((k + 1 : Nat) : Int) (sh, V) else (bd2 (Te_unite 90 3 (or32 (V 92 u) (V 92 v)) (sh, V)) fun _ μ19 =>
            bd (getf 1 12 μ19 3) fun x20 =>
            bd (getf 7 0 μ19 90) fun x21 =>
            bd (lda 20 μ19 x21 k) fun x22 =>
            bd (lda 20 μ19 x20 x22) fun x23 =>
            bd (some (w32 ((cst S C : Int) + x23))) fun x24 =>
            Te_treeDays_L43 (fun x9 x10 μ11 => Te_treeDays_J175 x9 x10 μ11) n 90 3 X m x24 (w32 (((cmp S C X : Int) - 1) + (-1))) (w32 ((k : Int) + 1)) μ19)) := by
          rw [Te_treeDays_L43, if_pos q, if_pos (by omega), b38 X0, bgt k90, q_90_0 P, blt (by rw [k_91 H]) (by omega) (by rw [k_91 H]; show _ < (24 : Int); omega), A k (by omega), bl4 X0 (by omega) gr, b39 X0, bgt k90, q_90_0 P, blt (by rw [k_91 H]) (by omega) (by rw [k_91 H]; show _ < (24 : Int); omega), A k (by omega), bl5 X0 (by omega) gr, ← eu, ← ev, bit_eq_tb hX (by omega), bit_eq_tb hX (by omega), wk]
          by_cases t1 : X.testBit u = true
          · by_cases t2 : X.testBit v = true
            · rw [if_neg (c := ¬ (X.testBit u = true ∧ X.testBit v = true)) (fun z => z ⟨t1, t2⟩), if_pos t1, if_pos t2, if_neg (by decide), if_neg (by decide), bd_mk, if_neg (by decide), bgt k90, q_90_1 P, blt (by rw [k_92 H]) (by omega) (by rw [k_92 H]; show _ < (12 : Int); omega), bgt k90, q_90_1 P, blt (by rw [k_92 H]) (by omega) (by rw [k_92 H]; show _ < (12 : Int); omega)]
              by_cases e : V 92 u = V 92 v
              · rw [if_pos e, if_pos e]
              · rw [if_neg e, if_neg e, bgt k90, q_90_1 P, blt (by rw [k_92 H]) (by omega) (by rw [k_92 H]; show _ < (12 : Int); omega), bgt k90, q_90_1 P, blt (by rw [k_92 H]) (by omega) (by rw [k_92 H]; show _ < (12 : Int); omega), bit k90]
            · rw [if_pos (c := ¬ (X.testBit u = true ∧ X.testBit v = true)) (fun z => t2 z.2), if_pos t1, if_neg t2, if_neg (by decide), if_pos rfl, bd_mk, if_pos rfl]
          · rw [if_pos (c := ¬ (X.testBit u = true ∧ X.testBit v = true)) (fun z => t1 z.1), if_neg t1, if_pos rfl, bd_mk, if_pos rfl]
        rw [start]
        by_cases t : X.testBit u = true ∧ X.testBit v = true
        · rw [if_neg (fun z => z t)]
          obtain ⟨gu, gu1, gu2, gu3⟩ := G u (by omega)
          obtain ⟨gv, gv1, gv2, gv3⟩ := G v (by omega)
          have same : V 92 u = V 92 v ↔ Cn S C u v := by
            rw [gu1, gv1]
            constructor
            · intro e
              have e : gu = gv := by omega
              have := (gv3 v).mpr ⟨by omega, Cn_refl⟩
              rw [← e] at this; exact ((gu3 v).mp this).2
            · intro c
              have : gu = gv := Nat.eq_of_testBit_eq (fun b => by
                have : gu.testBit b = true ↔ gv.testBit b = true := by
                  rw [gu3, gv3]
                  exact ⟨fun z => ⟨z.1, Cn_trans (Cn_symm c) z.2⟩, fun z => ⟨z.1, Cn_trans c z.2⟩⟩
                cases h1 : gu.testBit b <;> cases h2 : gv.testBit b <;> simp_all)
              rw [this]
          by_cases e : V 92 u = V 92 v
          · rw [if_pos e]
            exact ih (k + 1) V C X0 (by omega) (by omega) A G hC hi (OPT_con O (by omega) (by rw [← eu, ← ev]; exact same.mp e))
          · rw [if_neg e, gu1, gv1, or_nat (by omega) (by omega)]
            have hnc : ¬ Cn S C (S (8 + (g k : Int))) (S (32 + (g k : Int))) := by rw [← eu, ← ev]; exact fun z => e (same.mpr z)
            obtain ⟨V1, f1, f2, f3⟩ := un_2 (S := S) (mm := gu ||| gv) (Nat.or_lt_two_pow (n := 12) gu2 gv2) FU 0 V X0 (by omega) (by show _ < 1000000; omega)
            rw [show ((0 : Nat) : Int) = 0 from rfl] at f3
            have F1 : BFr V V1 := fun a j _ a2 => f1 a j a2
            have X1 := BFr_Cx X0 F1
            have G1 := GI_take G (e := g k) eu ev (by omega) (by omega) gu1 gu2 gu3 gv1 gv2 gv3 f2
            obtain ⟨O1, c2⟩ := OPT_take K (srz_srt hs) O (by omega) (by rw [eu', ev']; exact t) hnc
            have cm := cmp_take (C := C) hX eu ev t.1 t.2 hnc
            have hC1 : opn S (ad C (g k)) := fun r hr => by
              by_cases z : r = g k
              · rw [z]; exact ⟨gk1, gk2⟩
              · rw [ad_ne z] at hr; exact hC r hr
            have hi1 : ins S (ad C (g k)) X := fun r hr => by
              by_cases z : r = g k
              · rw [z, eu', ev']; exact t
              · rw [ad_ne z] at hr; exact hi r hr
            obtain ⟨V2, v2, y1, y2, y3⟩ := ih (k + 1) V1 (ad C (g k)) X1 (by omega) (by omega) (fun j hj => by rw [f1 _ _ (by decide)]; exact A j hj) G1 hC1 hi1 O1
            refine ⟨V2, v2, fun a j ha => by rw [y1 a j ha, f1 a j ha], y2, ?_⟩
            have ed : (((S (104 + (g k : Int))).toNat : Nat) : Int) = S (104 + (g k : Int)) := by omega
            unfold Te_unite
            rw [f3, bd2_mk, b3c X1, bgt k90, q_90_0 X1.2.1, blt (by rw [k_91 H]) (by omega) (by rw [k_91 H]; show _ < (24 : Int); omega), f1 _ _ (by decide), A k (by omega), bl8 X1 (by omega) gr, w32_id (by omega) (by omega), bd_mk, w32_id (by omega) (by omega), wk]
            have e1 : (cst S C : Int) + S (104 + (g k : Int)) = (cst S (ad C (g k)) : Int) := by rw [c2]; omega
            have e2 : (cmp S C X : Int) - 1 + -1 = (cmp S (ad C (g k)) X : Int) - 1 := by omega
            rw [e1, e2]
            exact y3
        · rw [if_pos t]
          exact ih (k + 1) V C X0 (by omega) (by omega) A G hC hi (OPT_out O (by omega) (by rw [eu', ev']; exact t))
    · have ek : k = m := by omega
      rw [Te_treeDays_L43, if_neg q]
      unfold Te_treeDays_J175
      by_cases c1 : cmp S C X = 1
      · rw [if_pos (by omega)]
        exact ⟨V, cst S C, fun _ _ _ => rfl, tdm_done hX hh hC hi O c1, rfl⟩
      · rw [if_neg (by omega)]
        rw [ek] at O
        exact ⟨V, -1, fun _ _ _ => rfl, tdm_none hX hh O c1, rfl⟩
theorem td_ok (X0 : Cx sh V S D) (hX : X < 4096) (hs : srz S g m (S 7).toNat) (A : ∀ j : Nat, j < m → V 91 j = g j) (hh : X.testBit h0 = true) : ∃ (V' : Int → Int → Int) (v : Int), (∀ a j, a ≠ 92 → V' a j = V a j) ∧ tdm S X h0 v ∧ Te_treeDays 90 3 X m (sh, V) = some (v, (sh, V')) := by
  obtain ⟨r1, r2, r3, r4, r5, r6, r7⟩ := Cx_rng X0
  obtain ⟨V1, f1, f2, f3⟩ := td_3 (S := S) FU 0 V X0 (by omega) (by show _ < 1000000; omega) (fun a ha => by omega)
  rw [show ((0 : Nat) : Int) = 0 from rfl] at f3
  have F1 : BFr V V1 := fun a j _ a2 => f1 a j a2
  have X1 := BFr_Cx X0 F1
  have c0 := cmp_0 (S := S) (X := X)
  have cl := cmp_le12 (S := S) (C := fun _ => false) hX
  obtain ⟨V2, v, y1, y2, y3⟩ := td_43 (g := g) hX hs hh FU 0 V1 (fun _ => false) X1 (by omega) (by show _ < 1000000; have := hs.2.2.2; omega) (fun j hj => by rw [f1 _ _ (by decide)]; exact A j hj) (GI_0 f2 r2) (fun r hr => by cases hr) (fun r hr => by cases hr) (OPT_0 (srz_srt hs))
  refine ⟨V2, v, fun a j ha => by rw [y1 a j ha, f1 a j ha], y2, ?_⟩
  unfold Te_treeDays
  rw [f3, J_bitCount_b (by omega), pc_12 hX, ← c0, w32_id (by omega) (by omega), bd_mk]
  rw [cst_0, show ((0 : Nat) : Int) = 0 from rfl] at y3
  exact y3
abbrev subT (J X : Nat) : Prop := ∀ x, J.testBit x = true → X.testBit x = true
theorem and_sub (hJ : J < 4096) (hX : X < 4096) : and32 (X : Int) (J : Int) = (J : Int) ↔ subT J X := by
  rw [and_nat (by omega) (by omega)]
  constructor
  · intro h x hx
    have h : X &&& J = J := by omega
    rw [← h, Nat.testBit_and] at hx
    simp at hx; exact hx.1
  · intro h
    have : X &&& J = J := Nat.eq_of_testBit_eq (fun x => by
      rw [Nat.testBit_and]
      cases h1 : J.testBit x with
      | false => simp
      | true => rw [h x h1]; rfl)
    rw [this]
/-- the least so far -/
def LMi (S : Int → Int) (J : Nat) (h : Int) (z : Nat) (v : Int) : Prop := (v = -1 ∧ ∀ X, X < z → subT J X → ¬ ∃ U, opn S U ∧ ins S U X ∧ Jn S U X h) ∨ ((0 ≤ v ∧ v ≤ 2160) ∧ (∃ U, opn S U ∧ Jn S U J h ∧ (cst S U : Int) ≤ v) ∧ ∀ X, X < z → subT J X → ∀ U, opn S U → ins S U X → Jn S U X h → v ≤ cst S U)
theorem ld_12 (hJ : J < 4096) (hh : J.testBit h0 = true) (hs : srz S g m (S 7).toNat) : ∀ (n z : Nat) (V : Int → Int → Int) (v : Int), Cx sh V S D → z ≤ 2 ^ (S 0).toNat → 2 ^ (S 0).toNat - z < n → (∀ j : Nat, j < m → V 91 j = g j) → LMi S J h0 z v → ∃ (V' : Int → Int → Int) (v' : Int), (∀ a j, a ≠ 92 → V' a j = V a j) ∧ LMi S J h0 (2 ^ (S 0).toNat) v' ∧ Te_leastDays_L12 n 90 2 J m v z (sh, V) = some (v', (sh, V')) := by
  intro n
  induction n with
  | zero => intro z _ _ _ _ h; omega
  | succ n ih =>
    intro z V v X0 hz hn A L
    have H := X0.1
    have K := X0.2.2.2.1.1
    obtain ⟨r1, r2, r3, r4, r5, r6, r7⟩ := Cx_rng X0
    have hp : 2 ^ (S 0).toNat ≤ 2 ^ 12 := Nat.pow_le_pow_right (by decide) (by omega)
    rw [Te_leastDays_L12, b20 X0, b30 X0, shl1 r1 (by omega)]
    by_cases q : z < 2 ^ (S 0).toNat
    · have hz4 : z < 4096 := by omega
      have wz : w32 ((z : Int) + 1) = ((z + 1 : Nat) : Int) := by rw [w32_id (by omega) (by omega)]; omega
      rw [if_pos (by omega), wz]
      by_cases s : subT J z
      · obtain ⟨V1, w, f1, f2, f3⟩ := td_ok (h0 := h0) X0 hz4 hs A (s h0 hh)
        have F1 : BFr V V1 := fun a j _ a2 => f1 a j a2
        have X1 := BFr_Cx X0 F1
        have A1 : ∀ j : Nat, j < m → V1 91 j = g j := fun j hj => by rw [f1 _ _ (by decide)]; exact A j hj
        rw [if_pos ((and_sub hJ hz4).mpr s), b20 X0, bit (by rw [k_90 H]), f3, bd2_mk]
        have go : ∀ v1, LMi S J h0 (z + 1) v1 → ∃ (V' : Int → Int → Int) (v' : Int), (∀ a j, a ≠ 92 → V' a j = V a j) ∧ LMi S J h0 (2 ^ (S 0).toNat) v' ∧ Te_leastDays_L12 n 90 2 J m v1 ((z + 1 : Nat) : Int) (sh, V1) = some (v', (sh, V')) := fun v1 L1 => by
          obtain ⟨V2, v2, y1, y2, y3⟩ := ih (z + 1) V1 v1 X1 (by omega) (by omega) A1 L1
          exact ⟨V2, v2, fun a j ha => by rw [y1 a j ha, f1 a j ha], y2, y3⟩
        -- what v or w say of sets up to z
        have lastN : ∀ X, X < z + 1 → X = z ∨ X < z := fun X hX => by omega
        rcases f2 with ⟨w1, w2⟩ | ⟨w1, ⟨Uw, wa, wb, wc, wd⟩, w3⟩
        · rw [if_pos w1]
          refine go v ?_
          rcases L with ⟨l1, l2⟩ | ⟨l1, l2, l3⟩
          · exact Or.inl ⟨l1, fun X hX sX => by
              rcases lastN X hX with e | e
              · rw [e]; exact w2
              · exact l2 X e sX⟩
          · exact Or.inr ⟨l1, l2, fun X hX sX U u1 u2 u3 => by
              rcases lastN X hX with e | e
              · rw [e] at u2 u3; exact absurd ⟨U, u1, u2, u3⟩ w2
              · exact l3 X e sX U u1 u2 u3⟩
        · have wb2 : w ≤ 2160 := by have := w3 Uw wa wb wc; have := cst_bd (U := Uw) K; omega
          have ex : ∃ U, opn S U ∧ Jn S U J h0 ∧ (cst S U : Int) ≤ w := ⟨Uw, wa, fun x hx => wc x (s x hx), wd⟩
          rw [if_neg (by omega)]
          rcases L with ⟨l1, l2⟩ | ⟨l1, l2, l3⟩
          · rw [if_pos l1]
            refine go w (Or.inr ⟨⟨w1, wb2⟩, ex, fun X hX sX U u1 u2 u3 => ?_⟩)
            rcases lastN X hX with e | e
            · rw [e] at u2 u3; exact w3 U u1 u2 u3
            · exact absurd ⟨U, u1, u2, u3⟩ (l2 X e sX)
          · rw [if_neg (by omega)]
            by_cases c : w < v
            · rw [if_pos c]
              refine go w (Or.inr ⟨⟨w1, wb2⟩, ex, fun X hX sX U u1 u2 u3 => ?_⟩)
              rcases lastN X hX with e | e
              · rw [e] at u2 u3; exact w3 U u1 u2 u3
              · have := l3 X e sX U u1 u2 u3; omega
            · rw [if_neg c]
              refine go v (Or.inr ⟨l1, l2, fun X hX sX U u1 u2 u3 => ?_⟩)
              rcases lastN X hX with e | e
              · rw [e] at u2 u3; have := w3 U u1 u2 u3; omega
              · exact l3 X e sX U u1 u2 u3
      · rw [if_neg (fun z => s ((and_sub hJ hz4).mp z))]
        refine ih (z + 1) V v X0 (by omega) (by omega) A ?_
        rcases L with ⟨l1, l2⟩ | ⟨l1, l2, l3⟩
        · exact Or.inl ⟨l1, fun X hX sX => l2 X (by
            by_cases e : X = z
            · rw [e] at sX; exact absurd sX s
            · omega) sX⟩
        · exact Or.inr ⟨l1, l2, fun X hX sX => l3 X (by
            by_cases e : X = z
            · rw [e] at sX; exact absurd sX s
            · omega) sX⟩
    · rw [if_neg (by omega)]
      rw [show z = 2 ^ (S 0).toNat by omega] at L
      exact ⟨V, v, fun _ _ _ => rfl, L, rfl⟩
/-- the class's answer is the least -/
theorem ld_ok (X0 : Cx sh V S D) (hT : T < 2 ^ (S 0).toNat) (hh0 : (h0 : Int) < S 0) : ∃ (V' : Int → Int → Int) (v : Int), BFr V V' ∧ isMin S T h0 v ∧ v ≤ 2160 ∧ Te_leastDays 90 2 ((T ||| 2 ^ h0 : Nat) : Int) (sh, V) = some (v, (sh, V')) := by
  have H := X0.1
  have K := X0.2.2.2.1.1
  obtain ⟨r1, r2, r3, r4, r5, r6, r7⟩ := Cx_rng X0
  have hp : 2 ^ (S 0).toNat ≤ 2 ^ 12 := Nat.pow_le_pow_right (by decide) (by omega)
  have hp2 : 2 ^ h0 < 2 ^ (S 0).toNat := Nat.pow_lt_pow_right (by decide) (by omega)
  have hJ0 : T ||| 2 ^ h0 < 2 ^ (S 0).toNat := Nat.or_lt_two_pow hT hp2
  have hJh : (T ||| 2 ^ h0).testBit h0 = true := by rw [Nat.testBit_or, Nat.testBit_two_pow]; simp
  obtain ⟨V1, g, m, f1, f2, f3, f4⟩ := so_4 (S := S) FU 0 0 (fun _ => 0) V X0 (by omega) (by show _ < 1000000; omega) ⟨fun k hk => by omega, fun r hr => by omega, fun j k _ hk => by omega, by omega⟩ (fun k hk => by omega)
  obtain ⟨V2, v, y1, y2, y3⟩ := ld_12 (g := g) (h0 := h0) (J := T ||| 2 ^ h0) (by omega) hJh f2 FU 0 V1 (-1) (BFr_Cx X0 f1) (by omega) (by show _ < 1000000; omega) f3 (Or.inl ⟨rfl, fun X hX => by omega⟩)
  rw [show ((0 : Nat) : Int) = 0 from rfl] at f4 y3
  refine ⟨V2, v, BFr_trans f1 (fun a j _ a2 => y1 a j a2), ?_, ?_, ?_⟩
  · -- the towns that U reaches from home
    have all : ∀ U, opn S U → Jn S U T h0 → ∃ X, X < 2 ^ (S 0).toNat ∧ subT (T ||| 2 ^ h0) X ∧ opn S (prt S U h0) ∧ ins S (prt S U h0) X ∧ Jn S (prt S U h0) X h0 ∧ cst S (prt S U h0) ≤ cst S U := fun U u1 u2 => by
      obtain ⟨X, x1, x2⟩ := mk_bits (fun y => Cn S U h0 y) (S 0).toNat
      refine ⟨X, x1, fun y hy => ?_, prt_opn u1, fun r hr => ?_, fun y hy => Cn_prt ((x2 y).mp hy).2, prt_cst1⟩
      · rw [Nat.testBit_or, Nat.testBit_two_pow] at hy
        by_cases e : h0 = y
        · rw [← e]; exact (x2 h0).mpr ⟨by omega, Cn_refl⟩
        · have hy : T.testBit y = true := by simpa [e] using hy
          refine (x2 y).mpr ⟨Classical.byContradiction (fun z => ?_), u2 y hy⟩
          have : T.testBit y = false := Nat.testBit_lt_two_pow (Nat.lt_of_lt_of_le hT (Nat.pow_le_pow_right (by decide) (by omega)))
          rw [this] at hy; cases hy
      · obtain ⟨p1, p2⟩ := prt_iff.mp hr
        have hl := u1 r p1
        have kr := K.2.2.2.2.2.2.2.2.2.2.2.2.2 (r : Int) (by omega) (by omega)
        have e1 : (((S (8 + (r : Int))).toNat : Nat) : Int) = S (8 + (r : Int)) := by omega
        have e2 : (((S (32 + (r : Int))).toNat : Nat) : Int) = S (32 + (r : Int)) := by omega
        exact ⟨(x2 _).mpr ⟨by omega, by rw [e1]; exact p2⟩, (x2 _).mpr ⟨by omega, by rw [e2]; exact Cn_trans p2 (Cn_edge p1)⟩⟩
    rcases y2 with ⟨l1, l2⟩ | ⟨l1, ⟨U, u1, u2, u3⟩, l3⟩
    · exact Or.inl ⟨l1, fun ⟨U, u1, u2⟩ => by
        obtain ⟨X, x1, x2, x3, x4, x5, x6⟩ := all U u1 u2
        exact l2 X x1 x2 ⟨_, x3, x4, x5⟩⟩
    · exact Or.inr ⟨l1.1, ⟨U, u1, fun x hx => u2 x (by rw [Nat.testBit_or, hx]; rfl), u3⟩, fun U u1 u2 => by
        obtain ⟨X, x1, x2, x3, x4, x5, x6⟩ := all U u1 u2
        have := l3 X x1 x2 _ x3 x4 x5
        omega⟩
  · rcases y2 with ⟨l1, l2⟩ | ⟨l1, _, _⟩ <;> omega
  · unfold Te_leastDays Te_sortRoads
    rw [bit (by rw [k_90 H]), f4, bd2_mk]
    exact y3
end BOX4
