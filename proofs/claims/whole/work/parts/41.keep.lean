/-! PURE: keeps, isAgain; the class's walkers -/
section KEEP
variable {sh : List (Nat × Nat)} {V V' V1 V2 V2' : Int → Int → Int} {r t m s c i j d k x a b y D f p w bk v : Int} {S S' R : Int → Int} {n : Nat} {ρ : Nat → Int}
def KP (R S : Int → Int) (i : Int) : Prop := (∀ k, 0 ≤ k → k < 6 → R k = S (153 + 6 * k + i)) ∧ ∀ k, 0 ≤ k → k < 40 → R (6 + k) = S (189 + (40 * i + k)) ∧ R (46 + k) = S (429 + (40 * i + k)) ∧ R (86 + k) = S (669 + (40 * i + k))
theorem up_self_row : upV V a j x = setR V a (up (V a) j x) := by
  funext b k; unfold upV setR up
  by_cases h : b = a
  · subst h; by_cases h' : k = j <;> simp [h']
  · simp [h]
theorem keeps_a {kk : Int → Int → Mem → Option (Int × Mem)} (H : Sh sh) (P : PM V) (h0 : 0 ≤ i) (h1 : i < 6) : ∀ (n z : Nat) (R : Int → Int), z ≤ 6 → 6 - z < n → (∀ k : Int, 0 ≤ k → k < z → R k = S (153 + 6 * k + i)) → ∃ R', M_keeps_L2 kk n 101 i z (sh, setR (setR V 106 R) 102 S) = kk 101 i (sh, setR (setR V 106 R') 102 S) ∧ ∀ k, 0 ≤ k → k < 6 → R' k = S (153 + 6 * k + i) := by
  intro n
  induction n with
  | zero => intro z _ _ h; omega
  | succ n ih =>
    intro z R hz hn hR
    rw [M_keeps_L2]
    by_cases h : (z : Int) < 6
    · obtain ⟨R', e, q⟩ := ih (z + 1) (up R z (S (153 + 6 * z + i))) (by omega) (by omega) (fun k g0 g1 => by
        by_cases e : k = z
        · rw [e, upS_eq]
        · rw [upS_ne e]; exact hR k g0 (by omega))
      refine ⟨R', ?_, q⟩
      have g16 : setR V 106 R 101 16 = 106 := by rw [setR_ne (by decide)]; exact q_101_16 P
      have P2 : PM (setR V 106 R) := PM_fm P (FM_set FM_refl (by decide) (by decide))
      rw [if_pos h, bg101 H, g16, bg101 H, w32_id (x := 6 * z) (by omega) (by omega), w32_id (x := 153 + 6 * z) (by omega) (by omega), w32_id (by omega) (by omega), blp P2 H (by omega) (by omega), ms106 H (by omega) (by omega), up_setR, w32_id (by omega) (by omega)]
      exact e
    · rw [if_neg h]
      exact ⟨R, rfl, fun k g0 g1 => hR k g0 (by omega)⟩
theorem keeps_b (H : Sh sh) (P : PM V) (h0 : 0 ≤ i) (h1 : i < 6) : ∀ (n z : Nat) (R : Int → Int), z ≤ 40 → 40 - z < n → (∀ k, 0 ≤ k → k < 6 → R k = S (153 + 6 * k + i)) → (∀ k : Int, 0 ≤ k → k < z → R (6 + k) = S (189 + (40 * i + k)) ∧ R (46 + k) = S (429 + (40 * i + k)) ∧ R (86 + k) = S (669 + (40 * i + k))) → ∃ R', M_keeps_L37 n 101 i z (sh, setR (setR V 106 R) 102 S) = some (0, (sh, setR (setR V 106 R') 102 S)) ∧ KP R' S i := by
  intro n
  induction n with
  | zero => intro z _ _ h; omega
  | succ n ih =>
    intro z R hz hn hR hQ
    rw [M_keeps_L37]
    by_cases h : (z : Int) < 40
    · obtain ⟨R', e, q⟩ := ih (z + 1) (up (up (up R (6 + z) (S (189 + (40 * i + z)))) (46 + z) (S (429 + (40 * i + z)))) (86 + z) (S (669 + (40 * i + z)))) (by omega) (by omega) (fun k g0 g1 => by
        rw [upS_ne (by omega), upS_ne (by omega), upS_ne (by omega)]; exact hR k g0 g1) (fun k g0 g1 => by
        by_cases e : k = z
        · subst e
          refine ⟨?_, ?_, ?_⟩
          · rw [upS_ne (by omega), upS_ne (by omega), upS_eq]
          · rw [upS_ne (by omega), upS_eq]
          · rw [upS_eq]
        · have := hQ k g0 (by omega)
          refine ⟨?_, ?_, ?_⟩
          · rw [upS_ne (by omega), upS_ne (by omega), upS_ne (by omega)]; exact this.1
          · rw [upS_ne (by omega), upS_ne (by omega), upS_ne (by omega)]; exact this.2.1
          · rw [upS_ne (by omega), upS_ne (by omega), upS_ne (by omega)]; exact this.2.2)
      refine ⟨R', ?_, q⟩
      have g16 : ∀ R, setR V 106 R 101 16 = 106 := fun R => by rw [setR_ne (by decide)]; exact q_101_16 P
      have P2 : ∀ R, PM (setR V 106 R) := fun R => PM_fm P (FM_set FM_refl (by decide) (by decide))
      rw [if_pos h, bg101 H, g16, bg101 H, M_slipAt_b h0 h1 (by omega) (by omega), w32_id (x := 189 + (40 * i + z)) (by omega) (by omega), blp (P2 _) H (by omega) (by omega), w32_id (x := 6 + (z : Int)) (by omega) (by omega), ms106 H (by omega) (by omega), up_setR]
      rw [bg101 H, g16, bg101 H, M_slipAt_b h0 h1 (by omega) (by omega), w32_id (x := 429 + (40 * i + z)) (by omega) (by omega), blp (P2 _) H (by omega) (by omega), w32_id (x := 46 + (z : Int)) (by omega) (by omega), ms106 H (by omega) (by omega), up_setR]
      rw [bg101 H, g16, bg101 H, M_slipAt_b h0 h1 (by omega) (by omega), w32_id (x := 669 + (40 * i + z)) (by omega) (by omega), blp (P2 _) H (by omega) (by omega), w32_id (x := 86 + (z : Int)) (by omega) (by omega), ms106 H (by omega) (by omega), up_setR, w32_id (by omega) (by omega)]
      exact e
    · rw [if_neg h]
      exact ⟨R, rfl, hR, fun k g0 g1 => hQ k g0 (by omega)⟩
theorem keeps_ok (H : Sh sh) (P : PM V) (h0 : 0 ≤ i) (h1 : i < 6) : ∃ R', M_keeps 101 i (sh, setR V 102 S) = some (0, (sh, setR (setR V 106 R') 102 S)) ∧ KP R' S i := by
  unfold M_keeps
  obtain ⟨R1, e1, q1⟩ := keeps_a (S := S) (kk := fun x1 x2 μ3 => M_keeps_L37 FU x1 x2 0 μ3) H P h0 h1 FU 0 (V 106) (by omega) (by decide) (fun k g0 g1 => by omega)
  obtain ⟨R2, e2, q2⟩ := keeps_b (S := S) H P h0 h1 FU 0 R1 (by omega) (by decide) q1 (fun k g0 g1 => by omega)
  rw [setR_self, show ((0 : Nat) : Int) = 0 from rfl] at e1
  rw [show ((0 : Nat) : Int) = 0 from rfl] at e2
  exact ⟨R2, by rw [e1, e2], q2⟩
/-- places of traveller i -/
def TI (i j : Int) : Prop := j = 153 + i ∨ j = 159 + i ∨ j = 165 + i ∨ j = 171 + i ∨ j = 177 + i ∨ j = 183 + i ∨ (189 + 40 * i ≤ j ∧ j < 229 + 40 * i) ∨ (429 + 40 * i ≤ j ∧ j < 469 + 40 * i) ∨ (669 + 40 * i ≤ j ∧ j < 709 + 40 * i)
theorem again_a {kk : Int → Int → Mem → Option (Int × Mem)} (H : Sh sh) (P : PM V) (hk : KP (V 106) S i) (h0 : 0 ≤ i) (h1 : i < 6) : ∀ (n z : Nat) (S' : Int → Int), z ≤ 6 → 6 - z < n → (∀ j, ¬ (153 + 6 * z + i ≤ j ∧ TI i j) → S' j = S j) → ∃ S'', M_isAgain_L2 kk n 101 i z (sh, setR V 102 S') = kk 101 i (sh, setR V 102 S'') ∧ ∀ j, ¬ (189 ≤ j ∧ TI i j) → S'' j = S j := by
  intro n
  induction n with
  | zero => intro z _ _ h; omega
  | succ n ih =>
    intro z S' hz hn hS
    rw [M_isAgain_L2]
    by_cases h : (z : Int) < 6
    · obtain ⟨S'', e, q⟩ := ih (z + 1) (up S' (153 + 6 * z + i) (S (153 + 6 * z + i))) (by omega) (by omega) (fun j hj => by
        by_cases e : j = 153 + 6 * z + i
        · rw [e, upS_eq]
        · rw [upS_ne e]; exact hS j (fun g => hj ⟨by unfold TI at g; omega, g.2⟩))
      refine ⟨S'', ?_, q⟩
      rw [if_pos h, bg101 H, bg101 H, q_101_16 P, ml106 H (by omega) (by omega), hk.1 z (by omega) (by omega), w32_id (x := 6 * z) (by omega) (by omega), w32_id (x := 153 + 6 * z) (by omega) (by omega), w32_id (by omega) (by omega), bsp P H (by omega) (by omega), w32_id (by omega) (by omega)]
      exact e
    · rw [if_neg h]
      exact ⟨S', rfl, fun j hj => hS j (fun g => hj ⟨by unfold TI at g; omega, g.2⟩)⟩
theorem again_b (H : Sh sh) (P : PM V) (hk : KP (V 106) S i) (h0 : 0 ≤ i) (h1 : i < 6) : ∀ (n z : Nat) (S' : Int → Int), z ≤ 40 → 40 - z < n → (∀ j, ¬ ((189 + 40 * i + z ≤ j ∧ j < 229 + 40 * i) ∨ (429 + 40 * i + z ≤ j ∧ j < 469 + 40 * i) ∨ (669 + 40 * i + z ≤ j ∧ j < 709 + 40 * i)) → S' j = S j) → M_isAgain_L37 n 101 i z (sh, setR V 102 S') = some (0, (sh, setR V 102 S)) := by
  intro n
  induction n with
  | zero => intro z _ _ h; omega
  | succ n ih =>
    intro z S' hz hn hS
    rw [M_isAgain_L37]
    by_cases h : (z : Int) < 40
    · have hq := hk.2 z (by omega) h
      have hi := ih (z + 1) (up (up (up S' (189 + (40 * i + z)) (S (189 + (40 * i + z)))) (429 + (40 * i + z)) (S (429 + (40 * i + z)))) (669 + (40 * i + z)) (S (669 + (40 * i + z)))) (by omega) (by omega) (fun j hj => by
        by_cases e1 : j = 669 + (40 * i + z)
        · rw [e1, upS_eq]
        · rw [upS_ne e1]
          by_cases e2 : j = 429 + (40 * i + z)
          · rw [e2, upS_eq]
          · rw [upS_ne e2]
            by_cases e3 : j = 189 + (40 * i + z)
            · rw [e3, upS_eq]
            · rw [upS_ne e3]; exact hS j (by omega))
      rw [if_pos h, bg101 H, M_slipAt_b h0 h1 (by omega) (by omega), bg101 H, q_101_16 P, w32_id (x := 6 + (z : Int)) (by omega) (by omega), ml106 H (by omega) (by omega), hq.1, w32_id (x := 189 + (40 * i + z)) (by omega) (by omega), bsp P H (by omega) (by omega)]
      rw [bg101 H, M_slipAt_b h0 h1 (by omega) (by omega), bg101 H, q_101_16 P, w32_id (x := 46 + (z : Int)) (by omega) (by omega), ml106 H (by omega) (by omega), hq.2.1, w32_id (x := 429 + (40 * i + z)) (by omega) (by omega), bsp P H (by omega) (by omega)]
      rw [bg101 H, M_slipAt_b h0 h1 (by omega) (by omega), bg101 H, q_101_16 P, w32_id (x := 86 + (z : Int)) (by omega) (by omega), ml106 H (by omega) (by omega), hq.2.2, w32_id (x := 669 + (40 * i + z)) (by omega) (by omega), bsp P H (by omega) (by omega), w32_id (by omega) (by omega)]
      exact hi
    · rw [if_neg h]
      have : S' = S := by funext j; exact hS j (by omega)
      rw [this]
theorem again_ok (H : Sh sh) (P : PM V) (hk : KP (V 106) S i) (h0 : 0 ≤ i) (h1 : i < 6) (hS : ∀ j, ¬ TI i j → S' j = S j) : M_isAgain 101 i (sh, setR V 102 S') = some (0, (sh, setR V 102 S)) := by
  unfold M_isAgain
  obtain ⟨S1, e1, q1⟩ := again_a (kk := fun x1 x2 μ3 => M_isAgain_L37 FU x1 x2 0 μ3) H P hk h0 h1 FU 0 S' (by omega) (by decide) (fun j hj => hS j (fun g => hj ⟨by unfold TI at g; omega, g⟩))
  have e2 := again_b H P hk h0 h1 FU 0 S1 (by omega) (by decide) (fun j hj => q1 j (fun g => hj (by unfold TI at g; omega)))
  rw [show ((0 : Nat) : Int) = 0 from rfl] at e1 e2
  rw [e1, e2]
theorem stp_TI (W : WI S D i) (hr : rfW S i v = 0) (hj : ¬ TI i j) : stp 0 S i v j = S j := by
  obtain ⟨K, T, h0, h1⟩ := W
  obtain ⟨-, h⟩ := rfW_0 hr
  have hm2 := sRefuse_m h T.2.1
  obtain ⟨t1, t2, -⟩ := T
  unfold TI at hj
  unfold stp
  rw [if_pos rfl]
  unfold sStep
  rcases sBk_01 S i v with q | q
  · have := hm2 q
    simp only [q, ↓reduceIte]; unfold sPay; rw [upS_ne (by omega), upS_ne (by omega), upS_ne (by omega), upS_ne (by omega), upS_ne (by omega), upS_ne (by omega), upS_ne (by omega), upS_ne (by omega)]
  · simp only [q, Int.reduceEq, ↓reduceIte]; unfold sHad; rw [upS_ne (by omega), upS_ne (by omega), upS_ne (by omega), upS_ne (by omega), upS_ne (by omega)]
theorem trS_TI (W : WI S D i) : ∀ z : Nat, (∀ j, j < z → rfW (trS ρ 0 S i j) i (ρ j) = 0) → ∀ j, ¬ TI i j → trS ρ 0 S i z j = S j := by
  intro z
  induction z with
  | zero => intro _ j _; rfl
  | succ z ih =>
    intro h j hj
    have hh := fun j hj => h j (Nat.lt_succ_of_lt hj)
    rw [trS, stp_TI (trS_WI W z hh) (h z (by omega)) hj]
    exact ih hh j hj
/-! the class -/
/-- the walkers' rows of slips -/
def WPt (V : Int → Int → Int) : Prop := ∀ t, (t = 45 ∨ t = 50 ∨ t = 57 ∨ t = 80) → V t 6 = t + 1 ∧ V t 7 = t + 2 ∧ V t 8 = t + 3
theorem WPt_of (h : WPt V) (q : ∀ t j, (t = 45 ∨ t = 50 ∨ t = 57 ∨ t = 80) → 6 ≤ j → j ≤ 8 → V' t j = V t j) : WPt V' := fun t ht => by
  rw [q t 6 ht (by decide) (by decide), q t 7 ht (by decide) (by decide), q t 8 ht (by decide) (by decide)]; exact h t ht
/-- a call that changes scratch alone -/
def RS (sh : List (Nat × Nat)) (V V2 : Int → Int → Int) (S : Int → Int) (o1 o2 : Option (Int × Mem)) : Prop := ∃ y V1 V2', o1 = some (y, (sh, V1)) ∧ o2 = some (y, (sh, setR V2' 102 S)) ∧ SF V V1 ∧ Pt V1 ∧ WPt V1 ∧ FM V2 V2'
theorem RS_same (P : Pt V) (W : WPt V) (y : Int) : RS sh V V2 S (some (y, (sh, V))) (some (y, (sh, setR (upV V2 101 0 0) 102 S))) := ⟨y, V, _, rfl, rfl, SF_refl, P, W, FM0⟩
theorem RS_RO {o1 o2 : Option (Int × Mem)} (P : Pt V) (W : WPt V) (h : RO sh V V2 S o1 o2) : RS sh V V2 S o1 o2 := by
  obtain ⟨y, e1, e2⟩ := h
  exact ⟨y, V, _, e1, e2, SF_refl, P, W, FM0⟩
theorem Wo_step_x (H : Sh sh) (P : Pt V) (K : CK V S) (C : CM V S) (T : TrAt sh V t m s c S i) (hD : D < 1900000000) (W : WI S D i) : Wo_step 2 t v (sh, V) = some (if rfW S i v = 0 then sAns S i v else rfW S i v, (sh, if rfW S i v = 0 then cStep V t m s c S i v else V)) := by
  unfold rfW
  by_cases q : 0 ≤ v ∧ v < S 7
  · rw [Wo_step_eq H P K C W.1 T hD W.2.1 q.1 q.2, if_pos q]
  · unfold Wo_step
    rw [bgt (by rw [k_2 H]), q_2_0 P, bit (by rw [k_3 H]), Kg_hasRoad_b H K, B_f q, if_pos rfl, if_neg q]
    rfl
def sm (v : Int) : Int := if 0 ≤ v ∧ v < 48 then v else -1
theorem rfW_sm (h : S 7 ≤ 24) : rfW S i (sm v) = rfW S i v := by
  unfold rfW sm
  by_cases q : 0 ≤ v ∧ v < 48
  · rw [if_pos q]
  · rw [if_neg q, if_neg (by omega), if_neg (by omega)]
theorem sm_eq (h : rfW S i v = 0) (h4 : S 7 ≤ 24) : sm v = v := by
  have := (rfW_0 h).1
  unfold sm; rw [if_pos (by omega)]
theorem Nu_smallAt_eq (H : Sh sh) (P : Pt V) (h0 : 0 ≤ w) (h1 : w < 4) (h2 : 0 ≤ k) (h3 : k < 40) : Nu_smallAt (93 + 2 * w) k (sh, V) = some (sm (V (94 + 2 * w) k), (sh, V)) := by
  unfold Nu_smallAt sm
  rw [bnf H h0 h1, (q_row P h0 h1).2, bnl H h0 h1 h2 h3]
  simp only [cmp_lt]
  by_cases q : V (94 + 2 * w) k < 0
  · rw [if_pos q, if_neg (by omega)]
  · rw [if_neg q]
    by_cases q' : V (94 + 2 * w) k < 48
    · rw [if_pos q', if_pos (by omega), w32_id (by omega) (by omega)]
    · rw [if_neg q', if_neg (by omega)]
theorem Nu_smallAt_b (H : Sh sh) (P : Pt V) (h0 : 0 ≤ w) (h1 : w < 4) (h2 : 0 ≤ k) (h3 : k < 40) {γ : Type} {fZ : Int → Mem → Option γ} : bd2 (Nu_smallAt (93 + 2 * w) k (sh, V)) fZ = fZ (sm (V (94 + 2 * w) k)) (sh, V) := by
  rw [Nu_smallAt_eq] <;> first | assumption | rfl
theorem TrAt_up (h1 : a ≠ t) (h2 : a ≠ m) (h3 : a ≠ s) (h4 : a ≠ c) : TrAt sh (upV V a j x) t m s c S i = TrAt sh V t m s c S i := by
  have h1 := h1.symm
  have h2 := h2.symm
  have h3 := h3.symm
  have h4 := h4.symm
  unfold TrAt; simp (disch := assumption) only [up_row]
/-- a walker is made like a traveller of the world -/
theorem Tr_become_x (X : Cx sh V S D) (h0 : 0 ≤ i) (h1 : i < S 152) (kt : kS sh t = (6, 9)) (k1 : kS sh (t + 1) = (20, 40)) (k2 : kS sh (t + 2) = (20, 40)) (k3 : kS sh (t + 3) = (20, 40)) (ht : 37 ≤ t) (ht' : t + 3 < 93) (p1 : V t 6 = t + 1) (p2 : V t 7 = t + 2) (p3 : V t 8 = t + 3) : ∃ V', Tr_become t (11 + 4 * i) (sh, V) = some (0, (sh, V')) ∧ TrAt sh V' t (t + 1) (t + 2) (t + 3) S i ∧ (∀ a j, (a < t ∨ t + 3 < a) → V' a j = V a j) ∧ (∀ j, 6 ≤ j → V' t j = V t j) ∧ Pt V' := by
  have H := X.1
  obtain ⟨r1, r2, r3, r4, r5, r6, r7⟩ := Cx_rng X
  obtain ⟨t1, t2, t3, t4, t5, t6, t7⟩ := Cx_tr X h0 h1
  obtain ⟨⟨f0, f1, f2, f3, f4, f5⟩, sl⟩ := td_x X h0 h1
  have hc := Tr_cells X.2.2.2.2.1 h0 (by omega : i < 6)
  obtain ⟨m1, m2, m3⟩ := kp_x X h0 h1
  have kt1 : (kS sh t).1 = 6 := by rw [kt]
  have ks1 : (kS sh (11 + 4 * i)).1 = 6 := by rw [kt_x X h0 h1]
  generalize hM : V (11 + 4 * i) 6 = M at *
  generalize hS : V (11 + 4 * i) 7 = Q at *
  generalize hC : V (11 + 4 * i) 8 = C at *
  refine ⟨cpV (cpV (cpV (upV (upV (upV (upV (upV (upV V t 0 (S (153 + i))) t 1 (S (159 + i))) t 2 (S (165 + i))) t 3 (S (177 + i))) t 4 (S (183 + i))) t 5 (S (171 + i))) M 0 (t + 1) 0 40) Q 0 (t + 2) 0 40) C 0 (t + 3) 0 40, ?_, ?_, ?_, ?_, ?_⟩
  · unfold Tr_become
    have ne : 11 + 4 * i ≠ t := by omega
    rw [bgt ks1, f0, bpt kt1, bgt ks1, up_row ne, f1, bpt kt1, bgt ks1, up_row ne, up_row ne, f2, bpt kt1, bgt ks1, up_row ne, up_row ne, up_row ne, f3, bpt kt1, bgt ks1, up_row ne, up_row ne, up_row ne, up_row ne, f4, bpt kt1, bgt ks1, up_row ne, up_row ne, up_row ne, up_row ne, up_row ne, f5, bpt kt1]
    rw [bgt ks1, up_row ne, up_row ne, up_row ne, up_row ne, up_row ne, up_row ne, hM, bgt kt1, up_col (by decide), up_col (by decide), up_col (by decide), up_col (by decide), up_col (by decide), up_col (by decide), p1]
    rw [acopy_ok (by rw [m1]) (by rw [k1]) (by decide) (by decide) (by decide) (by rw [m1]; decide) (by rw [k1]; decide), bd_mk]
    have c1 : ∀ W : Int → Int → Int, ∀ A : Int, ∀ j, cpV W A 0 (t + 1) 0 40 (11 + 4 * i) j = W (11 + 4 * i) j := fun W A j => if_neg (by omega)
    have c2 : ∀ W : Int → Int → Int, ∀ A : Int, ∀ j, cpV W A 0 (t + 2) 0 40 (11 + 4 * i) j = W (11 + 4 * i) j := fun W A j => if_neg (by omega)
    have d1 : ∀ W : Int → Int → Int, ∀ A : Int, ∀ j, cpV W A 0 (t + 1) 0 40 t j = W t j := fun W A j => if_neg (by omega)
    have d2 : ∀ W : Int → Int → Int, ∀ A : Int, ∀ j, cpV W A 0 (t + 2) 0 40 t j = W t j := fun W A j => if_neg (by omega)
    rw [bgt ks1, c1, up_row ne, up_row ne, up_row ne, up_row ne, up_row ne, up_row ne, hS, bgt kt1, d1, up_col (by decide), up_col (by decide), up_col (by decide), up_col (by decide), up_col (by decide), up_col (by decide), p2]
    rw [acopy_ok (by rw [m2]) (by rw [k2]) (by decide) (by decide) (by decide) (by rw [m2]; decide) (by rw [k2]; decide), bd_mk]
    rw [bgt ks1, c2, c1, up_row ne, up_row ne, up_row ne, up_row ne, up_row ne, up_row ne, hC, bgt kt1, d2, d1, up_col (by decide), up_col (by decide), up_col (by decide), up_col (by decide), up_col (by decide), up_col (by decide), p3]
    rw [acopy_ok (by rw [m3]) (by rw [k3]) (by decide) (by decide) (by decide) (by rw [m3]; decide) (by rw [k3]; decide), bd_mk]
  · have rt : ∀ j, cpV (cpV (cpV (upV (upV (upV (upV (upV (upV V t 0 (S (153 + i))) t 1 (S (159 + i))) t 2 (S (165 + i))) t 3 (S (177 + i))) t 4 (S (183 + i))) t 5 (S (171 + i))) M 0 (t + 1) 0 40) Q 0 (t + 2) 0 40) C 0 (t + 3) 0 40 t j = upV (upV (upV (upV (upV (upV V t 0 (S (153 + i))) t 1 (S (159 + i))) t 2 (S (165 + i))) t 3 (S (177 + i))) t 4 (S (183 + i))) t 5 (S (171 + i)) t j := fun j => by
      unfold cpV; rw [if_neg (by omega), if_neg (by omega), if_neg (by omega)]
    unfold TrAt
    rw [rt, rt, rt, rt, rt, rt, rt, rt, rt]
    simp (disch := omega) only [up_eq, up_col]
    refine ⟨⟨⟨kt, k1, k2, k3⟩, ⟨by omega, by omega, by omega, by omega⟩, ⟨by omega, by omega, by omega⟩, p1, p2, p3⟩, ⟨trivial, trivial, trivial, trivial, trivial, trivial⟩, fun k g0 g1 => ?_⟩
    have := sl k g0 g1
    refine ⟨?_, ?_, ?_⟩
    · unfold cpV; rw [if_neg (by omega), if_neg (by omega), if_pos ⟨rfl, by omega, by omega⟩, up_row (by omega), up_row (by omega), up_row (by omega), up_row (by omega), up_row (by omega), up_row (by omega), ← this.1]; congr 1; omega
    · unfold cpV; rw [if_neg (by omega), if_pos ⟨rfl, by omega, by omega⟩, if_neg (by omega), up_row (by omega), up_row (by omega), up_row (by omega), up_row (by omega), up_row (by omega), up_row (by omega), ← this.2.1]; congr 1; omega
    · unfold cpV; rw [if_pos ⟨rfl, by omega, by omega⟩, if_neg (by omega), if_neg (by omega), up_row (by omega), up_row (by omega), up_row (by omega), up_row (by omega), up_row (by omega), up_row (by omega), ← this.2.2]; congr 1; omega
  · intro a j ha
    unfold cpV; rw [if_neg (by omega), if_neg (by omega), if_neg (by omega), up_row (by omega), up_row (by omega), up_row (by omega), up_row (by omega), up_row (by omega), up_row (by omega)]
  · intro j hj
    unfold cpV; rw [if_neg (by omega), if_neg (by omega), if_neg (by omega), up_col (by omega), up_col (by omega), up_col (by omega), up_col (by omega), up_col (by omega), up_col (by omega)]
  · have cs : ∀ W : Int → Int → Int, ∀ A B : Int, cpV W A 0 B 0 40 = setR W B (fun j => if 0 ≤ j ∧ j < 0 + 40 then W A (0 + (j - 0)) else W B j) := fun W A B => by
      funext b j; unfold cpV setR
      by_cases h : b = B
      · subst h
        by_cases q : 0 ≤ j ∧ j < 0 + 40
        · rw [if_pos ⟨rfl, q⟩, if_pos rfl]; exact (if_pos q).symm
        · rw [if_neg (fun z => q z.2), if_pos rfl]; exact (if_neg q).symm
      · rw [if_neg (fun q => h q.1), if_neg h]
    rw [cs, Pt_set H (by rw [k3]; decide), cs, Pt_set H (by rw [k2]; decide), cs, Pt_set H (by rw [k1]; decide)]
    simp only [Pt_k H (a := t) (by rw [kt]; decide)]
    exact X.2.1
end KEEP
