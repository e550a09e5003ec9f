/-! PURE: through; both search alike -/
section THR14
variable {sh : List (Nat × Nat)} {V V' V1 V2 V2' V3 V4 : Int → Int → Int} {r t m s c i j d k x a b y D D' f p w bk v tb q e e' E o u wt bg mo Eb : Int} {S S' S'' S3 R : Int → Int} {n dp : Nat} {ρ : Nat → Int}
theorem KQ_WI (h : KQ S S' i) (W : WI S D i) : WI S' D i := by
  obtain ⟨KO, TO, h0, h6⟩ := W
  obtain ⟨t1, t2, t3, t4, t5, t6, t7⟩ := TO
  have l : ∀ j, j < 189 → S' j = S j := fun j hj => KQ_low h h0 t1 hj
  refine ⟨KOk_of KO (fun j hj => l j (by omega)), ⟨?_, ?_, ?_, ?_, ?_, ?_, fun k k0 k1 => ?_⟩, h0, h6⟩
  · rw [l _ (by omega)]; exact t1
  · rw [l _ (by omega)]; exact t2
  · rw [l _ (by omega)]; exact t3
  · rw [l _ (by omega)]; exact t4
  · rw [l _ (by omega)]; exact t5
  · rw [l _ (by omega), l _ (by omega)]; exact t6
  · rw [l _ (by omega)] at k1
    have z := KQ_slip h h0 h6 t1 h0 h6 k0 k1 (by omega)
    rw [z.1, z.2.1, z.2.2, l 7 (by omega)]
    exact t7 k k0 k1
theorem BE_congr (h : BE V V2 bg) (h1 : V' 67 1 = V 67 1) (h2 : V' 67 2 = V 67 2) (h3 : ∀ j, V' 68 j = V 68 j) (h4 : V2' 101 30 = V2 101 30) (h5 : V2' 101 31 = V2 101 31) (h6 : ∀ j, V2' 113 j = V2 113 j) : BE V' V2' bg := by
  unfold BE at h ⊢
  rw [h1, h2, h4, h5]
  simp only [h3, h6]
  exact h
/-- what both have while they search -/
def TH (sh : List (Nat × Nat)) (V V2 : Int → Int → Int) (S : Int → Int) (i bg wt mo D Eb : Int) : Prop := (Pt V ∧ WPt V ∧ CK V S ∧ CM V S) ∧ WI S D i ∧ TW sh V S i ∧ PM V2 ∧ (V2 101 15 = 0 ∧ V2 101 32 = bg) ∧ (V 67 8 = wt ∧ V 67 9 = mo ∧ ∀ t, 0 ≤ t → t < S 0 → V 70 t = ((opM S t (S 7).toNat : Nat) : Int)) ∧ (V 67 0 = V2 101 29 ∧ 0 ≤ V 67 0) ∧ (0 ≤ S (165 + i) ∧ S (165 + i) ≤ Eb) ∧ (V 67 0 ≤ 100000 → BE V V2 bg)
theorem TH_keep (h : TH sh V V2 S i bg wt mo D Eb) {O : Int} (Q : CQ V V' (S (171 + i)) O) (Q2 : MQ2 V2 V2' O) (Q3 : KQ S S' i) (e : V' 80 0 = V 80 0 ∧ V' 80 1 = V 80 1 ∧ V' 80 2 = V 80 2 ∧ V' 80 5 = V 80 5) (ht : V' 67 0 = V2' 101 29 ∧ 0 ≤ V' 67 0) (hB : V' 67 0 ≤ 100000 → BE V' V2' bg) : TH sh V' V2' S' i bg wt mo D Eb := by
  obtain ⟨⟨P, WP, K, C⟩, W, T, P2, ⟨b1, b2⟩, ⟨c1, c2, c3⟩, _, ⟨d1, d2⟩, _⟩ := h
  obtain ⟨KO, TO, h0, h6⟩ := id W
  have hm := TO.1
  have h4 := KO.2.2.2.1
  have l : ∀ j, j < 189 → S' j = S j := fun j hj => KQ_low Q3 h0 hm hj
  refine ⟨⟨TF_Pt Q.1 P, TF_WPt Q.1 WP, TF_CK Q.1 K h4 (fun j hj => l j (by omega)), TF_CM Q.1 C h4 (fun j hj => l j (by omega))⟩, KQ_WI Q3 W, TW_of T h0 h6 TO.2.1 (fun j hj => Q.1 80 j (by unfold TX; omega)) e.1 e.2.1 e.2.2.1 e.2.2.2 Q.2.2.2 Q3 hm, MF_PM Q2.1 P2, ⟨by rw [Q2.1 _ _ (by unfold MX; omega)]; exact b1, by rw [Q2.1 _ _ (by unfold MX; omega)]; exact b2⟩, ⟨by rw [Q.1 _ _ (by unfold TX; omega)]; exact c1, by rw [Q.1 _ _ (by unfold TX; omega)]; exact c2, fun t t0 t1 => ?_⟩, ht, ⟨by rw [l _ (by omega)]; exact d1, by rw [l _ (by omega)]; exact d2⟩, hB⟩
  rw [l 0 (by omega)] at t1
  rw [l 7 (by omega), opM_congr (fun j hj => l j (by omega)) _ (by omega), Q.1 _ _ (by unfold TX; omega)]
  exact c3 t t0 t1
/-- what is claimed of a search at depth O -/
def EXq (sh : List (Nat × Nat)) (i bg wt mo : Int) (dp : Nat) : Prop := ∀ (O : Nat) (V V2 : Int → Int → Int) (S : Int → Int) (D Eb u : Int), (O : Int) ≤ mo → mo - O < dp → TH sh V V2 S i bg wt mo D Eb → (∀ k : Int, 0 ≤ k → k < O → V 69 k = V2 112 k) → V 67 0 ≤ 100000 → D < 1800000000 + 90 * O → Eb < 2000000000 + 999 * O → ∃ V' V2' S', To_explore dp 67 2 O u (sh, V) = some (0, (sh, V')) ∧ M_tries dp 101 i wt u O mo (sh, setR V2 102 S) = some (0, (sh, setR V2' 102 S')) ∧ TH sh V' V2' S' i bg wt mo D Eb ∧ CQ V V' (S (171 + i)) O ∧ MQ2 V2 V2' O ∧ KQ S S' i
theorem sStep_purse (W : WI S D i) (hr : rfW S i r = 0) (d1 : 0 ≤ S (165 + i)) (d2 : S (165 + i) ≤ Eb) (hE : Eb < 2100000000) : 0 ≤ sStep S i r (165 + i) ∧ sStep S i r (165 + i) ≤ Eb + 999 := by
  obtain ⟨KO, TO, h0, h6⟩ := W
  obtain ⟨hv, hs⟩ := rfW_0 hr
  have hA := sAmt_rng KO TO hv.1 hv.2
  unfold sStep
  rw [upS_ne (by omega), upS_ne (by omega)]
  rcases sBk_01 S i r with g | g
  · have ha : sAmt S i r ≤ S (165 + i) := by
      unfold sRefuse at hs
      have : sAmt S i r = sToll S r (S (159 + i)) := by unfold sAmt; rw [if_pos g]
      rw [this]
      rw [if_pos g] at hs
      repeat' split at hs
      all_goals omega
    rw [if_pos g]; unfold sPay; rw [upS_ne (by omega), upS_eq, w32_id (by omega) (by omega)]; omega
  · rw [if_neg (by omega)]; unfold sHad; rw [upS_ne (by omega), upS_eq, w32_id (by omega) (by omega)]; omega
theorem jE_CQ {M O : Int} : CQ V (jE V o u) M O := ⟨fun a j h => jE_fr (fun g => h (by unfold TX; omega)) (fun g => h (by unfold TX; omega)), fun k _ _ => jE_fr (by decide) (by omega), fun o j _ _ => jE_fr (by omega) (by omega), fun a k _ _ _ _ _ => jE_fr (by omega) (by omega)⟩
theorem tloop (H : Sh sh) (hm8 : mo ≤ 8) (IH : EXq sh i bg wt mo dp) {O : Nat} (hO : (O : Int) < mo) (hdp : mo - ((O + 1 : Nat) : Int) < dp) : ∀ (n z : Nat) (V V2 : Int → Int → Int) (S : Int → Int), (z : Int) ≤ S 7 → (S 7).toNat - z < n → TH sh V V2 S i bg wt mo D Eb → (∀ k : Int, 0 ≤ k → k < O → V 69 k = V2 112 k) → D < 1800000000 + 90 * O → Eb < 2000000000 + 999 * O → ∃ V' V2' S', To_explore_L33 (fun a0 a1 a2 a3 μ => To_explore dp a0 a1 a2 a3 μ) n 67 2 O u ((opM S (S (153 + i)) (S 7).toNat : Nat) : Int) z (sh, V) = some (0, (sh, V')) ∧ M_tries_L124 (fun a0 a1 a2 a3 a4 a5 μ => M_tries dp a0 a1 a2 a3 a4 a5 μ) n 101 i wt u O mo z (sh, setR V2 102 S) = some (0, (sh, setR V2' 102 S')) ∧ TH sh V' V2' S' i bg wt mo D Eb ∧ CQ V V' (S (171 + i)) O ∧ MQ2 V2 V2' O ∧ KQ S S' i := by
  intro n
  induction n with
  | zero => intro z _ _ _ _ h; omega
  | succ n ih =>
    intro z V V2 S hz hn hT hrow hD hE
    obtain ⟨⟨P, WP, K, C⟩, W, T, P2, ⟨b1, b2⟩, ⟨c1, c2, c3⟩, ⟨t1, t2⟩, ⟨d1, d2⟩, hB⟩ := id hT
    obtain ⟨KO, TO, h0, h6⟩ := id W
    have h4 := KO.2.2.2.1
    have e7 : V 3 7 = S 7 := K.2.2.2.2.2.2.2.1
    by_cases h : (z : Int) < S 7
    · by_cases hf : 100000 < V 67 0
      · refine ⟨V, V2, S, ?_, ?_, hT, CQ_refl, MQ2_refl, KQ_refl⟩
        · rw [To_explore_L33, bgt (by rw [k_2 H]), q_2_0 P, bgt (by rw [k_3 H]), e7, if_pos h, bgt (by rw [k_67 H]), if_pos hf]
        · rw [M_tries_L124, bg101 H, blp P2 H (by omega) (by omega), if_pos h, if_pos hO, bg101 H, ← t1, if_pos hf]
      · -- the next turn, from a memory that is reached
        have go : ∀ V4 V24 S4, To_explore_L33 (fun a0 a1 a2 a3 μ => To_explore dp a0 a1 a2 a3 μ) (n + 1) 67 2 O u ((opM S (S (153 + i)) (S 7).toNat : Nat) : Int) z (sh, V) = To_explore_L33 (fun a0 a1 a2 a3 μ => To_explore dp a0 a1 a2 a3 μ) n 67 2 O u ((opM S (S (153 + i)) (S 7).toNat : Nat) : Int) (z + 1) (sh, V4) → M_tries_L124 (fun a0 a1 a2 a3 a4 a5 μ => M_tries dp a0 a1 a2 a3 a4 a5 μ) (n + 1) 101 i wt u O mo z (sh, setR V2 102 S) = M_tries_L124 (fun a0 a1 a2 a3 a4 a5 μ => M_tries dp a0 a1 a2 a3 a4 a5 μ) n 101 i wt u O mo (z + 1) (sh, setR V24 102 S4) → TH sh V4 V24 S4 i bg wt mo D Eb → CQ V V4 (S (171 + i)) O → MQ2 V2 V24 O → KQ S S4 i → ∃ V' V2' S', To_explore_L33 (fun a0 a1 a2 a3 μ => To_explore dp a0 a1 a2 a3 μ) (n + 1) 67 2 O u ((opM S (S (153 + i)) (S 7).toNat : Nat) : Int) z (sh, V) = some (0, (sh, V')) ∧ M_tries_L124 (fun a0 a1 a2 a3 a4 a5 μ => M_tries dp a0 a1 a2 a3 a4 a5 μ) (n + 1) 101 i wt u O mo z (sh, setR V2 102 S) = some (0, (sh, setR V2' 102 S')) ∧ TH sh V' V2' S' i bg wt mo D Eb ∧ CQ V V' (S (171 + i)) O ∧ MQ2 V2 V2' O ∧ KQ S S' i := by
          intro V4 V24 S4 g1 g2 g3 g4 g5 g6
          have l : ∀ j, j < 189 → S4 j = S j := fun j hj => KQ_low g6 h0 TO.1 hj
          obtain ⟨V', V2', S', x1, x2, x3, x4, x5, x6⟩ := ih (z + 1) V4 V24 S4 (by rw [l 7 (by omega)]; omega) (by rw [l 7 (by omega)]; omega) g3 (fun k k0 k1 => by rw [g4.2.1 k k0 k1, g5.2.1 k k0 k1]; exact hrow k k0 k1) hD hE
          rw [l 7 (by omega), l (153 + i) (by omega), opM_congr (fun j hj => l j (by omega)) _ (by omega)] at x1
          rw [l (171 + i) (by omega)] at x4
          rw [show ((z + 1 : Nat) : Int) = (z : Int) + 1 by omega] at x1 x2
          exact ⟨V', V2', S', g1.trans x1, g2.trans x2, x3, CQ_trans g4 x4, MQ2_trans g5 x5, KQ_trans g6 x6 h0 TO.1 h6⟩
        have wz : w32 ((z : Int) + 1) = z + 1 := w32_id (by omega) (by omega)
        have mh := mhead (rc := fun a0 a1 a2 a3 a4 a5 μ => M_tries dp a0 a1 a2 a3 a4 a5 μ) (n := n) (wt := wt) (u := u) (O := O) (z := z) H P2 W (by omega) h hO (by omega) (by omega)
        by_cases hr : sRefuse S i z = 0
        · have er : rfW S i z = 0 := by unfold rfW; rw [if_pos ⟨by omega, h⟩]; exact hr
          obtain ⟨Vc, f1, f2, f3, f4, f5, f6⟩ := cturn1 (rc := fun a0 a1 a2 a3 μ => To_explore dp a0 a1 a2 a3 μ) (n := n) (u := u) (O := O) (z := z) H P WP K C W (by omega) T (by omega) h (by omega) t2 hr
          by_cases hl : V 67 0 = 100000
          · -- too many are tried
            obtain ⟨dq, rfl⟩ : ∃ dq, dp = dq + 1 := ⟨dp - 1, by omega⟩
            rw [if_pos hr, if_pos (by omega)] at mh
            have sl := stp_low (bk := 0) W er (j := 0) (by decide)
            have hw := (WI_stp (bk := 0) W er).2.1
            rw [stp, if_pos rfl] at sl hw
            have tw := TW_0 f2 h0 h6
            obtain ⟨V4, y1, y2, y3, y4, y5⟩ := f6 _ 0 (explore_full (o := ((O + 1 : Nat) : Int)) H (TF_Pt f1 P) (by omega) (by omega) (by rw [tw.1]; exact hw.2.2.2.2.1) (by rw [tw.1]; have := hw.2.2.2.2.2.1; have := KO.2.1; omega) (by rw [f3.1]; omega)) jE_CQ
            have z4 : V4 67 0 = 100001 := by rw [y4, jE_fr (by decide) (by omega), f3.1]; omega
            have Q2 : MQ2 V2 (upV V2 101 29 (V2 101 29 + 1)) O := ⟨MF_up MF_refl (by unfold MX; omega), fun k _ _ => up_row (by decide), fun k _ => up_row (by decide)⟩
            refine ⟨V4, _, S, ?_, mh, TH_keep hT y2 Q2 KQ_refl y3 ⟨by rw [z4, up_eq]; omega, by omega⟩ (fun g => by omega), y2, Q2, KQ_refl⟩
            obtain ⟨m, rfl⟩ : ∃ m, n = m + 1 := ⟨n - 1, by omega⟩
            have P4 := TF_Pt y2.1 P
            have e74 : V4 3 7 = S 7 := by rw [TF_lo y2.1 (by decide)]; exact e7
            rw [y1, To_explore_L33, bgt (by rw [k_2 H]), q_2_0 P4, bgt (by rw [k_3 H]), e74]
            by_cases g : (z : Int) + 1 < S 7
            · rw [if_pos g, bgt (by rw [k_67 H]), z4, if_pos (by decide)]
            · rw [if_neg g]
          · obtain ⟨Vd, m1, m2, m3, m4, m5, m6⟩ := mturn1 (rc := fun a0 a1 a2 a3 a4 a5 μ => M_tries dp a0 a1 a2 a3 a4 a5 μ) (n := n) (wt := wt) (u := u) (O := O) (z := z) H P2 W (by omega) h hO (by omega) (by omega) (by omega) hr b1
            have sl : ∀ j, j < 153 → sStep S i z j = S j := fun j hj => by
              have := stp_low (bk := 0) W er (j := j) hj
              rw [stp, if_pos rfl] at this; exact this
            have hw := WI_stp (bk := 0) W er
            rw [stp, if_pos rfl] at hw
            have hpu := sStep_purse W er d1 d2 (by omega)
            have THc : TH sh Vc Vd (sStep S i z) i bg wt mo (D + 90) (Eb + 999) := by
              refine ⟨⟨TF_Pt f1 P, TF_WPt f1 WP, TF_CK f1 K h4 (fun j hj => sl j (by omega)), TF_CM f1 C h4 (fun j hj => sl j (by omega))⟩, hw, f2, MF_PM m1 P2, ⟨by rw [m1 _ _ (by unfold MX; omega)]; exact b1, by rw [m1 _ _ (by unfold MX; omega)]; exact b2⟩, ⟨by rw [f3.2 _ (by decide)]; exact c1, by rw [f3.2 _ (by decide)]; exact c2, fun t t0 t1 => ?_⟩, ⟨by rw [f3.1, m2.1, t1], by rw [f3.1]; omega⟩, hpu, fun _ => BE_congr (hB (by omega)) (f3.2 _ (by decide)) (f3.2 _ (by decide)) f4 m2.2.1 m2.2.2 m3⟩
              rw [sl 0 (by omega)] at t1
              rw [sl 7 (by omega), opM_congr (fun j hj => sl j (by omega)) _ (by omega), f1 _ _ (by unfold TX; omega)]
              exact c3 t t0 t1
            obtain ⟨V3, V23, S3, x1, x2, x3, x4, x5, x6⟩ := IH (O + 1) Vc Vd (sStep S i z) (D + 90) (Eb + 999) (or32 u (shl32 1 (sStep S i z (153 + i)))) (by omega) hdp THc (fun k k0 k1 => by
              by_cases e : k = O
              · rw [e, f5.1, m4.1]
              · rw [f5.2 k e, m4.2 k e]; exact hrow k k0 (by omega)) (by rw [f3.1]; omega) (by omega) (by omega)
            obtain ⟨V4, y1, y2, y3, y4, y5⟩ := f6 V3 0 x1 x4
            obtain ⟨S4, w1, w2⟩ := m6 V23 S3 0 x2 x5 x6
            have Q2 : MQ2 V2 V23 O := ⟨MF_trans m1 x5.1, fun k k0 k1 => by rw [x5.2.1 k k0 (by omega), m4.2 k (by omega)], fun k hk => by rw [x5.2.2 k (by omega), m5 k hk]⟩
            have tx := x3.2.2.2.2.2.2.1
            exact go V4 V23 S4 y1 w1 (TH_keep hT y2 Q2 w2 y3 (by rw [y4]; exact tx) (fun g => BE_congr (x3.2.2.2.2.2.2.2.2 (by rw [← y4]; exact g)) (y4 _) (y4 _) y5 rfl rfl (fun _ => rfl))) y2 Q2 w2
        · rw [if_neg hr, wz] at mh
          obtain ⟨V4, y1, y2, y3, y4, y5⟩ := cturn0 (rc := fun a0 a1 a2 a3 μ => To_explore dp a0 a1 a2 a3 μ) (n := n) (u := u) (O := O) (z := z) H P WP K C W (by omega) T (by omega) h (by omega) hr
          exact go V4 V2 S y1 mh (TH_keep hT y2 MQ2_refl KQ_refl ⟨y3 _, y3 _, y3 _, y3 _⟩ (by rw [y4]; exact ⟨t1, t2⟩) (fun g => BE_congr (hB (by rw [← y4]; exact g)) (y4 _) (y4 _) y5 rfl rfl (fun _ => rfl))) y2 MQ2_refl KQ_refl
    · refine ⟨V, V2, S, ?_, ?_, hT, CQ_refl, MQ2_refl, KQ_refl⟩
      · rw [To_explore_L33, bgt (by rw [k_2 H]), q_2_0 P, bgt (by rw [k_3 H]), e7, if_neg h]
      · rw [M_tries_L124, bg101 H, blp P2 H (by omega) (by omega), if_neg h]
theorem EXq_all (H : Sh sh) (hm8 : mo ≤ 8) (g0 : 0 ≤ bg) (g1 : bg < 2147483648) (hw : 0 ≤ wt) (hw' : wt < 2147483648) : ∀ dp, EXq sh i bg wt mo dp := by
  intro dp
  induction dp with
  | zero => intro O V V2 S D Eb u a1 a2; omega
  | succ dp ih =>
    intro O V V2 S D Eb u hO hdp hT hrow ht hD hE
    obtain ⟨⟨P, WP, K, C⟩, W, T, P2, ⟨b1, b2⟩, ⟨c1, c2, c3⟩, ⟨t1, t2⟩, ⟨d1, d2⟩, hB⟩ := id hT
    obtain ⟨KO, TO, h0, h6⟩ := id W
    have tw := TW_0 T h0 h6
    have k67 : (kS sh 67).1 = 5 := by rw [k_67 H]
    have e1 : V 3 1 = S 1 := K.2.1
    obtain ⟨Vh, x1, x2, x3, x4⟩ := thead (dp := dp) (S := S) (u := u) (wt := wt) (mo := mo) (O := O) H P2 h0 h6 (by omega)
    have B' := headBE (O := O) (u := u) (by omega) (hB ht) g0 g1 b2 d1 (by omega) hw hw' c1 tw.1 tw.2.2.1 e1 hrow x2 x3
    have j67 : ∀ j, j ≠ 1 → j ≠ 2 → jE V O u 67 j = V 67 j := fun j a1 a2 => jE_fr (by decide) (by omega)
    have j80 : ∀ j, jE V O u 80 j = V 80 j := fun j => jE_fr (by decide) (by omega)
    have Q2 : MQ2 V2 Vh O := ⟨fun a j h => x4 a j (fun g => h (by unfold MX; omega)) (fun g => h (by unfold MX; omega)), fun k _ _ => x4 _ _ (by decide) (by omega), fun k _ => x4 _ _ (by decide) (by omega)⟩
    have TH' : TH sh (jE V O u) Vh S i bg wt mo D Eb := TH_keep hT (jE_CQ (O := O)) Q2 KQ_refl ⟨j80 _, j80 _, j80 _, j80 _⟩ (by rw [j67 _ (by decide) (by decide), x4 _ _ (by decide) (by omega)]; exact ⟨t1, t2⟩) (fun _ => B')
    have Pj := TH'.1.1
    have hj : To_judgeEnd 67 2 O u (sh, V) = some (0, (sh, jE V O u)) := judgeEnd_eq H P (by omega) (by omega)
    rw [x1, To_explore, bit k67, hj, bd2_mk, bgt k67, j67 _ (by decide) (by decide), c2]
    have tt : 0 ≤ S (153 + i) ∧ S (153 + i) < S 0 := ⟨TO.2.2.2.2.1, TO.2.2.2.2.2.1⟩
    have hS0 := KO.2.1
    have h3 := KO.2.2.1
    by_cases h : (O : Int) < mo
    · rw [if_pos h, bgt k67, q_67_5 Pj, bgt k67, q_67_7 Pj, bgt (by rw [k_80 H]), j80, tw.1, blt (by rw [k_70 H]) tt.1 (by rw [k_70 H]; show S (153 + i) < 12; omega), jE_fr (by decide) (by omega), c3 _ tt.1 tt.2]
      obtain ⟨V', V2', S', y1, y2, y3, y4, y5, y6⟩ := tloop (u := u) H hm8 ih h (by omega) FU 0 (jE V O u) Vh S (by omega) (by show _ < 1000000; have := KO.2.2.2.1; omega) TH' (fun k k0 k1 => by rw [jE_fr (by decide) (by omega), x4 _ _ (by decide) (by omega)]; exact hrow k k0 k1) hD hE
      exact ⟨V', V2', S', y1, y2, y3, CQ_trans jE_CQ y4, MQ2_trans Q2 y5, y6⟩
    · rw [if_neg h]
      refine ⟨jE V O u, Vh, S, rfl, ?_, TH', jE_CQ, Q2, KQ_refl⟩
      have e : FU = 999999 + 1 := rfl
      have Ph := TH'.2.2.2.1
      rw [e, M_tries_L124, bg101 H, blp Ph H (by omega) (by omega)]
      split
      · first | rfl | rw [if_neg h]
      · rfl
end THR14
