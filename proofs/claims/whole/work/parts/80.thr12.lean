/-! PURE: through; a turn of the class's loop -/
section THR12
variable {sh : List (Nat × Nat)} {V V' V1 V2 V2' V3 V4 : Int → Int → Int} {r t m s c i j d k x a b y D D' f p w bk v tb q e e' E o u wt bg mo Eb : Int} {S S' S'' R : Int → Int} {n : Nat} {ρ : Nat → Int}
theorem q71 (P : Pt V) (h0 : 0 ≤ o) (h1 : o < 8) : V 71 o = 72 + o := by
  have : o = 0 ∨ o = 1 ∨ o = 2 ∨ o = 3 ∨ o = 4 ∨ o = 5 ∨ o = 6 ∨ o = 7 := by omega
  rcases this with rfl | rfl | rfl | rfl | rfl | rfl | rfl | rfl
  · exact q_71_0 P
  · exact q_71_1 P
  · exact q_71_2 P
  · exact q_71_3 P
  · exact q_71_4 P
  · exact q_71_5 P
  · exact q_71_6 P
  · exact q_71_7 P
theorem mbit (h3 : 0 ≤ S 7) (h4 : S 7 ≤ 24) {z : Nat} (hz : (z : Int) < S 7) : and32 (shr32 ((opM S t (S 7).toNat : Nat) : Int) (z : Int)) 1 = if S (128 + (z : Int)) = 0 ∧ (S (8 + (z : Int)) = t ∨ S (32 + (z : Int)) = t) then 1 else 0 := by
  have hb := bit_at (m := opM S t (S 7).toNat) (r := z) (by have := opM_lt (S := S) (t := t) (S 7).toNat; have : 2 ^ (S 7).toNat ≤ 2 ^ 24 := Nat.pow_le_pow_right (by decide) (by omega); omega) (by omega)
  rw [bit_tb, opM_bit] at hb
  rw [hb]
  have hz' : z < (S 7).toNat := by omega
  by_cases q : S (128 + (z : Int)) = 0 ∧ (S (8 + (z : Int)) = t ∨ S (32 + (z : Int)) = t)
  · rw [if_pos q, if_pos (by simp [hz', q])]; rfl
  · rw [if_neg q, if_neg (by simp only [hz', true_and, q, decide_false]; decide)]; rfl
theorem WI_pb (W : WI S D i) : WI (pb S i a b) D i := by
  obtain ⟨K, T, h0, h6⟩ := W
  obtain ⟨t1, t2, t3, t4, t5, t6, t7⟩ := T
  refine ⟨KOk_of K (fun j hj => pb_ne (by omega) (by omega)), ⟨?_, ?_, ?_, ?_, ?_, ?_, fun k k0 k1 => ?_⟩, h0, h6⟩
  · rw [pb_ne (by omega) (by omega)]; exact t1
  · rw [pb_ne (by omega) (by omega)]; exact t2
  · rw [pb_ne (by omega) (by omega)]; exact t3
  · rw [pb_ne (by omega) (by omega)]; exact t4
  · rw [pb_ne (by omega) (by omega)]; exact t5
  · rw [pb_ne (by omega) (by omega), pb_ne (by omega) (by omega)]; exact t6
  · rw [pb_ne (by omega) (by omega)] at k1
    rw [pb_ne (j := 189 + (40 * i + k)) (by omega) (by omega), pb_ne (j := 7) (by omega) (by omega), pb_ne (j := 429 + (40 * i + k)) (by omega) (by omega), pb_ne (j := 669 + (40 * i + k)) (by omega) (by omega)]
    exact t7 k k0 k1
theorem CK_pb (K : CK V S) (h0 : 0 ≤ i) (h4 : S 7 ≤ 24) : CK V (pb S i a b) := CK_of K h4 (fun j hj => pb_ne (by omega) (by omega)) (fun _ _ _ _ => rfl)
theorem CM_pb (K : CM V S) (h0 : 0 ≤ i) (h4 : S 7 ≤ 24) : CM V (pb S i a b) := CM_of K h4 (fun j hj => pb_ne (by omega) (by omega)) rfl
theorem TrAt_fr (T : TrAt sh V t m s c S i) (h1 : ∀ j, V' t j = V t j) (h2 : ∀ j, V' m j = V m j) (h3 : ∀ j, V' s j = V s j) (h4 : ∀ j, V' c j = V c j) : TrAt sh V' t m s c S i := by
  unfold TrAt at T ⊢
  simp only [h1, h2, h3, h4]
  exact T
/-- the walker is kept, and the going is tried -/
theorem ckeep {rc : Int → Int → Int → Int → Mem → Option (Int × Mem)} {O z : Nat} (H : Sh sh) (P : Pt V) (WP : WPt V) (K : CK V S) (C : CM V S) (W : WI S D i) (hD : D < 1900000000) (T : TW sh V S i) (hO : O < 8) (hz : (z : Int) < S 7) (ht : V 67 0 ≤ 100000) (ho : S (128 + (z : Int)) = 0 ∧ (S (8 + (z : Int)) = S (153 + i) ∨ S (32 + (z : Int)) = S (153 + i))) :
  ∃ a b R, TrAt sh (setR V (72 + O) R) 80 81 82 83 (pb S i a b) i ∧ KR V R ∧ To_explore_L33 rc (n + 1) 67 2 O u ((opM S (S (153 + i)) (S 7).toNat : Nat) : Int) z (sh, V) = if sRefuse S i z = 0 then (bd (getf 5 0 (sh, cStep (setR V (72 + O) R) 80 81 82 83 (pb S i a b) i z) 67) fun x12 =>
            bd (putf 5 0 (sh, cStep (setR V (72 + O) R) 80 81 82 83 (pb S i a b) i z) 67 (w32 (x12 + 1))) fun μ13 =>
            bd (getf 5 4 μ13 67) fun x14 =>
            bd (sta 20 μ13 x14 O z) fun μ15 =>
            bd (getf 5 7 μ15 67) fun x16 =>
            bd (getf 6 0 μ15 x16) fun x17 =>
            bd2 (rc 67 2 (w32 (O + 1)) (or32 u (shl32 1 x17)) μ15) fun _ μ19 =>
            bd (getf 5 7 μ19 67) fun x20 =>
            bd (getf 5 6 μ19 67) fun x21 =>
            bd (lda 27 μ19 x21 O) fun x22 =>
            bd (isk 6 μ19 x20) fun _ =>
            bd2 (Tr_regain x20 x22 μ19) fun _ μ24 =>
            To_explore_L33 rc n 67 2 O u ((opM S (S (153 + i)) (S 7).toNat : Nat) : Int) (w32 (z + 1)) μ24)
    else To_explore_L33 rc n 67 2 O u ((opM S (S (153 + i)) (S 7).toNat : Nat) : Int) (w32 (z + 1)) (sh, setR V (72 + O) R) := by
  obtain ⟨KO, TO, h0, h6⟩ := id W
  have h3 := KO.2.2.1
  have h4 := KO.2.2.2.1
  have tw := TW_0 T h0 h6
  obtain ⟨a, b, T⟩ := T
  obtain ⟨R, e, kr⟩ := keepIn_ok (o := (O : Int)) H WP (by omega) (by omega) (by rw [tw.2.2.2]; exact TO.1)
  have k67 : (kS sh 67).1 = 5 := by rw [k_67 H]
  have T' : TrAt sh (setR V (72 + O) R) 80 81 82 83 (pb S i a b) i := TrAt_fr T (fun j => by rw [setR_ne (by omega)]) (fun j => by rw [setR_ne (by omega)]) (fun j => by rw [setR_ne (by omega)]) (fun j => by rw [setR_ne (by omega)])
  have F : TF V (setR V (72 + O) R) := TF_set TF_refl (by omega) (by omega)
  have P' := TF_Pt F P
  have K' : CK (setR V (72 + O) R) (pb S i a b) := CK_pb (TF_CK F K h4 (fun _ _ => rfl)) h0 h4
  have C' : CM (setR V (72 + O) R) (pb S i a b) := CM_pb (TF_CM F C h4 (fun _ _ => rfl)) h0 h4
  refine ⟨a, b, R, T', kr, ?_⟩
  have e7 : V 3 7 = S 7 := K.2.2.2.2.2.2.2.1
  rw [To_explore_L33, bgt (by rw [k_2 H]), q_2_0 P, bgt (by rw [k_3 H]), e7, if_pos hz, bgt k67, if_neg (by omega), mbit h3 h4 hz, if_pos ho, if_neg (by decide), bgt k67, q_67_7 P, bgt k67, q_67_6 P, blt (by rw [k_71 H]) (by omega) (by rw [k_71 H]; show (O : Int) < 8; omega), q71 P (by omega) (by omega), bit (by rw [k_80 H]), e, bd2_mk, bgt k67, q_67_7 P', bit (by rw [k_2 H]), Wo_step_x H P' K' C' T' hD (WI_pb W), bd2_mk, rfW_pb h0 h6 h4]
  have er : rfW S i z = sRefuse S i z := if_pos ⟨by omega, hz⟩
  by_cases g : sRefuse S i z = 0
  · have hA := sAns_nn W (er.trans g)
    rw [er, if_pos g, if_pos g, if_pos g, sAns_pb h0 h6 (by omega) TO.1, if_neg (by omega)]
  · have hn := rfW_neg (S := S) (i := i) (v := z) (by rw [er]; exact g)
    rw [er] at hn ⊢
    rw [if_neg g, if_neg g, if_neg g, if_pos hn]
/-- a going that is refused -/
theorem cturn0 {rc : Int → Int → Int → Int → Mem → Option (Int × Mem)} {O z : Nat} (H : Sh sh) (P : Pt V) (WP : WPt V) (K : CK V S) (C : CM V S) (W : WI S D i) (hD : D < 1900000000) (T : TW sh V S i) (hO : O < 8) (hz : (z : Int) < S 7) (ht : V 67 0 ≤ 100000) (hr : sRefuse S i z ≠ 0) :
  ∃ V4, To_explore_L33 rc (n + 1) 67 2 O u ((opM S (S (153 + i)) (S 7).toNat : Nat) : Int) z (sh, V) = To_explore_L33 rc n 67 2 O u ((opM S (S (153 + i)) (S 7).toNat : Nat) : Int) (z + 1) (sh, V4) ∧ CQ V V4 (S (171 + i)) O ∧ (∀ j, V4 80 j = V 80 j) ∧ (∀ j, V4 67 j = V 67 j) ∧ (∀ j, V4 68 j = V 68 j) := by
  obtain ⟨KO, TO, h0, h6⟩ := id W
  have h3 := KO.2.2.1
  have h4 := KO.2.2.2.1
  have wz : w32 ((z : Int) + 1) = z + 1 := w32_id (by omega) (by omega)
  by_cases ho : S (128 + (z : Int)) = 0 ∧ (S (8 + (z : Int)) = S (153 + i) ∨ S (32 + (z : Int)) = S (153 + i))
  · obtain ⟨a, b, R, T', kr, e⟩ := ckeep (rc := rc) (n := n) (u := u) H P WP K C W hD T hO hz ht ho
    rw [if_neg hr, wz] at e
    refine ⟨_, e, ⟨TF_set TF_refl (by omega) (by omega), fun k k0 k1 => by rw [setR_ne (by omega)], fun o j g0 g1 => by rw [setR_ne (by omega)], fun a k g0 g1 _ _ _ => by rw [setR_ne (by omega)]⟩, fun j => by rw [setR_ne (by omega)], fun j => by rw [setR_ne (by omega)], fun j => by rw [setR_ne (by omega)]⟩
  · have e7 : V 3 7 = S 7 := K.2.2.2.2.2.2.2.1
    refine ⟨V, ?_, CQ_refl, fun _ => rfl, fun _ => rfl, fun _ => rfl⟩
    rw [To_explore_L33, bgt (by rw [k_2 H]), q_2_0 P, bgt (by rw [k_3 H]), e7, if_pos hz, bgt (by rw [k_67 H]), if_neg (by omega), mbit h3 h4 hz, if_neg ho, if_pos rfl, wz]
/-- a going that is done: what the next depth begins with, and what is left behind it -/
theorem cturn1 {rc : Int → Int → Int → Int → Mem → Option (Int × Mem)} {O z : Nat} (H : Sh sh) (P : Pt V) (WP : WPt V) (K : CK V S) (C : CM V S) (W : WI S D i) (hD : D < 1900000000) (T : TW sh V S i) (hO : O < 8) (hz : (z : Int) < S 7) (ht : V 67 0 ≤ 100000) (ht0 : 0 ≤ V 67 0) (hr : sRefuse S i z = 0) :
  ∃ Vc, TF V Vc ∧ TW sh Vc (sStep S i z) i ∧ (Vc 67 0 = V 67 0 + 1 ∧ ∀ j, j ≠ 0 → Vc 67 j = V 67 j) ∧ (∀ j, Vc 68 j = V 68 j) ∧ (Vc 69 O = z ∧ ∀ k, k ≠ (O : Int) → Vc 69 k = V 69 k) ∧ (∀ V3 y, rc 67 2 ((O + 1 : Nat) : Int) (or32 u (shl32 1 (sStep S i z (153 + i)))) (sh, Vc) = some (y, (sh, V3)) → CQ Vc V3 (sStep S i z (171 + i)) ((O + 1 : Nat) : Int) → ∃ V4, To_explore_L33 rc (n + 1) 67 2 O u ((opM S (S (153 + i)) (S 7).toNat : Nat) : Int) z (sh, V) = To_explore_L33 rc n 67 2 O u ((opM S (S (153 + i)) (S 7).toNat : Nat) : Int) (z + 1) (sh, V4) ∧ CQ V V4 (S (171 + i)) O ∧ (V4 80 0 = V 80 0 ∧ V4 80 1 = V 80 1 ∧ V4 80 2 = V 80 2 ∧ V4 80 5 = V 80 5) ∧ (∀ j, V4 67 j = V3 67 j) ∧ (∀ j, V4 68 j = V3 68 j)) := by
  obtain ⟨KO, TO, h0, h6⟩ := id W
  have h3 := KO.2.2.1
  have h4 := KO.2.2.2.1
  have k67 : (kS sh 67).1 = 5 := by rw [k_67 H]
  have wz : w32 ((z : Int) + 1) = z + 1 := w32_id (by omega) (by omega)
  have wO : w32 ((O : Int) + 1) = ((O + 1 : Nat) : Int) := by rw [w32_id (by omega) (by omega)]; omega
  have ho : S (128 + (z : Int)) = 0 ∧ (S (8 + (z : Int)) = S (153 + i) ∨ S (32 + (z : Int)) = S (153 + i)) := by
    unfold sRefuse at hr
    by_cases q : S (128 + (z : Int)) = 0
    · rw [if_pos q] at hr
      by_cases q2 : S (8 + (z : Int)) = S (153 + i) ∨ S (32 + (z : Int)) = S (153 + i)
      · exact ⟨q, q2⟩
      · rw [if_neg q2] at hr; omega
    · rw [if_neg q] at hr; omega
  have tw := TW_0 T h0 h6
  obtain ⟨a, b, R, T', kr, e⟩ := ckeep (rc := rc) (n := n) (u := u) H P WP K C W hD T hO hz ht ho
  rw [if_pos hr] at e
  have er : rfW S i z = sRefuse S i z := if_pos ⟨by omega, hz⟩
  have hrp : sRefuse (pb S i a b) i z = 0 := by
    have := rfW_pb (v := z) (a := a) (b := b) h0 h6 h4
    rw [er, hr] at this
    exact (rfW_0 this).2
  have TS := TrAt_step T' (WI_pb W).2.1 hrp h0 h6
  obtain ⟨a', b', es⟩ := sStep_pb (S := S) (a := a) (b := b) (r := z) h0 h6 (by omega) (by omega) TO.1
  rw [es] at TS
  have hpm : pb S i a b (171 + i) = S (171 + i) := pb_ne (by omega) (by omega)
  have hbk : sBk (pb S i a b) i z = sBk S i z := sBk_pb h0 h6 (by omega)
  have fr : ∀ c j, (c < 80 ∨ 83 < c) → cStep (setR V (72 + O) R) 80 81 82 83 (pb S i a b) i z c j = setR V (72 + O) R c j := fun c j hc => cStep_fr (by omega) (by omega) (by omega) (by omega)
  have fr6 : ∀ j, 6 ≤ j → cStep (setR V (72 + O) R) 80 81 82 83 (pb S i a b) i z 80 j = V 80 j := fun j hj => by rw [cStep_t (by omega) (by omega) (by omega) hj, setR_ne (by omega)]
  have frs : ∀ c k, 81 ≤ c → c ≤ 83 → (k ≠ S (171 + i) ∨ sBk S i z = 1) → cStep (setR V (72 + O) R) 80 81 82 83 (pb S i a b) i z c k = V c k := fun c k c0 c1 hk => by rw [cStep_row (by omega) (by rw [hpm, hbk]; exact hk), setR_ne (by omega)]
  generalize hU : cStep (setR V (72 + O) R) 80 81 82 83 (pb S i a b) i z = U at *
  have FU : TF V U := fun c j hc => by
    by_cases g : c < 80 ∨ 83 < c
    · rw [fr c j g, setR_ne (fun q => hc (by unfold TX; omega))]
    · have : c = 80 ∧ 6 ≤ j := by unfold TX at hc; omega
      rw [this.1]; exact fr6 j this.2
  have u67 : ∀ j, U 67 j = V 67 j := fun j => by rw [fr _ _ (by omega), setR_ne (by omega)]
  refine ⟨upV (upV U 67 0 (V 67 0 + 1)) 69 O z, ?_, ?_, ⟨?_, fun j hj => ?_⟩, fun j => ?_, ⟨?_, fun k hk => ?_⟩, fun V3 y h3' Q => ?_⟩
  · exact TF_up (TF_up FU (by unfold TX; omega)) (by unfold TX; omega)
  · exact ⟨a', b', by rw [TrAt_up (by decide) (by decide) (by decide) (by decide), TrAt_up (by decide) (by decide) (by decide) (by decide)]; exact TS⟩
  · rw [up_row (by decide), up_eq]
  · rw [up_row (by decide), up_col hj]; exact u67 j
  · rw [up_row (by decide), up_row (by decide), fr _ _ (by omega), setR_ne (by omega)]
  · rw [up_eq]
  · rw [up_col hk, up_row (by decide), fr _ _ (by omega), setR_ne (by omega)]
  · obtain ⟨q1, q2, q3, q4⟩ := id Q
    have P3 : Pt V3 := TF_Pt q1 (TF_Pt (TF_up (TF_up FU (by unfold TX; omega)) (by unfold TX; omega)) P)
    have W3 : WPt V3 := TF_WPt q1 (TF_WPt (TF_up (TF_up FU (by unfold TX; omega)) (by unfold TX; omega)) WP)
    have eu0 : U 80 0 = sStep S i z (153 + i) := by rw [TS.2.1.1, pb_ne (by omega) (by omega)]
    have PU : Pt (upV (upV U 67 0 (V 67 0 + 1)) 69 O z) := TF_Pt (TF_up (TF_up FU (by unfold TX; omega)) (by unfold TX; omega)) P
    have PU1 : Pt (upV U 67 0 (V 67 0 + 1)) := TF_Pt (TF_up FU (by unfold TX; omega)) P
    have kept : ∀ j, V3 (72 + O) j = R j := fun j => by
      rw [q3 O j (by omega) (by omega), up_row (by omega), up_row (by omega), fr _ _ (by omega), setR_at]
    have k3 : V3 (72 + O) 3 = S (171 + i) := by rw [kept, kr.1.2.2.2]; exact tw.2.2.2
    obtain ⟨V4, e4, w4, w5, w6, w7⟩ := regain_ok (o := (O : Int)) H W3 (by omega) (by omega) (by rw [k3]; exact TO.1)
    have el : ∀ c k, 81 ≤ c → c ≤ 83 → 0 ≤ k → k ≤ S (171 + i) → k < 40 → V4 c k = V c k := fun c k c0 c1 g0 g1 g2 => by
      by_cases g : k = S (171 + i)
      · have hm : V 80 5 = S (171 + i) := tw.2.2.2
        have hm4 : V4 80 5 = S (171 + i) := by rw [← w4.1.2.2.2, k3]
        have z1 := w4.2 (by rw [hm4]; omega)
        have z2 := kr.2 (by rw [hm]; omega)
        rw [hm4, kept, kept, kept] at z1
        rw [hm] at z2
        have : c = 81 ∨ c = 82 ∨ c = 83 := by omega
        rcases this with rfl | rfl | rfl
        · rw [g, ← z1.1]; exact z2.1
        · rw [g, ← z1.2.1]; exact z2.2.1
        · rw [g, ← z1.2.2]; exact z2.2.2
      · have hm := sStep_many (S := S) (i := i) (r := z) h0 h6 TO.1
        rw [w6 c k (by omega) (by rw [k3]; exact g), q4 c k c0 c1 g0 (by rw [hm]; split <;> omega) g2, up_row (by omega), up_row (by omega)]
        exact frs c k c0 c1 (Or.inl g)
    refine ⟨V4, ?_, ⟨?_, fun k g0 g1 => ?_, fun o j g0 g1 => ?_, el⟩, ?_, fun j => ?_, fun j => ?_⟩
    · rw [e, bgt k67, u67, w32_id (by omega) (by omega), bpt k67, bgt k67, q_67_4 PU1, bst (by rw [k_69 H]) (by omega) (by rw [k_69 H]; show (O : Int) < 8; omega), bgt k67, q_67_7 PU, bgt (by rw [k_80 H]), up_row (by decide), up_row (by decide), eu0, wO, h3', bd2_mk, bgt k67, q_67_7 P3, bgt k67, q_67_6 P3, blt (by rw [k_71 H]) (by omega) (by rw [k_71 H]; show (O : Int) < 8; omega), q71 P3 (by omega) (by omega), bit (by rw [k_80 H]), e4, bd2_mk, wz]
    · intro c j hc
      by_cases g : c < 80 ∨ 83 < c
      · rw [w7 c j g, q1 c j hc]
        exact TF_up (TF_up FU (by unfold TX; omega)) (by unfold TX; omega) c j hc
      · have g2 : c = 80 ∧ 6 ≤ j := by unfold TX at hc; omega
        rw [g2.1, w5 j (by omega) (by omega) (by omega) (by omega), q1 80 j (by unfold TX; omega), up_row (by decide), up_row (by decide)]
        exact fr6 j g2.2
    · rw [w7 _ _ (by omega), q2 k g0 (by omega), up_col (by omega), up_row (by decide), fr _ _ (by omega), setR_ne (by omega)]
    · rw [w7 _ _ (by omega), q3 o j g0 (by omega), up_row (by omega), up_row (by omega), fr _ _ (by omega), setR_ne (by omega)]
    · refine ⟨?_, ?_, ?_, ?_⟩
      · rw [← w4.1.1, kept]; exact kr.1.1
      · rw [← w4.1.2.1, kept]; exact kr.1.2.1
      · rw [← w4.1.2.2.1, kept]; exact kr.1.2.2.1
      · rw [← w4.1.2.2.2, kept]; exact kr.1.2.2.2
    · exact w7 _ _ (by omega)
    · exact w7 _ _ (by omega)
end THR12
