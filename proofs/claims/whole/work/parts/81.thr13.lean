/-! PURE: through; a turn of the reference's loop -/
section THR13
variable {sh : List (Nat × Nat)} {V V' V1 V2 V2' V3 V4 : Int → Int → Int} {r t m s c i j d k x a b y D D' f p w bk v tb q e e' E o u wt bg mo Eb : Int} {S S' S'' S3 R : Int → Int} {n : Nat} {ρ : Nat → Int}
theorem sStep_fq (h0 : 0 ≤ i) (h6 : i < 6) (hm : 0 ≤ S (171 + i)) (hj : ∀ k, 0 ≤ k → k < 6 → j ≠ 153 + 6 * k + i) (hs : sBk S i r = 1 ∨ (j ≠ 189 + (40 * i + S (171 + i)) ∧ j ≠ 429 + (40 * i + S (171 + i)) ∧ j ≠ 669 + (40 * i + S (171 + i)))) : sStep S i r j = S j := by
  have j0 := hj 0 (by decide) (by decide)
  have j1 := hj 1 (by decide) (by decide)
  have j2 := hj 2 (by decide) (by decide)
  have j3 := hj 3 (by decide) (by decide)
  have j4 := hj 4 (by decide) (by decide)
  have j5 := hj 5 (by decide) (by decide)
  unfold sStep
  rw [upS_ne (by omega), upS_ne (by omega)]
  rcases sBk_01 S i r with g | g
  · rw [if_pos g]
    have hs : j ≠ 189 + (40 * i + S (171 + i)) ∧ j ≠ 429 + (40 * i + S (171 + i)) ∧ j ≠ 669 + (40 * i + S (171 + i)) := by omega
    unfold sPay
    rw [upS_ne (by omega), upS_ne (by omega), upS_ne (by omega), upS_ne hs.2.2, upS_ne hs.2.1, upS_ne hs.1]
  · rw [if_neg (by omega)]
    unfold sHad
    rw [upS_ne (by omega), upS_ne (by omega), upS_ne (by omega)]
/-- he is as he was, but for dead slips -/
theorem mKQ (h0 : 0 ≤ i) (h6 : i < 6) (hm : 0 ≤ S (171 + i)) (hm' : S (171 + i) ≤ 40) (hp : sBk S i r = 0 → S (171 + i) < 40) (Q : KQ (sStep S i r) S3 i) (a1 : ∀ k, 0 ≤ k → k < 6 → S' (153 + 6 * k + i) = S (153 + 6 * k + i)) (a2 : ∀ j, (∀ k, 0 ≤ k → k < 6 → j ≠ 153 + 6 * k + i) → sBk S i r = 0 ∨ (j ≠ 189 + (40 * i + (S (171 + i) - 1)) ∧ j ≠ 429 + (40 * i + (S (171 + i) - 1)) ∧ j ≠ 669 + (40 * i + (S (171 + i) - 1))) → S' j = S3 j) (a3 : sBk S i r = 1 → S' (189 + (40 * i + (S (171 + i) - 1))) = S (189 + (40 * i + (S (171 + i) - 1))) ∧ S' (429 + (40 * i + (S (171 + i) - 1))) = S (429 + (40 * i + (S (171 + i) - 1))) ∧ S' (669 + (40 * i + (S (171 + i) - 1))) = S (669 + (40 * i + (S (171 + i) - 1)))) : KQ S S' i := by
  intro j hj
  have hmm := sStep_many (S := S) (i := i) (r := r) h0 h6 hm
  by_cases g : ∀ k, 0 ≤ k → k < 6 → j ≠ 153 + 6 * k + i
  · rcases sBk_01 S i r with b | b
    · have := hp b
      rw [if_pos b] at hmm
      rw [a2 j g (Or.inl b), Q j (by rw [hmm]; omega)]
      exact sStep_fq h0 h6 hm g (Or.inr (by omega))
    · rw [if_neg (by omega)] at hmm
      have z := a3 b
      by_cases q1 : j = 189 + (40 * i + (S (171 + i) - 1))
      · rw [q1]; exact z.1
      · by_cases q2 : j = 429 + (40 * i + (S (171 + i) - 1))
        · rw [q2]; exact z.2.1
        · by_cases q3 : j = 669 + (40 * i + (S (171 + i) - 1))
          · rw [q3]; exact z.2.2
          · rw [a2 j g (Or.inr ⟨q1, q2, q3⟩), Q j (by rw [hmm]; omega)]
            exact sStep_fq h0 h6 hm g (Or.inl b)
  · have : ∃ k, 0 ≤ k ∧ k < 6 ∧ j = 153 + 6 * k + i := by
      apply Classical.byContradiction
      intro q
      exact g (fun k k0 k1 e => q ⟨k, k0, k1, e⟩)
    obtain ⟨k, k0, k1, e⟩ := this
    rw [e]; exact a1 k k0 k1
theorem mback {rc : Int → Int → Int → Int → Int → Int → Mem → Option (Int × Mem)} {O z : Nat} (H : Sh sh) (P : PM V3) (h0 : 0 ≤ i) (h6 : i < 6) (hm : 0 ≤ S (171 + i)) (hm' : S (171 + i) ≤ 40) (hp : sBk S i z = 0 → S (171 + i) < 40) (hO : O < 8) (Q : KQ (sStep S i z) S3 i) (hR : ∀ k, 0 ≤ k → k < 6 → V3 114 (9 * (O : Int) + k) = S (153 + 6 * k + i)) (hB : sBk S i z = 1 → V3 114 (9 * (O : Int) + 6) = S (189 + (40 * i + (S (171 + i) - 1))) ∧ V3 114 (9 * (O : Int) + 7) = S (429 + (40 * i + (S (171 + i) - 1))) ∧ V3 114 (9 * (O : Int) + 8) = S (669 + (40 * i + (S (171 + i) - 1)))) : ∃ S4, M_tries_L390 rc (fun x51 x52 x53 x54 x55 x56 x57 x58 x59 μ60 => if x59 = 0 then M_tries_L124 rc n x51 x52 x53 x54 x55 x56 (w32 (x57 + 1)) μ60 else bd (getf 12 1 μ60 x51) fun x61 => bd2 (M_slipAt x52 x58 μ60) fun x62 μ63 => bd (getf 12 28 μ63 x51) fun x64 => bd (lda 20 μ63 x64 (w32 ((w32 (9 * x55)) + 6))) fun x65 => bd (sta 20 μ63 x61 (w32 (189 + x62)) x65) fun μ66 => bd (getf 12 1 μ66 x51) fun x67 => bd2 (M_slipAt x52 x58 μ66) fun x68 μ69 => bd (getf 12 28 μ69 x51) fun x70 => bd (lda 20 μ69 x70 (w32 ((w32 (9 * x55)) + 7))) fun x71 => bd (sta 20 μ69 x67 (w32 (429 + x68)) x71) fun μ72 => bd (getf 12 1 μ72 x51) fun x73 => bd2 (M_slipAt x52 x58 μ72) fun x74 μ75 => bd (getf 12 28 μ75 x51) fun x76 => bd (lda 20 μ75 x76 (w32 ((w32 (9 * x55)) + 8))) fun x77 => bd (sta 20 μ75 x73 (w32 (669 + x74)) x77) fun μ78 => M_tries_L124 rc n x51 x52 x53 x54 x55 x56 (w32 (x57 + 1)) μ78) FU 101 i wt u O mo z (w32 (S (171 + i) - 1)) (sBk S i z) 0 (sh, setR V3 102 S3) = M_tries_L124 rc n 101 i wt u O mo (w32 (z + 1)) (sh, setR V3 102 S4) ∧ KQ S S4 i := by
  obtain ⟨S'', e, q1, q2⟩ := tagain (rc := rc) (kk := (fun x51 x52 x53 x54 x55 x56 x57 x58 x59 μ60 => if x59 = 0 then M_tries_L124 rc n x51 x52 x53 x54 x55 x56 (w32 (x57 + 1)) μ60 else bd (getf 12 1 μ60 x51) fun x61 => bd2 (M_slipAt x52 x58 μ60) fun x62 μ63 => bd (getf 12 28 μ63 x51) fun x64 => bd (lda 20 μ63 x64 (w32 ((w32 (9 * x55)) + 6))) fun x65 => bd (sta 20 μ63 x61 (w32 (189 + x62)) x65) fun μ66 => bd (getf 12 1 μ66 x51) fun x67 => bd2 (M_slipAt x52 x58 μ66) fun x68 μ69 => bd (getf 12 28 μ69 x51) fun x70 => bd (lda 20 μ69 x70 (w32 ((w32 (9 * x55)) + 7))) fun x71 => bd (sta 20 μ69 x67 (w32 (429 + x68)) x71) fun μ72 => bd (getf 12 1 μ72 x51) fun x73 => bd2 (M_slipAt x52 x58 μ72) fun x74 μ75 => bd (getf 12 28 μ75 x51) fun x76 => bd (lda 20 μ75 x76 (w32 ((w32 (9 * x55)) + 8))) fun x77 => bd (sta 20 μ75 x73 (w32 (669 + x74)) x77) fun μ78 => M_tries_L124 rc n x51 x52 x53 x54 x55 x56 (w32 (x57 + 1)) μ78)) (v2 := wt) (v3 := u) (v5 := mo) (v6 := z) (v7 := w32 (S (171 + i) - 1)) (v8 := sBk S i z) (S := S) (o := (O : Int)) H P h0 h6 (by omega) (by omega) hR FU 0 S3 (by omega) (by show _ < 1000000; omega) (fun k g0 g1 => by omega)
  rw [show ((0 : Nat) : Int) = 0 from rfl] at e
  rw [e]
  rcases sBk_01 S i z with g | g
  · rw [if_pos g]
    exact ⟨S'', rfl, mKQ h0 h6 hm hm' hp Q q1 (fun j hj _ => q2 j hj) (fun b => by omega)⟩
  · have hm1 := sBk_m g
    obtain ⟨b1, b2, b3⟩ := hB g
    rw [if_neg (by omega), w32_id (x := S (171 + i) - 1) (by omega) (by omega), w32_id (x := 9 * (O : Int)) (by omega) (by omega), w32_id (x := 9 * (O : Int) + 6) (by omega) (by omega), w32_id (x := 9 * (O : Int) + 7) (by omega) (by omega), w32_id (x := 9 * (O : Int) + 8) (by omega) (by omega)]
    have s1 : ∀ (U : Int → Int) (F : Int → Mem → Option (Int × Mem)), bd2 (M_slipAt i (S (171 + i) - 1) (sh, setR V3 102 U)) F = F (40 * i + (S (171 + i) - 1)) (sh, setR V3 102 U) := fun U F => M_slipAt_b h0 h6 (by omega) (by omega)
    rw [bg101 H, s1, bg101 H, q_101_28 P, ml114 H (by omega) (by omega), b1, w32_id (x := 189 + (40 * i + (S (171 + i) - 1))) (by omega) (by omega), bsp P H (by omega) (by omega), bg101 H, s1, bg101 H, q_101_28 P, ml114 H (by omega) (by omega), b2, w32_id (x := 429 + (40 * i + (S (171 + i) - 1))) (by omega) (by omega), bsp P H (by omega) (by omega), bg101 H, s1, bg101 H, q_101_28 P, ml114 H (by omega) (by omega), b3, w32_id (x := 669 + (40 * i + (S (171 + i) - 1))) (by omega) (by omega), bsp P H (by omega) (by omega)]
    refine ⟨_, rfl, mKQ h0 h6 hm hm' hp Q (fun k k0 k1 => ?_) (fun j hj hs => ?_) (fun _ => ⟨?_, ?_, ?_⟩)⟩
    · rw [upS_ne (by omega), upS_ne (by omega), upS_ne (by omega)]; exact q1 k k0 k1
    · have hs : j ≠ 189 + (40 * i + (S (171 + i) - 1)) ∧ j ≠ 429 + (40 * i + (S (171 + i) - 1)) ∧ j ≠ 669 + (40 * i + (S (171 + i) - 1)) := by omega
      rw [upS_ne hs.2.2, upS_ne hs.2.1, upS_ne hs.1]; exact q2 j hj
    · rw [upS_ne (by omega), upS_ne (by omega), upS_eq]
    · rw [upS_ne (by omega), upS_eq]
    · rw [upS_eq]
/-- the head of a turn -/
theorem mhead {rc : Int → Int → Int → Int → Int → Int → Mem → Option (Int × Mem)} {O z : Nat} (H : Sh sh) (P : PM V2) (W : WI S D i) (hD : D < 1900000000) (hz : (z : Int) < S 7) (hO : (O : Int) < mo) (ht0 : 0 ≤ V2 101 29) (ht : V2 101 29 ≤ 100000) : M_tries_L124 rc (n + 1) 101 i wt u O mo z (sh, setR V2 102 S) = if sRefuse S i z = 0 then (if 100000 < V2 101 29 + 1 then some (0, (sh, setR (upV V2 101 29 (V2 101 29 + 1)) 102 S)) else M_tries_L213 rc (fun x14 x15 x16 x17 x18 x19 x20 x21 x22 μ23 => bd ( if x22 = 0 then some μ23 else bd (getf 12 28 μ23 x14) fun x25 => bd (getf 12 1 μ23 x14) fun x26 => bd2 (M_slipAt x15 x21 μ23) fun x27 μ28 => bd (lda 20 μ28 x26 (w32 (189 + x27))) fun x29 => bd (sta 20 μ28 x25 (w32 ((w32 (9 * x18)) + 6)) x29) fun μ30 => bd (getf 12 28 μ30 x14) fun x31 => bd (getf 12 1 μ30 x14) fun x32 => bd2 (M_slipAt x15 x21 μ30) fun x33 μ34 => bd (lda 20 μ34 x32 (w32 (429 + x33))) fun x35 => bd (sta 20 μ34 x31 (w32 ((w32 (9 * x18)) + 7)) x35) fun μ36 => bd (getf 12 28 μ36 x14) fun x37 => bd (getf 12 1 μ36 x14) fun x38 => bd2 (M_slipAt x15 x21 μ36) fun x39 μ40 => bd (lda 20 μ40 x38 (w32 (669 + x39))) fun x41 => bd (sta 20 μ40 x37 (w32 ((w32 (9 * x18)) + 8)) x41) fun μ42 => some μ42) fun (μ24 : Mem) => bd (isk 12 μ24 x14) fun _ => bd2 (M_goes x14 x15 x20 μ24) fun x43 μ44 => bd (getf 12 26 μ44 x14) fun x45 => bd (sta 20 μ44 x45 x18 x20) fun μ46 => bd (getf 12 1 μ46 x14) fun x47 => bd (lda 20 μ46 x47 (w32 (153 + x15))) fun x48 => bd (isk 12 μ46 x14) fun _ => bd2 (rc x14 x15 x16 (or32 x17 (shl32 1 x48)) (w32 (x18 + 1)) x19 μ46) fun _ μ50 => M_tries_L390 rc (fun x51 x52 x53 x54 x55 x56 x57 x58 x59 μ60 => if x59 = 0 then M_tries_L124 rc n x51 x52 x53 x54 x55 x56 (w32 (x57 + 1)) μ60 else bd (getf 12 1 μ60 x51) fun x61 => bd2 (M_slipAt x52 x58 μ60) fun x62 μ63 => bd (getf 12 28 μ63 x51) fun x64 => bd (lda 20 μ63 x64 (w32 ((w32 (9 * x55)) + 6))) fun x65 => bd (sta 20 μ63 x61 (w32 (189 + x62)) x65) fun μ66 => bd (getf 12 1 μ66 x51) fun x67 => bd2 (M_slipAt x52 x58 μ66) fun x68 μ69 => bd (getf 12 28 μ69 x51) fun x70 => bd (lda 20 μ69 x70 (w32 ((w32 (9 * x55)) + 7))) fun x71 => bd (sta 20 μ69 x67 (w32 (429 + x68)) x71) fun μ72 => bd (getf 12 1 μ72 x51) fun x73 => bd2 (M_slipAt x52 x58 μ72) fun x74 μ75 => bd (getf 12 28 μ75 x51) fun x76 => bd (lda 20 μ75 x76 (w32 ((w32 (9 * x55)) + 8))) fun x77 => bd (sta 20 μ75 x73 (w32 (669 + x74)) x77) fun μ78 => M_tries_L124 rc n x51 x52 x53 x54 x55 x56 (w32 (x57 + 1)) μ78) FU x14 x15 x16 x17 x18 x19 x20 x21 x22 0 μ50) FU 101 i wt u O mo z (w32 (S (171 + i) - 1)) (sBk S i z) 0 (sh, setR (upV V2 101 29 (V2 101 29 + 1)) 102 S)) else M_tries_L124 rc n 101 i wt u O mo (w32 (z + 1)) (sh, setR V2 102 S) := by
  obtain ⟨KO, TO, h0, h6⟩ := id W
  have P1 : PM (upV V2 101 29 (V2 101 29 + 1)) := by rw [PM_fld (by decide)]; exact P
  have h4 := KO.2.2.2.1
  rw [M_tries_L124, bg101 H, blp P H (by omega) (by omega), if_pos hz, if_pos hO, bg101 H, if_neg (by omega), bi101 H, M_refuses_x H P W hD (by omega) hz, bd2_mk]
  by_cases g : sRefuse S i z = 0
  · rw [if_pos g, if_pos g, bg101 H, w32_id (x := V2 101 29 + 1) (by omega) (by omega), bp101 H, bg101 H, up_eq]
    by_cases l : 100000 < V2 101 29 + 1
    · rw [if_pos l, if_pos l]
    · rw [if_neg l, if_neg l, bg101 H, w32_id (x := 171 + i) (by omega) (by omega), blp P1 H (by omega) (by omega), bd_mk, bi101 H, M_hasBack_eq H P1 (by omega) (by omega) h0 h6 TO.2.1, bd2_mk]
  · rw [if_neg g, if_neg g]
theorem mturn1 {rc : Int → Int → Int → Int → Int → Int → Mem → Option (Int × Mem)} {O z : Nat} (H : Sh sh) (P : PM V2) (W : WI S D i) (hD : D < 1900000000) (hz : (z : Int) < S 7) (hO : (O : Int) < mo) (hO8 : O < 8) (ht0 : 0 ≤ V2 101 29) (ht : V2 101 29 < 100000) (hr : sRefuse S i z = 0) (hb : V2 101 15 = 0) : ∃ Vc, MF V2 Vc ∧ (Vc 101 29 = V2 101 29 + 1 ∧ Vc 101 30 = V2 101 30 ∧ Vc 101 31 = V2 101 31) ∧ (∀ j, Vc 113 j = V2 113 j) ∧ (Vc 112 O = z ∧ ∀ k, k ≠ (O : Int) → Vc 112 k = V2 112 k) ∧ (∀ k, k < 9 * (O : Int) → Vc 114 k = V2 114 k) ∧ ∀ V3 S3 y, rc 101 i wt (or32 u (shl32 1 (sStep S i z (153 + i)))) ((O + 1 : Nat) : Int) mo (sh, setR Vc 102 (sStep S i z)) = some (y, (sh, setR V3 102 S3)) → MQ2 Vc V3 ((O + 1 : Nat) : Int) → KQ (sStep S i z) S3 i → ∃ S4, M_tries_L124 rc (n + 1) 101 i wt u O mo z (sh, setR V2 102 S) = M_tries_L124 rc n 101 i wt u O mo (z + 1) (sh, setR V3 102 S4) ∧ KQ S S4 i := by
  obtain ⟨KO, TO, h0, h6⟩ := id W
  have h4 := KO.2.2.2.1
  have hm0 := TO.1
  have hm1 := TO.2.1
  have wz : w32 ((z : Int) + 1) = z + 1 := w32_id (by omega) (by omega)
  have wO : w32 ((O : Int) + 1) = ((O + 1 : Nat) : Int) := by rw [w32_id (by omega) (by omega)]; omega
  have er : rfW S i z = 0 := by unfold rfW; rw [if_pos ⟨by omega, hz⟩]; exact hr
  have hp : sBk S i z = 0 → S (171 + i) < 40 := by
    intro g
    unfold sRefuse at hr
    rw [if_pos g] at hr
    repeat' split at hr
    all_goals omega
  have hh := mhead (rc := rc) (n := n) (wt := wt) (u := u) H P W hD hz hO ht0 (by omega)
  rw [if_pos hr, if_neg (by omega)] at hh
  have P1 : PM (upV V2 101 29 (V2 101 29 + 1)) := by rw [PM_fld (by decide)]; exact P
  obtain ⟨R', e, r1, r2⟩ := tsave (rc := rc) (kk := (fun x14 x15 x16 x17 x18 x19 x20 x21 x22 μ23 => bd ( if x22 = 0 then some μ23 else bd (getf 12 28 μ23 x14) fun x25 => bd (getf 12 1 μ23 x14) fun x26 => bd2 (M_slipAt x15 x21 μ23) fun x27 μ28 => bd (lda 20 μ28 x26 (w32 (189 + x27))) fun x29 => bd (sta 20 μ28 x25 (w32 ((w32 (9 * x18)) + 6)) x29) fun μ30 => bd (getf 12 28 μ30 x14) fun x31 => bd (getf 12 1 μ30 x14) fun x32 => bd2 (M_slipAt x15 x21 μ30) fun x33 μ34 => bd (lda 20 μ34 x32 (w32 (429 + x33))) fun x35 => bd (sta 20 μ34 x31 (w32 ((w32 (9 * x18)) + 7)) x35) fun μ36 => bd (getf 12 28 μ36 x14) fun x37 => bd (getf 12 1 μ36 x14) fun x38 => bd2 (M_slipAt x15 x21 μ36) fun x39 μ40 => bd (lda 20 μ40 x38 (w32 (669 + x39))) fun x41 => bd (sta 20 μ40 x37 (w32 ((w32 (9 * x18)) + 8)) x41) fun μ42 => some μ42) fun (μ24 : Mem) => bd (isk 12 μ24 x14) fun _ => bd2 (M_goes x14 x15 x20 μ24) fun x43 μ44 => bd (getf 12 26 μ44 x14) fun x45 => bd (sta 20 μ44 x45 x18 x20) fun μ46 => bd (getf 12 1 μ46 x14) fun x47 => bd (lda 20 μ46 x47 (w32 (153 + x15))) fun x48 => bd (isk 12 μ46 x14) fun _ => bd2 (rc x14 x15 x16 (or32 x17 (shl32 1 x48)) (w32 (x18 + 1)) x19 μ46) fun _ μ50 => M_tries_L390 rc (fun x51 x52 x53 x54 x55 x56 x57 x58 x59 μ60 => if x59 = 0 then M_tries_L124 rc n x51 x52 x53 x54 x55 x56 (w32 (x57 + 1)) μ60 else bd (getf 12 1 μ60 x51) fun x61 => bd2 (M_slipAt x52 x58 μ60) fun x62 μ63 => bd (getf 12 28 μ63 x51) fun x64 => bd (lda 20 μ63 x64 (w32 ((w32 (9 * x55)) + 6))) fun x65 => bd (sta 20 μ63 x61 (w32 (189 + x62)) x65) fun μ66 => bd (getf 12 1 μ66 x51) fun x67 => bd2 (M_slipAt x52 x58 μ66) fun x68 μ69 => bd (getf 12 28 μ69 x51) fun x70 => bd (lda 20 μ69 x70 (w32 ((w32 (9 * x55)) + 7))) fun x71 => bd (sta 20 μ69 x67 (w32 (429 + x68)) x71) fun μ72 => bd (getf 12 1 μ72 x51) fun x73 => bd2 (M_slipAt x52 x58 μ72) fun x74 μ75 => bd (getf 12 28 μ75 x51) fun x76 => bd (lda 20 μ75 x76 (w32 ((w32 (9 * x55)) + 8))) fun x77 => bd (sta 20 μ75 x73 (w32 (669 + x74)) x77) fun μ78 => M_tries_L124 rc n x51 x52 x53 x54 x55 x56 (w32 (x57 + 1)) μ78) FU x14 x15 x16 x17 x18 x19 x20 x21 x22 0 μ50)) (v2 := wt) (v3 := u) (v5 := mo) (v6 := z) (v7 := w32 (S (171 + i) - 1)) (v8 := sBk S i z) (S := S) (o := (O : Int)) H P1 h0 h6 (by omega) (by omega) FU 0 (upV V2 101 29 (V2 101 29 + 1) 114) (by omega) (by show _ < 1000000; omega) (fun k g0 g1 => by omega)
  rw [show ((0 : Nat) : Int) = 0 from rfl, setR_self] at e
  rw [e] at hh
  generalize hVs : setR (upV V2 101 29 (V2 101 29 + 1)) 114 R' = Vs at hh
  have Fs : MF V2 Vs := by rw [← hVs]; exact MF_set (MF_up MF_refl (by unfold MX; omega)) (by decide) (by decide)
  have Ps := MF_PM Fs P
  have v114 : ∀ k, Vs 114 k = R' k := fun k => by rw [← hVs, setR_at]
  have v101 : ∀ k, Vs 101 k = upV V2 101 29 (V2 101 29 + 1) 101 k := fun k => by rw [← hVs, setR_ne (by decide)]
  have vr : ∀ a k, a ≠ 101 → a ≠ 114 → Vs a k = V2 a k := fun a k a1 a2 => by rw [← hVs, setR_ne a2, up_row a1]
  -- the kept slip
  have hk : ∃ Vb, MF V2 Vb ∧ (∀ k, Vb 101 k = Vs 101 k) ∧ (∀ a k, a ≠ 114 → Vb a k = Vs a k) ∧ (∀ k, k < 9 * (O : Int) + 6 → Vb 114 k = Vs 114 k) ∧ (sBk S i z = 1 → Vb 114 (9 * (O : Int) + 6) = S (189 + (40 * i + (S (171 + i) - 1))) ∧ Vb 114 (9 * (O : Int) + 7) = S (429 + (40 * i + (S (171 + i) - 1))) ∧ Vb 114 (9 * (O : Int) + 8) = S (669 + (40 * i + (S (171 + i) - 1)))) ∧ M_tries_L124 rc (n + 1) 101 i wt u O mo z (sh, setR V2 102 S) = (bd (isk 12 ((sh, setR Vb 102 S) : Mem) 101) fun _ => bd2 (M_goes 101 i z (sh, setR Vb 102 S)) fun x43 μ44 => bd (getf 12 26 μ44 101) fun x45 => bd (sta 20 μ44 x45 O z) fun μ46 => bd (getf 12 1 μ46 101) fun x47 => bd (lda 20 μ46 x47 (w32 (153 + i))) fun x48 => bd (isk 12 μ46 101) fun _ => bd2 (rc 101 i wt (or32 u (shl32 1 x48)) (w32 (O + 1)) mo μ46) fun _ μ50 => M_tries_L390 rc (fun x51 x52 x53 x54 x55 x56 x57 x58 x59 μ60 => if x59 = 0 then M_tries_L124 rc n x51 x52 x53 x54 x55 x56 (w32 (x57 + 1)) μ60 else bd (getf 12 1 μ60 x51) fun x61 => bd2 (M_slipAt x52 x58 μ60) fun x62 μ63 => bd (getf 12 28 μ63 x51) fun x64 => bd (lda 20 μ63 x64 (w32 ((w32 (9 * x55)) + 6))) fun x65 => bd (sta 20 μ63 x61 (w32 (189 + x62)) x65) fun μ66 => bd (getf 12 1 μ66 x51) fun x67 => bd2 (M_slipAt x52 x58 μ66) fun x68 μ69 => bd (getf 12 28 μ69 x51) fun x70 => bd (lda 20 μ69 x70 (w32 ((w32 (9 * x55)) + 7))) fun x71 => bd (sta 20 μ69 x67 (w32 (429 + x68)) x71) fun μ72 => bd (getf 12 1 μ72 x51) fun x73 => bd2 (M_slipAt x52 x58 μ72) fun x74 μ75 => bd (getf 12 28 μ75 x51) fun x76 => bd (lda 20 μ75 x76 (w32 ((w32 (9 * x55)) + 8))) fun x77 => bd (sta 20 μ75 x73 (w32 (669 + x74)) x77) fun μ78 => M_tries_L124 rc n x51 x52 x53 x54 x55 x56 (w32 (x57 + 1)) μ78) FU 101 i wt u O mo z (w32 (S (171 + i) - 1)) (sBk S i z) 0 μ50) := by
    rcases sBk_01 S i z with g | g
    · refine ⟨Vs, Fs, fun _ => rfl, fun _ _ _ => rfl, fun _ _ => rfl, fun b => by omega, ?_⟩
      rw [hh, if_pos g, bd_mk]
    · have hmp := sBk_m g
      have s1 : ∀ (U : Int → Int → Int) (F : Int → Mem → Option Mem), bd2 (M_slipAt i (S (171 + i) - 1) (sh, setR U 102 S)) F = F (40 * i + (S (171 + i) - 1)) (sh, setR U 102 S) := fun U F => M_slipAt_b h0 h6 (by omega) (by omega)
      refine ⟨upV (upV (upV Vs 114 (9 * (O : Int) + 6) (S (189 + (40 * i + (S (171 + i) - 1))))) 114 (9 * (O : Int) + 7) (S (429 + (40 * i + (S (171 + i) - 1))))) 114 (9 * (O : Int) + 8) (S (669 + (40 * i + (S (171 + i) - 1)))), ?_, fun k => ?_, fun a k ha => ?_, fun k hk => ?_, fun _ => ⟨?_, ?_, ?_⟩, ?_⟩
      · exact MF_up (MF_up (MF_up Fs (by unfold MX; omega)) (by unfold MX; omega)) (by unfold MX; omega)
      · rw [up_row (by decide), up_row (by decide), up_row (by decide)]
      · rw [up_row ha, up_row ha, up_row ha]
      · rw [up_col (by omega), up_col (by omega), up_col (by omega)]
      · rw [up_col (by omega), up_col (by omega), up_eq]
      · rw [up_col (by omega), up_eq]
      · rw [up_eq]
      · have P2 : ∀ j x, PM (upV Vs 114 j x) := fun j x => by rw [PM_row (by decide)]; exact Ps
        have P3 : ∀ j x j' x', PM (upV (upV Vs 114 j x) 114 j' x') := fun j x j' x' => by rw [PM_row (by decide), PM_row (by decide)]; exact Ps
        rw [hh, if_neg (by omega), w32_id (x := S (171 + i) - 1) (by omega) (by omega), w32_id (x := 9 * (O : Int)) (by omega) (by omega), w32_id (x := 9 * (O : Int) + 6) (by omega) (by omega), w32_id (x := 9 * (O : Int) + 7) (by omega) (by omega), w32_id (x := 9 * (O : Int) + 8) (by omega) (by omega)]
        rw [bg101 H, q_101_28 Ps, bg101 H, s1, w32_id (x := 189 + (40 * i + (S (171 + i) - 1))) (by omega) (by omega), blp Ps H (by omega) (by omega), ms114 H (by omega) (by omega)]
        rw [bg101 H, q_101_28 (P2 _ _), bg101 H, s1, w32_id (x := 429 + (40 * i + (S (171 + i) - 1))) (by omega) (by omega), blp (P2 _ _) H (by omega) (by omega), ms114 H (by omega) (by omega)]
        rw [bg101 H, q_101_28 (P3 _ _ _ _), bg101 H, s1, w32_id (x := 669 + (40 * i + (S (171 + i) - 1))) (by omega) (by omega), blp (P3 _ _ _ _) H (by omega) (by omega), ms114 H (by omega) (by omega), bd_mk]
  obtain ⟨Vb, Fb, b1, b2, b3, b4, eb⟩ := hk
  have Pb := MF_PM Fb P
  have hb0 : Vb 101 15 = 0 := by rw [Fb 101 15 (by unfold MX; omega)]; exact hb
  have Pc : PM (upV Vb 112 O z) := by rw [PM_row (by decide)]; exact Pb
  rw [bi101 H, M_goes_x H Pb W hD er, bd2_mk, hb0, stp, if_pos rfl, bg101 H, q_101_26 Pb, ms112 H (by omega) (by omega), bg101 H, w32_id (x := 153 + i) (by omega) (by omega), blp Pc H (by omega) (by omega), bi101 H, wO] at eb
  refine ⟨upV Vb 112 O z, MF_up Fb (by unfold MX; omega), ⟨?_, ?_, ?_⟩, fun j => ?_, ⟨up_eq, fun k hk => ?_⟩, fun k hk => ?_, fun V3 S3 y h3 Q KQ3 => ?_⟩
  · rw [up_row (by decide), b1, v101, up_eq]
  · rw [up_row (by decide), b1, v101, up_col (by decide)]
  · rw [up_row (by decide), b1, v101, up_col (by decide)]
  · rw [up_row (by decide), b2 _ _ (by decide), vr _ _ (by decide) (by decide)]
  · rw [up_col hk, b2 _ _ (by decide), vr _ _ (by decide) (by decide)]
  · rw [up_row (by decide), b3 k (by omega), v114, r2 k (Or.inl hk), up_row (by decide)]
  · rw [h3, bd2_mk] at eb
    have k3 : ∀ k, k < 9 * ((O + 1 : Nat) : Int) → V3 114 k = Vb 114 k := fun k hk => by rw [Q.2.2 k hk, up_row (by decide)]
    obtain ⟨S4, e4, q4⟩ := mback (rc := rc) (n := n) (wt := wt) (u := u) (mo := mo) (S := S) (z := z) (O := O) H (MF_PM Q.1 Pc) h0 h6 hm0 hm1 hp hO8 KQ3 (fun k g0 g1 => by rw [k3 _ (by omega), b3 _ (by omega), v114]; exact r1 k g0 g1) (fun g => by
      obtain ⟨c1, c2, c3⟩ := b4 g
      rw [k3 _ (by omega), k3 _ (by omega), k3 _ (by omega)]; exact ⟨c1, c2, c3⟩)
    exact ⟨S4, by rw [eb, e4, wz], q4⟩
end THR13
