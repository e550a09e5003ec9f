/-! PURE: fair; homeward, safe -/
section FAIR
variable {sh : List (Nat × Nat)} {V V' V1 V2 V2' : Int → Int → Int} {r t m s c i j d k x a b y D D' f p w bk v tb q : Int} {S S' R : Int → Int} {n : Nat} {ρ : Nat → Int}
theorem fair_L (h0 : 0 ≤ i) (PM' : PM V2) (hbk : V2 101 15 = 1) {N : Nat} (hN : N ≤ 40) : ∀ (n z : Nat) (V : Int → Int → Int) (S : Int → Int) (D x : Int), z ≤ N → N - z < n → Cx sh V S D → i < S 152 → D < 1800000000 + 90 * z → ∃ y V' S', T_fair_L45 n 0 N (11 + 4 * i) x z (sh, V) = some (y, (sh, V')) ∧ M_fair_L37 n 101 i N x z (sh, setR V2 102 S) = some (y, (sh, setR V2 102 S')) ∧ CW V' S' ∧ SOk S' (D + 90 * (N - z : Nat)) ∧ TP V' ∧ Pt V' ∧ WF V V' ∧ PK S S' (999 * (N - z : Nat)) := by
  intro n
  induction n with
  | zero => intro z _ _ _ _ _ h; omega
  | succ n ih =>
    intro z V S D x hz hn X hi hD
    have H := X.1
    have P := X.2.1
    obtain ⟨r1, r2, r3, r4, r5, r6, r7⟩ := Cx_rng X
    have W := WI_x X h0 hi
    have stop : ∀ y : Int, ∃ y' V' S', some (y, (sh, V)) = some (y', (sh, V')) ∧ some (y, (sh, setR V2 102 S)) = some (y', (sh, setR V2 102 S')) ∧ CW V' S' ∧ SOk S' (D + 90 * (N - z : Nat)) ∧ TP V' ∧ Pt V' ∧ WF V V' ∧ PK S S' (999 * (N - z : Nat)) := fun y => ⟨y, V, S, rfl, rfl, X.2.2.1, SOk_mono X.2.2.2.1 (by omega), X.2.2.2.2.1, P, fun _ _ _ => rfl, PK_refl (by omega)⟩
    rw [T_fair_L45, M_fair_L37]
    by_cases h : (z : Int) < (N : Int)
    · rw [if_pos h, if_pos h, b04 X, bt0 X h0 hi, bi2 X, Wo_openRoadsAt_b X]
      have hf := fun kk => fairN (kk := kk) (u1 := N) (u2 := x) (u3 := z) H PM' r3 r4 h0 (by omega : i < 6) FU 0 (by omega) (by show _ < 1000000; omega)
      rw [opN, show ((0 : Nat) : Int) = 0 from rfl] at hf
      rw [hf]
      have hpc := pc_opM (S := S) (t := S (153 + i)) (S 7).toNat 24
      rw [show min 24 (S 7).toNat = (S 7).toNat by omega] at hpc
      have hml := opM_lt (S := S) (t := S (153 + i)) (S 7).toNat
      have hml2 : 2 ^ (S 7).toNat ≤ 2 ^ 24 := Nat.pow_le_pow_right (by decide) (by omega)
      by_cases o : opN S (S (153 + i)) (S 7).toNat = 0
      · rw [opM_0 o, o, if_pos (by decide), if_pos (by decide)]; exact stop _
      · have o' : ¬ opM S (S (153 + i)) (S 7).toNat = 0 := fun e => o (opN_0 e)
        have hu := ushr16_rng (x := w32 (w32 (1103515245 * x) + 12345))
        generalize w32 (w32 (1103515245 * x) + 12345) = x5 at *
        have ho24 : opN S (S (153 + i)) (S 7).toNat < 100 := by
          have hl : ∀ z, opN S (S (153 + i)) z ≤ z := fun z => by
            induction z with
            | zero => simp [opN]
            | succ z ihz => rw [opN]; split <;> omega
          have := hl (S 7).toNat; omega
        have hm1 := Int.emod_nonneg (ushr32 x5 16) (b := (opN S (S (153 + i)) (S 7).toNat : Int)) (by omega)
        have hm2 := Int.emod_lt_of_pos (ushr32 x5 16) (b := (opN S (S (153 + i)) (S 7).toNat : Int)) (by omega)
        obtain ⟨l, hl⟩ := Int.eq_ofNat_of_zero_le hm1
        rw [hl] at hm2
        obtain ⟨r, q1, q2, q3⟩ := fairB (μ := (sh, V)) H PM' r3 r4 h0 (by omega : i < 6) FU 0 l (by omega) (by show _ < 1000000; omega) (by rw [opN]; omega) (by omega)
        rw [show ((0 : Nat) : Int) = 0 from rfl] at q2 q3
        rw [if_neg (by omega), if_neg (by omega), bd_mk, bd_mk, b04 X, J_bitCount_b (by omega), hpc, brem (by omega) (by omega) (by omega) (by omega), brem (by omega) (by omega) (by omega) (by omega), hl, q3]
        unfold T_bitOf
        obtain ⟨V', m1, m2⟩ := Wo_move_x (v := (r : Int)) X h0 hi
        rw [q2, bd2_mk, bi2 X, m1, bd2_mk, bi101 H, M_refuses_x H PM' W (by omega) (by omega) q1, bd2_mk]
        have er : sRefuse S i r = rfW S i r := by unfold rfW; rw [if_pos ⟨by omega, q1⟩]
        rw [er]
        by_cases q : rfW S i r = 0
        · have hA := sAns_nn W q
          have m2 := m2 q
          have X' := Cx_go X (by omega) m2
          obtain ⟨y, V'', S'', i1, i2, i3, i4, i5, i6, i7, i8⟩ := ih (z + 1) V' (goS S i r) (D + 90) x5 (by omega) (by omega) X' (by rw [goS_152 X h0 hi q]; exact hi) (by omega)
          rw [if_pos q, if_pos q, if_pos q, if_neg (by omega), bi101 H, M_goes_x H PM' W (by omega) q, bd2_mk, hbk, w32_id (x := (z : Int) + 1) (by omega) (by omega)]
          refine ⟨y, V'', S'', i1, ?_, i3, ?_, i5, i6, WF_trans m2.2.2.1 i7, ?_⟩
          · unfold stp; rw [if_neg (by decide)]; exact i2
          · rw [show D + 90 * ((N - z : Nat) : Int) = D + 90 + 90 * ((N - (z + 1) : Nat) : Int) by omega]; exact i4
          · have := PK_trans (PK_go W r6 hi q) i8 (by omega)
            rw [show 999 * ((N - z : Nat) : Int) = 999 + 999 * ((N - (z + 1) : Nat) : Int) by omega]; exact this
        · have hneg := rfW_neg q
          rw [if_neg q, if_neg q, if_neg q, if_pos hneg]; exact stop _
    · rw [if_neg h, if_neg h]; exact stop _
theorem rc_fair (X : Cx sh V S D) (PM' : PM V2) (hbk : V2 101 15 = 1) (hD : D < 1800000000) : RC sh V V2 S (D + 3600) (T_fair 0 i x k (sh, V)) (M_fair 101 i x k (sh, setR V2 102 S)) := by
  have P1 := PM0 PM'
  have H := X.1
  obtain ⟨r1, r2, r3, r4, r5, r6, r7⟩ := Cx_rng X
  unfold T_fair M_fair
  rw [bp101 H, b04 X, bi2 X, x_hasTr X, bi101 H, M_isOne_b H P1 r5 r6]
  by_cases h : 0 ≤ i ∧ i < S 152
  · rw [B_t h, if_neg (c := (1 : Int) = 0) (by decide), if_neg (c := (1 : Int) = 0) (by decide), M_within_b]
    by_cases g : 1 ≤ k ∧ k ≤ 40
    · rw [B_t g, if_neg (c := (1 : Int) = 0) (by decide), if_neg (c := k < 1) (by omega), if_neg (c := 40 < k) (by omega), b04 X, b21 X, b9 X h.1 h.2]
      obtain ⟨N, rfl⟩ := Int.eq_ofNat_of_zero_le (by omega : 0 ≤ k)
      obtain ⟨y, V', S', i1, i2, i3, i4, i5, i6, i7, i8⟩ := fair_L h.1 P1 (by rw [up_col (by decide)]; exact hbk) (N := N) (by omega) FU 0 V S D x (by omega) (by show _ < 1000000; omega) X h.2 (by omega)
      exact ⟨y, V', _, S', i1, i2, i3, SOk_mono i4 (by omega), i5, i6, i7, FM0, PK_mono i8 (by omega) (by omega)⟩
    · rw [B_f g, if_pos (c := (0 : Int) = 0) rfl]
      by_cases q : k < 1
      · rw [if_pos q]; exact RC_same X (by omega) _
      · rw [if_neg q, if_pos (by omega)]; exact RC_same X (by omega) _
  · rw [B_f h, if_pos (c := (0 : Int) = 0) rfl, if_pos (c := (0 : Int) = 0) rfl]; exact RC_same X (by omega) _
/-! homeward by all slips -/
def hwF (S : Int → Int) (i : Int) : Nat → Int → Int → Int → Int → Int → Option (Int × Int × Int × Int)
  | 0, _, off, co, la, lt => some (off, co, la, lt)
  | k + 1, town, off, co, la, lt => if S (128 + S (189 + (40 * i + k)) / 2) = 0 ∧ sHead S (S (189 + (40 * i + k))) = town then hwF S i k (sTail S (S (189 + (40 * i + k)))) (off + S (104 + S (189 + (40 * i + k)) / 2)) (w32 (co + sWorthOf S i k (S (159 + i) + off))) (w32 (la + B (S 2 < S (159 + i) + off - S (429 + (40 * i + k))))) (if S (429 + (40 * i + k)) + S 2 - off < lt then S (429 + (40 * i + k)) + S 2 - off else lt) else none
theorem hwF_rng (X : Cx sh V S D) (h0 : 0 ≤ i) (h1 : i < S 152) : ∀ (z : Nat) (t off co la lt o' c' l' t' : Int), (z : Int) ≤ S (171 + i) → hwF S i z t off co la lt = some (o', c', l', t') → off ≤ o' ∧ o' ≤ off + 90 * z ∧ (0 < z → off < o') := by
  obtain ⟨r1, r2, r3, r4, r5, r6, r7⟩ := Cx_rng X
  obtain ⟨t1, t2, t3, t4, t5, t6, t7⟩ := Cx_tr X h0 h1
  intro z
  induction z with
  | zero => intro t off co la lt o' c' l' t' _ h; rw [hwF] at h; cases h; omega
  | succ z ih =>
    intro t off co la lt o' c' l' t' hz h
    rw [hwF] at h
    split at h
    · obtain ⟨a1, a2, -⟩ := t7 z (by omega) (by omega)
      have hrd := Cx_rd X (r := S (189 + (40 * i + z)) / 2) (by omega) (by omega)
      have := ih _ _ _ _ _ _ _ _ _ (by omega) h
      omega
    · cases h
theorem Re_L (X : Cx sh V S D) (h0 : 0 ≤ i) (h1 : i < S 152) : ∀ (n z : Nat) (R : Int → Int) (t : Int), (z : Int) ≤ S (171 + i) → z < n → 0 ≤ R 1 → R 1 ≤ 90 * (S (171 + i) - z) → (hwF S i z t (R 1) (R 0) (R 2) (R 3) = none ∧ ∃ R', Re_follow_L40 n 63 2 (11 + 4 * i) 3 t ((z : Int) - 1) (sh, setR V 63 R) = some (0, (sh, setR V 63 R'))) ∨ ∃ R', hwF S i z t (R 1) (R 0) (R 2) (R 3) = some (R' 1, R' 0, R' 2, R' 3) ∧ Re_follow_L40 n 63 2 (11 + 4 * i) 3 t ((z : Int) - 1) (sh, setR V 63 R) = some (1, (sh, setR V 63 R')) := by
  have H := X.1
  obtain ⟨r1, r2, r3, r4, r5, r6, r7⟩ := Cx_rng X
  obtain ⟨t1, t2, t3, t4, t5, t6, t7⟩ := Cx_tr X h0 h1
  have k63 : (kS sh 63).1 = 4 := by rw [k_63 H]
  have hy := X.2.2.2.1.1.2.2.2.2.1
  have hy' := X.2.2.2.1.1.2.2.2.2.2.1
  intro n
  induction n with
  | zero => intro z _ _ _ h; omega
  | succ n ih =>
    intro z R t hz hn o0 o1
    have XR : ∀ R, Cx sh (setR V 63 R) S D := fun R => Cx_set X (by decide) (by decide) (by rw [k_63 H]; decide)
    have kp : ∀ (R : Int → Int) (j x : Int) (f : Mem → Option (Int × Mem)), bd (putf 4 j (sh, setR V 63 R) 63 x) f = f (sh, setR V 63 (up R j x)) := fun R j x f => by rw [bpt k63, up_setR]
    have kg : ∀ (R : Int → Int) (j : Int) (f : Int → Option (Int × Mem)), bd (getf 4 j (sh, setR V 63 R) 63) f = f (R j) := fun R j f => by rw [bgt k63, setR_at]
    rw [Re_follow_L40]
    rcases z with _ | z
    · rw [if_pos (by omega)]
      exact Or.inr ⟨R, rfl, rfl⟩
    · have hs := t7 z (by omega) (by omega)
      obtain ⟨a1, a2, a3, a4, a5, a6⟩ := hs
      have hrd := Cx_rd X (r := S (189 + (40 * i + z)) / 2) (by omega) (by omega)
      have e := shr1 a1 (by omega)
      rw [if_neg (by omega), show (((z + 1 : Nat) : Int) - 1) = (z : Int) by omega, bm (XR _) h0 h1 (by omega) (by omega), bi2 (XR _), e, x_isOpen (XR _) (by omega) (by omega)]
      rw [hwF]
      by_cases q : S (128 + S (189 + (40 * i + z)) / 2) = 0
      · rw [B_t q, if_neg (c := (1 : Int) = 0) (by decide), bm (XR _) h0 h1 (by omega) (by omega), bi3 (XR _), x_endOf (XR _) a1 a2]
        by_cases q' : sHead S (S (189 + (40 * i + z))) = t
        · rw [if_pos (c := sHead S (S (189 + (40 * i + (z : Int)))) = t) q', if_pos (c := _ ∧ _) ⟨q, q'⟩, kg, bt1 (XR _) h0 h1, kg, bi3 (XR _), w32_id (x := S (159 + i) + R 1) (by omega) (by omega), x_worthOn (XR _) h0 h1 (by omega) (by omega) (by omega) (by omega), kp]
          rw [kg, bt1 (XR _) h0 h1, kg, bi3 (XR _), upS_ne (k := 1) (by decide), w32_id (x := S (159 + i) + R 1) (by omega) (by omega), x_isLate (XR _) h0 h1 (by omega) (by omega) (by omega) (by omega), upS_ne (k := 2) (by decide)]
          have hB : (if B (S 2 < S (159 + i) + R 1 - S (429 + (40 * i + z))) = 0 then some (0 : Int) else some 1) = some (B (S 2 < S (159 + i) + R 1 - S (429 + (40 * i + z)))) := by
            by_cases u : S 2 < S (159 + i) + R 1 - S (429 + (40 * i + z))
            · rw [B_t u]; rfl
            · rw [B_f u]; rfl
          rw [hB, bd_mk, kp, kg, upS_ne (k := 3) (by decide), upS_ne (k := 3) (by decide), bs (XR _) h0 h1 (by omega) (by omega), b32 (XR _), kg, upS_ne (k := 1) (by decide), upS_ne (k := 1) (by decide), w32_id (x := S (429 + (40 * i + z)) + S 2) (by omega) (by omega), w32_id (x := S (429 + (40 * i + z)) + S 2 - R 1) (by omega) (by omega), J_min_b, kp, kg, upS_ne (k := 1) (by decide), upS_ne (k := 1) (by decide), upS_ne (k := 1) (by decide), b3c (XR _), bm (XR _) h0 h1 (by omega) (by omega), e, bl8 (XR _) (by omega) (by omega), kp, bm (XR _) h0 h1 (by omega) (by omega), bi3 (XR _), x_startOf (XR _) a1 a2, w32_id (x := R 1 + S (104 + S (189 + (40 * i + z)) / 2)) (by omega) (by omega), w32_id (x := (z : Int) + -1) (by omega) (by omega)]
          have hi := ih z (up (up (up (up R 0 (w32 (R 0 + sWorthOf S i z (S (159 + i) + R 1)))) 2 (w32 (R 2 + B (S 2 < S (159 + i) + R 1 - S (429 + (40 * i + z)))))) 3 (if S (429 + (40 * i + z)) + S 2 - R 1 < R 3 then S (429 + (40 * i + z)) + S 2 - R 1 else R 3)) 1 (R 1 + S (104 + S (189 + (40 * i + z)) / 2))) (sTail S (S (189 + (40 * i + z)))) (by omega) (by omega) (by rw [upS_eq]; omega) (by rw [upS_eq]; omega)
          rw [upS_eq, upS_ne (k := 0) (by decide), upS_ne (k := 0) (by decide), upS_ne (k := 0) (by decide), upS_eq, upS_ne (k := 2) (by decide), upS_ne (k := 2) (by decide), upS_eq, upS_ne (k := 3) (by decide), upS_eq] at hi
          exact hi
        · rw [if_neg (c := sHead S (S (189 + (40 * i + (z : Int)))) = t) q', if_neg (c := _ ∧ _) (fun u => q' u.2)]
          exact Or.inl ⟨rfl, R, rfl⟩
      · rw [B_f q, if_pos (c := (0 : Int) = 0) rfl, if_neg (c := _ ∧ _) (fun u => q u.1)]
        exact Or.inl ⟨rfl, R, rfl⟩
theorem Re_follow_x (X : Cx sh V S D) (h0 : 0 ≤ i) (h1 : i < S 152) : (hwF S i (S (171 + i)).toNat (S (153 + i)) 0 0 0 2147483647 = none ∧ ∃ R', Re_follow 63 2 (11 + 4 * i) (sh, V) = some (0, (sh, setR V 63 R'))) ∨ ∃ R', hwF S i (S (171 + i)).toNat (S (153 + i)) 0 0 0 2147483647 = some (R' 1, R' 0, R' 2, R' 3) ∧ Re_follow 63 2 (11 + 4 * i) (sh, V) = some (1, (sh, setR V 63 R')) := by
  have H := X.1
  obtain ⟨t1, t2, t3, t4, t5, t6, t7⟩ := Cx_tr X h0 h1
  have k63 : (kS sh 63).1 = 4 := by rw [k_63 H]
  have hR := Re_L X h0 h1 FU (S (171 + i)).toNat (up (up (up (up (V 63) 0 0) 1 0) 2 0) 3 2147483647) (S (153 + i)) (by omega) (by show _ < 1000000; omega) (by rw [upS_ne (by decide), upS_ne (by decide), upS_eq]; omega) (by rw [upS_ne (by decide), upS_ne (by decide), upS_eq]; omega)
  simp (disch := decide) only [upS_eq, upS_ne] at hR
  rw [Int.toNat_of_nonneg t1] at hR
  unfold Re_follow
  have X' : Cx sh (setR V 63 (up (up (up (up (V 63) 0 0) 1 0) 2 0) 3 2147483647)) S D := Cx_set X (by decide) (by decide) (by rw [k_63 H]; decide)
  rw [b20 X, bt0 X h0 h1, bpt k63, up_self_row, bpt k63, up_setR, bpt k63, up_setR, bpt k63, up_setR, bt5 X' h0 h1, w32_id (by omega) (by omega), bd_mk]
  exact hR
theorem hw_M (H : Sh sh) (P : PM V) (O : SOk S D) (hD : D < 1900000000) (h0 : 0 ≤ i) (h1 : i < S 152) {kk : Int → Int → Int → Int → Int → Int → Mem → Option (Int × Mem)} {u : Int} : ∀ (n z : Nat) (t off co la lt : Int), (z : Int) ≤ S (171 + i) → z < n → 0 ≤ off → off ≤ 90 * (S (171 + i) - z) → M_homeward_L71 kk n 101 i u t (S (159 + i) + off) co la ((z : Int) - 1) (sh, setR V 102 S) = match hwF S i z t off co la lt with
    | none => some (-1, (sh, setR V 102 S))
    | some (off', co', la', _) => kk 101 i u (S (159 + i) + off') co' la' (sh, setR V 102 S) := by
  have o3 := O.2.2.1
  have z4 := O.1.2.2.2.1
  have T := O.2.2.2.1 i h0 h1
  have hD' : D < 2000000000 := by omega
  have hl := O.1.2.2.2.2.2.2.1
  have hl' := O.1.2.2.2.2.2.2.2.1
  obtain ⟨t1, t2, t3, t4, t5, t6, t7⟩ := id T
  intro n
  induction n with
  | zero => intro z _ _ _ _ _ _ h; omega
  | succ n ih =>
    intro z t off co la lt hz hn o0 o1
    rw [M_homeward_L71]
    rcases z with _ | z
    · rw [if_pos (by omega)]; rfl
    · obtain ⟨a1, a2, a3, a4, a5, a6⟩ := t7 z (by omega) (by omega)
      have hrd := O.1.2.2.2.2.2.2.2.2.2.2.2.2.2 (S (189 + (40 * i + z)) / 2) (by omega) (by omega)
      have hz0 : ¬ (z : Int) < 0 := by omega
      rw [show (((z + 1 : Nat) : Int) - 1) = (z : Int) by omega, hwF]
      by_cases q : S (128 + S (189 + (40 * i + z)) / 2) = 0
      · by_cases q' : sHead S (S (189 + (40 * i + z))) = t
        · rw [if_pos (⟨q, q'⟩ : _ ∧ _)]
          have hi := ih z (sTail S (S (189 + (40 * i + z)))) (off + S (104 + S (189 + (40 * i + z)) / 2)) (w32 (co + sWorthOf S i z (S (159 + i) + off))) (w32 (la + B (S 2 < S (159 + i) + off - S (429 + (40 * i + z))))) (if S (429 + (40 * i + z)) + S 2 - off < lt then S (429 + (40 * i + z)) + S 2 - off else lt) (by omega) (by omega) (by omega) (by omega)
          rw [← hi]
          by_cases g : S 2 < S (159 + i) + off - S (429 + (40 * i + z))
          · simp (disch := first | assumption | omega | (simp (disch := first | omega | decide) only [w32_id, upS_eq, upS_ne, PM_row, PM_fld]; first | assumption | omega)) only [Int.reduceEq, Int.reduceLT, Int.reduceLE, Int.reduceAdd, Int.reduceSub, Int.reduceNeg, Int.reduceMul, ↓bd_mk, ↓bd2_mk, ↓bg101, ↓bp101, ↓bi101, ↓bl102, ↓bs102, ↓blp, ↓bsp, ↓bdiv, ↓brem, ↓bokz, ↓M_slipAt_b, ↓M_within_b, ↓reduceIte, upS_eq, upS_ne, w32_id, w64_id, if_some2, B_0, B_1, okz_B, ite_not, hz0, q, q', g, ↓M_isOpen_b, ↓M_headOf_b, ↓M_tailOf_b, ↓M_worthOf_b H P hD' T hl hl', B_t g]
            rw [show (z : Int) + -1 = (z : Int) - 1 by omega, show S (159 + i) + off + S (104 + S (189 + (40 * i + z)) / 2) = S (159 + i) + (off + S (104 + S (189 + (40 * i + z)) / 2)) by omega]
            rfl
          · simp (disch := first | assumption | omega | (simp (disch := first | omega | decide) only [w32_id, upS_eq, upS_ne, PM_row, PM_fld]; first | assumption | omega)) only [Int.reduceEq, Int.reduceLT, Int.reduceLE, Int.reduceAdd, Int.reduceSub, Int.reduceNeg, Int.reduceMul, ↓bd_mk, ↓bd2_mk, ↓bg101, ↓bp101, ↓bi101, ↓bl102, ↓bs102, ↓blp, ↓bsp, ↓bdiv, ↓brem, ↓bokz, ↓M_slipAt_b, ↓M_within_b, ↓reduceIte, upS_eq, upS_ne, w32_id, w64_id, if_some2, B_0, B_1, okz_B, ite_not, hz0, q, q', g, ↓M_isOpen_b, ↓M_headOf_b, ↓M_tailOf_b, ↓M_worthOf_b H P hD' T hl hl', B_f g]
            rw [show (z : Int) + -1 = (z : Int) - 1 by omega, show S (159 + i) + off + S (104 + S (189 + (40 * i + z)) / 2) = S (159 + i) + (off + S (104 + S (189 + (40 * i + z)) / 2)) by omega]
            rfl
        · rw [if_neg (c := _ ∧ _) (fun u => q' u.2)]
          simp (disch := first | assumption | omega | (simp (disch := first | omega | decide) only [w32_id, upS_eq, upS_ne, PM_row, PM_fld]; first | assumption | omega)) only [Int.reduceEq, Int.reduceLT, Int.reduceLE, Int.reduceAdd, Int.reduceSub, Int.reduceNeg, Int.reduceMul, ↓bd_mk, ↓bd2_mk, ↓bg101, ↓bp101, ↓bi101, ↓bl102, ↓bs102, ↓blp, ↓bsp, ↓bdiv, ↓brem, ↓bokz, ↓M_slipAt_b, ↓M_within_b, ↓reduceIte, upS_eq, upS_ne, w32_id, w64_id, if_some2, B_0, B_1, okz_B, ite_not, hz0, q, q', ↓M_isOpen_b, ↓M_headOf_b]
      · rw [if_neg (c := _ ∧ _) (fun u => q u.1)]
        simp (disch := first | assumption | omega | (simp (disch := first | omega | decide) only [w32_id, upS_eq, upS_ne, PM_row, PM_fld]; first | assumption | omega)) only [Int.reduceEq, Int.reduceLT, Int.reduceLE, Int.reduceAdd, Int.reduceSub, Int.reduceNeg, Int.reduceMul, ↓bd_mk, ↓bd2_mk, ↓bg101, ↓bp101, ↓bi101, ↓bl102, ↓bs102, ↓blp, ↓bsp, ↓bdiv, ↓brem, ↓bokz, ↓M_slipAt_b, ↓M_within_b, ↓reduceIte, upS_eq, upS_ne, w32_id, w64_id, if_some2, B_0, B_1, okz_B, ite_not, hz0, q, ↓M_isOpen_b]
theorem rs_homeward (X : Cx sh V S D) (hP : WPt V) (PM' : PM V2) : RS sh V V2 S (T_homeward 0 i k (sh, V)) (M_homeward 101 i k (sh, setR V2 102 S)) := by
  have P1 := PM0 PM'
  have H := X.1
  have P := X.2.1
  obtain ⟨r1, r2, r3, r4, r5, r6, r7⟩ := Cx_rng X
  unfold T_homeward M_homeward
  rw [bp101 H, b04 X, bi2 X, x_hasTr X, bi101 H, M_isOne_b H P1 r5 r6]
  by_cases h : 0 ≤ i ∧ i < S 152
  · rw [B_t h, if_neg (c := (1 : Int) = 0) (by decide), if_neg (c := (1 : Int) = 0) (by decide), M_within_b]
    by_cases g : 0 ≤ k ∧ k ≤ 2
    · obtain ⟨t1, t2, t3, t4, t5, t6, t7⟩ := Cx_tr X h.1 h.2
      rw [B_t g, if_neg (c := (1 : Int) = 0) (by decide), if_neg (c := k < 0) (by omega), if_neg (c := 2 < k) (by omega), bgt (by rw [k_0 H]), q_0_11 P, b04 X, b04 X, b21 X, b9 X h.1 h.2, bit (by rw [k_63 H]), bg101 H, w32_id (x := 153 + i) (by omega) (by omega), blp P1 H (by omega) (by omega), bg101 H, w32_id (x := 159 + i) (by omega) (by omega), blp P1 H (by omega) (by omega), bg101 H, w32_id (x := 171 + i) (by omega) (by omega), blp P1 H (by omega) (by omega), bd_mk, w32_id (x := S (171 + i) - 1) (by omega) (by omega)]
      have hm := fun kk => hw_M (kk := kk) (u := k) H P1 X.2.2.2.1 r7 h.1 h.2 FU (S (171 + i)).toNat (S (153 + i)) 0 0 0 2147483647 (by omega) (by show _ < 1000000; omega) (by omega) (by omega)
      rw [Int.toNat_of_nonneg t1, Int.add_zero] at hm
      rw [hm]
      have wp : ∀ R, WPt (setR V 63 R) := fun R => WPt_of hP (fun t j ht _ _ => by rw [setR_ne (by omega)])
      have pt : ∀ R, Pt (setR V 63 R) := fun R => by rw [Pt_set H (by rw [k_63 H]; decide)]; exact P
      have fin : ∀ (y : Int) R, RS sh V V2 S (some (y, (sh, setR V 63 R))) (some (y, (sh, setR (upV V2 101 0 0) 102 S))) := fun y R => ⟨y, _, _, rfl, rfl, SF_set SF_refl (by decide) (by decide), pt R, wp R, FM0⟩
      rcases Re_follow_x X h.1 h.2 with ⟨e1, R, e2⟩ | ⟨R, e1, e2⟩
      · rw [e1, e2, bd2_mk, if_pos rfl]; exact fin _ _
      · rw [e1, e2, bd2_mk, if_neg (by decide)]
        have hk : k = 0 ∨ k = 1 ∨ k = 2 := by omega
        have k11 : ∀ f : Int → Option (Int × Mem), bd (getf 11 11 (sh, setR V 63 R) 0) f = f 63 := fun f => by rw [bgt (by rw [k_0 H]), q_0_11 (pt R)]
        have k63 : ∀ (j : Int) (f : Int → Option (Int × Mem)), bd (getf 4 j (sh, setR V 63 R) 63) f = f (R j) := fun j f => by rw [bgt (by rw [k_63 H]), setR_at]
        rcases hk with rfl | rfl | rfl
        · simp only [Int.reduceEq, ↓reduceIte]; rw [k11, k63]; exact fin _ _
        · simp only [Int.reduceEq, ↓reduceIte]; rw [k11, k63, bg101 H, w32_id (x := 159 + i) (by omega) (by omega), blp P1 H (by omega) (by omega), show S (159 + i) + R 1 - S (159 + i) = R 1 by omega]
          have hr := hwF_rng X h.1 h.2 _ _ _ _ _ _ _ _ _ _ (by omega) e1
          rw [w32_id (by omega) (by omega)]; exact fin _ _
        · simp only [Int.reduceEq, ↓reduceIte]; rw [k11, k63]; exact fin _ _
    · rw [B_f g, if_pos (c := (0 : Int) = 0) rfl]
      by_cases q : k < 0
      · rw [if_pos q]; exact RS_same P hP _
      · rw [if_neg q, if_pos (by omega)]; exact RS_same P hP _
  · rw [B_f h, if_pos (c := (0 : Int) = 0) rfl, if_pos (c := (0 : Int) = 0) rfl]; exact RS_same P hP _
theorem safe_M (H : Sh sh) (P : PM V) (O : SOk S D) (hD : D < 1900000000) (h0 : 0 ≤ i) (h1 : i < S 152) {kk : Int → Int → Int → Int → Mem → Option (Int × Mem)} : ∀ (n z : Nat) (t off co la lt u : Int), (z : Int) ≤ S (171 + i) → z < n → 0 ≤ off → off ≤ 90 * (S (171 + i) - z) → (off = 0 → lt = 2147483647) → (0 < off → lt = u) → (hwF S i z t off co la lt = none ∧ M_safe_L46 kk n 101 i t off u ((z : Int) - 1) (sh, setR V 102 S) = some (-1, (sh, setR V 102 S))) ∨ ∃ o' c' l' t', hwF S i z t off co la lt = some (o', c', l', t') ∧ ∃ u', (0 < o' → t' = u') ∧ M_safe_L46 kk n 101 i t off u ((z : Int) - 1) (sh, setR V 102 S) = kk 101 i o' u' (sh, setR V 102 S) := by
  have o3 := O.2.2.1
  have z4 := O.1.2.2.2.1
  obtain ⟨t1, t2, t3, t4, t5, t6, t7⟩ := O.2.2.2.1 i h0 h1
  have hy := O.1.2.2.2.2.1
  have hy' := O.1.2.2.2.2.2.1
  intro n
  induction n with
  | zero => intro z _ _ _ _ _ _ _ h; omega
  | succ n ih =>
    intro z t off co la lt u hz hn o0 o1 l0 l1
    rw [M_safe_L46]
    rcases z with _ | z
    · rw [if_pos (by omega)]; exact Or.inr ⟨off, co, la, lt, rfl, u, l1, rfl⟩
    · obtain ⟨a1, a2, a3, a4, a5, a6⟩ := t7 z (by omega) (by omega)
      have hrd := O.1.2.2.2.2.2.2.2.2.2.2.2.2.2 (S (189 + (40 * i + z)) / 2) (by omega) (by omega)
      have hz0 : ¬ (z : Int) < 0 := by omega
      rw [show (((z + 1 : Nat) : Int) - 1) = (z : Int) by omega, hwF]
      by_cases q : S (128 + S (189 + (40 * i + z)) / 2) = 0
      · by_cases q' : sHead S (S (189 + (40 * i + z))) = t
        · rw [if_pos (c := _ ∧ _) ⟨q, q'⟩]
          have hi := ih z (sTail S (S (189 + (40 * i + z)))) (off + S (104 + S (189 + (40 * i + z)) / 2)) (w32 (co + sWorthOf S i z (S (159 + i) + off))) (w32 (la + B (S 2 < S (159 + i) + off - S (429 + (40 * i + z))))) (if S (429 + (40 * i + z)) + S 2 - off < lt then S (429 + (40 * i + z)) + S 2 - off else lt) (if off = 0 then S (429 + (40 * i + z)) + S 2 - off else if S (429 + (40 * i + z)) + S 2 - off < u then S (429 + (40 * i + z)) + S 2 - off else u) (by omega) (by omega) (by omega) (by omega) (by omega) (fun _ => by
            by_cases e : off = 0
            · rw [if_pos e, l0 e, if_pos (by omega)]
            · rw [if_neg e, l1 (by omega)])
          have hM : (M_safe_L46 kk n 101 i (sTail S (S (189 + (40 * i + z)))) (off + S (104 + S (189 + (40 * i + z)) / 2)) (if off = 0 then S (429 + (40 * i + z)) + S 2 - off else if S (429 + (40 * i + z)) + S 2 - off < u then S (429 + (40 * i + z)) + S 2 - off else u) ((z : Int) - 1) (sh, setR V 102 S)) = M_safe_L46 kk (n + 1) 101 i t off u z (sh, setR V 102 S) := by
            rw [M_safe_L46]
            by_cases e : off = 0
            · simp (disch := first | assumption | omega | (simp (disch := first | omega | decide) only [w32_id, upS_eq, upS_ne, PM_row, PM_fld]; first | assumption | omega)) only [Int.reduceEq, Int.reduceLT, Int.reduceLE, Int.reduceAdd, Int.reduceSub, Int.reduceNeg, Int.reduceMul, ↓bd_mk, ↓bd2_mk, ↓bg101, ↓bp101, ↓bi101, ↓bl102, ↓bs102, ↓blp, ↓bsp, ↓bdiv, ↓brem, ↓bokz, ↓M_slipAt_b, ↓M_within_b, ↓reduceIte, upS_eq, upS_ne, w32_id, w64_id, if_some2, B_0, B_1, okz_B, ite_not, hz0, q, q', e, ↓M_isOpen_b, ↓M_headOf_b, ↓M_tailOf_b]
              rw [show (z : Int) + -1 = (z : Int) - 1 by omega]
            · by_cases e' : S (429 + (40 * i + z)) + S 2 - off < u
              · simp (disch := first | assumption | omega | (simp (disch := first | omega | decide) only [w32_id, upS_eq, upS_ne, PM_row, PM_fld]; first | assumption | omega)) only [Int.reduceEq, Int.reduceLT, Int.reduceLE, Int.reduceAdd, Int.reduceSub, Int.reduceNeg, Int.reduceMul, ↓bd_mk, ↓bd2_mk, ↓bg101, ↓bp101, ↓bi101, ↓bl102, ↓bs102, ↓blp, ↓bsp, ↓bdiv, ↓brem, ↓bokz, ↓M_slipAt_b, ↓M_within_b, ↓reduceIte, upS_eq, upS_ne, w32_id, w64_id, if_some2, B_0, B_1, okz_B, ite_not, hz0, q, q', e, e', ↓M_isOpen_b, ↓M_headOf_b, ↓M_tailOf_b]
                rw [show (z : Int) + -1 = (z : Int) - 1 by omega]
              · simp (disch := first | assumption | omega | (simp (disch := first | omega | decide) only [w32_id, upS_eq, upS_ne, PM_row, PM_fld]; first | assumption | omega)) only [Int.reduceEq, Int.reduceLT, Int.reduceLE, Int.reduceAdd, Int.reduceSub, Int.reduceNeg, Int.reduceMul, ↓bd_mk, ↓bd2_mk, ↓bg101, ↓bp101, ↓bi101, ↓bl102, ↓bs102, ↓blp, ↓bsp, ↓bdiv, ↓brem, ↓bokz, ↓M_slipAt_b, ↓M_within_b, ↓reduceIte, upS_eq, upS_ne, w32_id, w64_id, if_some2, B_0, B_1, okz_B, ite_not, hz0, q, q', e, e', ↓M_isOpen_b, ↓M_headOf_b, ↓M_tailOf_b]
                rw [show (z : Int) + -1 = (z : Int) - 1 by omega]
          rw [hM, M_safe_L46] at hi
          exact hi
        · rw [if_neg (c := _ ∧ _) (fun u => q' u.2)]
          refine Or.inl ⟨rfl, ?_⟩
          simp (disch := first | assumption | omega | (simp (disch := first | omega | decide) only [w32_id, upS_eq, upS_ne, PM_row, PM_fld]; first | assumption | omega)) only [Int.reduceEq, Int.reduceLT, Int.reduceLE, Int.reduceAdd, Int.reduceSub, Int.reduceNeg, Int.reduceMul, ↓bd_mk, ↓bd2_mk, ↓bg101, ↓bp101, ↓bi101, ↓bl102, ↓bs102, ↓blp, ↓bsp, ↓bdiv, ↓brem, ↓bokz, ↓M_slipAt_b, ↓M_within_b, ↓reduceIte, upS_eq, upS_ne, w32_id, w64_id, if_some2, B_0, B_1, okz_B, ite_not, hz0, q, q', ↓M_isOpen_b, ↓M_headOf_b]
      · rw [if_neg (c := _ ∧ _) (fun u => q u.1)]
        refine Or.inl ⟨rfl, ?_⟩
        simp (disch := first | assumption | omega | (simp (disch := first | omega | decide) only [w32_id, upS_eq, upS_ne, PM_row, PM_fld]; first | assumption | omega)) only [Int.reduceEq, Int.reduceLT, Int.reduceLE, Int.reduceAdd, Int.reduceSub, Int.reduceNeg, Int.reduceMul, ↓bd_mk, ↓bd2_mk, ↓bg101, ↓bp101, ↓bi101, ↓bl102, ↓bs102, ↓blp, ↓bsp, ↓bdiv, ↓brem, ↓bokz, ↓M_slipAt_b, ↓M_within_b, ↓reduceIte, upS_eq, upS_ne, w32_id, w64_id, if_some2, B_0, B_1, okz_B, ite_not, hz0, q, ↓M_isOpen_b]
theorem rs_safe (X : Cx sh V S D) (hP : WPt V) (PM' : PM V2) : RS sh V V2 S (T_safe 0 i (sh, V)) (M_safe 101 i (sh, setR V2 102 S)) := by
  have P1 := PM0 PM'
  have H := X.1
  have P := X.2.1
  obtain ⟨r1, r2, r3, r4, r5, r6, r7⟩ := Cx_rng X
  unfold T_safe M_safe
  rw [bp101 H, b04 X, bi2 X, x_hasTr X, bi101 H, M_isOne_b H P1 r5 r6]
  by_cases h : 0 ≤ i ∧ i < S 152
  · obtain ⟨t1, t2, t3, t4, t5, t6, t7⟩ := Cx_tr X h.1 h.2
    rw [B_t h, if_neg (c := (1 : Int) = 0) (by decide), if_neg (c := (1 : Int) = 0) (by decide), b04 X, b21 X, b9 X h.1 h.2, bt5 X h.1 h.2, bg101 H, w32_id (x := 153 + i) (by omega) (by omega), blp P1 H (by omega) (by omega), bg101 H, w32_id (x := 171 + i) (by omega) (by omega), blp P1 H (by omega) (by omega), bd_mk, w32_id (x := S (171 + i) - 1) (by omega) (by omega)]
    have wp : ∀ R, WPt (setR V 63 R) := fun R => WPt_of hP (fun t j ht _ _ => by rw [setR_ne (by omega)])
    have pt : ∀ R, Pt (setR V 63 R) := fun R => by rw [Pt_set H (by rw [k_63 H]; decide)]; exact P
    have fin : ∀ (y : Int) R, RS sh V V2 S (some (y, (sh, setR V 63 R))) (some (y, (sh, setR (upV V2 101 0 0) 102 S))) := fun y R => ⟨y, _, _, rfl, rfl, SF_set SF_refl (by decide) (by decide), pt R, wp R, FM0⟩
    have hm := fun kk => safe_M (kk := kk) H P1 X.2.2.2.1 r7 h.1 h.2 FU (S (171 + i)).toNat (S (153 + i)) 0 0 0 2147483647 (-1) (by omega) (by show _ < 1000000; omega) (by omega) (by omega) (fun _ => rfl) (fun q => by omega)
    rw [Int.toNat_of_nonneg t1] at hm
    by_cases g : S (171 + i) = 0
    · rw [if_pos g]
      have e0 : (S (171 + i)).toNat = 0 := by omega
      have ef : hwF S i (S (171 + i)).toNat (S (153 + i)) 0 0 0 2147483647 = some (0, 0, 0, 2147483647) := by rw [e0]; rfl
      rcases hm (fun x9 x10 x11 x12 μ13 => if x11 = 0 then some ((-1), μ13) else bd (getf 12 1 μ13 x9) fun x14 => bd (lda 20 μ13 x14 (w32 (159 + x10))) fun x15 => if x12 < x15 then some ((-1), μ13) else some (x12, μ13)) with ⟨e1, e2⟩ | ⟨o', c', l', t', e1, u', e2, e3⟩
      · rw [ef] at e1; cases e1
      · rw [ef] at e1; cases e1
        rw [e3, if_pos rfl]; exact RS_same P hP _
    · rw [if_neg g, bgt (by rw [k_0 H]), q_0_11 P, b04 X, bit (by rw [k_63 H])]
      rcases hm (fun x9 x10 x11 x12 μ13 => if x11 = 0 then some ((-1), μ13) else bd (getf 12 1 μ13 x9) fun x14 => bd (lda 20 μ13 x14 (w32 (159 + x10))) fun x15 => if x12 < x15 then some ((-1), μ13) else some (x12, μ13)) with ⟨e1, e2⟩ | ⟨o', c', l', t', e1, u', e2, e3⟩
      · rcases Re_follow_x X h.1 h.2 with ⟨f1, R, f2⟩ | ⟨R, f1, f2⟩
        · rw [e2, f2, bd2_mk, if_pos rfl]; exact fin _ _
        · rw [e1] at f1; cases f1
      · rcases Re_follow_x X h.1 h.2 with ⟨f1, R, f2⟩ | ⟨R, f1, f2⟩
        · rw [e1] at f1; cases f1
        · have hr := hwF_rng X h.1 h.2 _ _ _ _ _ _ _ _ _ _ (by omega) e1
          have ho : 0 < o' := hr.2.2 (by omega)
          rw [e1] at f1
          injection f1 with f1
          injection f1 with g1 f1
          injection f1 with g2 f1
          injection f1 with g3 g4
          have XR : Cx sh (setR V 63 R) S D := Cx_set X (by decide) (by decide) (by rw [k_63 H]; decide)
          have k11 : ∀ f : Int → Option (Int × Mem), bd (getf 11 11 (sh, setR V 63 R) 0) f = f 63 := fun f => by rw [bgt (by rw [k_0 H]), q_0_11 (pt R)]
          have k63 : ∀ (j : Int) (f : Int → Option (Int × Mem)), bd (getf 4 j (sh, setR V 63 R) 63) f = f (R j) := fun j f => by rw [bgt (by rw [k_63 H]), setR_at]
          rw [e3, f2, bd2_mk, if_neg (c := (1 : Int) = 0) (by decide), bt1 XR h.1 h.2, k11, k63, k11, k63, if_neg (c := o' = 0) (by omega), bg101 H, w32_id (x := 159 + i) (by omega) (by omega), blp P1 H (by omega) (by omega), ← e2 ho, ← g4]
          split
          · exact fin _ _
          · exact fin _ _
  · rw [B_f h, if_pos (c := (0 : Int) = 0) rfl, if_pos (c := (0 : Int) = 0) rfl]; exact RS_same P hP _
end FAIR
