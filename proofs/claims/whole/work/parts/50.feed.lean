/-! PURE: feed -/
section FEED
variable {sh : List (Nat × Nat)} {V V' V1 V2 V2' : Int → Int → Int} {r t m s c i j d k x a b y D D' f p w bk v tb q e : Int} {S S' R : Int → Int} {n : Nat} {ρ : Nat → Int}
theorem Cx_mid (X : Cx sh V S D) (lo : ∀ a j, 2 ≤ a → a < 37 → V' a j = V a j) (P : Pt V') : Cx sh V' S D := by
  obtain ⟨H, -, ⟨c1, c2, c3, c4, c5, c6⟩, O, T, hD⟩ := X
  have T' : TP V' := TP_of T (fun i j h0 h1 h2 h3 => lo _ _ (by omega) (by omega))
  refine ⟨H, P, ⟨CK_of c1 O.1.2.2.2.1 (fun _ _ => rfl) (fun a j h0 h1 => lo _ _ (by omega) (by omega)), CM_of c2 O.1.2.2.2.1 (fun _ _ => rfl) (lo _ _ (by decide) (by decide)), by rw [lo _ _ (by decide) (by decide)]; exact c3, fun i h0 h1 => ?_, fun d h0 h1 => by rw [lo _ _ (by decide) (by decide)]; exact c5 d h0 h1, by rw [lo _ _ (by decide) (by decide)]; exact c6⟩, O, T', hD⟩
  have o3 := O.2.2.1
  obtain ⟨p, p0, p1, p2, p3, p4⟩ := T.1 i h0 (by omega)
  have := c4 i h0 h1
  unfold TD at this ⊢
  simp (disch := omega) only [lo]
  exact this
theorem w8_bmod : w8 x = Int.bmod x 256 := by
  unfold w8
  rw [Int8.toInt_toInt32, Int32.toInt_toInt8, Int32.toInt_ofInt]
  exact Int.bmod_bmod_of_dvd (by decide)
theorem w8_rng : -128 ≤ w8 x ∧ w8 x < 128 := by
  rw [w8_bmod]
  have h1 := Int.le_bmod (x := x) (m := 256) (by decide)
  have h2 := Int.bmod_lt (x := x) (m := 256) (by decide)
  omega
theorem w8_mod : w8 x % 256 = x % 256 := by rw [w8_bmod]; exact Int.bmod_emod
theorem and255 : and32 x 255 = x % 256 := by
  unfold and32
  show (Int32.ofInt x &&& Int32.ofInt 255).toBitVec.toInt = _
  rw [Int32.toBitVec_and, Int32.toBitVec_ofInt]
  have e : (BitVec.ofInt 32 x &&& (Int32.ofInt 255).toBitVec).toNat = (x % 256).toNat := by
    rw [BitVec.toNat_and, BitVec.toNat_ofInt]
    show (x % 4294967296).toNat &&& 255 = _
    rw [show (255 : Nat) = 2 ^ 8 - 1 from rfl, Nat.and_two_pow_sub_one_eq_mod]
    omega
  rw [BitVec.toInt_eq_toNat_of_lt (by rw [e]; omega), e]
  omega
theorem shr_div (h : R32 x) {s : Nat} (hs : s < 32) : shr32 x (s : Int) = x / 2 ^ s := by
  unfold shr32
  show (Int32.ofInt x >>> (Int32.ofInt (s : Int) &&& 31)).toBitVec.toInt = _
  rw [Int32.toBitVec_shiftRight, show (Int32.ofInt x).toBitVec.sshiftRight' ((Int32.ofInt (s : Int) &&& 31).toBitVec.smod 32) = (Int32.ofInt x).toBitVec.sshiftRight ((Int32.ofInt (s : Int) &&& 31).toBitVec.smod 32).toNat from rfl, cnt_nat s hs, BitVec.toInt_sshiftRight]
  show (w32 x) >>> s = _
  rw [w32_R h, Int.shiftRight_eq_div_pow]
  congr 1
theorem ushr_div (h : R32 x) {s : Nat} (hs : s < 32) (hs0 : 0 < s) : ushr32 x (s : Int) = (x % 4294967296) / 2 ^ s := by
  have hc : ∀ r : Nat, r < 32 → ((Int32.ofInt (r : Int)).toUInt32 &&& Int32.toUInt32 31).toNat % 32 = r := by decide +kernel
  have e : ((Int32.ofInt x).toUInt32 >>> ((Int32.ofInt (s : Int)).toUInt32 &&& Int32.toUInt32 31)).toNat = (x % 4294967296).toNat / 2 ^ s := by
    rw [UInt32.toNat_shiftRight, hc s hs, Nat.shiftRight_eq_div_pow]
    congr 1
  have hp : 2 ≤ 2 ^ s := by
    have := Nat.pow_le_pow_right (n := 2) (by decide) hs0
    omega
  have hlt : (x % 4294967296).toNat / 2 ^ s ≤ (x % 4294967296).toNat / 2 := Nat.div_le_div_left hp (by decide)
  unfold ushr32
  generalize (Int32.ofInt x).toUInt32 >>> ((Int32.ofInt (s : Int)).toUInt32 &&& Int32.toUInt32 31) = u at e ⊢
  show u.toBitVec.toInt = _
  rw [BitVec.toInt_eq_toNat_of_lt (by show 2 * u.toNat < 2 ^ 32; rw [e]; omega)]
  show ((u.toNat : Nat) : Int) = _
  rw [e, Int.natCast_ediv, Int.toNat_of_nonneg (by omega)]
  congr 1
/-- the byte of an int at a shift, both ways -/
theorem byte_eq (h : R32 x) (hs : s = 0 ∨ s = 8 ∨ s = 16 ∨ s = 24) : and32 (shr32 x s) 255 = w8 (ushr32 x s) % 256 := by
  rw [and255, w8_mod]
  obtain ⟨h1, h2⟩ := id h
  rcases hs with rfl | rfl | rfl | rfl
  · have e1 := shr_div h (s := 0) (by decide)
    have e2 : ushr32 x 0 = x := by
      unfold ushr32
      rw [show ((Int32.ofInt (0 : Int)).toUInt32 &&& Int32.toUInt32 31) = 0 by decide, UInt32.shiftRight_zero]
      exact w32_R h
    rw [show ((0 : Nat) : Int) = 0 from rfl] at e1
    rw [e1, e2]; simp
  · have e1 := shr_div h (s := 8) (by decide)
    have e2 := ushr_div h (s := 8) (by decide) (by decide)
    rw [show ((8 : Nat) : Int) = 8 from rfl] at e1 e2
    rw [e1, e2, show (2 : Int) ^ 8 = 256 from rfl]; omega
  · have e1 := shr_div h (s := 16) (by decide)
    have e2 := ushr_div h (s := 16) (by decide) (by decide)
    rw [show ((16 : Nat) : Int) = 16 from rfl] at e1 e2
    rw [e1, e2, show (2 : Int) ^ 16 = 65536 from rfl]; omega
  · have e1 := shr_div h (s := 24) (by decide)
    have e2 := ushr_div h (s := 24) (by decide) (by decide)
    rw [show ((24 : Nat) : Int) = 24 from rfl] at e1 e2
    rw [e1, e2, show (2 : Int) ^ 24 = 16777216 from rfl]; omega
/-- the tape, as both sides have it -/
def TA (V V2 : Int → Int → Int) : Prop := V 0 1 = V2 101 5 ∧ 0 ≤ V 0 1 ∧ V 0 1 ≤ 700 ∧ ∀ k, 0 ≤ k → k < V 0 1 → (-128 ≤ V 1 k ∧ V 1 k < 128) ∧ V2 104 k = V 1 k % 256
def tpw (V : Int → Int → Int) (b : Int) : Int → Int → Int := upV (upV V 1 (V 0 1) b) 0 1 (V 0 1 + 1)
def mp1 (V : Int → Int → Int) (b : Int) : Int → Int → Int := upV (upV V 104 (V 101 5) b) 101 5 (V 101 5 + 1)
theorem tpw_01 : tpw V b 0 1 = V 0 1 + 1 := up_eq
theorem mp1_05 : mp1 V b 101 5 = V 101 5 + 1 := up_eq
theorem Pt_tpw (H : Sh sh) : Pt (tpw V b) = Pt V := by unfold tpw; rw [Pt_fld2 (by decide), Pt_k H (by rw [k_1 H]; decide)]
theorem PM_mp1 : PM (mp1 V b) = PM V := by unfold mp1; rw [PM_fld (by decide), PM_row (by decide)]
theorem TA_step (h : TA V V2) (hb : -128 ≤ b ∧ b < 128) (hl : V 0 1 < 700) : TA (tpw V b) (mp1 V2 (b % 256)) := by
  obtain ⟨h1, h2, h3, h4⟩ := h
  refine ⟨by rw [tpw_01, mp1_05, h1], by rw [tpw_01]; omega, by rw [tpw_01]; omega, fun k k0 k1 => ?_⟩
  rw [tpw_01] at k1
  have e1 : tpw V b 1 k = upV V 1 (V 0 1) b 1 k := up_row (by decide)
  have e2 : mp1 V2 (b % 256) 104 k = upV V2 104 (V2 101 5) (b % 256) 104 k := up_row (by decide)
  rw [e1, e2]
  by_cases e : k = V 0 1
  · rw [e, up_eq, ← h1, up_eq]; exact ⟨hb, rfl⟩
  · rw [up_col e, up_col (by rw [← h1]; exact e)]; exact h4 k k0 (by omega)
theorem tape_step (H : Sh sh) (P : Pt V) (hs : 0 ≤ s) (hs' : s ≤ 24) (h0 : 0 ≤ V 0 1) (hl : V 0 1 < 700) : T_tapeInt_L3 (n + 1) 0 v s (sh, V) = T_tapeInt_L3 n 0 v (s - 8) (sh, tpw V (w8 (ushr32 v s))) := by
  have hw := w8_rng (x := ushr32 v s)
  have ok : okb (w8 (ushr32 v s)) = some () := by unfold okb; rw [if_pos hw]
  rw [T_tapeInt_L3, if_neg (by omega), bgt (by rw [k_0 H]), if_pos hl, bgt (by rw [k_0 H]), q_0_0 P, bgt (by rw [k_0 H]), ok, bd_mk, bst (by rw [k_1 H]) h0 (by rw [k_1 H]; exact hl), bgt (by rw [k_0 H]), up_row (by decide), bpt (by rw [k_0 H]), w32_id (x := V 0 1 + 1) (by omega) (by omega), w32_id (x := s + -8) (by omega) (by omega)]
  rfl
theorem tapeInt_x (H : Sh sh) (P : Pt V) (h0 : 0 ≤ V 0 1) (hl : V 0 1 + 4 ≤ 700) : T_tapeInt 0 v (sh, V) = some (0, (sh, tpw (tpw (tpw (tpw V (w8 (ushr32 v 24))) (w8 (ushr32 v 16))) (w8 (ushr32 v 8))) (w8 (ushr32 v 0)))) := by
  have P1 : ∀ {V : Int → Int → Int} {b : Int}, Pt V → Pt (tpw V b) := fun P => by rw [Pt_tpw H]; exact P
  unfold T_tapeInt
  rw [show FU = 999995 + 1 + 1 + 1 + 1 + 1 from rfl, tape_step H P (by decide) (by decide) h0 (by omega), tape_step H (P1 P) (by decide) (by decide) (by rw [tpw_01]; omega) (by rw [tpw_01]; omega), tape_step H (P1 (P1 P)) (by decide) (by decide) (by rw [tpw_01, tpw_01]; omega) (by rw [tpw_01, tpw_01]; omega), tape_step H (P1 (P1 (P1 P))) (by decide) (by decide) (by rw [tpw_01, tpw_01, tpw_01]; omega) (by rw [tpw_01, tpw_01, tpw_01]; omega), T_tapeInt_L3, if_pos (by decide)]
  rfl
theorem feed_step (H : Sh sh) (P : PM V) (h0 : 0 ≤ V 101 5) (hl : V 101 5 < 700) (hk : 0 ≤ k) (hk' : k < 20) {v1 v2 v3 v4 v5 : Int} : M_feed_L24 (n + 1) 101 v1 v2 v3 v4 v5 k (sh, setR V 102 S) = M_feed_L24 n 101 v1 v2 v3 v4 v5 (k + 1) (sh, setR (mp1 V (and32 (shr32 (if k < 4 then v1 else if k < 8 then v2 else if k < 12 then v3 else if k < 16 then v4 else v5) (24 - 8 * (k % 4))) 255)) 102 S) := by
  have e : (if k < 4 then some v1 else if k < 8 then some v2 else if k < 12 then some v3 else if k < 16 then some v4 else some v5) = some (if k < 4 then v1 else if k < 8 then v2 else if k < 12 then v3 else if k < 16 then v4 else v5) := by
    repeat' split
    all_goals rfl
  rw [M_feed_L24, if_pos hk', e, bd_mk, bg101 H, q_101_3 P, bg101 H, brem (by omega) (by omega) (by decide) (by decide), w32_id (x := 8 * (k % 4)) (by omega) (by omega), w32_id (x := 24 - 8 * (k % 4)) (by omega) (by omega), ms104 H h0 hl, bg101 H, up_row (by decide), bp101 H, w32_id (x := V 101 5 + 1) (by omega) (by omega), w32_id (by omega) (by omega)]
  rfl
/-- both sides after one more byte -/
def FS (sh : List (Nat × Nat)) (V V2 V1 V2' : Int → Int → Int) (k : Int) : Prop := TA V1 V2' ∧ Pt V1 ∧ PM V2' ∧ V1 0 1 = V 0 1 + k ∧ (∀ a j, 2 ≤ a → V1 a j = V a j) ∧ (∀ j, j ≠ 1 → V1 0 j = V 0 j) ∧ ∀ a j, ¬ MSc a j → a ≠ 104 → ¬ (a = 101 ∧ j = 5) → V2' a j = V2 a j
theorem FS_step (H : Sh sh) (h : FS sh V V2 V1 V2' k) (hb : -128 ≤ b ∧ b < 128) (hl : V 0 1 + k < 700) (hc : c = b % 256) : FS sh V V2 (tpw V1 b) (mp1 V2' c) (k + 1) := by
  obtain ⟨h1, h2, h3, h4, h5, h6, h7⟩ := h
  subst hc
  refine ⟨TA_step h1 hb (by omega), by rw [Pt_tpw H]; exact h2, by rw [PM_mp1]; exact h3, by rw [tpw_01]; omega, fun a j ha => ?_, fun j hj => ?_, fun a j q1 q2 q3 => ?_⟩
  · unfold tpw; rw [up_row (by omega), up_row (by omega)]; exact h5 a j ha
  · unfold tpw; rw [up_col hj, up_row (by decide)]; exact h6 j hj
  · unfold mp1 upV
    rw [if_neg q3, if_neg (fun z => q2 z.1)]; exact h7 a j q1 q2 q3
theorem rf_feed (H : Sh sh) (P : Pt V) (PM' : PM V2) (hT : TA V V2) (ra : R32 a) (rb : R32 b) (rc : R32 c) (rd : R32 d) (re : R32 e) : ∃ y V1 V2', T_feed 0 a b c d e (sh, V) = some (y, (sh, V1)) ∧ M_feed 101 a b c d e (sh, setR V2 102 S) = some (y, (sh, setR V2' 102 S)) ∧ TA V1 V2' ∧ Pt V1 ∧ (∀ a j, 2 ≤ a → V1 a j = V a j) ∧ (∀ j, j ≠ 1 → V1 0 j = V 0 j) ∧ ∀ a j, ¬ MSc a j → a ≠ 104 → ¬ (a = 101 ∧ j = 5) → V2' a j = V2 a j := by
  have P1 := PM0 PM'
  obtain ⟨h1, h2, h3, h4⟩ := id hT
  have F0 : FS sh V V2 V (upV V2 101 0 0) 0 := ⟨⟨by rw [up_col (by decide)]; exact h1, h2, h3, fun k k0 k1 => by rw [up_row (by decide)]; exact h4 k k0 k1⟩, P, P1, by omega, fun _ _ _ => rfl, fun _ _ => rfl, fun a j q _ _ => FM0 a j q⟩
  unfold T_feed M_feed
  rw [bp101 H, bgt (by rw [k_0 H]), bg101 H, up_col (by decide), ← h1, w32_id (by omega) (by omega)]
  by_cases g : 700 < V 0 1 + 20
  · rw [if_pos g, if_pos g]
    exact ⟨_, V, _, rfl, rfl, F0.1, P, F0.2.2.2.2.1, F0.2.2.2.2.2.1, F0.2.2.2.2.2.2⟩
  · rw [if_neg g, if_neg g]
    have i0 : ∀ W : Int → Int → Int, bd (isk 11 (sh, W) 0) (fun _ => some ()) = some () := fun W => by rw [bit (by rw [k_0 H])]
    obtain ⟨U, hU, e1⟩ : ∃ U, U = tpw (tpw (tpw (tpw V (w8 (ushr32 a 24))) (w8 (ushr32 a 16))) (w8 (ushr32 a 8))) (w8 (ushr32 a 0)) ∧ T_tapeInt 0 a (sh, V) = some (0, (sh, U)) := ⟨_, rfl, tapeInt_x H P h2 (by omega)⟩
    have b8 : ∀ x s, -128 ≤ w8 (ushr32 x s) ∧ w8 (ushr32 x s) < 128 := fun x s => w8_rng
    have G1 := FS_step H F0 (b8 a 24) (by omega) (byte_eq ra (by decide))
    have G2 := FS_step H G1 (b8 a 16) (by omega) (byte_eq ra (by decide))
    have G3 := FS_step H G2 (b8 a 8) (by omega) (byte_eq ra (by decide))
    have G4 := FS_step H G3 (b8 a 0) (by omega) (byte_eq ra (by decide))
    have G5 := FS_step H G4 (b8 b 24) (by omega) (byte_eq rb (by decide))
    have G6 := FS_step H G5 (b8 b 16) (by omega) (byte_eq rb (by decide))
    have G7 := FS_step H G6 (b8 b 8) (by omega) (byte_eq rb (by decide))
    have G8 := FS_step H G7 (b8 b 0) (by omega) (byte_eq rb (by decide))
    have G9 := FS_step H G8 (b8 c 24) (by omega) (byte_eq rc (by decide))
    have G10 := FS_step H G9 (b8 c 16) (by omega) (byte_eq rc (by decide))
    have G11 := FS_step H G10 (b8 c 8) (by omega) (byte_eq rc (by decide))
    have G12 := FS_step H G11 (b8 c 0) (by omega) (byte_eq rc (by decide))
    have G13 := FS_step H G12 (b8 d 24) (by omega) (byte_eq rd (by decide))
    have G14 := FS_step H G13 (b8 d 16) (by omega) (byte_eq rd (by decide))
    have G15 := FS_step H G14 (b8 d 8) (by omega) (byte_eq rd (by decide))
    have G16 := FS_step H G15 (b8 d 0) (by omega) (byte_eq rd (by decide))
    have G17 := FS_step H G16 (b8 e 24) (by omega) (byte_eq re (by decide))
    have G18 := FS_step H G17 (b8 e 16) (by omega) (byte_eq re (by decide))
    have G19 := FS_step H G18 (b8 e 8) (by omega) (byte_eq re (by decide))
    have G20 := FS_step H G19 (b8 e 0) (by omega) (byte_eq re (by decide))
    have fst : ∀ {W W2 : Int → Int → Int} {k y s : Int} {m : Nat}, FS sh V V2 W W2 k → 0 ≤ k → k < 20 → (if k < 4 then a else if k < 8 then b else if k < 12 then c else if k < 16 then d else e) = y → 24 - 8 * (k % 4) = s → M_feed_L24 (m + 1) 101 a b c d e k (sh, setR W2 102 S) = M_feed_L24 m 101 a b c d e (k + 1) (sh, setR (mp1 W2 (and32 (shr32 y s) 255)) 102 S) := fun {W W2 k y s m} F k0 k1 ey es => by
      rw [feed_step H F.2.2.1 (by rw [← F.1.1, F.2.2.2.1]; omega) (by rw [← F.1.1, F.2.2.2.1]; omega) k0 k1, ey, es]
    refine ⟨V 0 1 + 20, _, _, ?_, ?_, G20.1, G20.2.1, G20.2.2.2.2.1, G20.2.2.2.2.2.1, G20.2.2.2.2.2.2⟩
    · rw [bit (by rw [k_0 H]), e1, bd2_mk, hU, bit (by rw [k_0 H]), tapeInt_x H G4.2.1 (by rw [G4.2.2.2.1]; omega) (by rw [G4.2.2.2.1]; omega), bd2_mk, bit (by rw [k_0 H]), tapeInt_x H G8.2.1 (by rw [G8.2.2.2.1]; omega) (by rw [G8.2.2.2.1]; omega), bd2_mk, bit (by rw [k_0 H]), tapeInt_x H G12.2.1 (by rw [G12.2.2.2.1]; omega) (by rw [G12.2.2.2.1]; omega), bd2_mk, bit (by rw [k_0 H]), tapeInt_x H G16.2.1 (by rw [G16.2.2.2.1]; omega) (by rw [G16.2.2.2.1]; omega), bd2_mk, bgt (by rw [k_0 H]), G20.2.2.2.1]
      rfl
    · have hF : FU = 999979 + 1 + 1 + 1 + 1 + 1 + 1 + 1 + 1 + 1 + 1 + 1 + 1 + 1 + 1 + 1 + 1 + 1 + 1 + 1 + 1 + 1 := rfl
      rw [hF, fst (y := a) (s := 24) F0 (by decide) (by decide) rfl rfl, fst (y := a) (s := 16) G1 (by decide) (by decide) rfl rfl, fst (y := a) (s := 8) G2 (by decide) (by decide) rfl rfl, fst (y := a) (s := 0) G3 (by decide) (by decide) rfl rfl, fst (y := b) (s := 24) G4 (by decide) (by decide) rfl rfl, fst (y := b) (s := 16) G5 (by decide) (by decide) rfl rfl, fst (y := b) (s := 8) G6 (by decide) (by decide) rfl rfl, fst (y := b) (s := 0) G7 (by decide) (by decide) rfl rfl, fst (y := c) (s := 24) G8 (by decide) (by decide) rfl rfl, fst (y := c) (s := 16) G9 (by decide) (by decide) rfl rfl, fst (y := c) (s := 8) G10 (by decide) (by decide) rfl rfl, fst (y := c) (s := 0) G11 (by decide) (by decide) rfl rfl, fst (y := d) (s := 24) G12 (by decide) (by decide) rfl rfl, fst (y := d) (s := 16) G13 (by decide) (by decide) rfl rfl, fst (y := d) (s := 8) G14 (by decide) (by decide) rfl rfl, fst (y := d) (s := 0) G15 (by decide) (by decide) rfl rfl, fst (y := e) (s := 24) G16 (by decide) (by decide) rfl rfl, fst (y := e) (s := 16) G17 (by decide) (by decide) rfl rfl, fst (y := e) (s := 8) G18 (by decide) (by decide) rfl rfl, fst (y := e) (s := 0) G19 (by decide) (by decide) rfl rfl, M_feed_L24, if_neg (by decide)]
      have := G20.1.1
      rw [G20.2.2.2.1] at this
      rw [bg101 H]
      exact congrArg (fun y => some (y, _)) (this.symm.trans (by omega))
end FEED
