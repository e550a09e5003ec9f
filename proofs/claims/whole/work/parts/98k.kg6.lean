/-! PURE: kingdom; a road's line -/
section KG6
variable {sh : List (Nat × Nat)} {V V' V1 V2 W W' W1 W2 : Int → Int → Int} {S R : Int → Int} {τ : Nat → Int} {N p q n : Nat} {lo hi lo' hi' a a' : Int}
def rdT (μ8 : Mem) : Option (Int × Mem) :=
  bd (getf 3 0 μ8 37) fun x11 =>
  bd (getf 1 0 μ8 x11) fun x12 =>
  bd (isk 3 μ8 37) fun _ =>
  bd2 (Rd_expectNumber 37 0 (w32 (x12 - 1)) μ8) fun x13 μ14 =>
  bd (isk 3 μ14 37) fun _ =>
  bd2 (Rd_expectWord 37 (-2 - ((5 : Nat) : Int)) μ14) fun _ μ16 =>
  bd (getf 3 0 μ16 37) fun x17 =>
  bd (getf 1 0 μ16 x17) fun x18 =>
  bd (isk 3 μ16 37) fun _ =>
  bd2 (Rd_expectNumber 37 0 (w32 (x18 - 1)) μ16) fun x19 μ20 =>
  bd (
      if x19 = x13 then
        bd (isk 3 μ20 37) fun _ =>
        bd2 (Rd_blame 37 3 μ20) fun _ μ23 =>
        some μ23
      else
        some μ20) fun (μ21 : Mem) =>
  bd (isk 3 μ21 37) fun _ =>
  bd2 (Rd_expectWord 37 (-2 - ((7 : Nat) : Int)) μ21) fun _ μ25 =>
  bd (isk 3 μ25 37) fun _ =>
  bd2 (Rd_expectNumber 37 0 999 μ25) fun x26 μ27 =>
  bd (isk 3 μ27 37) fun _ =>
  bd2 (Rd_advance 37 μ27) fun _ μ29 =>
  bd (isk 3 μ29 37) fun _ =>
  bd2 (Rd_isWord 37 (-2 - ((4 : Nat) : Int)) μ29) fun x30 μ31 =>
  bd2 (
      if x30 = 0 then
        some (x26, μ31)
      else
        bd (isk 3 μ31 37) fun _ =>
        bd2 (Rd_expectNumber 37 0 999 μ31) fun x34 μ35 =>
        bd (isk 3 μ35 37) fun _ =>
        bd2 (Rd_advance 37 μ35) fun _ μ37 =>
        some (x34, μ37)) fun (y32 : Int) (μ33 : Mem) =>
  bd (isk 3 μ33 37) fun _ =>
  bd2 (Rd_isWord 37 (-2 - ((8 : Nat) : Int)) μ33) fun x38 μ39 =>
  bd (
      if x38 = 0 then
        bd (isk 3 μ39 37) fun _ =>
        bd2 (Rd_blame 37 2 μ39) fun _ μ42 =>
        some μ42
      else
        some μ39) fun (μ40 : Mem) =>
  bd (isk 3 μ40 37) fun _ =>
  bd2 (Rd_expectNumber 37 1 90 μ40) fun x43 μ44 =>
  bd (getf 3 1 μ44 37) fun x45 =>
  if x45 = 0 then
    bd (isk 3 μ44 37) fun _ =>
    bd2 (Rd_addRoad 37 x13 x19 x26 y32 x43 μ44) fun _ μ47 =>
    some (0, μ47)
  else
    some (0, μ44)
def mrT (x2 : Int) (μ12 : Mem) : Option (Int × Mem) :=
    bd (getf 12 4 μ12 101) fun x13 =>
    bd (lda 20 μ12 x13 0) fun x14 =>
    bd (isk 12 μ12 101) fun _ =>
    bd2 (M_takes 101 0 (w32 (x14 - 1)) μ12) fun x15 μ16 =>
    bd (isk 12 μ16 101) fun _ =>
    bd2 (M_must 101 5 μ16) fun _ μ18 =>
    bd (isk 12 μ18 101) fun _ =>
    bd2 (M_is 101 10 μ18) fun x19 μ20 =>
    bd (
        if x19 = 0 then
          some μ20
        else
          bd (getf 12 10 μ20 101) fun x22 =>
          if x22 = x15 then
            bd (isk 12 μ20 101) fun _ =>
            bd2 (M_fails 101 3 μ20) fun _ μ24 =>
            some μ24
          else
            some μ20) fun (μ21 : Mem) =>
    bd (getf 12 4 μ21 101) fun x25 =>
    bd (lda 20 μ21 x25 0) fun x26 =>
    bd (isk 12 μ21 101) fun _ =>
    bd2 (M_takes 101 0 (w32 (x26 - 1)) μ21) fun x27 μ28 =>
    bd (isk 12 μ28 101) fun _ =>
    bd2 (M_must 101 7 μ28) fun _ μ30 =>
    bd (isk 12 μ30 101) fun _ =>
    bd2 (M_takes 101 0 999 μ30) fun x31 μ32 =>
    bd (isk 12 μ32 101) fun _ =>
    bd2 (M_eats 101 4 μ32) fun x33 μ34 =>
    bd2 (
        if x33 = 0 then
          some (x31, μ34)
        else
          bd (isk 12 μ34 101) fun _ =>
          bd2 (M_takes 101 0 999 μ34) fun x37 μ38 =>
          some (x37, μ38)) fun (y35 : Int) (μ36 : Mem) =>
    bd (isk 12 μ36 101) fun _ =>
    bd2 (M_must 101 8 μ36) fun _ μ40 =>
    bd (isk 12 μ40 101) fun _ =>
    bd2 (M_takes 101 1 90 μ40) fun x41 μ42 =>
    bd (getf 12 11 μ42 101) fun x43 =>
    if x43 = 0 then
      bd (getf 12 4 μ42 101) fun x44 =>
      bd (sta 20 μ42 x44 (w32 (8 + x2)) x15) fun μ45 =>
      bd (getf 12 4 μ45 101) fun x46 =>
      bd (sta 20 μ45 x46 (w32 (32 + x2)) x27) fun μ47 =>
      bd (getf 12 4 μ47 101) fun x48 =>
      bd (sta 20 μ47 x48 (w32 (56 + x2)) x31) fun μ49 =>
      bd (getf 12 4 μ49 101) fun x50 =>
      bd (sta 20 μ49 x50 (w32 (80 + x2)) y35) fun μ51 =>
      bd (getf 12 4 μ51 101) fun x52 =>
      bd (sta 20 μ51 x52 (w32 (104 + x2)) x41) fun μ53 =>
      bd (getf 12 4 μ53 101) fun x54 =>
      bd (lda 20 μ53 x54 7) fun x55 =>
      bd (sta 20 μ53 x54 7 (w32 (x55 + 1))) fun μ56 =>
      some (0, μ56)
    else
      some (0, μ42)
/-- the draft with one road more -/
def nrd (R : Int → Int) (a b t s d : Int) : Int → Int := up (up (up (up (up (up R (8 + R 7) a) (32 + R 7) b) (56 + R 7) t) (80 + R 7) s) (104 + R 7) d) 7 (R 7 + 1)
theorem LOk_rd {b t s d : Int} (h : LOk R) (h7 : R 7 < 24) (h0 : R 0 ≠ 0) (a0 : 0 ≤ a ∧ a < R 0) (b0 : 0 ≤ b ∧ b < R 0) (ab : b ≠ a) (t0 : 0 ≤ t ∧ t ≤ 999) (s0 : 0 ≤ s ∧ s ≤ 999) (d0 : 1 ≤ d ∧ d ≤ 90) : LOk (nrd R a b t s d) := by
  obtain ⟨⟨k1, k2, k3, k4, k5, k6, k7, k8, k9, k10, k11, k12, k13, k14⟩, l⟩ := h
  have e7 : nrd R a b t s d 7 = R 7 + 1 := upS_eq
  have lo : ∀ k, k < 7 → nrd R a b t s d k = R k := fun k hk => by
    unfold nrd
    rw [upS_ne (by omega), upS_ne (by omega), upS_ne (by omega), upS_ne (by omega), upS_ne (by omega), upS_ne (by omega)]
  unfold LOk KOk
  rw [e7, lo 0 (by decide), lo 1 (by decide), lo 2 (by decide), lo 3 (by decide), lo 4 (by decide), lo 5 (by decide)]
  refine ⟨⟨k1, k2, by omega, by omega, k5, k6, k7, k8, k9, k10, k11, fun w => absurd w h0, k13, fun r r0 r1 => ?_⟩, l⟩
  by_cases e : r = R 7
  · subst e
    have g1 : nrd R a b t s d (8 + R 7) = a := by unfold nrd; rw [upS_ne (by omega), upS_ne (by omega), upS_ne (by omega), upS_ne (by omega), upS_ne (by omega), upS_eq]
    have g2 : nrd R a b t s d (32 + R 7) = b := by unfold nrd; rw [upS_ne (by omega), upS_ne (by omega), upS_ne (by omega), upS_ne (by omega), upS_eq]
    have g3 : nrd R a b t s d (56 + R 7) = t := by unfold nrd; rw [upS_ne (by omega), upS_ne (by omega), upS_ne (by omega), upS_eq]
    have g4 : nrd R a b t s d (80 + R 7) = s := by unfold nrd; rw [upS_ne (by omega), upS_ne (by omega), upS_eq]
    have g5 : nrd R a b t s d (104 + R 7) = d := by unfold nrd; rw [upS_ne (by omega), upS_eq]
    rw [g1, g2, g3, g4, g5]
    exact ⟨a0.1, a0.2, b0.1, b0.2, fun w => ab w.symm, t0.1, t0.2, s0.1, s0.2, d0.1, d0.2⟩
  · have g : ∀ c, (c = 8 ∨ c = 32 ∨ c = 56 ∨ c = 80 ∨ c = 104) → nrd R a b t s d (c + r) = R (c + r) := fun c hc => by
      unfold nrd
      rw [upS_ne (by omega), upS_ne (by omega), upS_ne (by omega), upS_ne (by omega), upS_ne (by omega), upS_ne (by omega)]
    rw [g 8 (by omega), g 32 (by omega), g 56 (by omega), g 80 (by omega), g 104 (by omega)]
    exact k14 r r0 (by omega)
theorem roadT_ok (H : Sh sh) (h : KSt V W τ N q) {x2 : Int} (hd : V 37 1 = 0 → DR V W ∧ LOk (W 105) ∧ W 105 7 < 24 ∧ W 105 0 ≠ 0 ∧ x2 = W 105 7) : ∃ V' W', rdT (sh, V) = some (0, (sh, V')) ∧ mrT x2 (sh, setR W 102 S) = some (0, (sh, setR W' 102 S)) ∧ LR V W V' W' τ N q ∧ (V 37 1 ≠ 0 → (V' 37 1 = V 37 1 ∧ V' 37 2 = V 37 2) ∧ FA V V') := by
  obtain ⟨C, M, p0, e0, ep0⟩ := St_base h
  have hl1 : V 37 1 = 0 → (0 : Int) = 0 ∧ w32 (V 38 0 - 1) = w32 (W 105 0 - 1) := fun z => ⟨rfl, by rw [(hd z).1.1 0 (by decide) (by decide)]⟩
  obtain ⟨y1, z1, V1, W1, a1, a2, a3, a4, a5, a6, a7⟩ := num_St (S := S) (lo := 0) (hi := w32 (V 38 0 - 1)) (lo' := 0) (hi' := w32 (W 105 0 - 1)) H h hl1
  obtain ⟨yw, V2, W2, b1, b2, b3, b4, b5, b6, b7⟩ := word_St (S := S) (n := 5) H a5 (by decide)
  have F2 := FA_trans a3 b3
  have G2 := KN_trans a4 b4
  have eV : V2 38 0 = V 38 0 := F2 _ _ (by omega)
  have eW : W2 105 0 = W 105 0 := G2 _ _ (by omega)
  obtain ⟨y3, z3, V3, W3, c1, c2, c3, c4, c5, c6, c7⟩ := other_St (S := S) (a := y1) (a' := z1) (hi := w32 (V 38 0 - 1)) H b5 (fun z => ⟨(a6 (b6 z)).2.1, by rw [eW]; exact (hl1 (a6 (b6 z)).1).2⟩)
  obtain ⟨yv, V4, W4, d1, d2, d3, d4, d5, d6, d7⟩ := word_St (S := S) (n := 7) H c5 (by decide)
  obtain ⟨y5, z5, V5, W5, g1, g2, g3, g4, g5, g6, g7⟩ := num_St (S := S) (lo := 0) (hi := 999) (lo' := 0) (hi' := 999) H d5 (fun _ => ⟨rfl, rfl⟩)
  obtain ⟨y6, z6, V6, W6, i1, i2, i3, i4, i5, i6, i7⟩ := opt_St (S := S) (a := y5) (a' := z5) H g5 (fun z => ⟨(g6 z).2.1, (g6 z).2.2.1, (g6 z).2.2.2⟩)
  obtain ⟨y7, z7, V7, W7, j1, j2, j3, j4, j5, j6, j7⟩ := num_St (S := S) (lo := 1) (hi := 90) (lo' := 1) (hi' := 90) H i5 (fun _ => ⟨rfl, rfl⟩)
  have C2 := FA_CRd F2 C
  have M2 := (St_base b5).2.1
  have M7 := (St_base j5).2.1
  have C7 := (St_base j5).1
  have F7 : FA V V7 := FA_trans F2 (FA_trans c3 (FA_trans d3 (FA_trans g3 (FA_trans i3 j3))))
  have G7 : KN W W7 := KN_trans G2 (KN_trans c4 (KN_trans d4 (KN_trans g4 (KN_trans i4 j4))))
  have h5 : (5 : Int) = ((5 : Nat) : Int) := rfl
  have h7 : (7 : Int) = ((7 : Nat) : Int) := rfl
  have cls : rdT (sh, V) = bd (getf 3 1 (sh, V7) 37) fun x45 => if x45 = 0 then bd (isk 3 (sh, V7) 37) fun _ => bd2 (Rd_addRoad 37 y1 y3 y5 y6 y7 (sh, V7)) fun _ μ47 => some (0, μ47) else some (0, (sh, V7)) := by
    unfold rdT
    rw [rg37 H, C.2.1, rg38 H, ri37 H, a1, bd2_mk, ri37 H, b1, bd2_mk, rg37 H, C2.2.1, rg38 H, eV, ri37 H, c1, ri37 H, d1, bd2_mk, ri37 H, g1, bd2_mk, ri37 H, i1, ri37 H, j1, bd2_mk]
  have ref : mrT x2 (sh, setR W 102 S) = bd (getf 12 11 (sh, setR W7 102 S) 101) fun x43 =>
      if x43 = 0 then
        bd (getf 12 4 (sh, setR W7 102 S) 101) fun x44 =>
        bd (sta 20 (sh, setR W7 102 S) x44 (w32 (8 + x2)) z1) fun μ45 =>
        bd (getf 12 4 μ45 101) fun x46 =>
        bd (sta 20 μ45 x46 (w32 (32 + x2)) z3) fun μ47 =>
        bd (getf 12 4 μ47 101) fun x48 =>
        bd (sta 20 μ47 x48 (w32 (56 + x2)) z5) fun μ49 =>
        bd (getf 12 4 μ49 101) fun x50 =>
        bd (sta 20 μ49 x50 (w32 (80 + x2)) z6) fun μ51 =>
        bd (getf 12 4 μ51 101) fun x52 =>
        bd (sta 20 μ51 x52 (w32 (104 + x2)) z7) fun μ53 =>
        bd (getf 12 4 μ53 101) fun x54 =>
        bd (lda 20 μ53 x54 7) fun x55 =>
        bd (sta 20 μ53 x54 7 (w32 (x55 + 1))) fun μ56 =>
        some (0, μ56)
      else
        some (0, (sh, setR W7 102 S)) := by
    unfold mrT
    rw [fr4 H M, ml105 H (by decide) (by decide), bi101 H, a2, bd2_mk, bi101 H, h5, b2, bd2_mk, bi101 H, c2, bi101 H, show M_must 101 7 = M_must 101 ((7 : Nat) : Int) from rfl, d2, bd2_mk, bi101 H, g2, bd2_mk, bi101 H, i2, bi101 H, j2, bd2_mk]
  have keep : V 37 1 ≠ 0 → V7 37 1 = V 37 1 ∧ V7 37 2 = V 37 2 := fun z => by
    obtain ⟨u1, v1⟩ := a7 z
    obtain ⟨u2, v2⟩ := b7 (by omega)
    obtain ⟨u3, v3⟩ := c7 (by omega)
    obtain ⟨u4, v4⟩ := d7 (by omega)
    obtain ⟨u5, v5⟩ := g7 (by omega)
    obtain ⟨u6, v6⟩ := i7 (by omega)
    obtain ⟨u7, v7⟩ := j7 (by omega)
    exact ⟨by omega, by omega⟩
  rw [cls, ref, rg37 H, bg101 H]
  by_cases z : V7 37 1 = 0
  · have w11 : W7 101 11 = 0 := by
      rcases j5 with ⟨p', _, r⟩ | r
      · exact r.2.2.2.2.2.1
      · exact absurd z r.2.2.1
    obtain ⟨s7, t7, u7, v7⟩ := j6 z
    obtain ⟨s6, t6, u6, v6⟩ := i6 s7
    obtain ⟨s5, t5, u5, v5⟩ := g6 s6
    have s4 := d6 s5
    obtain ⟨s3, t3, u3, v3, x3⟩ := c6 s4
    obtain ⟨s1, t1, u1, v1⟩ := a6 (b6 s3)
    obtain ⟨D, L, l7, l0, ex⟩ := hd s1
    have D7 := DR_keep D F7 G7
    have L7 := LOk_keep L G7
    have er : W7 105 7 = W 105 7 := G7 _ _ (by omega)
    have et : W7 105 0 = W 105 0 := G7 _ _ (by omega)
    have k1 := L.1.1
    have k2 := L.1.2.1
    have k3 := L.1.2.2.1
    have d7' := D7.1 7 (by decide) (by decide)
    have dt := D.1 0 (by decide) (by decide)
    rw [dt, w32_id (by omega) (by omega)] at v1 v3
    obtain ⟨c1', c2', c3', c4', ⟨c5', c6', c7', c8', c9'⟩, c10'⟩ := C7
    rw [if_pos z, if_pos w11, ri37 H, ex]
    unfold Rd_addRoad
    rw [rg37 H, c2', rg38 H, d7', er, if_pos l7, rg37 H, c2', rg38 H, c5']
    have st : ∀ (Vx : Int → Int → Int) (c x : Int) (f : Mem → Option (Int × Mem)), (c = 39 ∨ c = 40 ∨ c = 41 ∨ c = 42 ∨ c = 43) → bd (sta 20 (sh, Vx) c (W 105 7) x) f = f (sh, upV Vx c (W 105 7) x) := fun Vx c x f hc => by
      rcases hc with rfl | rfl | rfl | rfl | rfl
      · exact bst (by rw [k_39 H]) k3 (by rw [k_39 H]; exact l7)
      · exact bst (by rw [k_40 H]) k3 (by rw [k_40 H]; exact l7)
      · exact bst (by rw [k_41 H]) k3 (by rw [k_41 H]; exact l7)
      · exact bst (by rw [k_42 H]) k3 (by rw [k_42 H]; exact l7)
      · exact bst (by rw [k_43 H]) k3 (by rw [k_43 H]; exact l7)
    rw [st _ 39 _ _ (by omega), rg37 H, up_row (by decide), c2', rg38 H, up_row (by decide), c6', st _ 40 _ _ (by omega), rg37 H, up_row (by decide), up_row (by decide), c2', rg38 H, up_row (by decide), up_row (by decide), c7', st _ 41 _ _ (by omega), rg37 H, up_row (by decide), up_row (by decide), up_row (by decide), c2', rg38 H, up_row (by decide), up_row (by decide), up_row (by decide), c8', st _ 42 _ _ (by omega), rg37 H, up_row (by decide), up_row (by decide), up_row (by decide), up_row (by decide), c2', rg38 H, up_row (by decide), up_row (by decide), up_row (by decide), up_row (by decide), c9', st _ 43 _ _ (by omega), rg37 H, up_row (by decide), up_row (by decide), up_row (by decide), up_row (by decide), up_row (by decide), c2', rg38 H, up_row (by decide), up_row (by decide), up_row (by decide), up_row (by decide), up_row (by decide), d7', er, rp38 H, bd2_mk, w32_id (x := W 105 7 + 1) (by omega) (by omega)]
    rw [w32_id (x := 8 + W 105 7) (by omega) (by omega), w32_id (x := 32 + W 105 7) (by omega) (by omega), w32_id (x := 56 + W 105 7) (by omega) (by omega), w32_id (x := 80 + W 105 7) (by omega) (by omega), w32_id (x := 104 + W 105 7) (by omega) (by omega)]
    have N1 : KD W7 (upV W7 105 (8 + W 105 7) z1) := KD_up
    have N2 : KD W7 (upV (upV W7 105 (8 + W 105 7) z1) 105 (32 + W 105 7) z3) := KD_trans N1 KD_up
    have N3 : KD W7 (upV (upV (upV W7 105 (8 + W 105 7) z1) 105 (32 + W 105 7) z3) 105 (56 + W 105 7) z5) := KD_trans N2 KD_up
    have N4 : KD W7 (upV (upV (upV (upV W7 105 (8 + W 105 7) z1) 105 (32 + W 105 7) z3) 105 (56 + W 105 7) z5) 105 (80 + W 105 7) z6) := KD_trans N3 KD_up
    have N5 : KD W7 (upV (upV (upV (upV (upV W7 105 (8 + W 105 7) z1) 105 (32 + W 105 7) z3) 105 (56 + W 105 7) z5) 105 (80 + W 105 7) z6) 105 (104 + W 105 7) z7) := KD_trans N4 KD_up
    rw [fr4 H M7, ms105 H (by omega) (by omega), fr4 H (KD_MRd N1 M7), ms105 H (by omega) (by omega), fr4 H (KD_MRd N2 M7), ms105 H (by omega) (by omega), fr4 H (KD_MRd N3 M7), ms105 H (by omega) (by omega), fr4 H (KD_MRd N4 M7), ms105 H (by omega) (by omega), fr4 H (KD_MRd N5 M7), ml105 H (by decide) (by decide), up_col (by omega), up_col (by omega), up_col (by omega), up_col (by omega), up_col (by omega), er, ms105 H (by omega) (by omega), w32_id (x := W 105 7 + 1) (by omega) (by omega)]
    have rowE : (upV (upV (upV (upV (upV (upV W7 105 (8 + W 105 7) z1) 105 (32 + W 105 7) z3) 105 (56 + W 105 7) z5) 105 (80 + W 105 7) z6) 105 (104 + W 105 7) z7) 105 7 (W 105 7 + 1)) 105 = nrd (W7 105) z1 z3 z5 z6 z7 := by
      rw [upV_105, upV_105, upV_105, upV_105, upV_105, upV_105]; unfold nrd; rw [er]
    have FDv : FD V7 (upV (upV (upV (upV (upV (upV V7 39 (W 105 7) y1) 40 (W 105 7) y3) 41 (W 105 7) y5) 42 (W 105 7) y6) 43 (W 105 7) y7) 38 7 (W 105 7 + 1)) := FD_trans (FD_up (Or.inr (by decide))) (FD_trans (FD_up (Or.inr (by decide))) (FD_trans (FD_up (Or.inr (by decide))) (FD_trans (FD_up (Or.inr (by decide))) (FD_trans (FD_up (Or.inr (by decide))) (FD_up (Or.inl ⟨rfl, by decide, by decide⟩))))))
    refine ⟨_, _, rfl, rfl, ⟨FD_trans (FA_FD F7) FDv, KD_trans (KN_KD G7) (KD_trans N5 KD_up), KSt_up j5 FDv (fun i => by rw [up_row (by decide), up_row (by decide), up_row (by decide), up_row (by decide), up_row (by decide), up_row (by decide)]) (KD_trans N5 KD_up) (fun i => by rw [up_row (by decide), up_row (by decide), up_row (by decide), up_row (by decide), up_row (by decide), up_row (by decide)]), fun _ => ⟨?_, ?_⟩⟩, fun w => absurd s1 w⟩
    · unfold DR
      rw [rowE]
      have o : ∀ k, k < 7 → nrd (W7 105) z1 z3 z5 z6 z7 k = W7 105 k := fun k hk => by
        unfold nrd
        rw [upS_ne (by omega), upS_ne (by omega), upS_ne (by omega), upS_ne (by omega), upS_ne (by omega), upS_ne (by omega)]
      have o7 : nrd (W7 105) z1 z3 z5 z6 z7 7 = W7 105 7 + 1 := upS_eq
      refine ⟨fun j j0 j1 => ?_, fun r r0 r1 => ?_⟩
      · by_cases e : j = 7
        · rw [e, up_eq, o7, er]
        · rw [up_col e, up_row (by decide), up_row (by decide), up_row (by decide), up_row (by decide), up_row (by decide), o j (by omega)]
          exact D7.1 j j0 j1
      · rw [o7, er] at r1
        by_cases e : r = W 105 7
        · subst e
          have g1 : nrd (W7 105) z1 z3 z5 z6 z7 (8 + W 105 7) = z1 := by unfold nrd; rw [er, upS_ne (by omega), upS_ne (by omega), upS_ne (by omega), upS_ne (by omega), upS_ne (by omega), upS_eq]
          have g2 : nrd (W7 105) z1 z3 z5 z6 z7 (32 + W 105 7) = z3 := by unfold nrd; rw [er, upS_ne (by omega), upS_ne (by omega), upS_ne (by omega), upS_ne (by omega), upS_eq]
          have g3 : nrd (W7 105) z1 z3 z5 z6 z7 (56 + W 105 7) = z5 := by unfold nrd; rw [er, upS_ne (by omega), upS_ne (by omega), upS_ne (by omega), upS_eq]
          have g4 : nrd (W7 105) z1 z3 z5 z6 z7 (80 + W 105 7) = z6 := by unfold nrd; rw [er, upS_ne (by omega), upS_ne (by omega), upS_eq]
          have g5 : nrd (W7 105) z1 z3 z5 z6 z7 (104 + W 105 7) = z7 := by unfold nrd; rw [er, upS_ne (by omega), upS_eq]
          rw [g1, g2, g3, g4, g5]
          refine ⟨?_, ?_, ?_, ?_, ?_⟩
          · rw [up_row (by decide), up_row (by decide), up_row (by decide), up_row (by decide), up_row (by decide), up_eq]; exact t1
          · rw [up_row (by decide), up_row (by decide), up_row (by decide), up_row (by decide), up_eq]; exact t3
          · rw [up_row (by decide), up_row (by decide), up_row (by decide), up_eq]; exact t5
          · rw [up_row (by decide), up_row (by decide), up_eq]; exact t6
          · rw [up_row (by decide), up_eq]; exact t7
        · have g : ∀ c, (c = 8 ∨ c = 32 ∨ c = 56 ∨ c = 80 ∨ c = 104) → nrd (W7 105) z1 z3 z5 z6 z7 (c + r) = W7 105 (c + r) := fun c hc => by
            unfold nrd
            rw [upS_ne (by omega), upS_ne (by omega), upS_ne (by omega), upS_ne (by omega), upS_ne (by omega), upS_ne (by omega)]
          have gv : ∀ c, (39 ≤ c ∧ c ≤ 43) → upV (upV (upV (upV (upV (upV V7 39 (W 105 7) y1) 40 (W 105 7) y3) 41 (W 105 7) y5) 42 (W 105 7) y6) 43 (W 105 7) y7) 38 7 (W 105 7 + 1) c r = V7 c r := fun c hc => by
            rw [up_row (by omega), up_col e, up_col e, up_col e, up_col e, up_col e]
          rw [g 8 (by omega), g 32 (by omega), g 56 (by omega), g 80 (by omega), g 104 (by omega), gv 39 (by omega), gv 40 (by omega), gv 41 (by omega), gv 42 (by omega), gv 43 (by omega)]
          exact D7.2 r r0 (by omega)
    · rw [rowE]
      exact LOk_rd L7 (by omega) (by omega) (by omega) (by omega) (by omega) (by omega) (by omega) (by omega)
  · have w11 : W7 101 11 ≠ 0 := by
      rcases j5 with ⟨p', _, r⟩ | r
      · exact absurd r.2.2.1.1 z
      · rw [r.2.2.2.1]; exact r.2.2.1
    rw [if_neg z, if_neg w11]
    exact ⟨V7, W7, rfl, rfl, ⟨FA_FD F7, KN_KD G7, j5, fun w => absurd w z⟩, fun w => ⟨keep w, F7⟩⟩
theorem road_ok (H : Sh sh) (h : CU V W τ N p) (D : DR V W) (L : LOk (W 105)) : ∃ y V1 W1, Rd_readRoad 37 (sh, V) = some (y, (sh, V1)) ∧ M_readRoad 101 (sh, setR W 102 S) = some (0, (sh, setR W1 102 S)) ∧ LR V W V1 W1 τ N (p + 1) := by
  obtain ⟨C, M, ⟨v1, v2⟩, Q, hp, w11, X, n12, n13⟩ := id h
  have d0 := D.1 0 (by decide) (by decide)
  have d7 := D.1 7 (by decide) (by decide)
  have k3 := L.1.2.2.1
  have k4 := L.1.2.2.2.1
  have ref : M_readRoad 101 (sh, setR W 102 S) = bd (if W 105 0 = 0 then bd (isk 12 (sh, setR W 102 S) 101) fun _ => bd2 (M_fails 101 2 (sh, setR W 102 S)) fun _ μ9 => some μ9 else if W 105 7 = 24 then bd (isk 12 (sh, setR W 102 S) 101) fun _ => bd2 (M_fails 101 4 (sh, setR W 102 S)) fun _ μ7 => some μ7 else some ((sh, setR W 102 S) : Mem)) fun (μ5 : Mem) => bd (getf 12 11 μ5 101) fun x10 => if x10 = 0 then bd (isk 12 μ5 101) fun _ => bd2 (M_next 101 μ5) fun _ μ12 => mrT (W 105 7) μ12 else some (0, μ5) := by
    unfold M_readRoad
    rw [fr4 H M, ml105 H (by decide) (by decide), fr4 H M, ml105 H (by decide) (by decide)]
    rfl
  have cls : Rd_readRoad 37 (sh, V) = bd (if W 105 0 = 0 then bd (isk 3 (sh, V) 37) fun _ => bd2 (Rd_blame 37 2 (sh, V)) fun _ μ5 => some μ5 else some ((sh, V) : Mem)) fun (μ3 : Mem) => bd (getf 3 0 μ3 37) fun x6 => bd (getf 1 7 μ3 x6) fun x7 => bd (if x7 < 24 then some μ3 else bd (isk 3 μ3 37) fun _ => bd2 (Rd_blame 37 4 μ3) fun _ μ10 => some μ10) fun (μ8 : Mem) => rdT μ8 := by
    unfold Rd_readRoad
    rw [rg37 H, C.2.1, rg38 H, d0]
    rfl
  rw [ref, cls]
  -- a fault: the class reads on
  have bad : ∀ (V2 W2 : Int → Int → Int), KFF V2 W2 τ N → FA V V2 → KN W W2 → ∃ y V1 W1, rdT (sh, V2) = some (y, (sh, V1)) ∧ (some (0, ((sh, setR W2 102 S) : Mem)) : Option (Int × Mem)) = some (0, (sh, setR W1 102 S)) ∧ LR V W V1 W1 τ N (p + 1) := fun V2 W2 hf f g => by
    obtain ⟨V3, W3, r1, r2, r3, r4⟩ := roadT_ok (S := S) (q := p + 1) (x2 := 0) H (Or.inr hf) (fun z => absurd z hf.2.2.1)
    obtain ⟨⟨u1, u2⟩, u3⟩ := r4 hf.2.2.1
    obtain ⟨-, -, p', e6, ep⟩ := St_base r3.2.2.1
    exact ⟨0, V3, W2, r1, rfl, FA_FD (FA_trans f u3), KN_KD g, Or.inr (KFF_V hf (FA_FD u3) u1 u2 e6 ep), fun w => absurd (by omega) hf.2.2.1⟩
  by_cases z : W 105 0 = 0
  · obtain ⟨V2, W2, a1, a2, a3, a4, a5⟩ := fail_CU (S := S) H h (x := 2) (by decide)
    have nz : W2 101 11 ≠ 0 := by rw [a5.2.2.2.1]; exact a5.2.2.1
    have e7 : V2 38 7 = W 105 7 := by rw [a3 _ _ (by omega)]; exact d7
    have z7 : W 105 7 = 0 := L.1.2.2.2.2.2.2.2.2.2.2.2.1 z
    rw [if_pos z, if_pos z, ri37 H, a1, bd2_mk, bd_mk, rg37 H, a5.1.2.1, rg38 H, e7, if_pos (by omega), bd_mk, bi101 H, a2, bd2_mk, bd_mk, bg101 H, if_neg nz]
    exact bad V2 W2 a5 a3 a4
  · rw [if_neg z, if_neg z, bd_mk, rg37 H, C.2.1, rg38 H, d7]
    by_cases z7 : W 105 7 = 24
    · obtain ⟨V2, W2, a1, a2, a3, a4, a5⟩ := fail_CU (S := S) H h (x := 4) (by decide)
      have nz : W2 101 11 ≠ 0 := by rw [a5.2.2.2.1]; exact a5.2.2.1
      rw [if_neg (by omega), if_pos z7, ri37 H, a1, bd2_mk, bd_mk, bi101 H, a2, bd2_mk, bd_mk, bg101 H, if_neg nz]
      exact bad V2 W2 a5 a3 a4
    · obtain ⟨W2, a1, a2, a3⟩ := next_CU (S := S) H h
      have eW : W2 105 = W 105 := by funext j; exact a2 _ _ (by omega)
      obtain ⟨V3, W3, r1, r2, r3, r4⟩ := roadT_ok (S := S) (x2 := W 105 7) H a3 (fun _ => ⟨DR_keep D FA_refl a2, LOk_keep L a2, by rw [eW]; omega, by rw [eW]; exact z, by rw [eW]⟩)
      rw [if_pos (by omega), if_neg z7, bd_mk, bd_mk, bg101 H, if_pos w11, bi101 H, a1, bd2_mk, r1, r2]
      exact ⟨0, V3, W3, rfl, rfl, r3.1, KD_trans (KN_KD a2) r3.2.1, r3.2.2.1, r3.2.2.2⟩
end KG6
