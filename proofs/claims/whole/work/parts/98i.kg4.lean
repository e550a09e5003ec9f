/-! PURE: kingdom; lines but roads -/
section KG4
variable {sh : List (Nat × Nat)} {V V' V1 V2 W W' W1 W2 : Int → Int → Int} {S R : Int → Int} {τ : Nat → Int} {N p q n : Nat} {lo hi lo' hi' : Int}
def FD (V V' : Int → Int → Int) : Prop := ∀ a j, ¬ (a = 37 ∧ RFd j) → ¬ (a = 38 ∧ 0 ≤ j ∧ j < 8) → ¬ (39 ≤ a ∧ a ≤ 43) → V' a j = V a j
def KD (W W' : Int → Int → Int) : Prop := ∀ a j, ¬ (a = 101 ∧ MFd j) → a ≠ 105 → W' a j = W a j
theorem FD_refl : FD V V := fun _ _ _ _ _ => rfl
theorem KD_refl : KD W W := fun _ _ _ _ => rfl
theorem FD_trans (h : FD V V') (h' : FD V' V1) : FD V V1 := fun a j q r s => (h' a j q r s).trans (h a j q r s)
theorem KD_trans (h : KD W W') (h' : KD W' W1) : KD W W1 := fun a j q r => (h' a j q r).trans (h a j q r)
theorem FA_FD (h : FA V V') : FD V V' := fun a j q _ _ => h a j q
theorem KN_KD (h : KN W W') : KD W W' := fun a j q _ => h a j q
theorem FD_up {a j x : Int} (q : (a = 38 ∧ 0 ≤ j ∧ j < 8) ∨ (39 ≤ a ∧ a ≤ 43)) : FD V (upV V a j x) := fun b i _ z2 z3 => by
  unfold upV
  rw [if_neg (fun e => by obtain ⟨e1, e2⟩ := e; subst e1; subst e2; rcases q with q | q; exact z2 q; exact z3 q)]
theorem KD_up {j x : Int} : KD W (upV W 105 j x) := fun b i _ z => by rw [up_row z]
theorem FD_CRd (h : FD V V') (C : CRd V τ N) : CRd V' τ N := by
  obtain ⟨c1, c2, c3, c4, c5, c6⟩ := C
  refine ⟨c1, by rw [h _ _ (by unfold RFd; omega) (by omega) (by omega)]; exact c2, by rw [h _ _ (by unfold RFd; omega) (by omega) (by omega)]; exact c3, by rw [h _ _ (by unfold RFd; omega) (by omega) (by omega)]; exact c4, by rw [h _ _ (by omega) (by omega) (by omega), h _ _ (by omega) (by omega) (by omega), h _ _ (by omega) (by omega) (by omega), h _ _ (by omega) (by omega) (by omega), h _ _ (by omega) (by omega) (by omega)]; exact c5, fun k hk => by rw [h _ _ (by omega) (by omega) (by omega)]; exact c6 k hk⟩
theorem KD_FM (h : KD W W') : FM W W' := fun a j q => h a j (fun z => q (by unfold MSc; unfold MFd at z; omega)) (fun z => q (by unfold MSc; omega))
theorem KD_MRd (h : KD W W') (C : MRd W τ N) : MRd W' τ N := ⟨PM_fm C.1 (KD_FM h), C.2.1, by rw [h _ _ (by unfold MFd; omega) (by decide)]; exact C.2.2.1, fun k hk => by rw [h _ _ (by omega) (by decide)]; exact C.2.2.2 k hk⟩
/-- writing the draft keeps where both stand -/
theorem KSt_up (h : KSt V W τ N q) (f1 : FD V V') (f2 : ∀ j, V' 37 j = V 37 j) (g1 : KD W W') (g2 : ∀ j, W' 101 j = W 101 j) : KSt V' W' τ N q := by
  rcases h with ⟨p, hq, C, M, ⟨v1, v2⟩, v6, hp, w11, Q⟩ | ⟨C, M, v1, w11, w12, p, v6, hp⟩
  · exact Or.inl ⟨p, hq, FD_CRd f1 C, KD_MRd g1 M, ⟨by rw [f2]; exact v1, by rw [f2]; exact v2⟩, by rw [f2]; exact v6, hp, by rw [g2]; exact w11, by unfold Nxt; rw [g2, g2, g2, g2]; exact Q⟩
  · exact Or.inr ⟨FD_CRd f1 C, KD_MRd g1 M, by rw [f2]; exact v1, by rw [f2, g2]; exact w11, by rw [f2, g2]; exact w12, p, by rw [f2]; exact v6, hp⟩
/-- the draft in both -/
def DR (V W : Int → Int → Int) : Prop := (∀ j, 0 ≤ j → j < 8 → V 38 j = W 105 j) ∧ ∀ r, 0 ≤ r → r < W 105 7 → V 39 r = W 105 (8 + r) ∧ V 40 r = W 105 (32 + r) ∧ V 41 r = W 105 (56 + r) ∧ V 42 r = W 105 (80 + r) ∧ V 43 r = W 105 (104 + r)
def LOk (R : Int → Int) : Prop := KOk R ∧ (R 0 = 0 → R 1 = 0)
theorem DR_keep (h : DR V W) (f : FA V V') (g : KN W W') : DR V' W' := by
  have e : ∀ j, W' 105 j = W 105 j := fun j => g _ _ (by omega)
  refine ⟨fun j j0 j1 => by rw [f _ _ (by omega), e]; exact h.1 j j0 j1, fun r r0 r1 => ?_⟩
  rw [e] at r1
  rw [f _ _ (by omega), f _ _ (by omega), f _ _ (by omega), f _ _ (by omega), f _ _ (by omega), e, e, e, e, e]
  exact h.2 r r0 r1
theorem LOk_keep (h : LOk (W 105)) (g : KN W W') : LOk (W' 105) := by
  have e : W' 105 = W 105 := by funext j; exact g _ _ (by omega)
  rw [e]; exact h
theorem upV_105 {j x : Int} : upV W 105 j x 105 = up (W 105) j x := by
  funext k; unfold upV up
  by_cases e : k = j
  · rw [if_pos ⟨rfl, e⟩, if_pos e]
  · rw [if_neg (fun z => e z.2), if_neg e]
/-- one place of the draft's head -/
theorem DR_up {j x : Int} (h : DR V W) (j0 : 0 ≤ j) (j1 : j < 7) : DR (upV V 38 j x) (upV W 105 j x) := by
  refine ⟨fun i i0 i1 => ?_, fun r r0 r1 => ?_⟩
  · by_cases e : i = j
    · rw [e, up_eq, up_eq]
    · rw [up_col e, up_col e]; exact h.1 i i0 i1
  · rw [up_col (by omega)] at r1
    rw [up_row (b := 39) (by decide), up_row (b := 40) (by decide), up_row (b := 41) (by decide), up_row (b := 42) (by decide), up_row (b := 43) (by decide), up_col (b := 105) (j := 8 + r) (by omega), up_col (b := 105) (j := 32 + r) (by omega), up_col (b := 105) (j := 56 + r) (by omega), up_col (b := 105) (j := 80 + r) (by omega), up_col (b := 105) (j := 104 + r) (by omega)]
    exact h.2 r r0 r1
theorem KOk_rows {j x : Int} (h : ∀ r, 0 ≤ r → r < R 7 → 0 ≤ R (8 + r) ∧ R (8 + r) < R 0 ∧ 0 ≤ R (32 + r) ∧ R (32 + r) < R 0 ∧ R (8 + r) ≠ R (32 + r) ∧ 0 ≤ R (56 + r) ∧ R (56 + r) ≤ 999 ∧ 0 ≤ R (80 + r) ∧ R (80 + r) ≤ 999 ∧ 1 ≤ R (104 + r) ∧ R (104 + r) ≤ 90) (j0 : 1 ≤ j) (j1 : j < 7) : ∀ r, 0 ≤ r → r < up R j x 7 → 0 ≤ up R j x (8 + r) ∧ up R j x (8 + r) < up R j x 0 ∧ 0 ≤ up R j x (32 + r) ∧ up R j x (32 + r) < up R j x 0 ∧ up R j x (8 + r) ≠ up R j x (32 + r) ∧ 0 ≤ up R j x (56 + r) ∧ up R j x (56 + r) ≤ 999 ∧ 0 ≤ up R j x (80 + r) ∧ up R j x (80 + r) ≤ 999 ∧ 1 ≤ up R j x (104 + r) ∧ up R j x (104 + r) ≤ 90 := fun r r0 r1 => by
  rw [upS_ne (by omega)] at r1
  rw [upS_ne (k := 8 + r) (by omega), upS_ne (k := 0) (by omega), upS_ne (k := 32 + r) (by omega), upS_ne (k := 56 + r) (by omega), upS_ne (k := 80 + r) (by omega), upS_ne (k := 104 + r) (by omega)]
  exact h r r0 r1
theorem LOk_0 {x : Int} (h : LOk R) (z : R 0 = 0) (x0 : 2 ≤ x) (x1 : x ≤ 12) : LOk (up R 0 x) := by
  obtain ⟨⟨k1, k2, k3, k4, k5, k6, k7, k8, k9, k10, k11, k12, k13, k14⟩, l⟩ := h
  have e7 := k12 z
  have e1 := l z
  unfold LOk KOk
  simp (disch := decide) only [upS_eq, upS_ne]
  refine ⟨⟨by omega, x1, k3, k4, k5, k6, k7, k8, k9, k10, k11, fun w => by omega, fun _ => by omega, fun r r0 r1 => by omega⟩, fun w => by omega⟩
theorem LOk_1 {x : Int} (h : LOk R) (z : R 0 ≠ 0) (x0 : 0 ≤ x) (x1 : x < R 0) : LOk (up R 1 x) := by
  obtain ⟨⟨k1, k2, k3, k4, k5, k6, k7, k8, k9, k10, k11, k12, k13, k14⟩, l⟩ := h
  have k14' := KOk_rows (x := x) k14 (j := 1) (by decide) (by decide)
  unfold LOk KOk
  refine ⟨⟨?_, ?_, ?_, ?_, ?_, ?_, ?_, ?_, ?_, ?_, ?_, ?_, ?_, k14'⟩, ?_⟩ <;> simp (disch := decide) only [upS_eq, upS_ne] <;> first | assumption | (intro w; omega) | omega
theorem LOk_2 {x : Int} (h : LOk R) (x0 : 1 ≤ x) (x1 : x ≤ 360) : LOk (up R 2 x) := by
  obtain ⟨⟨k1, k2, k3, k4, k5, k6, k7, k8, k9, k10, k11, k12, k13, k14⟩, l⟩ := h
  have k14' := KOk_rows (x := x) k14 (j := 2) (by decide) (by decide)
  unfold LOk KOk
  refine ⟨⟨?_, ?_, ?_, ?_, ?_, ?_, ?_, ?_, ?_, ?_, ?_, ?_, ?_, k14'⟩, ?_⟩ <;> simp (disch := decide) only [upS_eq, upS_ne] <;> assumption
theorem LOk_3 {x : Int} (h : LOk R) (x0 : 0 ≤ x) (x1 : x ≤ 100) : LOk (up R 3 x) := by
  obtain ⟨⟨k1, k2, k3, k4, k5, k6, k7, k8, k9, k10, k11, k12, k13, k14⟩, l⟩ := h
  have k14' := KOk_rows (x := x) k14 (j := 3) (by decide) (by decide)
  unfold LOk KOk
  refine ⟨⟨?_, ?_, ?_, ?_, ?_, ?_, ?_, ?_, ?_, ?_, ?_, ?_, ?_, k14'⟩, ?_⟩ <;> simp (disch := decide) only [upS_eq, upS_ne] <;> assumption
theorem LOk_45 {x y : Int} (h : LOk R) (x0 : 0 ≤ x) (x1 : x ≤ y) (y1 : y ≤ 359) : LOk (up (up R 4 x) 5 y) := by
  obtain ⟨⟨k1, k2, k3, k4, k5, k6, k7, k8, k9, k10, k11, k12, k13, k14⟩, l⟩ := h
  have k14' := KOk_rows (x := y) (KOk_rows (x := x) k14 (j := 4) (by decide) (by decide)) (j := 5) (by decide) (by decide)
  unfold LOk KOk
  refine ⟨⟨?_, ?_, ?_, ?_, ?_, ?_, ?_, ?_, ?_, ?_, ?_, ?_, ?_, k14'⟩, ?_⟩ <;> simp (disch := decide) only [upS_eq, upS_ne] <;> assumption
theorem LOk_6 {x : Int} (h : LOk R) : LOk (up R 6 x) := by
  obtain ⟨⟨k1, k2, k3, k4, k5, k6, k7, k8, k9, k10, k11, k12, k13, k14⟩, l⟩ := h
  have k14' := KOk_rows (x := x) k14 (j := 6) (by decide) (by decide)
  unfold LOk KOk
  refine ⟨⟨?_, ?_, ?_, ?_, ?_, ?_, ?_, ?_, ?_, ?_, ?_, ?_, ?_, k14'⟩, ?_⟩ <;> simp (disch := decide) only [upS_eq, upS_ne] <;> assumption
/-- both have the token at p at hand -/
def CU (V W : Int → Int → Int) (τ : Nat → Int) (N p : Nat) : Prop := CRd V τ N ∧ MRd W τ N ∧ (V 37 1 = 0 ∧ V 37 2 = -1) ∧ Cur V τ N p ∧ p ≤ N ∧ W 101 11 = 0 ∧ Nxt W τ N p ∧ tK τ N p ≠ 12 ∧ tK τ N p ≠ 13
/-- a line's end: where both stand, and the draft -/
def LR (V W V1 W1 : Int → Int → Int) (τ : Nat → Int) (N q : Nat) : Prop := FD V V1 ∧ KD W W1 ∧ KSt V1 W1 τ N q ∧ (V1 37 1 = 0 → DR V1 W1 ∧ LOk (W1 105))
theorem next_CU (H : Sh sh) (h : CU V W τ N p) : ∃ W', M_next 101 (sh, setR W 102 S) = some (0, (sh, setR W' 102 S)) ∧ KN W W' ∧ KSt V W' τ N (p + 1) := by
  obtain ⟨C, M, ⟨v1, v2⟩, Q, hp, w11, X, n12, n13⟩ := h
  obtain ⟨h3, h4, h5⟩ := tE_le (τ := τ) hp
  have ta := tA_le (τ := τ) hp
  have h5 := h5 n12
  obtain ⟨W1, f1, f2, f3, f4, f5⟩ := next_ok (S := S) H M X.2.1 h4
  exact ⟨W1, f5, f1, Or.inl ⟨tE τ N p, by omega, C, KN_MRd f1 M, ⟨v1, v2⟩, Q.2.1, h4, by omega, f2⟩⟩
theorem fail_CU (H : Sh sh) (h : CU V W τ N p) {x : Int} (hx : x ≠ 0) : ∃ V' W', Rd_blame 37 x (sh, V) = some (0, (sh, V')) ∧ M_fails 101 x (sh, setR W 102 S) = some (0, (sh, setR W' 102 S)) ∧ FA V V' ∧ KN W W' ∧ KFF V' W' τ N := by
  obtain ⟨C, M, ⟨v1, v2⟩, Q, hp, w11, X, n12, n13⟩ := h
  obtain ⟨h3, h4, h5⟩ := tE_le (τ := τ) hp
  obtain ⟨V1, b0, b1, b2, b3, b4, b5, b6, b7⟩ := blame_ok (V := V) (x := x) H
  obtain ⟨W1, f1, f2, f3, f4, f5, f6, f7, f8⟩ := fails_ok (S := S) (x := x) H w11
  rw [if_pos v1] at b5 b6
  rw [X.2.2.1, if_neg (by omega)] at f6
  refine ⟨V1, W1, b7, f8, b0, f1, FA_CRd b0 C, KN_MRd f1 M, by omega, by omega, by rw [f7, b6, X.1, Q.1], tE τ N p, by rw [b2]; exact Q.2.1, h4⟩
theorem rg38 (H : Sh sh) {j : Int} {γ : Type} {g : Int → Option γ} : bd (getf 1 j (sh, V) 38) g = g (V 38 j) := bgt (by rw [k_38 H])
theorem rp38 (H : Sh sh) {j x : Int} {γ : Type} {g : Mem → Option γ} : bd (putf 1 j (sh, V) 38 x) g = g (sh, upV V 38 j x) := bpt (by rw [k_38 H])
theorem fr4 (H : Sh sh) (M : MRd W τ N) {γ : Type} {g : Int → Option γ} : bd (getf 12 4 (sh, setR W 102 S) 101) g = g 105 := by rw [bg101 H, q_101_4 M.1]
/-- a fault that stays -/
theorem KFF_V (h : KFF V W τ N) (F : FD V V') (h1 : V' 37 1 = V 37 1) (h2 : V' 37 2 = V 37 2) {p : Nat} (h6 : V' 37 6 = p) (hp : p ≤ N) : KFF V' W τ N := ⟨FD_CRd F h.1, h.2.1, by rw [h1]; exact h.2.2.1, by rw [h1]; exact h.2.2.2.1, by rw [h2]; exact h.2.2.2.2.1, p, h6, hp⟩
/-- a number into a place of the draft -/
theorem put_ok {j y y' : Int} (hs : KSt V1 W1 τ N q) (F : FD V V1) (G : KD W W1) (j0 : 0 ≤ j) (j1 : j < 8) (hd : V1 37 1 = 0 → y = y' ∧ DR (upV V1 38 j y) (upV W1 105 j y) ∧ LOk (up (W1 105) j y)) : LR V W (upV V1 38 j y) (upV W1 105 j y') τ N q := by
  refine ⟨FD_trans F (FD_up (Or.inl ⟨rfl, j0, j1⟩)), KD_trans G KD_up, KSt_up hs (FD_up (Or.inl ⟨rfl, j0, j1⟩)) (fun i => by rw [up_row (by decide)]) KD_up (fun i => by rw [up_row (by decide)]), fun h => ?_⟩
  rw [up_row (by decide)] at h
  obtain ⟨e, d, l⟩ := hd h
  rw [← e]
  exact ⟨d, by rw [upV_105]; exact l⟩
theorem putF_ok {j y : Int} (hs : KFF V1 W1 τ N) (F : FD V V1) (G : KD W W1) (j0 : 0 ≤ j) (j1 : j < 8) : LR V W (upV V1 38 j y) W1 τ N q := by
  refine ⟨FD_trans F (FD_up (Or.inl ⟨rfl, j0, j1⟩)), G, KSt_up (Or.inr hs) (FD_up (Or.inl ⟨rfl, j0, j1⟩)) (fun i => by rw [up_row (by decide)]) KD_refl (fun i => rfl), fun h => ?_⟩
  rw [up_row (by decide)] at h
  exact absurd h hs.2.2.1
theorem towns_ok (H : Sh sh) (h : CU V W τ N p) (D : DR V W) (L : LOk (W 105)) : ∃ y V1 W1, Rd_readTowns 37 (sh, V) = some (y, (sh, V1)) ∧ M_readTowns 101 (sh, setR W 102 S) = some (0, (sh, setR W1 102 S)) ∧ LR V W V1 W1 τ N (p + 1) := by
  obtain ⟨C, M, ⟨v1, v2⟩, Q, hp, w11, X, n12, n13⟩ := id h
  have d0 := D.1 0 (by decide) (by decide)
  have k1 := L.1.1
  unfold Rd_readTowns M_readTowns
  rw [rg37 H, C.2.1, rg38 H, d0, fr4 H M, ml105 H (by decide) (by decide)]
  by_cases z : W 105 0 = 0
  · obtain ⟨W2, a1, a2, a3⟩ := next_CU (S := S) H h
    obtain ⟨y, y', V3, W3, b1, b2, b3, b4, b5, b6, b7⟩ := num_St (S := S) (lo := 2) (hi := 12) (lo' := 2) (hi' := 12) H a3 (fun _ => ⟨rfl, rfl⟩)
    rw [if_pos z, if_neg (by omega), bd_mk, bd_mk, rg37 H, C.2.1, ri37 H, b1, bd2_mk, rp38 H, bg101 H, if_pos w11, bi101 H, a1, bd2_mk, fr4 H (KN_MRd a2 M), bi101 H, b2, bd2_mk, ms105 H (by decide) (by decide)]
    refine ⟨0, _, _, rfl, rfl, put_ok b5 (FA_FD b3) (KD_trans (KN_KD a2) (KN_KD b4)) (by decide) (by decide) (fun hz => ?_)⟩
    obtain ⟨c1, c2, c3, c4⟩ := b6 hz
    have L' := LOk_keep (LOk_keep L a2) b4
    exact ⟨c2, DR_up (DR_keep (DR_keep D FA_refl a2) b3 b4) (by decide) (by decide), LOk_0 L' (by rw [b4 _ _ (by omega), a2 _ _ (by omega)]; exact z) c3 c4⟩
  · obtain ⟨V2, W2, a1, a2, a3, a4, a5⟩ := fail_CU (S := S) H h (x := 4) (by decide)
    obtain ⟨y, y', V3, W3, b1, b2, b3, b4, b5, b6, b7⟩ := num_St (S := S) (lo := 2) (hi := 12) (lo' := 2) (hi' := 12) H (q := 0) (Or.inr a5) (fun _ => ⟨rfl, rfl⟩)
    have nz : W2 101 11 ≠ 0 := by rw [a5.2.2.2.1]; exact a5.2.2.1
    rw [if_neg z, if_pos (by omega), ri37 H, a1, bd2_mk, bd_mk, rg37 H, (FA_CRd a3 C).2.1, ri37 H, b1, bd2_mk, rp38 H, bi101 H, a2, bd2_mk, bd_mk, bg101 H, if_neg nz]
    obtain ⟨g1, g2⟩ := b7 a5.2.2.1
    obtain ⟨-, -, p', e6, ep⟩ := St_base b5
    exact ⟨0, _, _, rfl, rfl, putF_ok (KFF_V a5 (FA_FD b3) g1 g2 e6 ep) (FA_FD (FA_trans a3 b3)) (KN_KD a4) (by decide) (by decide)⟩
theorem home_ok (H : Sh sh) (h : CU V W τ N p) (D : DR V W) (L : LOk (W 105)) : ∃ y V1 W1, Rd_readHome 37 (sh, V) = some (y, (sh, V1)) ∧ M_readHome 101 (sh, setR W 102 S) = some (0, (sh, setR W1 102 S)) ∧ LR V W V1 W1 τ N (p + 1) := by
  obtain ⟨C, M, ⟨v1, v2⟩, Q, hp, w11, X, n12, n13⟩ := id h
  have d0 := D.1 0 (by decide) (by decide)
  have k1 := L.1.1
  have k2 := L.1.2.1
  unfold Rd_readHome M_readHome
  rw [rg37 H, C.2.1, rg38 H, d0, fr4 H M, ml105 H (by decide) (by decide)]
  by_cases z : W 105 0 = 0
  · obtain ⟨V2, W2, a1, a2, a3, a4, a5⟩ := fail_CU (S := S) H h (x := 2) (by decide)
    have nz : W2 101 11 ≠ 0 := by rw [a5.2.2.2.1]; exact a5.2.2.1
    obtain ⟨y, y', V3, W3, b1, b2, b3, b4, b5, b6, b7⟩ := num_St (S := S) (lo := 0) (hi := w32 (V2 38 0 - 1)) (lo' := 2) (hi' := 12) H (q := 0) (Or.inr a5) (fun z => absurd z a5.2.2.1)
    rw [if_pos z, if_pos z, ri37 H, a1, bd2_mk, bd_mk, rg37 H, (FA_CRd a3 C).2.1, rg37 H, (FA_CRd a3 C).2.1, rg38 H, ri37 H, b1, bd2_mk, rp38 H, bi101 H, a2, bd2_mk, bd_mk, bg101 H, if_neg nz]
    obtain ⟨g1, g2⟩ := b7 a5.2.2.1
    obtain ⟨-, -, p', e6, ep⟩ := St_base b5
    exact ⟨0, _, _, rfl, rfl, putF_ok (KFF_V a5 (FA_FD b3) g1 g2 e6 ep) (FA_FD (FA_trans a3 b3)) (KN_KD a4) (by decide) (by decide)⟩
  · obtain ⟨W2, a1, a2, a3⟩ := next_CU (S := S) H h
    have e0 : W2 105 0 = W 105 0 := a2 _ _ (by omega)
    obtain ⟨y, y', V3, W3, b1, b2, b3, b4, b5, b6, b7⟩ := num_St (S := S) (lo := 0) (hi := w32 (W 105 0 - 1)) (lo' := 0) (hi' := w32 (W 105 0 - 1)) H a3 (fun _ => ⟨rfl, rfl⟩)
    rw [if_neg z, if_neg z, bd_mk, bd_mk, rg37 H, C.2.1, rg37 H, C.2.1, rg38 H, d0, ri37 H, b1, bd2_mk, rp38 H, bg101 H, if_pos w11, bi101 H, a1, bd2_mk, fr4 H (KN_MRd a2 M), fr4 H (KN_MRd a2 M), ml105 H (by decide) (by decide), e0, bi101 H, b2, bd2_mk, ms105 H (by decide) (by decide)]
    refine ⟨0, _, _, rfl, rfl, put_ok b5 (FA_FD b3) (KD_trans (KN_KD a2) (KN_KD b4)) (by decide) (by decide) (fun hz => ?_)⟩
    obtain ⟨c1, c2, c3, c4⟩ := b6 hz
    rw [w32_id (by omega) (by omega)] at c4
    have L' := LOk_keep (LOk_keep L a2) b4
    have e3 : W3 105 0 = W 105 0 := by rw [b4 _ _ (by omega), e0]
    exact ⟨c2, DR_up (DR_keep (DR_keep D FA_refl a2) b3 b4) (by decide) (by decide), LOk_1 L' (by rw [e3]; exact z) c3 (by rw [e3]; omega)⟩
/-- the year, and what is late -/
theorem one_ok (H : Sh sh) (h : CU V W τ N p) (D : DR V W) (L : LOk (W 105)) {j : Int} (j0 : 2 ≤ j) (j1 : j ≤ 3) (hl : ∀ {R : Int → Int} {x : Int}, LOk R → lo ≤ x → x ≤ hi → LOk (up R j x)) : ∃ y V1 W1, (bd (getf 3 0 (sh, V) 37) fun x33 => bd (isk 3 (sh, V) 37) fun _ => bd2 (Rd_expectNumber 37 lo hi (sh, V)) fun x34 μ35 => bd (putf 1 j μ35 x33 x34) fun μ36 => some ((0 : Int), μ36)) = some (y, ((sh, V1) : Mem)) ∧ (∃ W2, KN W W2 ∧ M_next 101 (sh, setR W 102 S) = some (0, (sh, setR W2 102 S)) ∧ (bd (getf 12 4 (sh, setR W2 102 S) 101) fun x24 => bd (isk 12 (sh, setR W2 102 S) 101) fun _ => bd2 (M_takes 101 lo hi (sh, setR W2 102 S)) fun x25 μ26 => bd (sta 20 μ26 x24 j x25) fun μ27 => some μ27) = some ((sh, setR W1 102 S) : Mem)) ∧ LR V W V1 W1 τ N (p + 1) := by
  obtain ⟨C, M, ⟨v1, v2⟩, Q, hp, w11, X, n12, n13⟩ := id h
  obtain ⟨W2, a1, a2, a3⟩ := next_CU (S := S) H h
  obtain ⟨y, y', V3, W3, b1, b2, b3, b4, b5, b6, b7⟩ := num_St (S := S) (lo := lo) (hi := hi) (lo' := lo) (hi' := hi) H a3 (fun _ => ⟨rfl, rfl⟩)
  refine ⟨0, upV V3 38 j y, upV W3 105 j y', by rw [rg37 H, C.2.1, ri37 H, b1, bd2_mk, rp38 H], ⟨W2, a2, a1, by rw [fr4 H (KN_MRd a2 M), bi101 H, b2, bd2_mk, ms105 H (by omega) (by omega)]⟩, put_ok b5 (FA_FD b3) (KD_trans (KN_KD a2) (KN_KD b4)) (by omega) (by omega) (fun hz => ?_)⟩
  obtain ⟨c1, c2, c3, c4⟩ := b6 hz
  exact ⟨c2, DR_up (DR_keep (DR_keep D FA_refl a2) b3 b4) (by omega) (by omega), hl (LOk_keep (LOk_keep L a2) b4) c3 c4⟩
theorem summer_ok (H : Sh sh) (h : CU V W τ N p) (D : DR V W) (L : LOk (W 105)) : ∃ y V1 W1, (bd (getf 3 0 (sh, V) 37) fun x17 =>
            bd (isk 3 (sh, V) 37) fun _ =>
            bd2 (Rd_expectNumber 37 0 359 (sh, V)) fun x18 μ19 =>
            bd (putf 1 4 μ19 x17 x18) fun μ20 =>
            bd (isk 3 μ20 37) fun _ =>
            bd2 (Rd_expectWord 37 (-2 - ((5 : Nat) : Int)) μ20) fun _ μ22 =>
            bd (getf 3 0 μ22 37) fun x23 =>
            bd (getf 3 0 μ22 37) fun x24 =>
            bd (getf 1 4 μ22 x24) fun x25 =>
            bd (isk 3 μ22 37) fun _ =>
            bd2 (Rd_expectNumber 37 x25 359 μ22) fun x26 μ27 =>
            bd (putf 1 5 μ27 x23 x26) fun μ28 =>
            some ((0 : Int), μ28)) = some (y, ((sh, V1) : Mem)) ∧ M_readSummer 101 (sh, setR W 102 S) = some (0, (sh, setR W1 102 S)) ∧ LR V W V1 W1 τ N (p + 1) := by
  obtain ⟨C, M, ⟨v1, v2⟩, Q, hp, w11, X, n12, n13⟩ := id h
  obtain ⟨W2, a1, a2, a3⟩ := next_CU (S := S) H h
  obtain ⟨y, y', V3, W3, b1, b2, b3, b4, b5, b6, b7⟩ := num_St (S := S) (lo := 0) (hi := 359) (lo' := 0) (hi' := 359) H a3 (fun _ => ⟨rfl, rfl⟩)
  have F3 : FD V3 (upV V3 38 4 y) := FD_up (Or.inl ⟨rfl, by decide, by decide⟩)
  have s3 : KSt (upV V3 38 4 y) W3 τ N (p + 1) := KSt_up b5 F3 (fun i => by rw [up_row (by decide)]) KD_refl (fun _ => rfl)
  obtain ⟨yw, V4, W4, c1, c2, c3, c4, c5, c6, c7⟩ := word_St (S := S) (n := 5) H s3 (by decide)
  have e4 : V4 38 4 = y := by rw [c3 _ _ (by omega), up_eq]
  have zz : V4 37 1 = 0 → V3 37 1 = 0 := fun z => by have := c6 z; rw [up_row (by decide)] at this; exact this
  obtain ⟨u, u', V5, W5, d1, d2, d3, d4, d5, d6, d7⟩ := num_St (S := S) (lo := y) (hi := 359) (lo' := y') (hi' := 359) H c5 (fun z => ⟨(b6 (zz z)).2.1, rfl⟩)
  have C4 := (St_base c5).1
  have M5 := (St_base d5).2.1
  have G5 : KN W W5 := KN_trans a2 (KN_trans b4 (KN_trans c4 d4))
  have F5 : FD V V5 := FD_trans (FA_FD b3) (FD_trans F3 (FD_trans (FA_FD c3) (FA_FD d3)))
  have F6 : FD V5 (upV V5 38 5 u) := FD_up (Or.inl ⟨rfl, by decide, by decide⟩)
  unfold M_readSummer
  rw [rg37 H, C.2.1, ri37 H, b1, bd2_mk, rp38 H, ri37 H, c1, bd2_mk, rg37 H, C4.2.1, rg37 H, C4.2.1, rg38 H, e4, ri37 H, d1, bd2_mk, rp38 H, bi101 H, a1, bd2_mk, bi101 H, b2, bd2_mk, bi101 H, show (5 : Int) = ((5 : Nat) : Int) from rfl, c2, bd2_mk, bi101 H, d2, bd2_mk, bg101 H]
  by_cases z : W5 101 11 = 0
  · have v5 : V5 37 1 = 0 := by
      rcases d5 with ⟨p', _, r⟩ | r
      · exact r.2.2.1.1
      · rw [r.2.2.2.1] at z; exact absurd z r.2.2.1
    obtain ⟨g1, g2, g3, g4⟩ := d6 v5
    obtain ⟨i1, i2, i3, i4⟩ := b6 (zz g1)
    rw [if_pos z, fr4 H M5, ms105 H (by decide) (by decide), fr4 H (KD_MRd KD_up M5), ms105 H (by decide) (by decide)]
    refine ⟨0, _, _, rfl, rfl, FD_trans F5 F6, KD_trans (KN_KD G5) (KD_trans KD_up KD_up), KSt_up d5 F6 (fun i => by rw [up_row (by decide)]) (KD_trans KD_up KD_up) (fun i => by rw [up_row (by decide), up_row (by decide)]), fun _ => ⟨?_, ?_⟩⟩
    · rw [← i2, ← g2]
      refine DR_up ?_ (by decide) (by decide)
      have D3 : DR (upV V3 38 4 y) (upV W3 105 4 y) := DR_up (DR_keep (DR_keep D FA_refl a2) b3 b4) (by decide) (by decide)
      have G' : KN (upV W3 105 4 y) (upV W5 105 4 y) := fun a j hq => by
        unfold upV
        split
        · rfl
        · rw [d4 a j hq, c4 a j hq]
      exact DR_keep D3 (FA_trans c3 d3) G'
    · rw [upV_105, upV_105]
      exact LOk_45 (LOk_keep L G5) (by omega) (by omega) (by omega)
  · rw [if_neg z]
    have v5 : V5 37 1 ≠ 0 := by
      rcases d5 with ⟨p', _, r⟩ | r
      · exact absurd r.2.2.2.2.2.1 z
      · exact r.2.2.1
    exact ⟨0, _, _, rfl, rfl, FD_trans F5 F6, KN_KD G5, KSt_up d5 F6 (fun i => by rw [up_row (by decide)]) KD_refl (fun _ => rfl), fun w => by rw [up_row (by decide)] at w; exact absurd w v5⟩
end KG4
