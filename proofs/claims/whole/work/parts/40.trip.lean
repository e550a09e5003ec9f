/-! PURE: goings one behind the other, the reference's side -/
section TRIP
variable {sh : List (Nat × Nat)} {V V' V1 V2 V2' : Int → Int → Int} {r t m s c i j d k x a b y D f p w bk v : Int} {S S' R : Int → Int} {n : Nat} {ρ : Nat → Int}
/-- why a going by a number can't be; 0: it can -/
def rfW (S : Int → Int) (i v : Int) : Int := if 0 ≤ v ∧ v < S 7 then sRefuse S i v else -2
def stp (bk : Int) (S : Int → Int) (i r : Int) : Int → Int := if bk = 0 then sStep S i r else goS S i r
def trS (ρ : Nat → Int) (bk : Int) (S : Int → Int) (i : Int) : Nat → Int → Int
  | 0 => S
  | k + 1 => stp bk (trS ρ bk S i k) i (ρ k)
def wnt (w : Nat → Int) : Nat → Nat → Nat
  | 0, k => k
  | m + 1, k => if w k = 0 then wnt w m (k + 1) else k
theorem wnt_spec {w : Nat → Int} : ∀ (m z : Nat), z ≤ wnt w m z ∧ wnt w m z ≤ z + m ∧ (∀ j, z ≤ j → j < wnt w m z → w j = 0) ∧ (wnt w m z < z + m → w (wnt w m z) ≠ 0) := by
  intro m
  induction m with
  | zero => intro z; simp only [wnt]; exact ⟨by omega, by omega, fun j _ _ => by omega, fun h => by omega⟩
  | succ m ih =>
    intro z
    rw [wnt]
    by_cases h : w z = 0
    · rw [if_pos h]
      obtain ⟨h1, h2, h3, h4⟩ := ih (z + 1)
      refine ⟨by omega, by omega, fun j g0 g1 => ?_, fun g => h4 (by omega)⟩
      by_cases e : j = z
      · rw [e]; exact h
      · exact h3 j (by omega) g1
    · rw [if_neg h]; exact ⟨by omega, by omega, fun j _ _ => by omega, fun _ => h⟩
/-- a world in which i can go -/
def WI (S : Int → Int) (D i : Int) : Prop := KOk S ∧ TOk S D i ∧ 0 ≤ i ∧ i < 6
theorem rfW_0 (h : rfW S i v = 0) : (0 ≤ v ∧ v < S 7) ∧ sRefuse S i v = 0 := by
  unfold rfW at h
  by_cases q : 0 ≤ v ∧ v < S 7
  · rw [if_pos q] at h; exact ⟨q, h⟩
  · rw [if_neg q] at h; omega
theorem rfW_neg (h : rfW S i v ≠ 0) : rfW S i v < 0 := by
  unfold rfW sRefuse at h ⊢
  repeat' split
  all_goals (first | omega | (exfalso; simp_all))
theorem stp_low (W : WI S D i) (hr : rfW S i v = 0) (hj : j < 153) : stp bk S i v j = S j := by
  obtain ⟨K, T, h0, h1⟩ := W
  obtain ⟨-, h⟩ := rfW_0 hr
  have hx : ¬ XS (fun z => z = i) j := XS_low hj
  unfold stp
  split
  · exact sStep_fr h0 h1 T.1 T.2.1 (sRefuse_m h T.2.1) hx
  · exact goS_fr h0 h1 T h hx
theorem WI_stp (W : WI S D i) (hr : rfW S i v = 0) : WI (stp bk S i v) (D + 90) i := by
  have hl := fun j hj => stp_low (bk := bk) W hr (j := j) hj
  obtain ⟨K, T, h0, h1⟩ := W
  obtain ⟨hv, h⟩ := rfW_0 hr
  refine ⟨KOk_of K (fun j hj => hl j (by omega)), ?_, h0, h1⟩
  have T1 := TOk_step K T h h0 h1 hv.1 hv.2
  unfold stp
  split
  · exact T1
  · exact TOk_congr T1 (fun j hj => goS_low hj T.2.2.1) h0 h1
theorem trS_WI (W : WI S D i) : ∀ z : Nat, (∀ j, j < z → rfW (trS ρ bk S i j) i (ρ j) = 0) → WI (trS ρ bk S i z) (D + 90 * z) i := by
  intro z
  induction z with
  | zero => intro _; simpa [trS] using W
  | succ z ih =>
    intro h
    have := WI_stp (bk := bk) (ih (fun j hj => h j (by omega))) (h z (by omega))
    rw [show D + 90 * (z : Int) + 90 = D + 90 * ((z + 1 : Nat) : Int) by omega] at this
    exact this
theorem trS_low (W : WI S D i) : ∀ z : Nat, (∀ j, j < z → rfW (trS ρ bk S i j) i (ρ j) = 0) → ∀ j, j < 153 → trS ρ bk S i z j = S j := by
  intro z
  induction z with
  | zero => intro _ j _; rfl
  | succ z ih =>
    intro h j hj
    have hh := fun j hj => h j (Nat.lt_succ_of_lt hj)
    rw [trS, stp_low (trS_WI W z hh) (h z (by omega)) hj]
    exact ih hh j hj
theorem up_up : upV (upV V a i x) a i y = upV V a i y := by
  funext b j; unfold upV; split <;> rfl
theorem M_goes_x (H : Sh sh) (P : PM V) (W : WI S D i) (hD : D < 1900000000) (hr : rfW S i r = 0) : M_goes 101 i r (sh, setR V 102 S) = some (sAns S i r, (sh, setR V 102 (stp (V 101 15) S i r))) := by
  obtain ⟨K, T, h0, h1⟩ := W
  obtain ⟨hv, h⟩ := rfW_0 hr
  exact M_goes_eq H P (by omega) K T hv.1 hv.2 h0 h1 h
theorem M_refuses_x (H : Sh sh) (P : PM V) (W : WI S D i) (hD : D < 1900000000) (h0 : 0 ≤ r) (h1 : r < S 7) : M_refuses 101 i r (sh, setR V 102 S) = some (sRefuse S i r, (sh, setR V 102 S)) := by
  obtain ⟨K, T, g0, g1⟩ := W
  exact M_refuses_eq H P (by omega) T h0 (by have := K.2.2.2.1; omega) g0 g1
theorem goesAll_L (H : Sh sh) (W : WI S D i) (h0 : 0 ≤ w) (h1 : w < 4) {N : Nat} (hN : N ≤ 40) (hD : D < 1800000000) : ∀ (n z : Nat) (V : Int → Int → Int), z ≤ N → N - z < n → PM V → V 129 w = N → (∀ k : Nat, k < N → V 130 (40 * w + k) = ρ k) → (∀ j, j < z → rfW (trS ρ (V 101 15) S i j) i (ρ j) = 0) → M_goesAll_L2 (fun x1 x2 μ3 => bd (putf 12 17 μ3 x1 0) fun μ4 => bd (getf 12 50 μ4 x1) fun x5 => bd (lda 20 μ4 x5 x2) fun x6 => some (x6, μ4)) n 101 i w z (sh, setR V 102 (trS ρ (V 101 15) S i z)) = some (((wnt (fun j => rfW (trS ρ (V 101 15) S i j) i (ρ j)) (N - z) z : Nat) : Int), (sh, setR (upV V 101 17 (if wnt (fun j => rfW (trS ρ (V 101 15) S i j) i (ρ j)) (N - z) z = N then 0 else rfW (trS ρ (V 101 15) S i (wnt (fun j => rfW (trS ρ (V 101 15) S i j) i (ρ j)) (N - z) z)) i (ρ (wnt (fun j => rfW (trS ρ (V 101 15) S i j) i (ρ j)) (N - z) z)))) 102 (trS ρ (V 101 15) S i (wnt (fun j => rfW (trS ρ (V 101 15) S i j) i (ρ j)) (N - z) z)))) := by
  intro n
  induction n with
  | zero => intro z _ _ h; omega
  | succ n ih =>
    intro z V hz hn P hw hρ hj
    have Wz := trS_WI W z hj
    have e7 := trS_low W z hj 7 (by decide)
    have z3 := Wz.1.2.2.1
    have z4 := Wz.1.2.2.2.1
    rw [M_goesAll_L2, bg101 H, q_101_50 P, ml129 H h0 h1, hw]
    by_cases h : (z : Int) < (N : Int)
    · have eN : N - z = (N - z - 1) + 1 := by omega
      have hρz := hρ z (by omega)
      rw [eN, wnt]
      rw [if_pos h, bg101 H, q_101_51 P, w32_id (x := 40 * w) (by omega) (by omega), w32_id (x := 40 * w + z) (by omega) (by omega), ml130 H (by omega) (by omega), hρz, bi101 H, M_isRoad_b H P z3 z4]
      have hy : ∀ f : Int → Mem → Option (Int × Mem), bd2 (if B (0 ≤ ρ z ∧ ρ z < trS ρ (V 101 15) S i z 7) = 0 then some (-2, (sh, setR V 102 (trS ρ (V 101 15) S i z))) else bd (isk 12 (sh, setR V 102 (trS ρ (V 101 15) S i z)) 101) fun _ => bd2 (M_refuses 101 i (w32 (ρ z)) (sh, setR V 102 (trS ρ (V 101 15) S i z))) fun x9 μ10 => some (x9, μ10)) f = f (rfW (trS ρ (V 101 15) S i z) i (ρ z)) (sh, setR V 102 (trS ρ (V 101 15) S i z)) := by
        intro f
        unfold rfW
        by_cases q : 0 ≤ ρ z ∧ ρ z < trS ρ (V 101 15) S i z 7
        · rw [B_t q, if_neg (by decide), bi101 H, w32_id (by omega) (by omega), M_refuses_x H P Wz (by omega) q.1 q.2, bd2_mk, bd2_mk, if_pos q]
        · rw [B_f q, if_pos rfl, bd2_mk, if_neg q]
      rw [hy, bp101 H, bg101 H, up_eq]
      have P' : PM (upV V 101 17 (rfW (trS ρ (V 101 15) S i z) i (ρ z))) := by rw [PM_fld (by decide)]; exact P
      by_cases q : rfW (trS ρ (V 101 15) S i z) i (ρ z) = 0
      · have hz' := (rfW_0 q).1
        rw [if_pos q, if_pos q, bi101 H, w32_id (x := ρ z) (by omega) (by omega), M_goes_x H P' Wz (by omega) q, bd2_mk, up_col (by decide), w32_id (by omega) (by omega)]
        have hi := ih (z + 1) (upV V 101 17 (rfW (trS ρ (V 101 15) S i z) i (ρ z))) (by omega) (by omega) P' (by rw [up_row (by decide)]; exact hw) (fun k hk => by rw [up_row (by decide)]; exact hρ k hk) (fun j hj' => by
          rw [up_col (by decide)]
          by_cases e : j = z
          · rw [e]; exact q
          · exact hj j (by omega))
        rw [up_col (by decide), up_up, show N - (z + 1) = N - z - 1 by omega] at hi
        exact hi
      · rw [if_neg q, if_neg q, if_neg (by omega)]
    · have : z = N := by omega
      subst this
      rw [if_neg h, Nat.sub_self, wnt, if_pos rfl, bp101 H, bg101 H, up_col (by decide), q_101_50 P, ml129 H h0 h1, up_row (by decide), hw]
/-- how far a trip comes, and why it ends -/
def tpK (ρ : Nat → Int) (bk : Int) (S : Int → Int) (i : Int) (N : Nat) : Nat := wnt (fun j => rfW (trS ρ bk S i j) i (ρ j)) N 0
def tpW (ρ : Nat → Int) (bk : Int) (S : Int → Int) (i : Int) (N : Nat) : Int := if tpK ρ bk S i N = N then 0 else rfW (trS ρ bk S i (tpK ρ bk S i N)) i (ρ (tpK ρ bk S i N))
theorem tpK_spec {N : Nat} : tpK ρ bk S i N ≤ N ∧ (∀ j, j < tpK ρ bk S i N → rfW (trS ρ bk S i j) i (ρ j) = 0) ∧ (tpK ρ bk S i N < N → rfW (trS ρ bk S i (tpK ρ bk S i N)) i (ρ (tpK ρ bk S i N)) ≠ 0) := by
  obtain ⟨h1, h2, h3, h4⟩ := wnt_spec (w := fun j => rfW (trS ρ bk S i j) i (ρ j)) N 0
  exact ⟨by unfold tpK; omega, fun j hj => h3 j (by omega) hj, fun h => h4 (by unfold tpK at h; omega)⟩
theorem goesAll_eq {N : Nat} (H : Sh sh) (P : PM V) (W : WI S D i) (h0 : 0 ≤ w) (h1 : w < 4) (hN : N ≤ 40) (hD : D < 1800000000) (hw : V 129 w = N) (hρ : ∀ k : Nat, k < N → V 130 (40 * w + k) = ρ k) : M_goesAll 101 i w (sh, setR V 102 S) = some (((tpK ρ (V 101 15) S i N : Nat) : Int), (sh, setR (upV V 101 17 (tpW ρ (V 101 15) S i N)) 102 (trS ρ (V 101 15) S i (tpK ρ (V 101 15) S i N)))) := by
  unfold M_goesAll
  have := goesAll_L (ρ := ρ) H W h0 h1 hN hD FU 0 V (by omega) (by show _ < 1000000; omega) P hw hρ (fun j hj => by omega)
  exact this
theorem goesAll_b {N : Nat} (H : Sh sh) (P : PM V) (W : WI S D i) (h0 : 0 ≤ w) (h1 : w < 4) (hN : N ≤ 40) (hD : D < 1800000000) (hw : V 129 w = N) (hρ : ∀ k : Nat, k < N → V 130 (40 * w + k) = ρ k) {γ : Type} {fZ : Int → Mem → Option γ} : bd2 (M_goesAll 101 i w (sh, setR V 102 S)) fZ = fZ (((tpK ρ (V 101 15) S i N : Nat) : Int)) (sh, setR (upV V 101 17 (tpW ρ (V 101 15) S i N)) 102 (trS ρ (V 101 15) S i (tpK ρ (V 101 15) S i N))) := by
  rw [goesAll_eq] <;> first | assumption | rfl
end TRIP
