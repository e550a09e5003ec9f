/-! PURE: image, restore -/
section IMAGE2
variable {sh : List (Nat × Nat)} {V V' V1 V2 V2' : Int → Int → Int} {r t s c i j k x a b y D D' f p v q h u o z m g w : Int} {S S' R : Int → Int} {n : Nat}
/-- traveller i of the world at w has the numbers of that of v, in V -/
def TCp (U V : Int → Int → Int) (w v i : Int) : Prop := (∀ j, 0 ≤ j → j < 6 → U (w + 9 + 4 * i) j = V (v + 9 + 4 * i) j) ∧ ∀ k, 0 ≤ k → k < 40 → U (V (w + 9 + 4 * i) 6) k = V (V (v + 9 + 4 * i) 6) k ∧ U (V (w + 9 + 4 * i) 7) k = V (V (v + 9 + 4 * i) 7) k ∧ U (V (w + 9 + 4 * i) 8) k = V (V (v + 9 + 4 * i) 8) k
theorem become_L (hw : ISh sh w) (hv : ISh sh v) (pw : IP V w) (pv : IP V v) (hd : w + 33 ≤ v ∨ v + 33 ≤ w) {G : Nat} (hG : G ≤ 6) : ∀ (n z : Nat) (U : Int → Int → Int), z ≤ G → G - z < n → U w 3 = G → U w 1 = w + 7 → (∀ i, 0 ≤ i → i < 6 → U (w + 7) i = w + 9 + 4 * i) → (∀ a j, (a < w ∨ w + 33 ≤ a) → U a j = V a j) → (∀ i j, 0 ≤ i → i < 6 → 6 ≤ j → U (w + 9 + 4 * i) j = V (w + 9 + 4 * i) j) → (∀ i : Int, 0 ≤ i → i < z → TCp U V w v i) → ∃ U', Wo_become_L53 n w v z (sh, U) = some (0, (sh, U')) ∧ (∀ i : Int, 0 ≤ i → i < G → TCp U' V w v i) ∧ (∀ a j, (a < w + 9 ∨ w + 33 ≤ a) → U' a j = U a j) ∧ ∀ i j, 0 ≤ i → i < 6 → 6 ≤ j → U' (w + 9 + 4 * i) j = V (w + 9 + 4 * i) j := by
  intro n
  induction n with
  | zero => intro z _ _ h; omega
  | succ n ih =>
    intro z U hz hn h3 h1 h7 hfr hpt hc
    have kw : (kS sh w).1 = 10 := by rw [hw.1]
    have kv : (kS sh v).1 = 10 := by rw [hv.1]
    rw [Wo_become_L53, bgt kw, h3]
    by_cases g : (z : Int) < (G : Int)
    · obtain ⟨p, p0, p1, p2, p3, p4⟩ := pw.2.2.2.2.2.1 z (by omega) (by omega)
      obtain ⟨q, q0, q1, q2, q3, q4⟩ := pv.2.2.2.2.2.1 z (by omega) (by omega)
      have kz := hw.2.2.2.2.2 z (by omega) (by omega)
      have kp := hw.2.2.2.2.2 p p0 p1
      have lz := hv.2.2.2.2.2 z (by omega) (by omega)
      have lq := hv.2.2.2.2.2 q q0 q1
      obtain ⟨U1, a1, a2, a3, a4, a5⟩ := become_t (V := U) (t1 := v + 9 + 4 * z) (m1 := v + 10 + 4 * q) (s1 := v + 11 + 4 * q) (c1 := v + 12 + 4 * q) (t2 := w + 9 + 4 * z) (m2 := w + 10 + 4 * p) (s2 := w + 11 + 4 * p) (c2 := w + 12 + 4 * p) lz.1 lq.2.1 lq.2.2.1 lq.2.2.2 kz.1 kp.2.1 kp.2.2.1 kp.2.2.2 (by rw [hfr _ _ (by omega)]; exact q2) (by rw [hfr _ _ (by omega)]; exact q3) (by rw [hfr _ _ (by omega)]; exact q4) (by rw [hpt _ _ (by omega) (by omega) (by decide)]; exact p2) (by rw [hpt _ _ (by omega) (by omega) (by decide)]; exact p3) (by rw [hpt _ _ (by omega) (by omega) (by decide)]; exact p4) (by omega) (by omega) (by omega) (by omega) (by omega)
      have sm : ∀ a j, (a < w + 9 ∨ w + 33 ≤ a) → U1 a j = U a j := fun a j ha => a5 a j (by omega) (by omega) (by omega) (by omega)
      have tc : ∀ i : Int, 0 ≤ i → i < ((z + 1 : Nat) : Int) → TCp U1 V w v i := fun i i0 i1 => by
        by_cases e : i = z
        · subst e
          refine ⟨fun j j0 j1 => by rw [a2 j j0 j1]; exact hfr _ _ (by omega), fun k k0 k1 => ?_⟩
          obtain ⟨b1, b2, b3⟩ := a4 k k0 k1
          rw [p2, p3, p4, q2, q3, q4, b1, b2, b3]
          exact ⟨hfr _ _ (by omega), hfr _ _ (by omega), hfr _ _ (by omega)⟩
        · obtain ⟨c1, c2⟩ := hc i i0 (by omega)
          obtain ⟨p', p0', p1', p2', p3', p4'⟩ := pw.2.2.2.2.2.1 i i0 (by omega)
          have hne := pw.2.2.2.2.2.2 i z i0 (by omega) (by omega) (by omega) e
          refine ⟨fun j j0 j1 => by rw [a5 _ _ (by omega) (by omega) (by omega) (by omega)]; exact c1 j j0 j1, fun k k0 k1 => ?_⟩
          rw [a5 _ _ (by omega) (by omega) (by omega) (by omega), a5 _ _ (by omega) (by omega) (by omega) (by omega), a5 _ _ (by omega) (by omega) (by omega) (by omega)]
          exact c2 k k0 k1
      obtain ⟨U', i1, i2, i3, i4⟩ := ih (z + 1) U1 (by omega) (by omega) (by rw [sm _ _ (by omega)]; exact h3) (by rw [sm _ _ (by omega)]; exact h1) (fun i i0 i1 => by rw [sm _ _ (by omega)]; exact h7 i i0 i1) (fun a j ha => by rw [sm a j (by omega)]; exact hfr a j ha) (fun i j i0 i1 hj => by
        by_cases e : i = z
        · subst e; rw [a3 j hj]; exact hpt _ _ i0 i1 hj
        · rw [a5 _ _ (by omega) (by omega) (by omega) (by omega)]; exact hpt i j i0 i1 hj) tc
      have hv1 : U v 1 = v + 7 := by rw [hfr _ _ (by omega)]; exact pv.2.1
      have hv7 : U (v + 7) z = v + 9 + 4 * z := by rw [hfr _ _ (by omega)]; exact pv.2.2.2.2.1 z (by omega) (by omega)
      rw [if_pos g, bgt kw, h1, blt (by rw [hw.2.2.2.1]) (by omega) (by rw [hw.2.2.2.1]; show (z : Int) < 6; omega), h7 z (by omega) (by omega), bgt kv, hv1, blt (by rw [hv.2.2.2.1]) (by omega) (by rw [hv.2.2.2.1]; show (z : Int) < 6; omega), hv7, bit (by rw [kz.1]), a1, bd2_mk, w32_id (by omega) (by omega)]
      exact ⟨U', i1, i2, fun a j ha => by rw [i3 a j ha]; exact sm a j ha, i4⟩
    · have : z = G := by omega
      subst this
      rw [if_neg g]
      exact ⟨U, rfl, hc, fun _ _ _ => rfl, hpt⟩
theorem become_w (hw : ISh sh w) (hv : ISh sh v) (pw : IP V w) (pv : IP V v) (hd : w + 33 ≤ v ∨ v + 33 ≤ w) (C : WC V v S) (O : SOk S D) : ∃ V', Wo_become w v (sh, V) = some (0, (sh, V')) ∧ WC V' w S ∧ IP V' w ∧ ∀ a j, (a < w ∨ w + 33 ≤ a) → V' a j = V a j := by
  obtain ⟨c1, c2, c3, c4, c5, c6, c7⟩ := C
  have o2 := O.2.1
  have o3 := O.2.2.1
  have o4 := O.2.2.2.1
  have z4 := O.1.2.2.2.1
  have kw : (kS sh w).1 = 10 := by rw [hw.1]
  have kv : (kS sh v).1 = 10 := by rw [hv.1]
  obtain ⟨K, k1, k2, k3, k4, k5⟩ := become_k hw hv pw pv hd
  have fK : ∀ a j, (a < w + 1 ∨ w + 6 < a) → K a j = V a j := k5
  generalize hL : cpV (upV (upV (upV K w 3 (S 152)) w 4 (V v 4)) w 5 (V v 5)) (v + 8) 0 (w + 8) 0 720 = L
  have fL : ∀ a j, a ≠ w → a ≠ w + 8 → L a j = K a j := fun a j h1 h2 => by
    rw [← hL]; unfold cpV; rw [if_neg (fun e => h2 e.1), up_row h1, up_row h1, up_row h1]
  have L3 : L w 3 = S 152 := by rw [← hL]; unfold cpV; rw [if_neg (by omega), up_col (by decide), up_col (by decide), up_eq]
  have L4 : L w 4 = V v 4 := by rw [← hL]; unfold cpV; rw [if_neg (by omega), up_col (by decide), up_eq]
  have L5 : L w 5 = V v 5 := by rw [← hL]; unfold cpV; rw [if_neg (by omega), up_eq]
  have L02 : ∀ j, j < 3 → L w j = V w j := fun j hj => by rw [← hL]; unfold cpV; rw [if_neg (by omega), up_col (by omega), up_col (by omega), up_col (by omega)]; exact fK _ _ (by omega)
  have L8 : ∀ d, 0 ≤ d → d < 720 → L (w + 8) d = V (v + 8) d := fun d d0 d1 => by
    rw [← hL]; unfold cpV; rw [if_pos ⟨rfl, by omega, by omega⟩, up_row (by omega), up_row (by omega), up_row (by omega), show 0 + (d - 0) = d by omega]; exact fK _ _ (by omega)
  obtain ⟨U, u1, u2, u3, u4⟩ := become_L hw hv pw pv hd (G := (S 152).toNat) (by omega) FU 0 L (by omega) (by show _ < 1000000; omega) (by rw [L3]; omega) (by rw [L02 _ (by decide)]; exact pw.2.1) (fun i i0 i1 => by rw [fL _ _ (by omega) (by omega), fK _ _ (by omega)]; exact pw.2.2.2.2.1 i i0 i1) (fun a j ha => by rw [fL _ _ (by omega) (by omega)]; exact fK a j (by omega)) (fun i j i0 i1 hj => by rw [fL _ _ (by omega) (by omega)]; exact fK _ _ (by omega)) (fun i i0 i1 => by omega)
  have fU : ∀ a j, (a < w ∨ w + 33 ≤ a) → U a j = V a j := fun a j ha => by rw [u3 a j (by omega), fL _ _ (by omega) (by omega)]; exact fK a j (by omega)
  have Pt6 : ∀ i j, 0 ≤ i → i < 6 → 6 ≤ j → U (w + 9 + 4 * i) j = V (w + 9 + 4 * i) j := u4
  refine ⟨U, ?_, ⟨fun j j0 j1 => ?_, fun q q0 q1 r r0 r1 => ?_, ?_, ?_, ?_, fun d d0 d1 => ?_, fun i i0 i1 => ?_⟩, ⟨?_, ?_, ?_, fun q q0 q1 => ?_, fun i i0 i1 => ?_, fun i i0 i1 => ?_, fun i j i0 i1 j0 j1 hn => ?_⟩, fU⟩
  · unfold Wo_become
    have Kv : ∀ j, K v j = V v j := fun j => fK _ _ (by omega)
    have Kw : ∀ j, K w j = V w j := fun j => fK _ _ (by omega)
    have nvw : v ≠ w := by omega
    rw [bgt kw, pw.1, bgt kv, pv.1, bit (by rw [hw.2.1]), k1, bd2_mk, bgt kv, Kv, c3, bpt kw, bgt kv, up_row nvw, Kv, bpt kw, bgt kv, up_row nvw, up_row nvw, Kv, bpt kw, bgt kv, up_row nvw, up_row nvw, up_row nvw, Kv, pv.2.2.1, bgt kw, up_col (by decide), up_col (by decide), up_col (by decide), Kw, pw.2.2.1, acopy_ok (by rw [hv.2.2.2.2.1]) (by rw [hw.2.2.2.2.1]) (by decide) (by decide) (by decide) (by rw [hv.2.2.2.2.1]; decide) (by rw [hw.2.2.2.2.1]; decide), bd_mk, hL]
    exact u1
  · rw [u3 _ _ (by omega), fL _ _ (by omega) (by omega), k2 j j0 j1]; exact c1 j j0 j1
  · rw [u3 _ _ (by omega), fL _ _ (by omega) (by omega), k4 q q0 q1 r r0 (by omega)]; exact c2 q q0 q1 r r0 r1
  · rw [u3 _ _ (by omega)]; exact L3
  · rw [u3 _ _ (by omega), L4]; exact c4
  · rw [u3 _ _ (by omega), L5]; exact c5
  · rw [u3 _ _ (by omega), L8 d d0 d1]; exact c6 d d0 d1
  · obtain ⟨t1, t2⟩ := u2 i i0 (by omega)
    obtain ⟨s1, s2⟩ := c7 i i0 i1
    have to := o4 i i0 i1
    refine ⟨?_, fun k k0 k1 => ?_⟩
    · rw [t1 0 (by decide) (by decide), t1 1 (by decide) (by decide), t1 2 (by decide) (by decide), t1 3 (by decide) (by decide), t1 4 (by decide) (by decide), t1 5 (by decide) (by decide)]; exact s1
    · have hm := to.2.1
      obtain ⟨b1, b2, b3⟩ := t2 k k0 (by omega)
      rw [Pt6 i 6 i0 (by omega) (by decide), Pt6 i 7 i0 (by omega) (by decide), Pt6 i 8 i0 (by omega) (by decide), b1, b2, b3]; exact s2 k k0 k1
  · rw [u3 _ _ (by omega), L02 _ (by decide)]; exact pw.1
  · rw [u3 _ _ (by omega), L02 _ (by decide)]; exact pw.2.1
  · rw [u3 _ _ (by omega), L02 _ (by decide)]; exact pw.2.2.1
  · rw [u3 _ _ (by omega), fL _ _ (by omega) (by omega), k3 _ (by omega)]; exact pw.2.2.2.1 q q0 q1
  · rw [u3 _ _ (by omega), fL _ _ (by omega) (by omega), fK _ _ (by omega)]; exact pw.2.2.2.2.1 i i0 i1
  · rw [Pt6 i 6 i0 i1 (by decide), Pt6 i 7 i0 i1 (by decide), Pt6 i 8 i0 i1 (by decide)]; exact pw.2.2.2.2.2.1 i i0 i1
  · rw [Pt6 i 6 i0 i1 (by decide), Pt6 j 6 j0 j1 (by decide)]; exact pw.2.2.2.2.2.2 i j i0 i1 j0 j1 hn
/-! the reference -/
/-- a row in which 1629 places from b on are those from a on -/
def cpS (S : Int → Int) (a b n : Int) : Int → Int := fun k => if b ≤ k ∧ k < b + n then S (a + (k - b)) else S k
theorem cpS_s {a b : Int} (h : a + 1629 ≤ b ∨ b + 1629 ≤ a) (z : Nat) (hz : z < 1629) : up (cpS S a b z) (b + z) (cpS S a b z (a + z)) = cpS S a b ((z + 1 : Nat) : Int) := by
  have e : cpS S a b z (a + z) = S (a + z) := by unfold cpS; rw [if_neg (by omega)]
  rw [e]
  funext k; unfold up cpS
  by_cases h1 : k = b + z
  · rw [if_pos h1, if_pos (by omega)]; congr 1; omega
  · rw [if_neg h1]
    by_cases h2 : b ≤ k ∧ k < b + z
    · rw [if_pos h2, if_pos (by omega)]
    · rw [if_neg h2, if_neg (by omega)]
theorem image_M {kk : Int → Int → Mem → Option (Int × Mem)} (H : Sh sh) (P : PM V) (h0 : 0 ≤ i) (h1 : i < 2) : ∀ (n z : Nat), z ≤ 1629 → 1629 - z < n → M_image_L20 kk n 101 i z (sh, setR V 102 (cpS S 0 (1629 * (i + 1)) z)) = kk 101 i (sh, setR V 102 (cpS S 0 (1629 * (i + 1)) 1629)) := by
  intro n
  induction n with
  | zero => intro z _ h; omega
  | succ n ih =>
    intro z hz hn
    rw [M_image_L20]
    by_cases g : (z : Int) < 1629
    · have hs := cpS_s (S := S) (a := 0) (b := 1629 * (i + 1)) (by omega) z (by omega)
      rw [show (0 : Int) + (z : Int) = z by omega] at hs
      rw [if_pos g, bg101 H, bg101 H, blp P H (by omega) (by omega), w32_id (x := i + 1) (by omega) (by omega), w32_id (x := 1629 * (i + 1)) (by omega) (by omega), w32_id (x := 1629 * (i + 1) + z) (by omega) (by omega), bsp P H (by omega) (by omega), hs, w32_id (by omega) (by omega)]
      exact ih (z + 1) (by omega) (by omega)
    · have : z = 1629 := by omega
      subst this
      rw [if_neg g]; rfl
theorem restore_M (H : Sh sh) (P : PM V) (h0 : 0 ≤ i) (h1 : i < 2) : ∀ (n z : Nat), z ≤ 1629 → 1629 - z < n → M_restore_L32 n 101 i z (sh, setR V 102 (cpS S (1629 * (i + 1)) 0 z)) = some (0, (sh, setR V 102 (cpS S (1629 * (i + 1)) 0 1629))) := by
  intro n
  induction n with
  | zero => intro z _ h; omega
  | succ n ih =>
    intro z hz hn
    rw [M_restore_L32]
    by_cases g : (z : Int) < 1629
    · have hs := cpS_s (S := S) (a := 1629 * (i + 1)) (b := 0) (by omega) z (by omega)
      rw [show (0 : Int) + (z : Int) = z by omega] at hs
      rw [if_pos g, bg101 H, bg101 H, w32_id (x := i + 1) (by omega) (by omega), w32_id (x := 1629 * (i + 1)) (by omega) (by omega), w32_id (x := 1629 * (i + 1) + z) (by omega) (by omega), blp P H (by omega) (by omega), bsp P H (by omega) (by omega), hs, w32_id (by omega) (by omega)]
      exact ih (z + 1) (by omega) (by omega)
    · have : z = 1629 := by omega
      subst this
      rw [if_neg g]; rfl
theorem cpS_0 : cpS S a b 0 = S := by funext k; unfold cpS; rw [if_neg (by omega)]
theorem M_image_x (H : Sh sh) (P : PM V) (h0 : 0 ≤ i) (h1 : i < 2) : M_image 101 i (sh, setR V 102 S) = some (0, (sh, setR (upV (upV V 101 0 0) 103 i 1) 102 (cpS S 0 (1629 * (i + 1)) 1629))) := by
  have P1 := PM0 P
  unfold M_image
  have := image_M (S := S) (kk := fun x4 x5 μ6 => bd (getf 12 2 μ6 x4) fun x7 => bd (sta 23 μ6 x7 x5 1) fun μ8 => some (0, μ8)) H P1 h0 h1 FU 0 (by omega) (by decide)
  rw [show ((0 : Nat) : Int) = 0 from rfl, cpS_0] at this
  rw [bp101 H, M_within_b, B_t (by omega), if_neg (by decide), this, bg101 H, q_101_2 P1, ms103 H h0 h1]
theorem M_restore_x (H : Sh sh) (P : PM V) (h0 : 0 ≤ i) (h1 : i < 2) : M_restore 101 i (sh, setR V 102 S) = if V 103 i = 0 then some (-5, (sh, setR (upV V 101 0 0) 102 S)) else some (0, (sh, setR (upV V 101 0 0) 102 (cpS S (1629 * (i + 1)) 0 1629))) := by
  have P1 := PM0 P
  unfold M_restore
  have := restore_M (S := S) H P1 h0 h1 FU 0 (by omega) (by decide)
  rw [show ((0 : Nat) : Int) = 0 from rfl, cpS_0] at this
  rw [bp101 H, M_within_b, B_t (by omega), if_neg (by decide), bg101 H, q_101_2 P1, ml103 H h0 h1, up_row (by decide), this]
theorem M_image_no (H : Sh sh) (h : ¬ (0 ≤ i ∧ i < 2)) : M_image 101 i (sh, setR V 102 S) = some (-2, (sh, setR (upV V 101 0 0) 102 S)) := by
  unfold M_image; rw [bp101 H, M_within_b, B_f (by omega), if_pos rfl]
theorem M_restore_no (H : Sh sh) (h : ¬ (0 ≤ i ∧ i < 2)) : M_restore 101 i (sh, setR V 102 S) = some (-2, (sh, setR (upV V 101 0 0) 102 S)) := by
  unfold M_restore; rw [bp101 H, M_within_b, B_f (by omega), if_pos rfl]
end IMAGE2
